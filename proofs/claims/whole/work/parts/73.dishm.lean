/-! ===== PURE PART: lines of the lists, read by the reference ===== -/
section DSM
variable {B : Nat → Nat} {n N : Nat} {M : Mem}
theorem ixm (a k : Nat) : nI a * nI k = nI (a * k) := nI_mul a k
theorem nx_yes {ty : Nat → Nat} {α : Type} {w i : Nat} {a : α} (h : ty i = w) : nxG ty w i a = .inr (i + 1, a) := by unfold nxG; rw [if_pos h]
theorem aKind_ok (hN : okN B n N) {i rw' nk : Nat} (h : RSm B n 0 i M) (hi : i ≤ N) (hw : tyT B n i = 300) (h15 : M 155 15 = nI rw') (hr : rw' < 6) : Wq (f_X11_aKind M) (PwC B n N 0 (2 * rw') (rowOK 0 (2 * rw')) M (rowS (tyT B n) (vlT B n) 0 nk i)) := by
  have ix0 : 2 * nI rw' = nI (2 * rw') := nI_mul 2 rw'
  have ix1 : nI (2 * rw') + 1 = nI (2 * rw' + 1) := nI_inc _
  unfold f_X11_aKind
  show Wq _ (PwC B n N 0 (2 * rw') (rowOK 0 (2 * rw')) M (bnR (nuG (tyT B n) (vlT B n) 1 100 (i + 1) []) (fun j c => bnR (nxG (tyT B n) 315 j c) (fun j c => bnR (nuG (tyT B n) (vlT B n) 1 31 j c) (fun j c => .inr (j, (c, ([] : List (Nat × Nat)))))))))
  rw [h15, ix0]
  have t1 := told_ok (b := 2 * rw') (cs := []) (v := 7) (wd := 300) (lo := 1) (hs := 100) (x := nI (2 * rw')) (y := 7) (a := 1) (c := 99) hN (by omega) h hi (fun j hj => absurd hj (Nat.not_lt_zero _)) rfl (by show 2 * rw' + 0 < 120; omega) rfl (by omega) (by omega) (fun t ht => (tr0 t ht).1) rfl rfl (by omega) (by omega)
  rw [nx_yes hw, bnR_r] at t1
  refine pw_b2 t1 (Fw2.refl _ _) ?_
  intro j c M1 e1 a1 a2 a3 a4
  have l1 : c.length = 1 := nu_len e1
  rw [a2.2.1 15 (by omega), h15, ix0, ix1]
  have t2 := told_ok (b := 2 * rw') (cs := c) (v := 8) (wd := 315) (lo := 1) (hs := 31) (x := nI (2 * rw' + 1)) (y := 8) (a := 1) (c := 30) hN (by omega) a3 a1 a4 (by rw [l1]) (by rw [l1]; omega) rfl (by omega) (by omega) (fun t ht => (tr0 t ht).2) rfl rfl (by omega) (by omega)
  rw [show bnR (nxG (tyT B n) 315 j c) (fun j c => bnR (nuG (tyT B n) (vlT B n) 1 31 j c) (fun j c => (.inr (j, (c, ([] : List (Nat × Nat)))) : Rs Rw))) = bnR (bnR (nxG (tyT B n) 315 j c) (fun j c => nuG (tyT B n) (vlT B n) 1 31 j c)) (fun j c => .inr (j, (c, ([] : List (Nat × Nat))))) from by rw [bnR_bnR]]
  refine pw_b2 t2 a2 ?_
  intro j2 c2 M2 e2 b1 b2 b3 b4
  have l2 : c2.length = 2 := by
    cases hx : nxG (tyT B n) 315 j c with
    | inl e => rw [hx, bnR_l] at e2; cases e2
    | inr q =>
      obtain ⟨j', c'⟩ := q
      rw [hx, bnR_r] at e2
      have := nu_len e2
      rw [nx_eq hx] at this
      omega
  exact wq_some ⟨b2, rfl, b1, b3, by unfold rowOK; rw [if_neg (by decide)]; exact ⟨l2, b4⟩⟩
theorem bn_nn {ty vl : Nat → Nat} {wd lo hs j j2 : Nat} {c c2 : List Int32} (e2 : bnR (nxG ty wd j c) (fun j c => nuG ty vl lo hs j c) = .inr (j2, c2)) : c2.length = c.length + 1 := by
  cases hx : nxG ty wd j c with
  | inl e => rw [hx, bnR_l] at e2; cases e2
  | inr q =>
    obtain ⟨j', c'⟩ := q
    rw [hx, bnR_r] at e2
    have := nu_len e2
    rw [nx_eq hx] at this
    exact this
theorem bn_as {ty vl : Nat → Nat} {wd lo hs j : Nat} {c : List Int32} (g : Nat → List Int32 → Rs Rw) : bnR (nxG ty wd j c) (fun j c => bnR (nuG ty vl lo hs j c) g) = bnR (bnR (nxG ty wd j c) (fun j c => nuG ty vl lo hs j c)) g := by rw [bnR_bnR]
theorem aFeast_ok (hN : okN B n N) {i rw' nk : Nat} (h : RSm B n 2 i M) (hi : i ≤ N) (hw : tyT B n i = 316) (h15 : M 155 15 = nI rw') (hr : rw' < 12) (hk : M 156 80 = nI nk) (hk6 : nk ≤ 6) : Wq (f_X11_aFeast M) (PwC B n N 2 (3 * rw') (rowOK 2 (3 * rw')) M (rowS (tyT B n) (vlT B n) 2 nk i)) := by
  have ix0 : 3 * nI rw' = nI (3 * rw') := nI_mul 3 rw'
  have ix1 : nI (3 * rw') + 1 = nI (3 * rw' + 1) := nI_inc _
  have ix2 : nI (3 * rw') + 2 = nI (3 * rw' + 2) := nI_add _ 2
  unfold f_X11_aFeast
  show Wq _ (PwC B n N 2 (3 * rw') (rowOK 2 (3 * rw')) M (bnR (nuG (tyT B n) (vlT B n) 0 1000 (i + 1) []) (fun j c => bnR (nxG (tyT B n) 317 j c) (fun j c => bnR (nuG (tyT B n) (vlT B n) 0 nk j c) (fun j c => bnR (nxG (tyT B n) 318 j c) (fun j c => bnR (nuG (tyT B n) (vlT B n) 1 21 j c) (fun j c => .inr (j, (c, ([] : List (Nat × Nat)))))))))))
  rw [h15, ix0]
  have t1 := told_ok (b := 3 * rw') (cs := []) (v := 9) (wd := 316) (lo := 0) (hs := 1000) (x := nI (3 * rw')) (y := 9) (a := 0) (c := 999) hN (by omega) h hi (fun j hj => absurd hj (Nat.not_lt_zero _)) rfl (by show 3 * rw' + 0 < 120; omega) rfl (by omega) (by omega) (fun t ht => (tr2 t ht).1) rfl rfl (by omega) (by omega)
  rw [nx_yes hw, bnR_r] at t1
  refine pw_b2 t1 (Fw2.refl _ _) ?_
  intro j c M1 e1 a1 a2 a3 a4
  have l1 : c.length = 1 := nu_len e1
  rw [a2.2.1 15 (by omega), h15, ix0, ix1, a2.1 156 (by omega) (by omega), hk]
  have t2 := told_ok (b := 3 * rw') (cs := c) (v := 10) (wd := 317) (lo := 0) (hs := nk) (x := nI (3 * rw' + 1)) (y := 10) (a := 0) (c := nI nk - 1) hN (by omega) a3 a1 a4 (by rw [l1]) (by rw [l1]; omega) rfl (by omega) (by omega) (fun t ht => (tr2 t ht).2.1) rfl (pred_hs rfl hk6) (by omega) (by omega)
  rw [bn_as]
  refine pw_b2 t2 a2 ?_
  intro j2 c2 M2 e2 b1 b2 b3 b4
  have l2 := bn_nn e2
  rw [b2.2.1 15 (by omega), h15, ix0, ix2]
  have t3 := told_ok (b := 3 * rw') (cs := c2) (v := 11) (wd := 318) (lo := 1) (hs := 21) (x := nI (3 * rw' + 2)) (y := 11) (a := 1) (c := 20) hN (by omega) b3 b1 b4 (by rw [l2, l1]) (by rw [l2, l1]; omega) rfl (by omega) (by omega) (fun t ht => (tr2 t ht).2.2) rfl rfl (by omega) (by omega)
  rw [bn_as]
  refine pw_b2 t3 b2 ?_
  intro j3 c3 M3 e3 d1 d2 d3 d4
  have l3 := bn_nn e3
  exact wq_some ⟨d2, rfl, d1, d3, by unfold rowOK; rw [if_neg (by decide)]; exact ⟨by show c3.length = 3; omega, d4⟩⟩
theorem aWant_ok (hN : okN B n N) {i rw' nk : Nat} (h : RSm B n 3 i M) (hi : i ≤ N) (hw : tyT B n i = 319) (h15 : M 155 15 = nI rw') (hr : rw' < 12) (hk : M 156 80 = nI nk) (hk6 : nk ≤ 6) : Wq (f_X11_aWant M) (PwC B n N 3 (4 * rw') (rowOK 3 (4 * rw')) M (rowS (tyT B n) (vlT B n) 3 nk i)) := by
  have ix0 : 4 * nI rw' = nI (4 * rw') := nI_mul 4 rw'
  have ix1 : nI (4 * rw') + 1 = nI (4 * rw' + 1) := nI_inc _
  have ix2 : nI (4 * rw') + 2 = nI (4 * rw' + 2) := nI_add _ 2
  have ix3 : nI (4 * rw') + 3 = nI (4 * rw' + 3) := nI_add _ 3
  unfold f_X11_aWant
  show Wq _ (PwC B n N 3 (4 * rw') (rowOK 3 (4 * rw')) M (bnR (nuG (tyT B n) (vlT B n) 0 nk (i + 1) []) (fun j c => bnR (nuG (tyT B n) (vlT B n) 1 100 j c) (fun j c => bnR (nxG (tyT B n) 320 j c) (fun j c => bnR (nuG (tyT B n) (vlT B n) 0 1000 j c) (fun j c => bnR (nxG (tyT B n) 321 j c) (fun j c => bnR (nuG (tyT B n) (vlT B n) 0 1000 j c) (fun j c => .inr (j, (c, ([] : List (Nat × Nat))))))))))))
  rw [h15, hk, ix0, ix1, ix2, ix3]
  have t1 := told_ok (b := 4 * rw') (cs := []) (v := 12) (wd := 319) (lo := 0) (hs := nk) (x := nI (4 * rw')) (y := 12) (a := 0) (c := nI nk - 1) hN (by omega) h hi (fun j hj => absurd hj (Nat.not_lt_zero _)) rfl (by show 4 * rw' + 0 < 120; omega) rfl (by omega) (by omega) (fun t ht => (tr3 t ht).1) rfl (pred_hs rfl hk6) (by omega) (by omega)
  rw [nx_yes hw, bnR_r] at t1
  refine pw_b2 t1 (Fw2.refl _ _) ?_
  intro j c M1 e1 a1 a2 a3 a4
  have l1 : c.length = 1 := nu_len e1
  refine pw_b2 (number_ok (b := 4 * rw') (cs := c) (lo := 1) (hs := 100) (x := nI (4 * rw' + 1)) (a := 1) (c := 99) hN (by omega) a3 a1 a4 (by rw [l1]) (by rw [l1]; omega) rfl rfl (by omega) (by omega)) a2 ?_
  intro j2 c2 M2 e2 b1 b2 b3 b4
  have l2 := nu_len e2
  have t3 := told_ok (b := 4 * rw') (cs := c2) (v := 13) (wd := 320) (lo := 0) (hs := 1000) (x := nI (4 * rw' + 2)) (y := 13) (a := 0) (c := 999) hN (by omega) b3 b1 b4 (by rw [l2, l1]) (by rw [l2, l1]; omega) rfl (by omega) (by omega) (fun t ht => (tr3 t ht).2.1) rfl rfl (by omega) (by omega)
  rw [bn_as]
  refine pw_b2 t3 b2 ?_
  intro j3 c3 M3 e3 d1 d2 d3 d4
  have l3 := bn_nn e3
  have t4 := told_ok (b := 4 * rw') (cs := c3) (v := 14) (wd := 321) (lo := 0) (hs := 1000) (x := nI (4 * rw' + 3)) (y := 14) (a := 0) (c := 999) hN (by omega) d3 d1 d4 (by rw [l3, l2, l1]) (by rw [l3, l2, l1]; omega) rfl (by omega) (by omega) (fun t ht => (tr3 t ht).2.2) rfl rfl (by omega) (by omega)
  rw [bn_as]
  refine pw_b2 t4 d2 ?_
  intro j4 c4 M4 e4 f1 f2 f3 f4
  have l4 := bn_nn e4
  exact wq_some ⟨f2, rfl, f1, f3, by unfold rowOK; rw [if_neg (by decide)]; exact ⟨by show c4.length = 4; omega, f4⟩⟩
def dOK (b : Nat) (w0 : Int32) (ps : List (Nat × Nat)) (M : Mem) : Prop := M 162 b = w0 ∧ ∀ i, i < ps.length → M 162 (b + 2 + 2 * i) = nI (ps.getD i (0, 0)).1 ∧ M 162 (b + 3 + 2 * i) = nI (ps.getD i (0, 0)).2
theorem had_ok {Ms : Mem} {b v : Nat} {w0 : Int32} {ps : List (Nat × Nat)} {rw' : Nat} (hb : b = 10 * rw') (hr : rw' < 12) (hs : Ms 155 15 = nI rw') (hp4 : ps.length ≤ 4) (hps : ∀ i, i < ps.length → (ps.getD i (0, 0)).1 < 10000) (hd : dOK b w0 ps M) (h20 : M 155 20 = nI v) (hv : v ≤ 9999) : lp (fun s => w_X11_aDish_38 Ms (nI ps.length) M s.1 s.2) FU (0, 0) = some (if hadP ps v = true then 1 else 0) := by
  have ix0 : 10 * nI rw' = nI (10 * rw') := nI_mul 10 rw'
  have ix2 : nI (10 * rw') + 2 = nI (10 * rw' + 2) := nI_add _ 2
  have key := lp_inv (body := fun s : Int32 × Int32 => w_X11_aDish_38 Ms (nI ps.length) M s.1 s.2) (fun k s => s.2 = nI k ∧ ((s.1 = 0 ∧ ∀ j, j < k → (ps.getD j (0, 0)).1 ≠ v) ∨ (s.1 = 1 ∧ hadP ps v = true))) ps.length (Q := fun r => r = if hadP ps v = true then 1 else 0) (by
    rintro k ⟨i7, i8⟩ hk ⟨h8, hor⟩
    simp only at h8 hor
    subst h8
    unfold w_X11_aDish_38
    try simp only
    rcases Nat.lt_or_ge k ps.length with z | z
    · rw [if_neg (by rw [nI_le_iff (by omega) (by omega)]; omega)]
      rcases hor with ⟨h0, hm⟩ | ⟨h1, hh⟩
      · subst h0
        have e2 : 2 * nI k = nI (2 * k) := nI_mul 2 k
        have hk1 := hps k z
        rw [if_pos rfl, hs, ix0, ix2, e2, nI_add, rd_nI la_162 (by omega) (by omega), b1_some, h20]
        have := (hd.2 k z).1
        rw [hb] at this
        rw [this]
        by_cases e : (ps.getD k (0, 0)).1 = v
        · rw [if_pos (by rw [e]), nI_inc]
          exact .inl ⟨z, _, rfl, rfl, .inr ⟨rfl, (had_iff ps v).2 ⟨k, z, e⟩⟩⟩
        · rw [if_neg (by rw [nI_eq_iff (by omega) (by omega)]; exact e), nI_inc]
          refine .inl ⟨z, _, rfl, rfl, .inl ⟨rfl, fun j hj => ?_⟩⟩
          by_cases ej : j = k
          · rw [ej]; exact e
          · exact hm j (by omega)
      · subst h1
        rw [if_neg (by decide), nI_inc]
        exact .inl ⟨z, _, rfl, rfl, .inr ⟨rfl, hh⟩⟩
    · rw [if_pos (by rw [nI_le_iff (by omega) (by omega)]; omega)]
      refine .inr ⟨_, rfl, ?_⟩
      rcases hor with ⟨h0, hm⟩ | ⟨h1, hh⟩
      · rw [if_neg (fun y => by
          obtain ⟨j, hj, ej⟩ := (had_iff ps v).1 y
          exact hm j (by omega) ej)]
        exact h0
      · rw [if_pos hh]
        exact h1) (0, 0) ⟨rfl, .inl ⟨rfl, fun j hj => absurd hj (Nat.not_lt_zero _)⟩⟩ (by omega)
  obtain ⟨r, e, hr'⟩ := key
  rw [e, hr']
def diK (M : Mem) (q23 : Mem ⊕ Mem ⊕ Mem ⊕ (Int32 × Mem)) : Option (Mem × Int32) := match q23 with | .inl u24 => (lt (f_X11_bad 2 u24) fun p25 => b1 (gz p25.2) fun x26 => some (p25.1, x26)) | .inr u35 => (match u35 with | .inl u27 => (lt (f_X11_bad 3 u27) fun p28 => b1 (gz p28.2) fun x29 => some (p28.1, x29)) | .inr u36 => (match u36 with | .inl u30 => (some (u30, 0)) | .inr u31 => (b1 (wr u31.2 162 ((10 * (M 155 15)) + 1) u31.1) fun M34 => some (M34, 1))))
theorem partsm_run (hN : okN B n N) {M0 Ms : Mem} {rw' b nk : Nat} {c : List Int32} (hb : b = 10 * rw') (hr : rw' < 12) (hs : Ms 155 15 = nI rw') (hk6 : nk ≤ 6) (hk0 : M0 156 80 = nI nk) : ∀ (f i : Nat) (ps : List (Nat × Nat)) (M : Mem) (fuel : Nat), f + ps.length = 5 → ps.length ≤ 4 → (∀ i, i < ps.length → (ps.getD i (0, 0)).1 < 10000) → f < fuel → Fw2 b M0 M → i ≤ N → RSm B n 4 i M → dOK b (c.getD 0 0) ps M → Wq (b1 (lp (fun s => w_X11_aDish_25 Ms s.1 s.2) fuel (nI ps.length, M)) (diK Ms)) (PwC B n N 4 b (fun ps => rowOK 4 b (c, ps)) M0 (paG (tyT B n) (vlT B n) nk f i ps))
  | f, i, ps, M, 0, _, _, _, hfu, _, _, _, _ => absurd hfu (Nat.not_lt_zero _)
  | 0, i, ps, M, fuel + 1, hf, hp4, _, _, _, _, _, _ => by omega
  | f + 1, i, ps, M, fuel + 1, hf, hp4, hps, hfu, hF, hi, h, hd => by
    have hT := hN.t
    have ht := hT.2.2.2 i
    have e18 := h.2.2.2.1
    have e2 := tokr (v := 2) (x := 2) rfl (by omega) ht (by omega) (trA 4 (by omega) _ ht).2.1
    have ix0 : 10 * nI rw' = nI b := by rw [hb]; exact nI_mul 10 rw'
    have ix1 : nI b + 1 = nI (b + 1) := nI_inc _
    have ix2 : nI b + 2 = nI (b + 2) := nI_add _ 2
    have ix3 : nI b + 3 = nI (b + 3) := nI_add _ 3
    unfold paG
    by_cases h256 : tyT B n i = 256
    · have hiN : i < N := in_tok hT hi h256 (by omega)
      have hv := hN.v i h256
      have e20 := h.2.2.2.2.2 h256
      have ehad := had_ok (Ms := Ms) hb hr hs hp4 hps hd e20 hv
      have hki : f_X11_isKind (M 155 20) M = 0 ↔ ¬ vlT B n i < nk := by
        unfold f_X11_isKind
        rw [e20, hF.1 156 (by omega) (by omega), hk0, num_rngm (a := 0) (lo := 0) (hs := nk) hv rfl (pred_hs rfl hk6) (by omega) (by omega)]
        omega
      rw [if_pos h256]
      have hbody : ∀ r, (if (f_X11_isKind (M 155 20) M) = 0 then (some (.inr (.inl M)) : Option ((Int32 × Mem) ⊕ (Mem ⊕ Mem ⊕ Mem ⊕ (Int32 × Mem)))) else (if ((if hadP ps (vlT B n i) = true then 1 else 0) : Int32) = 0 then (if nI ps.length = 4 then (some (.inr (.inr (.inl M)))) else (b2 (f_X11_number (((10 * (Ms 155 15)) + 2) + (2 * nI ps.length)) 0 6 M) fun M17 x18 => if x18 = 0 then (some (.inr (.inr (.inr (.inl M17))))) else (b2 (f_X11_number (((10 * (Ms 155 15)) + 3) + (2 * nI ps.length)) 1 99 M17) fun M20 x21 => if x21 = 0 then (some (.inr (.inr (.inr (.inl M20))))) else (some (.inl ((nI ps.length + 1), M20)))))) else (some (.inr (.inl M))))) = r → (fun s : Int32 × Mem => w_X11_aDish_25 Ms s.1 s.2) (nI ps.length, M) = r := by
        intro r hr2
        simp only [w_X11_aDish_25]
        rw [e18, if_pos (e2.2 h256), ehad, b1_some]
        exact hr2
      by_cases hlt : vlT B n i < nk
      · by_cases hh : hadP ps (vlT B n i) = true
        · rw [if_pos (.inr hh)]
          rw [lp_end (hbody _ (by rw [if_neg (fun z => hki.1 z hlt), if_pos hh, if_neg (by decide)])), b1_some]
          exact pw_bad h hF rfl
        · rw [if_neg (by
            rintro (z | z)
            · exact z hlt
            · exact hh z)]
          by_cases hl4 : ps.length = 4
          · rw [if_pos hl4]
            rw [lp_end (hbody _ (by rw [if_neg (fun z => hki.1 z hlt), if_neg hh, if_pos rfl, if_pos (by rw [hl4]; rfl)])), b1_some]
            exact pw_bad h hF rfl
          · rw [if_neg hl4]
            have em : 2 * nI ps.length = nI (2 * ps.length) := nI_mul 2 _
            obtain ⟨⟨M17, x18⟩, u0, uF, um⟩ := number_gen (b := b) (pl := b + 2 + 2 * ps.length) (lo := 0) (hs := 7) (x := nI (b + 2 + 2 * ps.length)) (a := 0) (c := 6) hN (by omega) h hi rfl (by omega) rfl rfl (by omega) (by omega)
            rw [if_pos h256, if_pos (by omega)] at um
            obtain ⟨q1, q2, q3, q4⟩ := um
            simp only at q1 q2 q3 q4 uF
            obtain ⟨⟨M20, x21⟩, v0, vF, vm⟩ := number_gen (b := b) (pl := b + 3 + 2 * ps.length) (lo := 1) (hs := 100) (x := nI (b + 3 + 2 * ps.length)) (a := 1) (c := 99) hN (by omega) q3 q2 rfl (by omega) rfl rfl (by omega) (by omega)
            simp only at vF
            have hbody2 : ∀ r, (if x21 = 0 then (some (.inr (.inr (.inr (.inl M20)))) : Option ((Int32 × Mem) ⊕ (Mem ⊕ Mem ⊕ Mem ⊕ (Int32 × Mem)))) else (some (.inl ((nI ps.length + 1), M20)))) = r → (fun s : Int32 × Mem => w_X11_aDish_25 Ms s.1 s.2) (nI ps.length, M) = r := by
              intro r hr2
              refine hbody r ?_
              rw [if_neg (fun z => hki.1 z hlt), if_neg hh, if_pos rfl, if_neg (by
                intro z
                have z : nI ps.length = nI 4 := z
                rw [nI_eq_iff (by omega) (by omega)] at z
                exact hl4 z), hs, ix0, ix2, ix3, em, nI_add, nI_add, u0, b2_some, if_neg (by rw [q1]; decide), v0, b2_some]
              exact hr2
            have fail : ∀ e : Nat × Nat, (x21 = 0 ∧ M20 155 21 = nI e.1 ∧ M20 155 22 = nI (plT B n e.2)) → Wq (b1 (lp (fun s => w_X11_aDish_25 Ms s.1 s.2) (fuel + 1) (nI ps.length, M)) (diK Ms)) (PwC B n N 4 b (fun ps => rowOK 4 b (c, ps)) M0 (.inl e)) := by
              rintro e ⟨z1, z2⟩
              rw [lp_end (hbody2 _ (if_pos z1)), b1_some]
              exact wq_some ⟨(hF.trans uF).trans vF, rfl, z2⟩
            by_cases h256' : tyT B n (i + 1) = 256
            · rw [if_pos h256'] at vm ⊢
              by_cases hq : 1 ≤ vlT B n (i + 1) ∧ vlT B n (i + 1) < 100
              · rw [if_pos hq] at vm ⊢
                obtain ⟨z1, z2, z3, z4⟩ := vm
                simp only at z1 z2 z3 z4
                have el : (ps ++ [(vlT B n i, vlT B n (i + 1))]).length = ps.length + 1 := by rw [List.length_append]; rfl
                rw [lp_in (hbody2 _ (if_neg (by rw [z1]; decide))), nI_inc, ← el]
                refine partsm_run hN hb hr hs hk6 hk0 f (i + 2) (ps ++ [(vlT B n i, vlT B n (i + 1))]) M20 fuel (by omega) (by omega) ?_ (by omega) ((hF.trans uF).trans vF) z2 z3 ⟨?_, ?_⟩
                · intro j hj
                  by_cases e : j = ps.length
                  · rw [e, getD_app_at]
                    simp only
                    omega
                  · rw [getD_app_l _ (by omega)]
                    exact hps j (by omega)
                · rw [z4, up2_slot _ _ _ (by omega), q4, up2_slot _ _ _ (by omega)]
                  exact hd.1
                · intro j hj
                  rw [z4]
                  by_cases e : j = ps.length
                  · rw [e, getD_app_at, up2_slot _ _ _ (by omega), up2_at, q4, up2_at]
                    exact ⟨rfl, rfl⟩
                  · rw [getD_app_l _ (by omega), up2_slot _ _ _ (by omega), up2_slot _ _ _ (by omega), q4, up2_slot _ _ _ (by omega), up2_slot _ _ _ (by omega)]
                    exact hd.2 j (by omega)
              · rw [if_neg hq] at vm ⊢
                exact fail _ vm
            · rw [if_neg h256'] at vm ⊢
              exact fail _ vm
      · rw [if_pos (.inl hlt)]
        rw [lp_end (hbody _ (by rw [if_pos (hki.2 hlt)])), b1_some]
        exact pw_bad h hF rfl
    · rw [if_neg h256]
      have hb2 : (fun s : Int32 × Mem => w_X11_aDish_25 Ms s.1 s.2) (nI ps.length, M) = some (.inr (.inr (.inr (.inr (nI ps.length, M))))) := by
        simp only [w_X11_aDish_25]
        rw [e18, if_neg (fun z => h256 (e2.1 z))]
      rw [lp_end hb2, b1_some]
      unfold diK
      simp only
      rw [hs, ix0, ix1, wr_nI la_162 (by omega) (by omega), b1_some]
      refine wq_some ⟨hF.trans (Fw2.w (by omega)), rfl, hi, h.w2, ?_⟩
      show rowOK 4 b (c, ps) (up2 M 162 (b + 1) (nI ps.length))
      unfold rowOK
      rw [if_pos rfl]
      refine ⟨?_, ?_, hp4, fun j hj => ?_⟩
      · simp only; rw [up2_slot _ _ _ (by omega)]; exact hd.1
      · simp only; rw [up2_at]
      · simp only at hj ⊢
        rw [up2_slot _ _ _ (by omega), up2_slot _ _ _ (by omega)]; exact hd.2 j hj
theorem aDish_ok (hN : okN B n N) {i rw' nk : Nat} (h : RSm B n 4 i M) (hi : i ≤ N) (hw : tyT B n i = 322) (h15 : M 155 15 = nI rw') (hr : rw' < 12) (hk : M 156 80 = nI nk) (hk6 : nk ≤ 6) : Wq (f_X11_aDish M) (PwC B n N 4 (10 * rw') (rowOK 4 (10 * rw')) M (rowS (tyT B n) (vlT B n) 4 nk i)) := by
  have ix0 : 10 * nI rw' = nI (10 * rw') := nI_mul 10 rw'
  unfold f_X11_aDish
  show Wq _ (PwC B n N 4 (10 * rw') (rowOK 4 (10 * rw')) M (bnR (nuG (tyT B n) (vlT B n) 1 100 (i + 1) []) (fun j c => bnR (paG (tyT B n) (vlT B n) nk 5 j []) (fun j2 ps => .inr (j2, (c, ps))))))
  have t1 := told_ok (b := 10 * rw') (cs := []) (v := 15) (wd := 322) (lo := 1) (hs := 100) (x := 10 * (M 155 15)) (y := 15) (a := 1) (c := 99) hN (by omega) h hi (fun j hj => absurd hj (Nat.not_lt_zero _)) (by rw [h15, ix0]; rfl) (by show 10 * rw' + 0 < 120; omega) rfl (by omega) (by omega) (fun t ht => tr4 t ht) rfl rfl (by omega) (by omega)
  rw [nx_yes hw, bnR_r] at t1
  refine pw_b2 t1 (Fw2.refl _ _) ?_
  intro j c M1 e1 a1 a2 a3 a4
  have l1 : c.length = 1 := nu_len e1
  have hp := partsm_run (c := c) hN (M0 := M) (Ms := M) rfl hr h15 hk6 hk 5 j [] M1 FU rfl (by decide) (fun j hj => absurd hj (Nat.not_lt_zero _)) (by unfold FU; omega) a2 a1 a3 ⟨a4 0 (by omega), fun j hj => absurd hj (Nat.not_lt_zero _)⟩
  have hp : Wq (b1 (lp (fun s => w_X11_aDish_25 M s.1 s.2) FU (0, M1)) (diK M)) _ := hp
  refine wq_mono (x := b1 (lp (fun s => w_X11_aDish_25 M s.1 s.2) FU (0, M1)) (diK M)) hp ?_
  rintro p ⟨p1, p2⟩
  cases hP : paG (tyT B n) (vlT B n) nk 5 j [] with
  | inl e =>
    rw [hP] at p2
    rw [bnR_l]
    exact ⟨p1, p2⟩
  | inr q =>
    rw [hP] at p2
    rw [bnR_r]
    exact ⟨p1, p2⟩
end DSM
