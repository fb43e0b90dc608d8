/-! ===== PURE PART: conditions of the law, read by the reference ===== -/
section CDM
variable {B : Nat → Nat} {n N : Nat} {M : Mem}
def RdM (B : Nat → Nat) (n N d : Nat) (rc : Mem → Option (Mem × Int32)) (cd : Nat → Rs Cd) : Prop := ∀ (i : Nat) (Y : Cd) (M : Mem), RSm B n 1 i M → i ≤ N → SM Y M → Y.length ≤ i → M 155 24 = nI d → Wq (rc M) (PmC B n N i Y M (cd i))
theorem anm_run (hN : okN B n N) {d : Nat} {rc : Mem → Option (Mem × Int32)} {cd : Nat → Rs Cd} (hrc : RdM B n N d rc cd) {M0 : Mem} (hd0 : M0 155 24 = nI d) {i0 : Nat} {Y : Cd} (hY0 : Y.length ≤ i0) : ∀ (f i : Nat) (c : Cd) (M : Mem) (fuel : Nat), N ≤ i + f → f < fuel → Fm M0 M → i0 < i → i ≤ N → RSm B n 1 i M → SM (Y ++ c) M → c.length + i0 ≤ i → M 155 24 = M0 155 24 → Wq (b1 (lp (fun s => w_X11_every_9 rc s) fuel M) suK) (PmC B n N i0 Y M0 (anG (tyT B n) cd f i c))
  | f, i, c, M, 0, _, hfu, _, _, _, _, _, _, _ => absurd hfu (Nat.not_lt_zero _)
  | f, i, c, M, fuel + 1, hNf, hfu, hF, hi0, hi, h, hS, hlen, hd => by
    have hT := hN.t
    have hN4 := hT.1
    have ht := hT.2.2.2 i
    have e18 := h.2.2.2.1
    have e5 := tokq (v := 5) (x := 5) rfl ht (by omega) (tr1_b _ ht).2.1
    by_cases hp : tyT B n i = 313
    · have hiN : i < N := in_tok hT hi hp (by omega)
      cases f with
      | zero => omega
      | succ f =>
        obtain ⟨M10, n0, n1, n2⟩ := nextm hN (by omega) h
        have hF10 := hF.trans n2.fm
        have d10 : M10 155 24 = M0 155 24 := by rw [n2.2 24 (by omega) (by omega) (by omega) (by omega)]; exact hd
        obtain ⟨⟨M12, x13⟩, u0, uF, um⟩ := hrc (i + 1) (Y ++ c) M10 n1 hiN (hS.fn n2) (by rw [List.length_append]; omega) (by rw [d10]; exact hd0)
        simp only at uF
        have hbody : ∀ r, (if x13 = 0 then (some (.inr (.inl M12)) : Option (Mem ⊕ (Mem ⊕ Mem))) else (b1 (f_X11_lay 31 0 M12) fun M15 => some (.inl M15))) = r → (fun s => w_X11_every_9 rc s) M = r := by
          intro r hr
          simp only [w_X11_every_9]
          rw [e18, if_pos (e5.2 hp), n0, b1_some, u0, b2_some]
          exact hr
        unfold anG
        rw [if_pos hp]
        cases hR : cd (i + 1) with
        | inl e =>
          rw [hR] at um
          obtain ⟨z1, z2, z3⟩ := um
          simp only at z1
          rw [lp_end (hbody _ (if_pos z1)), b1_some, bnR_l]
          exact wq_some ⟨hF10.trans uF, rfl, z2, z3⟩
        | inr q =>
          obtain ⟨j, u⟩ := q
          rw [hR] at um
          obtain ⟨z1, z2, z3, z4, z5, z6, z7⟩ := um
          simp only at z1 z2 z3 z4 z5 z6 z7
          obtain ⟨M15, l0, l1, l2, l3, l4⟩ := layop (k := 31) (x := 31) rfl z4 z5 (by rw [List.length_append, List.length_append]; omega) (by omega)
          rw [lp_in (hbody _ (by rw [if_neg (by rw [z1]; decide), l0, b1_some])), bnR_r]
          refine anm_run hN hrc hd0 hY0 f j (c ++ u ++ [(31, 0)]) M15 fuel (by omega) (by omega) ((hF10.trans uF).trans l3) (by omega) z3 l1 (by rw [← List.append_assoc, ← List.append_assoc]; exact l2) ?_ (by rw [l4, z7]; exact d10)
          rw [List.length_append, List.length_append]
          simp only [List.length_cons, List.length_nil]
          omega
    · have hb : (fun s => w_X11_every_9 rc s) M = some (.inr (.inr M)) := by
        simp only [w_X11_every_9]
        rw [e18, if_neg (fun z => hp (e5.1 z))]
      have hG : anG (tyT B n) cd f i c = .inr (i, c) := by
        cases f with
        | zero => rfl
        | succ f => unfold anG; rw [if_neg hp]
      rw [lp_end hb, b1_some, hG]
      exact wq_some ⟨hF, rfl, hi0, hi, h, hS, hlen, hd⟩
theorem every_ok (hN : okN B n N) {d : Nat} {ra re rc : Mem → Option (Mem × Int32)} {cd : Nat → Rs Cd} (hrc : RdM B n N d rc cd) : RdM B n N d (F_X11_every ra re rc) (evG (tyT B n) cd) := by
  intro i Y M h hi hY hl hd
  have hN4 := hN.t.1
  unfold F_X11_every evG
  refine pm_b2 (hrc i Y M h hi hY hl hd) (Fm.refl _) ?_
  intro j c M1 h1 h2 h3 h4 h5 h6 h7
  exact anm_run hN hrc hd hl 400 j c M1 FU (by omega) (by unfold FU; omega) h3 h1 h2 h4 h5 h6 h7
theorem orm_run (hN : okN B n N) {d : Nat} {rc : Mem → Option (Mem × Int32)} {ev : Nat → Rs Cd} (hrc : RdM B n N d rc ev) {M0 : Mem} (hd0 : M0 155 24 = nI d) {i0 : Nat} {Y : Cd} (hY0 : Y.length ≤ i0) : ∀ (f i : Nat) (c : Cd) (M : Mem) (fuel : Nat), N ≤ i + f → f < fuel → Fm M0 M → i0 < i → i ≤ N → RSm B n 1 i M → SM (Y ++ c) M → c.length + i0 ≤ i → M 155 24 = M0 155 24 → Wq (b1 (lp (fun s => w_X11_any_9 rc s) fuel M) suK) (PmC B n N i0 Y M0 (orG (tyT B n) ev f i c))
  | f, i, c, M, 0, _, hfu, _, _, _, _, _, _, _ => absurd hfu (Nat.not_lt_zero _)
  | f, i, c, M, fuel + 1, hNf, hfu, hF, hi0, hi, h, hS, hlen, hd => by
    have hT := hN.t
    have hN4 := hT.1
    have ht := hT.2.2.2 i
    have e18 := h.2.2.2.1
    have e4 := tokq (v := 4) (x := 4) rfl ht (by omega) (tr1_b _ ht).1
    by_cases hp : tyT B n i = 312
    · have hiN : i < N := in_tok hT hi hp (by omega)
      cases f with
      | zero => omega
      | succ f =>
        obtain ⟨M10, n0, n1, n2⟩ := nextm hN (by omega) h
        have hF10 := hF.trans n2.fm
        have d10 : M10 155 24 = M0 155 24 := by rw [n2.2 24 (by omega) (by omega) (by omega) (by omega)]; exact hd
        obtain ⟨⟨M12, x13⟩, u0, uF, um⟩ := hrc (i + 1) (Y ++ c) M10 n1 hiN (hS.fn n2) (by rw [List.length_append]; omega) (by rw [d10]; exact hd0)
        simp only at uF
        have hbody : ∀ r, (if x13 = 0 then (some (.inr (.inl M12)) : Option (Mem ⊕ (Mem ⊕ Mem))) else (b1 (f_X11_lay 32 0 M12) fun M15 => some (.inl M15))) = r → (fun s => w_X11_any_9 rc s) M = r := by
          intro r hr
          simp only [w_X11_any_9]
          rw [e18, if_pos (e4.2 hp), n0, b1_some, u0, b2_some]
          exact hr
        unfold orG
        rw [if_pos hp]
        cases hR : ev (i + 1) with
        | inl e =>
          rw [hR] at um
          obtain ⟨z1, z2, z3⟩ := um
          simp only at z1
          rw [lp_end (hbody _ (if_pos z1)), b1_some, bnR_l]
          exact wq_some ⟨hF10.trans uF, rfl, z2, z3⟩
        | inr q =>
          obtain ⟨j, u⟩ := q
          rw [hR] at um
          obtain ⟨z1, z2, z3, z4, z5, z6, z7⟩ := um
          simp only at z1 z2 z3 z4 z5 z6 z7
          obtain ⟨M15, l0, l1, l2, l3, l4⟩ := layop (k := 32) (x := 32) rfl z4 z5 (by rw [List.length_append, List.length_append]; omega) (by omega)
          rw [lp_in (hbody _ (by rw [if_neg (by rw [z1]; decide), l0, b1_some])), bnR_r]
          refine orm_run hN hrc hd0 hY0 f j (c ++ u ++ [(32, 0)]) M15 fuel (by omega) (by omega) ((hF10.trans uF).trans l3) (by omega) z3 l1 (by rw [← List.append_assoc, ← List.append_assoc]; exact l2) ?_ (by rw [l4, z7]; exact d10)
          rw [List.length_append, List.length_append]
          simp only [List.length_cons, List.length_nil]
          omega
    · have hb : (fun s => w_X11_any_9 rc s) M = some (.inr (.inr M)) := by
        simp only [w_X11_any_9]
        rw [e18, if_neg (fun z => hp (e4.1 z))]
      rw [lp_end hb, b1_some, orG_stop hp]
      exact wq_some ⟨hF, rfl, hi0, hi, h, hS, hlen, hd⟩
theorem anym_ok (hN : okN B n N) {d : Nat} {ra rc ro : Mem → Option (Mem × Int32)} {ev : Nat → Rs Cd} (hrc : RdM B n N d rc ev) : RdM B n N d (F_X11_any ra rc ro) (ayG (tyT B n) ev) := by
  intro i Y M h hi hY hl hd
  have hN4 := hN.t.1
  unfold F_X11_any ayG
  refine pm_b2 (hrc i Y M h hi hY hl hd) (Fm.refl _) ?_
  intro j c M1 h1 h2 h3 h4 h5 h6 h7
  exact orm_run hN hrc hd hl 400 j c M1 FU (by omega) (by unfold FU; omega) h3 h1 h2 h4 h5 h6 h7
theorem cmpm_ok (hN : okN B n N) {i : Nat} {Y : Cd} (h : RSm B n 1 i M) (hi : i ≤ N) (hY : SM Y M) (hl : Y.length ≤ i) : Wq (b2 (f_X11_sumUp M) fun M3 x4 => if x4 = 0 then (some (M3, 0)) else (lt ((if (M3 155 18) = 160 then 27 else (if (M3 155 18) = 161 then 28 else (if (M3 155 18) = 162 then 29 else (-1)))) : Int32) fun x9 => if x9 = (-1) then (lt (f_X11_bad 1 M3) fun p16 => b1 (gz p16.2) fun x17 => some (p16.1, x17)) else (b1 (f_X11_next0 M3) fun M11 => b2 (f_X11_sumUp M11) fun M12 x13 => if x13 = 0 then (some (M12, 0)) else (b1 (f_X11_lay x9 0 M12) fun M15 => some (M15, 1))))) (PmC B n N i Y M (cmG (tyT B n) (vlT B n) i)) := by
  have hT := hN.t
  have hN4 := hT.1
  unfold cmG
  refine pm_b2 (sumUp_ok hN h hi hY hl) (Fm.refl _) ?_
  intro j c M1 h1 h2 h3 h4 h5 h6 h7
  have ht := hT.2.2.2 j
  have e18 := h4.2.2.2.1
  obtain ⟨_, _, _, _, _, t60, t61, t62, _⟩ := tr1_b _ ht
  have e60 := tokq (v := 160) (x := 160) rfl ht (by omega) t60
  have e61 := tokq (v := 161) (x := 161) rfl ht (by omega) t61
  have e62 := tokq (v := 162) (x := 162) rfl ht (by omega) t62
  rw [lt_eq, e18]
  by_cases hs : tyT B n j = 60 ∨ tyT B n j = 61 ∨ tyT B n j = 62
  · have hjN : j < N := in_tok hT h2 rfl (by omega)
    have hx9 : (if nI (trT 1 (tyT B n j)) = 160 then (27 : Int32) else (if nI (trT 1 (tyT B n j)) = 161 then 28 else (if nI (trT 1 (tyT B n j)) = 162 then 29 else (-1)))) = nI (tyT B n j - 33) := by
      rcases hs with z | z | z
      · rw [if_pos (e60.2 z), z]; rfl
      · rw [if_neg (fun y => by rw [e60] at y; omega), if_pos (e61.2 z), z]; rfl
      · rw [if_neg (fun y => by rw [e60] at y; omega), if_neg (fun y => by rw [e61] at y; omega), if_pos (e62.2 z), z]; rfl
    rw [hx9, if_neg (nI_neg1 (by omega)), if_pos hs]
    refine wq_b1 (nextm hN (by omega) h4) ?_
    rintro M11 ⟨n1, n2⟩
    have d11 : M11 155 24 = M 155 24 := by rw [n2.2 24 (by omega) (by omega) (by omega) (by omega)]; exact h7
    refine pm_b2 (sumUp_ok hN n1 hjN (h5.fn n2) (by rw [List.length_append]; omega)) (h3.trans n2.fm) ?_
    intro j2 c2 M12 g1 g2 g3 g4 g5 g6 g7
    refine wq_b1 (layop rfl g4 g5 (by rw [List.length_append, List.length_append]; omega) (by omega)) ?_
    rintro M15 ⟨l1, l2, l3, l4⟩
    refine wq_some ⟨g3.trans l3, rfl, by simp only; omega, g2, l1, by simp only; rw [← List.append_assoc, ← List.append_assoc]; exact l2, ?_, by simp only; rw [l4, g7]; exact d11⟩
    try simp only
    rw [List.length_append, List.length_append]
    simp only [List.length_cons, List.length_nil]
    omega
  · rw [if_neg (fun z => hs (.inl (e60.1 z))), if_neg (fun z => hs (.inr (.inl (e61.1 z)))), if_neg (fun z => hs (.inr (.inr (e62.1 z)))), if_pos rfl, if_neg hs]
    exact bad_ok h4 h3 rfl
theorem one_ok (hN : okN B n N) : ∀ (r g : Nat), r ≤ 8 → 3 * r + 1 ≤ g → RdM B n N (8 - r) (gr_X11_any_X11_every_X11_oneTest g).2.2 (cdG (tyT B n) (vlT B n) r)
  | 0, 0, _, h => by omega
  | 0, g + 1, _, _ => by
    intro i Y M h hi hY hl hd
    have hT := hN.t
    have hN4 := hT.1
    have ht := hT.2.2.2 i
    have e18 := h.2.2.2.1
    obtain ⟨_, _, t314, t40, _⟩ := tr1_b _ ht
    have e6 := tokq (v := 6) (x := 6) rfl ht (by omega) t314
    have e140 := tokq (v := 140) (x := 140) rfl ht (by omega) t40
    have fail : tyT B n i = 314 ∨ tyT B n i = 40 → ∀ k : Mem → Option (Mem × Int32), Wq (b2 (f_X11_opens M) fun M28 x29 => if x29 = 0 then (some (M28, 0)) else k M28) (PmC B n N i Y M (.inl (3, i))) := by
      intro _ k
      unfold f_X11_opens
      rw [hd, if_pos (by decide)]
      obtain ⟨⟨M2, x2⟩, b0, bF, b1', b2', b3'⟩ := bad_ok (N := N) (i0 := i) (Y0 := Y) h (Fm.refl M) (x := 3) (w := 3) rfl
      rw [b0, b2_some]
      simp only at b1'
      rw [if_pos b1']
      exact wq_some ⟨bF, rfl, b2', b3'⟩
    show Wq (F_X11_oneTest (gr_X11_any_X11_every_X11_oneTest g).1 (gr_X11_any_X11_every_X11_oneTest g).2.1 (gr_X11_any_X11_every_X11_oneTest g).2.2 M) (PmC B n N i Y M (if tyT B n i = 314 ∨ tyT B n i = 40 then .inl (3, i) else cmG (tyT B n) (vlT B n) i))
    unfold F_X11_oneTest
    rw [e18]
    by_cases h314 : tyT B n i = 314
    · rw [if_pos (e6.2 h314), if_pos (.inl h314)]
      exact fail (.inl h314) _
    · rw [if_neg (fun z => h314 (e6.1 z))]
      by_cases h40 : tyT B n i = 40
      · rw [if_pos (e140.2 h40), if_pos (.inr h40)]
        exact fail (.inr h40) _
      · rw [if_neg (fun z => h40 (e140.1 z)), if_neg (by omega)]
        exact cmpm_ok hN h hi hY hl
  | r + 1, 0, _, h => by omega
  | r + 1, 1, _, h => by omega
  | r + 1, 2, _, h => by omega
  | r + 1, g + 3, hr, hg => by
    intro i Y M h hi hY hl hd
    have hT := hN.t
    have hN4 := hT.1
    have ht := hT.2.2.2 i
    have e18 := h.2.2.2.1
    obtain ⟨_, _, t314, t40, _⟩ := tr1_b _ ht
    have e6 := tokq (v := 6) (x := 6) rfl ht (by omega) t314
    have e140 := tokq (v := 140) (x := 140) rfl ht (by omega) t40
    have e8 : nI (8 - (r + 1)) + 1 = nI (8 - r) := by rw [nI_inc]; congr 1; omega
    have hne : ¬ nI (8 - (r + 1)) = 8 := by
      intro z
      have z : nI (8 - (r + 1)) = nI 8 := z
      rw [nI_eq_iff (by omega) (by omega)] at z; omega
    have hop : ∃ M28, f_X11_opens M = some (M28, 1) ∧ RSm B n 1 (i + 1) M28 ∧ SM Y M28 ∧ Fm M M28 ∧ M28 155 24 = nI (8 - r) := by
      unfold f_X11_opens
      rw [hd, if_neg hne, lt_eq, e8]
      obtain ⟨M3, n0, n1, n2⟩ := nextm hN (by omega) (h.up (j := 24) (x := nI (8 - r)) (by omega))
      rw [n0, b1_some]
      exact ⟨M3, rfl, n1, (hY.up (by omega)).fn n2, (Fm.up (by omega)).trans n2.fm, by rw [n2.2 24 (by omega) (by omega) (by omega) (by omega), up2_at]⟩
    have edec : nI (8 - r) - 1 = nI (8 - (r + 1)) := by rw [nI_dec' (by omega)]; congr 1
    show Wq (F_X11_oneTest (gr_X11_any_X11_every_X11_oneTest (g + 2)).1 (gr_X11_any_X11_every_X11_oneTest (g + 2)).2.1 (gr_X11_any_X11_every_X11_oneTest (g + 2)).2.2 M) (PmC B n N i Y M (if tyT B n i = 40 then bnR (ayG (tyT B n) (evG (tyT B n) (cdG (tyT B n) (vlT B n) r)) (i + 1)) (fun j c => nxG (tyT B n) 41 j c) else if tyT B n i = 314 then bnR (cdG (tyT B n) (vlT B n) r (i + 1)) (fun j c => .inr (j, c ++ [(30, 0)])) else cmG (tyT B n) (vlT B n) i))
    unfold F_X11_oneTest
    rw [e18]
    by_cases h314 : tyT B n i = 314
    · have hiN : i < N := in_tok hT hi h314 (by omega)
      obtain ⟨M28, o0, o1, o2, o3, o4⟩ := hop
      rw [if_pos (e6.2 h314), if_neg (by omega), if_pos h314, o0, b2_some, if_neg (by decide)]
      refine pm_b2 (one_ok hN r (g + 2) (by omega) (by omega) (i + 1) Y M28 o1 hiN o2 (by omega) o4) o3 ?_
      intro j c M31 g1 g2 g3 g4 g5 g6 g7
      rw [lt_eq, g7, o4, edec]
      refine wq_b1 (layop (k := 30) rfl (g4.up (by omega)) (g5.up (by omega)) (by rw [List.length_append]; omega) (by omega)) ?_
      rintro M35 ⟨l1, l2, l3, l4⟩
      refine wq_some ⟨(g3.trans (Fm.up (by omega))).trans l3, rfl, by simp only; omega, g2, l1, by simp only; rw [← List.append_assoc]; exact l2, ?_, by simp only; rw [l4, up2_at]; exact hd.symm⟩
      try simp only
      rw [List.length_append]
      simp only [List.length_cons, List.length_nil]
      omega
    · rw [if_neg (fun z => h314 (e6.1 z))]
      by_cases h40 : tyT B n i = 40
      · have hiN : i < N := in_tok hT hi h40 (by omega)
        obtain ⟨M28, o0, o1, o2, o3, o4⟩ := hop
        rw [if_pos (e140.2 h40), if_pos h40, o0, b2_some, if_neg (by decide)]
        have hay := anym_ok hN (ra := (gr_X11_any_X11_every_X11_oneTest (g + 1)).1) (ro := (gr_X11_any_X11_every_X11_oneTest (g + 1)).2.2) (every_ok hN (ra := (gr_X11_any_X11_every_X11_oneTest g).1) (re := (gr_X11_any_X11_every_X11_oneTest g).2.1) (one_ok hN r g (by omega) (by omega)))
        refine pm_b2 (hay (i + 1) Y M28 o1 hiN o2 (by omega) o4) o3 ?_
        intro j c M21 g1 g2 g3 g4 g5 g6 g7
        have htj := hT.2.2.2 j
        have e41 := tokq (v := 141) (x := 141) rfl htj (by omega) (tr1_b _ htj).2.2.2.2.1
        unfold f_X11_need nxG
        rw [g4.2.2.2.1]
        by_cases hs : tyT B n j = 41
        · have hjN : j < N := in_tok hT g2 hs (by omega)
          obtain ⟨M24, n0, n1, n2⟩ := nextm hN (by omega) g4
          have d24 : M24 155 24 = nI (8 - r) := by rw [n2.2 24 (by omega) (by omega) (by omega) (by omega), g7]; exact o4
          rw [if_pos (e41.2 hs), n0, b1_some, b2_some, if_neg (by decide), lt_eq, d24, edec, if_pos hs]
          exact wq_some ⟨(g3.trans n2.fm).trans (Fm.up (by omega)), rfl, by simp only; omega, hjN, n1.up (by omega), (g5.fn n2).up (by omega), by simp only; omega, by simp only; rw [up2_at]; exact hd.symm⟩
        · rw [if_neg (fun z => hs (e41.1 z)), if_neg hs]
          obtain ⟨⟨M2, x2⟩, b0, bF, b1', b2', b3'⟩ := bad_ok (N := N) (i0 := i) (Y0 := Y) g4 g3 (x := 1) (w := 1) rfl
          rw [b0, b2_some]
          simp only at b1'
          rw [if_pos b1']
          exact wq_some ⟨bF, rfl, b2', b3'⟩
      · rw [if_neg (fun z => h40 (e140.1 z)), if_neg h40, if_neg h314]
        exact cmpm_ok hN h hi hY hl
theorem any40_ok (hN : okN B n N) : RdM B n N 0 (f_X11_any 40) (ayG (tyT B n) (evG (tyT B n) (cdG (tyT B n) (vlT B n) 8))) := by
  have := anym_ok hN (ra := (gr_X11_any_X11_every_X11_oneTest 39).1) (ro := (gr_X11_any_X11_every_X11_oneTest 39).2.2) (every_ok hN (ra := (gr_X11_any_X11_every_X11_oneTest 38).1) (re := (gr_X11_any_X11_every_X11_oneTest 38).2.1) (one_ok hN 8 38 (by omega) (by omega)))
  exact this
end CDM
