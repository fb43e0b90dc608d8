/-! ===== PURE PART: what the lines of the lists tell ===== -/
def partsOK (nk : Nat) (ps : List (Nat × Nat)) : Prop := ps.length ≤ 4 ∧ (∀ j, j < ps.length → (ps.getD j (0, 0)).1 < nk ∧ 1 ≤ (ps.getD j (0, 0)).2 ∧ (ps.getD j (0, 0)).2 ≤ 99) ∧ ∀ j j', j < j' → j' < ps.length → (ps.getD j (0, 0)).1 ≠ (ps.getD j' (0, 0)).1
def rowAb (k nk : Nat) (q : Rw) : Prop := if k = 0 then (∃ a b, q = ([nI a, nI b], []) ∧ 1 ≤ a ∧ a ≤ 99 ∧ 1 ≤ b ∧ b ≤ 30) else if k = 2 then (∃ d kd g, q = ([nI d, nI kd, nI g], []) ∧ kd < nk) else if k = 3 then (∃ kd s b p, q = ([nI kd, nI s, nI b, nI p], []) ∧ kd < nk ∧ 1 ≤ s ∧ s ≤ 99) else (∃ v ps, q = ([nI v], ps) ∧ 1 ≤ v ∧ v ≤ 99 ∧ partsOK nk ps)
section RAB
variable {ty vl : Nat → Nat}
theorem nu_all (lo hs i : Nat) (c : List Int32) : allR (fun c' => ∃ v, lo ≤ v ∧ v < hs ∧ c' = c ++ [nI v]) (nuG ty vl lo hs i c) := by
  unfold nuG
  exact allR_if (fun _ => allR_if (fun h => allR_r ⟨vl i, h.1, h.2, rfl⟩) (fun _ => allR_l _)) (fun _ => allR_l _)
theorem nx_all {α : Type} (w i : Nat) (c : α) : allR (fun c' => c' = c) (nxG ty w i c) := by
  unfold nxG
  exact allR_if (fun _ => allR_r rfl) (fun _ => allR_l _)
theorem pa_all {nk : Nat} : ∀ (f i : Nat) (ps : List (Nat × Nat)), partsOK nk ps → allR (partsOK nk) (paG ty vl nk f i ps)
  | 0, i, ps, h => allR_r h
  | f + 1, i, ps, h => by
    unfold paG
    refine allR_if (fun _ => allR_if (fun _ => allR_l _) (fun hno => allR_if (fun _ => allR_l _) (fun h4 => allR_if (fun _ => allR_if (fun hr => pa_all f (i + 2) _ ?_) (fun _ => allR_l _)) (fun _ => allR_l _)))) (fun _ => allR_r h)
    have h1 : vl i < nk := by
      rcases Nat.lt_or_ge (vl i) nk with z | z
      · exact z
      · exact absurd (.inl (by omega)) hno
    have h2 : ¬ hadP ps (vl i) = true := fun z => hno (.inr z)
    have el : (ps ++ [(vl i, vl (i + 1))]).length = ps.length + 1 := by rw [List.length_append]; rfl
    have hp4 := h.1
    refine ⟨by omega, fun j hj => ?_, fun j j' hj hj' => ?_⟩
    · by_cases e : j = ps.length
      · rw [e, getD_app_at]; exact ⟨h1, hr.1, by simp only; omega⟩
      · rw [getD_app_l _ (by omega)]; exact h.2.1 j (by omega)
    · by_cases e : j' = ps.length
      · rw [e, getD_app_at, getD_app_l _ (by omega)]
        exact fun z => h2 ((had_iff ps (vl i)).2 ⟨j, by omega, z⟩)
      · rw [getD_app_l _ (by omega), getD_app_l _ (by omega)]; exact h.2.2 j j' hj (by omega)
theorem row_all {k nk : Nat} (hk : k = 0 ∨ k = 2 ∨ k = 3 ∨ k = 4) (i : Nat) : allR (rowAb k nk) (rowS ty vl k nk i) := by
  rcases hk with rfl | rfl | rfl | rfl
  · show allR (rowAb 0 nk) (bnR (nuG ty vl 1 100 (i + 1) []) (fun j c => bnR (nxG ty 315 j c) (fun j c => bnR (nuG ty vl 1 31 j c) (fun j c => .inr (j, (c, ([] : List (Nat × Nat))))))))
    refine allR_b (nu_all _ _ _ _) (fun j c ⟨a, a1, a2, a3⟩ => allR_b (nx_all _ _ _) (fun j c' e => allR_b (nu_all _ _ _ _) (fun j c'' ⟨b, b1, b2, b3⟩ => allR_r ?_)))
    subst e
    subst a3
    subst b3
    exact ⟨a, b, rfl, a1, by omega, b1, by omega⟩
  · show allR (rowAb 2 nk) (bnR (nuG ty vl 0 1000 (i + 1) []) (fun j c => bnR (nxG ty 317 j c) (fun j c => bnR (nuG ty vl 0 nk j c) (fun j c => bnR (nxG ty 318 j c) (fun j c => bnR (nuG ty vl 1 21 j c) (fun j c => .inr (j, (c, ([] : List (Nat × Nat))))))))))
    refine allR_b (nu_all _ _ _ _) (fun j c ⟨a, a1, a2, a3⟩ => allR_b (nx_all _ _ _) (fun j c' e => allR_b (nu_all _ _ _ _) (fun j c'' ⟨b, b1, b2, b3⟩ => allR_b (nx_all _ _ _) (fun j c3 e3 => allR_b (nu_all _ _ _ _) (fun j c4 ⟨d, d1, d2, d3⟩ => allR_r ?_)))))
    subst e
    subst a3
    subst e3
    subst b3
    subst d3
    exact ⟨a, b, d, rfl, b2⟩
  · show allR (rowAb 3 nk) (bnR (nuG ty vl 0 nk (i + 1) []) (fun j c => bnR (nuG ty vl 1 100 j c) (fun j c => bnR (nxG ty 320 j c) (fun j c => bnR (nuG ty vl 0 1000 j c) (fun j c => bnR (nxG ty 321 j c) (fun j c => bnR (nuG ty vl 0 1000 j c) (fun j c => .inr (j, (c, ([] : List (Nat × Nat)))))))))))
    refine allR_b (nu_all _ _ _ _) (fun j c ⟨a, a1, a2, a3⟩ => allR_b (nu_all _ _ _ _) (fun j c'' ⟨b, b1, b2, b3⟩ => allR_b (nx_all _ _ _) (fun j c' e => allR_b (nu_all _ _ _ _) (fun j c4 ⟨d, d1, d2, d3⟩ => allR_b (nx_all _ _ _) (fun j c3 e3 => allR_b (nu_all _ _ _ _) (fun j c5 ⟨f, f1, f2, f3⟩ => allR_r ?_))))))
    subst e
    subst e3
    subst a3
    subst b3
    subst d3
    subst f3
    exact ⟨a, b, d, f, rfl, a2, b1, by omega⟩
  · show allR (rowAb 4 nk) (bnR (nuG ty vl 1 100 (i + 1) []) (fun j c => bnR (paG ty vl nk 5 j []) (fun j2 ps => .inr (j2, (c, ps)))))
    refine allR_b (nu_all _ _ _ _) (fun j c ⟨a, a1, a2, a3⟩ => allR_b (pa_all 5 j [] ⟨by decide, fun j hj => absurd hj (Nat.not_lt_zero _), fun j j' _ hj' => absurd hj' (Nat.not_lt_zero _)⟩) (fun j2 ps hps => allR_r ?_))
    subst a3
    exact ⟨a, ps, rfl, a1, by omega, hps⟩
theorem rows_all {k nk : Nat} (hk : k = 0 ∨ k = 2 ∨ k = 3 ∨ k = 4) : ∀ (f i : Nat) (L : List Rw), (L.length ≤ mxG k ∧ ∀ r, r < L.length → rowAb k nk (L.getD r ([], []))) → allR (fun L => L.length ≤ mxG k ∧ ∀ r, r < L.length → rowAb k nk (L.getD r ([], []))) (rowsG ty vl k nk f i L)
  | 0, i, L, h => allR_r h
  | f + 1, i, L, h => by
    unfold rowsG
    refine allR_if (fun _ => allR_r h) (fun _ => allR_if (fun _ => allR_if (fun _ => allR_l _) (fun hne => ?_)) (fun _ => allR_l _))
    rw [row_split hk, bnR_bnR]
    refine allR_b (row_all hk i) (fun j q hq => allR_b (nx_all _ _ _) (fun j2 q' e => rows_all hk f j2 _ ?_))
    subst e
    have el : (L ++ [q']).length = L.length + 1 := by rw [List.length_append]; rfl
    refine ⟨by have := h.1; omega, fun r hr => ?_⟩
    by_cases e : r = L.length
    · rw [e, getD_app_at]; exact hq
    · rw [getD_app_l _ (by omega)]; exact h.2 r (by omega)
end RAB
/-! all lines, read by the reference -/
def bmG (k : Nat) : Nat := if k = 0 then 7 else if k = 2 then 9 else if k = 3 then 12 else 15
theorem trB : ∀ k, (k = 0 ∨ k = 2 ∨ k = 3 ∨ k = 4) → ∀ t, t < 323 → (trT k t = bmG k ↔ t = bwG k) := by
  rintro k (rfl | rfl | rfl | rfl)
  · exact fun t ht => (tr0 t ht).1
  · exact fun t ht => (tr2 t ht).1
  · exact fun t ht => (tr3 t ht).1
  · exact tr4
def FRm (k : Nat) (L : List Rw) (M : Mem) : Prop := M 155 15 = nI L.length ∧ ∀ r, r < L.length → rowOK k (wmG k * r) (L.getD r ([], [])) M
def Fx (M M' : Mem) : Prop := (∀ a, a ≠ 155 → a ≠ 162 → M' a = M a) ∧ ∀ k, k ≠ 15 → (k < 17 ∨ 23 ≤ k) → M' 155 k = M 155 k
theorem Fx.refl (M : Mem) : Fx M M := ⟨fun _ _ _ => rfl, fun _ _ _ => rfl⟩
theorem Fx.trans {M M1 M2 : Mem} (h : Fx M M1) (h2 : Fx M1 M2) : Fx M M2 := ⟨fun a c d => (h2.1 a c d).trans (h.1 a c d), fun a c d => (h2.2 a c d).trans (h.2 a c d)⟩
theorem Fw2.fx {b : Nat} {M M' : Mem} (h : Fw2 b M M') : Fx M M' := ⟨h.1, fun k _ c => h.2.1 k c⟩
theorem Fx.u15 {M : Mem} {x : Int32} : Fx M (up2 M 155 15 x) := ⟨fun a b _ => up2_cell _ _ _ b, fun k b _ => up2_slot _ _ _ b⟩
section RDR
variable {B : Nat → Nat} {n N : Nat} {M : Mem}
theorem aRow_ok (hN : okN B n N) {k i rw' nk : Nat} (hk4 : k = 0 ∨ k = 2 ∨ k = 3 ∨ k = 4) (h : RSm B n k i M) (hi : i ≤ N) (hw : tyT B n i = bwG k) (h15 : M 155 15 = nI rw') (hr : rw' < mxG k) (hk : M 156 80 = nI nk) (hk6 : nk ≤ 6) : Wq (f_X11_aRow M) (PwC B n N k (wmG k * rw') (rowOK k (wmG k * rw')) M (rowS (tyT B n) (vlT B n) k nk i)) := by
  unfold f_X11_aRow
  rw [h.2.1]
  rcases hk4 with rfl | rfl | rfl | rfl
  · rw [if_neg (by decide), if_pos (by decide)]
    exact pw_gz (aKind_ok hN h hi hw h15 hr)
  · rw [if_neg (by decide), if_neg (by decide), if_neg (by decide), if_pos (by decide)]
    exact pw_gz (aFeast_ok hN h hi hw h15 hr hk hk6)
  · rw [if_neg (by decide), if_neg (by decide), if_neg (by decide), if_neg (by decide), if_pos (by decide)]
    exact pw_gz (aWant_ok hN h hi hw h15 hr hk hk6)
  · rw [if_pos (by decide)]
    exact pw_gz (aDish_ok hN h hi hw h15 hr hk hk6)
def rrK (q23 : Mem ⊕ Mem ⊕ (Int32 × Mem)) : Option (Mem × Int32) := match q23 with | .inl u24 => (lt (f_X11_bad 1 u24) fun p25 => b1 (gz p25.2) fun x26 => some (p25.1, x26)) | .inr u34 => (match u34 with | .inl u27 => (lt (f_X11_bad 3 u27) fun p28 => b1 (gz p28.2) fun x29 => some (p28.1, x29)) | .inr u30 => (b1 (gz u30.1) fun x33 => some (u30.2, x33)))
def PwR (B : Nat → Nat) (n k : Nat) (M : Mem) (R : Rs (List Rw)) (p : Mem × Int32) : Prop := Fx M p.1 ∧ match R with
  | .inl e => p.2 = 0 ∧ p.1 155 21 = nI e.1 ∧ p.1 155 22 = nI (plT B n e.2)
  | .inr q => p.2 = 1 ∧ FRm k q.2 p.1
theorem rowsm_run (hN : okN B n N) {M0 : Mem} {k nk : Nat} (hk4 : k = 0 ∨ k = 2 ∨ k = 3 ∨ k = 4) (hk : M0 156 80 = nI nk) (hk6 : nk ≤ 6) : ∀ (f i : Nat) (L : List Rw) (M : Mem) (fuel : Nat), f + L.length = 13 → L.length ≤ mxG k → f + 1 < fuel → Fx M0 M → i ≤ N → RSm B n k i M → FRm k L M → Wq (b1 (lp (fun s => w_X11_readsRows_48 (nI (bmG k)) s.1 s.2) fuel (1, M)) rrK) (PwR B n k M0 (rowsG (tyT B n) (vlT B n) k nk f i L))
  | f, i, L, M, 0, _, _, hfu, _, _, _, _ => absurd hfu (Nat.not_lt_zero _)
  | f, i, L, M, 1, _, _, hfu, _, _, _, _ => by omega
  | 0, i, L, M, fuel + 2, hf, hL, _, _, _, _, _ => by
    have : mxG k ≤ 12 := by unfold mxG; rcases hk4 with rfl | rfl | rfl | rfl <;> decide
    omega
  | f + 1, i, L, M, fuel + 2, hf, hL, hfu, hF, hi, h, hR => by
    have hmx : mxG k ≤ 12 := by unfold mxG; rcases hk4 with rfl | rfl | rfl | rfl <;> decide
    have hk5 : k < 5 := by omega
    have hT := hN.t
    have ht := hT.2.2.2 i
    have e18 := h.2.2.2.1
    have e0 := tokr (v := 0) (x := 0) rfl hk5 ht (by omega) (trA k hk5 _ ht).2.2.1
    have hbm : bmG k < 1000 := by unfold bmG; rcases hk4 with rfl | rfl | rfl | rfl <;> decide
    have eb := tokr (v := bmG k) (x := nI (bmG k)) rfl hk5 ht hbm (trB k hk4 _ ht)
    have emx : (if (M 155 12) = 0 then (6 : Int32) else 12) = nI (mxG k) := by
      rw [h.2.1]
      rcases hk4 with rfl | rfl | rfl | rfl <;> rfl
    unfold rowsG
    by_cases hs : tyT B n i = 258
    · rw [if_pos hs]
      have hb : (fun s : Int32 × Mem => w_X11_readsRows_48 (nI (bmG k)) s.1 s.2) (1, M) = some (.inr (.inr (.inr (1, M)))) := by
        simp only [w_X11_readsRows_48]
        rw [if_neg (by decide), e18, if_pos (e0.2 hs)]
      rw [lp_end hb, b1_some]
      have hg : gz 1 = some 1 := rfl
      unfold rrK
      simp only
      rw [hg, b1_some]
      exact wq_some ⟨hF, rfl, hR⟩
    · rw [if_neg hs]
      have hbody : ∀ r, (if tyT B n i = bwG k then (if L.length = mxG k then (some (.inr (.inr (.inl M))) : Option ((Int32 × Mem) ⊕ (Mem ⊕ Mem ⊕ (Int32 × Mem)))) else (b2 (f_X11_aRow M) fun M14 x15 => if x15 = 0 then (lt (up2 M14 155 15 ((M14 155 15) + 0)) fun M17 => some (.inl (0, M17))) else (b2 (f_X11_need 159 M14) fun M18 x19 => if x19 = 0 then (lt (up2 M18 155 15 ((M18 155 15) + 0)) fun M21 => some (.inl (0, M21))) else (lt (up2 M18 155 15 ((M18 155 15) + 1)) fun M22 => some (.inl (1, M22)))))) else (some (.inr (.inl M)))) = r → (fun s : Int32 × Mem => w_X11_readsRows_48 (nI (bmG k)) s.1 s.2) (1, M) = r := by
        intro r hr
        simp only [w_X11_readsRows_48]
        rw [if_neg (by decide), e18, if_neg (fun z => hs (e0.1 z)), lt_eq, emx, hR.1]
        rw [← hr]
        by_cases z1 : tyT B n i = bwG k
        · rw [if_pos z1, if_pos (eb.2 z1)]
          by_cases z2 : L.length = mxG k
          · rw [if_pos z2, if_pos (by rw [z2])]
          · rw [if_neg z2, if_neg (by rw [nI_eq_iff (by omega) (by omega)]; exact z2)]
        · rw [if_neg z1, if_neg (fun y => z1 (eb.1 y))]
      by_cases hw : tyT B n i = bwG k
      · rw [if_pos hw]
        by_cases hfull : L.length = mxG k
        · rw [if_pos hfull, lp_end (hbody _ (by rw [if_pos hw, if_pos hfull])), b1_some]
          obtain ⟨p, b0, bF, b1'⟩ := pw_bad (N := N) (b := 0) (ok := fun (_ : Unit) _ => True) h (Fw2.refl 0 M) (x := 3) (w := 3) rfl
          exact wq_eq b0 ⟨hF.trans bF.fx, b1'⟩
        · rw [if_neg hfull]
          have hk' : M 156 80 = nI nk := by rw [hF.1 156 (by omega) (by omega)]; exact hk
          obtain ⟨⟨M14, x15⟩, u0, uF, um⟩ := aRow_ok hN hk4 h hi hw hR.1 (by omega) hk' hk6
          simp only at uF
          have fail : ∀ (e : Nat × Nat) (M9 : Mem), Fx M0 M9 → ((fun s : Int32 × Mem => w_X11_readsRows_48 (nI (bmG k)) s.1 s.2) (1, M) = some (.inl (0, up2 M9 155 15 ((M9 155 15) + 0)))) → (M9 155 21 = nI e.1 ∧ M9 155 22 = nI (plT B n e.2)) → Wq (b1 (lp (fun s => w_X11_readsRows_48 (nI (bmG k)) s.1 s.2) (fuel + 2) (1, M)) rrK) (PwR B n k M0 (.inl e)) := by
            rintro e M9 hF9 hb ⟨z2, z3⟩
            have hb2 : (fun s : Int32 × Mem => w_X11_readsRows_48 (nI (bmG k)) s.1 s.2) (0, up2 M9 155 15 ((M9 155 15) + 0)) = some (.inr (.inr (.inr (0, up2 M9 155 15 ((M9 155 15) + 0))))) := by
              simp only [w_X11_readsRows_48]
              rw [if_pos trivial]
            rw [lp_in hb, lp_end hb2, b1_some]
            have hg : gz 0 = some 0 := rfl
            unfold rrK
            simp only
            rw [hg, b1_some]
            refine wq_some ⟨hF9.trans Fx.u15, rfl, ?_, ?_⟩
            · show up2 M9 155 15 (M9 155 15 + 0) 155 21 = _
              rw [up2_slot _ _ _ (by omega)]; exact z2
            · show up2 M9 155 15 (M9 155 15 + 0) 155 22 = _
              rw [up2_slot _ _ _ (by omega)]; exact z3
          rw [row_split hk4, bnR_bnR]
          cases hS : rowS (tyT B n) (vlT B n) k nk i with
          | inl e =>
            rw [hS] at um
            obtain ⟨z1, z2⟩ := um
            simp only at z1
            rw [bnR_l]
            exact fail e M14 (hF.trans uF.fx) (hbody _ (by rw [if_pos hw, if_neg hfull, u0, b2_some, if_pos z1, lt_eq])) z2
          | inr q =>
            obtain ⟨j, r⟩ := q
            rw [hS] at um
            obtain ⟨z1, z2, z3, z4⟩ := um
            simp only at z1 z2 z3 z4
            rw [bnR_r]
            obtain ⟨⟨M18, x19⟩, v0, vF, vm⟩ := need_ok (ok := fun (_ : Unit) M' => M' 162 = M14 162) (b := wmG k * L.length + wmG k) (a := ()) (v := 159) (wd := 59) (x := 159) hN hk5 z3 z2 rfl (fun M' hF' => hF'.1 162 (by omega)) rfl (by omega) (by omega) (trA k hk5 _ (hT.2.2.2 j)).2.2.2
            simp only at vF
            have hbody2 : ∀ r', (if x19 = 0 then (some (.inl (0, up2 M18 155 15 ((M18 155 15) + 0))) : Option ((Int32 × Mem) ⊕ (Mem ⊕ Mem ⊕ (Int32 × Mem)))) else (some (.inl (1, up2 M18 155 15 ((M18 155 15) + 1))))) = r' → (fun s : Int32 × Mem => w_X11_readsRows_48 (nI (bmG k)) s.1 s.2) (1, M) = r' := by
              intro r' hr'
              exact hbody _ (by rw [if_pos hw, if_neg hfull, u0, b2_some, if_neg (by rw [z1]; decide), v0, b2_some, lt_eq, lt_eq]; exact hr')
            unfold nxG at vm ⊢
            by_cases h59 : tyT B n j = 59
            · rw [if_pos h59] at vm ⊢
              obtain ⟨y1, y2, y3, y4⟩ := vm
              simp only at y1 y2 y3 y4
              rw [bnR_r]
              have el : (L ++ [r]).length = L.length + 1 := by rw [List.length_append]; rfl
              have e15 : M18 155 15 = nI L.length := by rw [vF.2.1 15 (by omega), uF.2.1 15 (by omega)]; exact hR.1
              rw [lp_in (hbody2 _ (if_neg (by rw [y1]; decide))), e15, nI_inc, ← el]
              refine rowsm_run hN hk4 hk hk6 f (j + 1) (L ++ [r]) _ (fuel + 1) (by omega) (by omega) (by omega) (((hF.trans uF.fx).trans vF.fx).trans Fx.u15) y2 (y3.up (by omega)) ⟨up2_at _ _ _ _, ?_⟩
              intro q hq
              have c162 : up2 M18 155 15 (nI (L ++ [r]).length) 162 = M14 162 := by rw [up2_cell _ _ _ (by omega)]; exact y4
              by_cases e : q = L.length
              · rw [e, getD_app_at]
                exact z4.same hk4 (fun j _ => by rw [c162])
              · rw [getD_app_l _ (by omega)]
                have hle : wmG k * q + wmG k ≤ wmG k * L.length := by
                  have : wmG k * (q + 1) ≤ wmG k * L.length := Nat.mul_le_mul_left _ (by omega)
                  rw [Nat.mul_add, Nat.mul_one] at this
                  exact this
                exact (hR.2 q (by omega)).same hk4 (fun j hj => by rw [c162]; exact uF.2.2 j (by omega))
            · rw [if_neg h59] at vm ⊢
              obtain ⟨y1, y2⟩ := vm
              simp only at y1
              rw [bnR_l]
              exact fail (1, j) M18 ((hF.trans uF.fx).trans vF.fx) (hbody2 _ (if_pos y1)) y2
      · rw [if_neg hw, lp_end (hbody _ (by rw [if_neg hw])), b1_some]
        obtain ⟨p, b0, bF, b1'⟩ := pw_bad (N := N) (b := 0) (ok := fun (_ : Unit) _ => True) h (Fw2.refl 0 M) (x := 1) (w := 1) rfl
        exact wq_eq b0 ⟨hF.trans bF.fx, b1'⟩
theorem readsRows_ok (hN : okN B n N) {k nk : Nat} (hk4 : k = 0 ∨ k = 2 ∨ k = 3 ∨ k = 4) (hk : M 156 80 = nI nk) (hk6 : nk ≤ 6) (h : RSm B n k 0 M) : Wq (f_X11_readsRows M) (PwR B n k M (rowsG (tyT B n) (vlT B n) k nk 13 0 [])) := by
  unfold f_X11_readsRows
  have e12 : up2 M 155 15 0 155 12 = nI k := by rw [up2_slot _ _ _ (by omega)]; exact h.2.1
  have ebm : (if nI k = 0 then (7 : Int32) else (if nI k = 2 then 9 else (if nI k = 3 then 12 else 15))) = nI (bmG k) := by
    rcases hk4 with rfl | rfl | rfl | rfl <;> rfl
  rw [lt_eq, lt_eq, e12, ebm]
  exact rowsm_run hN hk4 hk hk6 13 0 [] (up2 M 155 15 0) FU rfl (Nat.zero_le _) (by unfold FU; omega) Fx.u15 (Nat.zero_le _) (h.up (by omega)) ⟨up2_at _ _ _ _, fun r hr => absurd hr (Nat.not_lt_zero _)⟩
end RDR
