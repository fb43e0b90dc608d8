/-! ===== PURE PART: what can be undone ===== -/
/-- a market ahead of a step: its numbers, its remains, how long its book was -/
abbrev Sn : Type := (Nat → Int32) × Tb × Nat
abbrev Ps : Type := Nat × (Nat → Sn)
def snap (A : AS) : Sn := (A.1, A.2.1 4, (A.2.1 5).1)
def pKeep (P : Ps) (S : Sn) : Ps := if P.1 = 6 then (6, fun j => if j = 5 then S else P.2 (j + 1)) else (P.1 + 1, fun j => if j = P.1 then S else P.2 j)
def sBack (A : AS) (S : Sn) : AS := ((fun k => if k < 6 then S.1 k else A.1 k), (fun k => if k = 4 then S.2.1 else if k = 5 then (S.2.2, (A.2.1 5).2) else A.2.1 k), A.2.2)
/-! the reference -/
def RSn (b : Nat) (S : Sn) (M : Mem) : Prop := (∀ k, k < 6 → M 158 (b + nsl k) = S.1 k) ∧ M 158 (b + 5) = nI S.2.2 ∧ M 158 (b + 7) = nI S.2.1.1 ∧ S.2.1.1 ≤ 14 ∧ ∀ r j, r < S.2.1.1 → j < 5 → M 158 (b + (8 + (r * 5 + j))) = S.2.1.2 r j
def RPm (P : Ps) (M : Mem) : Prop := M 155 4 = nI P.1 ∧ P.1 ≤ 6 ∧ ∀ j, j < P.1 → RSn (80 * j) (P.2 j) M
theorem nsl_80 {k : Nat} (h : k < 6) : nsl k < 80 := by
  have : k = 0 ∨ k = 1 ∨ k = 2 ∨ k = 3 ∨ k = 4 ∨ k = 5 := by omega
  rcases this with rfl | rfl | rfl | rfl | rfl | rfl <;> decide
theorem RSn.mv {b b' : Nat} {S : Sn} {M N : Mem} (h : RSn b S M) (hx : ∀ x, x < 80 → N 158 (b' + x) = M 158 (b + x)) : RSn b' S N := by
  obtain ⟨h1, h2, h3, h4, h5⟩ := h
  refine ⟨fun k hk => by rw [hx _ (nsl_80 hk)]; exact h1 k hk, by rw [hx _ (by omega)]; exact h2, by rw [hx _ (by omega)]; exact h3, h4, ?_⟩
  intro r j hr hj
  rw [hx _ (by omega)]
  exact h5 r j hr hj
theorem RSn.of {A : AS} {M N : Mem} {b : Nat} (h : RMm 156 A M) (hx : ∀ x, x < 80 → N 158 (b + x) = M 156 x) : RSn b (snap A) N := by
  have hT := h.2.1 4 (by omega)
  refine ⟨fun k hk => by rw [hx _ (nsl_80 hk)]; exact h.1 k (by omega), by rw [hx _ (by omega)]; exact n156_5 h, by rw [hx _ (by omega)]; exact n156_4 h, m_4 h, ?_⟩
  intro r j hr hj
  have hm := m_4 h
  have hr : r < (A.2.1 4).1 := hr
  rw [hx _ (by omega)]
  exact hT.2.2 r j hr hj
theorem la_158 : la 158 = some 480 := by decide +kernel
theorem w51a_eq : w_X11_keeps_51a = w_X11_keeps_51 := rfl
theorem keeps_copy {M : Mem} {m : Nat} (hm : M 155 4 = nI m) (hm5 : m ≤ 5) : Wq (lp (fun s => w_X11_keeps_51 s.1 s.2) FU (0, M)) (fun M' => (∀ x, M' 158 x = if 80 * m ≤ x ∧ x < 80 * m + 80 then M 156 (x - 80 * m) else M 158 x) ∧ Out 158 159 M M') := by
  refine lp_to (fun k s => s.1 = nI k ∧ (∀ x, s.2 158 x = if 80 * m ≤ x ∧ x < 80 * m + k then M 156 (x - 80 * m) else M 158 x) ∧ Out 158 159 M s.2) 80 ?_ ?_ _ ?_ (by omega)
  · rintro k ⟨i, N⟩ hk ⟨hi, hx, hO⟩
    simp only at hi hx hO
    subst hi
    unfold w_X11_keeps_51
    have e : N 155 4 = nI m := by rw [hO 155 (by omega)]; exact hm
    have i0 : (80 * nI m) + nI k = nI (80 * m + k) := by
      show nI 80 * nI m + nI k = _
      rw [nI_mul, nI_add]
    simp only
    rw [if_neg (by
      intro q
      have q : nI 80 ≤ nI k := q
      rw [nI_le_iff (by omega) (by omega)] at q; omega), rd_nI la_156 (by omega) (by omega), b1_some, e, i0, wr_nI la_158 (by omega) (by omega), b1_some, nI_inc, hO 156 (by omega)]
    refine ⟨_, rfl, rfl, ?_, hO.up (by omega) (by omega)⟩
    intro x
    simp only [up2_eq, true_and]
    by_cases q : x = 80 * m + k
    · rw [if_pos q, if_pos (by omega), q, Nat.add_sub_cancel_left]
    · rw [if_neg q, hx]
      by_cases q2 : 80 * m ≤ x ∧ x < 80 * m + k
      · rw [if_pos q2, if_pos (by omega)]
      · rw [if_neg q2, if_neg (by omega)]
  · rintro ⟨i, N⟩ ⟨hi, hx, hO⟩
    simp only at hi hx hO
    subst hi
    unfold w_X11_keeps_51
    simp only
    rw [if_pos (by decide)]
    exact ⟨_, rfl, hx, hO⟩
  · refine ⟨rfl, ?_, Out.refl _ _ _⟩
    intro x
    simp only
    rw [if_neg (by omega)]
theorem keeps_shift (M : Mem) : Wq (lp (fun s => w_X11_keeps_11 s.1 s.2) FU (0, M)) (fun M' => (∀ x, M' 158 x = if x < 400 then M 158 (x + 80) else M 158 x) ∧ Out 158 159 M M') := by
  refine lp_to (fun k s => s.1 = nI k ∧ (∀ x, s.2 158 x = if x < k then M 158 (x + 80) else M 158 x) ∧ Out 158 159 M s.2) 400 ?_ ?_ _ ?_ (by omega)
  · rintro k ⟨i, N⟩ hk ⟨hi, hx, hO⟩
    simp only at hi hx hO
    subst hi
    unfold w_X11_keeps_11
    have i0 : nI k + 80 = nI (k + 80) := nI_add k 80
    simp only
    rw [if_neg (by
      intro q
      have q : nI 400 ≤ nI k := q
      rw [nI_le_iff (by omega) (by omega)] at q; omega), i0, rd_nI la_158 (by omega) (by omega), b1_some, wr_nI la_158 (by omega) (by omega), b1_some, nI_inc]
    refine ⟨_, rfl, rfl, ?_, hO.up (by omega) (by omega)⟩
    intro x
    simp only [up2_eq, true_and]
    by_cases q : x = k
    · rw [if_pos q, if_pos (by omega), hx, if_neg (by omega), q]
    · rw [if_neg q, hx]
      by_cases q2 : x < k
      · rw [if_pos q2, if_pos (by omega)]
      · rw [if_neg q2, if_neg (by omega)]
  · rintro ⟨i, N⟩ ⟨hi, hx, hO⟩
    simp only at hi hx hO
    subst hi
    unfold w_X11_keeps_11
    simp only
    rw [if_pos (by decide)]
    exact ⟨_, rfl, hx, hO⟩
  · refine ⟨rfl, ?_, Out.refl _ _ _⟩
    intro x
    simp only
    rw [if_neg (by omega)]
theorem keeps_ok {A : AS} {P : Ps} {M : Mem} (h : RMm 156 A M) (hP : RPm P M) : Wq (f_X11_keeps M) (fun M' => RPm (pKeep P (snap A)) M' ∧ M' 155 26 = 1 ∧ (∀ j, j ≠ 4 → j ≠ 26 → M' 155 j = M 155 j) ∧ ∀ a, a ≠ 155 → a ≠ 158 → M' a = M a) := by
  obtain ⟨hn, hle, hs⟩ := hP
  unfold f_X11_keeps pKeep
  rw [hn]
  by_cases h6 : P.1 = 6
  · rw [if_pos (by rw [h6]; rfl), if_pos h6]
    refine wq_b1 (keeps_shift M) ?_
    rintro N ⟨hx, hO⟩
    have e4 : N 155 4 = nI 6 := by rw [hO 155 (by omega), hn, h6]
    rw [lt_eq, e4, show nI 6 - 1 = nI 5 from rfl, w51a_eq]
    refine wq_b1 (keeps_copy (M := up2 N 155 4 (nI 5)) (m := 5) (up2_at _ _ _ _) (by omega)) ?_
    rintro N2 ⟨hx2, hO2⟩
    have e5 : N2 155 4 = nI 5 := by rw [hO2 155 (by omega), up2_at]
    rw [lt_eq, lt_eq, e5]
    refine wq_some ⟨⟨?_, by simp, ?_⟩, up2_at _ _ _ _, ?_, ?_⟩
    · rw [up2_slot _ _ _ (by omega), up2_at]; rfl
    · intro j hj
      have hj : j < 6 := hj
      show RSn (80 * j) (if j = 5 then snap A else P.2 (j + 1)) _
      by_cases q : j = 5
      · rw [if_pos q]
        refine RSn.of (M := M) h ?_
        intro x hx'
        rw [up2_cell _ _ _ (by omega), up2_cell _ _ _ (by omega), hx2, if_pos (by omega), up2_cell _ _ _ (by omega), hO 156 (by omega), show 80 * j + x - 80 * 5 = x from by omega]
      · rw [if_neg q]
        refine (hs (j + 1) (by omega)).mv ?_
        intro x hx'
        rw [up2_cell _ _ _ (by omega), up2_cell _ _ _ (by omega), hx2, if_neg (by omega), up2_cell _ _ _ (by omega), hx, if_pos (by omega), show 80 * j + x + 80 = 80 * (j + 1) + x from by omega]
    · intro j h4 h26
      rw [up2_slot _ _ _ h26, up2_slot _ _ _ h4, hO2 155 (by omega), up2_slot _ _ _ h4, hO 155 (by omega)]
    · intro a h155 h158
      rw [up2_cell _ _ _ h155, up2_cell _ _ _ h155, hO2 a (by omega), up2_cell _ _ _ h155, hO a (by omega)]
  · rw [if_neg (by
      intro q
      have q : nI P.1 = nI 6 := q
      rw [nI_eq_iff (by omega) (by omega)] at q; omega), if_neg h6]
    refine wq_b1 (keeps_copy (M := M) (m := P.1) hn (by omega)) ?_
    rintro N2 ⟨hx2, hO2⟩
    have e5 : N2 155 4 = nI P.1 := by rw [hO2 155 (by omega), hn]
    rw [lt_eq, lt_eq, e5, nI_inc]
    refine wq_some ⟨⟨?_, by show P.1 + 1 ≤ 6; omega, ?_⟩, up2_at _ _ _ _, ?_, ?_⟩
    · rw [up2_slot _ _ _ (by omega), up2_at]
    · intro j hj
      have hj : j < P.1 + 1 := hj
      show RSn (80 * j) (if j = P.1 then snap A else P.2 j) _
      by_cases q : j = P.1
      · rw [if_pos q]
        refine RSn.of (M := M) h ?_
        intro x hx'
        rw [up2_cell _ _ _ (by omega), up2_cell _ _ _ (by omega), hx2, if_pos (by omega), show 80 * j + x - 80 * P.1 = x from by omega]
      · rw [if_neg q]
        refine (hs j (by omega)).mv ?_
        intro x hx'
        rw [up2_cell _ _ _ (by omega), up2_cell _ _ _ (by omega), hx2, if_neg (by omega)]
    · intro j h4 h26
      rw [up2_slot _ _ _ h26, up2_slot _ _ _ h4, hO2 155 (by omega)]
    · intro a h155 h158
      rw [up2_cell _ _ _ h155, up2_cell _ _ _ h155, hO2 a (by omega)]
theorem undo_copy {M : Mem} {m : Nat} (hm : M 155 4 = nI m) (hm5 : m ≤ 5) : Wq (lp (fun s => w_X11_undo_21 s.1 s.2) FU (0, M)) (fun M' => (∀ x, M' 156 x = if x < 80 then M 158 (80 * m + x) else M 156 x) ∧ Out 156 157 M M') := by
  refine lp_to (fun k s => s.1 = nI k ∧ (∀ x, s.2 156 x = if x < k then M 158 (80 * m + x) else M 156 x) ∧ Out 156 157 M s.2) 80 ?_ ?_ _ ?_ (by omega)
  · rintro k ⟨i, N⟩ hk ⟨hi, hx, hO⟩
    simp only at hi hx hO
    subst hi
    unfold w_X11_undo_21
    have e : N 155 4 = nI m := by rw [hO 155 (by omega)]; exact hm
    have i0 : (80 * nI m) + nI k = nI (80 * m + k) := by
      show nI 80 * nI m + nI k = _
      rw [nI_mul, nI_add]
    simp only
    rw [if_neg (by
      intro q
      have q : nI 80 ≤ nI k := q
      rw [nI_le_iff (by omega) (by omega)] at q; omega), e, i0, rd_nI la_158 (by omega) (by omega), b1_some, wr_nI la_156 (by omega) (by omega), b1_some, nI_inc, hO 158 (by omega)]
    refine ⟨_, rfl, rfl, ?_, hO.up (by omega) (by omega)⟩
    intro x
    simp only [up2_eq, true_and]
    by_cases q : x = k
    · rw [if_pos q, if_pos (by omega), q]
    · rw [if_neg q, hx]
      by_cases q2 : x < k
      · rw [if_pos q2, if_pos (by omega)]
      · rw [if_neg q2, if_neg (by omega)]
  · rintro ⟨i, N⟩ ⟨hi, hx, hO⟩
    simp only at hi hx hO
    subst hi
    unfold w_X11_undo_21
    simp only
    rw [if_pos (by decide)]
    exact ⟨_, rfl, hx, hO⟩
  · refine ⟨rfl, ?_, Out.refl _ _ _⟩
    intro x
    simp only
    rw [if_neg (by omega)]
theorem undo_m {A : AS} {P : Ps} {M : Mem} (h : RMm 156 A M) (hL : A.2.2.length ≤ 16) (hP : RPm P M) (h0 : 0 < P.1) (hb : (P.2 (P.1 - 1)).2.2 ≤ (A.2.1 5).1) : Wq (f_X11_undo M) (fun p => p.2 = 1 ∧ RMm 156 (sBack A (P.2 (P.1 - 1))) p.1 ∧ RPm (P.1 - 1, P.2) p.1 ∧ (∀ j, j ≠ 4 → p.1 155 j = M 155 j) ∧ ∀ a, a ≠ 155 → a ≠ 156 → p.1 a = M a) := by
  obtain ⟨hn, hle, hs⟩ := hP
  have hm5 := m_5 h
  unfold f_X11_undo
  rw [hn, if_neg (nI_ne0 (by omega) (by omega)), lt_eq, nI_dec' h0]
  refine wq_b1 (undo_copy (M := up2 M 155 4 (nI (P.1 - 1))) (m := P.1 - 1) (up2_at _ _ _ _) (by omega)) ?_
  rintro N ⟨hx, hO⟩
  obtain ⟨s1, s2, s3, s4, s5⟩ := hs (P.1 - 1) (by omega)
  have hx' : ∀ x, N 156 x = if x < 80 then M 158 (80 * (P.1 - 1) + x) else M 156 x := by
    intro x
    rw [hx, up2_cell _ _ _ (by omega), up2_cell _ _ _ (by omega)]
  have big : ∀ k, k < 10 → k ≠ 4 → k ≠ 5 → ∀ j, inReg k j → 80 ≤ j := by
    intro k hk h4 h5 j hj
    rcases lt10 hk with rfl | rfl | rfl | rfl | rfl | rfl | rfl | rfl | rfl | rfl <;> first | exact absurd rfl h4 | exact absurd rfl h5 | (simp [inReg, tcn, tbs, twd, tmx] at hj; omega)
  refine wq_some ⟨rfl, ⟨?_, ?_, ?_⟩, ⟨?_, by show P.1 - 1 ≤ 6; omega, ?_⟩, ?_, ?_⟩
  · intro k hk
    show N 156 (nsl k) = if k < 6 then (P.2 (P.1 - 1)).1 k else A.1 k
    by_cases q : k < 6
    · rw [if_pos q, hx', if_pos (nsl_80 q)]; exact s1 k q
    · rw [if_neg q, hx']
      have : k = 6 ∨ k = 7 := by omega
      rcases this with rfl | rfl
      · rw [if_neg (by decide)]; exact h.1 6 (by omega)
      · rw [if_neg (by decide)]; exact h.1 7 (by omega)
  · intro k hk
    show RT 156 k (if k = 4 then (P.2 (P.1 - 1)).2.1 else if k = 5 then ((P.2 (P.1 - 1)).2.2, (A.2.1 5).2) else A.2.1 k) N
    by_cases q4 : k = 4
    · subst q4
      rw [if_pos rfl]
      refine ⟨?_, s4, ?_⟩
      · show N 156 7 = _
        rw [hx', if_pos (by omega)]; exact s3
      · intro r j hr hj
        have hj : j < 5 := hj
        show N 156 (8 + (r * 5 + j)) = _
        rw [hx', if_pos (by omega)]
        exact s5 r j hr hj
    · rw [if_neg q4]
      by_cases q5 : k = 5
      · subst q5
        rw [if_pos rfl]
        refine ⟨?_, by show _ ≤ 150; simp only; omega, ?_⟩
        · show N 156 5 = _
          rw [hx', if_pos (by omega)]; exact s2
        · intro r j hr hj
          show N 156 (370 + (r * 4 + j)) = _
          rw [hx', if_neg (by omega)]
          exact (h.2.1 5 (by omega)).2.2 r j (Nat.lt_of_lt_of_le hr hb) hj
      · rw [if_neg q5]
        refine (h.2.1 k hk).congr ?_
        intro j hj
        have := big k hk q4 q5 j hj
        rw [hx', if_neg (by omega)]
  · refine h.2.2.congr hL ?_
    intro j hj
    simp only
    rw [hx', if_neg (by omega)]
  · show N 155 4 = nI (P.1 - 1)
    rw [hO 155 (by omega), up2_at]
  · intro j hj
    have hj : j < P.1 - 1 := hj
    refine (hs j (by omega)).mv ?_
    intro x _
    show N 158 _ = M 158 _
    rw [hO 158 (by omega), up2_cell _ _ _ (by omega)]
  · intro j hj
    show N 155 j = _
    rw [hO 155 (by omega), up2_slot _ _ _ hj]
  · intro a h1 h2
    show N a = _
    rw [hO a (by omega), up2_cell _ _ _ h1]
