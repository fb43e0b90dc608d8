/-! ===== PURE PART: what a market does, in the reference's row ===== -/
section OPM
variable {t : Bool} {A : AS} {M : Mem}
theorem RT.cnt {c k : Nat} {T : Tb} (h : RT c k T M) : M c (tcn k) = nI T.1 := h.1
theorem n156_4 (h : RMm 156 A M) : M 156 7 = nI (A.2.1 4).1 := (h.2.1 4 (by omega)).1
theorem n156_5 (h : RMm 156 A M) : M 156 5 = nI (A.2.1 5).1 := (h.2.1 5 (by omega)).1
theorem m_4 (h : RMm 156 A M) : (A.2.1 4).1 ≤ 14 := (h.2.1 4 (by omega)).2.1
theorem m_5 (h : RMm 156 A M) : (A.2.1 5).1 ≤ 150 := (h.2.1 5 (by omega)).2.1
theorem RT.addRow {c k : Nat} {T : Tb} {M' : Mem} (h : RT c k T M) (hlt : T.1 < tmx k) {v : Nat → Int32} (hn : M' c (tcn k) = nI (T.1 + 1)) (hv : ∀ j, j < twd k → M' c (tbs k + (T.1 * twd k + j)) = v j) (hs : ∀ r j, r < T.1 → j < twd k → M' c (tbs k + (r * twd k + j)) = M c (tbs k + (r * twd k + j))) : RT c k (tAdd T v) M' := by
  refine ⟨hn, hlt, ?_⟩
  intro r j hr hj
  show _ = if r = T.1 then v j else T.2 r j
  by_cases e : r = T.1
  · rw [if_pos e, e]; exact hv j hj
  · have hr' : r < T.1 + 1 := hr
    rw [if_neg e, hs r j (by omega) hj]
    exact h.2.2 r j (by omega) hj
theorem notes_ok (h : RMm 156 A M) (hL : A.2.2.length ≤ 16) (ht : M 155 26 = if t = true then 1 else 0) (a b c : Int32) : Wq (f_X11_notes a b c M) (fun M' => RMm 156 (sNote t A a b c) M' ∧ Out 156 157 M M') := by
  have hn := n156_5 h
  have hm := m_5 h
  have hd : M 156 0 = A.1 0 := h.1 0 (by omega)
  have hT := h.2.1 5 (by omega)
  unfold f_X11_notes
  rw [ht, hn]
  unfold sNote
  by_cases hc : t = true ∧ (A.2.1 5).1 < 150
  · rw [if_pos hc, if_pos hc.1]
    have i0 : (370 + (4 * nI (A.2.1 5).1)) = nI (370 + 4 * (A.2.1 5).1) := idx2 370 4 _
    have i1 : nI (370 + 4 * (A.2.1 5).1) + 1 = nI (370 + 4 * (A.2.1 5).1 + 1) := nI_add _ 1
    have i2 : nI (370 + 4 * (A.2.1 5).1) + 2 = nI (370 + 4 * (A.2.1 5).1 + 2) := nI_add _ 2
    have i3 : nI (370 + 4 * (A.2.1 5).1) + 3 = nI (370 + 4 * (A.2.1 5).1 + 3) := nI_add _ 3
    rw [if_neg (by
      rintro (q | q)
      · exact absurd q (by decide)
      · have q : nI (A.2.1 5).1 = nI 150 := q
        rw [nI_eq_iff (by omega) (by omega)] at q; omega), i0, i1, i2, i3, wr_nI la_156 (by omega) (by omega), b1_some, wr_nI la_156 (by omega) (by omega), b1_some, wr_nI la_156 (by omega) (by omega), b1_some, wr_nI la_156 (by omega) (by omega), b1_some, lt_eq, hd]
    refine wq_some ⟨?_, ?_⟩
    · refine h.putT hL (k := 5) (by omega) (hT.addRow (show (A.2.1 5).1 < 150 from hc.2) ?_ ?_ ?_) ?_
      · show up2 _ 156 5 _ 156 5 = _
        rw [up2_at, up2_slot _ _ _ (by omega), up2_slot _ _ _ (by omega), up2_slot _ _ _ (by omega), up2_slot _ _ _ (by omega), hn, nI_inc]
      · intro j hj
        have hj : j < 4 := hj
        show up2 _ 156 5 _ 156 (370 + ((A.2.1 5).1 * 4 + j)) = _
        simp only [up2_eq, true_and, row4]
        rw [if_neg (by omega)]
        have : j = 0 ∨ j = 1 ∨ j = 2 ∨ j = 3 := by omega
        rcases this with rfl | rfl | rfl | rfl
        · rw [if_neg (by omega), if_neg (by omega), if_neg (by omega), if_pos (by omega)]; simp
        · rw [if_neg (by omega), if_neg (by omega), if_pos (by omega)]; simp
        · rw [if_neg (by omega), if_pos (by omega)]; simp
        · rw [if_pos (by omega)]; simp
      · intro r j hr hj
        have hj : j < 4 := hj
        show up2 _ 156 5 _ 156 (370 + (r * 4 + j)) = M 156 (370 + (r * 4 + j))
        simp only [up2_eq, true_and]
        rw [if_neg (by omega), if_neg (by omega), if_neg (by omega), if_neg (by omega), if_neg (by omega)]
      · intro j hj
        have hj : ¬ (j = 5 ∨ (370 ≤ j ∧ j < 370 + 150 * 4)) := hj
        simp only [up2_eq, true_and]
        rw [if_neg (by omega), if_neg (by omega), if_neg (by omega), if_neg (by omega), if_neg (by omega)]
    · exact (((((Out.refl _ _ _).up (by omega) (by omega)).up (by omega) (by omega)).up (by omega) (by omega)).up (by omega) (by omega)).up (by omega) (by omega)
  · rw [if_neg hc, if_pos (by
      by_cases q : t = true
      · right
        have : (A.2.1 5).1 = 150 := by
          have : ¬ (A.2.1 5).1 < 150 := fun z => hc ⟨q, z⟩
          omega
        rw [this]; rfl
      · left; rw [if_neg q])]
    exact wq_some ⟨h, Out.refl _ _ _⟩
theorem comes_ok (h : RMm 156 A M) (hL : A.2.2.length ≤ 16) (hf : (A.2.1 4).1 < 14) (a b c d e : Int32) : Wq (f_X11_comes a b c d e M) (fun p => p.2 = nI (A.2.1 4).1 ∧ RMm 156 (setT A 4 (tAdd (A.2.1 4) (row5 a b c d e))) p.1 ∧ Out 156 157 M p.1) := by
  have hn := n156_4 h
  have hT := h.2.1 4 (by omega)
  unfold f_X11_comes
  rw [hn]
  have i0 : ((8 + (5 * nI (A.2.1 4).1)) + 0) = nI (8 + 5 * (A.2.1 4).1) := idx3 8 5 _ 0
  have i1 : ((8 + (5 * nI (A.2.1 4).1)) + 1) = nI (8 + 5 * (A.2.1 4).1 + 1) := idx3 8 5 _ 1
  have i2 : ((8 + (5 * nI (A.2.1 4).1)) + 2) = nI (8 + 5 * (A.2.1 4).1 + 2) := idx3 8 5 _ 2
  have i3 : ((8 + (5 * nI (A.2.1 4).1)) + 3) = nI (8 + 5 * (A.2.1 4).1 + 3) := idx3 8 5 _ 3
  have i4 : ((8 + (5 * nI (A.2.1 4).1)) + 4) = nI (8 + 5 * (A.2.1 4).1 + 4) := idx3 8 5 _ 4
  rw [i0, i1, i2, i3, i4, wr_nI la_156 (by omega) (by omega), b1_some, wr_nI la_156 (by omega) (by omega), b1_some, wr_nI la_156 (by omega) (by omega), b1_some, wr_nI la_156 (by omega) (by omega), b1_some, wr_nI la_156 (by omega) (by omega), b1_some, lt_eq]
  refine wq_some ⟨rfl, ?_, ?_⟩
  · simp only
    refine h.putT hL (k := 4) (by omega) (hT.addRow hf ?_ ?_ ?_) ?_
    · show up2 _ 156 7 _ 156 7 = _
      rw [up2_at, up2_slot _ _ _ (by omega), up2_slot _ _ _ (by omega), up2_slot _ _ _ (by omega), up2_slot _ _ _ (by omega), up2_slot _ _ _ (by omega), hn, nI_inc]
    · intro j hj
      have hj : j < 5 := hj
      show up2 _ 156 7 _ 156 (8 + ((A.2.1 4).1 * 5 + j)) = _
      simp only [up2_eq, true_and, row5]
      rw [if_neg (by omega)]
      have : j = 0 ∨ j = 1 ∨ j = 2 ∨ j = 3 ∨ j = 4 := by omega
      rcases this with rfl | rfl | rfl | rfl | rfl
      · rw [if_neg (by omega), if_neg (by omega), if_neg (by omega), if_neg (by omega), if_pos (by omega)]; simp
      · rw [if_neg (by omega), if_neg (by omega), if_neg (by omega), if_pos (by omega)]; simp
      · rw [if_neg (by omega), if_neg (by omega), if_pos (by omega)]; simp
      · rw [if_neg (by omega), if_pos (by omega)]; simp
      · rw [if_pos (by omega)]; simp
    · intro r j hr hj
      have hj : j < 5 := hj
      show up2 _ 156 7 _ 156 (8 + (r * 5 + j)) = M 156 (8 + (r * 5 + j))
      simp only [up2_eq, true_and]
      rw [if_neg (by omega), if_neg (by omega), if_neg (by omega), if_neg (by omega), if_neg (by omega), if_neg (by omega)]
    · intro j hj
      have hj : ¬ (j = 7 ∨ (8 ≤ j ∧ j < 8 + 14 * 5)) := hj
      simp only [up2_eq, true_and]
      rw [if_neg (by omega), if_neg (by omega), if_neg (by omega), if_neg (by omega), if_neg (by omega), if_neg (by omega)]
  · exact ((((((Out.refl _ _ _).up (by omega) (by omega)).up (by omega) (by omega)).up (by omega) (by omega)).up (by omega) (by omega)).up (by omega) (by omega)).up (by omega) (by omega)
theorem goesAway_ok (h : RMm 156 A M) (hL : A.2.2.length ≤ 16) {i : Nat} (hi : i < (A.2.1 4).1) : Wq (f_X11_goesAway (nI i) M) (fun M' => RMm 156 (setT A 4 (tDrop (A.2.1 4) i)) M' ∧ Out 156 157 M M') := by
  have hn := n156_4 h
  have hm := m_4 h
  have hT := h.2.1 4 (by omega)
  unfold f_X11_goesAway
  rw [lt_eq, hn, nI_dec' (by omega)]
  have i0 : (8 + (5 * nI i)) = nI (8 + 5 * i) := idx2 8 5 _
  rw [i0]
  refine wq_b1 (P := fun M' => (∀ x, M' 156 x = if x = 7 then nI ((A.2.1 4).1 - 1) else if 8 + 5 * i ≤ x ∧ x < 8 + 5 * ((A.2.1 4).1 - 1) then M 156 (x + 5) else M 156 x) ∧ Out 156 157 M M') (lp_to (fun k s => s.1 = nI (8 + 5 * i + k) ∧ (∀ x, s.2 156 x = if x = 7 then nI ((A.2.1 4).1 - 1) else if 8 + 5 * i ≤ x ∧ x < 8 + 5 * i + k then M 156 (x + 5) else M 156 x) ∧ Out 156 157 M s.2) (5 * ((A.2.1 4).1 - 1 - i)) ?_ ?_ _ ?_ (by omega)) ?_
  · rintro k ⟨j, N⟩ hk ⟨hj, hx, hO⟩
    simp only at hj hx hO
    subst hj
    unfold w_X11_goesAway_18
    have e7 : N 156 7 = nI ((A.2.1 4).1 - 1) := by rw [hx]; simp
    have i1 : (8 + (5 * nI ((A.2.1 4).1 - 1))) = nI (8 + 5 * ((A.2.1 4).1 - 1)) := idx2 8 5 _
    have i2 : nI (8 + 5 * i + k) + 5 = nI (8 + 5 * i + k + 5) := nI_add _ 5
    simp only
    rw [e7, i1, if_neg (by rw [nI_le_iff (by omega) (by omega)]; omega), i2, rd_nI la_156 (by omega) (by omega), b1_some, wr_nI la_156 (by omega) (by omega), b1_some, nI_inc]
    refine ⟨_, rfl, rfl, ?_, hO.up (by omega) (by omega)⟩
    intro x
    simp only [up2_eq, true_and]
    by_cases q : x = 8 + 5 * i + k
    · subst q
      rw [if_pos rfl, if_neg (by omega), if_pos (by omega), hx, if_neg (by omega), if_neg (by omega)]
    · rw [if_neg q, hx]
      by_cases q7 : x = 7
      · rw [if_pos q7, if_pos q7]
      · rw [if_neg q7, if_neg q7]
        by_cases q8 : 8 + 5 * i ≤ x ∧ x < 8 + 5 * i + k
        · rw [if_pos q8, if_pos (by omega)]
        · rw [if_neg q8, if_neg (by omega)]
  · rintro ⟨j, N⟩ ⟨hj, hx, hO⟩
    simp only at hj hx hO
    subst hj
    unfold w_X11_goesAway_18
    have e7 : N 156 7 = nI ((A.2.1 4).1 - 1) := by rw [hx]; simp
    have i1 : (8 + (5 * nI ((A.2.1 4).1 - 1))) = nI (8 + 5 * ((A.2.1 4).1 - 1)) := idx2 8 5 _
    simp only
    rw [e7, i1, if_pos (by rw [nI_le_iff (by omega) (by omega)]; omega)]
    refine ⟨_, rfl, ?_, hO⟩
    intro x
    rw [hx]
    by_cases q7 : x = 7
    · rw [if_pos q7, if_pos q7]
    · rw [if_neg q7, if_neg q7]
      by_cases q8 : 8 + 5 * i ≤ x ∧ x < 8 + 5 * ((A.2.1 4).1 - 1)
      · rw [if_pos q8, if_pos (by omega)]
      · rw [if_neg q8, if_neg (by omega)]
  · refine ⟨rfl, ?_, (Out.refl _ _ _).up (by omega) (by omega)⟩
    intro x
    simp only [up2_eq, true_and]
    by_cases q7 : x = 7
    · rw [if_pos q7, if_pos q7]
    · rw [if_neg q7, if_neg q7, if_neg (by omega)]
  · rintro N ⟨hx, hO⟩
    refine wq_some ⟨?_, hO⟩
    refine h.putT hL (k := 4) (by omega) ⟨?_, ?_, ?_⟩ ?_
    · show N 156 7 = _
      rw [hx, if_pos rfl]; rfl
    · show (A.2.1 4).1 - 1 ≤ 14
      omega
    · intro r j hr hj
      have hj : j < 5 := hj
      have hr : r < (A.2.1 4).1 - 1 := hr
      show N 156 (8 + (r * 5 + j)) = if r < i then (A.2.1 4).2 r j else (A.2.1 4).2 (r + 1) j
      rw [hx, if_neg (by omega)]
      by_cases q : r < i
      · rw [if_pos q, if_neg (by omega)]
        exact hT.2.2 r j (by omega) hj
      · rw [if_neg q, if_pos (by omega)]
        have := hT.2.2 (r + 1) j (by omega) hj
        have e : 8 + (r * 5 + j) + 5 = tbs 4 + ((r + 1) * twd 4 + j) := by simp [tbs, twd]; omega
        rw [e]
        exact this
    · intro j hj
      have hj : ¬ (j = 7 ∨ (8 ≤ j ∧ j < 8 + 14 * 5)) := hj
      rw [hx, if_neg (by omega), if_neg (by omega)]
/-- the reference's days write its row and the law's scratch alone -/
def Mo (M M' : Mem) : Prop := ∀ a, a ≠ 156 → a ≠ 164 → a ≠ 165 → M' a = M a
theorem Mo.refl (M : Mem) : Mo M M := fun _ _ _ _ => rfl
theorem Mo.trans {M M1 M2 : Mem} (h : Mo M M1) (h2 : Mo M1 M2) : Mo M M2 := fun a b c d => (h2 a b c d).trans (h a b c d)
theorem Mo.w {M M1 : Mem} (h : Out 156 157 M M1) : Mo M M1 := fun a b c d => h a (by omega)
theorem Mo.s {M M1 : Mem} (h : Out 164 166 M M1) : Mo M M1 := fun a b c d => h a (by omega)
theorem OKL.len {L : LwT} (h : OKL L) : L.length ≤ 16 := h.1
theorem feasts_ok (h : RMm 156 A M) (ht : M 155 26 = if t = true then 1 else 0) (hL : OKL A.2.2) {k : Nat} (hk : k < (A.2.1 0).1) (g : Int32) : Wq (f_X11_feasts (nI k) g M) (fun p => p.2 = (sFeast t A k g).2 ∧ RMm 156 (sFeast t A k g).1 p.1 ∧ Mo M p.1) := by
  have hn := n156_4 h
  have hm := m_4 h
  have e3 : M 156 3 = A.1 3 := h.1 3 (by omega)
  unfold f_X11_feasts sFeast
  rw [hn]
  by_cases hf : (A.2.1 4).1 < 14
  · rw [if_neg (by
      intro q
      have q : nI (A.2.1 4).1 = nI 14 := q
      rw [nI_eq_iff (by omega) (by omega)] at q; omega), if_pos hf]
    refine wq_b2 (leftOf_ok h hL hk g) ?_
    rintro M2 x ⟨hx, hO2⟩
    simp only at hx hO2
    subst hx
    have h2 := h.out hO2 (by omega)
    have e3' : M2 156 3 = A.1 3 := h2.1 3 (by omega)
    rw [lt_eq, e3']
    have h4 : RMm 156 (setN A 3 (A.1 3 + 1)) (up2 M2 156 3 (A.1 3 + 1)) := h2.upN hL.1 (k := 3) (by omega) _
    have hO4 : Out 156 157 M2 (up2 M2 156 3 (A.1 3 + 1)) := (Out.refl _ _ _).up (by omega) (by omega)
    by_cases hz : leftS A k g ≤ 0
    · rw [if_pos hz, if_pos hz]
      refine wq_b1 (notes_ok (t := t) h4 hL.1 (by rw [hO4 155 (by omega), hO2 155 (by omega)]; exact ht) 0 (nI k) (leftS A k g)) ?_
      rintro M6 ⟨h6, hO6⟩
      exact wq_some ⟨rfl, h6, ((Mo.s hO2).trans (Mo.w hO4)).trans (Mo.w hO6)⟩
    · rw [if_neg hz, if_neg hz]
      refine wq_b2 (edgeOf_ok h4 hL hk g) ?_
      rintro M7 y ⟨hy, hO7⟩
      simp only at hy hO7
      have hy' : y = edgeS A k g := hy
      subst hy'
      have h7 := h4.out hO7 (by omega)
      have d7 : M7 156 0 = A.1 0 := h7.1 0 (by omega)
      rw [d7]
      refine wq_b2 (comes_ok h7 hL.1 hf _ _ _ _ _) ?_
      rintro M9 z ⟨_, h9, hO9⟩
      simp only at h9 hO9
      refine wq_b1 (notes_ok (t := t) h9 hL.1 (by rw [hO9 155 (by omega), hO7 155 (by omega), hO4 155 (by omega), hO2 155 (by omega)]; exact ht) 0 (nI k) (leftS A k g)) ?_
      rintro M11 ⟨h11, hO11⟩
      exact wq_some ⟨rfl, h11, ((((Mo.s hO2).trans (Mo.w hO4)).trans (Mo.s hO7)).trans (Mo.w hO9)).trans (Mo.w hO11)⟩
  · rw [if_pos (by rw [show (A.2.1 4).1 = 14 from by omega]; rfl), if_neg hf, lt_eq, e3]
    have h4 : RMm 156 (setN A 3 (A.1 3 + 1)) (up2 M 156 3 (A.1 3 + 1)) := h.upN hL.1 (k := 3) (by omega) _
    have hO4 : Out 156 157 M (up2 M 156 3 (A.1 3 + 1)) := (Out.refl _ _ _).up (by omega) (by omega)
    refine wq_b1 (notes_ok (t := t) h4 hL.1 (by rw [hO4 155 (by omega)]; exact ht) 0 (nI k) 0) ?_
    rintro M6 ⟨h6, hO6⟩
    exact wq_some ⟨rfl, h6, (Mo.w hO4).trans (Mo.w hO6)⟩
end OPM
