/-! ===== PURE PART: forge, cut, join, sell, undo ===== -/
theorem RMm.put4 {A : AS} {M : Mem} (h : RMm 156 A M) (hL : A.2.2.length ≤ 16) {r c : Nat} (hr : r < (A.2.1 4).1) (hc : c < 5) (v : Int32) : RMm 156 (setT A 4 (tPut (A.2.1 4) r c v)) (up2 M 156 (8 + 5 * r + c) v) := by
  have hT := h.2.1 4 (by omega)
  have hm := m_4 h
  refine h.putT hL (k := 4) (by omega) ⟨?_, hT.2.1, ?_⟩ ?_
  · show up2 M 156 _ v 156 7 = _
    rw [up2_slot _ _ _ (by omega)]; exact hT.1
  · intro r' j hr' hj
    have hj : j < 5 := hj
    have hr' : r' < (A.2.1 4).1 := hr'
    show up2 M 156 _ v 156 (8 + (r' * 5 + j)) = if r' = r ∧ j = c then v else (A.2.1 4).2 r' j
    by_cases q : r' = r ∧ j = c
    · rw [if_pos q, q.1, q.2, show 8 + (r * 5 + c) = 8 + 5 * r + c from by omega, up2_at]
    · rw [if_neg q, up2_slot _ _ _ (by omega)]
      exact hT.2.2 r' j hr' hj
  · intro j hj
    have hj : ¬ (j = 7 ∨ (8 ≤ j ∧ j < 8 + 14 * 5)) := hj
    rw [up2_slot _ _ _ (by omega)]
theorem rd4 {A : AS} {M : Mem} (h : RMm 156 A M) {r : Nat} (hr : r < (A.2.1 4).1) (c : Nat) (hx : (OfNat.ofNat c : Int32) = nI c) (hc : c < 5) : rd M 156 ((8 + (5 * nI r)) + OfNat.ofNat c) = some ((A.2.1 4).2 r c) := by
  have e : ((8 + (5 * nI r)) + nI c) = nI (8 + 5 * r + c) := idx3 8 5 r c
  rw [hx, e]
  exact rt_rd h (k := 4) (by omega) hr (j := c) hc (by simp [tbs, twd]; omega)
theorem wr4 {M : Mem} {r : Nat} (hr : r < 14) (c : Nat) (hx : (OfNat.ofNat c : Int32) = nI c) (hc : c < 5) (v : Int32) : wr M 156 ((8 + (5 * nI r)) + OfNat.ofNat c) v = some (up2 M 156 (8 + 5 * r + c) v) := by
  have e : ((8 + (5 * nI r)) + nI c) = nI (8 + 5 * r + c) := idx3 8 5 r c
  rw [hx, e]
  exact wr_nI la_156 (by omega) (by omega)
theorem tPut_same (T : Tb) (r c : Nat) (v : Int32) : (tPut T r c v).2 r c = v := by
  show (if r = r ∧ c = c then v else _) = v
  rw [if_pos ⟨rfl, rfl⟩]
theorem c_forge (a s : Int32) {M : Mem} (h : Inv M) : ∃ M1 M2 r, f_X10_forge a s M = some (M1, r) ∧ f_X11_forge a s M1 = some (M2, r) ∧ Inv M2 := by
  refine both_ok (fc := fun M => f_X10_forge a s M) (fm := fun M => f_X11_forge a s M) h ?_
  rintro ⟨A, I, P, tp, ft⟩ hC hM hG
  have hle : (A.2.1 0).1 ≤ 150 := m_k hM (k := 0) (by omega)
  have hle4 : (A.2.1 4).1 ≤ 14 := m_4 hM.1
  have hT := hC.1.t0
  have hcoin : M 1 11 = A.1 1 := hC.1.1.2.2.1
  have hn : ∀ M1, InvM (A, I, P, tp, ft) M1 → M1 156 80 = nI (A.2.1 0).1 := fun M1 h1 => ans_m 0 (by omega) h1
  have hn4 : ∀ M1, InvM (A, I, P, tp, ft) M1 → M1 156 7 = nI (A.2.1 4).1 := fun M1 h1 => ans_m 4 (by omega) h1
  have hn1 : ∀ M1, InvM (A, I, P, tp, ft) M1 → M1 156 1 = A.1 1 := fun M1 h1 => num_m 1 (by omega) h1
  have hfull : f_X8_isFull (1 + 9) M = if (A.2.1 4).1 < 14 then 0 else 1 := isFull_4 hC.1
  rcases idx_cases a (n := (A.2.1 0).1) (by omega) with z | ⟨k, hk, rfl⟩
  · refine ⟨(A, I, P, tp, ft), -1, hG, ?_, fun M1 hM1 => ?_⟩
    · show Wq (f_X10_forge a s M) _
      unfold f_X10_forge f_X6_forgingCanBe
      rw [if_pos ((has0 hT a).2 z), b1_some, if_pos rfl]
      exact wq_some ⟨rfl, hC, Hi.refl _⟩
    · show Wq (f_X11_forge a s M1) _
      unfold f_X11_forge f_X11_isKind
      rw [hn M1 hM1, if_pos ((isInm_pred (by omega) a).2 z)]
      exact wq_some ⟨rfl, hM1, Lo.refl _⟩
  · have hin := idx_in hk (by omega)
    have c0 : ¬ f_X8_has (1 + 1) (nI k) M = 0 := fun z => hin ((has0 hT _).1 z)
    have m0 : ∀ M1, InvM (A, I, P, tp, ft) M1 → ¬ f_X11_isKind (nI k) M1 = 0 := by
      intro M1 h1 z
      unfold f_X11_isKind at z
      rw [hn M1 h1, isInm_pred (by omega)] at z
      exact hin z
    by_cases q : (s < 1 ∨ (A.2.1 0).2 k 0 - 1 < s) ∨ (A.1 1 < 20 ∨ ¬ (A.2.1 4).1 < 14)
    · refine ⟨(A, I, P, tp, ft), -1, hG, ?_, fun M1 hM1 => ?_⟩
      · show Wq (f_X10_forge (nI k) s M) _
        unfold f_X10_forge f_X6_forgingCanBe
        rw [if_neg c0, at_lit hT 0 rfl hk (by omega), b1_some, if_pos (by
          rw [within0, hcoin, hfull]
          rcases q with q | q | q
          · exact .inl q
          · exact .inr (.inl q)
          · exact .inr (.inr (by rw [if_neg q]; decide))), b1_some, if_pos rfl]
        exact wq_some ⟨rfl, hC, Hi.refl _⟩
      · show Wq (f_X11_forge (nI k) s M1) _
        unfold f_X11_forge
        rw [if_neg (m0 M1 hM1), wholeOf_ok hM1.1 hk, b1_some, if_pos (by
          rw [isInm0, hn1 M1 hM1, hn4 M1 hM1]
          rcases q with q | q | q
          · exact .inl q
          · exact .inr (.inl q)
          · exact .inr (.inr (by rw [show (A.2.1 4).1 = 14 from by omega]; rfl)))]
        exact wq_some ⟨rfl, hM1, Lo.refl _⟩
    · rw [not_or, not_or, not_or, Decidable.not_not] at q
      obtain ⟨⟨q1, q2⟩, q3, q4⟩ := q
      obtain ⟨w, b, w1, w2, _, _, w3, _⟩ := hG.1.2.1.1 k hk
      obtain ⟨s', s1, s2, s3⟩ : ∃ s', 1 ≤ s' ∧ s' ≤ 99 ∧ s = nI s' := by
        rw [Int32.not_lt, Int32.le_iff_toInt_le, show (1 : Int32).toInt = 1 from by decide] at q1
        rw [Int32.not_lt, Int32.le_iff_toInt_le, w3, pred_toInt (by omega)] at q2
        exact ⟨s.toInt.toNat, by omega, by omega, nI_ofI (by omega)⟩
      have hA1 : OKA (setN A 1 (A.1 1 - 20)) := hG.1
      have hA2 : OKA (setT (setN A 1 (A.1 1 - 20)) 4 (tAdd (A.2.1 4) (row5 (nI k) s (A.1 0) 9 1))) := hA1.rem (hG.1.2.1.2.1.add hk s1 s2 rfl s3 (.inr rfl))
      refine ⟨(sForge true A k s, I, pKeep P (snap A), tp, ft), nI (A.2.1 4).1, ⟨hA2.note _ _ _, hG.2.1, OKP.keep hG.2.2.1 hG.1 ?_ ?_ (sNote_book true (setT (setN A 1 (A.1 1 - 20)) 4 _) _ _ _) (p6 hM), hG.2.2.2⟩, ?_, fun M1 hM1 => ?_⟩
      · unfold sForge; rw [sNote_tab _ _ _ _ _ (by omega)]; rfl
      · unfold sForge; rw [sNote_tab _ _ _ _ _ (by omega)]; rfl
      · show Wq (f_X10_forge (nI k) s M) _
        unfold f_X10_forge f_X6_forgingCanBe
        rw [if_neg c0, at_lit hT 0 rfl hk (by omega), b1_some, if_neg (by
          rw [within0, hcoin, hfull, if_pos q4]
          rintro ((z | z) | z | z)
          · exact q1 z
          · exact q2 z
          · exact q3 z
          · exact z rfl), b1_some, if_neg (by decide)]
        refine wq_b1 (hC.keep hG.1) ?_
        rintro M2 ⟨hC2, hH2⟩
        refine wq_b2 (forgeOne_ok (k := k) hC2.1 s q4) ?_
        rintro M3 x ⟨hx, hR, hO⟩
        refine wq_some ⟨hx, hC2.mkt hO hR ?_, hH2.trans (hO.hi (by omega))⟩
        intro j hj
        unfold sForge
        rw [sNote_tab _ _ _ _ _ (by omega)]
        show (if j = 4 then _ else A.2.1 j) = _
        rw [if_neg (by omega)]
      · show Wq (f_X11_forge (nI k) s M1) _
        unfold f_X11_forge
        rw [if_neg (m0 M1 hM1), wholeOf_ok hM1.1 hk, b1_some, if_neg (by
          rw [isInm0, hn1 M1 hM1, hn4 M1 hM1]
          rintro ((z | z) | z | z)
          · exact q1 z
          · exact q2 z
          · exact q3 z
          · have z : nI (A.2.1 4).1 = nI 14 := z
            rw [nI_eq_iff (by omega) (by omega)] at z; omega)]
        refine wq_b1 hM1.keep ?_
        rintro M7 ⟨hM7, ht, hL7⟩
        have e1 : M7 156 1 = A.1 1 := num_m 1 (by omega) hM7
        rw [lt_eq, e1]
        have h8 : RMm 156 (setN A 1 (A.1 1 - 20)) (up2 M7 156 1 (A.1 1 - 20)) := hM7.1.upN hG.1.2.2.2.1 (k := 1) (by omega) _
        have hO8 : Out 156 157 M7 (up2 M7 156 1 (A.1 1 - 20)) := (Out.refl _ _ _).up (by omega) (by omega)
        refine wq_b1 (notes_ok (t := true) h8 hG.1.2.2.2.1 (by rw [hO8 155 (by omega)]; exact ht) 1 (nI k) s) ?_
        rintro M9 ⟨h9, hO9⟩
        have d9 : M9 156 0 = A.1 0 := by
          have := h9.1 0 (by omega)
          rw [sNote_num] at this
          exact this
        rw [d9]
        have e4 : (sNote true (setN A 1 (A.1 1 - 20)) 1 (nI k) s).2.1 4 = A.2.1 4 := sNote_tab _ _ _ _ _ (by omega)
        refine wq_b2 (comes_ok h9 (by rw [sNote_law]; exact hG.1.2.2.2.1) (by rw [e4]; exact q4) _ _ _ _ _) ?_
        rintro M10 x ⟨hx, h10, hO10⟩
        simp only at hx h10 hO10
        rw [e4] at hx h10
        rw [← sNote_T4] at h10
        exact wq_some ⟨hx, hM7.row (((Mo.w hO8).trans (Mo.w hO9)).trans (Mo.w hO10)) h10, hL7.trans ((((Mo.w hO8).trans (Mo.w hO9)).trans (Mo.w hO10)).lo)⟩
theorem sT4_keep {t : Bool} {A B : AS} {T : Tb} {a b c : Int32} (hB : ∀ j, B.2.1 j = A.2.1 j) : ((sNote t (setT B 4 T) a b c).2.1 0).1 = (A.2.1 0).1 ∧ ((sNote t (setT B 4 T) a b c).2.1 2).1 = (A.2.1 2).1 ∧ (A.2.1 5).1 ≤ ((sNote t (setT B 4 T) a b c).2.1 5).1 ∧ ∀ j, 6 ≤ j → (sNote t (setT B 4 T) a b c).2.1 j = A.2.1 j := by
  refine ⟨?_, ?_, ?_, ?_⟩
  · rw [sNote_tab _ _ _ _ _ (by omega), ← hB 0]; rfl
  · rw [sNote_tab _ _ _ _ _ (by omega), ← hB 2]; rfl
  · rw [← hB 5]; exact sNote_book t (setT B 4 T) a b c
  · intro j hj
    rw [sNote_tab _ _ _ _ _ (by omega), ← hB j]
    show (if j = 4 then _ else B.2.1 j) = _
    rw [if_neg (by omega)]
theorem c_cut (a s : Int32) {M : Mem} (h : Inv M) : ∃ M1 M2 r, f_X10_cut a s M = some (M1, r) ∧ f_X11_cut a s M1 = some (M2, r) ∧ Inv M2 := by
  refine both_ok (fc := fun M => f_X10_cut a s M) (fm := fun M => f_X11_cut a s M) h ?_
  rintro ⟨A, I, P, tp, ft⟩ hC hM hG
  have hle : (A.2.1 4).1 ≤ 14 := m_4 hM.1
  have hT := hC.1.t4
  have hn4 : ∀ M1, InvM (A, I, P, tp, ft) M1 → M1 156 7 = nI (A.2.1 4).1 := fun M1 h1 => ans_m 4 (by omega) h1
  have hfull : f_X8_isFull (1 + 9) M = if (A.2.1 4).1 < 14 then 0 else 1 := isFull_4 hC.1
  have hLL := hG.1.2.2.2.1
  rcases idx_cases a (n := (A.2.1 4).1) (by omega) with z | ⟨i, hi, rfl⟩
  · refine ⟨(A, I, P, tp, ft), -1, hG, ?_, fun M1 hM1 => ?_⟩
    · show Wq (f_X10_cut a s M) _
      unfold f_X10_cut f_X6_cutCanBe
      rw [if_pos ((has0 hT a).2 z), b1_some, if_pos rfl]
      exact wq_some ⟨rfl, hC, Hi.refl _⟩
    · show Wq (f_X11_cut a s M1) _
      unfold f_X11_cut f_X11_isRemain
      rw [hn4 M1 hM1, if_pos (.inl ((isInm_pred (by omega) a).2 z))]
      exact wq_some ⟨rfl, hM1, Lo.refl _⟩
  · have hin := idx_in hi (by omega)
    have c0 : ¬ f_X8_has (1 + 9) (nI i) M = 0 := fun z => hin ((has0 hT _).1 z)
    by_cases q : (s < 1 ∨ (A.2.1 4).2 i 1 - 1 < s) ∨ ¬ (A.2.1 4).1 < 14
    · refine ⟨(A, I, P, tp, ft), -1, hG, ?_, fun M1 hM1 => ?_⟩
      · show Wq (f_X10_cut (nI i) s M) _
        unfold f_X10_cut f_X6_cutCanBe
        rw [if_neg c0, at_lit hT 1 rfl hi (by omega), b1_some, if_pos (by
          rw [within0, hfull]
          rcases q with q | q
          · exact .inl q
          · exact .inr (by rw [if_neg q]; decide)), b1_some, if_pos rfl]
        exact wq_some ⟨rfl, hC, Hi.refl _⟩
      · show Wq (f_X11_cut (nI i) s M1) _
        unfold f_X11_cut f_X11_isRemain
        rw [hn4 M1 hM1]
        by_cases z : nI (A.2.1 4).1 = 14
        · rw [if_pos (.inr z)]
          exact wq_some ⟨rfl, hM1, Lo.refl _⟩
        · rw [if_neg (by
            rintro (y | y)
            · exact hin ((isInm_pred (by omega) _).1 y)
            · exact z y), ofRemain_ok hM1.1 hi 1 rfl (by omega), b1_some, if_pos (by
            rw [isInm0]
            rcases q with q | q
            · exact q
            · exact absurd (show nI (A.2.1 4).1 = 14 by rw [show (A.2.1 4).1 = 14 from by omega]; rfl) z)]
          exact wq_some ⟨rfl, hM1, Lo.refl _⟩
    · rw [not_or, not_or, Decidable.not_not] at q
      obtain ⟨⟨q1, q2⟩, q4⟩ := q
      obtain ⟨k, s0, k1, s01, s02, k2, s03, f0⟩ := hG.1.2.1.2.1 i hi
      obtain ⟨s', s1, s2, s3⟩ : ∃ s', 1 ≤ s' ∧ s' + 1 ≤ s0 ∧ s = nI s' := by
        rw [Int32.not_lt, Int32.le_iff_toInt_le, show (1 : Int32).toInt = 1 from by decide] at q1
        rw [Int32.not_lt, Int32.le_iff_toInt_le, s03, pred_toInt (by omega)] at q2
        exact ⟨s.toInt.toNat, by omega, by omega, nI_ofI (by omega)⟩
      have hrest : (A.2.1 4).2 i 1 - s = nI (s0 - s') := by rw [s03, s3, nI_sub (by omega)]
      have hok : okRem (A.2.1 0).1 (cutT (A.2.1 4) i s) := by
        unfold cutT
        exact okRem.add ((hG.1.2.1.2.1.put (.inr (.inr (.inl ⟨rfl, s', s1, by omega, s3⟩)))).put (.inr (.inl rfl))) k1 (s := s0 - s') (by omega) (by omega) k2 hrest f0
      obtain ⟨g1, g2, g3, g4⟩ := sT4_keep (t := true) (A := A) (B := A) (T := cutT (A.2.1 4) i s) (a := 2) (b := (A.2.1 4).2 i 0) (c := s) (fun _ => rfl)
      refine ⟨(sCut true A i s, I, pKeep P (snap A), tp, ft), nI (A.2.1 4).1, ⟨(hG.1.rem hok).note _ _ _, hG.2.1, OKP.keep hG.2.2.1 hG.1 g1 g2 g3 (p6 hM), hG.2.2.2⟩, ?_, fun M1 hM1 => ?_⟩
      · show Wq (f_X10_cut (nI i) s M) _
        unfold f_X10_cut f_X6_cutCanBe
        rw [if_neg c0, at_lit hT 1 rfl hi (by omega), b1_some, if_neg (by
          rw [within0, hfull, if_pos q4]
          rintro ((z | z) | z)
          · exact q1 z
          · exact q2 z
          · exact z rfl), b1_some, if_neg (by decide)]
        refine wq_b1 (hC.keep hG.1) ?_
        rintro M2 ⟨hC2, hH2⟩
        refine wq_b2 (cutOne_ok hC2.1 s hi q4) ?_
        rintro M3 x ⟨hx, hR, hO⟩
        exact wq_some ⟨hx, hC2.mkt hO hR g4, hH2.trans (hO.hi (by omega))⟩
      · show Wq (f_X11_cut (nI i) s M1) _
        unfold f_X11_cut f_X11_isRemain
        rw [hn4 M1 hM1, if_neg (by
          rintro (y | y)
          · exact hin ((isInm_pred (by omega) _).1 y)
          · have y : nI (A.2.1 4).1 = nI 14 := y
            rw [nI_eq_iff (by omega) (by omega)] at y; omega), ofRemain_ok hM1.1 hi 1 rfl (by omega), b1_some, if_neg (by
          rw [isInm0]
          exact fun z => z.elim q1 q2)]
        refine wq_b1 hM1.keep ?_
        rintro M6 ⟨hM6, ht, hL6⟩
        rw [rd4 hM6.1 hi 1 rfl (by omega), b1_some, wr4 (by omega) 1 rfl (by omega), b1_some]
        have h8 := hM6.1.put4 hLL hi (c := 1) (by omega) s
        rw [rd4 h8 (show i < (A.2.1 4).1 from hi) 3 rfl (by omega), b1_some, wr4 (by omega) 3 rfl (by omega), b1_some]
        have z3 : ((setT A 4 (tPut (A.2.1 4) i 1 s)).2.1 4).2 i 3 = (A.2.1 4).2 i 3 := tPut_col _ _ _ _ _ _ (by omega)
        rw [z3, lesser_min]
        have h10 := h8.put4 hLL (show i < (A.2.1 4).1 from hi) (c := 3) (by omega) (f_J9_min_7cf53 9 ((A.2.1 4).2 i 3 + 1))
        rw [setT_same] at h10
        have h10 : RMm 156 (setT A 4 (tPut (tPut (A.2.1 4) i 1 s) i 3 (f_J9_min_7cf53 9 ((A.2.1 4).2 i 3 + 1)))) _ := h10
        have hO10 : Out 156 157 M6 (up2 (up2 M6 156 (8 + 5 * i + 1) s) 156 (8 + 5 * i + 3) (f_J9_min_7cf53 9 ((A.2.1 4).2 i 3 + 1))) := ((Out.refl _ _ _).up (by omega) (by omega)).up (by omega) (by omega)
        rw [rd4 h10 (show i < (A.2.1 4).1 from hi) 0 rfl (by omega), b1_some]
        have z0 : ((setT A 4 (tPut (tPut (A.2.1 4) i 1 s) i 3 (f_J9_min_7cf53 9 ((A.2.1 4).2 i 3 + 1)))).2.1 4).2 i 0 = (A.2.1 4).2 i 0 := (tPut_col _ _ _ _ _ _ (by omega)).trans (tPut_col _ _ _ _ _ _ (by omega))
        rw [z0]
        refine wq_b1 (notes_ok (t := true) h10 hLL (by rw [hO10 155 (by omega)]; exact ht) 2 ((A.2.1 4).2 i 0) s) ?_
        rintro M12 ⟨h12, hO12⟩
        have e4 : (sNote true (setT A 4 (tPut (tPut (A.2.1 4) i 1 s) i 3 (f_J9_min_7cf53 9 ((A.2.1 4).2 i 3 + 1)))) 2 ((A.2.1 4).2 i 0) s).2.1 4 = tPut (tPut (A.2.1 4) i 1 s) i 3 (f_J9_min_7cf53 9 ((A.2.1 4).2 i 3 + 1)) := sNote_tab _ _ _ _ _ (by omega)
        have hi12 : i < ((sNote true (setT A 4 (tPut (tPut (A.2.1 4) i 1 s) i 3 (f_J9_min_7cf53 9 ((A.2.1 4).2 i 3 + 1)))) 2 ((A.2.1 4).2 i 0) s).2.1 4).1 := by rw [e4]; exact hi
        rw [rd4 h12 hi12 0 rfl (by omega), b1_some, rd4 h12 hi12 2 rfl (by omega), b1_some, rd4 h12 hi12 3 rfl (by omega), b1_some, rd4 h12 hi12 4 rfl (by omega), b1_some, e4, tPut_same, tPut_col _ _ _ _ i 0 (by omega), tPut_col _ _ _ _ i 0 (by omega), tPut_col _ _ _ _ i 2 (by omega), tPut_col _ _ _ _ i 2 (by omega), tPut_col _ _ _ _ i 4 (by omega), tPut_col _ _ _ _ i 4 (by omega)]
        refine wq_b2 (comes_ok h12 (by rw [sNote_law]; exact hLL) (by rw [e4]; exact q4) _ _ _ _ _) ?_
        rintro M17 x ⟨hx, h17, hO17⟩
        simp only at hx h17 hO17
        rw [e4] at hx h17
        rw [sNote_T4, setT_same, ← sNote_T4] at h17
        have hMo := ((Mo.w hO10).trans (Mo.w hO12)).trans (Mo.w hO17)
        exact wq_some ⟨hx, hM6.row hMo h17, hL6.trans hMo.lo⟩
theorem held_1_99 (v : Int32) : ∃ s, 1 ≤ s ∧ s ≤ 99 ∧ f_X10_held v 1 99 = nI s := by
  have key : 1 ≤ (f_X10_held v 1 99).toInt ∧ (f_X10_held v 1 99).toInt ≤ 99 := by
    unfold f_X10_held f_J9_max_7cf53 f_J9_min_7cf53
    by_cases q : v < 99
    · rw [if_pos q]
      rw [Int32.lt_iff_toInt_lt, show (99 : Int32).toInt = 99 from by decide] at q
      by_cases z : (1 : Int32) < v
      · rw [if_pos z]
        rw [Int32.lt_iff_toInt_lt, show (1 : Int32).toInt = 1 from by decide] at z
        omega
      · rw [if_neg z]; decide
    · rw [if_neg q, if_pos (by decide)]; decide
  exact ⟨(f_X10_held v 1 99).toInt.toNat, by omega, by omega, nI_ofI (by omega)⟩
theorem max01 {a b : Int32} (ha : a = 0 ∨ a = 1) (hb : b = 0 ∨ b = 1) : f_J9_max_7cf53 a b = 0 ∨ f_J9_max_7cf53 a b = 1 := by
  rcases ha with rfl | rfl <;> rcases hb with rfl | rfl <;> decide
theorem okRem.joinT {nk : Nat} {T : Tb} (h : okRem nk T) {a b : Nat} (ha : a < T.1) (hb : b < T.1) : okRem nk (joinT T a b) := by
  obtain ⟨s, s1, s2, s3⟩ := held_1_99 (((T.2 a 1 + T.2 b 1) * 9) / 10)
  obtain ⟨_, _, _, _, _, _, _, fa⟩ := h a ha
  obtain ⟨_, _, _, _, _, _, _, fb⟩ := h b hb
  exact ((((h.put (.inr (.inr (.inl ⟨rfl, s, s1, s2, s3⟩)))).put (.inl rfl)).put (.inr (.inl rfl))).put (.inr (.inr (.inr ⟨rfl, max01 fa fb⟩)))).drop b
theorem joined_eq (x : Int32) : f_X11_greater 1 (f_X11_lesser 99 (f_X11_joined x)) = f_X10_held ((x * 9) / 10) 1 99 := by
  unfold f_X11_joined f_X10_held
  rw [greater_max, lesser_min, Int32.mul_comm]
theorem RMm.ext4 {A : AS} {M : Mem} {T T' : Tb} (h : RMm 156 (setT A 4 T) M) (h1 : T'.1 = T.1) (h2 : ∀ r j, r < T.1 → j < 5 → T'.2 r j = T.2 r j) : RMm 156 (setT A 4 T') M := by
  refine ⟨h.1, ?_, h.2.2⟩
  intro k hk
  have hk' := h.2.1 k hk
  by_cases q : k = 4
  · subst q
    show RT 156 4 T' M
    have hk' : RT 156 4 T M := hk'
    refine ⟨by rw [h1]; exact hk'.1, by rw [h1]; exact hk'.2.1, ?_⟩
    intro r j hr hj
    rw [h1] at hr
    rw [h2 r j hr hj]
    exact hk'.2.2 r j hr hj
  · show RT 156 k (if k = 4 then T' else A.2.1 k) M
    have hk' : RT 156 k (if k = 4 then T else A.2.1 k) M := hk'
    rw [if_neg q] at hk' ⊢
    exact hk'
theorem join_fin {A : AS} {M21 : Mem} {i j : Nat} (h21 : RMm 156 (setT A 4 (tPut (tPut (tPut (tPut (A.2.1 4) i 1 (joinS (A.2.1 4) i j)) i 2 (f_J9_min_7cf53 ((A.2.1 4).2 i 2) ((A.2.1 4).2 j 2))) i 3 (f_J9_max_7cf53 ((A.2.1 4).2 i 3) ((A.2.1 4).2 j 3))) i 4 (f_J9_max_7cf53 ((A.2.1 4).2 i 4) ((A.2.1 4).2 j 4)))) M21) (hLL : A.2.2.length ≤ 16) (hi : i < (A.2.1 4).1) (hj : j < (A.2.1 4).1) (ht : M21 155 26 = 1) : Wq (b1 (rd M21 156 ((8 + (5 * nI i)) + 0)) fun x22 => b1 (f_X11_notes 3 x22 (joinS (A.2.1 4) i j) M21) fun M23 => b1 (f_X11_goesAway (nI j) M23) fun M24 => some (M24, joinS (A.2.1 4) i j)) (fun p => p.2 = joinS (A.2.1 4) i j ∧ RMm 156 (sJoin true A i j) p.1 ∧ Mo M21 p.1) := by
  have z0 : ((setT A 4 (tPut (tPut (tPut (tPut (A.2.1 4) i 1 (joinS (A.2.1 4) i j)) i 2 (f_J9_min_7cf53 ((A.2.1 4).2 i 2) ((A.2.1 4).2 j 2))) i 3 (f_J9_max_7cf53 ((A.2.1 4).2 i 3) ((A.2.1 4).2 j 3))) i 4 (f_J9_max_7cf53 ((A.2.1 4).2 i 4) ((A.2.1 4).2 j 4)))).2.1 4).2 i 0 = (A.2.1 4).2 i 0 := (((tPut_col _ _ _ _ _ _ (by omega)).trans (tPut_col _ _ _ _ _ _ (by omega))).trans (tPut_col _ _ _ _ _ _ (by omega))).trans (tPut_col _ _ _ _ _ _ (by omega))
  rw [rd4 h21 (show i < (A.2.1 4).1 from hi) 0 rfl (by omega), b1_some, z0]
  refine wq_b1 (notes_ok (t := true) h21 hLL ht 3 ((A.2.1 4).2 i 0) (joinS (A.2.1 4) i j)) ?_
  rintro M23 ⟨h23, hO23⟩
  have e4 : (sNote true (setT A 4 (tPut (tPut (tPut (tPut (A.2.1 4) i 1 (joinS (A.2.1 4) i j)) i 2 (f_J9_min_7cf53 ((A.2.1 4).2 i 2) ((A.2.1 4).2 j 2))) i 3 (f_J9_max_7cf53 ((A.2.1 4).2 i 3) ((A.2.1 4).2 j 3))) i 4 (f_J9_max_7cf53 ((A.2.1 4).2 i 4) ((A.2.1 4).2 j 4)))) 3 ((A.2.1 4).2 i 0) (joinS (A.2.1 4) i j)).2.1 4 = tPut (tPut (tPut (tPut (A.2.1 4) i 1 (joinS (A.2.1 4) i j)) i 2 (f_J9_min_7cf53 ((A.2.1 4).2 i 2) ((A.2.1 4).2 j 2))) i 3 (f_J9_max_7cf53 ((A.2.1 4).2 i 3) ((A.2.1 4).2 j 3))) i 4 (f_J9_max_7cf53 ((A.2.1 4).2 i 4) ((A.2.1 4).2 j 4)) := sNote_tab _ _ _ _ _ (by omega)
  refine wq_b1 (goesAway_ok h23 (by rw [sNote_law]; exact hLL) (i := j) (by rw [e4]; exact hj)) ?_
  rintro M24 ⟨h24, hO24⟩
  rw [e4, sNote_T4, setT_same, ← sNote_T4] at h24
  have h24' : RMm 156 (sJoin true A i j) M24 := by unfold sJoin joinT; exact h24
  exact wq_some ⟨rfl, h24', (Mo.w hO23).trans (Mo.w hO24)⟩
theorem js_rd {A : AS} {T : Tb} {M : Mem} (h : RMm 156 (setT A 4 T) M) {i : Nat} (hi : i < T.1) (c : Nat) (hx : (OfNat.ofNat c : Int32) = nI c) (hc : c < 5) : rd M 156 ((8 + (5 * nI i)) + OfNat.ofNat c) = some (T.2 i c) := rd4 h (show i < T.1 from hi) c hx hc
theorem js_of {A : AS} {T : Tb} {M : Mem} (h : RMm 156 (setT A 4 T) M) {i : Nat} (hi : i < T.1) (c : Nat) (hx : (OfNat.ofNat c : Int32) = nI c) (hc : c < 5) : f_X11_ofRemain (nI i) (OfNat.ofNat c) M = some (T.2 i c) := ofRemain_ok h (show i < T.1 from hi) c hx hc
theorem js_put {A : AS} {T : Tb} {M : Mem} (h : RMm 156 (setT A 4 T) M) (hLL : A.2.2.length ≤ 16) {i c : Nat} (hi : i < T.1) (hc : c < 5) (v : Int32) : RMm 156 (setT A 4 (tPut T i c v)) (up2 M 156 (8 + 5 * i + c) v) := by
  have := h.put4 hLL (show i < T.1 from hi) hc v
  rw [setT_same] at this
  exact this
theorem join_tail {A : AS} {M11 : Mem} {i j : Nat} (hR : RMm 156 A M11) (hLL : A.2.2.length ≤ 16) (hi : i < (A.2.1 4).1) (hj : j < (A.2.1 4).1) (ht : M11 155 26 = 1) : Wq (b1 (wr M11 156 ((8 + (5 * nI i)) + 1) (joinS (A.2.1 4) i j)) fun M12 => b1 (rd M12 156 ((8 + (5 * nI i)) + 3)) fun x13 => b1 (f_X11_ofRemain (nI j) 3 M12) fun x14 => b1 (wr M12 156 ((8 + (5 * nI i)) + 3) (f_X11_greater x13 x14)) fun M15 => b1 (rd M15 156 ((8 + (5 * nI i)) + 2)) fun x16 => b1 (f_X11_ofRemain (nI j) 2 M15) fun x17 => b1 (wr M15 156 ((8 + (5 * nI i)) + 2) (f_X11_lesser x16 x17)) fun M18 => b1 (rd M18 156 ((8 + (5 * nI i)) + 4)) fun x19 => b1 (f_X11_ofRemain (nI j) 4 M18) fun x20 => b1 (wr M18 156 ((8 + (5 * nI i)) + 4) (f_X11_greater x19 x20)) fun M21 => b1 (rd M21 156 ((8 + (5 * nI i)) + 0)) fun x22 => b1 (f_X11_notes 3 x22 (joinS (A.2.1 4) i j) M21) fun M23 => b1 (f_X11_goesAway (nI j) M23) fun M24 => some (M24, joinS (A.2.1 4) i j)) (fun p => p.2 = joinS (A.2.1 4) i j ∧ RMm 156 (sJoin true A i j) p.1 ∧ Mo M11 p.1) := by
  have hle : (A.2.1 4).1 ≤ 14 := m_4 hR
  rw [wr4 (by omega) 1 rfl (by omega), b1_some]
  have h12 : RMm 156 (setT A 4 (tPut (A.2.1 4) i 1 (joinS (A.2.1 4) i j))) (up2 M11 156 (8 + 5 * i + 1) (joinS (A.2.1 4) i j)) := hR.put4 hLL hi (c := 1) (by omega) _
  have hO12 : Out 156 157 M11 (up2 M11 156 (8 + 5 * i + 1) (joinS (A.2.1 4) i j)) := (Out.refl _ _ _).up (by omega) (by omega)
  revert h12 hO12
  generalize up2 M11 156 (8 + 5 * i + 1) (joinS (A.2.1 4) i j) = M12
  intro h12 hO12
  obtain ⟨T1, hT1⟩ : ∃ T, T = tPut (A.2.1 4) i 1 (joinS (A.2.1 4) i j) := ⟨_, rfl⟩
  rw [← hT1] at h12
  have n1 : T1.1 = (A.2.1 4).1 := by rw [hT1]; rfl
  have e1 : ∀ x c, c ≠ 1 → T1.2 x c = (A.2.1 4).2 x c := fun x c hc => by rw [hT1]; exact tPut_col _ _ _ _ _ _ hc
  rw [js_rd h12 (by omega) 3 rfl (by omega), b1_some, js_of h12 (by omega) 3 rfl (by omega), b1_some, wr4 (by omega) 3 rfl (by omega), b1_some, greater_max, e1 i 3 (by omega), e1 j 3 (by omega)]
  have h15 := js_put h12 hLL (i := i) (c := 3) (by omega) (by omega) (f_J9_max_7cf53 ((A.2.1 4).2 i 3) ((A.2.1 4).2 j 3))
  have hO15 : Out 156 157 M11 (up2 M12 156 (8 + 5 * i + 3) (f_J9_max_7cf53 ((A.2.1 4).2 i 3) ((A.2.1 4).2 j 3))) := hO12.up (by omega) (by omega)
  revert h15 hO15
  generalize up2 M12 156 (8 + 5 * i + 3) (f_J9_max_7cf53 ((A.2.1 4).2 i 3) ((A.2.1 4).2 j 3)) = M15
  intro h15 hO15
  obtain ⟨T2, hT2⟩ : ∃ T, T = tPut T1 i 3 (f_J9_max_7cf53 ((A.2.1 4).2 i 3) ((A.2.1 4).2 j 3)) := ⟨_, rfl⟩
  rw [← hT2] at h15
  have n2 : T2.1 = (A.2.1 4).1 := by rw [hT2]; exact n1
  have e2 : ∀ x c, c ≠ 1 → c ≠ 3 → T2.2 x c = (A.2.1 4).2 x c := fun x c hc h3 => by rw [hT2, tPut_col _ _ _ _ _ _ h3]; exact e1 x c hc
  rw [js_rd h15 (by omega) 2 rfl (by omega), b1_some, js_of h15 (by omega) 2 rfl (by omega), b1_some, wr4 (by omega) 2 rfl (by omega), b1_some, lesser_min, e2 i 2 (by omega) (by omega), e2 j 2 (by omega) (by omega)]
  have h18 := js_put h15 hLL (i := i) (c := 2) (by omega) (by omega) (f_J9_min_7cf53 ((A.2.1 4).2 i 2) ((A.2.1 4).2 j 2))
  have hO18 : Out 156 157 M11 (up2 M15 156 (8 + 5 * i + 2) (f_J9_min_7cf53 ((A.2.1 4).2 i 2) ((A.2.1 4).2 j 2))) := hO15.up (by omega) (by omega)
  revert h18 hO18
  generalize up2 M15 156 (8 + 5 * i + 2) (f_J9_min_7cf53 ((A.2.1 4).2 i 2) ((A.2.1 4).2 j 2)) = M18
  intro h18 hO18
  obtain ⟨T3, hT3⟩ : ∃ T, T = tPut T2 i 2 (f_J9_min_7cf53 ((A.2.1 4).2 i 2) ((A.2.1 4).2 j 2)) := ⟨_, rfl⟩
  rw [← hT3] at h18
  have n3 : T3.1 = (A.2.1 4).1 := by rw [hT3]; exact n2
  have e3 : ∀ x, T3.2 x 4 = (A.2.1 4).2 x 4 := fun x => by rw [hT3, tPut_col _ _ _ _ _ _ (by omega)]; exact e2 x 4 (by omega) (by omega)
  rw [js_rd h18 (by omega) 4 rfl (by omega), b1_some, js_of h18 (by omega) 4 rfl (by omega), b1_some, wr4 (by omega) 4 rfl (by omega), b1_some, greater_max, e3 i, e3 j]
  have h21 := js_put h18 hLL (i := i) (c := 4) (by omega) (by omega) (f_J9_max_7cf53 ((A.2.1 4).2 i 4) ((A.2.1 4).2 j 4))
  have hO21 : Out 156 157 M11 (up2 M18 156 (8 + 5 * i + 4) (f_J9_max_7cf53 ((A.2.1 4).2 i 4) ((A.2.1 4).2 j 4))) := hO18.up (by omega) (by omega)
  revert h21 hO21
  generalize up2 M18 156 (8 + 5 * i + 4) (f_J9_max_7cf53 ((A.2.1 4).2 i 4) ((A.2.1 4).2 j 4)) = M21
  intro h21 hO21
  have h21' := h21.ext4 (T' := tPut (tPut (tPut (tPut (A.2.1 4) i 1 (joinS (A.2.1 4) i j)) i 2 (f_J9_min_7cf53 ((A.2.1 4).2 i 2) ((A.2.1 4).2 j 2))) i 3 (f_J9_max_7cf53 ((A.2.1 4).2 i 3) ((A.2.1 4).2 j 3))) i 4 (f_J9_max_7cf53 ((A.2.1 4).2 i 4) ((A.2.1 4).2 j 4))) n3.symm (by
    intro r c _ _
    rw [hT3, hT2, hT1]
    simp only [tPut]
    by_cases y : r = i
    · by_cases c3 : c = 3
      · simp [y, c3]
      · simp [y, c3]
    · simp [y])
  refine wq_mono (join_fin h21' hLL hi hj (by rw [hO21 155 (by omega)]; exact ht)) ?_
  rintro ⟨N, x⟩ ⟨hx, hR', hMo⟩
  exact ⟨hx, hR', Mo.trans (Mo.w hO21) hMo⟩
theorem c_join (a b : Int32) {M : Mem} (h : Inv M) : ∃ M1 M2 r, f_X10_join a b M = some (M1, r) ∧ f_X11_join a b M1 = some (M2, r) ∧ Inv M2 := by
  refine both_ok (fc := fun M => f_X10_join a b M) (fm := fun M => f_X11_join a b M) h ?_
  rintro ⟨A, I, P, tp, ft⟩ hC hM hG
  have hle : (A.2.1 4).1 ≤ 14 := m_4 hM.1
  have hT := hC.1.t4
  have hn4 : ∀ M1, InvM (A, I, P, tp, ft) M1 → M1 156 7 = nI (A.2.1 4).1 := fun M1 h1 => ans_m 4 (by omega) h1
  have hLL := hG.1.2.2.2.1
  by_cases q : (a < 0 ∨ nI (A.2.1 4).1 ≤ a) ∨ ((b < 0 ∨ nI (A.2.1 4).1 ≤ b) ∨ a = b)
  · refine ⟨(A, I, P, tp, ft), -1, hG, ?_, fun M1 hM1 => ?_⟩
    · show Wq (f_X10_join a b M) _
      unfold f_X10_join f_X6_joiningCanBe
      rw [if_pos (by rw [has0 hT, has0 hT]; exact q), b1_some, if_pos rfl]
      exact wq_some ⟨rfl, hC, Hi.refl _⟩
    · show Wq (f_X11_join a b M1) _
      unfold f_X11_join f_X11_isRemain
      rw [hn4 M1 hM1, if_pos (by rw [isInm_pred (by omega), isInm_pred (by omega)]; exact q)]
      exact wq_some ⟨rfl, hM1, Lo.refl _⟩
  · have q' := q
    have qa : ¬ (a < 0 ∨ nI (A.2.1 4).1 ≤ a) := fun z => q' (.inl z)
    have qb : ¬ (b < 0 ∨ nI (A.2.1 4).1 ≤ b) := fun z => q' (.inr (.inl z))
    have qc : ¬ a = b := fun z => q' (.inr (.inr z))
    rcases idx_cases a (n := (A.2.1 4).1) (by omega) with z | ⟨i, hi, rfl⟩
    · exact absurd z qa
    · rcases idx_cases b (n := (A.2.1 4).1) (by omega) with z | ⟨j, hj, rfl⟩
      · exact absurd z qb
      · have hij : i ≠ j := fun e => qc (by rw [e])
        by_cases hk : (A.2.1 4).2 i 0 = (A.2.1 4).2 j 0
        · have hok : okRem (A.2.1 0).1 (joinT (A.2.1 4) i j) := hG.1.2.1.2.1.joinT hi hj
          obtain ⟨g1, g2, g3, g4⟩ := sT4_keep (t := true) (A := A) (B := A) (T := joinT (A.2.1 4) i j) (a := 3) (b := (A.2.1 4).2 i 0) (c := joinS (A.2.1 4) i j) (fun _ => rfl)
          refine ⟨(sJoin true A i j, I, pKeep P (snap A), tp, ft), joinS (A.2.1 4) i j, ⟨(hG.1.rem hok).note _ _ _, hG.2.1, OKP.keep hG.2.2.1 hG.1 g1 g2 g3 (p6 hM), hG.2.2.2⟩, ?_, fun M1 hM1 => ?_⟩
          · show Wq (f_X10_join (nI i) (nI j) M) _
            unfold f_X10_join f_X6_joiningCanBe
            rw [if_neg (by rw [has0 hT, has0 hT]; exact q'), at_lit hT 0 rfl hi (by omega), b1_some, at_lit hT 0 rfl hj (by omega), b1_some, if_pos hk, b1_some, if_neg (by decide)]
            refine wq_b1 (hC.keep hG.1) ?_
            rintro M2 ⟨hC2, hH2⟩
            refine wq_b2 (joinTwo_ok hC2.1 hi hj) ?_
            rintro M3 x ⟨hx, hR, hO⟩
            exact wq_some ⟨hx, hC2.mkt hO hR g4, hH2.trans (hO.hi (by omega))⟩
          · show Wq (f_X11_join (nI i) (nI j) M1) _
            unfold f_X11_join f_X11_isRemain
            have hR1 : RMm 156 A M1 := hM1.1
            rw [hn4 M1 hM1, if_neg (by rw [isInm_pred (by omega), isInm_pred (by omega)]; exact q'), ofRemain_ok hR1 hi 0 rfl (by omega), b1_some, ofRemain_ok hR1 hj 0 rfl (by omega), b1_some, if_pos hk, ofRemain_ok hR1 hi 1 rfl (by omega), b1_some, ofRemain_ok hR1 hj 1 rfl (by omega), b1_some, lt_eq, joined_eq, show f_X10_held ((((A.2.1 4).2 i 1 + (A.2.1 4).2 j 1) * 9) / 10) 1 99 = joinS (A.2.1 4) i j from rfl]
            refine wq_b1 hM1.keep ?_
            rintro M11 ⟨hM11, ht, hL11⟩
            refine wq_mono (join_tail hM11.1 hLL hi hj ht) ?_
            rintro ⟨N, x⟩ ⟨hx, hR, hMo⟩
            exact ⟨hx, hM11.row hMo hR, hL11.trans hMo.lo⟩
        · refine ⟨(A, I, P, tp, ft), -1, hG, ?_, fun M1 hM1 => ?_⟩
          · show Wq (f_X10_join (nI i) (nI j) M) _
            unfold f_X10_join f_X6_joiningCanBe
            rw [if_neg (by rw [has0 hT, has0 hT]; exact q'), at_lit hT 0 rfl hi (by omega), b1_some, at_lit hT 0 rfl hj (by omega), b1_some, if_neg hk, b1_some, if_pos rfl]
            exact wq_some ⟨rfl, hC, Hi.refl _⟩
          · show Wq (f_X11_join (nI i) (nI j) M1) _
            unfold f_X11_join f_X11_isRemain
            rw [hn4 M1 hM1, if_neg (by rw [isInm_pred (by omega), isInm_pred (by omega)]; exact q'), ofRemain_ok hM1.1 hi 0 rfl (by omega), b1_some, ofRemain_ok hM1.1 hj 0 rfl (by omega), b1_some, if_neg hk]
            exact wq_some ⟨rfl, hM1, Lo.refl _⟩
theorem c_sell (a : Int32) {M : Mem} (h : Inv M) : ∃ M1 M2 r, f_X10_sell a M = some (M1, r) ∧ f_X11_sell a M1 = some (M2, r) ∧ Inv M2 := by
  refine both_ok (fc := fun M => f_X10_sell a M) (fm := fun M => f_X11_sell a M) h ?_
  rintro ⟨A, I, P, tp, ft⟩ hC hM hG
  have hle : (A.2.1 4).1 ≤ 14 := m_4 hM.1
  have hT := hC.1.t4
  have hn4 : ∀ M1, InvM (A, I, P, tp, ft) M1 → M1 156 7 = nI (A.2.1 4).1 := fun M1 h1 => ans_m 4 (by omega) h1
  have hLL := hG.1.2.2.2.1
  rcases idx_cases a (n := (A.2.1 4).1) (by omega) with z | ⟨i, hi, rfl⟩
  · refine ⟨(A, I, P, tp, ft), -1, hG, ?_, fun M1 hM1 => ?_⟩
    · show Wq (f_X10_sell a M) _
      unfold f_X10_sell
      rw [if_pos ((has0 hT a).2 z)]
      exact wq_some ⟨rfl, hC, Hi.refl _⟩
    · show Wq (f_X11_sell a M1) _
      unfold f_X11_sell f_X11_isRemain
      rw [hn4 M1 hM1, if_pos ((isInm_pred (by omega) a).2 z)]
      exact wq_some ⟨rfl, hM1, Lo.refl _⟩
  · have hin := idx_in hi (by omega)
    have c0 : ¬ f_X8_has (1 + 9) (nI i) M = 0 := fun z => hin ((has0 hT _).1 z)
    have hA1 : OKA (setN A 1 (A.1 1 + priceS A i 0)) := hG.1
    have hA2 : OKA (setT (setN A 1 (A.1 1 + priceS A i 0)) 4 (tDrop (A.2.1 4) i)) := hA1.rem (hG.1.2.1.2.1.drop i)
    obtain ⟨g1, g2, g3, g4⟩ := sT4_keep (t := true) (A := A) (B := setN A 1 (A.1 1 + priceS A i 0)) (T := tDrop (A.2.1 4) i) (a := 4) (b := (A.2.1 4).2 i 0) (c := priceS A i 0) (fun _ => rfl)
    refine ⟨(sSell true A i, I, pKeep P (snap A), tp, ft), priceS A i 0, ⟨hA2.note _ _ _, hG.2.1, OKP.keep hG.2.2.1 hG.1 g1 g2 g3 (p6 hM), hG.2.2.2⟩, ?_, fun M1 hM1 => ?_⟩
    · show Wq (f_X10_sell (nI i) M) _
      unfold f_X10_sell
      rw [if_neg c0]
      refine wq_b1 (hC.keep hG.1) ?_
      rintro M2 ⟨hC2, hH2⟩
      refine wq_b2 (sellOne_ok mkAt_1 hC2.1 hG.1.2.2.2 (okRk_of hG.1) hi) ?_
      rintro M3 x ⟨hx, hR, hO⟩
      exact wq_some ⟨hx, hC2.mkt hO hR g4, hH2.trans (hO.hi (by omega))⟩
    · show Wq (f_X11_sell (nI i) M1) _
      unfold f_X11_sell f_X11_isRemain
      rw [hn4 M1 hM1, if_neg (fun z => hin ((isInm_pred (by omega) _).1 z))]
      refine wq_b1 hM1.keep ?_
      rintro M2 ⟨hM2, ht, hL2⟩
      have hR2 : RMm 156 A M2 := hM2.1
      refine wq_b2 (priceOf_m hR2 hG.1.2.2.2 (okRk_of hG.1) hi 0) ?_
      rintro M3 x ⟨hx, hO3⟩
      simp only at hx hO3
      subst hx
      have h3 := hR2.out hO3 (by omega)
      have e1 : M3 156 1 = A.1 1 := h3.1 1 (by omega)
      rw [lt_eq, e1]
      have h5 : RMm 156 (setN A 1 (A.1 1 + priceS A i 0)) (up2 M3 156 1 (A.1 1 + priceS A i 0)) := h3.upN hLL (k := 1) (by omega) _
      have hO5 : Out 156 157 M3 (up2 M3 156 1 (A.1 1 + priceS A i 0)) := (Out.refl _ _ _).up (by omega) (by omega)
      rw [ofRemain_ok h5 (show i < (A.2.1 4).1 from hi) 0 rfl (by omega), b1_some]
      refine wq_b1 (notes_ok (t := true) h5 hLL (by rw [hO5 155 (by omega), hO3 155 (by omega)]; exact ht) 4 ((A.2.1 4).2 i 0) (priceS A i 0)) ?_
      rintro M7 ⟨h7, hO7⟩
      have e4 : (sNote true (setN A 1 (A.1 1 + priceS A i 0)) 4 ((A.2.1 4).2 i 0) (priceS A i 0)).2.1 4 = A.2.1 4 := sNote_tab _ _ _ _ _ (by omega)
      refine wq_b1 (goesAway_ok h7 (by rw [sNote_law]; exact hLL) (i := i) (by rw [e4]; exact hi)) ?_
      rintro M8 ⟨h8, hO8⟩
      rw [e4, ← sNote_T4] at h8
      have hMo := (((Mo.s hO3).trans (Mo.w hO5)).trans (Mo.w hO7)).trans (Mo.w hO8)
      exact wq_some ⟨rfl, hM2.row hMo h8, hL2.trans hMo.lo⟩
theorem c_undo {M : Mem} (h : Inv M) : ∃ M1 M2 r, f_X10_undo M = some (M1, r) ∧ f_X11_undo M1 = some (M2, r) ∧ Inv M2 := by
  refine both_ok (fc := fun M => f_X10_undo M) (fm := fun M => f_X11_undo M) h ?_
  rintro ⟨A, I, P, tp, ft⟩ hC hM hG
  have h6 : P.1 ≤ 6 := p6 hM
  by_cases h0 : P.1 = 0
  · refine ⟨(A, I, P, tp, ft), 0, hG, ?_, fun M1 hM1 => ?_⟩
    · show Wq (f_X10_undo M) _
      have e : M 115 2 = nI P.1 := hC.2.2.2.2.1.1
      unfold f_X10_undo f_X7_giveBack
      rw [e, h0, if_neg (by decide), b2_some]
      exact wq_some ⟨rfl, hC, Hi.refl _⟩
    · show Wq (f_X11_undo M1) _
      have e : M1 155 4 = nI P.1 := hM1.2.2.1.1
      unfold f_X11_undo
      rw [e, h0, if_pos (show nI 0 = 0 from rfl)]
      exact wq_some ⟨rfl, hM1, Lo.refl _⟩
  · have hS := hG.2.2.1.1 (P.1 - 1) (show P.1 - 1 < P.1 by omega)
    have hS : OKS A (P.2 (P.1 - 1)) := hS
    have hok : OKA (sBack A (P.2 (P.1 - 1))) := ⟨⟨hS.1, hG.1.1.2.1, hG.1.1.2.2.1, hS.2.1⟩, ⟨hG.1.2.1.1, hS.2.2.1, hG.1.2.1.2.2⟩, hG.1.2.2.1, hG.1.2.2.2⟩
    have hok2 : OKP (sBack A (P.2 (P.1 - 1))) (P.1 - 1, P.2) := by
      refine ⟨fun j hj => ?_, fun j hj => hG.2.2.1.2 j (by have hj : j + 1 < P.1 - 1 := hj; show j + 1 < P.1; omega)⟩
      have hj : j < P.1 - 1 := hj
      obtain ⟨k1, k2, k3, k4⟩ := hG.2.2.1.1 j (show j < P.1 by omega)
      refine ⟨k1, k2, k3, ?_⟩
      show (P.2 j).2.2 ≤ (P.2 (P.1 - 1)).2.2
      have mono : ∀ d, j + d < P.1 → (P.2 j).2.2 ≤ (P.2 (j + d)).2.2 := by
        intro d
        induction d with
        | zero => intro _; exact Nat.le_refl _
        | succ d ih => intro hd; exact Nat.le_trans (ih (by omega)) (hG.2.2.1.2 (j + d) (by show j + d + 1 < P.1; omega))
      have := mono (P.1 - 1 - j) (by omega)
      rw [show j + (P.1 - 1 - j) = P.1 - 1 from by omega] at this
      exact this
    refine ⟨(sBack A (P.2 (P.1 - 1)), I, (P.1 - 1, P.2), tp, ft), 1, ⟨hok, hG.2.1, hok2, hG.2.2.2⟩, ?_, fun M1 hM1 => ?_⟩
    · show Wq (f_X10_undo M) _
      unfold f_X10_undo
      refine wq_b2 (giveBack_ok hC.1 hC.2.2.2.2.1 (show 0 < P.1 by omega) hS.2.2.2) ?_
      rintro N x ⟨hx, hR, hP, hO⟩
      simp only at hx hR hP hO
      subst hx
      obtain ⟨c1, c2, c3, ⟨c4, c5, c6⟩, c7, c8⟩ := hC
      have hA : Out 1 116 M N → True := fun _ => trivial
      have o1 : ∀ a, 27 ≤ a → a ≠ 115 → N a = M a := fun a h1 h2 => hO a (.inr ⟨h1, h2⟩)
      have mkx : ∃ K, Out 1 27 M K ∧ Out 115 116 K N := ⟨fun a => if a < 27 then N a else M a, fun a ha => by
        simp only
        rcases ha with ha | ha
        · rw [if_pos (by omega)]; exact hO a (.inl ha)
        · rw [if_neg (by omega)], fun a ha => by
        simp only
        by_cases z : a < 27
        · rw [if_pos z]
        · rw [if_neg z]; exact o1 a (by omega) (by omega)⟩
      obtain ⟨K, k1, k2⟩ := mkx
      have hi : Hi M N := (k1.hi (by omega)).trans (k2.hi (by omega))
      refine wq_some ⟨rfl, ⟨hR, ?_, (c3.out k1 (by omega) (by omega)).out k2 (by omega) (by omega), ⟨(c4.out k1 (by omega)).out k2 (by omega), (c5.out k1 (by omega)).out k2 (by omega), (c6.out k1 (by omega)).out k2 (by omega)⟩, hP, (c8.out k1 (by omega)).out k2 (by omega)⟩, hi⟩
      exact (c2.out k1 (by omega)).out k2 (by omega)
    · show Wq (f_X11_undo M1) _
      refine wq_mono (undo_m hM1.1 hG.1.2.2.2.1 hM1.2.2.1 (show 0 < P.1 by omega) hS.2.2.2) ?_
      rintro ⟨N, x⟩ ⟨hx, hR, hP, h155, hO⟩
      simp only at hx hR hP h155 hO
      refine ⟨hx, ⟨hR, ?_, hP, ?_, ?_, ?_⟩, fun a ha => hO a (by omega) (by omega)⟩
      · show (I = none → N 155 5 = 0) ∧ ∀ J, I = some J → N 155 5 = 1 ∧ RMm 157 J N
        rw [h155 5 (by omega)]
        exact ⟨hM1.2.1.1, fun J hJ => ⟨(hM1.2.1.2 J hJ).1, (hM1.2.1.2 J hJ).2.cell (hO 157 (by omega) (by omega))⟩⟩
      · show N 155 16 = nI tp.1 ∧ ∀ j, j < tp.1 → N 163 j = tp.2 j
        rw [h155 16 (by omega), hO 163 (by omega) (by omega)]
        exact hM1.2.2.2.1
      · show N 155 23 = ft.1
        rw [h155 23 (by omega)]; exact hM1.2.2.2.2.1
      · show N 155 25 = ft.2
        rw [h155 25 (by omega)]; exact hM1.2.2.2.2.2
