/-! ===== PURE PART: piece, test, limit, trade ===== -/
theorem reg_own {k r j : Nat} (hk : k < 10) (hr : r < tmx k) (hj : j < twd k) : tbs k + (r * twd k + j) ≠ tcn k := by
  have h := row_lt (m := tmx k) hr hj (Nat.le_refl _)
  have : ¬ (tbs k ≤ tcn k ∧ tcn k < tbs k + tmx k * twd k) := by
    rcases lt10 hk with rfl | rfl | rfl | rfl | rfl | rfl | rfl | rfl | rfl | rfl <;> simp [tbs, tcn, tmx, twd]
  omega
theorem RMm.add {A : AS} {M M' : Mem} (h : RMm 156 A M) (hL : A.2.2.length ≤ 16) {k : Nat} (hk : k < 10) (hf : (A.2.1 k).1 < tmx k) {v : Nat → Int32} (hn : M' 156 (tcn k) = nI ((A.2.1 k).1 + 1)) (hv : ∀ j, j < twd k → M' 156 (tbs k + ((A.2.1 k).1 * twd k + j)) = v j) (hs : ∀ x, x ≠ tcn k → (∀ j, j < twd k → x ≠ tbs k + ((A.2.1 k).1 * twd k + j)) → M' 156 x = M 156 x) : RMm 156 (setT A k (tAdd (A.2.1 k) v)) M' := by
  refine h.putT hL hk ((h.2.1 k hk).addRow hf hn hv ?_) ?_
  · intro r j hr hj
    refine hs _ (reg_own hk (by omega) hj) ?_
    intro j' hj' e
    have := row_inj hj hj' (Nat.add_left_cancel e)
    omega
  · intro x hx
    refine hs x (fun e => hx (.inl e)) ?_
    intro j hj e
    have := row_lt (m := tmx k) hf hj (Nat.le_refl _)
    exact hx (.inr ⟨by omega, by omega⟩)
theorem RMm.clear {A : AS} {M : Mem} (h : RMm 156 A M) (hL : A.2.2.length ≤ 16) {k : Nat} (hk : k < 10) : RMm 156 (setT A k (tCut (A.2.1 k) 0)) (up2 M 156 (tcn k) 0) := by
  refine h.putT hL hk ⟨up2_at _ _ _ _, Nat.zero_le _, fun r j hr hj => absurd hr (Nat.not_lt_zero _)⟩ ?_
  intro j hj
  exact up2_slot _ _ _ (fun e => hj (.inl e))
section LST
variable {A : AS} {r : Option AS × Ps × Sk × (Int32 × Int32)} {M M' : Mem} {T : Tb}
theorem InvC.l6 (h : InvC (A, r) M) (hT : RR (79 + 1) 6 2 T M') (hO : Out (79 + 1) (79 + 3) M M') : InvC (setT A 6 T, r) M' := by
  refine h.lsts (hO.wide (by omega) (by omega)) ⟨hT, h.2.1.2.1.out hO (by omega), h.2.1.2.2.1.out hO (by omega), h.2.1.2.2.2.out hO (by omega)⟩ rfl ?_ rfl
  intro k hk
  show (if k = 6 then T else A.2.1 k) = _
  rw [if_neg (by omega)]
theorem InvC.l7 (h : InvC (A, r) M) (hT : RR (79 + 3) 6 2 T M') (hO : Out (79 + 3) (79 + 5) M M') : InvC (setT A 7 T, r) M' := by
  refine h.lsts (hO.wide (by omega) (by omega)) ⟨h.2.1.1.out hO (by omega), hT, h.2.1.2.2.1.out hO (by omega), h.2.1.2.2.2.out hO (by omega)⟩ rfl ?_ rfl
  intro k hk
  show (if k = 7 then T else A.2.1 k) = _
  rw [if_neg (by omega)]
theorem InvC.l8 (h : InvC (A, r) M) (hT : RR (79 + 5) 6 1 T M') (hO : Out (79 + 5) (79 + 7) M M') : InvC (setT A 8 T, r) M' := by
  refine h.lsts (hO.wide (by omega) (by omega)) ⟨h.2.1.1.out hO (by omega), h.2.1.2.1.out hO (by omega), hT, h.2.1.2.2.2.out hO (by omega)⟩ rfl ?_ rfl
  intro k hk
  show (if k = 8 then T else A.2.1 k) = _
  rw [if_neg (by omega)]
theorem InvC.l9 (h : InvC (A, r) M) (hT : RR (79 + 7) 8 4 T M') (hO : Out (79 + 7) (79 + 9) M M') : InvC (setT A 9 T, r) M' := by
  refine h.lsts (hO.wide (by omega) (by omega)) ⟨h.2.1.1.out hO (by omega), h.2.1.2.1.out hO (by omega), h.2.1.2.2.1.out hO (by omega), hT⟩ rfl ?_ rfl
  intro k hk
  show (if k = 9 then T else A.2.1 k) = _
  rw [if_neg (by omega)]
end LST
/-- a number that is not below a and not above b, as one of them -/
theorem rng_in {x : Int32} (a b : Nat) {a' b' : Int32} (ha : a' = nI a) (hb : b' = nI b) (h : b < 2147483647) (hab : a ≤ b) (q : ¬ (x < a' ∨ b' < x)) : ∃ k, a ≤ k ∧ k ≤ b ∧ x = nI k := by
  subst ha hb
  exact (rng_cases x a b h hab).resolve_left q
theorem c_piece (a b : Int32) {M : Mem} (h : Inv M) : ∃ M1 M2 r, f_X10_piece a b M = some (M1, r) ∧ f_X11_piece a b M1 = some (M2, r) ∧ Inv M2 := by
  refine both_ok (fc := fun M => f_X10_piece a b M) (fm := fun M => f_X11_piece a b M) h ?_
  rintro ⟨A, I, P, tp, ft⟩ hC hM hG
  have hT := hC.2.1.1
  have hle : (A.2.1 6).1 ≤ 6 := hT.le
  have hLL := hG.1.2.2.2.1
  have hn : ∀ M1, InvM (A, I, P, tp, ft) M1 → M1 156 87 = nI (A.2.1 6).1 := fun M1 h1 => ans_m 6 (by omega) h1
  by_cases q : a = -1
  · refine ⟨(setT A 6 (tCut (A.2.1 6) 0), I, P, tp, ft), 0, ⟨⟨hG.1.1, hG.1.2.1, ⟨fun r hr => absurd hr (Nat.not_lt_zero _), hG.1.2.2.1.2⟩, hG.1.2.2.2⟩, hG.2⟩, ?_, fun M1 hM1 => ?_⟩
    · show Wq (f_X10_piece a b M) _
      unfold f_X10_piece
      rw [if_pos q, lt_eq]
      obtain ⟨e1, e2, e3⟩ := empty_ok hT
      exact wq_some ⟨e1, hC.l6 e2 (e3.wide (by omega) (by omega)), e3.hi (by omega)⟩
    · show Wq (f_X11_piece a b M1) _
      unfold f_X11_piece
      rw [if_pos q, lt_eq]
      have hR : RMm 156 (setT A 6 (tCut (A.2.1 6) 0)) (up2 M1 156 87 0) := hM1.1.clear hLL (k := 6) (by omega)
      have hO : Out 156 157 M1 (up2 M1 156 87 0) := (Out.refl _ _ _).up (by omega) (by omega)
      exact wq_some ⟨rfl, hM1.row (Mo.w hO) hR, hO.lo (by omega) (by omega)⟩
  · by_cases q2 : (a < 1 ∨ (30 : Int32) < a) ∨ (b < 1 ∨ (99 : Int32) < b)
    · refine ⟨(A, I, P, tp, ft), -1, hG, ?_, fun M1 hM1 => ?_⟩
      · show Wq (f_X10_piece a b M) _
        unfold f_X10_piece
        rw [if_neg q, if_pos (by rw [within0, within0]; exact q2)]
        exact wq_some ⟨rfl, hC, Hi.refl _⟩
      · show Wq (f_X11_piece a b M1) _
        unfold f_X11_piece
        rw [if_neg q, if_pos (by rw [isInm0, isInm0]; exact q2.imp id .inl)]
        exact wq_some ⟨rfl, hM1, Lo.refl _⟩
    · have c1 : ¬ (f_X10_within a 1 30 = 0 ∨ f_X10_within b 1 99 = 0) := by rw [within0, within0]; exact q2
      by_cases hf : (A.2.1 6).1 < 6
      · obtain ⟨x, x1, x2, x3⟩ := rng_in 1 30 rfl rfl (by omega) (by omega) (fun z => q2 (.inl z))
        obtain ⟨y, y1, y2, y3⟩ := rng_in 1 99 rfl rfl (by omega) (by omega) (fun z => q2 (.inr z))
        have hok : okPie (tAdd (A.2.1 6) (row4 a b 0 0)) := by
          intro r hr
          have hr : r < (A.2.1 6).1 + 1 := hr
          show ∃ a' b', 1 ≤ a' ∧ a' ≤ 30 ∧ 1 ≤ b' ∧ b' ≤ 99 ∧ (if r = (A.2.1 6).1 then a else (A.2.1 6).2 r 0) = nI a' ∧ (if r = (A.2.1 6).1 then b else (A.2.1 6).2 r 1) = nI b'
          by_cases z : r = (A.2.1 6).1
          · simp only [if_pos z]; exact ⟨x, y, x1, x2, y1, y2, x3, y3⟩
          · simp only [if_neg z]; exact hG.1.2.2.1.1 r (show r < (A.2.1 6).1 by omega)
        refine ⟨(setT A 6 (tAdd (A.2.1 6) (row4 a b 0 0)), I, P, tp, ft), nI ((A.2.1 6).1 + 1), ⟨⟨hG.1.1, hG.1.2.1, ⟨hok, hG.1.2.2.1.2⟩, hG.1.2.2.2⟩, hG.2⟩, ?_, fun M1 hM1 => ?_⟩
        · show Wq (f_X10_piece a b M) _
          unfold f_X10_piece
          rw [if_neg q, if_neg c1]
          refine wq_b2 (addTold_ok hT hf a b 0 0) ?_
          rintro N z ⟨hz, hR, hO⟩
          exact wq_some ⟨hz, hC.l6 hR hO, hO.hi (by omega)⟩
        · show Wq (f_X11_piece a b M1) _
          unfold f_X11_piece
          have i0 : (307 + (2 * nI (A.2.1 6).1)) = nI (307 + 2 * (A.2.1 6).1) := idx2 307 2 _
          have i1 : ((307 + (2 * nI (A.2.1 6).1)) + 1) = nI (307 + 2 * (A.2.1 6).1 + 1) := idx3 307 2 _ 1
          rw [if_neg q, hn M1 hM1, if_neg (by
            rw [isInm0, isInm0]
            rintro (z | z | z)
            · exact q2 (.inl z)
            · exact q2 (.inr z)
            · have z : nI (A.2.1 6).1 = nI 6 := z
              rw [nI_eq_iff (by omega) (by omega)] at z; omega), i0, wr_nI la_156 (by omega) (by omega), b1_some, up2_slot _ _ _ (by omega), hn M1 hM1, i1, wr_nI la_156 (by omega) (by omega), b1_some, lt_eq, up2_slot _ _ _ (by omega), up2_slot _ _ _ (by omega), hn M1 hM1, nI_inc, up2_at]
          have hO : Out 156 157 M1 (up2 (up2 (up2 M1 156 (307 + 2 * (A.2.1 6).1) a) 156 (307 + 2 * (A.2.1 6).1 + 1) b) 156 87 (nI ((A.2.1 6).1 + 1))) := (((Out.refl _ _ _).up (by omega) (by omega)).up (by omega) (by omega)).up (by omega) (by omega)
          have hR : RMm 156 (setT A 6 (tAdd (A.2.1 6) (row4 a b 0 0))) (up2 (up2 (up2 M1 156 (307 + 2 * (A.2.1 6).1) a) 156 (307 + 2 * (A.2.1 6).1 + 1) b) 156 87 (nI ((A.2.1 6).1 + 1))) := by
            refine hM1.1.add hLL (k := 6) (by omega) hf (up2_at _ _ _ _) ?_ ?_
            · intro j hj
              have hj : j < 2 := hj
              show up2 _ 156 87 _ 156 (307 + ((A.2.1 6).1 * 2 + j)) = _
              simp only [up2_eq, true_and, row4]
              have : j = 0 ∨ j = 1 := by omega
              rcases this with rfl | rfl
              · rw [if_neg (by omega), if_neg (by omega), if_pos (by omega)]; simp
              · rw [if_neg (by omega), if_pos (by omega)]; simp
            · intro x hx hy
              have hx : x ≠ 87 := hx
              have y0 : x ≠ 307 + ((A.2.1 6).1 * 2 + 0) := hy 0 (by show 0 < 2; omega)
              have y1 : x ≠ 307 + ((A.2.1 6).1 * 2 + 1) := hy 1 (by show 1 < 2; omega)
              simp only [up2_eq, true_and]
              rw [if_neg (by omega), if_neg (by omega), if_neg (by omega)]
          exact wq_some ⟨rfl, hM1.row (Mo.w hO) hR, hO.lo (by omega) (by omega)⟩
      · refine ⟨(A, I, P, tp, ft), -1, hG, ?_, fun M1 hM1 => ?_⟩
        · show Wq (f_X10_piece a b M) _
          unfold f_X10_piece
          rw [if_neg q, if_neg c1, addTold_full hT (show (A.2.1 6).1 = 6 by omega), b2_some]
          exact wq_some ⟨rfl, hC, Hi.refl _⟩
        · show Wq (f_X11_piece a b M1) _
          unfold f_X11_piece
          rw [if_neg q, hn M1 hM1, if_pos (.inr (.inr (by rw [show (A.2.1 6).1 = 6 from by omega]; rfl)))]
          exact wq_some ⟨rfl, hM1, Lo.refl _⟩
theorem c_test (a b : Int32) {M : Mem} (h : Inv M) : ∃ M1 M2 r, f_X10_test a b M = some (M1, r) ∧ f_X11_test a b M1 = some (M2, r) ∧ Inv M2 := by
  refine both_ok (fc := fun M => f_X10_test a b M) (fm := fun M => f_X11_test a b M) h ?_
  rintro ⟨A, I, P, tp, ft⟩ hC hM hG
  have hT := hC.2.1.2.1
  have hle : (A.2.1 7).1 ≤ 6 := hT.le
  have hLL := hG.1.2.2.2.1
  have hn : ∀ M1, InvM (A, I, P, tp, ft) M1 → M1 156 88 = nI (A.2.1 7).1 := fun M1 h1 => ans_m 7 (by omega) h1
  by_cases q : a = -1
  · refine ⟨(setT A 7 (tCut (A.2.1 7) 0), I, P, tp, ft), 0, ⟨⟨hG.1.1, hG.1.2.1, ⟨hG.1.2.2.1.1, fun r hr => absurd hr (Nat.not_lt_zero _), hG.1.2.2.1.2.2⟩, hG.1.2.2.2⟩, hG.2⟩, ?_, fun M1 hM1 => ?_⟩
    · show Wq (f_X10_test a b M) _
      unfold f_X10_test
      rw [if_pos q, lt_eq]
      obtain ⟨e1, e2, e3⟩ := empty_ok hT
      exact wq_some ⟨e1, hC.l7 e2 (e3.wide (by omega) (by omega)), e3.hi (by omega)⟩
    · show Wq (f_X11_test a b M1) _
      unfold f_X11_test
      rw [if_pos q, lt_eq]
      have hR : RMm 156 (setT A 7 (tCut (A.2.1 7) 0)) (up2 M1 156 88 0) := hM1.1.clear hLL (k := 7) (by omega)
      have hO : Out 156 157 M1 (up2 M1 156 88 0) := (Out.refl _ _ _).up (by omega) (by omega)
      exact wq_some ⟨rfl, hM1.row (Mo.w hO) hR, hO.lo (by omega) (by omega)⟩
  · by_cases q2 : (a < 1 ∨ (999 : Int32) < a) ∨ (b < 1 ∨ (999 : Int32) < b)
    · refine ⟨(A, I, P, tp, ft), -1, hG, ?_, fun M1 hM1 => ?_⟩
      · show Wq (f_X10_test a b M) _
        unfold f_X10_test
        rw [if_neg q, if_pos (by rw [within0, within0]; exact q2)]
        exact wq_some ⟨rfl, hC, Hi.refl _⟩
      · show Wq (f_X11_test a b M1) _
        unfold f_X11_test
        rw [if_neg q, if_pos (by rw [isInm0, isInm0]; exact q2.imp id .inl)]
        exact wq_some ⟨rfl, hM1, Lo.refl _⟩
    · have c1 : ¬ (f_X10_within a 1 999 = 0 ∨ f_X10_within b 1 999 = 0) := by rw [within0, within0]; exact q2
      by_cases hf : (A.2.1 7).1 < 6
      · obtain ⟨x, x1, x2, x3⟩ := rng_in 1 999 rfl rfl (by omega) (by omega) (fun z => q2 (.inl z))
        obtain ⟨y, y1, y2, y3⟩ := rng_in 1 999 rfl rfl (by omega) (by omega) (fun z => q2 (.inr z))
        have hok : okTes (tAdd (A.2.1 7) (row4 a b 0 0)) := by
          intro r hr
          have hr : r < (A.2.1 7).1 + 1 := hr
          show ∃ a' b', 1 ≤ a' ∧ a' ≤ 999 ∧ 1 ≤ b' ∧ b' ≤ 999 ∧ (if r = (A.2.1 7).1 then a else (A.2.1 7).2 r 0) = nI a' ∧ (if r = (A.2.1 7).1 then b else (A.2.1 7).2 r 1) = nI b'
          by_cases z : r = (A.2.1 7).1
          · simp only [if_pos z]; exact ⟨x, y, x1, x2, y1, y2, x3, y3⟩
          · simp only [if_neg z]; exact hG.1.2.2.1.2.1 r (show r < (A.2.1 7).1 by omega)
        refine ⟨(setT A 7 (tAdd (A.2.1 7) (row4 a b 0 0)), I, P, tp, ft), nI ((A.2.1 7).1 + 1), ⟨⟨hG.1.1, hG.1.2.1, ⟨hG.1.2.2.1.1, hok, hG.1.2.2.1.2.2⟩, hG.1.2.2.2⟩, hG.2⟩, ?_, fun M1 hM1 => ?_⟩
        · show Wq (f_X10_test a b M) _
          unfold f_X10_test
          rw [if_neg q, if_neg c1]
          refine wq_b2 (addTold_ok hT hf a b 0 0) ?_
          rintro N z ⟨hz, hR, hO⟩
          exact wq_some ⟨hz, hC.l7 hR hO, hO.hi (by omega)⟩
        · show Wq (f_X11_test a b M1) _
          unfold f_X11_test
          have i0 : (319 + (2 * nI (A.2.1 7).1)) = nI (319 + 2 * (A.2.1 7).1) := idx2 319 2 _
          have i1 : ((319 + (2 * nI (A.2.1 7).1)) + 1) = nI (319 + 2 * (A.2.1 7).1 + 1) := idx3 319 2 _ 1
          rw [if_neg q, hn M1 hM1, if_neg (by
            rw [isInm0, isInm0]
            rintro (z | z | z)
            · exact q2 (.inl z)
            · exact q2 (.inr z)
            · have z : nI (A.2.1 7).1 = nI 6 := z
              rw [nI_eq_iff (by omega) (by omega)] at z; omega), i0, wr_nI la_156 (by omega) (by omega), b1_some, up2_slot _ _ _ (by omega), hn M1 hM1, i1, wr_nI la_156 (by omega) (by omega), b1_some, lt_eq, up2_slot _ _ _ (by omega), up2_slot _ _ _ (by omega), hn M1 hM1, nI_inc, up2_at]
          have hO : Out 156 157 M1 (up2 (up2 (up2 M1 156 (319 + 2 * (A.2.1 7).1) a) 156 (319 + 2 * (A.2.1 7).1 + 1) b) 156 88 (nI ((A.2.1 7).1 + 1))) := (((Out.refl _ _ _).up (by omega) (by omega)).up (by omega) (by omega)).up (by omega) (by omega)
          have hR : RMm 156 (setT A 7 (tAdd (A.2.1 7) (row4 a b 0 0))) (up2 (up2 (up2 M1 156 (319 + 2 * (A.2.1 7).1) a) 156 (319 + 2 * (A.2.1 7).1 + 1) b) 156 88 (nI ((A.2.1 7).1 + 1))) := by
            refine hM1.1.add hLL (k := 7) (by omega) hf (up2_at _ _ _ _) ?_ ?_
            · intro j hj
              have hj : j < 2 := hj
              show up2 _ 156 88 _ 156 (319 + ((A.2.1 7).1 * 2 + j)) = _
              simp only [up2_eq, true_and, row4]
              have : j = 0 ∨ j = 1 := by omega
              rcases this with rfl | rfl
              · rw [if_neg (by omega), if_neg (by omega), if_pos (by omega)]; simp
              · rw [if_neg (by omega), if_pos (by omega)]; simp
            · intro x hx hy
              have hx : x ≠ 88 := hx
              have y0 : x ≠ 319 + ((A.2.1 7).1 * 2 + 0) := hy 0 (by show 0 < 2; omega)
              have y1 : x ≠ 319 + ((A.2.1 7).1 * 2 + 1) := hy 1 (by show 1 < 2; omega)
              simp only [up2_eq, true_and]
              rw [if_neg (by omega), if_neg (by omega), if_neg (by omega)]
          exact wq_some ⟨rfl, hM1.row (Mo.w hO) hR, hO.lo (by omega) (by omega)⟩
      · refine ⟨(A, I, P, tp, ft), -1, hG, ?_, fun M1 hM1 => ?_⟩
        · show Wq (f_X10_test a b M) _
          unfold f_X10_test
          rw [if_neg q, if_neg c1, addTold_full hT (show (A.2.1 7).1 = 6 by omega), b2_some]
          exact wq_some ⟨rfl, hC, Hi.refl _⟩
        · show Wq (f_X11_test a b M1) _
          unfold f_X11_test
          rw [if_neg q, hn M1 hM1, if_pos (.inr (.inr (by rw [show (A.2.1 7).1 = 6 from by omega]; rfl)))]
          exact wq_some ⟨rfl, hM1, Lo.refl _⟩
theorem c_limit (a : Int32) {M : Mem} (h : Inv M) : ∃ M1 M2 r, f_X10_limit a M = some (M1, r) ∧ f_X11_limit a M1 = some (M2, r) ∧ Inv M2 := by
  refine both_ok (fc := fun M => f_X10_limit a M) (fm := fun M => f_X11_limit a M) h ?_
  rintro ⟨A, I, P, tp, ft⟩ hC hM hG
  have hT := hC.2.1.2.2.1
  have hle : (A.2.1 8).1 ≤ 6 := hT.le
  have hLL := hG.1.2.2.2.1
  have hn : ∀ M1, InvM (A, I, P, tp, ft) M1 → M1 156 89 = nI (A.2.1 8).1 := fun M1 h1 => ans_m 8 (by omega) h1
  by_cases q : a = -1
  · refine ⟨(setT A 8 (tCut (A.2.1 8) 0), I, P, tp, ft), 0, ⟨⟨hG.1.1, hG.1.2.1, ⟨hG.1.2.2.1.1, hG.1.2.2.1.2.1, fun r hr => absurd hr (Nat.not_lt_zero _), hG.1.2.2.1.2.2.2⟩, hG.1.2.2.2⟩, hG.2⟩, ?_, fun M1 hM1 => ?_⟩
    · show Wq (f_X10_limit a M) _
      unfold f_X10_limit
      rw [if_pos q, lt_eq]
      obtain ⟨e1, e2, e3⟩ := empty_ok hT
      exact wq_some ⟨e1, hC.l8 e2 (e3.wide (by omega) (by omega)), e3.hi (by omega)⟩
    · show Wq (f_X11_limit a M1) _
      unfold f_X11_limit
      rw [if_pos q, lt_eq]
      have hR : RMm 156 (setT A 8 (tCut (A.2.1 8) 0)) (up2 M1 156 89 0) := hM1.1.clear hLL (k := 8) (by omega)
      have hO : Out 156 157 M1 (up2 M1 156 89 0) := (Out.refl _ _ _).up (by omega) (by omega)
      exact wq_some ⟨rfl, hM1.row (Mo.w hO) hR, hO.lo (by omega) (by omega)⟩
  · by_cases q2 : a < 1 ∨ (999 : Int32) < a
    · refine ⟨(A, I, P, tp, ft), -1, hG, ?_, fun M1 hM1 => ?_⟩
      · show Wq (f_X10_limit a M) _
        unfold f_X10_limit
        rw [if_neg q, if_pos (by rw [within0]; exact q2)]
        exact wq_some ⟨rfl, hC, Hi.refl _⟩
      · show Wq (f_X11_limit a M1) _
        unfold f_X11_limit
        rw [if_neg q, if_pos (by rw [isInm0]; exact .inl q2)]
        exact wq_some ⟨rfl, hM1, Lo.refl _⟩
    · have c1 : ¬ (f_X10_within a 1 999 = 0) := by rw [within0]; exact q2
      by_cases hf : (A.2.1 8).1 < 6
      · obtain ⟨x, x1, x2, x3⟩ := rng_in 1 999 rfl rfl (by omega) (by omega) q2
        have hok : okLim (tAdd (A.2.1 8) (row4 a 0 0 0)) := by
          intro r hr
          have hr : r < (A.2.1 8).1 + 1 := hr
          show ∃ a', 1 ≤ a' ∧ a' ≤ 999 ∧ (if r = (A.2.1 8).1 then a else (A.2.1 8).2 r 0) = nI a'
          by_cases z : r = (A.2.1 8).1
          · simp only [if_pos z]; exact ⟨x, x1, x2, x3⟩
          · simp only [if_neg z]; exact hG.1.2.2.1.2.2.1 r (show r < (A.2.1 8).1 by omega)
        refine ⟨(setT A 8 (tAdd (A.2.1 8) (row4 a 0 0 0)), I, P, tp, ft), nI ((A.2.1 8).1 + 1), ⟨⟨hG.1.1, hG.1.2.1, ⟨hG.1.2.2.1.1, hG.1.2.2.1.2.1, hok, hG.1.2.2.1.2.2.2⟩, hG.1.2.2.2⟩, hG.2⟩, ?_, fun M1 hM1 => ?_⟩
        · show Wq (f_X10_limit a M) _
          unfold f_X10_limit
          rw [if_neg q, if_neg c1]
          refine wq_b2 (addTold_ok hT hf a 0 0 0) ?_
          rintro N z ⟨hz, hR, hO⟩
          exact wq_some ⟨hz, hC.l8 hR hO, hO.hi (by omega)⟩
        · show Wq (f_X11_limit a M1) _
          unfold f_X11_limit
          have i0 : (331 + nI (A.2.1 8).1) = nI (331 + (A.2.1 8).1) := nI_add 331 _
          rw [if_neg q, hn M1 hM1, if_neg (by
            rw [isInm0]
            rintro (z | z)
            · exact q2 z
            · have z : nI (A.2.1 8).1 = nI 6 := z
              rw [nI_eq_iff (by omega) (by omega)] at z; omega), i0, wr_nI la_156 (by omega) (by omega), b1_some, lt_eq, up2_slot _ _ _ (by omega), hn M1 hM1, nI_inc, up2_at]
          have hO : Out 156 157 M1 (up2 (up2 M1 156 (331 + (A.2.1 8).1) a) 156 89 (nI ((A.2.1 8).1 + 1))) := ((Out.refl _ _ _).up (by omega) (by omega)).up (by omega) (by omega)
          have hR : RMm 156 (setT A 8 (tAdd (A.2.1 8) (row4 a 0 0 0))) (up2 (up2 M1 156 (331 + (A.2.1 8).1) a) 156 89 (nI ((A.2.1 8).1 + 1))) := by
            refine hM1.1.add hLL (k := 8) (by omega) hf (up2_at _ _ _ _) ?_ ?_
            · intro j hj
              have hj : j < 1 := hj
              show up2 _ 156 89 _ 156 (331 + ((A.2.1 8).1 * 1 + j)) = _
              simp only [up2_eq, true_and, row4]
              rw [if_neg (by omega), if_pos (by omega), if_pos (by omega)]
            · intro x hx hy
              have hx : x ≠ 89 := hx
              have y0 : x ≠ 331 + ((A.2.1 8).1 * 1 + 0) := hy 0 (by show 0 < 1; omega)
              simp only [up2_eq, true_and]
              rw [if_neg (by omega), if_neg (by omega)]
          exact wq_some ⟨rfl, hM1.row (Mo.w hO) hR, hO.lo (by omega) (by omega)⟩
      · refine ⟨(A, I, P, tp, ft), -1, hG, ?_, fun M1 hM1 => ?_⟩
        · show Wq (f_X10_limit a M) _
          unfold f_X10_limit
          rw [if_neg q, if_neg c1, addTold_full hT (show (A.2.1 8).1 = 6 by omega), b2_some]
          exact wq_some ⟨rfl, hC, Hi.refl _⟩
        · show Wq (f_X11_limit a M1) _
          unfold f_X11_limit
          rw [if_neg q, hn M1 hM1, if_pos (.inr (by rw [show (A.2.1 8).1 = 6 from by omega]; rfl))]
          exact wq_some ⟨rfl, hM1, Lo.refl _⟩
theorem c_trade (a b n m : Int32) {M : Mem} (h : Inv M) : ∃ M1 M2 r, f_X10_trade a b n m M = some (M1, r) ∧ f_X11_trade a b n m M1 = some (M2, r) ∧ Inv M2 := by
  refine both_ok (fc := fun M => f_X10_trade a b n m M) (fm := fun M => f_X11_trade a b n m M) h ?_
  rintro ⟨A, I, P, tp, ft⟩ hC hM hG
  have hT := hC.2.1.2.2.2
  have hle : (A.2.1 9).1 ≤ 8 := hT.le
  have hLL := hG.1.2.2.2.1
  have hn : ∀ M1, InvM (A, I, P, tp, ft) M1 → M1 156 90 = nI (A.2.1 9).1 := fun M1 h1 => ans_m 9 (by omega) h1
  by_cases q : a = -1
  · refine ⟨(setT A 9 (tCut (A.2.1 9) 0), I, P, tp, ft), 0, ⟨⟨hG.1.1, hG.1.2.1, ⟨hG.1.2.2.1.1, hG.1.2.2.1.2.1, hG.1.2.2.1.2.2.1, fun r hr => absurd hr (Nat.not_lt_zero _)⟩, hG.1.2.2.2⟩, hG.2⟩, ?_, fun M1 hM1 => ?_⟩
    · show Wq (f_X10_trade a b n m M) _
      unfold f_X10_trade
      rw [if_pos q, lt_eq]
      obtain ⟨e1, e2, e3⟩ := empty_ok hT
      exact wq_some ⟨e1, hC.l9 e2 (e3.wide (by omega) (by omega)), e3.hi (by omega)⟩
    · show Wq (f_X11_trade a b n m M1) _
      unfold f_X11_trade
      rw [if_pos q, lt_eq]
      have hR : RMm 156 (setT A 9 (tCut (A.2.1 9) 0)) (up2 M1 156 90 0) := hM1.1.clear hLL (k := 9) (by omega)
      have hO : Out 156 157 M1 (up2 M1 156 90 0) := (Out.refl _ _ _).up (by omega) (by omega)
      exact wq_some ⟨rfl, hM1.row (Mo.w hO) hR, hO.lo (by omega) (by omega)⟩
  · by_cases q2 : ((a < 0 ∨ (5 : Int32) < a) ∨ ((b < 0 ∨ (5 : Int32) < b) ∨ a = b)) ∨ ((n < 1 ∨ (9 : Int32) < n) ∨ (m < 1 ∨ (9 : Int32) < m))
    · refine ⟨(A, I, P, tp, ft), -1, hG, ?_, fun M1 hM1 => ?_⟩
      · show Wq (f_X10_trade a b n m M) _
        unfold f_X10_trade f_X10_isTradeKind
        rw [if_neg q]
        by_cases z : (f_X10_within a 0 5 = 0 ∨ (f_X10_within b 0 5 = 0 ∨ a = b))
        · rw [if_pos z]
          exact wq_some ⟨rfl, hC, Hi.refl _⟩
        · rw [if_neg z, if_pos (by
            rw [within0, within0] at z
            rw [within0, within0]
            exact q2.resolve_left z)]
          exact wq_some ⟨rfl, hC, Hi.refl _⟩
      · show Wq (f_X11_trade a b n m M1) _
        unfold f_X11_trade f_X11_isOne
        rw [if_neg q, if_pos (by
          rw [isInm0, isInm0, isInm0, isInm0]
          rcases q2 with (z | z | z) | z | z
          · exact .inl z
          · exact .inr (.inl z)
          · exact .inr (.inr (.inl z))
          · exact .inr (.inr (.inr (.inl z)))
          · exact .inr (.inr (.inr (.inr (.inl z)))))]
        exact wq_some ⟨rfl, hM1, Lo.refl _⟩
    · have c1 : ¬ (f_X10_isTradeKind a = 0 ∨ (f_X10_isTradeKind b = 0 ∨ a = b)) := by
        unfold f_X10_isTradeKind
        rw [within0, within0]; exact fun z => q2 (.inl z)
      have c2 : ¬ (f_X10_within n 1 9 = 0 ∨ f_X10_within m 1 9 = 0) := by rw [within0, within0]; exact fun z => q2 (.inr z)
      by_cases hf : (A.2.1 9).1 < 8
      · obtain ⟨x, x1, x2, x3⟩ := rng_in (x := a) 0 5 rfl rfl (by omega) (by omega) (fun z => q2 (.inl (.inl z)))
        obtain ⟨y, y1, y2, y3⟩ := rng_in (x := b) 0 5 rfl rfl (by omega) (by omega) (fun z => q2 (.inl (.inr (.inl z))))
        obtain ⟨u, u1, u2, u3⟩ := rng_in (x := n) 1 9 rfl rfl (by omega) (by omega) (fun z => q2 (.inr (.inl z)))
        obtain ⟨v, v1, v2, v3⟩ := rng_in (x := m) 1 9 rfl rfl (by omega) (by omega) (fun z => q2 (.inr (.inr z)))
        have hxy : x ≠ y := fun e => q2 (.inl (.inr (.inr (by rw [x3, y3, e]))))
        have hok : okTrd (tAdd (A.2.1 9) (row4 a b n m)) := by
          intro r hr
          have hr : r < (A.2.1 9).1 + 1 := hr
          show ∃ a' b' n' m', a' < 6 ∧ b' < 6 ∧ a' ≠ b' ∧ 1 ≤ n' ∧ n' ≤ 9 ∧ 1 ≤ m' ∧ m' ≤ 9 ∧ (if r = (A.2.1 9).1 then a else (A.2.1 9).2 r 0) = nI a' ∧ (if r = (A.2.1 9).1 then b else (A.2.1 9).2 r 1) = nI b' ∧ (if r = (A.2.1 9).1 then n else (A.2.1 9).2 r 2) = nI n' ∧ (if r = (A.2.1 9).1 then m else (A.2.1 9).2 r 3) = nI m'
          by_cases z : r = (A.2.1 9).1
          · simp only [if_pos z]; exact ⟨x, y, u, v, by omega, by omega, hxy, u1, u2, v1, v2, x3, y3, u3, v3⟩
          · simp only [if_neg z]; exact hG.1.2.2.1.2.2.2 r (show r < (A.2.1 9).1 by omega)
        refine ⟨(setT A 9 (tAdd (A.2.1 9) (row4 a b n m)), I, P, tp, ft), nI ((A.2.1 9).1 + 1), ⟨⟨hG.1.1, hG.1.2.1, ⟨hG.1.2.2.1.1, hG.1.2.2.1.2.1, hG.1.2.2.1.2.2.1, hok⟩, hG.1.2.2.2⟩, hG.2⟩, ?_, fun M1 hM1 => ?_⟩
        · show Wq (f_X10_trade a b n m M) _
          unfold f_X10_trade
          rw [if_neg q, if_neg c1, if_neg c2]
          refine wq_b2 (addTold_ok hT hf a b n m) ?_
          rintro N z ⟨hz, hR, hO⟩
          exact wq_some ⟨hz, hC.l9 hR hO, hO.hi (by omega)⟩
        · show Wq (f_X11_trade a b n m M1) _
          unfold f_X11_trade f_X11_isOne
          have i0 : (337 + (4 * nI (A.2.1 9).1)) = nI (337 + 4 * (A.2.1 9).1) := idx2 337 4 _
          have i1 : nI (337 + 4 * (A.2.1 9).1) + 1 = nI (337 + 4 * (A.2.1 9).1 + 1) := nI_add _ 1
          have i2 : nI (337 + 4 * (A.2.1 9).1) + 2 = nI (337 + 4 * (A.2.1 9).1 + 2) := nI_add _ 2
          have i3 : nI (337 + 4 * (A.2.1 9).1) + 3 = nI (337 + 4 * (A.2.1 9).1 + 3) := nI_add _ 3
          rw [if_neg q, hn M1 hM1, if_neg (by
            rw [isInm0, isInm0, isInm0, isInm0]
            rintro (z | z | z | z | z | z)
            · exact q2 (.inl (.inl z))
            · exact q2 (.inl (.inr (.inl z)))
            · exact q2 (.inl (.inr (.inr z)))
            · exact q2 (.inr (.inl z))
            · exact q2 (.inr (.inr z))
            · have z : nI (A.2.1 9).1 = nI 8 := z
              rw [nI_eq_iff (by omega) (by omega)] at z; omega), i0, i1, i2, i3, wr_nI la_156 (by omega) (by omega), b1_some, wr_nI la_156 (by omega) (by omega), b1_some, wr_nI la_156 (by omega) (by omega), b1_some, wr_nI la_156 (by omega) (by omega), b1_some, lt_eq, up2_slot _ _ _ (by omega), up2_slot _ _ _ (by omega), up2_slot _ _ _ (by omega), up2_slot _ _ _ (by omega), hn M1 hM1, nI_inc, up2_at]
          have hO : Out 156 157 M1 (up2 (up2 (up2 (up2 (up2 M1 156 (337 + 4 * (A.2.1 9).1) a) 156 (337 + 4 * (A.2.1 9).1 + 1) b) 156 (337 + 4 * (A.2.1 9).1 + 2) n) 156 (337 + 4 * (A.2.1 9).1 + 3) m) 156 90 (nI ((A.2.1 9).1 + 1))) := (((((Out.refl _ _ _).up (by omega) (by omega)).up (by omega) (by omega)).up (by omega) (by omega)).up (by omega) (by omega)).up (by omega) (by omega)
          have hR : RMm 156 (setT A 9 (tAdd (A.2.1 9) (row4 a b n m))) (up2 (up2 (up2 (up2 (up2 M1 156 (337 + 4 * (A.2.1 9).1) a) 156 (337 + 4 * (A.2.1 9).1 + 1) b) 156 (337 + 4 * (A.2.1 9).1 + 2) n) 156 (337 + 4 * (A.2.1 9).1 + 3) m) 156 90 (nI ((A.2.1 9).1 + 1))) := by
            refine hM1.1.add hLL (k := 9) (by omega) hf (up2_at _ _ _ _) ?_ ?_
            · intro j hj
              have hj : j < 4 := hj
              show up2 _ 156 90 _ 156 (337 + ((A.2.1 9).1 * 4 + j)) = _
              simp only [up2_eq, true_and, row4]
              have : j = 0 ∨ j = 1 ∨ j = 2 ∨ j = 3 := by omega
              rcases this with rfl | rfl | rfl | rfl
              · rw [if_neg (by omega), if_neg (by omega), if_neg (by omega), if_neg (by omega), if_pos (by omega)]; simp
              · rw [if_neg (by omega), if_neg (by omega), if_neg (by omega), if_pos (by omega)]; simp
              · rw [if_neg (by omega), if_neg (by omega), if_pos (by omega)]; simp
              · rw [if_neg (by omega), if_pos (by omega)]; simp
            · intro x hx hy
              have hx : x ≠ 90 := hx
              have y0 : x ≠ 337 + ((A.2.1 9).1 * 4 + 0) := hy 0 (by show 0 < 4; omega)
              have y1 : x ≠ 337 + ((A.2.1 9).1 * 4 + 1) := hy 1 (by show 1 < 4; omega)
              have y2 : x ≠ 337 + ((A.2.1 9).1 * 4 + 2) := hy 2 (by show 2 < 4; omega)
              have y3 : x ≠ 337 + ((A.2.1 9).1 * 4 + 3) := hy 3 (by show 3 < 4; omega)
              simp only [up2_eq, true_and]
              rw [if_neg (by omega), if_neg (by omega), if_neg (by omega), if_neg (by omega), if_neg (by omega)]
          exact wq_some ⟨rfl, hM1.row (Mo.w hO) hR, hO.lo (by omega) (by omega)⟩
      · refine ⟨(A, I, P, tp, ft), -1, hG, ?_, fun M1 hM1 => ?_⟩
        · show Wq (f_X10_trade a b n m M) _
          unfold f_X10_trade
          rw [if_neg q, if_neg c1, if_neg c2, addTold_full hT (show (A.2.1 9).1 = 8 by omega), b2_some]
          exact wq_some ⟨rfl, hC, Hi.refl _⟩
        · show Wq (f_X11_trade a b n m M1) _
          unfold f_X11_trade
          rw [if_neg q, hn M1 hM1, if_pos (.inr (.inr (.inr (.inr (.inr (by rw [show (A.2.1 9).1 = 8 from by omega]; rfl))))))]
          exact wq_some ⟨rfl, hM1, Lo.refl _⟩
