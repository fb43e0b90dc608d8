/-! ===== PURE PART: the calls that read or change the market ===== -/
theorem isInm_pred {n : Nat} (h : n < 2147483648) (k : Int32) : f_X11_isIn k 0 (nI n - 1) = 0 ↔ (k < 0 ∨ nI n ≤ k) := by
  rw [isInm0, lt_pred h]
theorem RMm.cell {c : Nat} {A : AS} {M M' : Mem} (h : RMm c A M) (e : M' c = M c) : RMm c A M' := by
  unfold RMm RT RLm at h ⊢
  rw [e]; exact h
theorem InvM.scr {A : AS} {r : Option AS × Ps × Sk × (Int32 × Int32)} {M M' : Mem} (h : InvM (A, r) M) (hO : Out 164 166 M M') : InvM (A, r) M' ∧ Lo M M' :=
  ⟨h.row (Mo.s hO) (h.1.out hO (by omega)), hO.lo (by omega) (by omega)⟩
theorem okRk_of {A : AS} (h : OKA A) : okRk A := by
  intro r hr
  obtain ⟨k, s, h1, _, _, h2, _⟩ := h.2.1.2.1 r hr
  exact ⟨k, h1, h2⟩
theorem m_k {G : GS} {M : Mem} (h : InvM G M) {k : Nat} (hk : k < 10) : (G.1.2.1 k).1 ≤ 150 := tm_le h.1 hk
theorem c_want (a b : Int32) {M : Mem} (h : Inv M) : ∃ r, f_X10_want a b M = some r ∧ f_X11_want a b M = some r := by
  obtain ⟨⟨A, I, P, tp, ft⟩, hC, hM, hG⟩ := h
  have hn : M 156 85 = nI (A.2.1 2).1 := ans_m 2 (by omega) hM
  have hle : (A.2.1 2).1 ≤ 150 := m_k hM (k := 2) (by omega)
  have h6 : M 156 6 = A.1 5 := num_m 5 (by omega) hM
  have hT := hC.1.t2
  unfold f_X10_want f_X11_want
  rw [hn]
  rcases in_or_out (wantsC (A.1 5) (A.2.1 2)) 5 a b (by show (A.2.1 2).1 < _; omega) (by omega) with q | ⟨r, c, hr, hc, rfl, rfl⟩
  · refine ⟨-1, by rw [at_out hT q, b1_some], ?_⟩
    by_cases q1 : f_X11_isIn a 0 (nI (A.2.1 2).1 - 1) = 0
    · rw [if_pos q1]
    · rw [if_neg q1]
      rw [isInm_pred (by omega)] at q1
      rw [if_pos]
      rw [isInm0]
      have q : a < 0 ∨ (nI (A.2.1 2).1 ≤ a ∨ (b < 0 ∨ ¬ b < nI 5)) := q
      rcases q with q | q | q | q
      · exact absurd (.inl q) q1
      · exact absurd (.inr q) q1
      · exact .inl q
      · right
        rw [Int32.not_lt, Int32.le_iff_toInt_le, nI_toInt (by omega)] at q
        rw [Int32.lt_iff_toInt_lt, show (4 : Int32).toInt = 4 from by decide]
        omega
  · have hr : r < (A.2.1 2).1 := hr
    rw [at_in hT hr hc, b1_some, if_neg (by rw [isInm_pred (by omega)]; exact idx_in hr (by omega)), if_neg (by
      rw [isInm0]
      rintro (q | q)
      · exact nI_nneg (by omega) q
      · have q : nI 4 < nI c := q
        rw [nI_lt_iff (by omega) (by omega)] at q; omega)]
    by_cases h4 : c = 4
    · subst h4
      refine ⟨_, rfl, ?_⟩
      rw [if_pos (show (4 : Int32) ≤ nI 4 by decide), lt_eq]
      have e : f_X11_isMet (nI r) M = f_X10_isIn (A.1 5) (nI r) := by unfold f_X11_isMet f_X10_isIn; rw [h6]
      rw [e]
      show some (if f_X10_isIn (A.1 5) (nI r) = 0 then (0 : Int32) else 1) = some (f_X10_isIn (A.1 5) (nI r))
      rcases isIn01 (A.1 5) (nI r) with q | q <;> rw [q] <;> rfl
    · refine ⟨_, rfl, ?_⟩
      rw [if_neg (by
        intro q
        have q : nI 4 ≤ nI c := q
        rw [nI_le_iff (by omega) (by omega)] at q; omega)]
      unfold f_X11_ofWant
      have e : ((139 + (4 * nI r)) + nI c) = nI (139 + 4 * r + c) := idx3 139 4 r c
      rw [e, rt_rd hM.1 (k := 2) (by omega) hr (j := c) (by show c < 4; omega) (by simp [tbs, twd]; omega), b1_some, b1_some]
      show some ((A.2.1 2).2 r c) = some (if c = 4 then _ else (A.2.1 2).2 r c)
      rw [if_neg h4]
theorem c_book (a b : Int32) {M : Mem} (h : Inv M) : ∃ r, f_X10_book a b M = some r ∧ f_X11_book a b M = some r := by
  obtain ⟨⟨A, I, P, tp, ft⟩, hC, hM, hG⟩ := h
  have hn : M 156 5 = nI (A.2.1 5).1 := ans_m 5 (by omega) hM
  have hle : (A.2.1 5).1 ≤ 150 := m_k hM (k := 5) (by omega)
  obtain ⟨B, hT, hBe⟩ := hC.1.t5
  have hBe := hBe rfl
  subst hBe
  unfold f_X10_book f_X11_book
  rw [hn]
  rcases in_or_out (A.2.1 5) 4 a b (by omega) (by omega) with q | ⟨r, c, hr, hc, rfl, rfl⟩
  · refine ⟨-1, by rw [at_out hT q, b1_some], ?_⟩
    rw [if_pos]
    rw [isInm_pred (by omega), isInm0]
    rcases q with q | q | q | q
    · exact .inl (.inl q)
    · exact .inl (.inr q)
    · exact .inr (.inl q)
    · right; right
      rw [Int32.not_lt, Int32.le_iff_toInt_le, nI_toInt (by omega)] at q
      rw [Int32.lt_iff_toInt_lt, show (3 : Int32).toInt = 3 from by decide]
      omega
  · refine ⟨_, by rw [at_in hT hr hc, b1_some], ?_⟩
    rw [if_neg (by
      rw [isInm_pred (by omega), isInm0]
      rintro (q | q | q)
      · exact idx_in hr (by omega) q
      · exact nI_nneg (by omega) q
      · have q : nI 3 < nI c := q
        rw [nI_lt_iff (by omega) (by omega)] at q; omega)]
    have e : ((370 + (4 * nI r)) + nI c) = nI (370 + 4 * r + c) := idx3 370 4 r c
    rw [e, rt_rd hM.1 (k := 5) (by omega) hr (j := c) hc (by simp [tbs, twd]; omega), b1_some]
theorem c_remain (a b : Int32) {M : Mem} (h : Inv M) : ∃ M1 M2 r, f_X10_remain a b M = some (M1, r) ∧ f_X11_remain a b M1 = some (M2, r) ∧ Inv M2 := by
  refine both_ok (fc := fun M => f_X10_remain a b M) (fm := fun M => f_X11_remain a b M) h ?_
  rintro ⟨A, I, P, tp, ft⟩ hC hM hG
  have hle : (A.2.1 4).1 ≤ 150 := m_k hM (k := 4) (by omega)
  have hT := hC.1.t4
  have hn : ∀ M1, InvM (A, I, P, tp, ft) M1 → M1 156 7 = nI (A.2.1 4).1 := fun M1 h1 => ans_m 4 (by omega) h1
  rcases idx_cases a (n := (A.2.1 4).1) (by omega) with q | ⟨i, hi, rfl⟩
  · refine ⟨(A, I, P, tp, ft), -1, hG, ?_, fun M1 hM1 => ?_⟩
    · show Wq (f_X10_remain a b M) _
      unfold f_X10_remain
      rw [if_pos ((has0 hT a).2 q)]
      exact wq_some ⟨rfl, hC, Hi.refl _⟩
    · show Wq (f_X11_remain a b M1) _
      unfold f_X11_remain f_X11_isRemain
      rw [hn M1 hM1, if_pos ((isInm_pred (by omega) a).2 q)]
      exact wq_some ⟨rfl, hM1, Lo.refl _⟩
  · have hin := idx_in hi (by omega)
    have c0 : ¬ f_X8_has (1 + 9) (nI i) M = 0 := fun z => hin ((has0 hT _).1 z)
    have m0 : ∀ M1, InvM (A, I, P, tp, ft) M1 → ¬ f_X11_isRemain (nI i) M1 = 0 := by
      intro M1 h1 z
      unfold f_X11_isRemain at z
      rw [hn M1 h1, isInm_pred (by omega)] at z
      exact hin z
    by_cases q5 : b = 5
    · subst q5
      refine ⟨(A, I, P, tp, ft), priceS A i 0, hG, ?_, fun M1 hM1 => ?_⟩
      · show Wq (f_X10_remain (nI i) 5 M) _
        unfold f_X10_remain
        rw [if_neg c0, if_pos rfl]
        refine wq_b2 (priceOf_ok mkAt_1 hC.1 hG.1.2.2.2 (okRk_of hG.1) hi 0) ?_
        rintro N x ⟨hx, hO⟩
        exact wq_some ⟨hx, hC.scr hO (by omega), hO.hi (by omega)⟩
      · show Wq (f_X11_remain (nI i) 5 M1) _
        unfold f_X11_remain
        rw [if_neg (m0 M1 hM1), if_pos (by decide)]
        refine wq_b2 (priceOf_m hM1.1 hG.1.2.2.2 (okRk_of hG.1) hi 0) ?_
        rintro N x ⟨hx, hO⟩
        exact wq_some ⟨hx, (hM1.scr hO).1, (hM1.scr hO).2⟩
    · have q5' : ¬ b.toInt = 5 := fun z => q5 (Int32.toInt_inj.1 (z.trans (by decide)))
      by_cases q6 : b = 6
      · subst q6
        refine ⟨(A, I, P, tp, ft), spoilS A i, hG, ?_, fun M1 hM1 => ?_⟩
        · show Wq (f_X10_remain (nI i) 6 M) _
          unfold f_X10_remain
          rw [if_neg c0, if_neg q5, if_pos rfl]
          refine wq_b2 (spoilOf_ok mkAt_1 hC.1 hG.1.2.2.2 (okRk_of hG.1) hi) ?_
          rintro N x ⟨hx, hO⟩
          exact wq_some ⟨hx, hC.scr hO (by omega), hO.hi (by omega)⟩
        · show Wq (f_X11_remain (nI i) 6 M1) _
          unfold f_X11_remain
          rw [if_neg (m0 M1 hM1), if_neg q5', if_pos (by decide)]
          refine wq_b2 (spoilOf_m hM1.1 hG.1.2.2.2 (okRk_of hG.1) hi) ?_
          rintro N x ⟨hx, hO⟩
          exact wq_some ⟨hx, (hM1.scr hO).1, (hM1.scr hO).2⟩
      · have q6' : ¬ b.toInt = 6 := fun z => q6 (Int32.toInt_inj.1 (z.trans (by decide)))
        refine ⟨(A, I, P, tp, ft), tAt (A.2.1 4) 5 (nI i) b, hG, ?_, fun M1 hM1 => ?_⟩
        · show Wq (f_X10_remain (nI i) b M) _
          unfold f_X10_remain
          rw [if_neg c0, if_neg q5, if_neg q6, at_all hT, b1_some]
          exact wq_some ⟨rfl, hC, Hi.refl _⟩
        · show Wq (f_X11_remain (nI i) b M1) _
          unfold f_X11_remain
          rw [if_neg (m0 M1 hM1), if_neg q5', if_neg q6']
          rcases rng_cases b 0 4 (by omega) (by omega) with z | ⟨c, _, hc, rfl⟩
          · rw [if_pos (show f_X11_isIn b 0 4 = 0 from (isInm0 _ _ _).2 z)]
            refine wq_some ⟨?_, hM1, Lo.refl _⟩
            unfold tAt
            rw [if_pos]
            right; right
            rcases z with z | z
            · exact .inl z
            · right
              rw [Int32.lt_iff_toInt_lt, nI_toInt (by omega)] at z
              rw [Int32.lt_iff_toInt_lt, nI_toInt (by omega)]
              omega
          · rw [if_neg (by
              rw [isInm0]
              rintro (z | z)
              · exact nI_nneg (by omega) z
              · have z : nI 4 < nI c := z
                rw [nI_lt_iff (by omega) (by omega)] at z; omega), ofRemain_nI hM1.1 hi (by omega), b1_some, tAt_in hi (by omega) (by omega) (by omega)]
            exact wq_some ⟨rfl, hM1, Lo.refl _⟩
theorem c_left (a g e : Int32) {M : Mem} (h : Inv M) : ∃ M1 M2 r, f_X10_left a g e M = some (M1, r) ∧ f_X11_left a g e M1 = some (M2, r) ∧ Inv M2 := by
  refine both_ok (fc := fun M => f_X10_left a g e M) (fm := fun M => f_X11_left a g e M) h ?_
  rintro ⟨A, I, P, tp, ft⟩ hC hM hG
  have hle : (A.2.1 0).1 ≤ 150 := m_k hM (k := 0) (by omega)
  have hT := hC.1.t0
  have hn : ∀ M1, InvM (A, I, P, tp, ft) M1 → M1 156 80 = nI (A.2.1 0).1 := fun M1 h1 => ans_m 0 (by omega) h1
  by_cases q : (a < 0 ∨ nI (A.2.1 0).1 ≤ a) ∨ (g < 1 ∨ (20 : Int32) < g)
  · refine ⟨(A, I, P, tp, ft), -1, hG, ?_, fun M1 hM1 => ?_⟩
    · show Wq (f_X10_left a g e M) _
      unfold f_X10_left f_X6_feastCanBe
      rw [if_pos (by rw [if_pos]; rw [has0 hT, within0]; exact q)]
      exact wq_some ⟨rfl, hC, Hi.refl _⟩
    · show Wq (f_X11_left a g e M1) _
      unfold f_X11_left f_X11_isKind
      rw [hn M1 hM1]
      by_cases z : f_X11_isIn a 0 (nI (A.2.1 0).1 - 1) = 0
      · rw [if_pos z]
        exact wq_some ⟨rfl, hM1, Lo.refl _⟩
      · rw [if_neg z, if_pos (by
          rw [isInm_pred (by omega)] at z
          rw [isInm0]
          exact q.resolve_left z)]
        exact wq_some ⟨rfl, hM1, Lo.refl _⟩
  · rw [not_or] at q
    rcases idx_cases a (n := (A.2.1 0).1) (by omega) with z | ⟨k, hk, rfl⟩
    · exact absurd z q.1
    · have c0 : ¬ f_X6_feastCanBe 1 (nI k) g M = 0 := by
        unfold f_X6_feastCanBe
        rw [if_neg (by rw [has0 hT, within0]; exact fun z => z.elim q.1 q.2)]
        decide
      have m0 : ∀ M1, InvM (A, I, P, tp, ft) M1 → ¬ f_X11_isKind (nI k) M1 = 0 := by
        intro M1 h1 z
        unfold f_X11_isKind at z
        rw [hn M1 h1, isInm_pred (by omega)] at z
        exact q.1 z
      have m1 : ¬ f_X11_isIn g 1 20 = 0 := by rw [isInm0]; exact q.2
      by_cases he : e = 0
      · refine ⟨(A, I, P, tp, ft), leftS A k g, hG, ?_, fun M1 hM1 => ?_⟩
        · show Wq (f_X10_left (nI k) g e M) _
          unfold f_X10_left
          rw [if_neg c0, if_pos he]
          refine wq_b2 (leftByFeast_ok mkAt_1 hC.1 hG.1.2.2.2 hk g) ?_
          rintro N x ⟨hx, hO⟩
          exact wq_some ⟨hx, hC.scr hO (by omega), hO.hi (by omega)⟩
        · show Wq (f_X11_left (nI k) g e M1) _
          unfold f_X11_left
          rw [if_neg (m0 M1 hM1), if_neg m1, if_pos he]
          refine wq_b2 (leftOf_ok hM1.1 hG.1.2.2.2 hk g) ?_
          rintro N x ⟨hx, hO⟩
          exact wq_some ⟨hx, (hM1.scr hO).1, (hM1.scr hO).2⟩
      · refine ⟨(A, I, P, tp, ft), edgeS A k g, hG, ?_, fun M1 hM1 => ?_⟩
        · show Wq (f_X10_left (nI k) g e M) _
          unfold f_X10_left
          rw [if_neg c0, if_neg he]
          refine wq_b2 (edgeOfFeast_ok mkAt_1 hC.1 hG.1.2.2.2 hk g) ?_
          rintro N x ⟨hx, hO⟩
          exact wq_some ⟨hx, hC.scr hO (by omega), hO.hi (by omega)⟩
        · show Wq (f_X11_left (nI k) g e M1) _
          unfold f_X11_left
          rw [if_neg (m0 M1 hM1), if_neg m1, if_neg he]
          refine wq_b2 (edgeOf_ok hM1.1 hG.1.2.2.2 hk g) ?_
          rintro N x ⟨hx, hO⟩
          exact wq_some ⟨hx, (hM1.scr hO).1, (hM1.scr hO).2⟩
