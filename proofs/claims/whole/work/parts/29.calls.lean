/-! ===== PURE PART: the calls, one by one ===== -/
theorem within0 (a b c : Int32) : f_X10_within a b c = 0 ↔ (a < b ∨ c < a) := by
  unfold f_X10_within
  by_cases h : a < b ∨ c < a
  · rw [if_pos h]; exact ⟨fun _ => h, fun _ => rfl⟩
  · rw [if_neg h]; exact ⟨fun q => absurd q (by decide), fun q => absurd q h⟩
theorem isInm0 (a b c : Int32) : f_X11_isIn a b c = 0 ↔ (a < b ∨ c < a) := by
  unfold f_X11_isIn
  by_cases h : a < b ∨ c < a
  · rw [if_pos h]; exact ⟨fun _ => h, fun _ => rfl⟩
  · rw [if_neg h]; exact ⟨fun q => absurd q (by decide), fun q => absurd q h⟩
theorem has0 {o m w : Nat} {T : Tb} {M : Mem} (h : RR o m w T M) (r : Int32) : f_X8_has o r M = 0 ↔ (r < 0 ∨ nI T.1 ≤ r) := by
  rw [has_eq h]
  by_cases q : r < 0 ∨ nI T.1 ≤ r
  · rw [if_pos q]; exact ⟨fun _ => q, fun _ => rfl⟩
  · rw [if_neg q]; exact ⟨fun z => absurd z (by decide), fun z => absurd z q⟩
theorem pred_toInt {n : Nat} (h : n < 2147483648) : (nI n - 1).toInt = (n : Int) - 1 := by
  by_cases q : n = 0
  · subst q; decide
  · rw [nI_dec' (by omega), nI_toInt (by omega)]; omega
theorem lt_pred {n : Nat} (h : n < 2147483648) (k : Int32) : nI n - 1 < k ↔ nI n ≤ k := by
  rw [Int32.lt_iff_toInt_lt, Int32.le_iff_toInt_le, pred_toInt h, nI_toInt (by omega)]; omega
/-- a number is out of the first n, or it is one of them -/
theorem idx_cases (x : Int32) {n : Nat} (h : n < 2147483648) : (x < 0 ∨ nI n ≤ x) ∨ ∃ k, k < n ∧ x = nI k := by
  by_cases q : x < 0 ∨ nI n ≤ x
  · exact .inl q
  · rw [not_or, Int32.not_lt, Int32.not_le] at q
    exact .inr (nI_below q.1 q.2 h)
theorem idx_in {k n : Nat} (hk : k < n) (h : n < 2147483648) : ¬ (nI k < 0 ∨ nI n ≤ nI k) := by
  rintro (q | q)
  · exact nI_nneg (by omega) q
  · rw [nI_le_iff (by omega) (by omega)] at q; omega
/-- a number between two others is one from 0 on -/
theorem rng_cases (x : Int32) (a b : Nat) (hb : b < 2147483647) (hab : a ≤ b) : (x < nI a ∨ nI b < x) ∨ ∃ k, a ≤ k ∧ k ≤ b ∧ x = nI k := by
  by_cases q : x < nI a ∨ nI b < x
  · exact .inl q
  · right
    rw [not_or, Int32.not_lt, Int32.not_lt, Int32.le_iff_toInt_le, Int32.le_iff_toInt_le, nI_toInt (by omega), nI_toInt (by omega)] at q
    exact ⟨x.toInt.toNat, by omega, by omega, nI_ofI (by omega)⟩
theorem forget_ok {P : Ps} {M : Mem} (h : RPc P M) : RPc (0, P.2) (f_X7_forget M) ∧ Out 115 116 M (f_X7_forget M) := by
  obtain ⟨p1, p2, p3, nx, p4, p5, p6⟩ := h
  unfold f_X7_forget
  rw [lt_eq]
  have hO : Out 115 116 M (up2 M 115 2 0) := (Out.refl _ _ _).up (by omega) (by omega)
  refine ⟨⟨up2_at _ _ _ _, by simp, fun i hi => ?_, nx, p4, ?_, fun j hj => absurd hj (Nat.not_lt_zero _)⟩, hO⟩
  · obtain ⟨T, hT⟩ := p3 i hi
    exact ⟨T, hT.out hO (by omega)⟩
  · rw [up2_slot _ _ _ (by omega)]; exact p5
theorem forgets_ok {A : AS} {I : Option AS} {P : Ps} {tp : Sk} {ft : Int32 × Int32} {M : Mem} (h : InvM (A, I, P, tp, ft) M) : InvM (A, I, (0, P.2), tp, ft) (f_X11_forgets M) ∧ Out 155 156 M (f_X11_forgets M) := by
  unfold f_X11_forgets
  rw [lt_eq]
  refine ⟨h.upd155 (up2_cell _ _ _ (by omega)) (up2_cell _ _ _ (by omega)) (up2_slot _ _ _ (by omega)) ⟨up2_at _ _ _ _, by simp, fun j hj => absurd hj (Nat.not_lt_zero _)⟩ ?_ ?_, (Out.refl _ _ _).up (by omega) (by omega)⟩
  · rw [up2_slot _ _ _ (by omega), up2_cell _ _ _ (by omega)]; exact h.2.2.2.1
  · rw [up2_slot _ _ _ (by omega), up2_slot _ _ _ (by omega)]; exact h.2.2.2.2
theorem OKP.none (A : AS) (f : Nat → Sn) : OKP A (0, f) := ⟨fun j hj => absurd hj (Nat.not_lt_zero _), fun j hj => absurd hj (Nat.not_lt_zero _)⟩
theorem InvC.forget {A : AS} {I : Option AS} {P : Ps} {r : Sk × (Int32 × Int32)} {M : Mem} (h : InvC (A, I, P, r) M) : InvC (A, I, (0, P.2), r) (f_X7_forget M) ∧ Hi M (f_X7_forget M) := by
  obtain ⟨h1, h2⟩ := forget_ok h.2.2.2.2.1
  exact ⟨h.pst (h2.wide (by omega) (by omega)) h1, h2.hi (by omega)⟩
/-- a number of the market changes in the class and in the reference -/
theorem InvC.num {A : AS} {r : Option AS × Ps × Sk × (Int32 × Int32)} {M : Mem} (h : InvC (A, r) M) {k j : Nat} {v : Int32} (hk : (k = 4 ∧ j = 9) ∨ (k = 0 ∧ j = 10) ∨ (k = 1 ∧ j = 11) ∨ (k = 2 ∧ j = 12) ∨ (k = 6 ∧ j = 13) ∨ (k = 7 ∧ j = 14) ∨ (k = 3 ∧ j = 15)) : InvC (setN A k v, r) (up2 M 1 j v) ∧ Hi M (up2 M 1 j v) := by
  have hO : Out 1 27 M (up2 M 1 j v) := (Out.refl _ _ _).up (by omega) (by omega)
  exact ⟨h.mkt hO (h.1.num hk) (fun _ _ => rfl), hO.hi (by omega)⟩
theorem InvM.num {A : AS} {r : Option AS × Ps × Sk × (Int32 × Int32)} {M : Mem} (h : InvM (A, r) M) (hL : A.2.2.length ≤ 16) {k : Nat} (hk : k < 8) (v : Int32) : InvM (setN A k v, r) (up2 M 156 (nsl k) v) ∧ Lo M (up2 M 156 (nsl k) v) := by
  have hO : Out 156 157 M (up2 M 156 (nsl k) v) := (Out.refl _ _ _).up (by omega) (by omega)
  exact ⟨h.row (Mo.w hO) (h.1.upN hL hk v), hO.lo (by omega) (by omega)⟩
theorem c_state (v : Int32) {M : Mem} (h : Inv M) : ∃ M1 M2 r, some (f_X10_state v M) = some (M1, r) ∧ some (f_X11_state v M1) = some (M2, r) ∧ Inv M2 := by
  refine both_ok (fc := fun M => some (f_X10_state v M)) (fm := fun M => some (f_X11_state v M)) h ?_
  rintro ⟨A, I, P, tp, ft⟩ hC hM hG
  refine ⟨(setN A 4 v, I, (0, P.2), tp, ft), A.1 4, ⟨hG.1, hG.2.1, OKP.none _ _, hG.2.2.2⟩, ?_, ?_⟩
  · unfold f_X10_state
    obtain ⟨h1, h2⟩ := hC.num (k := 4) (j := 9) (v := v) (by omega)
    obtain ⟨h3, h4⟩ := h1.forget
    exact wq_some ⟨hC.1.1.1, h3, h2.trans h4⟩
  · intro M1 hM1
    unfold f_X11_state
    obtain ⟨h1, h2⟩ := hM1.num hG.1.2.2.2.1 (k := 4) (by omega) v
    obtain ⟨h3, h4⟩ := forgets_ok h1
    exact wq_some ⟨hM1.1.1 4 (by omega), h3, h2.trans (h4.lo (by omega) (by omega))⟩
theorem okTho_of {v : Int32} (h : ¬ (v < 0 ∨ (1000 : Int32) < v)) : okTho v := by
  rw [not_or, Int32.not_lt, Int32.not_lt, Int32.le_iff_toInt_le, Int32.le_iff_toInt_le, toInt_0, show (1000 : Int32).toInt = 1000 from by decide] at h
  exact ⟨v.toInt.toNat, by omega, nI_ofI h.1⟩
theorem c_set (w v : Int32) {M : Mem} (h : Inv M) : ∃ M1 M2 r, some (f_X10_set w v M) = some (M1, r) ∧ f_X11_set w v M1 = some (M2, r) ∧ Inv M2 := by
  refine both_ok (fc := fun M => some (f_X10_set w v M)) (fm := fun M => f_X11_set w v M) h ?_
  rintro ⟨A, I, P, tp, ft⟩ hC hM hG
  have hm : ∀ (k j i : Nat) (x : Int32), k < 8 → nsl k = i → x = nI i → i < 1000 → ∀ M1, InvM (A, I, P, tp, ft) M1 → Wq (b1 (wr M1 156 x v) fun M10 => lt (f_X11_forgets M10) fun M11 => some (M11, (1 : Int32))) (fun p => p.2 = 1 ∧ InvM (setN A k v, I, (0, P.2), tp, ft) p.1 ∧ Lo M1 p.1) := by
    intro k j i x hk hi hx hi2 M1 hM1
    subst hx
    subst hi
    obtain ⟨h1, h2⟩ := hM1.num hG.1.2.2.2.1 hk v
    obtain ⟨h3, h4⟩ := forgets_ok h1
    rw [wr_nI la_156 (by omega) (by omega), b1_some, lt_eq]
    exact wq_some ⟨rfl, h3, h2.trans (h4.lo (by omega) (by omega))⟩
  have no : (¬ (w = 0 ∧ ¬ (v < -9999 ∨ (9999 : Int32) < v))) → (¬ (w = 1 ∧ ¬ (v < 0 ∨ (1000 : Int32) < v))) → (¬ (w = 2 ∧ ¬ (v < 0 ∨ (1000 : Int32) < v))) → ∀ M1 : Mem, f_X11_set w v M1 = some (M1, 0) := by
    intro n0 n1 n2 M1
    unfold f_X11_set
    by_cases q : f_X11_isIn w 0 2 = 0
    · rw [if_pos q]
    · rw [if_neg q, lt_eq, lt_eq]
      rw [isInm0] at q
      rcases rng_cases w 0 2 (by omega) (by omega) with z | ⟨k, _, hk, rfl⟩
      · exact absurd z q
      · have : k = 0 ∨ k = 1 ∨ k = 2 := by omega
        rcases this with rfl | rfl | rfl
        · rw [if_pos (by rw [isInm0]; exact Decidable.not_not.mp (fun z => n0 ⟨rfl, z⟩))]
        · rw [if_pos (by rw [isInm0]; exact Decidable.not_not.mp (fun z => n1 ⟨rfl, z⟩))]
        · rw [if_pos (by rw [isInm0]; exact Decidable.not_not.mp (fun z => n2 ⟨rfl, z⟩))]
  by_cases q0 : w = 0 ∧ ¬ (v < -9999 ∨ (9999 : Int32) < v)
  · refine ⟨(setN A 1 v, I, (0, P.2), tp, ft), 1, ⟨hG.1, hG.2.1, OKP.none _ _, hG.2.2.2⟩, ?_, ?_⟩
    · unfold f_X10_set
      rw [if_neg (by rw [within0]; rintro (z | z); exact z q0.1; exact q0.2 z)]
      obtain ⟨h1, h2⟩ := hC.num (k := 1) (j := 11) (v := v) (by omega)
      obtain ⟨h3, h4⟩ := h1.forget
      exact wq_some ⟨rfl, h3, h2.trans h4⟩
    · intro M1 hM1
      unfold f_X11_set
      obtain ⟨rfl, q⟩ := q0
      rw [if_neg (by decide), lt_eq, lt_eq, if_neg (by rw [isInm0]; exact q), lt_eq]
      exact hm 1 0 1 _ (by omega) rfl rfl (by omega) M1 hM1
  · by_cases q1 : w = 1 ∧ ¬ (v < 0 ∨ (1000 : Int32) < v)
    · refine ⟨(setN A 6 v, I, (0, P.2), tp, ft), 1, ⟨⟨⟨hG.1.1.1, okTho_of q1.2, hG.1.1.2.2⟩, hG.1.2⟩, hG.2.1, OKP.none _ _, hG.2.2.2⟩, ?_, ?_⟩
      · unfold f_X10_set
        rw [if_pos (.inl (by rw [q1.1]; decide)), if_neg (by rw [within0]; rintro (z | z); exact z q1.1; exact q1.2 z)]
        obtain ⟨h1, h2⟩ := hC.num (k := 6) (j := 13) (v := v) (by omega)
        obtain ⟨h3, h4⟩ := h1.forget
        exact wq_some ⟨rfl, h3, h2.trans h4⟩
      · intro M1 hM1
        unfold f_X11_set
        obtain ⟨rfl, q⟩ := q1
        rw [if_neg (by decide), lt_eq, lt_eq, if_neg (by rw [isInm0]; exact q), lt_eq]
        exact hm 6 0 81 _ (by omega) rfl rfl (by omega) M1 hM1
    · by_cases q2 : w = 2 ∧ ¬ (v < 0 ∨ (1000 : Int32) < v)
      · refine ⟨(setN A 7 v, I, (0, P.2), tp, ft), 1, ⟨⟨⟨hG.1.1.1, hG.1.1.2.1, okTho_of q2.2, hG.1.1.2.2.2⟩, hG.1.2⟩, hG.2.1, OKP.none _ _, hG.2.2.2⟩, ?_, ?_⟩
        · unfold f_X10_set
          rw [if_pos (.inl (by rw [q2.1]; decide)), if_pos (.inl (by rw [q2.1]; decide)), if_neg (by rw [within0]; rintro (z | z); exact z q2.1; exact q2.2 z)]
          obtain ⟨h1, h2⟩ := hC.num (k := 7) (j := 14) (v := v) (by omega)
          obtain ⟨h3, h4⟩ := h1.forget
          exact wq_some ⟨rfl, h3, h2.trans h4⟩
        · intro M1 hM1
          unfold f_X11_set
          obtain ⟨rfl, q⟩ := q2
          rw [if_neg (by decide), lt_eq, lt_eq, if_neg (by rw [isInm0]; exact q), lt_eq]
          exact hm 7 0 82 _ (by omega) rfl rfl (by omega) M1 hM1
      · refine ⟨(A, I, P, tp, ft), 0, hG, ?_, fun M1 hM1 => ?_⟩
        · unfold f_X10_set
          rw [if_pos (by rw [within0]; exact (Decidable.not_and_iff_or_not.mp (fun z => q0 ⟨z.1, z.2⟩)).imp id Decidable.not_not.mp), if_pos (by rw [within0]; exact (Decidable.not_and_iff_or_not.mp (fun z => q1 ⟨z.1, z.2⟩)).imp id Decidable.not_not.mp), if_pos (by rw [within0]; exact (Decidable.not_and_iff_or_not.mp (fun z => q2 ⟨z.1, z.2⟩)).imp id Decidable.not_not.mp)]
          exact wq_some ⟨rfl, hC, Hi.refl _⟩
        · rw [no q0 q1 q2 M1]
          exact wq_some ⟨rfl, hM1, Lo.refl _⟩
theorem c_end (n : Int32) {M : Mem} (h : Inv M) : ∃ M1 M2 r, some (f_X10_end n M) = some (M1, r) ∧ some (f_X11_end n M1) = some (M2, r) ∧ Inv M2 := by
  refine both_ok (fc := fun M => some (f_X10_end n M)) (fm := fun M => some (f_X11_end n M)) h ?_
  rintro ⟨A, I, P, tp, ft⟩ hC hM hG
  have hle : tp.1 ≤ 400 := hG.2.2.2.1
  have hl : M 136 4 = nI tp.1 := hC.2.2.2.2.2.1
  by_cases q : n < 0 ∨ ¬ n ≤ nI tp.1
  · refine ⟨(A, I, P, tp, ft), 0, hG, ?_, fun M1 hM1 => ?_⟩
    · unfold f_X10_end
      rw [hl, if_pos q]
      exact wq_some ⟨rfl, hC, Hi.refl _⟩
    · have hl1 : M1 155 16 = nI tp.1 := hM1.2.2.2.1.1
      unfold f_X11_end
      rw [hl1, if_pos (by rw [isInm0]; rw [Int32.not_le] at q; exact q)]
      exact wq_some ⟨rfl, hM1, Lo.refl _⟩
  · have q' := q
    rw [not_or, Decidable.not_not, Int32.not_lt, Int32.le_iff_toInt_le, Int32.le_iff_toInt_le, toInt_0, nI_toInt (by omega)] at q
    obtain ⟨k, hk, rfl⟩ : ∃ k, k ≤ tp.1 ∧ n = nI k := ⟨n.toInt.toNat, by omega, nI_ofI q.1⟩
    refine ⟨(A, I, P, (k, tp.2), ft), 1, ⟨hG.1, hG.2.1, hG.2.2.1, by show k ≤ 400; omega, fun j hj => hG.2.2.2.2 j (Nat.lt_of_lt_of_le hj hk)⟩, ?_, fun M1 hM1 => ?_⟩
    · unfold f_X10_end
      rw [hl, if_neg q', lt_eq]
      have hO : Out 136 141 M (up2 M 136 4 (nI k)) := (Out.refl _ _ _).up (by omega) (by omega)
      have hT : RTk (k, tp.2) ft (up2 M 136 4 (nI k)) := by
        refine ⟨up2_at _ _ _ _, ?_, ?_, ?_⟩
        · intro j hj
          rw [up2_cell _ _ _ (by omega)]
          exact hC.2.2.2.2.2.2.1 j (Nat.lt_of_lt_of_le hj hk)
        · rw [up2_slot _ _ _ (by omega)]; exact hC.2.2.2.2.2.2.2.1
        · rw [up2_slot _ _ _ (by omega)]; exact hC.2.2.2.2.2.2.2.2
      exact wq_some ⟨rfl, hC.tok hO hT, hO.hi (by omega)⟩
    · have hl1 : M1 155 16 = nI tp.1 := hM1.2.2.2.1.1
      unfold f_X11_end
      rw [hl1, if_neg (by rw [isInm0]; rw [Int32.not_le] at q'; exact q'), lt_eq]
      have hP : RPm P (up2 M1 155 16 (nI k)) := by
        have := hM1.2.2.1
        unfold RPm RSn at this ⊢
        rw [up2_slot _ _ _ (by omega), up2_cell _ _ _ (by omega)]
        exact this
      have hT : up2 M1 155 16 (nI k) 155 16 = nI (k, tp.2).1 ∧ ∀ j, j < (k, tp.2).1 → up2 M1 155 16 (nI k) 163 j = (k, tp.2).2 j := by
        refine ⟨up2_at _ _ _ _, ?_⟩
        intro j hj
        rw [up2_cell _ _ _ (by omega)]
        exact hM1.2.2.2.1.2 j (Nat.lt_of_lt_of_le hj hk)
      have hF : up2 M1 155 16 (nI k) 155 23 = ft.1 ∧ up2 M1 155 16 (nI k) 155 25 = ft.2 := by
        rw [up2_slot _ _ _ (by omega), up2_slot _ _ _ (by omega)]; exact hM1.2.2.2.2
      exact wq_some ⟨rfl, hM1.upd155 (M' := up2 M1 155 16 (nI k)) (up2_cell _ _ _ (by omega)) (up2_cell _ _ _ (by omega)) (up2_slot _ _ _ (by omega)) hP hT hF, ((Out.refl 155 156 M1).up (by omega) (by omega)).lo (by omega) (by omega)⟩
theorem c_fault (w : Int32) {M : Mem} (h : Inv M) : f_X10_fault w M = f_X11_fault w M := by
  obtain ⟨G, hC, hM, hG⟩ := h
  unfold f_X10_fault f_X11_fault
  rw [hC.2.2.2.2.2.2.2.1, hC.2.2.2.2.2.2.2.2, hM.2.2.2.2.1, hM.2.2.2.2.2]
  by_cases q : w = 0
  · rw [if_pos q, lt_eq, if_pos q]
  · rw [if_neg q, lt_eq, lt_eq, if_neg q]
/-- where both sides only answer -/
theorem ans_m (k : Nat) (hk : k < 10) {G : GS} {M : Mem} (h : InvM G M) : M 156 (tcn k) = nI (G.1.2.1 k).1 := (h.1.2.1 k hk).1
theorem num_m (k : Nat) (hk : k < 8) {G : GS} {M : Mem} (h : InvM G M) : M 156 (nsl k) = G.1.1 k := h.1.1 k hk
theorem c_look (w : Int32) {M : Mem} (h : Inv M) : ∃ r, f_X10_look w M = some r ∧ f_X11_look w M = some r := by
  obtain ⟨⟨A, I, P, tp, ft⟩, hC, hM, hG⟩ := h
  obtain ⟨n1, n2, n3, n4, n5, n6, n7⟩ := hC.1.1
  obtain ⟨B, hB, hBe⟩ := hC.1.t5
  have hBe := hBe rfl
  subst hBe
  have m0 := num_m 0 (by omega) hM
  have m1 := num_m 1 (by omega) hM
  have m2 := num_m 2 (by omega) hM
  have m3 := num_m 3 (by omega) hM
  have m4 := num_m 4 (by omega) hM
  have m6 := num_m 6 (by omega) hM
  have m7 := num_m 7 (by omega) hM
  have a0 := ans_m 0 (by omega) hM
  have a1 := ans_m 1 (by omega) hM
  have a2 := ans_m 2 (by omega) hM
  have a3 := ans_m 3 (by omega) hM
  have a4 := ans_m 4 (by omega) hM
  have a5 := ans_m 5 (by omega) hM
  have a6 := ans_m 6 (by omega) hM
  have a7 := ans_m 7 (by omega) hM
  have a8 := ans_m 8 (by omega) hM
  have a9 := ans_m 9 (by omega) hM
  obtain ⟨st, l1, _⟩ := hM.1.2.2
  obtain ⟨st', l2, _⟩ := hC.1.lw
  simp only [tcn, nsl, List.getD_cons_zero, List.getD_cons_succ] at m0 m1 m2 m3 m4 m6 m7 a0 a1 a2 a3 a4 a5 a6 a7 a8 a9
  have c0 := hC.1.t0.cnt
  have c1 := hC.1.t1.cnt
  have c2 := hC.1.t2.cnt
  have c3 := hC.1.t3.cnt
  have c4 := hC.1.t4.cnt
  have c5 := hB.cnt
  have c6 := hC.2.1.1.cnt
  have c7 := hC.2.1.2.1.cnt
  have c8 := hC.2.1.2.2.1.cnt
  have c9 := hC.2.1.2.2.2.cnt
  have p1 := hC.2.2.2.2.1.1
  have p2 := hM.2.2.1.1
  by_cases q : w.toInt < 0 ∨ 18 < w.toInt
  · refine ⟨-1000000, ?_, ?_⟩
    · unfold f_X10_look f_X10_lookAtTold
      rw [if_pos (by omega), if_pos (by omega), b1_some]
    · unfold f_X11_look
      rw [if_pos q]
  · obtain ⟨k, hk, rfl⟩ : ∃ k, k < 19 ∧ w = nI k := ⟨w.toInt.toNat, by omega, nI_ofI (by omega)⟩
    have : k = 0 ∨ k = 1 ∨ k = 2 ∨ k = 3 ∨ k = 4 ∨ k = 5 ∨ k = 6 ∨ k = 7 ∨ k = 8 ∨ k = 9 ∨ k = 10 ∨ k = 11 ∨ k = 12 ∨ k = 13 ∨ k = 14 ∨ k = 15 ∨ k = 16 ∨ k = 17 ∨ k = 18 := by omega
    rcases this with rfl | rfl | rfl | rfl | rfl | rfl | rfl | rfl | rfl | rfl | rfl | rfl | rfl | rfl | rfl | rfl | rfl | rfl | rfl
    · exact ⟨M 156 80, (congrArg some (c0.trans a0.symm) : some (M (1 + 1) 3) = _), rfl⟩
    · exact ⟨M 156 0, (congrArg some (n2.trans m0.symm) : some (M 1 10) = _), rfl⟩
    · exact ⟨M 156 7, (congrArg some (c4.trans a4.symm) : some (M (1 + 9) 3) = _), rfl⟩
    · exact ⟨M 156 1, (congrArg some (n3.trans m1.symm) : some (M 1 11) = _), rfl⟩
    · exact ⟨M 156 2, (congrArg some (n4.trans m2.symm) : some (M 1 12) = _), rfl⟩
    · exact ⟨M 156 3, (congrArg some (n7.trans m3.symm) : some (M 1 15) = _), rfl⟩
    · exact ⟨M 156 81, (congrArg some (n5.trans m6.symm) : some (M 1 13) = _), rfl⟩
    · exact ⟨M 156 82, (congrArg some (n6.trans m7.symm) : some (M 1 14) = _), rfl⟩
    · exact ⟨M 156 5, (congrArg some (c5.trans a5.symm) : some (M (1 + 11) 3) = _), rfl⟩
    · exact ⟨M 156 4, (congrArg some (n1.trans m4.symm) : some (M 1 9) = _), rfl⟩
    · exact ⟨M 156 83, (congrArg some (l2.trans l1.symm) : some (M (1 + 13) 7) = _), rfl⟩
    · exact ⟨M 156 84, (congrArg some (c1.trans a1.symm) : some (M (1 + 3) 3) = _), rfl⟩
    · exact ⟨M 156 85, (congrArg some (c2.trans a2.symm) : some (M (1 + 5) 3) = _), rfl⟩
    · exact ⟨M 156 86, (congrArg some (c3.trans a3.symm) : some (M (1 + 7) 3) = _), rfl⟩
    · exact ⟨M 155 4, (congrArg some (p1.trans p2.symm) : some (M 115 2) = _), rfl⟩
    · exact ⟨M 156 87, (congrArg some (c6.trans a6.symm) : some (M (79 + 1) 3) = _), rfl⟩
    · exact ⟨M 156 88, (congrArg some (c7.trans a7.symm) : some (M (79 + 3) 3) = _), rfl⟩
    · exact ⟨M 156 89, (congrArg some (c8.trans a8.symm) : some (M (79 + 5) 3) = _), rfl⟩
    · exact ⟨M 156 90, (congrArg some (c9.trans a9.symm) : some (M (79 + 7) 3) = _), rfl⟩
