/-! ===== PURE PART: waits, crumbs ===== -/
theorem clamp_nneg (v hi : Int32) : 0 ≤ (clampI v hi).toInt := by
  unfold clampI f_J9_max_7cf53
  by_cases z : (0 : Int32) < f_J9_min_7cf53 hi v
  · rw [if_pos z]
    rw [Int32.lt_iff_toInt_lt, toInt_0] at z
    omega
  · rw [if_neg z, toInt_0]; omega
theorem price_nneg (A : AS) (i : Nat) (l : Int32) : ¬ priceS A i l ≤ -1 := by
  rw [Int32.le_iff_toInt_le, toInt_m1]
  have := clamp_nneg (sayS (factsR A i l) A.2.2 21 ((A.2.1 4).2 i 1)) 999
  unfold priceS
  omega
/-- the best day behind k+1 of them -/
def bwB (A : AS) (i : Nat) : Nat → Nat
  | 0 => 0
  | k + 1 => if priceS A i (nI (k + 1)) ≤ priceS A i (nI (bwB A i k)) then bwB A i k else k + 1
def oldI (A : AS) (i : Nat) (d : Nat) : Prop := ¬ (A.1 0 - (A.2.1 4).2 i 2) + nI d < (A.2.1 0).2 (kindR A i) 1
/-- how many days it keeps, of the first 31 -/
theorem keep_days (A : AS) (i : Nat) (h0 : ¬ oldI A i 0) : ∃ N, 1 ≤ N ∧ N ≤ 31 ∧ (∀ d, d < N → ¬ oldI A i d) ∧ (N = 31 ∨ oldI A i N) := by
  have key : ∀ n, (∃ N, 1 ≤ N ∧ N ≤ n + 1 ∧ (∀ d, d < N → ¬ oldI A i d) ∧ oldI A i N) ∨ ∀ d, d < n + 1 → ¬ oldI A i d := by
    intro n
    induction n with
    | zero => right; intro d hd; rw [show d = 0 from by omega]; exact h0
    | succ n ih =>
      rcases ih with ⟨N, h1, h2, h3, h4⟩ | ih
      · exact .inl ⟨N, h1, by omega, h3, h4⟩
      · by_cases z : oldI A i (n + 1)
        · exact .inl ⟨n + 1, by omega, by omega, ih, z⟩
        · right
          intro d hd
          by_cases y : d = n + 1
          · rw [y]; exact z
          · exact ih d (by omega)
  rcases key 30 with ⟨N, h1, h2, h3, h4⟩ | h
  · exact ⟨N, h1, h2, h3, .inr h4⟩
  · exact ⟨31, by omega, by omega, h, .inl rfl⟩
theorem n30 {d : Nat} (h : d < 31) : ¬ (30 : Int32) < nI d := by
  intro z
  have z : nI 30 < nI d := z
  rw [nI_lt_iff (by omega) (by omega)] at z; omega
theorem bestWait_ok {t : Bool} {o : Nat} {A : AS} {M : Mem} (ho : MkAt o) (h : RMk t o A M) (hL : OKL A.2.2) (hR : okRk A) {i : Nat} (hi : i < (A.2.1 4).1) {N : Nat} (hN1 : 1 ≤ N) (hN : N ≤ 31) (hk : ∀ d, d < N → ¬ oldI A i d) (he : N = 31 ∨ oldI A i N) : Wq (f_X6_bestWait o (nI i) M) (fun p => p.2 = nI (bwB A i (N - 1)) ∧ Out (o + 20) (o + 26) M p.1) := by
  unfold f_X6_bestWait
  refine wq_b1 (P := fun r => r.1 = nI (bwB A i (N - 1)) ∧ Out (o + 20) (o + 26) M r.2) (lp_to (fun k s => s.1 = (if k = 0 then 0 else nI (bwB A i (k - 1))) ∧ s.2.1 = (if k = 0 then -1 else priceS A i (nI (bwB A i (k - 1)))) ∧ s.2.2.1 = nI k ∧ Out (o + 20) (o + 26) M s.2.2.2) N ?_ ?_ _ ⟨rfl, rfl, rfl, Out.refl _ _ _⟩ (by omega)) (fun r hr => wq_some hr)
  · rintro k ⟨a, b, c, K⟩ hkN ⟨ha, hb, hc, hO⟩
    simp only at ha hb hc hO
    subst hc
    unfold w_X6_bestWait_7
    simp only
    have hK := h.out hO (by omega)
    have hnold : (A.1 0 - (A.2.1 4).2 i 2) + nI k < (A.2.1 0).2 (kindR A i) 1 := Decidable.not_not.mp (hk k hkN)
    rw [if_neg (n30 (by omega)), isTooOld_ok hK hR hi, b1_some, if_pos hnold, if_pos rfl]
    obtain ⟨⟨K', y⟩, e1, e2, e3⟩ := priceOf_ok ho hK hL hR hi (nI k)
    simp only at e2 e3
    rw [e1, b2_some, e2]
    by_cases k0 : k = 0
    · subst k0
      rw [if_pos rfl] at ha hb
      subst ha hb
      rw [if_neg (price_nneg _ _ _), nI_inc]
      refine ⟨_, rfl, ?_, ?_, rfl, hO.trans e3⟩
      · rw [if_neg (by omega)]; rfl
      · rw [if_neg (by omega)]; rfl
    · rw [if_neg k0] at ha hb
      subst ha hb
      have em : bwB A i (k + 1 - 1) = if priceS A i (nI k) ≤ priceS A i (nI (bwB A i (k - 1))) then bwB A i (k - 1) else k := by
        obtain ⟨k', rfl⟩ : ∃ k', k = k' + 1 := ⟨k - 1, by omega⟩
        rfl
      by_cases z : priceS A i (nI k) ≤ priceS A i (nI (bwB A i (k - 1)))
      · rw [if_pos z, nI_inc]
        rw [if_pos z] at em
        exact ⟨_, rfl, by rw [if_neg (by omega), em], by rw [if_neg (by omega), em], rfl, hO.trans e3⟩
      · rw [if_neg z, nI_inc]
        rw [if_neg z] at em
        exact ⟨_, rfl, by rw [if_neg (by omega), em], by rw [if_neg (by omega), em], rfl, hO.trans e3⟩
  · rintro ⟨a, b, c, K⟩ ⟨ha, hb, hc, hO⟩
    simp only at ha hb hc hO
    subst hc
    unfold w_X6_bestWait_7
    simp only
    rw [if_neg (show ¬ N = 0 by omega)] at ha
    subst ha
    by_cases z : N = 31
    · rw [if_pos (by rw [z]; decide)]
      exact ⟨_, rfl, rfl, hO⟩
    · have hold := he.resolve_left z
      rw [if_neg (n30 (by omega)), isTooOld_ok (h.out hO (by omega)) hR hi, b1_some, if_neg hold, if_neg (by decide)]
      exact ⟨_, rfl, rfl, hO⟩
theorem waits_loop {A : AS} {M : Mem} (h : RMm 156 A M) (hL : OKL A.2.2) (hR : okRk A) {i : Nat} (hi : i < (A.2.1 4).1) {N : Nat} (hN1 : 1 ≤ N) (hN : N ≤ 31) (hk : ∀ d, d < N → ¬ oldI A i d) (he : N = 31 ∨ oldI A i N) : Wq (lp (fun s => w_X11_waits_27 (nI i) s.1 s.2.1 s.2.2.1 s.2.2.2) FU (-1, -1, 0, M)) (fun r => r.1 = nI (bwB A i (N - 1)) ∧ r.2.1 = priceS A i (nI (bwB A i (N - 1))) ∧ Out 164 166 M r.2.2) := by
  obtain ⟨kk, hkk, hkk2⟩ := hR i hi
  have hk6 : kk < 1000 := by have := tm_le h (k := 0) (by omega); omega
  have hkr := kindR_of hkk2 hk6
  have cmp : ∀ (K : Mem) (d : Nat), RMm 156 A K → b1 (f_X11_ageOf (nI i) K) (fun x9 => b1 (f_X11_ofRemain (nI i) 0 K) fun x10 => b1 (f_X11_keepsOf x10 K) fun x11 => some (x9, x11)) = some (A.1 0 - (A.2.1 4).2 i 2, (A.2.1 0).2 (kindR A i) 1) := by
    intro K d hK
    rw [ageOf_m hK hi, b1_some, ofRemain_ok hK hi 0 rfl (by omega), b1_some, hkk2, keepsOf_ok hK hkk, b1_some, hkr]
  refine lp_to (fun k s => s.1 = (if k = 0 then -1 else nI (bwB A i (k - 1))) ∧ s.2.1 = (if k = 0 then -1 else priceS A i (nI (bwB A i (k - 1)))) ∧ s.2.2.1 = nI k ∧ Out 164 166 M s.2.2.2) N ?_ ?_ _ ⟨rfl, rfl, rfl, Out.refl _ _ _⟩ (by omega)
  · rintro k ⟨a, b, c, K⟩ hkN ⟨ha, hb, hc, hO⟩
    simp only at ha hb hc hO
    subst hc
    unfold w_X11_waits_27
    simp only
    have hK := h.out hO (by omega)
    have hnold : (A.1 0 - (A.2.1 4).2 i 2) + nI k < (A.2.1 0).2 (kindR A i) 1 := Decidable.not_not.mp (hk k hkN)
    rw [if_neg (n30 (by omega)), ageOf_m hK hi, b1_some, ofRemain_ok hK hi 0 rfl (by omega), b1_some, hkk2, keepsOf_ok hK hkk, b1_some, ← hkr, if_neg (by rw [Int32.not_le]; exact hnold)]
    obtain ⟨⟨K', y⟩, e1, e2, e3⟩ := priceOf_m hK hL hR hi (nI k)
    simp only at e2 e3
    rw [e1, b2_some, e2]
    by_cases k0 : k = 0
    · subst k0
      rw [if_pos rfl] at ha hb
      subst ha hb
      rw [if_pos (by have := price_nneg A i (nI 0); rw [Int32.not_le] at this; exact this), nI_inc]
      refine ⟨_, rfl, ?_, ?_, rfl, hO.trans e3⟩
      · rw [if_neg (by omega)]; rfl
      · rw [if_neg (by omega)]; rfl
    · rw [if_neg k0] at ha hb
      subst ha hb
      have em : bwB A i (k + 1 - 1) = if priceS A i (nI k) ≤ priceS A i (nI (bwB A i (k - 1))) then bwB A i (k - 1) else k := by
        obtain ⟨k', rfl⟩ : ∃ k', k = k' + 1 := ⟨k - 1, by omega⟩
        rfl
      by_cases z : priceS A i (nI k) ≤ priceS A i (nI (bwB A i (k - 1)))
      · rw [if_neg (by rw [Int32.not_lt]; exact z), nI_inc]
        rw [if_pos z] at em
        exact ⟨_, rfl, by rw [if_neg (by omega), em], by rw [if_neg (by omega), em], rfl, hO.trans e3⟩
      · rw [if_pos (by rw [Int32.not_le] at z; exact z), nI_inc]
        rw [if_neg z] at em
        exact ⟨_, rfl, by rw [if_neg (by omega), em], by rw [if_neg (by omega), em], rfl, hO.trans e3⟩
  · rintro ⟨a, b, c, K⟩ ⟨ha, hb, hc, hO⟩
    simp only at ha hb hc hO
    subst hc
    unfold w_X11_waits_27
    simp only
    rw [if_neg (show ¬ N = 0 by omega)] at ha hb
    subst ha hb
    by_cases z : N = 31
    · rw [if_pos (by rw [z]; decide)]
      exact ⟨_, rfl, rfl, rfl, hO⟩
    · have hold := he.resolve_left z
      have hK := h.out hO (by omega)
      rw [if_neg (n30 (by omega)), ageOf_m hK hi, b1_some, ofRemain_ok hK hi 0 rfl (by omega), b1_some, hkk2, keepsOf_ok hK hkk, b1_some, ← hkr, if_pos (by have hold : ¬ _ < _ := hold; rw [Int32.not_lt] at hold; exact hold)]
      exact ⟨_, rfl, rfl, rfl, hO⟩
theorem c_waits (a w : Int32) {M : Mem} (h : Inv M) : ∃ M1 M2 r, f_X10_waits a w M = some (M1, r) ∧ f_X11_waits a w M1 = some (M2, r) ∧ Inv M2 := by
  refine both_ok (fc := fun M => f_X10_waits a w M) (fm := fun M => f_X11_waits a w M) h ?_
  rintro ⟨A, I, P, tp, ft⟩ hC hM hG
  have hle : (A.2.1 4).1 ≤ 14 := m_4 hM.1
  have hT := hC.1.t4
  have hK : RMk true 1 A M := hC.1
  have hn4 : ∀ M1, InvM (A, I, P, tp, ft) M1 → M1 156 7 = nI (A.2.1 4).1 := fun M1 h1 => ans_m 4 (by omega) h1
  have hL : OKL A.2.2 := hG.1.2.2.2
  have hRk : okRk A := okRk_of hG.1
  rcases idx_cases a (n := (A.2.1 4).1) (by omega) with z | ⟨i, hi, rfl⟩
  · refine ⟨(A, I, P, tp, ft), -1, hG, ?_, fun M1 hM1 => ?_⟩
    · show Wq (f_X10_waits a w M) _
      unfold f_X10_waits
      rw [if_pos ((has0 hT a).2 z)]
      exact wq_some ⟨rfl, hC, Hi.refl _⟩
    · show Wq (f_X11_waits a w M1) _
      unfold f_X11_waits f_X11_isRemain
      rw [hn4 M1 hM1, if_pos (.inl ((isInm_pred (by omega) a).2 z))]
      exact wq_some ⟨rfl, hM1, Lo.refl _⟩
  · have hin := idx_in hi (by omega)
    have c0 : ¬ f_X8_has (1 + 9) (nI i) M = 0 := fun z => hin ((has0 hT _).1 z)
    have m0 : ∀ M1, InvM (A, I, P, tp, ft) M1 → ¬ f_X11_isRemain (nI i) M1 = 0 := by
      intro M1 h1 z
      unfold f_X11_isRemain at z
      rw [hn4 M1 h1, isInm_pred (by omega)] at z
      exact hin z
    by_cases qw : w < 0 ∨ (1 : Int32) < w
    · refine ⟨(A, I, P, tp, ft), -1, hG, ?_, fun M1 hM1 => ?_⟩
      · show Wq (f_X10_waits (nI i) w M) _
        unfold f_X10_waits
        rw [if_neg c0, isTooOld_ok hK hRk hi, b1_some, if_pos (.inr ((within0 _ _ _).2 qw))]
        exact wq_some ⟨rfl, hC, Hi.refl _⟩
      · show Wq (f_X11_waits (nI i) w M1) _
        unfold f_X11_waits
        rw [if_pos (.inr ((isInm0 _ _ _).2 qw))]
        exact wq_some ⟨rfl, hM1, Lo.refl _⟩
    · have m1 : ∀ M1, InvM (A, I, P, tp, ft) M1 → ¬ (f_X11_isRemain (nI i) M1 = 0 ∨ f_X11_isIn w 0 1 = 0) := by
        rintro M1 h1 (z | z)
        · exact m0 M1 h1 z
        · exact qw ((isInm0 _ _ _).1 z)
      have z0 : ∀ x : Int32, x + nI 0 = x + 0 := fun x => rfl
      by_cases hold : oldI A i 0
      · refine ⟨(A, I, P, tp, ft), -1, hG, ?_, fun M1 hM1 => ?_⟩
        · show Wq (f_X10_waits (nI i) w M) _
          unfold f_X10_waits
          have hold' : ¬ (A.1 0 - (A.2.1 4).2 i 2) + 0 < (A.2.1 0).2 (kindR A i) 1 := hold
          rw [if_neg c0, isTooOld_ok hK hRk hi, b1_some, if_pos (.inl (by rw [if_neg hold']; decide))]
          exact wq_some ⟨rfl, hC, Hi.refl _⟩
        · show Wq (f_X11_waits (nI i) w M1) _
          have hR1 : RMm 156 A M1 := hM1.1
          obtain ⟨kk, hkk, hkk2⟩ := hRk i hi
          have hk6 : kk < 1000 := by have := tm_le hR1 (k := 0) (by omega); omega
          unfold f_X11_waits
          rw [if_neg (m1 M1 hM1)]
          have e : lp (fun s => w_X11_waits_27 (nI i) s.1 s.2.1 s.2.2.1 s.2.2.2) FU (-1, -1, 0, M1) = some (-1, -1, M1) := by
            refine lp_end (n := 999999) ?_
            unfold w_X11_waits_27
            simp only
            rw [if_neg (by decide), ageOf_m hR1 hi, b1_some, ofRemain_ok hR1 hi 0 rfl (by omega), b1_some, hkk2, keepsOf_ok hR1 hkk, b1_some, ← kindR_of hkk2 hk6, if_pos (by have hold : ¬ _ < _ := hold; rw [Int32.not_lt] at hold; exact hold)]
          rw [e, b1_some, lt_eq]
          have e2 : ((if w = 0 then (-1, -1, M1).1 else (-1, -1, M1).2.1) : Int32) = -1 := by split <;> rfl
          rw [e2]
          exact wq_some ⟨rfl, hM1, Lo.refl _⟩
      · obtain ⟨N, hN1, hN, hk, he⟩ := keep_days A i hold
        have hnold : (A.1 0 - (A.2.1 4).2 i 2) + 0 < (A.2.1 0).2 (kindR A i) 1 := Decidable.not_not.mp hold
        refine ⟨(A, I, P, tp, ft), if w = 0 then nI (bwB A i (N - 1)) else priceS A i (nI (bwB A i (N - 1))), hG, ?_, fun M1 hM1 => ?_⟩
        · show Wq (f_X10_waits (nI i) w M) _
          unfold f_X10_waits
          rw [if_neg c0, isTooOld_ok hK hRk hi, b1_some, if_neg (by
            rintro (z | z)
            · exact z (by rw [if_pos hnold])
            · exact qw ((within0 _ _ _).1 z))]
          refine wq_b2 (bestWait_ok mkAt_1 hK hL hRk hi hN1 hN hk he) ?_
          rintro M6 x ⟨hx, hO⟩
          simp only at hx hO
          subst hx
          by_cases w0 : w = 0
          · rw [if_pos w0, if_pos w0]
            exact wq_some ⟨rfl, hC.scr hO (by omega), hO.hi (by omega)⟩
          · rw [if_neg w0, if_neg w0]
            refine wq_b2 (priceOf_ok mkAt_1 (hK.out hO (by omega)) hL hRk hi _) ?_
            rintro M9 y ⟨hy, hO2⟩
            have hO3 := hO.trans hO2
            exact wq_some ⟨hy, hC.scr hO3 (by omega), hO3.hi (by omega)⟩
        · show Wq (f_X11_waits (nI i) w M1) _
          unfold f_X11_waits
          rw [if_neg (m1 M1 hM1)]
          refine wq_b1 (waits_loop hM1.1 hL hRk hi hN1 hN hk he) ?_
          rintro ⟨x, y, M2⟩ ⟨hx, hy, hO⟩
          simp only at hx hy hO
          subst hx hy
          rw [lt_eq]
          exact wq_some ⟨rfl, (hM1.scr hO).1, (hM1.scr hO).2⟩
