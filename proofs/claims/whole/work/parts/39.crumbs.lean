/-! ===== PURE PART: crumbs ===== -/
theorem cntG_mono {p q : Nat → Bool} : ∀ n, (∀ i, i < n → p i = true → q i = true) → cntG p n ≤ cntG q n
  | 0, _ => Nat.le_refl _
  | n + 1, h => by
    have := cntG_mono n (fun i hi => h i (by omega))
    show cntG p n + (if p n then 1 else 0) ≤ cntG q n + (if q n then 1 else 0)
    by_cases z : p n = true
    · rw [if_pos z, if_pos (h n (by omega) z)]; omega
    · rw [if_neg z]; split <;> omega
theorem cntG_pos {p : Nat → Bool} : ∀ n, 0 < cntG p n → ∃ i, i < n ∧ p i = true
  | 0, h => absurd h (Nat.lt_irrefl _)
  | n + 1, h => by
    have h : 0 < cntG p n + (if p n then 1 else 0) := h
    by_cases z : p n = true
    · exact ⟨n, by omega, z⟩
    · rw [if_neg z] at h
      obtain ⟨i, h1, h2⟩ := cntG_pos n h
      exact ⟨i, by omega, h2⟩
theorem popc_bits {S n : Nat} (h : S < 2 ^ n) (hn : n ≤ 16) : popc S = cntG (fun i => S.testBit i) n := by
  have := popc_setG (fun i => S.testBit i) hn
  rw [setG_eq h] at this
  exact this
def qK (T : Tb) (S k : Nat) : Nat := cntG (fun i => S.testBit i && decide (T.2 i 1 = nI k)) T.1
def gpK (T : Tb) (S k : Nat) : Nat := if qK T S k < popc S - qK T S k then popc S - qK T S k else qK T S k
theorem qK_le {T : Tb} {S : Nat} (h : S < 2 ^ T.1) (hn : T.1 ≤ 16) (k : Nat) : qK T S k ≤ popc S := by
  rw [popc_bits h hn]
  refine cntG_mono _ ?_
  intro i _ hi
  rw [Bool.and_eq_true] at hi
  exact hi.1
theorem max_nI {a b : Nat} (ha : a < 2147483648) (hb : b < 2147483648) : f_J9_max_7cf53 (nI a) (nI b) = nI (if a < b then b else a) := by
  unfold f_J9_max_7cf53
  by_cases z : a < b
  · rw [if_pos z, if_pos ((nI_lt_iff ha hb).2 z)]
  · rw [if_neg z, if_neg (fun y => z ((nI_lt_iff ha hb).1 y))]
theorem popc_le16 (S : Nat) : popc S ≤ 16 := popG_le S 16
section CRB
variable {A : AS} {M : Mem} {t : Bool} {o S : Nat}
theorem feastsOfKind_ok (h : RMk t o A M) (hS : S < 2 ^ (A.2.1 1).1) (k : Nat) : f_X6_feastsOfKind o (nI S) (nI k) M = some (nI (qK (A.2.1 1) S k)) := by
  have hT := h.t1
  have hm : (A.2.1 1).1 ≤ 12 := hT.le
  have hS31 : S < 2147483648 := Nat.lt_of_lt_of_le hS (Nat.le_trans (pow2_le hm) (by decide))
  unfold f_X6_feastsOfKind qK
  have key := lp_for (body := fun s : Int32 × Int32 => w_X6_feastsOfKind_5 o (nI S) (nI k) M s.1 s.2) (fun j => (nI (cntG (fun i => S.testBit i && decide ((A.2.1 1).2 i 1 = nI k)) j), nI j)) (A.2.1 1).1 (nI (cntG (fun i => S.testBit i && decide ((A.2.1 1).2 i 1 = nI k)) (A.2.1 1).1)) (by
    intro j hj
    unfold w_X6_feastsOfKind_5
    simp only
    rw [hT.cnt, if_neg (by rw [nI_le_iff (by omega) (by omega)]; omega), isIn_nI hS31 (by omega)]
    show _ = some (Sum.inl (nI (cntG (fun i => S.testBit i && decide ((A.2.1 1).2 i 1 = nI k)) j + (if S.testBit j && decide ((A.2.1 1).2 j 1 = nI k) then 1 else 0)), nI (j + 1)))
    cases S.testBit j with
    | false =>
      rw [if_pos (by decide), nI_inc, Bool.false_and]
      rfl
    | true =>
      rw [if_neg (by decide), at_lit hT 1 rfl hj (by omega), b1_some, Bool.true_and]
      by_cases z : (A.2.1 1).2 j 1 = nI k
      · rw [if_pos z, nI_inc, nI_inc, if_pos (decide_eq_true z)]
      · rw [if_neg z, nI_inc, if_neg (by rw [decide_eq_true_iff]; exact z)]; rfl) (by
    unfold w_X6_feastsOfKind_5
    simp only
    rw [hT.cnt, if_pos (by rw [nI_le_iff (by omega) (by omega)]; omega)]) (by omega)
  have key : lp (fun s : Int32 × Int32 => w_X6_feastsOfKind_5 o (nI S) (nI k) M s.1 s.2) FU (0, 0) = _ := key
  rw [key, b1_some]
theorem greaterPart_ok (h : RMm 156 A M) (hS : S < 2 ^ (A.2.1 1).1) (k : Nat) : f_X11_greaterPart (nI S) (nI k) M = some (nI (gpK (A.2.1 1) S k)) := by
  have hT := h.2.1 1 (by omega)
  have hn : M 156 84 = nI (A.2.1 1).1 := hT.1
  have hm : (A.2.1 1).1 ≤ 12 := hT.2.1
  have hS31 : S < 2147483648 := Nat.lt_of_lt_of_le hS (Nat.le_trans (pow2_le hm) (by decide))
  have hq := qK_le hS (by omega) k
  have hp := popc_le16 S
  unfold f_X11_greaterPart
  have key := lp_for (body := fun s : Int32 × Int32 => w_X11_greaterPart_5 (nI S) (nI k) M s.1 s.2) (fun j => (nI (cntG (fun i => S.testBit i && decide ((A.2.1 1).2 i 1 = nI k)) j), nI j)) (A.2.1 1).1 (nI (qK (A.2.1 1) S k)) (by
    intro j hj
    unfold w_X11_greaterPart_5
    have i1 : ((103 + (3 * nI j)) + 1) = nI (103 + 3 * j + 1) := idx3 103 3 j 1
    simp only
    rw [hn, if_neg (by rw [nI_le_iff (by omega) (by omega)]; omega)]
    show _ = some (Sum.inl (nI (cntG (fun i => S.testBit i && decide ((A.2.1 1).2 i 1 = nI k)) j + (if S.testBit j && decide ((A.2.1 1).2 j 1 = nI k) then 1 else 0)), nI (j + 1)))
    by_cases hb : S.testBit j = true
    · rw [if_pos ((shbit hS31 (by omega)).2 hb), hb, i1, rt_rd h (k := 1) (by omega) hj (j := 1) (by simp [twd]) (by simp [tbs, twd]; omega), b1_some, Bool.true_and]
      by_cases z : (A.2.1 1).2 j 1 = nI k
      · rw [if_pos z, nI_inc, nI_inc, if_pos (decide_eq_true z)]
      · rw [if_neg z, nI_inc, Int32.add_zero, if_neg (by rw [decide_eq_true_iff]; exact z)]; rfl
    · rw [if_neg (fun z => hb ((shbit hS31 (by omega)).1 z)), nI_inc, Int32.add_zero]
      have hb : S.testBit j = false := by simpa using hb
      rw [hb, Bool.false_and]; rfl) (by
    unfold w_X11_greaterPart_5
    simp only
    rw [hn, if_pos (by rw [nI_le_iff (by omega) (by omega)]; omega)]
    rfl) (by omega)
  have key : lp (fun s : Int32 × Int32 => w_X11_greaterPart_5 (nI S) (nI k) M s.1 s.2) FU (0, 0) = _ := key
  rw [key, b1_some, count_nI hS31, b1_some, greater_max, nI_sub hq, max_nI (by omega) (by omega)]
  rfl
def bkK (T : Tb) (S : Nat) : Nat → Nat
  | 0 => 0
  | k + 1 => if gpK T S (bkK T S k) ≤ gpK T S (k + 1) then bkK T S k else k + 1
theorem kindParting_ok (h : RMk t o A M) (hS : S < 2 ^ (A.2.1 1).1) (hF : okFea (A.2.1 0).1 (A.2.1 1)) : f_X6_kindParting o (nI S) M = some (if popc S < 2 then -1 else nI (bkK (A.2.1 1) S ((A.2.1 0).1 - 1))) := by
  have hm : (A.2.1 1).1 ≤ 12 := h.t1.le
  have hT := h.t0
  have hk6 : (A.2.1 0).1 ≤ 6 := hT.le
  have hS14 : S < 16384 := Nat.lt_of_lt_of_le hS (Nat.le_trans (pow2_le (show (A.2.1 1).1 ≤ 14 by omega)) (by decide))
  have hp := popc_le16 S
  unfold f_X6_kindParting
  rw [bitCount_nI hS14]
  by_cases z : popc S < 2
  · rw [if_pos z, if_neg (by
      intro y
      have y : nI 2 ≤ nI (popc S) := y
      rw [nI_le_iff (by omega) (by omega)] at y; omega)]
  · rw [if_neg z, if_pos (show (2 : Int32) ≤ nI (popc S) from nI_le (a := 2) (by omega) (by omega)), lt_eq, nI_inc]
    have hnk : 1 ≤ (A.2.1 0).1 := by
      rw [popc_bits hS (by omega)] at z
      obtain ⟨i, h1, _⟩ := cntG_pos (p := fun i => S.testBit i) (A.2.1 1).1 (by omega)
      obtain ⟨k, hk, _⟩ := hF i h1
      omega
    have key := lp_for (body := fun s : Int32 × Int32 × Int32 => w_X6_kindParting_22 o (nI S) M s.1 s.2.1 s.2.2) (fun j => if j = 0 then (-1, nI (popc S + 1), nI 0) else (nI (bkK (A.2.1 1) S (j - 1)), nI (gpK (A.2.1 1) S (bkK (A.2.1 1) S (j - 1))), nI j)) (A.2.1 0).1 (nI (bkK (A.2.1 1) S ((A.2.1 0).1 - 1))) (by
      intro j hj
      have hq := qK_le hS (by omega) j
      have hstep : ∀ (b l : Int32), w_X6_kindParting_22 o (nI S) M b l (nI j) = if l ≤ nI (gpK (A.2.1 1) S j) then some (.inl (b, l, nI (j + 1))) else some (.inl (nI j, nI (gpK (A.2.1 1) S j), nI (j + 1))) := by
        intro b l
        unfold w_X6_kindParting_22
        rw [hT.cnt, if_neg (by rw [nI_le_iff (by omega) (by omega)]; omega), feastsOfKind_ok h hS, b1_some, bitCount_nI hS14, nI_sub hq, max_nI (by omega) (by omega), lt_eq, nI_inc]
        rfl
      have hg : gpK (A.2.1 1) S j ≤ popc S := by unfold gpK; split <;> omega
      by_cases j0 : j = 0
      · subst j0
        simp only [if_true, Nat.zero_add, if_neg (show ¬ (1 : Nat) = 0 by omega)]
        rw [hstep, if_neg (by rw [nI_le_iff (by omega) (by omega)]; omega)]
        rfl
      · simp only [if_neg j0, if_neg (show ¬ j + 1 = 0 by omega)]
        rw [hstep]
        have hgb : gpK (A.2.1 1) S (bkK (A.2.1 1) S (j - 1)) ≤ popc S := by have := qK_le hS (by omega) (bkK (A.2.1 1) S (j - 1)); unfold gpK; split <;> omega
        have em : bkK (A.2.1 1) S (j + 1 - 1) = if gpK (A.2.1 1) S (bkK (A.2.1 1) S (j - 1)) ≤ gpK (A.2.1 1) S j then bkK (A.2.1 1) S (j - 1) else j := by
          obtain ⟨k', rfl⟩ : ∃ k', j = k' + 1 := ⟨j - 1, by omega⟩
          rfl
        rw [em]
        by_cases y : gpK (A.2.1 1) S (bkK (A.2.1 1) S (j - 1)) ≤ gpK (A.2.1 1) S j
        · rw [if_pos y, if_pos (nI_le y (by omega))]
        · rw [if_neg y, if_neg (nI_ge (by omega) (by omega))]) (by
      simp only [if_neg (show ¬ (A.2.1 0).1 = 0 by omega)]
      unfold w_X6_kindParting_22
      rw [hT.cnt, if_pos (by rw [nI_le_iff (by omega) (by omega)]; omega)]) (by omega)
    have key : lp (fun s : Int32 × Int32 × Int32 => w_X6_kindParting_22 o (nI S) M s.1 s.2.1 s.2.2) FU (-1, nI (popc S + 1), 0) = _ := key
    rw [key, b1_some]
theorem crumbs_loop (h : RMm 156 A M) (hS : S < 2 ^ (A.2.1 1).1) : lp (fun s => w_X11_crumbs_39 M (nI S) s.1 s.2) FU (0, 1) = some (nI (bkK (A.2.1 1) S ((A.2.1 0).1 - 1))) := by
  have hT := h.2.1 0 (by omega)
  have hn : M 156 80 = nI (A.2.1 0).1 := hT.1
  have hk6 : (A.2.1 0).1 ≤ 6 := hT.2.1
  have hm : (A.2.1 1).1 ≤ 12 := (h.2.1 1 (by omega)).2.1
  have hp := popc_le16 S
  have hg : ∀ k, gpK (A.2.1 1) S k ≤ 16 := by
    intro k
    have := qK_le hS (by omega) k
    unfold gpK; split <;> omega
  have key := lp_for (body := fun s : Int32 × Int32 => w_X11_crumbs_39 M (nI S) s.1 s.2) (fun j => (nI (bkK (A.2.1 1) S j), nI (j + 1))) ((A.2.1 0).1 - 1) (nI (bkK (A.2.1 1) S ((A.2.1 0).1 - 1))) (by
    intro j hj
    unfold w_X11_crumbs_39
    simp only
    rw [hn, if_neg (by rw [nI_le_iff (by omega) (by omega)]; omega), greaterPart_ok h hS, b1_some, greaterPart_ok h hS, b1_some, nI_inc]
    have em : bkK (A.2.1 1) S (j + 1) = if gpK (A.2.1 1) S (bkK (A.2.1 1) S j) ≤ gpK (A.2.1 1) S (j + 1) then bkK (A.2.1 1) S j else j + 1 := rfl
    rw [em]
    have g1 := hg (bkK (A.2.1 1) S j)
    have g2 := hg (j + 1)
    by_cases y : gpK (A.2.1 1) S (bkK (A.2.1 1) S j) ≤ gpK (A.2.1 1) S (j + 1)
    · rw [if_pos y, if_pos (nI_le y (by omega))]
    · rw [if_neg y, if_neg (nI_ge (by omega) (by omega))]) (by
    unfold w_X11_crumbs_39
    simp only
    rw [hn, if_pos (by rw [nI_le_iff (by omega) (by omega)]; omega)]) (by omega)
  exact key
theorem feastsLeaving_ok (ho : MkAt o) (h : RMk t o A M) (hL : OKL A.2.2) (hF : okFea (A.2.1 0).1 (A.2.1 1)) {size : Int32} {P : Nat → Bool} (hP : ∀ j, P j = true ↔ leftS A ((A.2.1 1).2 j 1).toInt.toNat ((A.2.1 1).2 j 2) = size) : Wq (f_X6_feastsLeaving o size M) (fun p => p.2 = nI (setG P (A.2.1 1).1) ∧ Out (o + 20) (o + 26) M p.1) := by
  have hm : (A.2.1 1).1 ≤ 12 := h.t1.le
  unfold f_X6_feastsLeaving
  refine wq_b1 (P := fun r => r.1 = nI (setG P (A.2.1 1).1) ∧ Out (o + 20) (o + 26) M r.2) (lp_to (fun j s => s.1 = nI (setG P j) ∧ s.2.1 = nI j ∧ Out (o + 20) (o + 26) M s.2.2) (A.2.1 1).1 ?_ ?_ _ ⟨rfl, rfl, Out.refl _ _ _⟩ (by omega)) (fun r hr => wq_some hr)
  · rintro j ⟨a, b, N⟩ hj ⟨ha, hb, hO⟩
    simp only at ha hb hO
    subst ha hb
    unfold w_X6_feastsLeaving_4
    simp only
    have hN := h.out hO (by omega)
    obtain ⟨k, hk, hk2⟩ := hF j hj
    have hk6 : k < 6 := by have := h.t0.le; omega
    have hPj := hP j
    rw [hk2, nI_toInt (by omega)] at hPj
    rw [hN.t1.cnt, if_neg (by rw [nI_le_iff (by omega) (by omega)]; omega), at_lit hN.t1 1 rfl hj (by omega), b1_some, at_lit hN.t1 2 rfl hj (by omega), b1_some, hk2]
    obtain ⟨⟨N', y⟩, e1, e2, e3⟩ := leftByFeast_ok ho hN hL hk ((A.2.1 1).2 j 2)
    simp only at e2 e3
    rw [e1, b2_some, e2]
    have em : setG P (j + 1) = setG P j ||| (if P j then 2 ^ j else 0) := rfl
    by_cases z : leftS A k ((A.2.1 1).2 j 2) = size
    · have hp : P j = true := hPj.2 z
      rw [if_pos z, lt_eq, nI_shl j (by omega), nI_or, nI_inc]
      rw [if_pos hp] at em
      exact ⟨_, rfl, by rw [em], rfl, hO.trans e3⟩
    · have hp : ¬ P j = true := fun y => z (hPj.1 y)
      rw [if_neg z, nI_inc]
      rw [if_neg hp, Nat.or_zero] at em
      exact ⟨_, rfl, by rw [em], rfl, hO.trans e3⟩
  · rintro ⟨a, b, N⟩ ⟨ha, hb, hO⟩
    simp only at ha hb hO
    subst ha hb
    unfold w_X6_feastsLeaving_4
    simp only
    rw [(h.out hO (by omega)).t1.cnt, if_pos (by rw [nI_le_iff (by omega) (by omega)]; omega)]
    exact ⟨_, rfl, rfl, hO⟩
theorem linesLeaving_ok (h : RMm 156 A M) (hL : OKL A.2.2) (hF : okFea (A.2.1 0).1 (A.2.1 1)) {size : Int32} {P : Nat → Bool} (hP : ∀ j, P j = true ↔ leftS A ((A.2.1 1).2 j 1).toInt.toNat ((A.2.1 1).2 j 2) = size) : Wq (f_X11_linesLeaving size M) (fun p => p.2 = nI (setG P (A.2.1 1).1) ∧ Out 164 166 M p.1) := by
  have hm : (A.2.1 1).1 ≤ 12 := (h.2.1 1 (by omega)).2.1
  have hk0 : (A.2.1 0).1 ≤ 6 := (h.2.1 0 (by omega)).2.1
  unfold f_X11_linesLeaving
  refine wq_b1 (P := fun r => r.1 = nI (setG P (A.2.1 1).1) ∧ Out 164 166 M r.2) (lp_to (fun j s => s.1 = nI (setG P j) ∧ s.2.1 = nI j ∧ Out 164 166 M s.2.2) (A.2.1 1).1 ?_ ?_ _ ⟨rfl, rfl, Out.refl _ _ _⟩ (by omega)) (fun r hr => wq_some hr)
  · rintro j ⟨a, b, N⟩ hj ⟨ha, hb, hO⟩
    simp only at ha hb hO
    subst ha hb
    unfold w_X11_linesLeaving_4
    have i1 : ((103 + (3 * nI j)) + 1) = nI (103 + 3 * j + 1) := idx3 103 3 j 1
    have i2 : ((103 + (3 * nI j)) + 2) = nI (103 + 3 * j + 2) := idx3 103 3 j 2
    simp only
    have hN := h.out hO (by omega)
    have hn : N 156 84 = nI (A.2.1 1).1 := (hN.2.1 1 (by omega)).1
    obtain ⟨k, hk, hk2⟩ := hF j hj
    have hPj := hP j
    rw [hk2, nI_toInt (by omega)] at hPj
    rw [hn, if_neg (by rw [nI_le_iff (by omega) (by omega)]; omega), i1, i2, rt_rd hN (k := 1) (by omega) hj (j := 1) (by simp [twd]) (by simp [tbs, twd]; omega), b1_some, rt_rd hN (k := 1) (by omega) hj (j := 2) (by simp [twd]) (by simp [tbs, twd]; omega), b1_some, hk2]
    obtain ⟨⟨N', y⟩, e1, e2, e3⟩ := leftOf_ok hN hL hk ((A.2.1 1).2 j 2)
    simp only at e2 e3
    rw [e1, b2_some, e2, lt_eq]
    have em : setG P (j + 1) = setG P j ||| (if P j then 2 ^ j else 0) := rfl
    by_cases z : leftS A k ((A.2.1 1).2 j 2) = size
    · have hp : P j = true := hPj.2 z
      rw [if_pos z, nI_shl j (by omega), nI_or, nI_inc]
      rw [if_pos hp] at em
      exact ⟨_, rfl, by rw [em], rfl, hO.trans e3⟩
    · have hp : ¬ P j = true := fun y => z (hPj.1 y)
      rw [if_neg z, Int32.or_zero, nI_inc]
      rw [if_neg hp, Nat.or_zero] at em
      exact ⟨_, rfl, by rw [em], rfl, hO.trans e3⟩
  · rintro ⟨a, b, N⟩ ⟨ha, hb, hO⟩
    simp only at ha hb hO
    subst ha hb
    unfold w_X11_linesLeaving_4
    have hn : N 156 84 = nI (A.2.1 1).1 := ((h.out hO (by omega)).2.1 1 (by omega)).1
    simp only
    rw [hn, if_pos (by rw [nI_le_iff (by omega) (by omega)]; omega)]
    exact ⟨_, rfl, rfl, hO⟩
end CRB
theorem c_crumbs (s w : Int32) {M : Mem} (h : Inv M) : ∃ M1 M2 r, f_X10_crumbs s w M = some (M1, r) ∧ f_X11_crumbs s w M1 = some (M2, r) ∧ Inv M2 := by
  refine both_ok (fc := fun M => f_X10_crumbs s w M) (fm := fun M => f_X11_crumbs s w M) h ?_
  rintro ⟨A, I, P, tp, ft⟩ hC hM hG
  have hL : OKL A.2.2 := hG.1.2.2.2
  have hF : okFea (A.2.1 0).1 (A.2.1 1) := hG.1.2.1.2.2.1
  by_cases q : (s < 0 ∨ (99 : Int32) < s) ∨ (w < 0 ∨ (1 : Int32) < w)
  · refine ⟨(A, I, P, tp, ft), -1, hG, ?_, fun M1 hM1 => ?_⟩
    · show Wq (f_X10_crumbs s w M) _
      unfold f_X10_crumbs
      rw [if_pos (by rw [within0, within0]; exact q)]
      exact wq_some ⟨rfl, hC, Hi.refl _⟩
    · show Wq (f_X11_crumbs s w M1) _
      unfold f_X11_crumbs
      rw [if_pos (by rw [isInm0, isInm0]; exact q)]
      exact wq_some ⟨rfl, hM1, Lo.refl _⟩
  · obtain ⟨Q, hQ⟩ : ∃ Q : Nat → Bool, ∀ j, (Q j = true ↔ leftS A ((A.2.1 1).2 j 1).toInt.toNat ((A.2.1 1).2 j 2) = s) := ⟨fun j => decide (leftS A ((A.2.1 1).2 j 1).toInt.toNat ((A.2.1 1).2 j 2) = s), fun j => decide_eq_true_iff⟩
    have hS : setG Q (A.2.1 1).1 < 2 ^ (A.2.1 1).1 := setG_lt _ _
    have hm : (A.2.1 1).1 ≤ 12 := hC.1.t1.le
    have hS31 : setG Q (A.2.1 1).1 < 2147483648 := setG_lt31 _ (by omega)
    have hp := popc_le16 (setG Q (A.2.1 1).1)
    refine ⟨(A, I, P, tp, ft), if w = 0 then nI (setG Q (A.2.1 1).1) else (if popc (setG Q (A.2.1 1).1) < 2 then -1 else nI (bkK (A.2.1 1) (setG Q (A.2.1 1).1) ((A.2.1 0).1 - 1))), hG, ?_, fun M1 hM1 => ?_⟩
    · show Wq (f_X10_crumbs s w M) _
      unfold f_X10_crumbs
      rw [if_neg (by rw [within0, within0]; exact q)]
      refine wq_b2 (feastsLeaving_ok mkAt_1 hC.1 hL hF hQ) ?_
      rintro M4 x ⟨hx, hO⟩
      simp only at hx hO
      subst hx
      by_cases w0 : w = 0
      · rw [if_pos w0, if_pos w0]
        exact wq_some ⟨rfl, hC.scr hO (by omega), hO.hi (by omega)⟩
      · rw [if_neg w0, if_neg w0]
        refine wq_b1e (kindParting_ok (hC.1.out hO (by omega)) hS hF) ?_
        exact wq_some ⟨rfl, hC.scr hO (by omega), hO.hi (by omega)⟩
    · show Wq (f_X11_crumbs s w M1) _
      unfold f_X11_crumbs
      rw [if_neg (by rw [isInm0, isInm0]; exact q)]
      refine wq_b2 (linesLeaving_ok hM1.1 hL hF hQ) ?_
      rintro M4 x ⟨hx, hO⟩
      simp only at hx hO
      subst hx
      have hR4 : RMm 156 A M4 := hM1.1.out hO (by omega)
      by_cases w0 : w = 0
      · rw [if_pos w0, if_pos w0]
        exact wq_some ⟨rfl, (hM1.scr hO).1, (hM1.scr hO).2⟩
      · rw [if_neg w0, if_neg w0]
        refine wq_b1e (crumbs_loop hR4 hS) ?_
        refine wq_b1e (count_nI hS31) ?_
        rw [lt_eq]
        refine wq_some ⟨?_, (hM1.scr hO).1, (hM1.scr hO).2⟩
        simp only
        by_cases z : popc (setG Q (A.2.1 1).1) < 2
        · rw [if_pos z, if_neg (by
            intro y
            have y : nI 2 ≤ nI _ := y
            rw [nI_le_iff (by omega) (by omega)] at y; omega)]
        · rw [if_neg z, if_pos (show (2 : Int32) ≤ _ from nI_le (a := 2) (by omega) (by omega))]
