/-! ===== PURE PART: forged, lookAt ===== -/
def nL (n : Nat) : Int64 := Int64.ofNat n
theorem nL_add (a b : Nat) : nL a + nL b = nL (a + b) := (Int64.ofNat_add a b).symm
theorem nL_mul (a b : Nat) : nL a * nL b = nL (a * b) := (Int64.ofNat_mul a b).symm
theorem nL_sub {a b : Nat} (h : b ≤ a) : nL a - nL b = nL (a - b) := (Int64.ofNat_sub a b h).symm
theorem nL_toInt {n : Nat} (h : n < 4611686018427387904) : (nL n).toInt = (n : Int) := by
  unfold nL
  rw [← Int64.ofInt_eq_ofNat, Int64.toInt_ofInt_of_le (by omega) (by omega)]
theorem nL_div {a b : Nat} (ha : a < 4611686018427387904) (hb : b < 4611686018427387904) : nL a / nL b = nL (a / b) := by
  unfold nL
  rw [← Int64.ofInt_eq_ofNat, ← Int64.ofInt_eq_ofNat, ← Int64.ofInt_eq_ofNat, ← Int64.ofInt_tdiv (by rw [Int64.toInt_minValue]; omega) (by rw [Int64.toInt_maxValue]; omega) (by rw [Int64.toInt_minValue]; omega) (by rw [Int64.toInt_maxValue]; omega), Int.ofNat_tdiv]
theorem nI_toL {t : Nat} (h : t < 2147483648) : (nI t).toInt64 = nL t := by
  rw [← Int64.ofInt_int32ToInt, nI_toInt (by omega), Int64.ofInt_eq_ofNat]
  rfl
theorem nL_to32 {t : Nat} : (nL t).toInt32 = nI t := by
  unfold nL nI
  rw [← Int64.ofInt_eq_ofNat, Int64.toInt32_ofInt, Int32.ofInt_eq_ofNat]
theorem nL_inj {a b : Nat} (ha : a < 4611686018427387904) (hb : b < 4611686018427387904) : nL a = nL b ↔ a = b := by
  rw [← Int64.toInt_inj, nL_toInt ha, nL_toInt hb]; omega
theorem nL_lt {a b : Nat} (ha : a < 4611686018427387904) (hb : b < 4611686018427387904) : nL a < nL b ↔ a < b := by
  rw [Int64.lt_iff_toInt_lt, nL_toInt ha, nL_toInt hb]; omega
theorem lg_pos (x y : Int64) : 0 < lg_cmp x y ↔ y < x := by
  unfold lg_cmp
  by_cases h : x > y
  · rw [if_pos h]; exact ⟨fun _ => h, fun _ => by decide⟩
  · rw [if_neg h]
    by_cases e : x = y
    · rw [if_pos e]; exact ⟨fun q => absurd q (by decide), fun q => absurd q h⟩
    · rw [if_neg e]; exact ⟨fun q => absurd q (by decide), fun q => absurd q h⟩
theorem lg_le (x y : Int64) : lg_cmp x y ≤ 0 ↔ ¬ y < x := by
  rw [← lg_pos, Int32.not_lt]
def oddN (Q t f : Nat) : Nat := (1000000 * (Q * f)) / (Q * f + (1000000 - Q) * t)
theorem odd_den {Q t f : Nat} (hQ : Q ≤ 1000000) (ht : 1 ≤ t) (hf : 1 ≤ f) : 1000000 ≤ Q * f + (1000000 - Q) * t := by
  have h1 : Q * 1 ≤ Q * f := Nat.mul_le_mul_left _ hf
  have h2 : (1000000 - Q) * 1 ≤ (1000000 - Q) * t := Nat.mul_le_mul_left _ ht
  omega
theorem odd_big {Q t f : Nat} (hQ : Q ≤ 1000000) (ht : t ≤ 1000) (hf : f ≤ 1000) : Q * f ≤ 1000000000 ∧ (1000000 - Q) * t ≤ 1000000000 := by
  constructor
  · exact Nat.le_trans (Nat.mul_le_mul hQ hf) (by decide)
  · exact Nat.le_trans (Nat.mul_le_mul (show 1000000 - Q ≤ 1000000 by omega) ht) (by decide)
theorem oddN_le {Q t f : Nat} : oddN Q t f ≤ 1000000 := by
  unfold oddN
  apply Nat.div_le_of_le_mul
  rw [Nat.mul_comm]
  exact Nat.mul_le_mul_right _ (Nat.le_add_right _ _)
theorem odd_core {Q t f : Nat} (hQ : Q ≤ 1000000) (ht : 1 ≤ t ∧ t ≤ 999) (hf : 1 ≤ f ∧ f ≤ 999) : (nL Q * (nI f).toInt64) + (((1000000 : Int64) - nL Q) * (nI t).toInt64) = nL (Q * f + (1000000 - Q) * t) ∧ nL (Q * f + (1000000 - Q) * t) ≠ 0 ∧ 0 < nL (Q * f + (1000000 - Q) * t) ∧ ((1000000 : Int64) * (nL Q * (nI f).toInt64)) / nL (Q * f + (1000000 - Q) * t) = nL (oddN Q t f) := by
  have hb := odd_big hQ (show t ≤ 1000 by omega) (show f ≤ 1000 by omega)
  have hd := odd_den hQ ht.1 hf.1
  have e : (1000000 : Int64) - nL Q = nL (1000000 - Q) := nL_sub (a := 1000000) hQ
  have m : (1000000 : Int64) * nL (Q * f) = nL (1000000 * (Q * f)) := nL_mul 1000000 _
  rw [nI_toL (by omega), nI_toL (by omega), e, nL_mul, nL_mul, nL_add, m]
  refine ⟨rfl, ?_, ?_, nL_div (by omega) (by omega)⟩
  · intro z
    have z : nL _ = nL 0 := z
    rw [nL_inj (by omega) (by omega)] at z
    omega
  · show nL 0 < nL _
    rw [nL_lt (by omega) (by omega)]; omega
theorem oddsBehind_ok {Q t f : Nat} (hQ : Q ≤ 1000000) (ht : 1 ≤ t ∧ t ≤ 999) (hf : 1 ≤ f ∧ f ≤ 999) : f_X5_oddsBehind (nL Q) (nI t) (nI f) = some (nL (oddN Q t f)) := by
  obtain ⟨c1, c2, c3, c4⟩ := odd_core hQ ht hf
  unfold f_X5_oddsBehind
  rw [c1, lt_eq, if_neg (by rw [lg_le]; exact fun z => z c3), if_neg c2, c4]
theorem k1000 {t : Nat} (h : t ≤ 1000) : (1000 : Int32) - nI t = nI (1000 - t) := nI_sub (a := 1000) h
theorem byTest_ok {A : AS} {M : Mem} (h : RMm 156 A M) {i t f Q : Nat} (hi : i < (A.2.1 7).1) (h1 : (A.2.1 7).2 i 0 = nI t) (h2 : (A.2.1 7).2 i 1 = nI f) (hQ : Q ≤ 1000000) (ht : 1 ≤ t ∧ t ≤ 999) (hf : 1 ≤ f ∧ f ≤ 999) : f_X11_byTest (nL Q) (nI i) 1 M = some (nL (oddN Q t f)) ∧ f_X11_byTest (nL Q) (nI i) 0 M = some (nL (oddN Q (1000 - t) (1000 - f))) := by
  have i0 : (319 + (2 * nI i)) = nI (319 + 2 * i) := idx2 319 2 i
  have i1 : nI (319 + 2 * i) + 1 = nI (319 + 2 * i + 1) := nI_add _ 1
  constructor
  · obtain ⟨c1, c2, c3, c4⟩ := odd_core hQ ht hf
    unfold f_X11_byTest
    rw [if_neg (by decide), i0, i1, rt_rd h (k := 7) (by omega) hi (j := 0) (by simp [twd]) (by simp [tbs, twd]; omega), b1_some, if_neg (by decide), rt_rd h (k := 7) (by omega) hi (j := 1) (by simp [twd]) (by simp [tbs, twd]; omega), b1_some, h1, h2, c1, if_neg c2, c4]
  · obtain ⟨c1, c2, c3, c4⟩ := odd_core (t := 1000 - t) (f := 1000 - f) hQ (by omega) (by omega)
    unfold f_X11_byTest
    rw [if_pos rfl, i0, i1, rt_rd h (k := 7) (by omega) hi (j := 0) (by simp [twd]) (by simp [tbs, twd]; omega), b1_some, if_pos rfl, rt_rd h (k := 7) (by omega) hi (j := 1) (by simp [twd]) (by simp [tbs, twd]; omega), b1_some, h1, h2, k1000 (by omega), k1000 (by omega), c1, if_neg c2, c4]
def vN (T : Tb) (i c : Nat) : Nat := (T.2 i c).toInt.toNat
theorem tes_v {T : Tb} (h : okTes T) {i : Nat} (hi : i < T.1) : (1 ≤ vN T i 0 ∧ vN T i 0 ≤ 999) ∧ (1 ≤ vN T i 1 ∧ vN T i 1 ≤ 999) ∧ T.2 i 0 = nI (vN T i 0) ∧ T.2 i 1 = nI (vN T i 1) := by
  obtain ⟨a, b, a1, a2, b1, b2, h1, h2⟩ := h i hi
  have e1 : vN T i 0 = a := by unfold vN; rw [h1, nI_toInt (by omega)]; rfl
  have e2 : vN T i 1 = b := by unfold vN; rw [h2, nI_toInt (by omega)]; rfl
  rw [e1, e2]
  exact ⟨⟨a1, a2⟩, ⟨b1, b2⟩, h1, h2⟩
def oqG (T : Tb) (S1 S2 Q : Nat) : Nat → Nat
  | 0 => Q
  | k + 1 => if S1.testBit k then oddN (oqG T S1 S2 Q k) (vN T k 0) (vN T k 1) else if S2.testBit k then oddN (oqG T S1 S2 Q k) (1000 - vN T k 0) (1000 - vN T k 1) else oqG T S1 S2 Q k
theorem oqG_le {T : Tb} {S1 S2 Q : Nat} (hQ : Q ≤ 1000000) : ∀ k, oqG T S1 S2 Q k ≤ 1000000
  | 0 => hQ
  | k + 1 => by
    show (if S1.testBit k then _ else if S2.testBit k then _ else _) ≤ _
    split
    · exact oddN_le
    · split
      · exact oddN_le
      · exact oqG_le hQ k
theorem oddsForged_ok {o : Nat} {T : Tb} {M : Mem} (hT : RR (o + 3) 6 2 T M) (hk : okTes T) {S1 S2 p : Nat} (h1 : S1 < 2147483648) (h2 : S2 < 2147483648) (hp : p ≤ 1000) : f_X5_oddsForged o (nI p) (nI S1) (nI S2) M = some (nI (oqG T S1 S2 (p * 1000) T.1)) := by
  have hm : T.1 ≤ 6 := hT.le
  have e0 : (nI p).toInt64 * 1000 = nL (p * 1000) := by rw [nI_toL (by omega)]; exact nL_mul p 1000
  have hQ : p * 1000 ≤ 1000000 := by omega
  unfold f_X5_oddsForged
  have key := lp_for (body := fun s : Int64 × Int32 => w_X5_oddsForged_11 o (nI S1) (nI S2) M s.1 s.2) (fun j => (nL (oqG T S1 S2 (p * 1000) j), nI j)) T.1 (nL (oqG T S1 S2 (p * 1000) T.1)) (by
    intro j hj
    obtain ⟨v1, v2, v3, v4⟩ := tes_v hk hj
    unfold w_X5_oddsForged_11
    simp only
    rw [hT.cnt, if_neg (by rw [nI_le_iff (by omega) (by omega)]; omega), isIn_nI h1 (by omega), isIn_nI h2 (by omega)]
    have em : oqG T S1 S2 (p * 1000) (j + 1) = if S1.testBit j then oddN (oqG T S1 S2 (p * 1000) j) (vN T j 0) (vN T j 1) else if S2.testBit j then oddN (oqG T S1 S2 (p * 1000) j) (1000 - vN T j 0) (1000 - vN T j 1) else oqG T S1 S2 (p * 1000) j := rfl
    rw [em]
    have hle := oqG_le (T := T) (S1 := S1) (S2 := S2) hQ j
    cases S1.testBit j with
    | true =>
      simp only [if_true]
      rw [if_neg (by decide), at_lit hT 0 rfl hj (by omega), b1_some, at_lit hT 1 rfl hj (by omega), b1_some, v3, v4, oddsBehind_ok hle v1 v2, b1_some, nI_inc]
    | false =>
      simp only [Bool.false_eq_true, if_false]
      rw [if_pos trivial]
      cases S2.testBit j with
      | true =>
        simp only [if_true]
        rw [if_neg (by decide), at_lit hT 0 rfl hj (by omega), b1_some, at_lit hT 1 rfl hj (by omega), b1_some, v3, v4, k1000 (by omega), k1000 (by omega), oddsBehind_ok hle (by omega) (by omega), b1_some, nI_inc]
      | false =>
        simp only [Bool.false_eq_true, if_false]
        rw [if_pos trivial, nI_inc]) (by
    unfold w_X5_oddsForged_11
    simp only
    rw [hT.cnt, if_pos (by rw [nI_le_iff (by omega) (by omega)]; omega)]) (by omega)
  have key : lp (fun s : Int64 × Int32 => w_X5_oddsForged_11 o (nI S1) (nI S2) M s.1 s.2) FU (nL (p * 1000), 0) = _ := key
  rw [e0, key, b1_some, nL_to32]
theorem forged_loop {A : AS} {M : Mem} (h : RMm 156 A M) (hk : okTes (A.2.1 7)) {S1 S2 Q : Nat} (h1 : S1 < 2147483648) (h2 : S2 < 2147483648) (hQ : Q ≤ 1000000) : lp (fun s => w_X11_forged_46 (nI S1) (nI S2) M s.1 s.2) FU (nL Q, 0) = some (nL (oqG (A.2.1 7) S1 S2 Q (A.2.1 7).1)) := by
  have hT := h.2.1 7 (by omega)
  have hn : M 156 88 = nI (A.2.1 7).1 := hT.1
  have hm : (A.2.1 7).1 ≤ 6 := hT.2.1
  have h12 : S1 ||| S2 < 2147483648 := Nat.or_lt_two_pow (n := 31) h1 h2
  have key := lp_for (body := fun s : Int64 × Int32 => w_X11_forged_46 (nI S1) (nI S2) M s.1 s.2) (fun j => (nL (oqG (A.2.1 7) S1 S2 Q j), nI j)) (A.2.1 7).1 (nL (oqG (A.2.1 7) S1 S2 Q (A.2.1 7).1)) (by
    intro j hj
    obtain ⟨v1, v2, v3, v4⟩ := tes_v hk hj
    have hle := oqG_le (T := A.2.1 7) (S1 := S1) (S2 := S2) hQ j
    obtain ⟨t1, t0⟩ := byTest_ok h hj v3 v4 hle v1 v2
    unfold w_X11_forged_46
    simp only
    rw [hn, if_neg (by rw [nI_le_iff (by omega) (by omega)]; omega), nI_or]
    have em : oqG (A.2.1 7) S1 S2 Q (j + 1) = if S1.testBit j then oddN (oqG (A.2.1 7) S1 S2 Q j) (vN (A.2.1 7) j 0) (vN (A.2.1 7) j 1) else if S2.testBit j then oddN (oqG (A.2.1 7) S1 S2 Q j) (1000 - vN (A.2.1 7) j 0) (1000 - vN (A.2.1 7) j 1) else oqG (A.2.1 7) S1 S2 Q j := rfl
    rw [em]
    by_cases b1 : S1.testBit j = true
    · rw [if_pos b1, if_pos ((shbit h12 (by omega)).2 (by rw [Nat.testBit_or, b1]; rfl)), if_pos ((shbit h1 (by omega)).2 b1), lt_eq, t1, b1_some, nI_inc]
    · rw [if_neg b1]
      by_cases b2 : S2.testBit j = true
      · rw [if_pos b2, if_pos ((shbit h12 (by omega)).2 (by rw [Nat.testBit_or, b2, Bool.or_true])), if_neg (fun z => b1 ((shbit h1 (by omega)).1 z)), lt_eq, t0, b1_some, nI_inc]
      · rw [if_neg b2, if_neg (fun z => by
          have := (shbit h12 (by omega)).1 z
          rw [Nat.testBit_or, Bool.or_eq_true] at this
          exact this.elim b1 b2), nI_inc]) (by
    unfold w_X11_forged_46
    simp only
    rw [hn, if_pos (by rw [nI_le_iff (by omega) (by omega)]; omega)]) (by omega)
  exact key
theorem c_forged (a b c : Int32) {M : Mem} (h : Inv M) : ∃ r, f_X10_forged a b c M = some r ∧ f_X11_forged a b c M = some r := by
  obtain ⟨⟨A, I, P, tp, ft⟩, hC, hM, hG⟩ := h
  have hT : RR (79 + 3) 6 2 (A.2.1 7) M := hC.2.1.2.1
  have hR : RMm 156 A M := hM.1
  have hm : (A.2.1 7).1 ≤ 6 := hT.le
  have hk : okTes (A.2.1 7) := hG.1.2.2.1.2.1
  have hn : M 156 88 = nI (A.2.1 7).1 := ans_m 7 (by omega) hM
  have hpw : 2 ^ (A.2.1 7).1 ≤ 64 := pow2_le hm
  have hp1 : 1 ≤ 2 ^ (A.2.1 7).1 := Nat.one_le_two_pow
  have ex : ((1 : Int32) <<< (nI (A.2.1 7).1 &&& 31)) - 1 = nI (2 ^ (A.2.1 7).1 - 1) := by rw [nI_shl _ (by omega)]; exact nI_dec' (by omega)
  unfold f_X10_forged f_X11_forged f_X11_areTests
  rw [hT.cnt, hn, ex, lt_eq]
  by_cases q : (a < 0 ∨ (1000 : Int32) < a) ∨ ((b < 0 ∨ nI (2 ^ (A.2.1 7).1 - 1) < b) ∨ ((c < 0 ∨ nI (2 ^ (A.2.1 7).1 - 1) < c) ∨ ¬ b &&& c = 0))
  · exact ⟨-1, by rw [if_pos (by rw [within0, within0, within0]; exact q)], by rw [if_pos (by rw [isInm0, isInm0, isInm0]; exact q)]⟩
  · rw [if_neg (by rw [within0, within0, within0]; exact q), if_neg (by rw [isInm0, isInm0, isInm0]; exact q)]
    obtain ⟨p, _, hp, rfl⟩ := rng_in (x := a) 0 1000 rfl rfl (by omega) (by omega) (fun z => q (.inl z))
    obtain ⟨S1, _, h1, rfl⟩ := rng_in (x := b) 0 (2 ^ (A.2.1 7).1 - 1) rfl rfl (by omega) (by omega) (fun z => q (.inr (.inl z)))
    obtain ⟨S2, _, h2, rfl⟩ := rng_in (x := c) 0 (2 ^ (A.2.1 7).1 - 1) rfl rfl (by omega) (by omega) (fun z => q (.inr (.inr (.inl z))))
    have e0 : (1000 : Int64) * (nI p).toInt64 = nL (p * 1000) := by rw [nI_toL (by omega), Nat.mul_comm]; exact nL_mul 1000 p
    refine ⟨nI (oqG (A.2.1 7) S1 S2 (p * 1000) (A.2.1 7).1), ?_, ?_⟩
    · rw [oddsForged_ok hT hk (by omega) (by omega) hp, b1_some]
    · rw [lt_eq, e0, forged_loop hR hk (by omega) (by omega) (by omega), b1_some, nL_to32]
/-! lookAt -/
theorem oq_shown {T : Tb} {i Q : Nat} : ∀ k, oqG T (2 ^ i) 0 Q k = if k ≤ i then Q else oddN Q (vN T i 0) (vN T i 1)
  | 0 => by rw [if_pos (Nat.zero_le _)]; rfl
  | k + 1 => by
    show (if (2 ^ i).testBit k then _ else if (0 : Nat).testBit k then _ else _) = _
    rw [oq_shown k, Nat.testBit_two_pow, Nat.zero_testBit]
    by_cases e : i = k
    · subst e
      rw [if_pos (by simp), if_pos (Nat.le_refl _), if_neg (by omega)]
    · rw [if_neg (by simpa using e), if_neg (by simp)]
      by_cases q : k + 1 ≤ i
      · rw [if_pos q, if_pos (by omega)]
      · rw [if_neg q, if_neg (by omega)]
theorem oq_not {T : Tb} {i Q : Nat} : ∀ k, oqG T 0 (2 ^ i) Q k = if k ≤ i then Q else oddN Q (1000 - vN T i 0) (1000 - vN T i 1)
  | 0 => by rw [if_pos (Nat.zero_le _)]; rfl
  | k + 1 => by
    show (if (0 : Nat).testBit k then _ else if (2 ^ i).testBit k then _ else _) = _
    rw [oq_not k, Nat.testBit_two_pow, Nat.zero_testBit, if_neg (by simp)]
    by_cases e : i = k
    · subst e
      rw [if_pos (by simp), if_pos (Nat.le_refl _), if_neg (by omega)]
    · rw [if_neg (by simpa using e)]
      by_cases q : k + 1 ≤ i
      · rw [if_pos q, if_pos (by omega)]
      · rw [if_neg q, if_neg (by omega)]
/-- how sure one is behind a test -/
def sureN (T : Tb) (Q i : Nat) : Nat := if oddN Q (vN T i 0) (vN T i 1) < 1000000 - oddN Q (1000 - vN T i 0) (1000 - vN T i 1) then 1000000 - oddN Q (1000 - vN T i 0) (1000 - vN T i 1) else oddN Q (vN T i 0) (vN T i 1)
def lkB (T : Tb) (Q : Nat) : Nat → Nat
  | 0 => 0
  | k + 1 => if sureN T Q (k + 1) ≤ sureN T Q (lkB T Q k) then lkB T Q k else k + 1
theorem sure_le {T : Tb} {Q i : Nat} : sureN T Q i ≤ 1000000 := by
  unfold sureN
  split
  · omega
  · exact oddN_le
theorem lk_step (T : Tb) (Q : Nat) {j : Nat} (hj : j ≠ 0) : lkB T Q (j + 1 - 1) = if sureN T Q j ≤ sureN T Q (lkB T Q (j - 1)) then lkB T Q (j - 1) else j := by
  obtain ⟨k', rfl⟩ : ∃ k', j = k' + 1 := ⟨j - 1, by omega⟩
  rfl
theorem testToLookAt_ok {o : Nat} {T : Tb} {M : Mem} (hT : RR (o + 3) 6 2 T M) (hk : okTes T) {p : Nat} (hp : p ≤ 1000) : f_X5_testToLookAt o (nI p) M = some (if T.1 = 0 then -1 else nI (lkB T (p * 1000) (T.1 - 1))) := by
  have hm : T.1 ≤ 6 := hT.le
  unfold f_X5_testToLookAt
  have key := lp_for (body := fun s : Int32 × Int32 × Int32 => w_X5_testToLookAt_7 o (nI p) M s.1 s.2.1 s.2.2) (fun j => if j = 0 then (-1, -1, nI 0) else (nI (lkB T (p * 1000) (j - 1)), nI (sureN T (p * 1000) (lkB T (p * 1000) (j - 1))), nI j)) T.1 (if T.1 = 0 then -1 else nI (lkB T (p * 1000) (T.1 - 1))) (by
    intro j hj
    have hstep : ∀ (b l : Int32), w_X5_testToLookAt_7 o (nI p) M b l (nI j) = if nI (sureN T (p * 1000) j) ≤ l then some (.inl (b, l, nI (j + 1))) else some (.inl (nI j, nI (sureN T (p * 1000) j), nI (j + 1))) := by
      intro b l
      have p31 : 2 ^ j < 2147483648 := Nat.lt_of_le_of_lt (pow2_le (show j ≤ 6 by omega)) (by decide)
      have s1 := oddN_le (Q := p * 1000) (t := vN T j 0) (f := vN T j 1)
      have s2 := oddN_le (Q := p * 1000) (t := 1000 - vN T j 0) (f := 1000 - vN T j 1)
      have o1 : f_X5_oddsForged o (nI p) (nI (2 ^ j)) 0 M = some (nI (oddN (p * 1000) (vN T j 0) (vN T j 1))) := by
        have := oddsForged_ok hT hk (S1 := 2 ^ j) (S2 := 0) p31 (by omega) hp
        rw [oq_shown, if_neg (by omega)] at this
        exact this
      have o2 : f_X5_oddsForged o (nI p) 0 (nI (2 ^ j)) M = some (nI (oddN (p * 1000) (1000 - vN T j 0) (1000 - vN T j 1))) := by
        have := oddsForged_ok hT hk (S1 := 0) (S2 := 2 ^ j) (by omega) p31 hp
        rw [oq_not, if_neg (by omega)] at this
        exact this
      have e6 : (1000000 : Int32) - nI (oddN (p * 1000) (1000 - vN T j 0) (1000 - vN T j 1)) = nI (1000000 - oddN (p * 1000) (1000 - vN T j 0) (1000 - vN T j 1)) := nI_sub (a := 1000000) s2
      unfold w_X5_testToLookAt_7
      rw [hT.cnt, if_neg (by rw [nI_le_iff (by omega) (by omega)]; omega), nI_shl j (by omega), o1, b1_some, o2, b1_some, e6, max_nI (by omega) (by omega), lt_eq, nI_inc]
      rfl
    have hs := sure_le (T := T) (Q := p * 1000) (i := j)
    by_cases j0 : j = 0
    · subst j0
      simp only [if_true, Nat.zero_add, if_neg (show ¬ (1 : Nat) = 0 by omega)]
      rw [hstep, if_neg (by rw [Int32.le_iff_toInt_le, nI_toInt (by omega), toInt_m1]; omega)]
      rfl
    · simp only [if_neg j0, if_neg (show ¬ j + 1 = 0 by omega)]
      rw [hstep, lk_step T _ j0]
      have hs2 := sure_le (T := T) (Q := p * 1000) (i := lkB T (p * 1000) (j - 1))
      by_cases y : sureN T (p * 1000) j ≤ sureN T (p * 1000) (lkB T (p * 1000) (j - 1))
      · rw [if_pos y, if_pos (nI_le y (by omega))]
      · rw [if_neg y, if_neg (nI_ge (by omega) (by omega))]) (by
    by_cases z : T.1 = 0
    · simp only [if_pos z]
      unfold w_X5_testToLookAt_7
      rw [hT.cnt, z, if_pos (by decide)]
    · simp only [if_neg z]
      unfold w_X5_testToLookAt_7
      rw [hT.cnt, if_pos (by rw [nI_le_iff (by omega) (by omega)]; omega)]) (by omega)
  have key : lp (fun s : Int32 × Int32 × Int32 => w_X5_testToLookAt_7 o (nI p) M s.1 s.2.1 s.2.2) FU (-1, -1, 0) = _ := key
  rw [key, b1_some]
theorem m1L_lt (n : Nat) (h : n < 4611686018427387904) : (-1 : Int64) < nL n := by
  rw [Int64.lt_iff_toInt_lt, nL_toInt h, show (-1 : Int64).toInt = -1 from by decide]; omega
theorem lookAt_loop {A : AS} {M : Mem} (h : RMm 156 A M) (hk : okTes (A.2.1 7)) {p : Nat} (hp : p ≤ 1000) : lp (fun s => w_X11_lookAt_22 (nI p) M s.1 s.2.1 s.2.2) FU (-1, -1, 0) = some (if (A.2.1 7).1 = 0 then -1 else nI (lkB (A.2.1 7) (p * 1000) ((A.2.1 7).1 - 1))) := by
  have hT := h.2.1 7 (by omega)
  have hn : M 156 88 = nI (A.2.1 7).1 := hT.1
  have hm : (A.2.1 7).1 ≤ 6 := hT.2.1
  have e0 : (1000 : Int64) * (nI p).toInt64 = nL (p * 1000) := by rw [nI_toL (by omega), Nat.mul_comm]; exact nL_mul 1000 p
  have key := lp_for (body := fun s : Int32 × Int64 × Int32 => w_X11_lookAt_22 (nI p) M s.1 s.2.1 s.2.2) (fun j => if j = 0 then (-1, -1, nI 0) else (nI (lkB (A.2.1 7) (p * 1000) (j - 1)), nL (sureN (A.2.1 7) (p * 1000) (lkB (A.2.1 7) (p * 1000) (j - 1))), nI j)) (A.2.1 7).1 (if (A.2.1 7).1 = 0 then -1 else nI (lkB (A.2.1 7) (p * 1000) ((A.2.1 7).1 - 1))) (by
    intro j hj
    obtain ⟨v1, v2, v3, v4⟩ := tes_v hk hj
    obtain ⟨t1, t0⟩ := byTest_ok h hj v3 v4 (show p * 1000 ≤ 1000000 by omega) v1 v2
    have s1 := oddN_le (Q := p * 1000) (t := vN (A.2.1 7) j 0) (f := vN (A.2.1 7) j 1)
    have s2 := oddN_le (Q := p * 1000) (t := 1000 - vN (A.2.1 7) j 0) (f := 1000 - vN (A.2.1 7) j 1)
    have e6 : (1000000 : Int64) - nL (oddN (p * 1000) (1000 - vN (A.2.1 7) j 0) (1000 - vN (A.2.1 7) j 1)) = nL (1000000 - oddN (p * 1000) (1000 - vN (A.2.1 7) j 0) (1000 - vN (A.2.1 7) j 1)) := nL_sub (a := 1000000) s2
    have hstep : ∀ (b : Int32) (l : Int64), w_X11_lookAt_22 (nI p) M b l (nI j) = if l < nL (sureN (A.2.1 7) (p * 1000) j) then some (.inl (nI j, nL (sureN (A.2.1 7) (p * 1000) j), nI (j + 1))) else some (.inl (b, l, nI (j + 1))) := by
      intro b l
      unfold w_X11_lookAt_22
      rw [hn, if_neg (by rw [nI_le_iff (by omega) (by omega)]; omega), e0, t1, b1_some, t0, b1_some, e6, nI_inc]
      unfold sureN
      by_cases y : oddN (p * 1000) (vN (A.2.1 7) j 0) (vN (A.2.1 7) j 1) < 1000000 - oddN (p * 1000) (1000 - vN (A.2.1 7) j 0) (1000 - vN (A.2.1 7) j 1)
      · rw [if_pos y, if_pos (by rw [lg_le, nL_lt (by omega) (by omega)]; omega)]
        by_cases x : l < nL (1000000 - oddN (p * 1000) (1000 - vN (A.2.1 7) j 0) (1000 - vN (A.2.1 7) j 1))
        · rw [if_pos x, if_pos ((lg_pos _ _).2 x)]
        · rw [if_neg x, if_neg (fun z => x ((lg_pos _ _).1 z))]
      · rw [if_neg y]
        by_cases e : oddN (p * 1000) (vN (A.2.1 7) j 0) (vN (A.2.1 7) j 1) = 1000000 - oddN (p * 1000) (1000 - vN (A.2.1 7) j 0) (1000 - vN (A.2.1 7) j 1)
        · rw [if_pos (by rw [lg_le, nL_lt (by omega) (by omega)]; omega), ← e]
          by_cases x : l < nL (oddN (p * 1000) (vN (A.2.1 7) j 0) (vN (A.2.1 7) j 1))
          · rw [if_pos x, if_pos ((lg_pos _ _).2 x)]
          · rw [if_neg x, if_neg (fun z => x ((lg_pos _ _).1 z))]
        · rw [if_neg (by rw [lg_le, nL_lt (by omega) (by omega)]; omega)]
          by_cases x : l < nL (oddN (p * 1000) (vN (A.2.1 7) j 0) (vN (A.2.1 7) j 1))
          · rw [if_pos x, if_pos ((lg_pos _ _).2 x)]
          · rw [if_neg x, if_neg (fun z => x ((lg_pos _ _).1 z))]
    have hs := sure_le (T := A.2.1 7) (Q := p * 1000) (i := j)
    by_cases j0 : j = 0
    · subst j0
      simp only [if_true, Nat.zero_add, if_neg (show ¬ (1 : Nat) = 0 by omega)]
      rw [hstep, if_pos (m1L_lt _ (by omega))]
      rfl
    · simp only [if_neg j0, if_neg (show ¬ j + 1 = 0 by omega)]
      rw [hstep, lk_step (A.2.1 7) _ j0]
      have hs2 := sure_le (T := A.2.1 7) (Q := p * 1000) (i := lkB (A.2.1 7) (p * 1000) (j - 1))
      by_cases y : sureN (A.2.1 7) (p * 1000) j ≤ sureN (A.2.1 7) (p * 1000) (lkB (A.2.1 7) (p * 1000) (j - 1))
      · rw [if_pos y, if_neg (by rw [nL_lt (by omega) (by omega)]; omega)]
      · rw [if_neg y, if_pos (by rw [nL_lt (by omega) (by omega)]; omega)]) (by
    by_cases z : (A.2.1 7).1 = 0
    · simp only [if_pos z]
      unfold w_X11_lookAt_22
      rw [hn, z, if_pos (by decide)]
    · simp only [if_neg z]
      unfold w_X11_lookAt_22
      rw [hn, if_pos (by rw [nI_le_iff (by omega) (by omega)]; omega)]) (by omega)
  exact key
theorem c_lookAt (a : Int32) {M : Mem} (h : Inv M) : ∃ r, f_X10_lookAt a M = some r ∧ f_X11_lookAt a M = some r := by
  obtain ⟨⟨A, I, P, tp, ft⟩, hC, hM, hG⟩ := h
  have hT : RR (79 + 3) 6 2 (A.2.1 7) M := hC.2.1.2.1
  have hR : RMm 156 A M := hM.1
  have hk : okTes (A.2.1 7) := hG.1.2.2.1.2.1
  unfold f_X10_lookAt f_X11_lookAt
  by_cases q : a < 0 ∨ (1000 : Int32) < a
  · exact ⟨-1, by rw [if_pos ((within0 _ _ _).2 q)], by rw [if_pos ((isInm0 _ _ _).2 q)]⟩
  · rw [if_neg (by rw [within0]; exact q), if_neg (by rw [isInm0]; exact q)]
    obtain ⟨p, _, hp, rfl⟩ := rng_in (x := a) 0 1000 rfl rfl (by omega) (by omega) q
    exact ⟨_, by rw [testToLookAt_ok hT hk hp, b1_some], by rw [lookAt_loop hR hk hp, b1_some]⟩
