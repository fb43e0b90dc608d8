/-! ===== PURE PART: first ones, numbers of kinds, sums ===== -/
def firstF (p : Nat → Bool) : Nat → Nat → Option Nat
  | _, 0 => none
  | k, n + 1 => if p k then some k else firstF p (k + 1) n
theorem firstF_lt {p : Nat → Bool} : ∀ {k n m : Nat}, firstF p k n = some m → k ≤ m ∧ m < k + n ∧ p m = true
  | k, 0, m, h => by cases h
  | k, n + 1, m, h => by
    unfold firstF at h
    by_cases q : p k
    · rw [if_pos q] at h
      cases h
      exact ⟨Nat.le_refl _, by omega, q⟩
    · rw [if_neg q] at h
      obtain ⟨h1, h2, h3⟩ := firstF_lt h
      exact ⟨by omega, by omega, h3⟩
theorem lp_firstG {ρ : Type} {body : Int32 → Option (Int32 ⊕ ρ)} (p : Nat → Bool) (f : Option Nat → ρ) : ∀ (n k fuel : Nat), (∀ j, k ≤ j → j < k + n → p j = false → body (nI j) = some (.inl (nI (j + 1)))) → (∀ j, k ≤ j → j < k + n → p j = true → body (nI j) = some (.inr (f (some j)))) → body (nI (k + n)) = some (.inr (f none)) → n < fuel → lp body fuel (nI k) = some (f (firstF p k n))
  | n, k, 0, _, _, _, h => absurd h (Nat.not_lt_zero _)
  | 0, k, fuel + 1, _, _, h3, _ => lp_end h3
  | n + 1, k, fuel + 1, h1, h2, h3, h => by
    unfold firstF
    by_cases q : p k
    · rw [if_pos q]
      exact lp_end (h2 k (Nat.le_refl _) (by omega) q)
    · rw [if_neg q, lp_in (h1 k (Nat.le_refl _) (by omega) (by simpa using q))]
      exact lp_firstG p f n (k + 1) fuel (fun j a b c => h1 j (by omega) (by omega) c) (fun j a b c => h2 j (by omega) (by omega) c) (by rw [show k + 1 + n = k + (n + 1) from by omega]; exact h3) (by omega)
theorem lp_first {ρ : Type} {body : Int32 → Option (Int32 ⊕ ρ)} (p : Nat → Bool) (f : Option Nat → ρ) (n : Nat) (h1 : ∀ j, j < n → p j = false → body (nI j) = some (.inl (nI (j + 1)))) (h2 : ∀ j, j < n → p j = true → body (nI j) = some (.inr (f (some j)))) (h3 : body (nI n) = some (.inr (f none))) (hn : n < 1000000) : lp body FU 0 = some (f (firstF p 0 n)) :=
  lp_firstG p f n 0 FU (fun j _ b c => h1 j (by omega) c) (fun j _ b c => h2 j (by omega) c) (by rw [Nat.zero_add]; exact h3) hn
/-- how many of the first k hold -/
def cntG (p : Nat → Bool) : Nat → Nat
  | 0 => 0
  | k + 1 => cntG p k + (if p k then 1 else 0)
theorem cntG_le (p : Nat → Bool) : ∀ k, cntG p k ≤ k
  | 0 => Nat.le_refl _
  | k + 1 => by
    have := cntG_le p k
    show cntG p k + (if p k then 1 else 0) ≤ k + 1
    split <;> omega
theorem popG_setG (p : Nat → Bool) (n : Nat) : ∀ k, popG (setG p n) k = cntG p (if k ≤ n then k else n)
  | 0 => by rw [if_pos (Nat.zero_le _)]; rfl
  | k + 1 => by
    show popG (setG p n) k + (setG p n >>> k) % 2 = _
    rw [popG_setG p n k, bit_mod2, setG_bit]
    by_cases q : k + 1 ≤ n
    · rw [if_pos (show k ≤ n by omega), if_pos q]
      have : decide (k < n) = true := by simp; omega
      rw [this, Bool.true_and]
      rfl
    · rw [if_neg q]
      have : decide (k < n) = false := by simp; omega
      rw [this, Bool.false_and]
      by_cases q2 : k ≤ n
      · rw [if_pos q2, show k = n from by omega]; rfl
      · rw [if_neg q2]; rfl
theorem popc_setG (p : Nat → Bool) {n : Nat} (h : n ≤ 16) : popc (setG p n) = cntG p n := by
  unfold popc
  rw [popG_setG]
  by_cases q : 16 ≤ n
  · rw [if_pos q, show n = 16 from by omega]
  · rw [if_neg q]
/-- the sizes of those that hold, added up as the programs do -/
def sumG (p : Nat → Bool) (f : Nat → Int32) : Nat → Int32
  | 0 => 0
  | k + 1 => if p k then sumG p f k + f k else sumG p f k
def isK (T : Tb) (k : Nat) (i : Nat) : Bool := decide (T.2 i 0 = nI k)
section SETS
variable {A : AS} {M : Mem}
theorem shbit {S i : Nat} (hS : S < 2147483648) (hi : i < 32) : ((nI S >>> (nI i &&& 31)) &&& 1 = 1) ↔ S.testBit i = true := by
  rw [nI_shr hS hi]
  have e : nI (S >>> i) &&& 1 = nI ((S >>> i) &&& 1) := nI_and _ 1
  rw [e, bit_mod]
  cases S.testBit i with
  | true => exact ⟨fun _ => rfl, fun _ => rfl⟩
  | false => exact ⟨fun q => absurd q (by decide), fun q => by cases q⟩
theorem placesOf_ok (h : RMm 156 A M) (k : Nat) : f_X11_placesOf (nI k) M = some (nI (setG (isK (A.2.1 4) k) (A.2.1 4).1)) := by
  have hn := n156_4 h
  have hm := m_4 h
  unfold f_X11_placesOf
  have key := lp_for (body := fun s : Int32 × Int32 => w_X11_placesOf_4 (nI k) M s.1 s.2) (fun j => (nI (setG (isK (A.2.1 4) k) j), nI j)) (A.2.1 4).1 (nI (setG (isK (A.2.1 4) k) (A.2.1 4).1)) (by
    intro j hj
    unfold w_X11_placesOf_4
    simp only
    rw [hn, if_neg (by rw [nI_le_iff (by omega) (by omega)]; omega), ofRemain_ok h hj 0 rfl (by omega), b1_some, lt_eq]
    show _ = some (Sum.inl (nI (setG (isK (A.2.1 4) k) j ||| (if isK (A.2.1 4) k j then 2 ^ j else 0)), nI (j + 1)))
    unfold isK
    by_cases q : (A.2.1 4).2 j 0 = nI k
    · rw [if_pos q, nI_shl j (by omega), nI_or, nI_inc]
      simp [q]
    · rw [if_neg q, show (0 : Int32) = nI 0 from rfl, nI_or, nI_inc]
      simp [q]) (by
    unfold w_X11_placesOf_4
    simp only
    rw [hn, if_pos (by rw [nI_le_iff (by omega) (by omega)]; omega)]) (by omega)
  have key : lp (fun s : Int32 × Int32 => w_X11_placesOf_4 (nI k) M s.1 s.2) FU (0, 0) = _ := key
  rw [key, b1_some]
theorem sumOf_ok (h : RMm 156 A M) {S : Nat} (hS : S < 2147483648) : f_X11_sumOf (nI S) M = some (sumG (fun i => S.testBit i) (fun i => (A.2.1 4).2 i 1) (A.2.1 4).1) := by
  have hn := n156_4 h
  have hm := m_4 h
  unfold f_X11_sumOf
  have key := lp_for (body := fun s : Int32 × Int32 => w_X11_sumOf_4 (nI S) M s.1 s.2) (fun j => (sumG (fun i => S.testBit i) (fun i => (A.2.1 4).2 i 1) j, nI j)) (A.2.1 4).1 (sumG (fun i => S.testBit i) (fun i => (A.2.1 4).2 i 1) (A.2.1 4).1) (by
    intro j hj
    unfold w_X11_sumOf_4
    simp only
    rw [hn, if_neg (by rw [nI_le_iff (by omega) (by omega)]; omega), nI_inc]
    show _ = some (Sum.inl ((if S.testBit j then sumG (fun i => S.testBit i) (fun i => (A.2.1 4).2 i 1) j + (A.2.1 4).2 j 1 else sumG (fun i => S.testBit i) (fun i => (A.2.1 4).2 i 1) j), nI (j + 1)))
    by_cases q : S.testBit j = true
    · rw [if_pos ((shbit hS (by omega)).2 q), ofRemain_ok h hj 1 rfl (by omega), b1_some, if_pos q]
    · rw [if_neg (fun z => q ((shbit hS (by omega)).1 z)), if_neg q, Int32.add_zero]) (by
    unfold w_X11_sumOf_4
    simp only
    rw [hn, if_pos (by rw [nI_le_iff (by omega) (by omega)]; omega)]) (by omega)
  have key : lp (fun s : Int32 × Int32 => w_X11_sumOf_4 (nI S) M s.1 s.2) FU (0, 0) = _ := key
  rw [key, b1_some]
theorem sumG_congr {p q : Nat → Bool} {f : Nat → Int32} : ∀ {n : Nat}, (∀ i, i < n → p i = q i) → sumG p f n = sumG q f n
  | 0, _ => rfl
  | n + 1, h => by
    show (if p n then sumG p f n + f n else sumG p f n) = (if q n then sumG q f n + f n else sumG q f n)
    rw [h n (by omega), sumG_congr (fun i hi => h i (by omega))]
variable {t : Bool} {o : Nat}
theorem remainsOfKind_ok (h : RMk t o A M) (k : Nat) : f_X6_remainsOfKind o (nI k) M = some (nI (cntG (isK (A.2.1 4) k) (A.2.1 4).1)) := by
  have hT := h.t4
  have hm : (A.2.1 4).1 ≤ 14 := hT.le
  unfold f_X6_remainsOfKind
  have key := lp_for (body := fun s : Int32 × Int32 => w_X6_remainsOfKind_4 o (nI k) M s.1 s.2) (fun j => (nI (cntG (isK (A.2.1 4) k) j), nI j)) (A.2.1 4).1 (nI (cntG (isK (A.2.1 4) k) (A.2.1 4).1)) (by
    intro j hj
    unfold w_X6_remainsOfKind_4
    simp only
    rw [hT.cnt, if_neg (by rw [nI_le_iff (by omega) (by omega)]; omega), at_lit hT 0 rfl hj (by omega), b1_some]
    show _ = some (Sum.inl (nI (cntG (isK (A.2.1 4) k) j + (if isK (A.2.1 4) k j then 1 else 0)), nI (j + 1)))
    unfold isK
    by_cases q : (A.2.1 4).2 j 0 = nI k
    · rw [if_pos q, nI_inc, nI_inc]; simp [q]
    · rw [if_neg q, nI_inc]; simp [q]) (by
    unfold w_X6_remainsOfKind_4
    simp only
    rw [hT.cnt, if_pos (by rw [nI_le_iff (by omega) (by omega)]; omega)]) (by omega)
  have key : lp (fun s : Int32 × Int32 => w_X6_remainsOfKind_4 o (nI k) M s.1 s.2) FU (0, 0) = _ := key
  rw [key, b1_some]
theorem sizesOfKind_ok (h : RMk t o A M) (k : Nat) : f_X6_sizesOfKind o (nI k) M = some (sumG (isK (A.2.1 4) k) (fun i => (A.2.1 4).2 i 1) (A.2.1 4).1) := by
  have hT := h.t4
  have hm : (A.2.1 4).1 ≤ 14 := hT.le
  unfold f_X6_sizesOfKind
  have key := lp_for (body := fun s : Int32 × Int32 => w_X6_sizesOfKind_4 o (nI k) M s.1 s.2) (fun j => (sumG (isK (A.2.1 4) k) (fun i => (A.2.1 4).2 i 1) j, nI j)) (A.2.1 4).1 (sumG (isK (A.2.1 4) k) (fun i => (A.2.1 4).2 i 1) (A.2.1 4).1) (by
    intro j hj
    unfold w_X6_sizesOfKind_4
    simp only
    rw [hT.cnt, if_neg (by rw [nI_le_iff (by omega) (by omega)]; omega), at_lit hT 0 rfl hj (by omega), b1_some]
    show _ = some (Sum.inl ((if isK (A.2.1 4) k j then sumG (isK (A.2.1 4) k) (fun i => (A.2.1 4).2 i 1) j + (A.2.1 4).2 j 1 else sumG (isK (A.2.1 4) k) (fun i => (A.2.1 4).2 i 1) j), nI (j + 1)))
    by_cases q : (A.2.1 4).2 j 0 = nI k
    · have e : isK (A.2.1 4) k j = true := by unfold isK; simp [q]
      rw [if_pos q, at_lit hT 1 rfl hj (by omega), b1_some, nI_inc, if_pos e]
    · have e : ¬ isK (A.2.1 4) k j = true := by unfold isK; simp [q]
      rw [if_neg q, nI_inc, if_neg e]) (by
    unfold w_X6_sizesOfKind_4
    simp only
    rw [hT.cnt, if_pos (by rw [nI_le_iff (by omega) (by omega)]; omega)]) (by omega)
  have key : lp (fun s : Int32 × Int32 => w_X6_sizesOfKind_4 o (nI k) M s.1 s.2) FU (0, 0) = _ := key
  rw [key, b1_some]
end SETS
theorem c_kind (a b : Int32) {M : Mem} (h : Inv M) : ∃ r, f_X10_kind a b M = some r ∧ f_X11_kind a b M = some r := by
  obtain ⟨⟨A, I, P, tp, ft⟩, hC, hM, hG⟩ := h
  have hn : M 156 80 = nI (A.2.1 0).1 := ans_m 0 (by omega) hM
  have hle : (A.2.1 0).1 ≤ 6 := (hM.1.2.1 0 (by omega)).2.1
  have hm : (A.2.1 4).1 ≤ 14 := m_4 hM.1
  have hT := hC.1.t0
  have hR : RMm 156 A M := hM.1
  have hK : RMk true 1 A M := hC.1
  unfold f_X10_kind f_X11_kind f_X11_isKind
  rw [hn]
  rcases idx_cases a (n := (A.2.1 0).1) (by omega) with z | ⟨k, hk, rfl⟩
  · exact ⟨-1, by rw [if_pos ((has0 hT a).2 z)], by rw [if_pos ((isInm_pred (by omega) a).2 z)]⟩
  · have hin := idx_in hk (by omega)
    rw [if_neg (fun z => hin ((has0 hT _).1 z)), if_neg (fun z => hin ((isInm_pred (by omega) _).1 z))]
    by_cases q : b.toInt < 0 ∨ 3 < b.toInt
    · refine ⟨-1, ?_, by rw [if_pos q]⟩
      rw [if_neg (by rintro rfl; revert q; decide), if_neg (by rintro rfl; revert q; decide), at_out hT, b1_some]
      right; right
      rcases q with q | q
      · left; rw [Int32.lt_iff_toInt_lt, toInt_0]; exact q
      · right; rw [Int32.lt_iff_toInt_lt, nI_toInt (by omega)]; omega
    · rw [if_neg q]
      obtain ⟨c, hc, rfl⟩ : ∃ c, c < 4 ∧ b = nI c := ⟨b.toInt.toNat, by omega, nI_ofI (by omega)⟩
      have : c = 0 ∨ c = 1 ∨ c = 2 ∨ c = 3 := by omega
      rcases this with rfl | rfl | rfl | rfl
      · refine ⟨(A.2.1 0).2 k 0, ?_, ?_⟩
        · rw [if_neg (by decide), if_neg (by decide), at_in hT hk (by omega), b1_some]
        · rw [if_pos (by decide), wholeOf_ok hR hk, b1_some]
      · refine ⟨(A.2.1 0).2 k 1, ?_, ?_⟩
        · rw [if_neg (by decide), if_neg (by decide), at_in hT hk (by omega), b1_some]
        · rw [if_neg (by decide), if_pos (by decide), keepsOf_ok hR hk, b1_some]
      · refine ⟨nI (cntG (isK (A.2.1 4) k) (A.2.1 4).1), ?_, ?_⟩
        · rw [if_pos (by decide), remainsOfKind_ok hK, b1_some]
        · rw [if_neg (by decide), if_neg (by decide), if_pos (by decide), placesOf_ok hR, b1_some, count_nI (setG_lt31 _ (by omega)), b1_some, popc_setG _ (by omega)]
      · refine ⟨sumG (isK (A.2.1 4) k) (fun i => (A.2.1 4).2 i 1) (A.2.1 4).1, ?_, ?_⟩
        · rw [if_neg (by decide), if_pos (by decide), sizesOfKind_ok hK, b1_some]
        · rw [if_neg (by decide), if_neg (by decide), if_neg (by decide), if_pos (by decide), placesOf_ok hR, b1_some, sumOf_ok hR (setG_lt31 _ (by omega)), b1_some]
          congr 1
          apply sumG_congr
          intro i hi
          rw [setG_bit]
          simp [hi]
