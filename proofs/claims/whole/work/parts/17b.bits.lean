/-! ===== PURE PART: sets as numbers ===== -/
theorem nI_and (a b : Nat) : nI a &&& nI b = nI (a &&& b) := by
  apply Int32.toBitVec_inj.1
  show BitVec.ofNat 32 a &&& BitVec.ofNat 32 b = BitVec.ofNat 32 (a &&& b)
  exact BitVec.ofNat_and.symm
theorem nI_or (a b : Nat) : nI a ||| nI b = nI (a ||| b) := by
  apply Int32.toBitVec_inj.1
  show BitVec.ofNat 32 a ||| BitVec.ofNat 32 b = BitVec.ofNat 32 (a ||| b)
  exact BitVec.ofNat_or.symm
theorem nI_xor (a b : Nat) : nI a ^^^ nI b = nI (a ^^^ b) := by
  apply Int32.toBitVec_inj.1
  show BitVec.ofNat 32 a ^^^ BitVec.ofNat 32 b = BitVec.ofNat 32 (a ^^^ b)
  exact BitVec.ofNat_xor.symm
theorem nI_and31 {i : Nat} (h : i < 32) : nI i &&& 31 = nI i := by
  show nI i &&& nI 31 = nI i
  rw [nI_and, show (31 : Nat) = 2 ^ 5 - 1 from rfl, Nat.and_two_pow_sub_one_eq_mod, Nat.mod_eq_of_lt h]
theorem nI_shl : ∀ i, i < 31 → (1 : Int32) <<< (nI i &&& 31) = nI (2 ^ i) := by decide +kernel
theorem smod32 : ∀ i, i < 32 → (BitVec.ofNat 32 i).smod 32 = BitVec.ofNat 32 i := by decide +kernel
theorem nI_shr {S i : Nat} (hS : S < 2147483648) (hi : i < 32) : nI S >>> (nI i &&& 31) = nI (S >>> i) := by
  rw [nI_and31 hi]
  apply Int32.toInt_inj.1
  have hle : S >>> i ≤ S := Nat.shiftRight_le S i
  rw [nI_toInt (by omega)]
  show (BitVec.sshiftRight' (BitVec.ofNat 32 S) ((BitVec.ofNat 32 i).smod 32)).toInt = _
  rw [smod32 i hi, BitVec.sshiftRight_eq', BitVec.toInt_sshiftRight]
  have e1 : (BitVec.ofNat 32 S).toInt = (S : Int) := nI_toInt (n := S) (by omega)
  have e2 : (BitVec.ofNat 32 i).toNat = i := by rw [BitVec.toNat_ofNat, Nat.mod_eq_of_lt (by omega)]
  rw [e1, e2]
  rfl
theorem bit_mod (S i : Nat) : ((S >>> i) &&& 1) = if S.testBit i then 1 else 0 := by
  rw [Nat.and_one_is_mod, Nat.shiftRight_eq_div_pow, Nat.testBit_eq_decide_div_mod_eq]
  by_cases h : S / 2 ^ i % 2 = 1
  · simp [h]
  · have : S / 2 ^ i % 2 = 0 := by omega
    simp [this]
theorem isIn_nI {S i : Nat} (hS : S < 2147483648) (hi : i < 32) : f_X10_isIn (nI S) (nI i) = if S.testBit i then 1 else 0 := by
  unfold f_X10_isIn
  rw [lt_eq, nI_shr hS hi]
  have e : nI (S >>> i) &&& 1 = nI ((S >>> i) &&& 1) := nI_and _ 1
  rw [e, bit_mod]
  cases S.testBit i with
  | true => rfl
  | false => rfl
theorem ushk : ∀ k, k < 32 → (UInt32.mod ((nI k).toUInt32 &&& Int32.toUInt32 31) 32).toBitVec.toNat = k := by decide +kernel
theorem ush_nI {S : Nat} (hS : S < 2147483648) {k : Nat} (hk : k < 32) : ush (nI S) (nI k) = nI (S >>> k) := by
  apply Int32.toBitVec_inj.1
  apply BitVec.eq_of_toNat_eq
  show ((BitVec.ofNat 32 S) >>> (UInt32.mod ((nI k).toUInt32 &&& Int32.toUInt32 31) 32).toBitVec).toNat = (BitVec.ofNat 32 (S >>> k)).toNat
  have hle : S >>> k ≤ S := Nat.shiftRight_le S k
  rw [BitVec.ushiftRight_eq', BitVec.toNat_ushiftRight, ushk k hk, BitVec.toNat_ofNat, BitVec.toNat_ofNat, Nat.mod_eq_of_lt (by omega), Nat.mod_eq_of_lt (by omega)]
/-- how many bits of the first 16 -/
def popG (S : Nat) : Nat → Nat
  | 0 => 0
  | k + 1 => popG S k + (S >>> k) % 2
def popc (S : Nat) : Nat := popG S 16
def bx1 (x : Nat) : Nat := x - ((x >>> 1) &&& 1431655765)
def bx2 (x : Nat) : Nat := (x &&& 858993459) + ((x >>> 2) &&& 858993459)
def bx3 (x : Nat) : Nat := (x + x >>> 4) &&& 252645135
def bx4 (x : Nat) : Nat := ((x + x >>> 8) + (x + x >>> 8) >>> 16) &&& 63
def bcN (S : Nat) : Nat := bx4 (bx3 (bx2 (bx1 S)))
theorem bc_all : ∀ a, a < 128 → ∀ b, b < 128 → bcN (a * 128 + b) = popc (a * 128 + b) := by decide +kernel
theorem bc_eq {S : Nat} (hS : S < 16384) : f_J6_bitCount_0f7a4 (nI S) = nI (bcN S) := by
  unfold f_J6_bitCount_0f7a4 bcN bx1 bx2 bx3 bx4
  have u : ∀ (x : Nat) (k : Nat) (y : Int32), x < 2147483648 → k < 32 → y = nI k → ush (nI x) y = nI (x >>> k) := fun x k y h1 h2 h3 => by subst h3; exact ush_nI h1 h2
  have n1 : ∀ x : Nat, nI x &&& 1431655765 = nI (x &&& 1431655765) := fun x => nI_and x 1431655765
  have n2 : ∀ x : Nat, nI x &&& 858993459 = nI (x &&& 858993459) := fun x => nI_and x 858993459
  have n3 : ∀ x : Nat, nI x &&& 252645135 = nI (x &&& 252645135) := fun x => nI_and x 252645135
  have n4 : ∀ x : Nat, nI x &&& 63 = nI (x &&& 63) := fun x => nI_and x 63
  have l1 : (S >>> 1) &&& 1431655765 ≤ S := Nat.le_trans Nat.and_le_left (Nat.shiftRight_le S 1)
  simp only [lt_eq]
  rw [u S 1 1 (by omega) (by omega) rfl, n1, nI_sub l1]
  generalize hx1 : S - ((S >>> 1) &&& 1431655765) = x1
  have b1' : x1 ≤ S := by omega
  rw [u x1 2 2 (by omega) (by omega) rfl, n2, n2, nI_add]
  have c1 : x1 &&& 858993459 ≤ x1 := Nat.and_le_left
  have c2 : (x1 >>> 2) &&& 858993459 ≤ x1 := Nat.le_trans Nat.and_le_left (Nat.shiftRight_le x1 2)
  generalize hx2 : (x1 &&& 858993459) + ((x1 >>> 2) &&& 858993459) = x2
  rw [u x2 4 4 (by omega) (by omega) rfl, nI_add, n3]
  have c3 : x2 >>> 4 ≤ x2 := Nat.shiftRight_le x2 4
  have c4 : (x2 + x2 >>> 4) &&& 252645135 ≤ x2 + x2 >>> 4 := Nat.and_le_left
  generalize hx3 : (x2 + x2 >>> 4) &&& 252645135 = x3
  rw [u x3 8 8 (by omega) (by omega) rfl, nI_add]
  have c5 : x3 >>> 8 ≤ x3 := Nat.shiftRight_le x3 8
  rw [u (x3 + x3 >>> 8) 16 16 (by omega) (by omega) rfl, nI_add, n4]
theorem bitCount_nI {S : Nat} (hS : S < 16384) : f_J6_bitCount_0f7a4 (nI S) = nI (popc S) := by
  rw [bc_eq hS]
  have := bc_all (S / 128) (by omega) (S % 128) (by omega)
  rw [show S / 128 * 128 + S % 128 = S from by omega] at this
  rw [this]
theorem popG_le (S : Nat) : ∀ k, popG S k ≤ k
  | 0 => Nat.le_refl _
  | k + 1 => by
    have := popG_le S k
    show popG S k + (S >>> k) % 2 ≤ k + 1
    omega
theorem bit_mod2 (S i : Nat) : (S >>> i) % 2 = if S.testBit i then 1 else 0 := by rw [← bit_mod, Nat.and_one_is_mod]
theorem count_nI {S : Nat} (hS : S < 2147483648) : f_X11_count (nI S) = some (nI (popc S)) := by
  unfold f_X11_count
  have h := lp_for (body := fun s : Int32 × Int32 => w_X11_count_4 (nI S) s.1 s.2) (fun k => (nI (popG S k), nI k)) 16 (nI (popc S)) (by
    intro k hk
    unfold w_X11_count_4
    simp only
    rw [if_neg (by
      intro q
      have q : nI 16 ≤ nI k := q
      rw [nI_le_iff (by omega) (by omega)] at q; omega), lt_eq, nI_shr hS (by omega)]
    have e : nI (S >>> k) &&& 1 = nI ((S >>> k) &&& 1) := nI_and _ 1
    rw [e, Nat.and_one_is_mod, nI_add, nI_inc]
    rfl) (by
    unfold w_X11_count_4
    simp only
    rw [if_pos (by decide)]
    rfl) (by omega)
  have h : lp (fun s : Int32 × Int32 => w_X11_count_4 (nI S) s.1 s.2) FU (0, 0) = some (nI (popc S)) := h
  rw [h, b1_some]
/-- the set of the first k places that a test holds of -/
def setG (p : Nat → Bool) : Nat → Nat
  | 0 => 0
  | k + 1 => setG p k ||| (if p k then 2 ^ k else 0)
theorem setG_bit (p : Nat → Bool) : ∀ (k i : Nat), (setG p k).testBit i = (decide (i < k) && p i)
  | 0, i => by simp [setG]
  | k + 1, i => by
    show (setG p k ||| (if p k then 2 ^ k else 0)).testBit i = _
    rw [Nat.testBit_or, setG_bit p k i]
    by_cases h : p k
    · rw [if_pos h, Nat.testBit_two_pow]
      by_cases e : k = i
      · subst e; simp [h]
      · have : (decide (i < k + 1)) = decide (i < k) := by
          apply decide_eq_decide.2; omega
        rw [this]; simp [e]
    · rw [if_neg h]
      by_cases e : k = i
      · subst e; simp [h]
      · have : (decide (i < k + 1)) = decide (i < k) := by
          apply decide_eq_decide.2; omega
        rw [this]; simp
theorem setG_lt (p : Nat → Bool) (k : Nat) : setG p k < 2 ^ k := by
  apply Nat.lt_pow_two_of_testBit
  intro i hi
  rw [setG_bit]
  simp; omega
theorem setG_eq {S k : Nat} (h : S < 2 ^ k) : setG (fun i => S.testBit i) k = S := by
  apply Nat.eq_of_testBit_eq
  intro i
  rw [setG_bit]
  by_cases e : i < k
  · simp [e]
  · have h2 : S.testBit i = false := Nat.testBit_lt_two_pow (Nat.lt_of_lt_of_le h (Nat.pow_le_pow_right (by omega) (by omega)))
    simp [e, h2]
theorem pow2_le {i n : Nat} (h : i ≤ n) : 2 ^ i ≤ 2 ^ n := Nat.pow_le_pow_right (by omega) h
theorem setG_lt31 (p : Nat → Bool) {k : Nat} (h : k ≤ 30) : setG p k < 2147483648 :=
  Nat.lt_of_lt_of_le (setG_lt p k) (Nat.le_trans (pow2_le h) (by decide))
