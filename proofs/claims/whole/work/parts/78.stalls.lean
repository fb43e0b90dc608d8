/-! ===== PURE PART: stalls, as sets ===== -/
def zS (z : Nat → Nat) (S : Nat) : Nat → Nat
  | 0 => 0
  | k + 1 => zS z S k + (if S.testBit k then z k else 0)
def sbs (T S : Nat) : Prop := ∀ i, T.testBit i = true → S.testBit i = true
theorem bit_clear (S p i : Nat) : (S ^^^ 2 ^ p).testBit i = if i = p then !S.testBit p else S.testBit i := by
  rw [Nat.testBit_xor, Nat.testBit_two_pow]
  by_cases h : i = p
  · subst h; simp
  · have : ¬ p = i := fun e => h e.symm
    simp [h, this]
theorem bit_lt {S n p : Nat} (h : S < 2 ^ n) (hb : S.testBit p = true) : p < n := by
  rcases Nat.lt_or_ge p n with z | z
  · exact z
  · rw [Nat.testBit_lt_two_pow (Nat.lt_of_lt_of_le h (pow2_le z))] at hb; cases hb
theorem zS_congr {z : Nat → Nat} {S S' : Nat} : ∀ n, (∀ i, i < n → S.testBit i = S'.testBit i) → zS z S n = zS z S' n
  | 0, _ => rfl
  | n + 1, h => by
    show zS z S n + (if S.testBit n then z n else 0) = zS z S' n + (if S'.testBit n then z n else 0)
    rw [zS_congr n (fun i hi => h i (by omega)), h n (by omega)]
theorem zS_clear {z : Nat → Nat} {S p : Nat} (hb : S.testBit p = true) : ∀ n, p < n → zS z S n = zS z (S ^^^ 2 ^ p) n + z p
  | 0, h => absurd h (Nat.not_lt_zero _)
  | n + 1, h => by
    show zS z S n + (if S.testBit n then z n else 0) = zS z (S ^^^ 2 ^ p) n + (if (S ^^^ 2 ^ p).testBit n then z n else 0) + z p
    by_cases e : p = n
    · subst e
      rw [hb, bit_clear, if_pos rfl, hb, zS_congr p (S' := S ^^^ 2 ^ p) (fun i hi => by rw [bit_clear, if_neg (by omega)])]
      simp
    · have hbn : (S ^^^ 2 ^ p).testBit n = S.testBit n := by rw [bit_clear, if_neg (fun q : n = p => e q.symm)]
      rw [zS_clear hb n (by omega), hbn]
      omega
theorem zS_zero (z : Nat → Nat) : ∀ n, zS z 0 n = 0
  | 0 => rfl
  | n + 1 => by
    show zS z 0 n + (if (0 : Nat).testBit n then z n else 0) = 0
    rw [zS_zero z n]; simp
theorem xor_self_pow (p : Nat) : 2 ^ p ^^^ 2 ^ p = 0 := Nat.xor_self _
theorem zS_one {z : Nat → Nat} {n p : Nat} (hp : p < n) : zS z (2 ^ p) n = z p := by
  rw [zS_clear (p := p) (by rw [Nat.testBit_two_pow]; simp) n hp, xor_self_pow, zS_zero, Nat.zero_add]
theorem zS_split {z : Nat → Nat} {S T : Nat} (h : sbs T S) : ∀ n, zS z S n = zS z T n + zS z (S ^^^ T) n
  | 0 => rfl
  | n + 1 => by
    show zS z S n + (if S.testBit n then z n else 0) = (zS z T n + (if T.testBit n then z n else 0)) + (zS z (S ^^^ T) n + (if (S ^^^ T).testBit n then z n else 0))
    rw [zS_split h n, Nat.testBit_xor]
    cases ht : T.testBit n with
    | true => rw [h n ht]; simp; omega
    | false =>
      cases S.testBit n with
      | true => simp; omega
      | false => simp
theorem xor_lt {S p n : Nat} (h : S < 2 ^ n) (hp : p < n) : S ^^^ 2 ^ p < 2 ^ n := Nat.xor_lt_two_pow h (Nat.pow_lt_pow_right (by omega) hp)
def stp (c b f z : Nat) : Nat × Nat := if f + z ≤ c then (b, f + z) else (b + 1, z)
def lxl (x y : Nat × Nat) : Prop := x.1 < y.1 ∨ (x.1 = y.1 ∧ x.2 ≤ y.2)
theorem lxl.trans {x y w : Nat × Nat} (h : lxl x y) (h2 : lxl y w) : lxl x w := by
  unfold lxl at *
  omega
theorem stp_lxl {c b f z k g : Nat} (h : lxl (b, f) (k, g)) (hg : g + z ≤ c) : lxl (stp c b f z) (k, g + z) := by
  unfold lxl stp at *
  simp only at h
  by_cases e : f + z ≤ c
  · rw [if_pos e]; simp only; omega
  · rw [if_neg e]; simp only; omega
def vld (n c : Nat) (z : Nat → Nat) (S T : Nat) : Prop := sbs T S ∧ T ≠ 0 ∧ zS z T n ≤ c
def okR (n c : Nat) (z : Nat → Nat) (R : Nat → Nat) (S : Nat) : Prop := (∀ T, vld n c z S T → R S ≤ 1 + R (S ^^^ T)) ∧ (R S = 100000 ∨ ∃ T, vld n c z S T ∧ R S = 1 + R (S ^^^ T)) ∧ R S ≤ 100000
def okD (c : Nat) (z b f : Nat → Nat) (S : Nat) : Prop := (∀ p, S.testBit p = true → lxl (b S, f S) (stp c (b (S ^^^ 2 ^ p)) (f (S ^^^ 2 ^ p)) (z p))) ∧ ∃ p, S.testBit p = true ∧ (b S, f S) = stp c (b (S ^^^ 2 ^ p)) (f (S ^^^ 2 ^ p)) (z p)
theorem xor_ne {S T : Nat} (h : S ^^^ T = 0) : S = T := by
  apply Nat.eq_of_testBit_eq
  intro i
  have := congrArg (fun x => x.testBit i) h
  simp only [Nat.testBit_xor, Nat.zero_testBit] at this
  cases h1 : S.testBit i <;> cases h2 : T.testBit i <;> simp [h1, h2] at this <;> rfl
section STL
variable {n c : Nat} {z R b f : Nat → Nat}
theorem stalls_main (hn : n ≤ 10) (hz : ∀ p, p < n → 1 ≤ z p ∧ z p ≤ c) (hR0 : R 0 = 0) (hR : ∀ S, S ≠ 0 → S < 2 ^ n → okR n c z R S) (hb0 : b 0 = 0) (hf0 : f 0 = c) (hD : ∀ S, S ≠ 0 → S < 2 ^ n → okD c z b f S) : ∀ (m S : Nat), S < 2 ^ n → zS (fun _ => 1) S n ≤ m → b S = R S ∧ R S ≤ zS (fun _ => 1) S n ∧ (S ≠ 0 → (∃ T, vld n c z S T ∧ b S = 1 + R (S ^^^ T) ∧ f S = zS z T n) ∧ ∀ T, vld n c z S T → lxl (b S, f S) (1 + R (S ^^^ T), zS z T n)) := by
  intro m
  induction m with
  | zero =>
    intro S hS hc
    have : S = 0 := by
      by_cases e : S = 0
      · exact e
      · obtain ⟨p, hp⟩ := Nat.exists_testBit_of_ne_zero e
        have := zS_clear (z := fun _ => 1) hp n (bit_lt hS hp)
        omega
    subst this
    exact ⟨by rw [hb0, hR0], by rw [hR0]; exact Nat.zero_le _, fun h => absurd rfl h⟩
  | succ m ih =>
    intro S hS hc
    by_cases e : S = 0
    · subst e
      exact ⟨by rw [hb0, hR0], by rw [hR0]; exact Nat.zero_le _, fun h => absurd rfl h⟩
    · have hcn : zS (fun _ => 1) S n ≤ n := by
        have : ∀ k, zS (fun _ => 1) S k ≤ k := by
          intro k
          induction k with
          | zero => exact Nat.le_refl _
          | succ k ih2 =>
            show zS (fun _ => 1) S k + (if S.testBit k then 1 else 0) ≤ k + 1
            split <;> omega
        exact this n
      have sub : ∀ p, S.testBit p = true → p < n ∧ S ^^^ 2 ^ p < 2 ^ n ∧ zS (fun _ => 1) S n = zS (fun _ => 1) (S ^^^ 2 ^ p) n + 1 := by
        intro p hp
        have hpn := bit_lt hS hp
        exact ⟨hpn, xor_lt hS hpn, zS_clear (z := fun _ => 1) hp n hpn⟩
      have IH : ∀ p, S.testBit p = true → _ := fun p hp => ih (S ^^^ 2 ^ p) (sub p hp).2.1 (by have := (sub p hp).2.2; omega)
      obtain ⟨hR1, hR2, hR3⟩ := hR S e hS
      obtain ⟨hD1, hD2⟩ := hD S e hS
      have hB : ∀ T, vld n c z S T → lxl (b S, f S) (1 + R (S ^^^ T), zS z T n) := by
        rintro T ⟨v1, v2, v3⟩
        obtain ⟨p, hp⟩ := Nat.exists_testBit_of_ne_zero v2
        have hpS := v1 p hp
        obtain ⟨hpn, s1, s2⟩ := sub p hpS
        obtain ⟨i1, i2, i3⟩ := IH p hpS
        have hsum := zS_clear (z := z) hp n hpn
        have hx : (S ^^^ 2 ^ p) ^^^ (T ^^^ 2 ^ p) = S ^^^ T := by
          apply Nat.eq_of_testBit_eq
          intro i
          simp only [Nat.testBit_xor]
          cases S.testBit i <;> cases T.testBit i <;> cases (2 ^ p).testBit i <;> rfl
        refine (hD1 p hpS).trans ?_
        by_cases eT : T ^^^ 2 ^ p = 0
        · have : T = 2 ^ p := xor_ne eT
          rw [this, zS_one hpn]
          have hx2 : 1 ≤ z p := (hz p hpn).1
          unfold lxl stp
          by_cases q : f (S ^^^ 2 ^ p) + z p ≤ c
          · rw [if_pos q]; simp only; left; omega
          · rw [if_neg q]; simp only; right; omega
        · have hT' : sbs (T ^^^ 2 ^ p) (S ^^^ 2 ^ p) := by
            intro i hi
            rw [bit_clear] at hi ⊢
            by_cases q : i = p
            · rw [if_pos q, hp] at hi; cases hi
            · rw [if_neg q] at hi ⊢; exact v1 i hi
          have hS' : S ^^^ 2 ^ p ≠ 0 := by
            intro q
            obtain ⟨i, hi⟩ := Nat.exists_testBit_of_ne_zero eT
            have := hT' i hi
            rw [q] at this
            simp at this
          have := (i3 hS').2 (T ^^^ 2 ^ p) ⟨hT', eT, by omega⟩
          rw [hx] at this
          have := stp_lxl (c := c) (z := z p) this (by omega)
          rw [← hsum] at this
          exact this
      have hAA : ∃ T, vld n c z S T ∧ b S = 1 + R (S ^^^ T) ∧ f S = zS z T n := by
        obtain ⟨p, hp, hst⟩ := hD2
        obtain ⟨hpn, s1, s2⟩ := sub p hp
        obtain ⟨i1, i2, i3⟩ := IH p hp
        have hzp := hz p hpn
        have one : vld n c z S (2 ^ p) := by
          refine ⟨fun i hi => ?_, fun q => ?_, by rw [zS_one hpn]; exact hzp.2⟩
          · rw [Nat.testBit_two_pow] at hi
            have : p = i := by simpa using hi
            rw [← this]; exact hp
          · have := Nat.pow_pos (n := p) (show 0 < 2 by omega)
            omega
        unfold stp at hst
        by_cases q : f (S ^^^ 2 ^ p) + z p ≤ c
        · rw [if_pos q] at hst
          have h1 : b S = b (S ^^^ 2 ^ p) := congrArg Prod.fst hst
          have h2 : f S = f (S ^^^ 2 ^ p) + z p := congrArg Prod.snd hst
          have hS' : S ^^^ 2 ^ p ≠ 0 := by
            intro y
            rw [y, hf0] at q
            omega
          obtain ⟨⟨T, ⟨v1, v2, v3⟩, w1, w2⟩, _⟩ := i3 hS'
          have hTp : T.testBit p = false := by
            cases y : T.testBit p with
            | false => rfl
            | true =>
              have := v1 p y
              rw [bit_clear, if_pos rfl, hp] at this
              cases this
          have hTT : (T ^^^ 2 ^ p).testBit p = true := by rw [bit_clear, if_pos rfl, hTp]; rfl
          have hback : (T ^^^ 2 ^ p) ^^^ 2 ^ p = T := by
            apply Nat.eq_of_testBit_eq
            intro i
            simp only [Nat.testBit_xor]
            cases T.testBit i <;> cases (2 ^ p).testBit i <;> rfl
          have hsum := zS_clear (z := z) hTT n hpn
          rw [hback] at hsum
          have hx : S ^^^ (T ^^^ 2 ^ p) = (S ^^^ 2 ^ p) ^^^ T := by
            apply Nat.eq_of_testBit_eq
            intro i
            simp only [Nat.testBit_xor]
            cases S.testBit i <;> cases T.testBit i <;> cases (2 ^ p).testBit i <;> rfl
          refine ⟨T ^^^ 2 ^ p, ⟨fun i hi => ?_, fun y => ?_, by omega⟩, by rw [hx, h1]; exact w1, by omega⟩
          · rw [bit_clear] at hi
            by_cases y : i = p
            · rw [y]; exact hp
            · rw [if_neg y] at hi
              have := v1 i hi
              rw [bit_clear, if_neg y] at this
              exact this
          · rw [y] at hTT
            simp at hTT
        · rw [if_neg q] at hst
          have h1 : b S = b (S ^^^ 2 ^ p) + 1 := congrArg Prod.fst hst
          have h2 : f S = z p := congrArg Prod.snd hst
          exact ⟨2 ^ p, one, by omega, by rw [zS_one hpn]; exact h2⟩
      have hcnt : R S ≤ zS (fun _ => 1) S n := by
        obtain ⟨p, hp⟩ := Nat.exists_testBit_of_ne_zero e
        obtain ⟨hpn, s1, s2⟩ := sub p hp
        obtain ⟨i1, i2, i3⟩ := IH p hp
        have hzp := hz p hpn
        have := hR1 (2 ^ p) ⟨fun i hi => by
          rw [Nat.testBit_two_pow] at hi
          have : p = i := by simpa using hi
          rw [← this]; exact hp, by have := Nat.pow_pos (n := p) (show 0 < 2 by omega); omega, by rw [zS_one hpn]; exact hzp.2⟩
        omega
      refine ⟨?_, hcnt, fun _ => ⟨hAA, hB⟩⟩
      obtain ⟨T, v, w1, w2⟩ := hAA
      have g1 := hR1 T v
      rcases hR2 with y | ⟨T2, v2, y⟩
      · omega
      · have := hB T2 v2
        unfold lxl at this
        simp only at this
        omega
/-- one that is too large for a stall -/
theorem stalls_far (hR : ∀ S, S ≠ 0 → S < 2 ^ n → okR n c z R S) {p : Nat} (hp : p < n) (hzp : c < z p) : ∀ (m S : Nat), S < 2 ^ n → zS (fun _ => 1) S n ≤ m → S.testBit p = true → 100000 ≤ R S := by
  intro m
  induction m with
  | zero =>
    intro S hS hc hb
    have := zS_clear (z := fun _ => 1) hb n hp
    omega
  | succ m ih =>
    intro S hS hc hb
    have e : S ≠ 0 := by
      rintro rfl
      simp at hb
    obtain ⟨_, hR2, _⟩ := hR S e hS
    rcases hR2 with y | ⟨T, ⟨v1, v2, v3⟩, y⟩
    · omega
    · obtain ⟨q, hq⟩ := Nat.exists_testBit_of_ne_zero v2
      have hTS : T < 2 ^ n := by
        apply Nat.lt_pow_two_of_testBit
        intro i hi
        cases w : T.testBit i with
        | false => rfl
        | true => exact absurd (bit_lt hS (v1 i w)) (by omega)
      have hqn := bit_lt hTS hq
      have h1 := zS_split (z := fun _ => 1) v1 n
      have h2 := zS_clear (z := fun _ => 1) hq n hqn
      have hTp : T.testBit p = false := by
        cases w : T.testBit p with
        | false => rfl
        | true =>
          have := zS_clear (z := z) w n hp
          omega
      have := ih (S ^^^ T) (Nat.xor_lt_two_pow hS hTS) (by omega) (by rw [Nat.testBit_xor, hb, hTp]; rfl)
      omega
end STL
/-! the next smaller part of a set -/
theorem and_sub_le : ∀ (x S T : Nat), x &&& S = x → T &&& S = T → T < x → T ≤ (x - 1) &&& S := by
  intro x
  induction x using Nat.strongRecOn with
  | ind x ih =>
    intro S T hx hT hlt
    have hx2 : x / 2 &&& S / 2 = x / 2 := by rw [← Nat.and_div_two, hx]
    have hT2 : T / 2 &&& S / 2 = T / 2 := by rw [← Nat.and_div_two, hT]
    have hTm : T % 2 = 1 → S % 2 = 1 := fun h => (Nat.and_mod_two_eq_one.1 (by rw [hT]; exact h)).2
    have hxm : x % 2 = 1 → S % 2 = 1 := fun h => (Nat.and_mod_two_eq_one.1 (by rw [hx]; exact h)).2
    have d1 : ((x - 1) &&& S) / 2 = (x - 1) / 2 &&& S / 2 := Nat.and_div_two
    have d2 : ((x - 1) &&& S) % 2 = 1 ↔ (x - 1) % 2 = 1 ∧ S % 2 = 1 := Nat.and_mod_two_eq_one
    by_cases h : x % 2 = 1
    · have e1 : (x - 1) / 2 = x / 2 := by omega
      rw [e1, hx2] at d1
      omega
    · have e1 : (x - 1) / 2 = x / 2 - 1 := by omega
      rw [e1] at d1
      have := ih (x / 2) (by omega) (S / 2) (T / 2) hx2 hT2
      rcases Nat.lt_or_ge (T / 2) (x / 2) with q | q
      · have := this q
        have e2 : (x - 1) % 2 = 1 := by omega
        by_cases hs : S % 2 = 1
        · have := d2.2 ⟨e2, hs⟩
          omega
        · have ht : T % 2 = 0 := by
            by_cases y : T % 2 = 1
            · exact absurd (hTm y) hs
            · omega
          omega
      · omega
theorem sbs_and {T S : Nat} (h : sbs T S) : T &&& S = T := by
  apply Nat.eq_of_testBit_eq
  intro i
  rw [Nat.testBit_and]
  cases ht : T.testBit i with
  | false => rfl
  | true => rw [h i ht]; rfl
theorem and_sbs (X S : Nat) : sbs (X &&& S) S := by
  intro i hi
  rw [Nat.testBit_and] at hi
  simp at hi
  exact hi.2
theorem xor_sub_lt {S T : Nat} (h : sbs T S) (h0 : T ≠ 0) : S ^^^ T < S := by
  have h1 : sbs (S ^^^ T) S := by
    intro i hi
    rw [Nat.testBit_xor] at hi
    cases hs : S.testBit i with
    | true => rfl
    | false =>
      cases ht : T.testBit i with
      | true => rw [h i ht] at hs; cases hs
      | false => rw [hs, ht] at hi; cases hi
  have h2 : S ^^^ T ≤ S := by
    have := sbs_and h1
    rw [← this]
    exact Nat.and_le_right
  rcases Nat.lt_or_ge (S ^^^ T) S with y | y
  · exact y
  · have e : S ^^^ T = S := by omega
    exfalso
    apply h0
    apply Nat.eq_of_testBit_eq
    intro i
    have := congrArg (fun x => x.testBit i) e
    simp only [Nat.testBit_xor] at this
    cases ht : T.testBit i with
    | false => simp
    | true =>
      rw [ht, h i ht] at this
      cases this
theorem nI_andnot {S T : Nat} (hS : S < 2147483648) (hT : T < 2147483648) (h : sbs T S) : nI S &&& (nI T ^^^ (-1)) = nI (S ^^^ T) := by
  apply Int32.toBitVec_inj.1
  show BitVec.ofNat 32 S &&& (BitVec.ofNat 32 T ^^^ BitVec.allOnes 32) = BitVec.ofNat 32 (S ^^^ T)
  rw [BitVec.xor_allOnes]
  apply BitVec.eq_of_getLsbD_eq
  intro i hi
  simp only [BitVec.getLsbD_and, BitVec.getLsbD_not, BitVec.getLsbD_ofNat, Nat.testBit_xor]
  cases ht : T.testBit i with
  | true => rw [h i ht]; simp [hi]
  | false => simp [hi]
