/-! ===== PURE PART: the tape's words ===== -/
theorem up2_up2 (M : Mem) (a j : Nat) (x y : Int32) : up2 (up2 M a j x) a j y = up2 M a j y := by
  funext b k
  rw [up2_eq, up2_eq, up2_eq]
  by_cases h : b = a ∧ k = j
  · rw [if_pos h, if_pos h]
  · rw [if_neg h, if_neg h, if_neg h]
theorem up2_same {M : Mem} {a j : Nat} {x : Int32} (h : M a j = x) : up2 M a j x = M := by
  funext b k
  rw [up2_eq]
  by_cases e : b = a ∧ k = j
  · rw [if_pos e, e.1, e.2, h]
  · rw [if_neg e]
/-- from p on, so many at most, as long as P holds -/
def rnG (P : Nat → Bool) : Nat → Nat → Nat
  | 0, p => p
  | k + 1, p => if P p then rnG P k (p + 1) else p
def rnT (P : Nat → Bool) (n p : Nat) : Nat := rnG P (n - p) p
theorem rnG_spec (P : Nat → Bool) : ∀ k p, p ≤ rnG P k p ∧ rnG P k p ≤ p + k ∧ (∀ q, p ≤ q → q < rnG P k p → P q = true) ∧ (rnG P k p < p + k → P (rnG P k p) = false)
  | 0, p => ⟨Nat.le_refl _, Nat.le_refl _, fun q h1 h2 => absurd h2 (by show ¬ q < p; omega), fun h => absurd h (by show ¬ p < p + 0; omega)⟩
  | k + 1, p => by
    obtain ⟨h1, h2, h3, h4⟩ := rnG_spec P k (p + 1)
    unfold rnG
    by_cases h : P p
    · rw [if_pos h]
      refine ⟨by omega, by omega, fun q a b => ?_, fun a => h4 (by omega)⟩
      by_cases e : q = p
      · subst e; exact h
      · exact h3 q (by omega) b
    · rw [if_neg h]
      exact ⟨by omega, by omega, fun q a b => absurd b (by omega), fun _ => by simpa using h⟩
theorem rnT_spec (P : Nat → Bool) {n p : Nat} (hp : p ≤ n) : p ≤ rnT P n p ∧ rnT P n p ≤ n ∧ (∀ q, p ≤ q → q < rnT P n p → P q = true) ∧ (rnT P n p < n → P (rnT P n p) = false) := by
  obtain ⟨h1, h2, h3, h4⟩ := rnG_spec P (n - p) p
  exact ⟨h1, by unfold rnT; omega, h3, fun h => h4 (by unfold rnT at h; omega)⟩
theorem rnT_in (P : Nat → Bool) {n p : Nat} (hp : p < n) (h : P p = true) : rnT P n p = rnT P n (p + 1) := by
  unfold rnT
  rw [show n - p = (n - (p + 1)) + 1 from by omega]
  show (if P p then rnG P (n - (p + 1)) (p + 1) else p) = _
  rw [if_pos h]
theorem rnT_out (P : Nat → Bool) {n p : Nat} (h : p < n → P p = false) : rnT P n p = p := by
  unfold rnT
  rcases Nat.lt_or_ge p n with q | q
  · rw [show n - p = (n - (p + 1)) + 1 from by omega]
    show (if P p then rnG P (n - (p + 1)) (p + 1) else p) = _
    rw [if_neg (by rw [h q]; decide)]
  · rw [show n - p = 0 from by omega]; rfl
theorem lp_rn {σ ρ : Type} {body : σ → Option (σ ⊕ ρ)} (st : Nat → σ) (P : Nat → Bool) (n : Nat) (f : Nat → ρ) : ∀ (k p fuel : Nat), n - p = k → p ≤ n → (∀ q, p ≤ q → q < n → P q = true → body (st q) = some (.inl (st (q + 1)))) → (∀ q, p ≤ q → q ≤ n → (q < n → P q = false) → body (st q) = some (.inr (f q))) → k < fuel → lp body fuel (st p) = some (f (rnT P n p))
  | k, p, 0, _, _, _, _, h => absurd h (Nat.not_lt_zero _)
  | 0, p, fuel + 1, hk, hp, h1, h2, _ => by
    rw [rnT_out P (fun h => absurd h (by omega))]
    exact lp_end (h2 p (Nat.le_refl _) hp (fun h => absurd h (by omega)))
  | k + 1, p, fuel + 1, hk, hp, h1, h2, h => by
    by_cases q : P p = true
    · rw [rnT_in P (by omega) q, lp_in (h1 p (Nat.le_refl _) (by omega) q)]
      exact lp_rn st P n f k (p + 1) fuel (by omega) (by omega) (fun j a b c => h1 j (by omega) b c) (fun j a b c => h2 j (by omega) b c) (by omega)
    · have q : P p = false := by simpa using q
      rw [rnT_out P (fun _ => q)]
      exact lp_end (h2 p (Nat.le_refl _) hp (fun _ => q))
def blB (c : Nat) : Bool := c == 32 || c == 10
def leB (c : Nat) : Bool := (decide (97 ≤ c) && decide (c ≤ 122)) || (decide (65 ≤ c) && decide (c ≤ 90))
def diB (c : Nat) : Bool := decide (48 ≤ c) && decide (c ≤ 57)
theorem c_blank : ∀ c, c < 256 → f_X9_isBlank (nI c) = if blB c then 1 else 0 := by decide +kernel
theorem c_letter : ∀ c, c < 256 → f_X9_isLetter (nI c) = if leB c then 1 else 0 := by decide +kernel
theorem c_digit : ∀ c, c < 256 → f_X9_isDigit (nI c) = if diB c then 1 else 0 := by decide +kernel
theorem m_letter : ∀ c, c < 256 → f_X11_isLetter (nI c) = if leB c then 1 else 0 := by decide +kernel
theorem m_digit : ∀ c, c < 256 → f_X11_isDigit (nI c) = if diB c then 1 else 0 := by decide +kernel
theorem m_blank : ∀ c, c < 256 → (blB c = true ↔ (nI c = 32 ∨ nI c = 10)) := by decide +kernel
theorem di_le : ∀ c, c < 256 → diB c = true → leB c = false := by decide +kernel
/-- the bytes of the tape from a to b -/
def bsT (B : Nat → Nat) (a b : Nat) : List Nat := (List.range (b - a)).map (fun j => B (a + j))
def WB : List Nat := [107, 105, 110, 100, 32, 119, 104, 111, 108, 101, 32, 103, 117, 101, 115, 116, 115, 32, 115, 105, 122, 101, 32, 97, 103, 101, 32, 101, 100, 103, 101, 115, 32, 100, 97, 121, 32, 108, 101, 102, 116, 32, 112, 114, 105, 99, 101, 32, 115, 112, 111, 105, 108, 32, 101, 100, 103, 101, 32, 119, 104, 101, 110, 32, 111, 114, 32, 97, 110, 100, 32, 110, 111, 116, 32, 107, 101, 101, 112, 115, 32, 111, 110, 32, 102, 101, 97, 115, 116, 32, 102, 111, 114, 32, 119, 97, 110, 116, 32, 98, 121, 32, 112, 97, 121, 115, 32, 100, 105, 115, 104, 32]
def WD : List (List Nat) := [[107, 105, 110, 100], [119, 104, 111, 108, 101], [103, 117, 101, 115, 116, 115], [115, 105, 122, 101], [97, 103, 101], [101, 100, 103, 101, 115], [100, 97, 121], [108, 101, 102, 116], [112, 114, 105, 99, 101], [115, 112, 111, 105, 108], [101, 100, 103, 101], [119, 104, 101, 110], [111, 114], [97, 110, 100], [110, 111, 116], [107, 101, 101, 112, 115], [111, 110], [102, 101, 97, 115, 116], [102, 111, 114], [119, 97, 110, 116], [98, 121], [112, 97, 121, 115], [100, 105, 115, 104]]
def wdk (k : Nat) : List Nat := WD.getD k []
def wcode (w : List Nat) : Nat := match firstF (fun k => decide (wdk k = w)) 0 23 with
  | some k => 300 + k
  | none => 257
theorem wd_inj : ∀ k, k < 23 → ∀ j, j < 23 → wdk k = wdk j → k = j := by decide +kernel
theorem firstF_none {p : Nat → Bool} : ∀ {n k : Nat}, firstF p k n = none → ∀ j, k ≤ j → j < k + n → p j = false
  | 0, k, _, j, h1, h2 => absurd h2 (by omega)
  | n + 1, k, h, j, h1, h2 => by
    unfold firstF at h
    by_cases q : p k
    · rw [if_pos q] at h; cases h
    · rw [if_neg q] at h
      by_cases e : j = k
      · subst e; simpa using q
      · exact firstF_none h j (by omega) (by omega)
theorem wcode_is {w : List Nat} {k : Nat} (hk : k < 23) : wcode w = 300 + k ↔ wdk k = w := by
  unfold wcode
  cases hf : firstF (fun k => decide (wdk k = w)) 0 23 with
  | none =>
    have := firstF_none hf k (Nat.zero_le _) (by omega)
    have hne : ¬ wdk k = w := by simpa using this
    exact ⟨fun h => absurd h (by show ¬ 257 = 300 + k; omega), fun h => absurd h hne⟩
  | some m =>
    obtain ⟨_, h2, h3⟩ := firstF_lt hf
    have h3 : wdk m = w := by simpa using h3
    constructor
    · intro h
      have h : 300 + m = 300 + k := h
      have : m = k := by omega
      rw [← this]; exact h3
    · intro h
      have : m = k := wd_inj m (by omega) k hk (by rw [h3, h])
      show 300 + m = 300 + k
      rw [this]
theorem wcode_rng (w : List Nat) : wcode w = 257 ∨ ∃ k, k < 23 ∧ wcode w = 300 + k := by
  unfold wcode
  cases hf : firstF (fun k => decide (wdk k = w)) 0 23 with
  | none => exact .inl rfl
  | some m => exact .inr ⟨m, by have := firstF_lt hf; omega, rfl⟩
theorem wcode_none {w : List Nat} (h : ∀ k, k < 23 → wdk k ≠ w) : wcode w = 257 := by
  rcases wcode_rng w with e | ⟨k, hk, e⟩
  · exact e
  · exact absurd ((wcode_is hk).1 e) (h k hk)
theorem bs_eq {B : Nat → Nat} {a b : Nat} {w : List Nat} (hb : b - a = w.length) : w = bsT B a b ↔ ∀ j, j < w.length → w.getD j 0 = B (a + j) := by
  constructor
  · intro h j hj
    rw [h]
    unfold bsT
    rw [List.getD_eq_getElem?_getD, List.getElem?_map, List.getElem?_range (by omega)]
    rfl
  · intro h
    apply List.ext_getElem?
    intro j
    unfold bsT
    rw [List.getElem?_map]
    by_cases hj : j < w.length
    · have := h j hj
      rw [List.getElem?_range (by omega), List.getElem?_eq_getElem hj]
      rw [List.getD_eq_getElem?_getD, List.getElem?_eq_getElem hj] at this
      have this : w[j] = B (a + j) := this
      rw [this]; rfl
    · rw [List.getElem?_eq_none (by omega), List.getElem?_eq_none (by rw [List.length_range]; omega)]; rfl
theorem bs_len (B : Nat → Nat) (a b : Nat) : (bsT B a b).length = b - a := by
  unfold bsT; rw [List.length_map, List.length_range]
