/-! ===== PURE PART: numbers, runs, loops ===== -/
theorem nI_lt_iff {a b : Nat} (ha : a < 2147483648) (hb : b < 2147483648) : nI a < nI b ↔ a < b := by
  rw [Int32.lt_iff_toInt_lt, nI_toInt (by omega), nI_toInt (by omega)]; omega
theorem nI_le_iff {a b : Nat} (ha : a < 2147483648) (hb : b < 2147483648) : nI a ≤ nI b ↔ a ≤ b := by
  rw [Int32.le_iff_toInt_le, nI_toInt (by omega), nI_toInt (by omega)]; omega
theorem nI_eq_iff {a b : Nat} (ha : a < 2147483648) (hb : b < 2147483648) : nI a = nI b ↔ a = b := by
  constructor
  · intro h
    have := congrArg Int32.toInt h
    rw [nI_toInt (by omega), nI_toInt (by omega)] at this; omega
  · rintro rfl; rfl
theorem nI_mul (a b : Nat) : nI a * nI b = nI (a * b) := (Int32.ofNat_mul a b).symm
theorem nI_sub {a b : Nat} (h : b ≤ a) : nI a - nI b = nI (a - b) := (Int32.ofNat_sub a b h).symm
theorem nI_ofI {x : Int32} (h : 0 ≤ x.toInt) : x = nI x.toInt.toNat := by
  apply Int32.toInt_inj.1
  have := x.toInt_lt
  rw [nI_toInt (by omega)]; omega
theorem toInt_0 : (0 : Int32).toInt = 0 := by decide
theorem toInt_m1 : (-1 : Int32).toInt = -1 := by decide
/-- a number from 0 on below n is one of the first n -/
theorem nI_below {x : Int32} {n : Nat} (h0 : 0 ≤ x) (h : x < nI n) (hn : n < 2147483648) : ∃ k, k < n ∧ x = nI k := by
  rw [Int32.le_iff_toInt_le, toInt_0] at h0
  rw [Int32.lt_iff_toInt_lt, nI_toInt (by omega)] at h
  exact ⟨x.toInt.toNat, by omega, nI_ofI h0⟩
theorem nI_dec {a : Nat} (h : 0 < a) : nI a + (-1) = nI (a - 1) := by
  have : nI a = nI (a - 1) + nI 1 := by rw [nI_add]; congr 1; omega
  rw [this, Int32.add_assoc]
  have e : nI 1 + (-1) = (0 : Int32) := by decide
  rw [e, Int32.add_zero]
theorem nI_dec' {a : Nat} (h : 0 < a) : nI a - 1 = nI (a - 1) := nI_sub (b := 1) h
theorem nI_inc (a : Nat) : nI a + 1 = nI (a + 1) := (nI_succ a).symm
theorem nI_neg1 {a : Nat} (h : a < 2147483648) : nI a ≠ -1 := by
  intro e
  have := congrArg Int32.toInt e
  rw [nI_toInt (by omega), toInt_m1] at this; omega
theorem nI_nneg {a : Nat} (h : a < 2147483648) : ¬ nI a < 0 := nI_pos (by omega)
theorem neg1_lt : (-1 : Int32) < 0 := by decide
/-! runs that come out -/
def Wq {α : Type} (x : Option α) (Q : α → Prop) : Prop := ∃ a, x = some a ∧ Q a
section WQ
variable {α β γ : Type} {Q : γ → Prop}
theorem wq_b1 {x : Option α} {k : α → Option γ} {P : α → Prop} (h : Wq x P) (hk : ∀ a, P a → Wq (k a) Q) : Wq (b1 x k) Q := by
  obtain ⟨a, rfl, h⟩ := h; exact hk a h
theorem wq_b2 {x : Option (α × β)} {k : α → β → Option γ} {P : α × β → Prop} (h : Wq x P) (hk : ∀ a b, P (a, b) → Wq (k a b) Q) : Wq (b2 x k) Q := by
  obtain ⟨⟨a, b⟩, rfl, h⟩ := h; exact hk a b h
theorem wq_b1e {x : Option α} {k : α → Option γ} {a : α} (e : x = some a) (h : Wq (k a) Q) : Wq (b1 x k) Q := by subst e; exact h
theorem wq_b2e {x : Option (α × β)} {k : α → β → Option γ} {a : α} {b : β} (e : x = some (a, b)) (h : Wq (k a b) Q) : Wq (b2 x k) Q := by subst e; exact h
theorem wq_some {a : γ} (h : Q a) : Wq (some a) Q := ⟨a, rfl, h⟩
theorem wq_lt {a : α} {k : α → Option γ} (h : Wq (k a) Q) : Wq (lt a k) Q := h
theorem wq_if {c : Prop} [Decidable c] {x y : Option γ} (h1 : c → Wq x Q) (h2 : ¬ c → Wq y Q) : Wq (if c then x else y) Q := by
  by_cases h : c
  · rw [if_pos h]; exact h1 h
  · rw [if_neg h]; exact h2 h
theorem wq_pos {c : Prop} [Decidable c] {x y : Option γ} (hc : c) (h : Wq x Q) : Wq (if c then x else y) Q := by rw [if_pos hc]; exact h
theorem wq_neg {c : Prop} [Decidable c] {x y : Option γ} (hc : ¬ c) (h : Wq y Q) : Wq (if c then x else y) Q := by rw [if_neg hc]; exact h
theorem wq_mono {x : Option γ} {P : γ → Prop} (h : Wq x P) (hq : ∀ a, P a → Q a) : Wq x Q := by
  obtain ⟨a, e, h⟩ := h; exact ⟨a, e, hq a h⟩
theorem wq_eq {x : Option γ} {a : γ} (e : x = some a) (h : Q a) : Wq x Q := ⟨a, e, h⟩
end WQ
/-- a loop that goes through known states -/
theorem lp_st {σ ρ : Type} {body : σ → Option (σ ⊕ ρ)} (st : Nat → σ) (r : ρ) : ∀ (m n k : Nat), (∀ j, k ≤ j → j < k + n → body (st j) = some (.inl (st (j + 1)))) → body (st (k + n)) = some (.inr r) → n < m → lp body m (st k) = some r
  | 0, n, k, _, _, h => absurd h (Nat.not_lt_zero _)
  | m + 1, 0, k, h1, h2, h => by unfold lp; rw [Nat.add_zero] at h2; rw [h2]
  | m + 1, n + 1, k, h1, h2, h => by
    unfold lp
    rw [h1 k (Nat.le_refl _) (by omega)]
    exact lp_st st r m n (k + 1) (fun j a b => h1 j (by omega) (by omega)) (by rw [← h2]; congr 2; omega) (by omega)
theorem lp_for {σ ρ : Type} {body : σ → Option (σ ⊕ ρ)} (st : Nat → σ) (n : Nat) (r : ρ) (h1 : ∀ j, j < n → body (st j) = some (.inl (st (j + 1)))) (h2 : body (st n) = some (.inr r)) (hn : n < 1000000) : lp body FU (st 0) = some r :=
  lp_st st r FU n 0 (fun j _ b => h1 j (by omega)) (by rw [Nat.zero_add]; exact h2) hn
/-- a loop with an invariant that is counted -/
theorem lp_inv {σ ρ : Type} {body : σ → Option (σ ⊕ ρ)} (I : Nat → σ → Prop) (n : Nat) {Q : ρ → Prop} (step : ∀ k s, k ≤ n → I k s → (k < n ∧ ∃ s', body s = some (.inl s') ∧ I (k + 1) s') ∨ ∃ r, body s = some (.inr r) ∧ Q r) (s : σ) (h0 : I 0 s) (hn : n < 1000000) : Wq (lp body FU s) Q := by
  have key : ∀ (m : Nat) (k : Nat) (s : σ), k ≤ n → I k s → n - k < m → ∃ r, lp body m s = some r ∧ Q r := by
    intro m
    induction m with
    | zero => intro k s _ _ h; exact absurd h (Nat.not_lt_zero _)
    | succ m ih =>
      intro k s hk hI hm
      rcases step k s hk hI with ⟨hl, s', hb, hI'⟩ | ⟨r, hb, hq⟩
      · obtain ⟨r, h1, h2⟩ := ih (k + 1) s' (by omega) hI' (by omega)
        refine ⟨r, ?_, h2⟩
        unfold lp; rw [hb]; exact h1
      · refine ⟨r, ?_, hq⟩
        unfold lp; rw [hb]
  exact key FU 0 s (Nat.zero_le _) h0 (by unfold FU; omega)
/-- a loop of so many turns, with an invariant -/
theorem lp_to {σ ρ : Type} {body : σ → Option (σ ⊕ ρ)} (I : Nat → σ → Prop) (n : Nat) {Q : ρ → Prop} (step : ∀ k s, k < n → I k s → ∃ s', body s = some (.inl s') ∧ I (k + 1) s') (last : ∀ s, I n s → ∃ r, body s = some (.inr r) ∧ Q r) (s : σ) (h0 : I 0 s) (hn : n < 1000000) : Wq (lp body FU s) Q :=
  lp_inv I n (fun k s hk hI => by
    rcases Nat.lt_or_ge k n with h | h
    · exact .inl ⟨h, step k s h hI⟩
    · have : k = n := by omega
      subst this
      exact .inr (last s hI)) s h0 hn
/-! memory: cells that stand -/
/-- all cells but those of a block stand -/
def Out (lo hi : Nat) (M M' : Mem) : Prop := ∀ a, (a < lo ∨ hi ≤ a) → M' a = M a
theorem Out.refl (lo hi : Nat) (M : Mem) : Out lo hi M M := fun _ _ => rfl
theorem Out.trans {lo hi : Nat} {M M1 M2 : Mem} (h : Out lo hi M M1) (h2 : Out lo hi M1 M2) : Out lo hi M M2 := fun a ha => (h2 a ha).trans (h a ha)
theorem Out.wide {lo hi lo' hi' : Nat} {M M1 : Mem} (h : Out lo hi M M1) (h1 : lo' ≤ lo) (h2 : hi ≤ hi') : Out lo' hi' M M1 := fun a ha => h a (by omega)
theorem Out.up {lo hi : Nat} {M M1 : Mem} {a j : Nat} {x : Int32} (h : Out lo hi M M1) (h1 : lo ≤ a) (h2 : a < hi) : Out lo hi M (up2 M1 a j x) := fun b hb => by
  rw [up2_cell _ _ _ (by omega)]; exact h b hb
theorem up2_eq (M : Mem) (a j b k : Nat) (x : Int32) : up2 M a j x b k = if b = a ∧ k = j then x else M b k := by
  by_cases h : b = a
  · subst h
    by_cases h2 : k = j
    · subst h2; simp [up2_at]
    · simp [h2, up2_slot]
  · simp [h, up2_cell]
