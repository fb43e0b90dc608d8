/-! ===== PURE PART: the words of the programs ===== -/
theorem b1_some {α γ : Type} (a : α) (k : α → Option γ) : b1 (some a) k = k a := rfl
theorem b2_some {α β γ : Type} (a : α) (b : β) (k : α → β → Option γ) : b2 (some (a, b)) k = k a b := rfl
theorem lt_eq {α γ : Type} (a : α) (k : α → γ) : lt a k = k a := rfl
/-- a loop that keeps an invariant and falls comes out, with what its end says -/
theorem lp_ok {σ ρ : Type} {body : σ → Option (σ ⊕ ρ)} {I : σ → Prop} {μ : σ → Nat} {Q : ρ → Prop} (step : ∀ s, I s → (∃ s', body s = some (.inl s') ∧ I s' ∧ μ s' < μ s) ∨ ∃ r, body s = some (.inr r) ∧ Q r) : ∀ (n : Nat) (s : σ), I s → μ s < n → ∃ r, lp body n s = some r ∧ Q r
  | 0, s, _, h => absurd h (Nat.not_lt_zero _)
  | n + 1, s, hI, h => by
    rcases step s hI with ⟨s', hb, hI', hm⟩ | ⟨r, hb, hq⟩
    · obtain ⟨r, h1, h2⟩ := lp_ok step n s' hI' (by omega)
      refine ⟨r, ?_, h2⟩
      unfold lp
      rw [hb]
      exact h1
    · refine ⟨r, ?_, hq⟩
      unfold lp
      rw [hb]
theorem lp_FU {σ ρ : Type} {body : σ → Option (σ ⊕ ρ)} {I : σ → Prop} {μ : σ → Nat} {Q : ρ → Prop} (step : ∀ s, I s → (∃ s', body s = some (.inl s') ∧ I s' ∧ μ s' < μ s) ∨ ∃ r, body s = some (.inr r) ∧ Q r) (s : σ) (hI : I s) (h : μ s < 1000000) : ∃ r, lp body FU s = some r ∧ Q r := lp_ok step FU s hI h
theorem up2_at (M : Mem) (a j : Nat) (x : Int32) : up2 M a j x a j = x := by simp [up2, upd]
theorem up2_cell (M : Mem) {a b : Nat} (j : Nat) (x : Int32) (h : b ≠ a) : up2 M a j x b = M b := by simp [up2, h]
theorem up2_slot (M : Mem) (a : Nat) {j k : Nat} (x : Int32) (h : k ≠ j) : up2 M a j x a k = M a k := by simp [up2, upd, h]
theorem inb_nI {k n : Nat} (h : k < n) (hn : n < 2 ^ 31) : inb (nI k) n = true := by
  unfold inb
  rw [nI_toInt (by omega)]
  simp [h]
theorem rd_nI {M : Mem} {a n k : Nat} (hl : la a = some n) (h : k < n) (hn : n < 2 ^ 31) : rd M a (nI k) = some (M a k) := rd_lit hl (inb_nI h hn) (nI_clamp (by omega))
theorem wr_nI {M : Mem} {a n k : Nat} {x : Int32} (hl : la a = some n) (h : k < n) (hn : n < 2 ^ 31) : wr M a (nI k) x = some (up2 M a k x) := wr_lit hl (inb_nI h hn) (nI_clamp (by omega))
