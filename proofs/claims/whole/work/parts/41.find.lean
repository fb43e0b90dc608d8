/-! ===== PURE PART: the fewest remains, as sets ===== -/
def inI (pl : Nat → Nat) (L S : Nat) : Prop := ∀ i, S.testBit i = true → ∃ j, j < L ∧ pl j = i
def cI (pl : Nat → Nat) (S : Nat) : Nat → Nat := cntG (fun j => S.testBit (pl j))
def sI (pl sz : Nat → Nat) (S : Nat) : Nat → Nat
  | 0 => 0
  | L + 1 => sI pl sz S L + (if S.testBit (pl L) then sz L else 0)
def fullS (pl sz : Nat → Nat) (tg : Nat) : Nat → Nat → Nat → Nat → Nat × Nat → Nat × Nat
  | 0, m, sum, set, b => if m = 0 then (if tg ≤ sum ∧ sum < b.1 then (sum, set) else b) else b
  | L + 1, m, sum, set, b => if m = 0 then (if tg ≤ sum ∧ sum < b.1 then (sum, set) else b) else fullS pl sz tg L (m - 1) (sum + sz L) (set + 2 ^ pl L) (fullS pl sz tg L m sum set b)
def upto (pl : Nat → Nat) (c : Nat) : Prop := ∀ j j', j < j' → j' < c → pl j < pl j'
section FND
variable {pl sz : Nat → Nat} {tg : Nat}
theorem inI_lt {L S c : Nat} (h : inI pl L S) (hu : upto pl c) (hL : L < c) : S < 2 ^ pl L := by
  apply Nat.lt_pow_two_of_testBit
  intro i hi
  cases hb : S.testBit i with
  | false => rfl
  | true =>
    obtain ⟨j, hj, e⟩ := h i hb
    have := hu j L hj hL
    omega
theorem bit_add {S p i : Nat} (hS : S < 2 ^ p) : (S + 2 ^ p).testBit i = (S.testBit i || decide (i = p)) := by
  rw [Nat.add_comm]
  rcases Nat.lt_trichotomy i p with h | h | h
  · rw [Nat.testBit_two_pow_add_gt h]
    have : decide (i = p) = false := by simp; omega
    rw [this, Bool.or_false]
  · subst h
    rw [Nat.testBit_two_pow_add_eq, Nat.testBit_lt_two_pow hS]; simp
  · have h1 : 2 ^ p + S < 2 ^ i := by
      have : 2 ^ (p + 1) ≤ 2 ^ i := pow2_le h
      rw [Nat.pow_succ] at this
      omega
    have h2 : S < 2 ^ i := by omega
    rw [Nat.testBit_lt_two_pow h1, Nat.testBit_lt_two_pow h2]
    have : decide (i = p) = false := by simp; omega
    rw [this]; rfl
theorem cI_congr {S S' : Nat} : ∀ L, (∀ j, j < L → S.testBit (pl j) = S'.testBit (pl j)) → cI pl S L = cI pl S' L ∧ sI pl sz S L = sI pl sz S' L
  | 0, _ => ⟨rfl, rfl⟩
  | L + 1, h => by
    obtain ⟨h1, h2⟩ := cI_congr (S := S) (S' := S') L (fun j hj => h j (by omega))
    constructor
    · show cI pl S L + (if S.testBit (pl L) then 1 else 0) = cI pl S' L + (if S'.testBit (pl L) then 1 else 0)
      rw [h1, h L (by omega)]
    · show sI pl sz S L + (if S.testBit (pl L) then sz L else 0) = sI pl sz S' L + (if S'.testBit (pl L) then sz L else 0)
      rw [h2, h L (by omega)]
/-- a set with the item L is one without it, and it -/
theorem split_top {L S c : Nat} (h : inI pl (L + 1) S) (hu : upto pl c) (hL : L < c) (hb : S.testBit (pl L) = true) : ∃ S', S = S' + 2 ^ pl L ∧ inI pl L S' ∧ cI pl S (L + 1) = cI pl S' L + 1 ∧ sI pl sz S (L + 1) = sI pl sz S' L + sz L := by
  have hS : S < 2 ^ (pl L + 1) := by
    apply Nat.lt_pow_two_of_testBit
    intro i hi
    cases hbi : S.testBit i with
    | false => rfl
    | true =>
      obtain ⟨j, hj, e⟩ := h i hbi
      by_cases q : j = L
      · subst q; omega
      · have := hu j L (by omega) hL
        omega
  have hge : 2 ^ pl L ≤ S := by
    apply Nat.le_of_not_lt
    intro z
    rw [Nat.testBit_lt_two_pow z] at hb
    cases hb
  rw [Nat.pow_succ] at hS
  have hS' : S - 2 ^ pl L < 2 ^ pl L := by omega
  have hbits : ∀ i, S.testBit i = ((S - 2 ^ pl L).testBit i || decide (i = pl L)) := by
    intro i
    have := bit_add (S := S - 2 ^ pl L) (p := pl L) (i := i) hS'
    rw [Nat.sub_add_cancel hge] at this
    exact this
  have hin : inI pl L (S - 2 ^ pl L) := by
    intro i hi
    have hi' : S.testBit i = true := by rw [hbits i, hi]; rfl
    obtain ⟨j, hj, e⟩ := h i hi'
    refine ⟨j, ?_, e⟩
    by_cases q : j = L
    · subst q
      subst e
      rw [Nat.testBit_lt_two_pow hS'] at hi
      cases hi
    · omega
  have hcg : ∀ j, j < L → S.testBit (pl j) = (S - 2 ^ pl L).testBit (pl j) := by
    intro j hj
    rw [hbits (pl j)]
    have := hu j L hj hL
    have e : decide (pl j = pl L) = false := by simp; omega
    rw [e, Bool.or_false]
  obtain ⟨c1, c2⟩ := cI_congr (pl := pl) (sz := sz) L hcg
  refine ⟨S - 2 ^ pl L, by omega, hin, ?_, ?_⟩
  · show cI pl S L + (if S.testBit (pl L) then 1 else 0) = _
    rw [c1, if_pos hb]
  · show sI pl sz S L + (if S.testBit (pl L) then sz L else 0) = _
    rw [c2, if_pos hb]
theorem join_top {L S c : Nat} (h : inI pl L S) (hu : upto pl c) (hL : L < c) : inI pl (L + 1) (S + 2 ^ pl L) ∧ cI pl (S + 2 ^ pl L) (L + 1) = cI pl S L + 1 ∧ sI pl sz (S + 2 ^ pl L) (L + 1) = sI pl sz S L + sz L := by
  have hS := inI_lt h hu hL
  have hb := fun i => bit_add (S := S) (p := pl L) (i := i) hS
  have hcg : ∀ j, j < L → (S + 2 ^ pl L).testBit (pl j) = S.testBit (pl j) := by
    intro j hj
    rw [hb (pl j)]
    have := hu j L hj hL
    have e : decide (pl j = pl L) = false := by simp; omega
    rw [e, Bool.or_false]
  obtain ⟨c1, c2⟩ := cI_congr (pl := pl) (sz := sz) L hcg
  have ht : (S + 2 ^ pl L).testBit (pl L) = true := by rw [hb]; simp
  refine ⟨?_, ?_, ?_⟩
  · intro i hi
    rw [hb i, Bool.or_eq_true] at hi
    rcases hi with hi | hi
    · obtain ⟨j, hj, e⟩ := h i hi
      exact ⟨j, by omega, e⟩
    · exact ⟨L, by omega, (by simpa using hi : i = pl L).symm⟩
  · show cI pl (S + 2 ^ pl L) L + (if (S + 2 ^ pl L).testBit (pl L) then 1 else 0) = _
    rw [c1, if_pos ht]
  · show sI pl sz (S + 2 ^ pl L) L + (if (S + 2 ^ pl L).testBit (pl L) then sz L else 0) = _
    rw [c2, if_pos ht]
theorem skip_top {L S : Nat} (h : inI pl (L + 1) S) (hb : ¬ S.testBit (pl L) = true) : inI pl L S ∧ cI pl S (L + 1) = cI pl S L ∧ sI pl sz S (L + 1) = sI pl sz S L := by
  refine ⟨?_, ?_, ?_⟩
  · intro i hi
    obtain ⟨j, hj, e⟩ := h i hi
    refine ⟨j, ?_, e⟩
    by_cases q : j = L
    · subst q; subst e; exact absurd hi hb
    · omega
  · show cI pl S L + (if S.testBit (pl L) then 1 else 0) = _
    rw [if_neg hb]; rfl
  · show sI pl sz S L + (if S.testBit (pl L) then sz L else 0) = _
    rw [if_neg hb]; rfl
theorem zero_of {L S c : Nat} (h : inI pl L S) (hu : upto pl c) (hL : L ≤ c) (hz : cI pl S L = 0) : S = 0 ∧ sI pl sz S L = 0 := by
  induction L with
  | zero =>
    refine ⟨Nat.eq_of_testBit_eq (fun i => ?_), rfl⟩
    rw [Nat.zero_testBit]
    cases hb : S.testBit i with
    | false => rfl
    | true => obtain ⟨j, hj, _⟩ := h i hb; omega
  | succ L ih =>
    by_cases hb : S.testBit (pl L) = true
    · obtain ⟨S', _, _, h3, _⟩ := split_top (sz := sz) h hu (by omega) hb
      omega
    · obtain ⟨h1, h2, h3⟩ := skip_top (sz := sz) h hb
      rw [h3]
      exact ih h1 (by omega) (by omega)
/-- what the search finds: the least sum from tg on, and of these the least set -/
theorem full_ok {c : Nat} (hu : upto pl c) : ∀ (L m sum set : Nat) (b : Nat × Nat), L ≤ c → b.2 ≤ set → (fullS pl sz tg L m sum set b).1 ≤ b.1 ∧ (fullS pl sz tg L m sum set b = b ∨ ∃ S, inI pl L S ∧ cI pl S L = m ∧ tg ≤ sum + sI pl sz S L ∧ fullS pl sz tg L m sum set b = (sum + sI pl sz S L, set + S) ∧ (fullS pl sz tg L m sum set b).1 < b.1) ∧ ∀ S, inI pl L S → cI pl S L = m → tg ≤ sum + sI pl sz S L → (fullS pl sz tg L m sum set b).1 < sum + sI pl sz S L ∨ ((fullS pl sz tg L m sum set b).1 = sum + sI pl sz S L ∧ (fullS pl sz tg L m sum set b).2 ≤ set + S) := by
  have base : ∀ (L sum set : Nat) (b : Nat × Nat), L ≤ c → b.2 ≤ set → (if tg ≤ sum ∧ sum < b.1 then (sum, set) else b).1 ≤ b.1 ∧ ((if tg ≤ sum ∧ sum < b.1 then (sum, set) else b) = b ∨ ∃ S, inI pl L S ∧ cI pl S L = 0 ∧ tg ≤ sum + sI pl sz S L ∧ (if tg ≤ sum ∧ sum < b.1 then (sum, set) else b) = (sum + sI pl sz S L, set + S) ∧ (if tg ≤ sum ∧ sum < b.1 then (sum, set) else b).1 < b.1) ∧ ∀ S, inI pl L S → cI pl S L = 0 → tg ≤ sum + sI pl sz S L → (if tg ≤ sum ∧ sum < b.1 then (sum, set) else b).1 < sum + sI pl sz S L ∨ ((if tg ≤ sum ∧ sum < b.1 then (sum, set) else b).1 = sum + sI pl sz S L ∧ (if tg ≤ sum ∧ sum < b.1 then (sum, set) else b).2 ≤ set + S) := by
    intro L sum set b hL hb
    have z0 : ∀ L', cI pl 0 L' = 0 ∧ sI pl sz 0 L' = 0 := by
      intro L'
      induction L' with
      | zero => exact ⟨rfl, rfl⟩
      | succ L' ih =>
        constructor
        · show cI pl 0 L' + (if (0 : Nat).testBit (pl L') then 1 else 0) = 0
          rw [ih.1, Nat.zero_testBit]; rfl
        · show sI pl sz 0 L' + (if (0 : Nat).testBit (pl L') then sz L' else 0) = 0
          rw [ih.2, Nat.zero_testBit]; rfl
    by_cases q : tg ≤ sum ∧ sum < b.1
    · rw [if_pos q]
      refine ⟨by show sum ≤ b.1; omega, .inr ⟨0, ?_, (z0 L).1, by rw [(z0 L).2]; exact q.1, by rw [(z0 L).2]; rfl, q.2⟩, ?_⟩
      · intro i hi
        rw [Nat.zero_testBit] at hi; cases hi
      · intro S h1 h2 h3
        obtain ⟨e1, e2⟩ := zero_of (sz := sz) h1 hu hL h2
        rw [e2]
        exact .inr ⟨rfl, by show set ≤ set + S; omega⟩
    · rw [if_neg q]
      refine ⟨Nat.le_refl _, .inl rfl, ?_⟩
      intro S h1 h2 h3
      obtain ⟨e1, e2⟩ := zero_of (sz := sz) h1 hu hL h2
      rw [e2] at h3 ⊢
      by_cases y : b.1 < sum + 0
      · exact .inl y
      · exact .inr ⟨by omega, by omega⟩
  intro L
  induction L with
  | zero =>
    intro m sum set b hL hb
    unfold fullS
    by_cases m0 : m = 0
    · subst m0
      rw [if_pos rfl]
      exact base 0 sum set b hL hb
    · rw [if_neg m0]
      refine ⟨Nat.le_refl _, .inl rfl, ?_⟩
      intro S _ h2 _
      exact absurd h2.symm m0
  | succ L ih =>
    intro m sum set b hL hb
    unfold fullS
    by_cases m0 : m = 0
    · subst m0
      rw [if_pos rfl]
      exact base (L + 1) sum set b hL hb
    · rw [if_neg m0]
      obtain ⟨a1, a2, a3⟩ := ih m sum set b (by omega) hb
      generalize hb1 : fullS pl sz tg L m sum set b = b1 at a1 a2 a3
      have hb1le : b1.2 ≤ set + 2 ^ pl L := by
        rcases a2 with a2 | ⟨S, s1, _, _, s4, _⟩
        · rw [a2]; exact Nat.le_trans hb (Nat.le_add_right _ _)
        · have := inI_lt s1 hu (by omega)
          rw [s4]; show set + S ≤ _; omega
      obtain ⟨d1, d2, d3⟩ := ih (m - 1) (sum + sz L) (set + 2 ^ pl L) b1 (by omega) hb1le
      generalize hb2 : fullS pl sz tg L (m - 1) (sum + sz L) (set + 2 ^ pl L) b1 = b2 at d1 d2 d3
      refine ⟨by omega, ?_, ?_⟩
      · rcases d2 with d2 | ⟨S, s1, s2, s3, s4, s5⟩
        · rw [d2]
          rcases a2 with a2 | ⟨S, s1, s2, s3, s4, s5⟩
          · exact .inl a2
          · right
            have hb' : ¬ S.testBit (pl L) = true := by
              rw [Nat.testBit_lt_two_pow (inI_lt s1 hu (by omega))]; simp
            have i1 : inI pl (L + 1) S := fun i hi => by obtain ⟨j, hj, e⟩ := s1 i hi; exact ⟨j, by omega, e⟩
            obtain ⟨_, e2, e3⟩ := skip_top (sz := sz) i1 hb'
            exact ⟨S, i1, by rw [e2]; exact s2, by rw [e3]; exact s3, by rw [e3]; exact s4, s5⟩
        · right
          obtain ⟨e1, e2, e3⟩ := join_top (sz := sz) s1 hu (by omega)
          refine ⟨S + 2 ^ pl L, e1, by rw [e2, s2]; omega, by rw [e3]; omega, ?_, by omega⟩
          rw [s4, e3]
          exact Prod.ext (by show sum + sz L + _ = _; omega) (by show set + 2 ^ pl L + S = _; omega)
      · intro S h1 h2 h3
        by_cases hbit : S.testBit (pl L) = true
        · obtain ⟨S', e1, e2, e3, e4⟩ := split_top (sz := sz) h1 hu (by omega) hbit
          have := d3 S' e2 (by omega) (by rw [e4] at h3; omega)
          rw [e4]
          rcases this with y | ⟨y1, y2⟩
          · left; omega
          · right; exact ⟨by omega, by omega⟩
        · obtain ⟨e1, e2, e3⟩ := skip_top (sz := sz) h1 hbit
          have := a3 S e1 (by omega) (by rw [e3] at h3; exact h3)
          rw [e3]
          rcases d2 with d2 | ⟨S2, s1, s2, s3, s4, s5⟩
          · rw [d2]; exact this
          · by_cases y : b2.1 < sum + sI pl sz S L
            · exact .inl y
            · -- the later sets would have to be as good
              rcases this with z | ⟨z1, z2⟩
              · left; omega
              · left; omega
end FND
