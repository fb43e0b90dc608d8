/-! ===== PURE PART: back, as sets ===== -/
def pS (z : Nat → Nat) (S : Nat) : Nat → Nat
  | 0 => 1
  | k + 1 => pS z S k * (if S.testBit k then z k else 1)
theorem pS_congr {z : Nat → Nat} {S S' : Nat} : ∀ n, (∀ i, i < n → S.testBit i = S'.testBit i) → pS z S n = pS z S' n
  | 0, _ => rfl
  | n + 1, h => by
    show pS z S n * (if S.testBit n then z n else 1) = pS z S' n * (if S'.testBit n then z n else 1)
    rw [pS_congr n (fun i hi => h i (by omega)), h n (by omega)]
theorem pS_or {z : Nat → Nat} {S p : Nat} (hb : S.testBit p = false) : ∀ n, p < n → pS z (S ||| 2 ^ p) n = pS z S n * z p
  | 0, h => absurd h (Nat.not_lt_zero _)
  | n + 1, h => by
    have bit : ∀ i, i ≠ p → (S ||| 2 ^ p).testBit i = S.testBit i := by
      intro i hi
      rw [Nat.testBit_or, Nat.testBit_two_pow]
      have : ¬ p = i := fun q => hi q.symm
      simp [this]
    show pS z (S ||| 2 ^ p) n * (if (S ||| 2 ^ p).testBit n then z n else 1) = pS z S n * (if S.testBit n then z n else 1) * z p
    by_cases e : p = n
    · subst e
      have hp : (S ||| 2 ^ p).testBit p = true := by rw [Nat.testBit_or, Nat.testBit_two_pow]; simp
      rw [pS_congr p (S' := S) (fun i hi => bit i (by omega)), hp, hb]
      simp
    · rw [pS_or hb n (by omega), bit n (fun q => e q.symm), Nat.mul_assoc, Nat.mul_assoc, Nat.mul_comm (z p)]
theorem pS_le {z : Nat → Nat} {S : Nat} : ∀ n, (∀ i, i < n → 1 ≤ z i ∧ z i ≤ 9) → 1 ≤ pS z S n ∧ pS z S n ≤ 9 ^ n
  | 0, _ => ⟨Nat.le_refl _, Nat.le_refl _⟩
  | n + 1, h => by
    obtain ⟨h1, h2⟩ := pS_le (S := S) n (fun i hi => h i (by omega))
    have hn := h n (by omega)
    show 1 ≤ pS z S n * (if S.testBit n then z n else 1) ∧ pS z S n * (if S.testBit n then z n else 1) ≤ 9 ^ n * 9
    have h3 : 1 ≤ (if S.testBit n then z n else 1) ∧ (if S.testBit n then z n else 1) ≤ 9 := by split <;> omega
    exact ⟨Nat.mul_le_mul h1 h3.1, Nat.mul_le_mul h2 h3.2⟩
/-- where a set of trades may lead, all of them walked once -/
def rcP (t a : Nat) (g h : Nat → Nat) : Nat → Nat → Nat → Prop
  | 0, S, κ => S = 0 ∧ κ = a
  | m + 1, S, κ => ∃ i, i < t ∧ S.testBit i = true ∧ rcP t a g h m (S ^^^ 2 ^ i) (g i) ∧ h i = κ
def cnS (t S : Nat) : Nat := zS (fun _ => 1) S t
def rcS (t a : Nat) (g h : Nat → Nat) (S κ : Nat) : Prop := rcP t a g h (cnS t S) S κ
def mnF (f : Nat → Nat) (p : Nat → Bool) : Nat → Nat
  | 0 => 100000
  | i + 1 => if p i then min (mnF f p i) (1 + f i) else mnF f p i
theorem mn_far (f : Nat → Nat) (p : Nat → Bool) : ∀ n, mnF f p n ≤ 100000
  | 0 => Nat.le_refl _
  | n + 1 => by
    have := mn_far f p n
    show (if p n then min (mnF f p n) (1 + f n) else mnF f p n) ≤ 100000
    split <;> omega
theorem mn_le {f : Nat → Nat} {p : Nat → Bool} : ∀ {n i : Nat}, i < n → p i = true → mnF f p n ≤ 1 + f i
  | 0, i, h, _ => absurd h (Nat.not_lt_zero _)
  | n + 1, i, h, hp => by
    show (if p n then min (mnF f p n) (1 + f n) else mnF f p n) ≤ 1 + f i
    by_cases e : i = n
    · subst e; rw [if_pos hp]; omega
    · have := mn_le (f := f) (p := p) (n := n) (i := i) (by omega) hp
      split <;> omega
theorem mn_is (f : Nat → Nat) (p : Nat → Bool) : ∀ n, mnF f p n = 100000 ∨ ∃ i, i < n ∧ p i = true ∧ mnF f p n = 1 + f i
  | 0 => .inl rfl
  | n + 1 => by
    show (if p n then min (mnF f p n) (1 + f n) else mnF f p n) = 100000 ∨ ∃ i, i < n + 1 ∧ p i = true ∧ (if p n then min (mnF f p n) (1 + f n) else mnF f p n) = 1 + f i
    by_cases hp : p n = true
    · rw [if_pos hp]
      by_cases hm : mnF f p n ≤ 1 + f n
      · rw [Nat.min_eq_left hm]
        rcases mn_is f p n with z | ⟨i, h1, h2, h3⟩
        · exact .inl z
        · exact .inr ⟨i, by omega, h2, h3⟩
      · rw [Nat.min_eq_right (by omega)]
        exact .inr ⟨n, by omega, hp, rfl⟩
    · rw [if_neg hp]
      rcases mn_is f p n with z | ⟨i, h1, h2, h3⟩
      · exact .inl z
      · exact .inr ⟨i, by omega, h2, h3⟩
def bfN (t a : Nat) (g h : Nat → Nat) (gn : Nat → Bool) : Nat → Nat → Nat → Nat
  | 0, _, _ => 100000
  | r + 1, x, had => if had ≠ 0 ∧ x = a ∧ gn had = true then 0 else mnF (fun i => bfN t a g h gn r (h i) (had ||| 2 ^ i)) (fun i => !had.testBit i && decide (g i = x)) t
def goodB (t a : Nat) (g h : Nat → Nat) (gn : Nat → Bool) (S : Nat) : Prop := S < 2 ^ t ∧ rcS t a g h S a ∧ gn S = true
section BCK
variable {t a : Nat} {g h : Nat → Nat} {gn : Nat → Bool}
theorem cn_le (S : Nat) : ∀ k, zS (fun _ => 1) S k ≤ k
  | 0 => Nat.le_refl _
  | k + 1 => by
    have := cn_le S k
    show zS (fun _ => 1) S k + (if S.testBit k then 1 else 0) ≤ k + 1
    split <;> omega
theorem cn_or {S i : Nat} (hi : i < t) (hb : S.testBit i = false) : cnS t (S ||| 2 ^ i) = cnS t S + 1 := zS_or hb hi _
theorem cn_clr {S i : Nat} (hi : i < t) (hb : S.testBit i = true) : cnS t S = cnS t (S ^^^ 2 ^ i) + 1 := zS_clear hb t hi
theorem or_clr {S i : Nat} (hb : S.testBit i = false) : (S ||| 2 ^ i) ^^^ 2 ^ i = S := by
  rw [or_eq_xor hb]
  apply Nat.eq_of_testBit_eq
  intro j
  simp only [Nat.testBit_xor]
  cases S.testBit j <;> cases (2 ^ i).testBit j <;> rfl
theorem clr_or {S i : Nat} (hb : S.testBit i = true) : (S ^^^ 2 ^ i) ||| 2 ^ i = S := by
  apply Nat.eq_of_testBit_eq
  intro j
  rw [Nat.testBit_or, bit_clear, Nat.testBit_two_pow]
  by_cases e : j = i
  · subst e; rw [hb]; simp
  · have : ¬ i = j := fun q => e q.symm
    simp [e, this]
theorem or_bit (S i : Nat) : (S ||| 2 ^ i).testBit i = true := by rw [Nat.testBit_or, Nat.testBit_two_pow]; simp
theorem rc_step {S i : Nat} (hi : i < t) (hb : S.testBit i = false) (hr : rcS t a g h S (g i)) : rcS t a g h (S ||| 2 ^ i) (h i) := by
  unfold rcS
  rw [cn_or hi hb]
  exact ⟨i, hi, or_bit S i, by rw [or_clr hb]; exact hr, rfl⟩
theorem back_sound : ∀ (r x had : Nat), had < 2 ^ t → cnS t had + r = t + 1 → rcS t a g h had x → bfN t a g h gn r x had < 100000 → ∃ S, goodB t a g h gn S ∧ cnS t S = cnS t had + bfN t a g h gn r x had
  | 0, x, had, _, _, _, hlt => absurd hlt (by show ¬ 100000 < 100000; omega)
  | r + 1, x, had, hh, hc, hr, hlt => by
    unfold bfN at hlt ⊢
    by_cases q : had ≠ 0 ∧ x = a ∧ gn had = true
    · rw [if_pos q]
      refine ⟨had, ⟨hh, ?_, q.2.2⟩, rfl⟩
      have hr' := hr
      rw [q.2.1] at hr'
      exact hr'
    · rw [if_neg q] at hlt ⊢
      rcases mn_is (fun i => bfN t a g h gn r (h i) (had ||| 2 ^ i)) (fun i => !had.testBit i && decide (g i = x)) t with z | ⟨i, hi, hp, e⟩
      · omega
      · have hp : had.testBit i = false ∧ g i = x := by simpa using hp
        rw [e] at hlt ⊢
        have hx : rcS t a g h had (g i) := by rw [hp.2]; exact hr
        have c := cn_or hi hp.1
        obtain ⟨S, s1, s2⟩ := back_sound r (h i) (had ||| 2 ^ i) (Nat.or_lt_two_pow hh (Nat.pow_lt_pow_right (by omega) hi)) (by omega) (rc_step hi hp.1 hx) (by omega)
        exact ⟨S, s1, by omega⟩
theorem bf_step {r S i : Nat} (hi : i < t) (hb : S.testBit i = false) : bfN t a g h gn (r + 1) (g i) S ≤ 1 + bfN t a g h gn r (h i) (S ||| 2 ^ i) := by
  show (if S ≠ 0 ∧ g i = a ∧ gn S = true then 0 else mnF (fun j => bfN t a g h gn r (h j) (S ||| 2 ^ j)) (fun j => !S.testBit j && decide (g j = g i)) t) ≤ _
  by_cases q : S ≠ 0 ∧ g i = a ∧ gn S = true
  · rw [if_pos q]; exact Nat.zero_le _
  · rw [if_neg q]
    exact mn_le (f := fun j => bfN t a g h gn r (h j) (S ||| 2 ^ j)) hi (by simp [hb])
theorem back_comp : ∀ (m S κ : Nat), S < 2 ^ t → cnS t S = m → rcS t a g h S κ → bfN t a g h gn (t + 1) a 0 ≤ m + bfN t a g h gn (t + 1 - m) κ S
  | 0, S, κ, hS, hc, hr => by
    unfold rcS at hr
    rw [hc] at hr
    obtain ⟨r1, r2⟩ := hr
    rw [r1, r2, Nat.sub_zero]
    omega
  | m + 1, S, κ, hS, hc, hr => by
    unfold rcS at hr
    rw [hc] at hr
    obtain ⟨i, hi, hb, r1, r2⟩ := hr
    have c := cn_clr hi hb
    have hm : cnS t (S ^^^ 2 ^ i) = m := by omega
    have ht : cnS t S ≤ t := cn_le S t
    have hcb : (S ^^^ 2 ^ i).testBit i = false := by rw [bit_clear, if_pos rfl, hb]; rfl
    have ih := back_comp m (S ^^^ 2 ^ i) (g i) (xor_lt hS hi) hm (by unfold rcS; rw [hm]; exact r1)
    have st := bf_step (gn := gn) (a := a) (g := g) (h := h) (r := t - m) hi hcb
    rw [clr_or hb, r2] at st
    rw [show t + 1 - m = t - m + 1 from by omega] at ih
    rw [show t + 1 - (m + 1) = t - m from by omega]
    omega
theorem back_min (hg0 : gn 0 = false) {S : Nat} (hS : goodB t a g h gn S) : bfN t a g h gn (t + 1) a 0 ≤ cnS t S := by
  obtain ⟨h1, h2, h3⟩ := hS
  have hne : S ≠ 0 := by
    rintro rfl
    rw [hg0] at h3; cases h3
  have := back_comp (gn := gn) _ S a h1 rfl h2
  have ht : cnS t S ≤ t := cn_le S t
  rw [show t + 1 - cnS t S = t - cnS t S + 1 from by omega] at this
  have e : bfN t a g h gn (t - cnS t S + 1) a S = 0 := by
    show (if S ≠ 0 ∧ a = a ∧ gn S = true then 0 else _) = 0
    rw [if_pos ⟨hne, rfl, h3⟩]
  omega
theorem rc_zero : rcS t a g h 0 a := by
  unfold rcS cnS
  rw [zS_zero]
  exact ⟨rfl, rfl⟩
theorem back_all (hlt : bfN t a g h gn (t + 1) a 0 < 100000) : ∃ S, goodB t a g h gn S ∧ cnS t S = bfN t a g h gn (t + 1) a 0 := by
  have c0 : cnS t 0 = 0 := zS_zero _ _
  obtain ⟨S, s1, s2⟩ := back_sound (gn := gn) (t + 1) a 0 (Nat.pow_pos (by omega)) (by omega) rc_zero hlt
  exact ⟨S, s1, by omega⟩
end BCK
/-! the reference -/
theorem trd_v {T : Tb} (h : okTrd T) {r : Nat} (hr : r < T.1) : (T.2 r 0 = nI (vN T r 0) ∧ vN T r 0 < 6) ∧ (T.2 r 1 = nI (vN T r 1) ∧ vN T r 1 < 6) ∧ (T.2 r 2 = nI (vN T r 2) ∧ 1 ≤ vN T r 2 ∧ vN T r 2 ≤ 9) ∧ (T.2 r 3 = nI (vN T r 3) ∧ 1 ≤ vN T r 3 ∧ vN T r 3 ≤ 9) := by
  obtain ⟨a, b, n, m, h1, h2, _, h3, h4, h5, h6, e0, e1, e2, e3⟩ := h r hr
  have v0 : vN T r 0 = a := by unfold vN; rw [e0, nI_toInt (by omega)]; rfl
  have v1 : vN T r 1 = b := by unfold vN; rw [e1, nI_toInt (by omega)]; rfl
  have v2 : vN T r 2 = n := by unfold vN; rw [e2, nI_toInt (by omega)]; rfl
  have v3 : vN T r 3 = m := by unfold vN; rw [e3, nI_toInt (by omega)]; rfl
  rw [v0, v1, v2, v3]
  exact ⟨⟨e0, h1⟩, ⟨e1, h2⟩, ⟨e2, h3, h4⟩, ⟨e3, h5, h6⟩⟩
def gnB (T : Tb) (S : Nat) : Bool := decide (pS (fun i => vN T i 2) S T.1 < pS (fun i => vN T i 3) S T.1)
def bfT (T : Tb) (a r x had : Nat) : Nat := bfN T.1 a (fun i => vN T i 0) (fun i => vN T i 1) (gnB T) r x had
theorem pow9 {n : Nat} (h : n ≤ 8) : 9 ^ n ≤ 43046721 := Nat.pow_le_pow_right (by omega) h
section BKM
variable {A : AS} {M : Mem} {a : Nat}
theorem backFrom_ok (h : RMm 156 A M) (hok : okTrd (A.2.1 9)) (ha : a < 6) : ∀ (r n x had : Nat), r ≤ n → had < 2 ^ (A.2.1 9).1 → cnS (A.2.1 9).1 had + r = (A.2.1 9).1 + 1 → x < 6 → gr_X11_backFrom n (nI x) (nI a) (nI had) (nL (pS (fun i => vN (A.2.1 9) i 2) had (A.2.1 9).1)) (nL (pS (fun i => vN (A.2.1 9) i 3) had (A.2.1 9).1)) M = some (nI (bfT (A.2.1 9) a r x had))
  | 0, n, x, had, _, hh, hc, hx => by
    have : cnS (A.2.1 9).1 had ≤ (A.2.1 9).1 := cn_le had _
    omega
  | r + 1, 0, x, had, hn, _, _, _ => by omega
  | r + 1, n + 1, x, had, hn, hh, hc, hx => by
    have h8 : (A.2.1 9).1 ≤ 8 := (h.2.1 9 (by omega)).2.1
    have hpw : 2 ^ (A.2.1 9).1 ≤ 256 := pow2_le h8
    have p9 := pow9 h8
    have hp2 := pS_le (z := fun i => vN (A.2.1 9) i 2) (S := had) (A.2.1 9).1 (fun i hi => (trd_v hok hi).2.2.1.2)
    have hp3 := pS_le (z := fun i => vN (A.2.1 9) i 3) (S := had) (A.2.1 9).1 (fun i hi => (trd_v hok hi).2.2.2.2)
    have hcond : (nI had = 0 ∨ (¬ (nI x = nI a) ∨ (lg_cmp (nL (pS (fun i => vN (A.2.1 9) i 3) had (A.2.1 9).1)) (nL (pS (fun i => vN (A.2.1 9) i 2) had (A.2.1 9).1))) ≤ 0)) ↔ ¬ (had ≠ 0 ∧ x = a ∧ gnB (A.2.1 9) had = true) := by
      have e0 : nI had = 0 ↔ had = 0 := nI_eq_iff (b := 0) (by omega) (by omega)
      have eg : gnB (A.2.1 9) had = true ↔ pS (fun i => vN (A.2.1 9) i 2) had (A.2.1 9).1 < pS (fun i => vN (A.2.1 9) i 3) had (A.2.1 9).1 := by unfold gnB; simp
      rw [e0, nI_eq_iff (by omega) (by omega), lg_le, nL_lt (by omega) (by omega), eg]
      omega
    show F_X11_backFrom (gr_X11_backFrom n) (nI x) (nI a) (nI had) _ _ M = _
    unfold F_X11_backFrom
    show _ = some (nI (if had ≠ 0 ∧ x = a ∧ gnB (A.2.1 9) had = true then 0 else mnF (fun i => bfT (A.2.1 9) a r (vN (A.2.1 9) i 1) (had ||| 2 ^ i)) (fun i => !had.testBit i && decide (vN (A.2.1 9) i 0 = x)) (A.2.1 9).1))
    by_cases q : had ≠ 0 ∧ x = a ∧ gnB (A.2.1 9) had = true
    · rw [if_neg (fun z => (hcond.1 z) q), if_pos q]
      rfl
    · rw [if_pos (hcond.2 q), if_neg q]
      have hbf : ∀ i, bfT (A.2.1 9) a r (vN (A.2.1 9) i 1) (had ||| 2 ^ i) ≤ 100000 := by
        intro i
        unfold bfT
        cases r with
        | zero => exact Nat.le_refl _
        | succ r =>
          show (if _ then 0 else mnF _ _ _) ≤ 100000
          split
          · exact Nat.zero_le _
          · exact mn_far _ _ _
      have key := lp_for (body := fun s : Int32 × Int32 => w_X11_backFrom_27 (gr_X11_backFrom n) (nI x) (nI a) (nI had) (nL (pS (fun i => vN (A.2.1 9) i 2) had (A.2.1 9).1)) (nL (pS (fun i => vN (A.2.1 9) i 3) had (A.2.1 9).1)) M s.1 s.2) (fun i => (nI (mnF (fun i => bfT (A.2.1 9) a r (vN (A.2.1 9) i 1) (had ||| 2 ^ i)) (fun i => !had.testBit i && decide (vN (A.2.1 9) i 0 = x)) i), nI i)) (A.2.1 9).1 (nI (mnF (fun i => bfT (A.2.1 9) a r (vN (A.2.1 9) i 1) (had ||| 2 ^ i)) (fun i => !had.testBit i && decide (vN (A.2.1 9) i 0 = x)) (A.2.1 9).1)) (by
        intro i hi
        have e90 : M 156 90 = nI (A.2.1 9).1 := (h.2.1 9 (by omega)).1
        obtain ⟨⟨t0, t0'⟩, ⟨t1, t1'⟩, ⟨t2, t2'⟩, ⟨t3, t3'⟩⟩ := trd_v hok hi
        have ix : 337 + 4 * nI i = nI (337 + 4 * i) := idx2 337 4 i
        have ix1 : nI (337 + 4 * i) + 1 = nI (337 + 4 * i + 1) := nI_inc _
        have ix2 : nI (337 + 4 * i) + 2 = nI (337 + 4 * i + 2) := nI_add _ 2
        have ix3 : nI (337 + 4 * i) + 3 = nI (337 + 4 * i + 3) := nI_add _ 3
        have hm := mn_far (fun i => bfT (A.2.1 9) a r (vN (A.2.1 9) i 1) (had ||| 2 ^ i)) (fun i => !had.testBit i && decide (vN (A.2.1 9) i 0 = x)) i
        unfold w_X11_backFrom_27
        try simp only
        rw [e90, if_neg (by rw [nI_le_iff (by omega) (by omega)]; omega), nI_inc]
        show _ = some (Sum.inl (nI (if (!had.testBit i && decide (vN (A.2.1 9) i 0 = x)) = true then min (mnF (fun i => bfT (A.2.1 9) a r (vN (A.2.1 9) i 1) (had ||| 2 ^ i)) (fun i => !had.testBit i && decide (vN (A.2.1 9) i 0 = x)) i) (1 + bfT (A.2.1 9) a r (vN (A.2.1 9) i 1) (had ||| 2 ^ i)) else mnF (fun i => bfT (A.2.1 9) a r (vN (A.2.1 9) i 1) (had ||| 2 ^ i)) (fun i => !had.testBit i && decide (vN (A.2.1 9) i 0 = x)) i), nI (i + 1)))
        cases hb : had.testBit i with
        | true =>
          rw [if_neg (fun y => by rw [shbit0 (by omega) (by omega), hb] at y; cases y), if_neg (by simp)]
        | false =>
          rw [if_pos ((shbit0 (by omega) (by omega)).2 hb), ix, rt_rd h (k := 9) (r := i) (j := 0) (by omega) hi (by simp [twd]) (by simp [tbs, twd]; omega), b1_some, t0]
          by_cases hx2 : vN (A.2.1 9) i 0 = x
          · have e1 : nI had ||| ((1 : Int32) <<< (nI i &&& 31)) = nI (had ||| 2 ^ i) := by rw [nI_shl i (by omega), nI_or]
            have c := cn_or hi hb
            have ih2 := backFrom_ok h hok ha r n (vN (A.2.1 9) i 1) (had ||| 2 ^ i) (by omega) (Nat.or_lt_two_pow hh (Nat.pow_lt_pow_right (by omega) hi)) (by omega) t1'
            rw [pS_or hb _ hi, pS_or hb _ hi, ← nL_mul, ← nL_mul] at ih2
            have e2 : (1 : Int32) + nI (bfT (A.2.1 9) a r (vN (A.2.1 9) i 1) (had ||| 2 ^ i)) = nI (1 + bfT (A.2.1 9) a r (vN (A.2.1 9) i 1) (had ||| 2 ^ i)) := nI_add 1 _
            have hbi := hbf i
            rw [if_pos (by rw [hx2]), ix1, ix2, ix3, rt_rd h (k := 9) (r := i) (j := 1) (by omega) hi (by simp [twd]) (by simp [tbs, twd]; omega), b1_some, rt_rd h (k := 9) (r := i) (j := 2) (by omega) hi (by simp [twd]) (by simp [tbs, twd]; omega), b1_some, rt_rd h (k := 9) (r := i) (j := 3) (by omega) hi (by simp [twd]) (by simp [tbs, twd]; omega), b1_some, t1, t2, t3, e1, nI_toL (by omega), nI_toL (by omega), ih2, b1_some, lt_eq, e2, lesser_min, nI_min (by omega) (by omega), if_pos (by simp [hx2])]
          · rw [if_neg (by rw [nI_eq_iff (by omega) (by omega)]; exact hx2), if_neg (by simp [hx2])]) (by
        have e90 : M 156 90 = nI (A.2.1 9).1 := (h.2.1 9 (by omega)).1
        unfold w_X11_backFrom_27
        try simp only
        rw [e90, if_pos (by rw [nI_le_iff (by omega) (by omega)]; omega)]) (by omega)
      have key : lp (fun s : Int32 × Int32 => w_X11_backFrom_27 (gr_X11_backFrom n) (nI x) (nI a) (nI had) (nL (pS (fun i => vN (A.2.1 9) i 2) had (A.2.1 9).1)) (nL (pS (fun i => vN (A.2.1 9) i 3) had (A.2.1 9).1)) M s.1 s.2) FU (100000, 0) = _ := key
      rw [key, b1_some]
end BKM
