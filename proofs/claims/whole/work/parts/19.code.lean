/-! ===== PURE PART: the law's words, worked out ===== -/
theorem lp_in {σ ρ : Type} {body : σ → Option (σ ⊕ ρ)} {n : Nat} {s s' : σ} (h : body s = some (.inl s')) : lp body (n + 1) s = lp body n s' := by
  show (match body s with | none => none | some (.inl s') => lp body n s' | some (.inr r) => some r) = _
  rw [h]
theorem lp_end {σ ρ : Type} {body : σ → Option (σ ⊕ ρ)} {n : Nat} {s : σ} {r : ρ} (h : body s = some (.inr r)) : lp body (n + 1) s = some r := by
  show (match body s with | none => none | some (.inl s') => lp body n s' | some (.inr r) => some r) = _
  rw [h]
abbrev Cd : Type := List (Nat × Int32)
abbrev Sk : Type := Nat × (Nat → Int32)
def op2 (k : Nat) (a b : Int32) : Int32 := if k = 23 then a + b else if k = 24 then a - b else if k = 25 then a * b else if k = 27 then (if b ≤ a then 0 else 1) else if k = 28 then (if a = b then 1 else 0) else if k = 29 then (if a ≤ b then 0 else 1) else if k = 31 then a &&& b else a ||| b
/-- one step of a sum or a condition: 0 a number, 1 to 7 a fact, 26 a part, 30 not, the others of two -/
def stepS (F : Nat → Int32) (p : Nat × Int32) (q : Sk) : Option Sk :=
  if p.1 ≤ 7 then (if q.1 + 1 ≤ 31 then some (q.1 + 1, upd q.2 q.1 (if p.1 = 0 then p.2 else F (p.1 - 1))) else none)
  else if p.1 = 26 then (if 1 ≤ q.1 ∧ q.1 + 1 ≤ 31 ∧ p.2 ≠ 0 then some (q.1, upd q.2 (q.1 - 1) (q.2 (q.1 - 1) / p.2)) else none)
  else if p.1 = 30 then (if 1 ≤ q.1 then some (q.1, upd q.2 (q.1 - 1) (1 - q.2 (q.1 - 1))) else none)
  else if 23 ≤ p.1 ∧ p.1 ≤ 32 then (if 2 ≤ q.1 then some (q.1 - 1, upd q.2 (q.1 - 2) (op2 p.1 (q.2 (q.1 - 2)) (q.2 (q.1 - 1)))) else none)
  else none
def runS (F : Nat → Int32) : Cd → Sk → Option Sk
  | [], q => some q
  | p :: c, q => match stepS F p q with
    | some q1 => runS F c q1
    | none => none
theorem runS_cons {F : Nat → Int32} {p : Nat × Int32} {c : Cd} {q q' : Sk} (h : runS F (p :: c) q = some q') : ∃ q1, stepS F p q = some q1 ∧ runS F c q1 = some q' := by
  unfold runS at h
  split at h
  · rename_i q1 e
    exact ⟨q1, e, h⟩
  · cases h
theorem runS_app {F : Nat → Int32} : ∀ (c c' : Cd) (q : Sk), runS F (c ++ c') q = match runS F c q with | some q1 => runS F c' q1 | none => none
  | [], c', q => rfl
  | p :: c, c', q => by
    show (match stepS F p q with | some q1 => runS F (c ++ c') q1 | none => none) = match (match stepS F p q with | some q1 => runS F c q1 | none => none) with | some q1 => runS F c' q1 | none => none
    cases stepS F p q with
    | none => rfl
    | some q1 => exact runS_app c c' q1
theorem both_eq {k : Nat} (h : 23 ≤ k ∧ k ≤ 32) (h26 : k ≠ 26) (h30 : k ≠ 30) (a b : Int32) : f_X11_both (nI k) a b = some (op2 k a b) := by
  have : k = 23 ∨ k = 24 ∨ k = 25 ∨ k = 27 ∨ k = 28 ∨ k = 29 ∨ k = 31 ∨ k = 32 := by omega
  rcases this with rfl | rfl | rfl | rfl | rfl | rfl | rfl | rfl <;> rfl
def opC (k : Nat) : Int32 := if k = 23 then 43 else if k = 24 then 45 else if k = 25 then 42 else if k = 27 then 60 else if k = 28 then 61 else if k = 29 then 62 else if k = 30 then 314 else if k = 31 then 313 else 312
theorem ofTwo_eq {k : Nat} (h : 23 ≤ k ∧ k ≤ 32) (h26 : k ≠ 26) (h30 : k ≠ 30) (a b : Int32) : f_X2_ofTwo (opC k) a b = some (op2 k a b) := by
  have : k = 23 ∨ k = 24 ∨ k = 25 ∨ k = 27 ∨ k = 28 ∨ k = 29 ∨ k = 31 ∨ k = 32 := by omega
  rcases this with rfl | rfl | rfl | rfl | rfl | rfl | rfl | rfl <;> rfl
theorem ofTwo_part (a b : Int32) (hb : b ≠ 0) : f_X2_ofTwo 47 a b = some (a / b) := by
  have e : f_X2_ofTwo 47 a b = if b = 0 then some 0 else (if b = 0 then none else some (a / b)) := rfl
  rw [e, if_neg hb, if_neg hb]
theorem la_156 : la 156 = some 1856 := by decide +kernel
theorem la_164 : la 164 = some 420 := by decide +kernel
theorem la_165 : la 165 = some 8 := by decide +kernel
/-- what a step of the reference's pile does -/
theorem comes_step {F : Nat → Int32} {p : Nat × Int32} {q q1 : Sk} {M : Mem} {i e : Nat} (h : stepS F p q = some q1) (hi : i < 410) (hie : i < e) (he : e ≤ 410) (hq : q.1 ≤ 31) (h1 : M 156 (1036 + 2 * i) = nI p.1) (h2 : p.1 = 0 ∨ p.1 = 26 → M 156 (1036 + 2 * i + 1) = p.2) (hF : ∀ k, k < 7 → M 165 (k + 1) = F k) (hs : ∀ j, j < q.1 → M 164 j = q.2 j) : ∃ j x, w_X11_comesTo_6 0 (nI e) (nI q.1) (nI i) M = some (.inl (nI q1.1, nI (i + 1), up2 M 164 j x)) ∧ q1.1 ≤ 31 ∧ ∀ j', j' < q1.1 → up2 M 164 j x 164 j' = q1.2 j' := by
  have e1 : ((1036 + (820 * (0 : Int32))) + (2 * nI i)) = nI (1036 + 2 * i) := by
    show ((nI 1036 + nI 820 * nI 0) + (nI 2 * nI i)) = _
    rw [nI_mul, nI_mul, nI_add, nI_add]
  have e2 : nI (1036 + 2 * i) + 1 = nI (1036 + 2 * i + 1) := nI_inc _
  unfold w_X11_comesTo_6
  rw [if_neg (by rw [nI_le_iff (by omega) (by omega)]; omega), e1, e2, rd_nI la_156 (by omega) (by omega), rd_nI la_156 (by omega) (by omega), b1_some, b1_some, h1]
  unfold stepS at h
  split at h
  · rename_i h7
    split at h
    · rename_i ht
      cases h
      rw [if_neg (by show ¬ nI 23 ≤ nI p.1; rw [nI_le_iff (by omega) (by omega)]; omega)]
      have up : ∀ x : Int32, ∀ j', j' < q.1 + 1 → up2 M 164 q.1 x 164 j' = upd q.2 q.1 x j' := by
        intro x j' hj'
        unfold upd
        by_cases z : j' = q.1
        · rw [if_pos z, z, up2_at]
        · rw [if_neg z, up2_slot _ _ _ z]
          exact hs j' (by omega)
      by_cases h0 : p.1 = 0
      · rw [if_pos (by rw [h0]; rfl), wr_nI la_164 (by omega) (by omega), b1_some, nI_inc, nI_inc, h2 (.inl h0)]
        refine ⟨_, _, rfl, by show q.1 + 1 ≤ 31; omega, ?_⟩
        intro j' hj'
        simp only [h0, if_true]
        exact up _ j' hj'
      · rw [if_neg (by show ¬ nI p.1 = nI 0; rw [nI_eq_iff (by omega) (by omega)]; exact h0), rd_nI la_165 (by omega) (by omega), b1_some, wr_nI la_164 (by omega) (by omega), b1_some, nI_inc, nI_inc]
        refine ⟨_, _, rfl, by show q.1 + 1 ≤ 31; omega, ?_⟩
        intro j' hj'
        simp only [h0, if_false]
        have := hF (p.1 - 1) (by omega)
        rw [show p.1 - 1 + 1 = p.1 from by omega] at this
        rw [this]
        exact up _ j' hj'
    · cases h
  · rename_i h7
    split at h
    · rename_i h26
      split at h
      · rename_i ht
        cases h
        rw [if_pos (by show nI 23 ≤ nI p.1; rw [nI_le_iff (by omega) (by omega)]; omega), if_pos (by rw [h26]; rfl), nI_dec' (by omega), rd_nI la_164 (by omega) (by omega), b1_some, h2 (.inr h26), if_neg ht.2.2, wr_nI la_164 (by omega) (by omega), b1_some, nI_inc]
        refine ⟨_, _, rfl, by omega, ?_⟩
        intro j' hj'
        simp only at hj' ⊢
        unfold upd
        by_cases z : j' = q.1 - 1
        · rw [if_pos z, z, up2_at, hs _ (by omega)]
        · rw [if_neg z, up2_slot _ _ _ z]
          exact hs j' (by omega)
      · cases h
    · rename_i h26
      split at h
      · rename_i h30
        split at h
        · rename_i ht
          cases h
          rw [if_pos (by show nI 23 ≤ nI p.1; rw [nI_le_iff (by omega) (by omega)]; omega), if_neg (by show ¬ nI p.1 = nI 26; rw [nI_eq_iff (by omega) (by omega)]; exact h26), if_pos (by rw [h30]; rfl), nI_dec' (by omega), rd_nI la_164 (by omega) (by omega), b1_some, wr_nI la_164 (by omega) (by omega), b1_some, nI_inc]
          refine ⟨_, _, rfl, by omega, ?_⟩
          intro j' hj'
          simp only at hj' ⊢
          unfold upd
          by_cases z : j' = q.1 - 1
          · rw [if_pos z, z, up2_at, hs _ (by omega)]
          · rw [if_neg z, up2_slot _ _ _ z]
            exact hs j' (by omega)
        · cases h
      · rename_i h30
        split at h
        · rename_i h23
          split at h
          · rename_i ht
            cases h
            have e3 : nI q.1 + (-1) = nI (q.1 - 1) := nI_dec (by omega)
            have e4 : nI (q.1 - 1) - 1 = nI (q.1 - 2) := nI_dec' (by omega)
            rw [if_pos (by show nI 23 ≤ nI p.1; rw [nI_le_iff (by omega) (by omega)]; omega), if_neg (by show ¬ nI p.1 = nI 26; rw [nI_eq_iff (by omega) (by omega)]; exact h26), if_neg (by show ¬ nI p.1 = nI 30; rw [nI_eq_iff (by omega) (by omega)]; exact h30), e3, e4, rd_nI la_164 (by omega) (by omega), b1_some, rd_nI la_164 (by omega) (by omega), b1_some, both_eq h23 h26 h30, b1_some, wr_nI la_164 (by omega) (by omega), b1_some, nI_inc]
            refine ⟨_, _, rfl, by show q.1 - 1 ≤ 31; omega, ?_⟩
            intro j' hj'
            simp only at hj' ⊢
            unfold upd
            by_cases z : j' = q.1 - 2
            · rw [if_pos z, z, up2_at, hs _ (by omega), hs _ (by omega)]
            · rw [if_neg z, up2_slot _ _ _ z]
              exact hs j' (by omega)
          · cases h
        · cases h
theorem comes_run (F : Nat → Int32) : ∀ (c : Cd) (q q' : Sk) (i e : Nat) (M : Mem) (fuel : Nat), runS F c q = some q' → e = i + c.length → e ≤ 410 → (∀ j p, c[j]? = some p → M 156 (1036 + 2 * (i + j)) = nI p.1 ∧ (p.1 = 0 ∨ p.1 = 26 → M 156 (1036 + 2 * (i + j) + 1) = p.2)) → (∀ k, k < 7 → M 165 (k + 1) = F k) → (∀ j, j < q.1 → M 164 j = q.2 j) → q.1 ≤ 31 → c.length < fuel → ∃ M', lp (fun s => w_X11_comesTo_6 0 (nI e) s.1 s.2.1 s.2.2) fuel (nI q.1, nI i, M) = some M' ∧ (∀ j, j < q'.1 → M' 164 j = q'.2 j) ∧ Out 164 165 M M'
  | [], q, q', i, e, M, 0, _, _, _, _, _, _, _, hf => absurd hf (Nat.not_lt_zero _)
  | p :: c, q, q', i, e, M, 0, _, _, _, _, _, _, _, hf => absurd hf (Nat.not_lt_zero _)
  | [], q, q', i, e, M, fuel + 1, hr, he, hle, _, _, hs, _, _ => by
    cases hr
    refine ⟨M, lp_end ?_, hs, Out.refl _ _ _⟩
    simp only [w_X11_comesTo_6]
    rw [if_pos (by subst he; exact nI_le (by simp) (by simp at hle ⊢; omega))]
  | p :: c, q, q', i, e, M, fuel + 1, hr, he, hle, hc, hF, hs, hq, hf => by
    obtain ⟨q1, h1, h2⟩ := runS_cons hr
    rw [List.length_cons] at he hf
    have hp := hc 0 p rfl
    simp only [Nat.add_zero] at hp
    obtain ⟨j, x, hb, hq1, hs1⟩ := comes_step (e := e) h1 (by omega) (by omega) hle hq hp.1 hp.2 hF hs
    obtain ⟨M', e1, e2, e3⟩ := comes_run F c q1 q' (i + 1) e (up2 M 164 j x) fuel h2 (by omega) hle (by
      intro j' p' hp'
      have := hc (j' + 1) p' (by simpa using hp')
      rw [up2_cell _ _ _ (by omega), show i + 1 + j' = i + (j' + 1) from by omega]
      exact this) (by
      intro k hk
      rw [up2_cell _ _ _ (by omega)]
      exact hF k hk) hs1 hq1 (by omega)
    refine ⟨M', ?_, e2, ((Out.refl _ _ _).up (by omega) (by omega)).trans e3⟩
    rw [← e1]
    exact lp_in hb
/-! the class's stack -/
section WORKED
variable {o a3 : Nat} {M : Mem} {i e t : Nat}
theorem ws_num (h5 : la (o + 5) = some 400) (h6 : la (o + 6) = some 400) (h7 : la (o + 7) = some 32) (hie : i < e) (he : e ≤ 400) (ht : t < 32) (hx : M (o + 5) i = 256) : w_X2_worked_10 o (nI e) a3 (nI t) (nI i) M = some (.inl (nI (t + 1), nI (i + 1), up2 M (o + 7) t (M (o + 6) i))) := by
  unfold w_X2_worked_10
  rw [if_neg (by
    rintro (q | q | q)
    · rw [nI_le_iff (by omega) (by omega)] at q; omega
    · have q : nI 400 ≤ nI i := q
      rw [nI_le_iff (by omega) (by omega)] at q; omega
    · have q : nI 32 ≤ nI t := q
      rw [nI_le_iff (by omega) (by omega)] at q; omega), rd_nI h5 (by omega) (by omega), b1_some, rd_nI h6 (by omega) (by omega), b1_some, hx, if_pos rfl, wr_nI h7 (by omega) (by omega), b1_some, nI_inc, nI_inc]
theorem ws_fact {k : Nat} (h5 : la (o + 5) = some 400) (h6 : la (o + 6) = some 400) (h7 : la (o + 7) = some 32) (ha : la a3 = some 7) (hie : i < e) (he : e ≤ 400) (ht : t < 32) (hk : k < 7) (hx : M (o + 5) i = 259) (hv : M (o + 6) i = nI k) : w_X2_worked_10 o (nI e) a3 (nI t) (nI i) M = some (.inl (nI (t + 1), nI (i + 1), up2 M (o + 7) t (M a3 k))) := by
  have hln : ln a3 = some (nI 7) := by unfold ln; rw [ha]; rfl
  unfold w_X2_worked_10
  rw [if_neg (by
    rintro (q | q | q)
    · rw [nI_le_iff (by omega) (by omega)] at q; omega
    · have q : nI 400 ≤ nI i := q
      rw [nI_le_iff (by omega) (by omega)] at q; omega
    · have q : nI 32 ≤ nI t := q
      rw [nI_le_iff (by omega) (by omega)] at q; omega), rd_nI h5 (by omega) (by omega), b1_some, rd_nI h6 (by omega) (by omega), b1_some, hx, if_neg (by decide), if_pos rfl, hv, if_neg (nI_nneg (by omega)), hln, b1_some, if_neg (by rw [nI_le_iff (by omega) (by omega)]; omega), rd_nI ha hk (by omega), b1_some, wr_nI h7 (by omega) (by omega), b1_some, nI_inc, nI_inc]
theorem ws_not (h5 : la (o + 5) = some 400) (h6 : la (o + 6) = some 400) (h7 : la (o + 7) = some 32) (hie : i < e) (he : e ≤ 400) (ht : t < 32) (ht1 : 1 ≤ t) (hx : M (o + 5) i = 314) : w_X2_worked_10 o (nI e) a3 (nI t) (nI i) M = some (.inl (nI t, nI (i + 1), up2 M (o + 7) (t - 1) (1 - M (o + 7) (t - 1)))) := by
  unfold w_X2_worked_10
  rw [if_neg (by
    rintro (q | q | q)
    · rw [nI_le_iff (by omega) (by omega)] at q; omega
    · have q : nI 400 ≤ nI i := q
      rw [nI_le_iff (by omega) (by omega)] at q; omega
    · have q : nI 32 ≤ nI t := q
      rw [nI_le_iff (by omega) (by omega)] at q; omega), rd_nI h5 (by omega) (by omega), b1_some, rd_nI h6 (by omega) (by omega), b1_some, hx, if_neg (by decide), if_neg (by decide), if_neg (by
    rintro (q | q)
    · exact q rfl
    · have q : nI t < nI 1 := q
      rw [nI_lt_iff (by omega) (by omega)] at q; omega), nI_dec' (by omega), rd_nI h7 (by omega) (by omega), b1_some, wr_nI h7 (by omega) (by omega), b1_some, nI_inc]
theorem ws_two {x r : Int32} (h5 : la (o + 5) = some 400) (h6 : la (o + 6) = some 400) (h7 : la (o + 7) = some 32) (hie : i < e) (he : e ≤ 400) (ht : t < 32) (ht2 : 2 ≤ t) (hx : M (o + 5) i = x) (n1 : x ≠ 256) (n2 : x ≠ 259) (n3 : x ≠ 314) (hr : f_X2_ofTwo x (M (o + 7) (t - 2)) (M (o + 7) (t - 1)) = some r) : w_X2_worked_10 o (nI e) a3 (nI t) (nI i) M = some (.inl (nI (t - 1), nI (i + 1), up2 M (o + 7) (t - 2) r)) := by
  have e3 : nI t + (-1) = nI (t - 1) := nI_dec (by omega)
  have e4 : nI (t - 1) - 1 = nI (t - 2) := nI_dec' (by omega)
  unfold w_X2_worked_10
  rw [if_neg (by
    rintro (q | q | q)
    · rw [nI_le_iff (by omega) (by omega)] at q; omega
    · have q : nI 400 ≤ nI i := q
      rw [nI_le_iff (by omega) (by omega)] at q; omega
    · have q : nI 32 ≤ nI t := q
      rw [nI_le_iff (by omega) (by omega)] at q; omega), rd_nI h5 (by omega) (by omega), b1_some, rd_nI h6 (by omega) (by omega), b1_some, hx, if_neg n1, if_neg n2, if_pos (.inl n3), if_neg (by
    intro q
    have q : nI t < nI 2 := q
    rw [nI_lt_iff (by omega) (by omega)] at q; omega), e3, e4, rd_nI h7 (by omega) (by omega), b1_some, rd_nI h7 (by omega) (by omega), b1_some, hr, b1_some, wr_nI h7 (by omega) (by omega), b1_some, nI_inc]
end WORKED
theorem opC_ne {k : Nat} (h : 23 ≤ k ∧ k ≤ 32) (h26 : k ≠ 26) (h30 : k ≠ 30) : opC k ≠ 256 ∧ opC k ≠ 259 ∧ opC k ≠ 314 := by
  have : k = 23 ∨ k = 24 ∨ k = 25 ∨ k = 27 ∨ k = 28 ∨ k = 29 ∨ k = 31 ∨ k = 32 := by omega
  rcases this with rfl | rfl | rfl | rfl | rfl | rfl | rfl | rfl <;> decide
/-- a step as the class lays it: a part is a number and a sign -/
def xs (p : Nat × Int32) : List (Int32 × Int32) := if p.1 = 0 then [(256, p.2)] else if p.1 ≤ 7 then [(259, nI (p.1 - 1))] else if p.1 = 26 then [(256, p.2), (47, 0)] else [(opC p.1, 0)]
def xC : Cd → List (Int32 × Int32)
  | [] => []
  | p :: c => xs p ++ xC c
theorem xC_app (c c' : Cd) : xC (c ++ c') = xC c ++ xC c' := by
  induction c with
  | nil => rfl
  | cons p c ih => show xs p ++ xC (c ++ c') = (xs p ++ xC c) ++ xC c'; rw [ih, List.append_assoc]
theorem up2_sk {M : Mem} {a t j : Nat} {s : Nat → Int32} {x : Int32} (hs : ∀ k, k < t → k ≠ j → M a k = s k) : ∀ k, k < t → up2 M a j x a k = upd s j x k := by
  intro k hk
  unfold upd
  by_cases z : k = j
  · rw [if_pos z, z, up2_at]
  · rw [if_neg z, up2_slot _ _ _ z]
    exact hs k hk z
theorem xs_ne (p : Nat × Int32) : 0 < (xs p).length := by
  unfold xs
  split
  · simp
  · split
    · simp
    · split <;> simp
theorem get_app_l {α : Type} {a b : List α} {j : Nat} {p : α} (h : a[j]? = some p) : (a ++ b)[j]? = some p := by
  rw [List.getElem?_append_left (List.getElem?_eq_some_iff.mp h).1]; exact h
theorem get_app_r {α : Type} {a b : List α} {j : Nat} {p : α} (h : b[j]? = some p) : (a ++ b)[a.length + j]? = some p := by
  rw [List.getElem?_append_right (by omega), Nat.add_sub_cancel_left]; exact h
section WSTEP
variable {F : Nat → Int32} {o a3 : Nat} {p : Nat × Int32} {q q1 : Sk} {i e : Nat} {M : Mem}
theorem wstep_push (h5 : la (o + 5) = some 400) (h6 : la (o + 6) = some 400) (h7 : la (o + 7) = some 32) (ha : la a3 = some 7) (hp7 : p.1 ≤ 7) (ht : q.1 + 1 ≤ 31) (hle : e ≤ 400) (hie : i < e) (hc : ∀ j p', (xs p)[j]? = some p' → M (o + 5) (i + j) = p'.1 ∧ M (o + 6) (i + j) = p'.2) (hF : ∀ k, k < 7 → M a3 k = F k) : (xs p).length = 1 ∧ w_X2_worked_10 o (nI e) a3 (nI q.1) (nI i) M = some (.inl (nI (q.1 + 1), nI (i + 1), up2 M (o + 7) q.1 (if p.1 = 0 then p.2 else F (p.1 - 1)))) := by
  by_cases h0 : p.1 = 0
  · have hxs : xs p = [(256, p.2)] := by unfold xs; rw [if_pos h0]
    rw [hxs] at hc ⊢
    have hp := hc 0 (256, p.2) rfl
    simp only [Nat.add_zero] at hp
    refine ⟨rfl, ?_⟩
    rw [ws_num h5 h6 h7 hie hle (by omega) hp.1, hp.2, if_pos h0]
  · have hxs : xs p = [(259, nI (p.1 - 1))] := by unfold xs; rw [if_neg h0, if_pos hp7]
    rw [hxs] at hc ⊢
    have hp := hc 0 (259, nI (p.1 - 1)) rfl
    simp only [Nat.add_zero] at hp
    refine ⟨rfl, ?_⟩
    rw [ws_fact (k := p.1 - 1) h5 h6 h7 ha hie hle (by omega) (by omega) hp.1 hp.2, hF _ (by omega), if_neg h0]
theorem wstep_not (h5 : la (o + 5) = some 400) (h6 : la (o + 6) = some 400) (h7 : la (o + 7) = some 32) (h30 : p.1 = 30) (ht : 1 ≤ q.1) (hq : q.1 ≤ 31) (hle : e ≤ 400) (hie : i < e) (hc : ∀ j p', (xs p)[j]? = some p' → M (o + 5) (i + j) = p'.1 ∧ M (o + 6) (i + j) = p'.2) (hs : ∀ j, j < q.1 → M (o + 7) j = q.2 j) : (xs p).length = 1 ∧ w_X2_worked_10 o (nI e) a3 (nI q.1) (nI i) M = some (.inl (nI q.1, nI (i + 1), up2 M (o + 7) (q.1 - 1) (1 - q.2 (q.1 - 1)))) := by
  have hxs : xs p = [(314, 0)] := by unfold xs; rw [if_neg (by omega), if_neg (by omega), if_neg (by omega), h30]; rfl
  rw [hxs] at hc ⊢
  have hp := hc 0 (314, 0) rfl
  simp only [Nat.add_zero] at hp
  refine ⟨rfl, ?_⟩
  rw [ws_not h5 h6 h7 hie hle (by omega) ht hp.1, hs _ (by omega)]
theorem wstep_two (h5 : la (o + 5) = some 400) (h6 : la (o + 6) = some 400) (h7 : la (o + 7) = some 32) (h23 : 23 ≤ p.1 ∧ p.1 ≤ 32) (h26 : p.1 ≠ 26) (h30 : p.1 ≠ 30) (ht : 2 ≤ q.1) (hq : q.1 ≤ 31) (hle : e ≤ 400) (hie : i < e) (hc : ∀ j p', (xs p)[j]? = some p' → M (o + 5) (i + j) = p'.1 ∧ M (o + 6) (i + j) = p'.2) (hs : ∀ j, j < q.1 → M (o + 7) j = q.2 j) : (xs p).length = 1 ∧ w_X2_worked_10 o (nI e) a3 (nI q.1) (nI i) M = some (.inl (nI (q.1 - 1), nI (i + 1), up2 M (o + 7) (q.1 - 2) (op2 p.1 (q.2 (q.1 - 2)) (q.2 (q.1 - 1))))) := by
  have hxs : xs p = [(opC p.1, 0)] := by unfold xs; rw [if_neg (by omega), if_neg (by omega), if_neg h26]
  rw [hxs] at hc ⊢
  have hp := hc 0 (opC p.1, 0) rfl
  simp only [Nat.add_zero] at hp
  have hn := opC_ne h23 h26 h30
  refine ⟨rfl, ?_⟩
  exact ws_two h5 h6 h7 hie hle (by omega) ht hp.1 hn.1 hn.2.1 hn.2.2 (by
    rw [hs _ (by omega), hs _ (by omega)]
    exact ofTwo_eq h23 h26 h30 _ _)
theorem wstep_part (h5 : la (o + 5) = some 400) (h6 : la (o + 6) = some 400) (h7 : la (o + 7) = some 32) (h26 : p.1 = 26) (ht : 1 ≤ q.1 ∧ q.1 + 1 ≤ 31 ∧ p.2 ≠ 0) (hle : e ≤ 400) (hie : i + 1 < e) (hc : ∀ j p', (xs p)[j]? = some p' → M (o + 5) (i + j) = p'.1 ∧ M (o + 6) (i + j) = p'.2) (hs : ∀ j, j < q.1 → M (o + 7) j = q.2 j) : w_X2_worked_10 o (nI e) a3 (nI q.1) (nI i) M = some (.inl (nI (q.1 + 1), nI (i + 1), up2 M (o + 7) q.1 p.2)) ∧ w_X2_worked_10 o (nI e) a3 (nI (q.1 + 1)) (nI (i + 1)) (up2 M (o + 7) q.1 p.2) = some (.inl (nI q.1, nI (i + 2), up2 (up2 M (o + 7) q.1 p.2) (o + 7) (q.1 - 1) (q.2 (q.1 - 1) / p.2))) := by
  have hxs : xs p = [(256, p.2), (47, 0)] := by unfold xs; rw [if_neg (by omega), if_neg (by omega), if_pos h26]
  rw [hxs] at hc
  have hp := hc 0 (256, p.2) rfl
  have hp1 := hc 1 (47, 0) rfl
  simp only [Nat.add_zero] at hp
  refine ⟨?_, ?_⟩
  · rw [ws_num h5 h6 h7 (by omega) hle (by omega) hp.1, hp.2]
  · have hb2 := ws_two (a3 := a3) (M := up2 M (o + 7) q.1 p.2) (i := i + 1) (e := e) (t := q.1 + 1) (x := 47) (r := q.2 (q.1 - 1) / p.2) h5 h6 h7 (by omega) hle (by omega) (by omega) (by rw [up2_cell _ _ _ (by omega)]; exact hp1.1) (by decide) (by decide) (by decide) (by
      rw [show q.1 + 1 - 1 = q.1 from by omega, up2_at, up2_slot _ _ _ (by omega), show q.1 + 1 - 2 = q.1 - 1 from by omega, hs _ (by omega)]
      exact ofTwo_part _ _ ht.2.2)
    rw [show q.1 + 1 - 1 = q.1 from by omega, show q.1 + 1 - 2 = q.1 - 1 from by omega] at hb2
    exact hb2
theorem worked_step (h5 : la (o + 5) = some 400) (h6 : la (o + 6) = some 400) (h7 : la (o + 7) = some 32) (ha : la a3 = some 7) (h1 : stepS F p q = some q1) (hle : e ≤ 400) (hie : i + (xs p).length ≤ e) (hc : ∀ j p', (xs p)[j]? = some p' → M (o + 5) (i + j) = p'.1 ∧ M (o + 6) (i + j) = p'.2) (hF : ∀ k, k < 7 → M a3 k = F k) (hs : ∀ j, j < q.1 → M (o + 7) j = q.2 j) (hq : q.1 ≤ 31) : ∃ M1, (∀ fuel, lp (fun s => w_X2_worked_10 o (nI e) a3 s.1 s.2.1 s.2.2) (fuel + (xs p).length) (nI q.1, nI i, M) = lp (fun s => w_X2_worked_10 o (nI e) a3 s.1 s.2.1 s.2.2) fuel (nI q1.1, nI (i + (xs p).length), M1)) ∧ (∀ j, j < q1.1 → M1 (o + 7) j = q1.2 j) ∧ q1.1 ≤ 31 ∧ Out (o + 7) (o + 8) M M1 := by
  have hne := xs_ne p
  unfold stepS at h1
  split at h1
  · rename_i hp7
    split at h1
    · rename_i ht
      cases h1
      obtain ⟨hl, hb⟩ := wstep_push (a3 := a3) (F := F) (q := q) (i := i) (e := e) h5 h6 h7 ha hp7 ht hle (by omega) hc hF
      rw [hl]
      exact ⟨_, fun fuel => lp_in hb, up2_sk (t := q.1 + 1) (fun k hk hk' => hs k (by omega)), ht, (Out.refl _ _ _).up (by omega) (by omega)⟩
    · cases h1
  · split at h1
    · rename_i h7' h26
      split at h1
      · rename_i ht
        cases h1
        have hxl : (xs p).length = 2 := by unfold xs; rw [if_neg (by omega), if_neg h7', if_pos h26]; rfl
        rw [hxl] at hie ⊢
        obtain ⟨hb, hb2⟩ := wstep_part (a3 := a3) (q := q) (i := i) (e := e) h5 h6 h7 h26 ht hle (by omega) hc hs
        refine ⟨_, fun fuel => (lp_in hb).trans (lp_in hb2), up2_sk (t := q.1) (fun k hk hk' => by rw [up2_slot _ _ _ (by omega)]; exact hs k hk), hq, ((Out.refl _ _ _).up (by omega) (by omega)).up (by omega) (by omega)⟩
      · cases h1
    · rename_i h7' h26
      split at h1
      · rename_i h30
        split at h1
        · rename_i ht
          cases h1
          obtain ⟨hl, hb⟩ := wstep_not (a3 := a3) (q := q) (i := i) (e := e) h5 h6 h7 h30 ht hq hle (by omega) hc hs
          rw [hl]
          exact ⟨_, fun fuel => lp_in hb, up2_sk (t := q.1) (fun k hk hk' => hs k hk), hq, (Out.refl _ _ _).up (by omega) (by omega)⟩
        · cases h1
      · rename_i h30
        split at h1
        · rename_i h23
          split at h1
          · rename_i ht
            cases h1
            obtain ⟨hl, hb⟩ := wstep_two (a3 := a3) (q := q) (i := i) (e := e) h5 h6 h7 h23 h26 h30 ht hq hle (by omega) hc hs
            rw [hl]
            exact ⟨_, fun fuel => lp_in hb, up2_sk (t := q.1 - 1) (fun k hk hk' => hs k (by omega)), (by show q.1 - 1 ≤ 31; omega), (Out.refl _ _ _).up (by omega) (by omega)⟩
          · cases h1
        · cases h1
end WSTEP
theorem worked_run (F : Nat → Int32) {o a3 : Nat} (h5 : la (o + 5) = some 400) (h6 : la (o + 6) = some 400) (h7 : la (o + 7) = some 32) (ha : la a3 = some 7) (hne : a3 ≠ o + 7) : ∀ (c : Cd) (q q' : Sk) (i e : Nat) (M : Mem) (fuel : Nat), runS F c q = some q' → e = i + (xC c).length → e ≤ 400 → (∀ j p, (xC c)[j]? = some p → M (o + 5) (i + j) = p.1 ∧ M (o + 6) (i + j) = p.2) → (∀ k, k < 7 → M a3 k = F k) → (∀ j, j < q.1 → M (o + 7) j = q.2 j) → q.1 ≤ 31 → (xC c).length < fuel → ∃ M', lp (fun s => w_X2_worked_10 o (nI e) a3 s.1 s.2.1 s.2.2) fuel (nI q.1, nI i, M) = some (nI q'.1, M') ∧ (∀ j, j < q'.1 → M' (o + 7) j = q'.2 j) ∧ Out (o + 7) (o + 8) M M'
  | [], q, q', i, e, M, 0, _, _, _, _, _, _, _, hf => absurd hf (Nat.not_lt_zero _)
  | [], q, q', i, e, M, fuel + 1, hr, he, hle, _, _, hs, _, _ => by
    cases hr
    refine ⟨M, lp_end ?_, hs, Out.refl _ _ _⟩
    simp only [w_X2_worked_10]
    rw [if_pos (.inl (by subst he; exact nI_le (by simp [xC]) (by simp [xC] at hle ⊢; omega)))]
  | p :: c, q, q', i, e, M, fuel, hr, he, hle, hc, hF, hs, hq, hf => by
    obtain ⟨q1, h1, h2⟩ := runS_cons hr
    have hx : xC (p :: c) = xs p ++ xC c := rfl
    rw [hx] at hc he hf
    rw [List.length_append] at he hf
    obtain ⟨M1, hb, hs1, hq1, hO⟩ := worked_step (F := F) (i := i) (e := e) h5 h6 h7 ha h1 hle (by omega) (fun j p' hj => hc j p' (get_app_l hj)) hF hs hq
    obtain ⟨M', e1, e2, e3⟩ := worked_run F h5 h6 h7 ha hne c q1 q' (i + (xs p).length) e M1 (fuel - (xs p).length) h2 (by omega) hle (by
      intro j p' hj
      rw [hO (o + 5) (by omega), hO (o + 6) (by omega), Nat.add_assoc]
      exact hc _ p' (get_app_r hj)) (fun k hk => by rw [hO a3 (by omega)]; exact hF k hk) hs1 hq1 (by omega)
    have hb := hb (fuel - (xs p).length)
    rw [Nat.sub_add_cancel (by omega)] at hb
    exact ⟨M', by rw [hb]; exact e1, e2, hO.trans e3⟩
