/-! ===== PURE PART: stalls, as they run ===== -/
theorem rem_v {nk : Nat} {T : Tb} (h : okRem nk T) {r : Nat} (hr : r < T.1) : T.2 r 1 = nI (vN T r 1) ∧ 1 ≤ vN T r 1 ∧ vN T r 1 ≤ 99 := by
  obtain ⟨k, s, _, h1, h2, _, h3, _⟩ := h r hr
  have : vN T r 1 = s := by unfold vN; rw [h3, nI_toInt (by omega)]; rfl
  rw [this]
  exact ⟨h3, h1, h2⟩
theorem zS_sN (T : Tb) (S : Nat) : ∀ n, zS (fun i => vN T i 1) S n = sN T S n
  | 0 => rfl
  | n + 1 => by
    show zS (fun i => vN T i 1) S n + (if S.testBit n then vN T n 1 else 0) = sN T S n + (if S.testBit n then vN T n 1 else 0)
    rw [zS_sN T S n]
theorem la_167 : la 167 = some 1024 := by decide +kernel
theorem la_152 : la 152 = some 1024 := by decide +kernel
theorem la_153 : la 153 = some 1024 := by decide +kernel
theorem pow10 {n : Nat} (h : n ≤ 10) : 2 ^ n ≤ 1024 := pow2_le h
theorem okR_ext {n c : Nat} {z R R' : Nat → Nat} {S : Nat} (h : okR n c z R S) (he : ∀ S', S' ≤ S → R' S' = R S') : okR n c z R' S := by
  obtain ⟨h1, h2, h3⟩ := h
  have e := he S (Nat.le_refl _)
  refine ⟨fun T v => ?_, ?_, by rw [e]; exact h3⟩
  · rw [e, he _ (Nat.le_of_lt (xor_sub_lt v.1 v.2.1))]; exact h1 T v
  · rcases h2 with y | ⟨T, v, y⟩
    · exact .inl (by rw [e]; exact y)
    · exact .inr ⟨T, v, by rw [e, he _ (Nat.le_of_lt (xor_sub_lt v.1 v.2.1))]; exact y⟩
theorem sbs_le {T S : Nat} (h : sbs T S) : T ≤ S := by
  have := sbs_and h
  rw [← this]
  exact Nat.and_le_right
section SRM
variable {A : AS} {M : Mem} {nk c : Nat}
theorem stm_inner (h : RMm 156 A M) (hok : okRem nk (A.2.1 4)) (hn : (A.2.1 4).1 ≤ 10) (hc : c ≤ 99) {S : Nat} {R : Nat → Nat} {M9 : Mem} (h0 : S ≠ 0) (hS : S < 2 ^ (A.2.1 4).1) (hO : Out 167 168 M M9) (hv : ∀ S', S' < S → M9 167 S' = nI (R S') ∧ R S' ≤ 100000) (h9 : M9 167 S = nI 100000) : Wq (lp (fun s => w_X11_stalls_62 (nI c) (nI S) s.1 s.2) FU (nI S, M9)) (fun M' => Out 167 168 M M' ∧ (∀ S', S' ≠ S → M' 167 S' = M9 167 S') ∧ ∃ r, M' 167 S = nI r ∧ r ≤ 100000 ∧ (∀ T, vld (A.2.1 4).1 c (fun i => vN (A.2.1 4) i 1) S T → r ≤ 1 + R (S ^^^ T)) ∧ (r = 100000 ∨ ∃ T, vld (A.2.1 4).1 c (fun i => vN (A.2.1 4) i 1) S T ∧ r = 1 + R (S ^^^ T))) := by
  have hp := pow10 hn
  refine lp_FU (I := fun s : Int32 × Mem => ∃ X r, s.1 = nI X ∧ sbs X S ∧ s.2 167 S = nI r ∧ r ≤ 100000 ∧ (∀ S', S' ≠ S → s.2 167 S' = M9 167 S') ∧ Out 167 168 M s.2 ∧ (∀ T, vld (A.2.1 4).1 c (fun i => vN (A.2.1 4) i 1) S T → X < T → r ≤ 1 + R (S ^^^ T)) ∧ (r = 100000 ∨ ∃ T, vld (A.2.1 4).1 c (fun i => vN (A.2.1 4) i 1) S T ∧ r = 1 + R (S ^^^ T))) (μ := fun s => s.1.toInt.toNat) ?_ (nI S, M9) ⟨S, 100000, rfl, fun i hi => hi, h9, Nat.le_refl _, fun S' _ => rfl, hO, fun T v hT => absurd (sbs_le v.1) (by omega), .inl rfl⟩ (by show (nI S).toInt.toNat < 1000000; rw [nI_toInt (by omega)]; show S < 1000000; omega)
  rintro ⟨x, Q⟩ ⟨X, r, hx, hX, hr, hr1, hne, hQ, hall, hex⟩
  simp only at hx hr hne hQ
  subst hx
  have hXS := sbs_le hX
  unfold w_X11_stalls_62
  try simp only
  by_cases hX0 : X = 0
  · rw [if_pos (by rw [hX0]; decide)]
    exact .inr ⟨_, rfl, hQ, hne, r, hr, hr1, fun T v => hall T v (by have := v.2.1; omega), hex⟩
  · have hRQ := h.out hQ (by omega)
    have hsum : f_X11_sumOf (nI X) Q = some (nI (zS (fun i => vN (A.2.1 4) i 1) X (A.2.1 4).1)) := by
      rw [sumOf_ok hRQ (by omega), sum_nI hok X (A.2.1 4).1 (Nat.le_refl _), zS_sN]
    have hsl : zS (fun i => vN (A.2.1 4) i 1) X (A.2.1 4).1 ≤ 990 := by
      rw [zS_sN]
      have := sN_le hok X (A.2.1 4).1 (Nat.le_refl _)
      omega
    have enx : (nI X - 1) &&& nI S = nI ((X - 1) &&& S) := by rw [nI_dec' (by omega), nI_and]
    have hY : sbs ((X - 1) &&& S) S := and_sbs _ _
    have hlt : (X - 1) &&& S < X := by
      have : (X - 1) &&& S ≤ X - 1 := Nat.and_le_left
      omega
    have hmu : (nI ((X - 1) &&& S)).toInt.toNat < (nI X).toInt.toNat := by
      rw [nI_toInt (by omega), nI_toInt (by omega)]
      show (X - 1) &&& S < X
      exact hlt
    have hcov : ∀ T, vld (A.2.1 4).1 c (fun i => vN (A.2.1 4) i 1) S T → (X - 1) &&& S < T → T = X ∨ X < T := by
      intro T v hT
      rcases Nat.lt_trichotomy T X with y | y | y
      · have := and_sub_le X S T (sbs_and hX) (sbs_and v.1) y
        omega
      · exact .inl y
      · exact .inr y
    rw [if_neg (by
      intro z
      have z : nI X ≤ nI 0 := z
      rw [nI_le_iff (by omega) (by omega)] at z; omega), hsum, b1_some, enx]
    by_cases hfit : c < zS (fun i => vN (A.2.1 4) i 1) X (A.2.1 4).1
    · rw [if_pos ((nI_lt_iff (by omega) (by omega)).2 hfit)]
      refine .inl ⟨_, rfl, ⟨(X - 1) &&& S, r, rfl, hY, hr, hr1, hne, hQ, fun T v hT => ?_, hex⟩, hmu⟩
      rcases hcov T v hT with y | y
      · rw [y] at v
        have := v.2.2
        omega
      · exact hall T v y
    · have hxs := xor_sub_lt hX hX0
      obtain ⟨v1, v2⟩ := hv (S ^^^ X) hxs
      have e16 : Q 167 (S ^^^ X) = nI (R (S ^^^ X)) := by rw [hne _ (by omega)]; exact v1
      have vX : vld (A.2.1 4).1 c (fun i => vN (A.2.1 4) i 1) S X := ⟨hX, hX0, by omega⟩
      have els : f_X11_lesser (nI r) (1 + nI (R (S ^^^ X))) = nI (min r (1 + R (S ^^^ X))) := by
        have e1 : (1 : Int32) + nI (R (S ^^^ X)) = nI (1 + R (S ^^^ X)) := nI_add 1 _
        rw [lesser_min, e1, nI_min (by omega) (by omega)]
      rw [if_neg (fun y => hfit ((nI_lt_iff (by omega) (by omega)).1 y)), rd_nI la_167 (by omega) (by omega), b1_some, nI_andnot (by omega) (by omega) hX, rd_nI la_167 (by omega) (by omega), b1_some, hr, e16, els, wr_nI la_167 (by omega) (by omega), b1_some]
      refine .inl ⟨_, rfl, ⟨(X - 1) &&& S, min r (1 + R (S ^^^ X)), rfl, hY, (by simp only; exact up2_at _ _ _ _), by omega, fun S' hS' => by simp only; rw [up2_slot _ _ _ hS']; exact hne S' hS', hQ.up (by omega) (by omega), fun T v hT => ?_, ?_⟩, hmu⟩
      · rcases hcov T v hT with y | y
        · rw [y]; omega
        · have := hall T v y
          omega
      · by_cases hmin : r ≤ 1 + R (S ^^^ X)
        · rw [Nat.min_eq_left hmin]; exact hex
        · rw [Nat.min_eq_right (by omega)]; exact .inr ⟨X, vX, rfl⟩
theorem stallsm_run (h : RMm 156 A M) (hok : okRem nk (A.2.1 4)) (hn : (A.2.1 4).1 ≤ 10) (hc : c ≤ 99) : Wq (lp (fun s => w_X11_stalls_45 (nI c) (nI (2 ^ (A.2.1 4).1 - 1)) s.1 s.2) FU (1, up2 M 167 0 0)) (fun M' => Out 167 168 M M' ∧ ∃ R : Nat → Nat, R 0 = 0 ∧ (∀ S, S < 2 ^ (A.2.1 4).1 → M' 167 S = nI (R S)) ∧ ∀ S, S ≠ 0 → S < 2 ^ (A.2.1 4).1 → okR (A.2.1 4).1 c (fun i => vN (A.2.1 4) i 1) R S) := by
  have hp := pow10 hn
  have hp1 : 0 < 2 ^ (A.2.1 4).1 := Nat.pow_pos (by omega)
  refine lp_to (fun k s => s.1 = nI (k + 1) ∧ Out 167 168 M s.2 ∧ ∃ R : Nat → Nat, R 0 = 0 ∧ (∀ S, S ≤ k → s.2 167 S = nI (R S)) ∧ ∀ S, S ≠ 0 → S ≤ k → okR (A.2.1 4).1 c (fun i => vN (A.2.1 4) i 1) R S) (2 ^ (A.2.1 4).1 - 1) ?_ ?_ _ ⟨rfl, (Out.refl _ _ _).up (by omega) (by omega), fun _ => 0, rfl, fun S hS => by
    have : S = 0 := by omega
    rw [this]; show up2 M 167 0 0 167 0 = 0; exact up2_at _ _ _ _, fun S h0 hS => absurd hS (by omega)⟩ (by omega)
  · rintro k ⟨i, Q⟩ hk ⟨hi, hO, R, r0, r1, r2⟩
    simp only at hi hO r1
    subst hi
    unfold w_X11_stalls_45
    try simp only
    rw [if_neg (by rw [nI_lt_iff (by omega) (by omega)]; omega), wr_nI la_167 (by omega) (by omega), b1_some]
    obtain ⟨M', e, a1, a2, r, a3, a4, a5, a6⟩ := stm_inner (S := k + 1) (R := R) (M9 := up2 Q 167 (k + 1) 100000) h hok hn hc (by omega) (by omega) (hO.up (by omega) (by omega)) (fun S' hS' => ⟨by rw [up2_slot _ _ _ (by omega)]; exact r1 S' (by omega), by
      by_cases e : S' = 0
      · rw [e, r0]; omega
      · exact (r2 S' e (by omega)).2.2⟩) (up2_at _ _ _ _)
    rw [e, b1_some, nI_inc]
    have hext : ∀ S', S' ≤ k → (fun S' => if S' = k + 1 then r else R S') S' = R S' := fun S' hS' => by show (if S' = k + 1 then r else R S') = R S'; rw [if_neg (by omega)]
    refine ⟨_, rfl, rfl, a1, fun S' => if S' = k + 1 then r else R S', by show (if 0 = k + 1 then r else R 0) = 0; rw [if_neg (by omega)]; exact r0, fun S' hS' => ?_, fun S' h0 hS' => ?_⟩
    · show M' 167 S' = nI (if S' = k + 1 then r else R S')
      by_cases e2 : S' = k + 1
      · rw [if_pos e2, e2]; exact a3
      · rw [if_neg e2, a2 S' e2, up2_slot _ _ _ e2]; exact r1 S' (by omega)
    · by_cases e2 : S' = k + 1
      · subst e2
        have hx : ∀ T, vld (A.2.1 4).1 c (fun i => vN (A.2.1 4) i 1) (k + 1) T → (fun S' => if S' = k + 1 then r else R S') ((k + 1) ^^^ T) = R ((k + 1) ^^^ T) := fun T v => by
          have := xor_sub_lt v.1 v.2.1
          exact hext _ (by omega)
        have hkk : (fun S' => if S' = k + 1 then r else R S') (k + 1) = r := if_pos rfl
        refine ⟨fun T v => by rw [hx T v, hkk]; exact a5 T v, ?_, by rw [hkk]; exact a4⟩
        rcases a6 with y | ⟨T, v, y⟩
        · exact .inl (by rw [hkk]; exact y)
        · exact .inr ⟨T, v, by rw [hx T v, hkk]; exact y⟩
      · exact okR_ext (r2 S' h0 (by omega)) (fun S'' h'' => hext S'' (by omega))
  · rintro ⟨i, Q⟩ ⟨hi, hO, R, r0, r1, r2⟩
    simp only at hi hO r1
    subst hi
    unfold w_X11_stalls_45
    try simp only
    rw [if_pos (by rw [nI_lt_iff (by omega) (by omega)]; omega)]
    exact ⟨_, rfl, hO, R, r0, fun S hS => r1 S (by omega), fun S h0 hS => r2 S h0 (by omega)⟩
end SRM
/-! the class -/
theorem layLast_ok {S o z c b f b0 : Nat} {M : Mem} (hS : S < 1024) (ho : o < 1024) (hb : M 152 o = nI b) (hf : M 153 o = nI f) (hb0 : M 152 S = nI b0) (h1 : b ≤ 1100) (h2 : f ≤ 99) (h3 : z ≤ 99) (h4 : c ≤ 99) (h5 : b0 ≤ 1000000) (hf0 : b0 ≤ 2000 → ∃ f0, f0 ≤ 99 ∧ M 153 S = nI f0) : Wq (f_X0_layLast (nI S) (nI o) (nI z) (nI c) M) (fun M' => Out 152 154 M M' ∧ (∀ S', S' ≠ S → M' 152 S' = M 152 S' ∧ M' 153 S' = M 153 S') ∧ ((M' 152 S = nI (stp c b f z).1 ∧ M' 153 S = nI (stp c b f z).2 ∧ (2000 < b0 ∨ ∃ f0, f0 ≤ 99 ∧ M 153 S = nI f0 ∧ lxl (stp c b f z) (b0, f0))) ∨ (M' = M ∧ ∃ f0, f0 ≤ 99 ∧ M 153 S = nI f0 ∧ lxl (b0, f0) (stp c b f z)))) := by
  have l152 : ln 152 = some (nI 1024) := by unfold ln; rw [la_152]; rfl
  have wr2 : ∀ (x y : Int32), Out 152 154 M (up2 (up2 M 152 S x) 153 S y) := fun x y => ((Out.refl _ _ _).up (by omega) (by omega)).up (by omega) (by omega)
  have oth : ∀ (x y : Int32) S', S' ≠ S → up2 (up2 M 152 S x) 153 S y 152 S' = M 152 S' ∧ up2 (up2 M 152 S x) 153 S y 153 S' = M 153 S' := fun x y S' h => ⟨by rw [up2_cell _ _ _ (by omega), up2_slot _ _ _ h], by rw [up2_slot _ _ _ h, up2_cell _ _ _ (by omega)]⟩
  have own : ∀ (x y : Int32), up2 (up2 M 152 S x) 153 S y 152 S = x ∧ up2 (up2 M 152 S x) 153 S y 153 S = y := fun x y => ⟨by rw [up2_cell _ _ _ (by omega), up2_at], up2_at _ _ _ _⟩
  unfold f_X0_layLast
  rw [if_neg (nI_nneg (by omega)), l152, b1_some, if_neg (by
    rintro (y | y)
    · rw [nI_le_iff (by omega) (by omega)] at y; omega
    · exact nI_nneg (by omega) y), b1_some, if_pos (by rw [nI_lt_iff (by omega) (by omega)]; omega), rd_nI la_153 (by omega) (by omega), b1_some, lt_eq, hf, nI_add]
  by_cases fit : f + z ≤ c
  · have es : stp c b f z = (b, f + z) := by unfold stp; rw [if_pos fit]
    have hx : (if nI c < nI (f + z) then (0 : Int32) else 1) = 1 := if_neg (by rw [nI_lt_iff (by omega) (by omega)]; omega)
    rw [hx, if_neg (by decide), rd_nI la_152 (by omega) (by omega), b1_some, if_neg (by decide), rd_nI la_153 (by omega) (by omega), b1_some, rd_nI la_152 (by omega) (by omega), b1_some, hb, hb0, nI_add, es]
    by_cases lt1 : b < b0
    · rw [if_pos ((nI_lt_iff (by omega) (by omega)).2 lt1), wr_nI la_152 (by omega) (by omega), b1_some, wr_nI la_153 (by omega) (by omega), b1_some]
      refine wq_some ⟨wr2 _ _, oth _ _, .inl ⟨(own _ _).1, (own _ _).2, ?_⟩⟩
      rcases Nat.lt_or_ge 2000 b0 with y | y
      · exact .inl y
      · obtain ⟨f0, g1, g2⟩ := hf0 y
        exact .inr ⟨f0, g1, g2, .inl lt1⟩
    · rw [if_neg (fun y => lt1 ((nI_lt_iff (by omega) (by omega)).1 y)), b1_some]
      obtain ⟨f0, g1, g2⟩ := hf0 (by omega)
      by_cases eq1 : b = b0
      · rw [if_pos (by rw [eq1]), b1_some, g2]
        by_cases le1 : f0 ≤ f + z
        · rw [if_pos ((nI_le_iff (by omega) (by omega)).2 le1)]
          exact wq_some ⟨Out.refl _ _ _, fun S' _ => ⟨rfl, rfl⟩, .inr ⟨rfl, f0, g1, rfl, .inr ⟨eq1.symm, le1⟩⟩⟩
        · rw [if_neg (fun y => le1 ((nI_le_iff (by omega) (by omega)).1 y)), wr_nI la_152 (by omega) (by omega), b1_some, wr_nI la_153 (by omega) (by omega), b1_some]
          exact wq_some ⟨wr2 _ _, oth _ _, .inl ⟨(own _ _).1, (own _ _).2, .inr ⟨f0, g1, rfl, .inr ⟨eq1, by simp only; omega⟩⟩⟩⟩
      · rw [if_neg (fun y => eq1 ((nI_eq_iff (by omega) (by omega)).1 y))]
        exact wq_some ⟨Out.refl _ _ _, fun S' _ => ⟨rfl, rfl⟩, .inr ⟨rfl, f0, g1, g2, .inl (by simp only; omega)⟩⟩
  · have es : stp c b f z = (b + 1, z) := by unfold stp; rw [if_neg fit]
    have hx : (if nI c < nI (f + z) then (0 : Int32) else 1) = 0 := if_pos (by rw [nI_lt_iff (by omega) (by omega)]; omega)
    rw [hx, if_pos rfl, rd_nI la_152 (by omega) (by omega), b1_some, if_pos rfl, rd_nI la_152 (by omega) (by omega), b1_some, hb, hb0, nI_inc, es]
    by_cases lt1 : b + 1 < b0
    · rw [if_pos ((nI_lt_iff (by omega) (by omega)).2 lt1), wr_nI la_152 (by omega) (by omega), b1_some, wr_nI la_153 (by omega) (by omega), b1_some]
      refine wq_some ⟨wr2 _ _, oth _ _, .inl ⟨(own _ _).1, (own _ _).2, ?_⟩⟩
      rcases Nat.lt_or_ge 2000 b0 with y | y
      · exact .inl y
      · obtain ⟨f0, g1, g2⟩ := hf0 y
        exact .inr ⟨f0, g1, g2, .inl lt1⟩
    · rw [if_neg (fun y => lt1 ((nI_lt_iff (by omega) (by omega)).1 y)), b1_some]
      obtain ⟨f0, g1, g2⟩ := hf0 (by omega)
      by_cases eq1 : b + 1 = b0
      · rw [if_pos (by rw [eq1]), rd_nI la_153 (by omega) (by omega), b1_some, g2]
        by_cases le1 : f0 ≤ z
        · rw [if_pos ((nI_le_iff (by omega) (by omega)).2 le1)]
          exact wq_some ⟨Out.refl _ _ _, fun S' _ => ⟨rfl, rfl⟩, .inr ⟨rfl, f0, g1, rfl, .inr ⟨eq1.symm, le1⟩⟩⟩
        · rw [if_neg (fun y => le1 ((nI_le_iff (by omega) (by omega)).1 y)), wr_nI la_152 (by omega) (by omega), b1_some, wr_nI la_153 (by omega) (by omega), b1_some]
          exact wq_some ⟨wr2 _ _, oth _ _, .inl ⟨(own _ _).1, (own _ _).2, .inr ⟨f0, g1, rfl, .inr ⟨eq1, by simp only; omega⟩⟩⟩⟩
      · rw [if_neg (fun y => eq1 ((nI_eq_iff (by omega) (by omega)).1 y))]
        exact wq_some ⟨Out.refl _ _ _, fun S' _ => ⟨rfl, rfl⟩, .inr ⟨rfl, f0, g1, g2, .inl (by simp only; omega)⟩⟩
/-- how the class lays a set -/
def okD2 (c : Nat) (z b f : Nat → Nat) (S : Nat) : Prop := okD c z b f S ∧ b S ≤ S ∧ f S ≤ 99
theorem clr_lt {S p : Nat} (h : S.testBit p = true) : S ^^^ 2 ^ p < S := xor_sub_lt (fun i hi => by
  rw [Nat.testBit_two_pow] at hi
  have : p = i := by simpa using hi
  rw [← this]; exact h) (by have := Nat.pow_pos (n := p) (show 0 < 2 by omega); omega)
theorem okD_ext {c : Nat} {z b f b' f' : Nat → Nat} {S : Nat} (h : okD2 c z b f S) (he : ∀ S', S' ≤ S → b' S' = b S' ∧ f' S' = f S') : okD2 c z b' f' S := by
  obtain ⟨⟨h1, p, h2, h3⟩, h4, h5⟩ := h
  have e := he S (Nat.le_refl _)
  refine ⟨⟨fun q hq => ?_, p, h2, ?_⟩, by rw [e.1]; exact h4, by rw [e.2]; exact h5⟩
  · have e2 := he _ (Nat.le_of_lt (clr_lt hq))
    rw [e.1, e.2, e2.1, e2.2]; exact h1 q hq
  · have e2 := he _ (Nat.le_of_lt (clr_lt h2))
    rw [e.1, e.2, e2.1, e2.2]; exact h3
section SRC
variable {T : Tb} {M : Mem} {nk c a1 : Nat}
theorem stc_inner (hT : RR a1 14 5 T M) (ha : a1 + 1 < 152) (hok : okRem nk T) (hn : T.1 ≤ 10) (hc1 : 1 ≤ c) (hc : c ≤ 99) (hz : ∀ p, p < T.1 → vN T p 1 ≤ c) {S : Nat} {b f : Nat → Nat} {M9 : Mem} (h0 : S ≠ 0) (hS : S < 2 ^ T.1) (hO : Out 152 154 M M9) (hv : ∀ S', S' < S → M9 152 S' = nI (b S') ∧ M9 153 S' = nI (f S') ∧ b S' ≤ S' ∧ f S' ≤ 99) (h9 : M9 152 S = nI 1000000) : Wq (lp (fun s => w_X0_fewestStalls_90 a1 (nI c) M (nI S) s.1 s.2) FU (0, M9)) (fun M' => Out 152 154 M M' ∧ (∀ S', S' ≠ S → M' 152 S' = M9 152 S' ∧ M' 153 S' = M9 153 S') ∧ ∃ b0 f0, M' 152 S = nI b0 ∧ M' 153 S = nI f0 ∧ b0 ≤ S ∧ f0 ≤ 99 ∧ (∀ p, S.testBit p = true → lxl (b0, f0) (stp c (b (S ^^^ 2 ^ p)) (f (S ^^^ 2 ^ p)) (vN T p 1))) ∧ ∃ p, S.testBit p = true ∧ (b0, f0) = stp c (b (S ^^^ 2 ^ p)) (f (S ^^^ 2 ^ p)) (vN T p 1)) := by
  have hp := pow10 hn
  refine lp_to (fun k s => s.1 = nI k ∧ Out 152 154 M s.2 ∧ (∀ S', S' ≠ S → s.2 152 S' = M9 152 S' ∧ s.2 153 S' = M9 153 S') ∧ (((∀ p, p < k → S.testBit p = false) ∧ s.2 152 S = nI 1000000) ∨ ∃ b0 f0, s.2 152 S = nI b0 ∧ s.2 153 S = nI f0 ∧ b0 ≤ S ∧ f0 ≤ 99 ∧ (∀ p, p < k → S.testBit p = true → lxl (b0, f0) (stp c (b (S ^^^ 2 ^ p)) (f (S ^^^ 2 ^ p)) (vN T p 1))) ∧ ∃ p, S.testBit p = true ∧ (b0, f0) = stp c (b (S ^^^ 2 ^ p)) (f (S ^^^ 2 ^ p)) (vN T p 1))) T.1 ?_ ?_ _ ⟨rfl, hO, fun S' _ => ⟨rfl, rfl⟩, .inl ⟨fun p hp => absurd hp (Nat.not_lt_zero _), h9⟩⟩ (by omega)
  · rintro k ⟨i, Q⟩ hk ⟨hi, hQ, hne, hor⟩
    simp only at hi hQ hne hor
    subst hi
    unfold w_X0_fewestStalls_90
    try simp only
    rw [hT.cnt, if_neg (by rw [nI_le_iff (by omega) (by omega)]; omega), isIn_nI (by omega) (by omega)]
    cases hb : S.testBit k with
    | false =>
      rw [if_pos (by decide), nI_inc]
      refine ⟨_, rfl, rfl, hQ, hne, ?_⟩
      rcases hor with ⟨g1, g2⟩ | ⟨b0, f0, g1, g2, g3, g4, g5, g6⟩
      · left
        refine ⟨fun p hp => ?_, g2⟩
        by_cases e : p = k
        · rw [e]; exact hb
        · exact g1 p (by omega)
      · right
        refine ⟨b0, f0, g1, g2, g3, g4, fun p hp hpb => ?_, g6⟩
        by_cases e : p = k
        · rw [e, hb] at hpb; cases hpb
        · exact g5 p (by omega) hpb
    | true =>
      obtain ⟨z1, z2, z3⟩ := rem_v hok hk
      have hcl := clr_lt hb
      obtain ⟨v1, v2, v3, v4⟩ := hv (S ^^^ 2 ^ k) hcl
      have q1 := hne (S ^^^ 2 ^ k) (by omega)
      have hRQ := hT.out hQ (by omega)
      have e2 : nI S ^^^ ((1 : Int32) <<< (nI k &&& 31)) = nI (S ^^^ 2 ^ k) := by rw [nI_shl k (by omega), nI_xor]
      rw [if_pos rfl, if_neg (by decide), at_lit hRQ 1 rfl hk (by omega), b1_some, z1, e2]
      have hzk := hz k hk
      have hst : (stp c (b (S ^^^ 2 ^ k)) (f (S ^^^ 2 ^ k)) (vN T k 1)).1 ≤ S ∧ (stp c (b (S ^^^ 2 ^ k)) (f (S ^^^ 2 ^ k)) (vN T k 1)).2 ≤ 99 := by
        unfold stp
        by_cases y : f (S ^^^ 2 ^ k) + vN T k 1 ≤ c
        · rw [if_pos y]; exact ⟨by simp only; omega, by simp only; omega⟩
        · rw [if_neg y]; exact ⟨by simp only; omega, by simp only; omega⟩
      obtain ⟨b0, hb0, hb0l, hb0f⟩ : ∃ b0, Q 152 S = nI b0 ∧ b0 ≤ 1000000 ∧ (b0 ≤ 2000 → ∃ f0, f0 ≤ 99 ∧ Q 153 S = nI f0) := by
        rcases hor with ⟨g1, g2⟩ | ⟨b0, f0, g1, g2, g3, g4, g5, g6⟩
        · exact ⟨1000000, g2, Nat.le_refl _, fun y => absurd y (by omega)⟩
        · exact ⟨b0, g1, by omega, fun _ => ⟨f0, g4, g2⟩⟩
      obtain ⟨M', l0, l1, l2, l3⟩ := layLast_ok (S := S) (o := S ^^^ 2 ^ k) (z := vN T k 1) (c := c) (by omega) (by omega) (by rw [q1.1]; exact v1) (by rw [q1.2]; exact v2) hb0 (by omega) v4 (by omega) hc hb0l hb0f
      rw [l0, b1_some, nI_inc]
      refine ⟨_, rfl, rfl, hQ.trans l1, fun S' hS' => ⟨(l2 S' hS').1.trans (hne S' hS').1, (l2 S' hS').2.trans (hne S' hS').2⟩, .inr ?_⟩
      rcases l3 with ⟨w1, w2, w3⟩ | ⟨w1, f0, w2, w3, w4⟩
      · refine ⟨_, _, w1, w2, hst.1, hst.2, fun p hp hpb => ?_, k, hb, rfl⟩
        by_cases e : p = k
        · rw [e]; exact .inr ⟨rfl, Nat.le_refl _⟩
        · rcases hor with ⟨g1, g2⟩ | ⟨b1, f1, g1, g2, g3, g4, g5, g6⟩
          · rw [g1 p (by omega)] at hpb; cases hpb
          · have e1 : b0 = b1 := (nI_eq_iff (by omega) (by omega)).1 (hb0.symm.trans g1)
            rcases w3 with y | ⟨f0, y1, y2, y3⟩
            · omega
            · have e3 : f0 = f1 := (nI_eq_iff (by omega) (by omega)).1 (y2.symm.trans g2)
              rw [e1, e3] at y3
              exact y3.trans (g5 p (by omega) hpb)
      · rw [w1]
        rcases hor with ⟨g1, g2⟩ | ⟨b1, f1, g1, g2, g3, g4, g5, g6⟩
        · have e1 : b0 = 1000000 := (nI_eq_iff (by omega) (by omega)).1 (hb0.symm.trans g2)
          unfold lxl at w4
          simp only at w4
          omega
        · have e1 : b0 = b1 := (nI_eq_iff (by omega) (by omega)).1 (hb0.symm.trans g1)
          have e3 : f0 = f1 := (nI_eq_iff (by omega) (by omega)).1 (w3.symm.trans g2)
          refine ⟨b1, f1, g1, g2, g3, g4, fun p hp hpb => ?_, g6⟩
          by_cases e : p = k
          · rw [e, ← e1, ← e3]; exact w4
          · exact g5 p (by omega) hpb
  · rintro ⟨i, Q⟩ ⟨hi, hQ, hne, hor⟩
    simp only at hi hQ hne hor
    subst hi
    unfold w_X0_fewestStalls_90
    try simp only
    rw [hT.cnt, if_pos (by rw [nI_le_iff (by omega) (by omega)]; omega)]
    rcases hor with ⟨g1, g2⟩ | ⟨b0, f0, g1, g2, g3, g4, g5, g6⟩
    · obtain ⟨p, hp'⟩ := Nat.exists_testBit_of_ne_zero h0
      rw [g1 p (bit_lt hS hp')] at hp'
      cases hp'
    · exact ⟨_, rfl, hQ, hne, b0, f0, g1, g2, g3, g4, fun p hpb => g5 p (bit_lt hS hpb) hpb, g6⟩
theorem stallsc_run (hT : RR a1 14 5 T M) (ha : a1 + 1 < 152) (hok : okRem nk T) (hn : T.1 ≤ 10) (hc1 : 1 ≤ c) (hc : c ≤ 99) (hz : ∀ p, p < T.1 → vN T p 1 ≤ c) : Wq (lp (fun s => w_X0_fewestStalls_71 a1 (nI c) M (nI (2 ^ T.1)) s.1 s.2) FU (1, up2 (up2 M 152 0 0) 153 0 (nI c))) (fun M' => Out 152 154 M M' ∧ ∃ b f : Nat → Nat, b 0 = 0 ∧ f 0 = c ∧ (∀ S, S < 2 ^ T.1 → M' 152 S = nI (b S)) ∧ ∀ S, S ≠ 0 → S < 2 ^ T.1 → okD c (fun i => vN T i 1) b f S) := by
  have hp := pow10 hn
  have hp1 : 0 < 2 ^ T.1 := Nat.pow_pos (by omega)
  refine lp_to (fun k s => s.1 = nI (k + 1) ∧ Out 152 154 M s.2 ∧ ∃ b f : Nat → Nat, b 0 = 0 ∧ f 0 = c ∧ (∀ S, S ≤ k → s.2 152 S = nI (b S) ∧ s.2 153 S = nI (f S)) ∧ ∀ S, S ≠ 0 → S ≤ k → okD2 c (fun i => vN T i 1) b f S) (2 ^ T.1 - 1) ?_ ?_ _ ⟨rfl, ((Out.refl _ _ _).up (by omega) (by omega)).up (by omega) (by omega), fun _ => 0, fun _ => c, rfl, rfl, fun S hS => by
    have : S = 0 := by omega
    rw [this]
    exact ⟨by show up2 (up2 M 152 0 0) 153 0 (nI c) 152 0 = 0; rw [up2_cell _ _ _ (by omega), up2_at], by show up2 (up2 M 152 0 0) 153 0 (nI c) 153 0 = nI c; exact up2_at _ _ _ _⟩, fun S h0 hS => absurd hS (by omega)⟩ (by omega)
  · rintro k ⟨i, Q⟩ hk ⟨hi, hO, b, f, b0, f0, r1, r2⟩
    simp only at hi hO r1
    subst hi
    unfold w_X0_fewestStalls_71
    try simp only
    rw [if_neg (by rw [nI_le_iff (by omega) (by omega)]; omega), wr_nI la_152 (by omega) (by omega), b1_some]
    obtain ⟨M', e, x1, x2, bb, ff, x3, x4, x5, x6, x7, x8⟩ := stc_inner (S := k + 1) (b := b) (f := f) (M9 := up2 Q 152 (k + 1) 1000000) hT ha hok hn hc1 hc hz (by omega) (by omega) (hO.up (by omega) (by omega)) (fun S' hS' => ⟨by rw [up2_slot _ _ _ (by omega)]; exact (r1 S' (by omega)).1, by rw [up2_cell _ _ _ (by omega)]; exact (r1 S' (by omega)).2, by
      by_cases e : S' = 0
      · rw [e, b0]; omega
      · exact (r2 S' e (by omega)).2.1, by
      by_cases e : S' = 0
      · rw [e, f0]; omega
      · exact (r2 S' e (by omega)).2.2⟩) (up2_at _ _ _ _)
    rw [e, b1_some, nI_inc]
    have hext : ∀ S', S' ≤ k → (fun S' => if S' = k + 1 then bb else b S') S' = b S' ∧ (fun S' => if S' = k + 1 then ff else f S') S' = f S' := fun S' hS' => ⟨by show (if S' = k + 1 then bb else b S') = b S'; rw [if_neg (by omega)], by show (if S' = k + 1 then ff else f S') = f S'; rw [if_neg (by omega)]⟩
    refine ⟨_, rfl, rfl, x1, fun S' => if S' = k + 1 then bb else b S', fun S' => if S' = k + 1 then ff else f S', by rw [(hext 0 (by omega)).1]; exact b0, by rw [(hext 0 (by omega)).2]; exact f0, fun S' hS' => ?_, fun S' h0 hS' => ?_⟩
    · show M' 152 S' = nI (if S' = k + 1 then bb else b S') ∧ M' 153 S' = nI (if S' = k + 1 then ff else f S')
      by_cases e2 : S' = k + 1
      · rw [if_pos e2, if_pos e2, e2]; exact ⟨x3, x4⟩
      · rw [if_neg e2, if_neg e2, (x2 S' e2).1, (x2 S' e2).2, up2_slot _ _ _ e2, up2_cell _ _ _ (by omega)]; exact r1 S' (by omega)
    · by_cases e2 : S' = k + 1
      · subst e2
        have hkb : (fun S' => if S' = k + 1 then bb else b S') (k + 1) = bb := if_pos rfl
        have hkf : (fun S' => if S' = k + 1 then ff else f S') (k + 1) = ff := if_pos rfl
        have hx : ∀ p, (k + 1).testBit p = true → (fun S' => if S' = k + 1 then bb else b S') ((k + 1) ^^^ 2 ^ p) = b ((k + 1) ^^^ 2 ^ p) ∧ (fun S' => if S' = k + 1 then ff else f S') ((k + 1) ^^^ 2 ^ p) = f ((k + 1) ^^^ 2 ^ p) := fun p hp => by
          have := clr_lt hp
          exact hext _ (by omega)
        refine ⟨⟨fun p hp => ?_, ?_⟩, by rw [hkb]; exact x5, by rw [hkf]; exact x6⟩
        · rw [hkb, hkf, (hx p hp).1, (hx p hp).2]; exact x7 p hp
        · obtain ⟨p, hp, y⟩ := x8
          exact ⟨p, hp, by rw [hkb, hkf, (hx p hp).1, (hx p hp).2]; exact y⟩
      · exact okD_ext (r2 S' h0 (by omega)) (fun S'' h'' => hext S'' (by omega))
  · rintro ⟨i, Q⟩ ⟨hi, hO, b, f, b0, f0, r1, r2⟩
    simp only at hi hO r1
    subst hi
    unfold w_X0_fewestStalls_71
    try simp only
    rw [if_pos (by rw [nI_le_iff (by omega) (by omega)]; omega)]
    exact ⟨_, rfl, hO, b, f, b0, f0, fun S hS => (r1 S (by omega)).1, fun S h0 hS => (r2 S h0 (by omega)).1⟩
end SRC
theorem c_stalls (a : Int32) {M : Mem} (h : Inv M) : ∃ M1 M2 r, f_X10_stalls a M = some (M1, r) ∧ f_X11_stalls a M1 = some (M2, r) ∧ Inv M2 := by
  refine both_ok (fc := fun M => f_X10_stalls a M) (fm := fun M => f_X11_stalls a M) h ?_
  rintro ⟨A, I, P, tp, ft⟩ hC hM hG
  have hT : RR (1 + 9) 14 5 (A.2.1 4) M := hC.1.t4
  have hok : okRem (A.2.1 0).1 (A.2.1 4) := hG.1.2.1.2.1
  have hle : (A.2.1 4).1 ≤ 14 := hT.le
  have hcM : ∀ M1, InvM (A, I, P, tp, ft) M1 → M1 156 7 = nI (A.2.1 4).1 := fun M1 h1 => ans_m 4 (by omega) h1
  rcases rng_cases a 1 99 (by omega) (by omega) with z | ⟨c, hc1, hc, rfl⟩
  · refine ⟨(A, I, P, tp, ft), -1, hG, ?_, fun M1 hM1 => ?_⟩
    · show Wq (f_X10_stalls a M) _
      unfold f_X10_stalls
      rw [if_pos (show f_X10_within a 1 99 = 0 from (within0 _ _ _).2 z)]
      exact wq_some ⟨rfl, hC, Hi.refl _⟩
    · show Wq (f_X11_stalls a M1) _
      unfold f_X11_stalls
      rw [if_pos (.inl (show f_X11_isIn a 1 99 = 0 from (isInm0 _ _ _).2 z))]
      exact wq_some ⟨rfl, hM1, Lo.refl _⟩
  · have w0 : ¬ f_X10_within (nI c) 1 99 = 0 := by
      rw [within0]
      rintro (y | y)
      · have y : nI c < nI 1 := y
        rw [nI_lt_iff (by omega) (by omega)] at y; omega
      · have y : nI 99 < nI c := y
        rw [nI_lt_iff (by omega) (by omega)] at y; omega
    have w1 : ¬ f_X11_isIn (nI c) 1 99 = 0 := by
      rw [isInm0]
      rintro (y | y)
      · have y : nI c < nI 1 := y
        rw [nI_lt_iff (by omega) (by omega)] at y; omega
      · have y : nI 99 < nI c := y
        rw [nI_lt_iff (by omega) (by omega)] at y; omega
    have e10 : ∀ m, m ≤ 14 → ((nI m ≤ 10) ↔ m ≤ 10) := fun m hm => nI_le_iff (b := 10) (by omega) (by omega)
    by_cases hn : (A.2.1 4).1 ≤ 10
    · have hp := pow10 hn
      have hp1 : 0 < 2 ^ (A.2.1 4).1 := Nat.pow_pos (by omega)
      have efirst := lp_first (body := fun s => w_X0_fewestStalls_16 (1 + 9) (nI c) M s) (fun j => decide (c < vN (A.2.1 4) j 1)) (fun r => match r with | some _ => Sum.inl () | none => Sum.inr ()) (A.2.1 4).1 (by
        intro j hj hp
        have hp : ¬ c < vN (A.2.1 4) j 1 := by simpa using hp
        obtain ⟨z1, z2, z3⟩ := rem_v hok hj
        unfold w_X0_fewestStalls_16
        try simp only
        rw [hT.cnt, if_neg (by rw [nI_le_iff (by omega) (by omega)]; omega), at_lit hT 1 rfl hj (by omega), b1_some, z1, if_pos ((nI_le_iff (by omega) (by omega)).2 (by omega)), nI_inc]) (by
        intro j hj hp
        have hp : c < vN (A.2.1 4) j 1 := by simpa using hp
        obtain ⟨z1, z2, z3⟩ := rem_v hok hj
        unfold w_X0_fewestStalls_16
        try simp only
        rw [hT.cnt, if_neg (by rw [nI_le_iff (by omega) (by omega)]; omega), at_lit hT 1 rfl hj (by omega), b1_some, z1, if_neg (by rw [nI_le_iff (by omega) (by omega)]; omega)]) (by
        unfold w_X0_fewestStalls_16
        try simp only
        rw [hT.cnt, if_pos (by rw [nI_le_iff (by omega) (by omega)]; omega)]) (by omega)
      have hall : (2 ^ (A.2.1 4).1 - 1) < 2 ^ (A.2.1 4).1 := by omega
      have eall : ((1 : Int32) <<< (nI (A.2.1 4).1 &&& 31)) = nI (2 ^ (A.2.1 4).1) := nI_shl _ (by omega)
      -- the reference
      have href : ∀ M1, InvM (A, I, P, tp, ft) M1 → ∃ M', f_X11_stalls (nI c) M1 = b1 (rd M' 167 (nI (2 ^ (A.2.1 4).1 - 1))) (fun x20 => if x20 < 100000 then (b1 (rd M' 167 (nI (2 ^ (A.2.1 4).1 - 1))) fun x22 => some (M', x22)) else (some (M', (-1)))) ∧ Out 167 168 M1 M' ∧ ∃ R : Nat → Nat, R 0 = 0 ∧ (∀ S, S < 2 ^ (A.2.1 4).1 → M' 167 S = nI (R S)) ∧ ∀ S, S ≠ 0 → S < 2 ^ (A.2.1 4).1 → okR (A.2.1 4).1 c (fun i => vN (A.2.1 4) i 1) R S := by
        intro M1 hM1
        obtain ⟨M', e, g1, g2⟩ := stallsm_run hM1.1 hok hn hc
        refine ⟨M', ?_, g1, g2⟩
        unfold f_X11_stalls
        rw [hcM M1 hM1, if_neg (by
          rintro (y | y)
          · exact w1 y
          · exact y ((e10 _ hle).2 hn)), lt_eq, lt_eq, eall, nI_dec' (by omega), e, b1_some]
      cases hf : firstF (fun j => decide (c < vN (A.2.1 4) j 1)) 0 (A.2.1 4).1 with
      | some m =>
        obtain ⟨_, m1, m2⟩ := firstF_lt hf
        have m2 : c < vN (A.2.1 4) m 1 := by simpa using m2
        rw [hf] at efirst
        refine ⟨(A, I, P, tp, ft), -1, hG, ?_, fun M1 hM1 => ?_⟩
        · show Wq (f_X10_stalls (nI c) M) _
          unfold f_X10_stalls f_X0_fewestStalls
          rw [if_neg w0, hT.cnt, if_pos ((e10 _ hle).2 hn), efirst, b1_some, b2_some]
          exact wq_some ⟨rfl, hC, Hi.refl _⟩
        · show Wq (f_X11_stalls (nI c) M1) _
          obtain ⟨M', e, g1, R, r0, r1, r2⟩ := href M1 hM1
          have hbit : (2 ^ (A.2.1 4).1 - 1).testBit m = true := by
            rw [Nat.testBit_two_pow_sub_one]; simp; omega
          have hfar := stalls_far r2 (p := m) (by omega) m2 _ _ hall (Nat.le_refl _) hbit
          have hRl : R (2 ^ (A.2.1 4).1 - 1) ≤ 100000 := (r2 _ (by
            intro y
            rw [y] at hbit
            simp at hbit) hall).2.2
          rw [e, rd_nI la_167 (by omega) (by omega), b1_some, r1 _ hall, if_neg (by
            intro y
            have y : nI (R (2 ^ (A.2.1 4).1 - 1)) < nI 100000 := y
            rw [nI_lt_iff (by omega) (by omega)] at y; omega)]
          have := hM1.scr2 g1 (by omega) (by omega)
          exact wq_some ⟨rfl, this.1, this.2⟩
      | none =>
        have hz : ∀ p, p < (A.2.1 4).1 → vN (A.2.1 4) p 1 ≤ c := by
          intro p hp'
          have := firstF_none hf p (Nat.zero_le _) (by omega)
          have this : ¬ c < vN (A.2.1 4) p 1 := by simpa using this
          omega
        rw [hf] at efirst
        obtain ⟨Mc, ec, c1, b, f, b0, f0, cb, cd⟩ := stallsc_run hT (by omega) hok hn hc1 hc hz
        have main : ∀ R : Nat → Nat, R 0 = 0 → (∀ S, S ≠ 0 → S < 2 ^ (A.2.1 4).1 → okR (A.2.1 4).1 c (fun i => vN (A.2.1 4) i 1) R S) → b (2 ^ (A.2.1 4).1 - 1) = R (2 ^ (A.2.1 4).1 - 1) ∧ R (2 ^ (A.2.1 4).1 - 1) ≤ 1000 := by
          intro R r0 r2
          have := stalls_main hn (fun p hp' => ⟨(rem_v hok hp').2.1, hz p hp'⟩) r0 r2 b0 f0 cd _ _ hall (Nat.le_refl _)
          refine ⟨this.1, Nat.le_trans this.2.1 ?_⟩
          have hcn : ∀ k S, zS (fun _ => 1) S k ≤ k := by
            intro k S
            induction k with
            | zero => exact Nat.le_refl _
            | succ k ih2 =>
              show zS (fun _ => 1) S k + (if S.testBit k then 1 else 0) ≤ k + 1
              split <;> omega
          exact Nat.le_trans (hcn _ _) (by omega)
        refine ⟨(A, I, P, tp, ft), nI (b (2 ^ (A.2.1 4).1 - 1)), hG, ?_, fun M1 hM1 => ?_⟩
        · show Wq (f_X10_stalls (nI c) M) _
          have eln : ln 152 = some (nI 1024) := by unfold ln; rw [la_152]; rfl
          unfold f_X10_stalls f_X0_fewestStalls
          rw [if_neg w0, hT.cnt, if_pos ((e10 _ hle).2 hn), efirst, b1_some]
          simp only
          rw [eln, b1_some, lt_eq, lt_eq, lt_eq, eall, nI_min (by omega) (by omega), Nat.min_eq_left hp, ec, b1_some, nI_dec' (by omega), rd_nI la_152 (by omega) (by omega), b1_some, b2_some, cb _ hall]
          exact wq_some ⟨rfl, hC.scr c1 (by omega), c1.hi (by omega)⟩
        · show Wq (f_X11_stalls (nI c) M1) _
          obtain ⟨M', e, g1, R, r0, r1, r2⟩ := href M1 hM1
          obtain ⟨m1, m2⟩ := main R r0 r2
          rw [e, rd_nI la_167 (by omega) (by omega), b1_some, b1_some, r1 _ hall, if_pos (by
            show nI (R (2 ^ (A.2.1 4).1 - 1)) < nI 100000
            rw [nI_lt_iff (by omega) (by omega)]; omega), m1]
          have := hM1.scr2 g1 (by omega) (by omega)
          exact wq_some ⟨rfl, this.1, this.2⟩
    · refine ⟨(A, I, P, tp, ft), -1, hG, ?_, fun M1 hM1 => ?_⟩
      · show Wq (f_X10_stalls (nI c) M) _
        unfold f_X10_stalls f_X0_fewestStalls
        rw [if_neg w0, hT.cnt, if_neg (fun y => hn ((e10 _ hle).1 y)), b2_some]
        exact wq_some ⟨rfl, hC, Hi.refl _⟩
      · show Wq (f_X11_stalls (nI c) M1) _
        unfold f_X11_stalls
        rw [hcM M1 hM1, if_pos (.inr (fun y => hn ((e10 _ hle).1 y)))]
        exact wq_some ⟨rfl, hM1, Lo.refl _⟩
