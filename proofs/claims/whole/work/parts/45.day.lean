/-! ===== PURE PART: a day, told without memory ===== -/
/-- all that holds of a market but its day's bound -/
def OKX (A : AS) : Prop := (okTho (A.1 6) ∧ okTho (A.1 7) ∧ okMet (A.1 5) (A.2.1 2).1) ∧ OKT A ∧ OKI A ∧ OKL A.2.2
theorem OKA.x {A : AS} (h : OKA A) : OKX A := ⟨h.1.2, h.2⟩
theorem OKX.a {A : AS} (h : OKX A) (hd : okDay (A.1 0)) : OKA A := ⟨⟨hd, h.1⟩, h.2⟩
theorem OKX.rk {A : AS} (h : OKX A) : okRk A := by
  intro r hr
  obtain ⟨k, s, h1, _, _, h2, _⟩ := h.2.1.2.1 r hr
  exact ⟨k, h1, h2⟩
theorem OKX.note {t : Bool} {A : AS} (a b c : Int32) (h : OKX A) : OKX (sNote t A a b c) := by
  unfold OKX OKT OKI at h ⊢
  rw [sNote_num, sNote_law, sNote_tab t A a b c (k := 0) (by omega), sNote_tab t A a b c (k := 1) (by omega), sNote_tab t A a b c (k := 2) (by omega), sNote_tab t A a b c (k := 3) (by omega), sNote_tab t A a b c (k := 4) (by omega), sNote_tab t A a b c (k := 6) (by omega), sNote_tab t A a b c (k := 7) (by omega), sNote_tab t A a b c (k := 8) (by omega), sNote_tab t A a b c (k := 9) (by omega)]
  exact h
theorem OKX.rem {A : AS} {T : Tb} (h : OKX A) (hT : okRem (A.2.1 0).1 T) : OKX (setT A 4 T) := ⟨h.1, ⟨h.2.1.1, hT, h.2.1.2.2⟩, h.2.2.1, h.2.2.2⟩
/-- what a day leaves as it is -/
def Kp (A A' : AS) : Prop := (∀ k, k ≠ 4 → k ≠ 5 → A'.2.1 k = A.2.1 k) ∧ A'.2.2 = A.2.2 ∧ A'.1 6 = A.1 6 ∧ A'.1 7 = A.1 7 ∧ A'.1 0 = A.1 0 ∧ (A.2.1 5).1 ≤ (A'.2.1 5).1
theorem Kp.refl (A : AS) : Kp A A := ⟨fun _ _ _ => rfl, rfl, rfl, rfl, rfl, Nat.le_refl _⟩
theorem Kp.trans {A B C : AS} (h : Kp A B) (h2 : Kp B C) : Kp A C := ⟨fun k a b => (h2.1 k a b).trans (h.1 k a b), h2.2.1.trans h.2.1, h2.2.2.1.trans h.2.2.1, h2.2.2.2.1.trans h.2.2.2.1, h2.2.2.2.2.1.trans h.2.2.2.2.1, Nat.le_trans h.2.2.2.2.2 h2.2.2.2.2.2⟩
theorem Kp.note (t : Bool) (A : AS) (a b c : Int32) : Kp A (sNote t A a b c) := ⟨fun k h4 h5 => sNote_tab t A a b c h5, sNote_law t A a b c, by rw [sNote_num], by rw [sNote_num], by rw [sNote_num], sNote_book t A a b c⟩
theorem Kp.t4 (A : AS) (T : Tb) : Kp A (setT A 4 T) := ⟨fun k h4 _ => by show (if k = 4 then T else A.2.1 k) = _; rw [if_neg h4], rfl, rfl, rfl, rfl, Nat.le_refl _⟩
theorem Kp.num (A : AS) {k : Nat} (v : Int32) (h0 : k ≠ 0) (h6 : k ≠ 6) (h7 : k ≠ 7) : Kp A (setN A k v) := by
  have e : ∀ j, j ≠ k → (setN A k v).1 j = A.1 j := fun j hj => by show upd A.1 k v j = _; unfold upd; rw [if_neg hj]
  exact ⟨fun _ _ _ => rfl, rfl, e 6 (by omega), e 7 (by omega), e 0 (by omega), Nat.le_refl _⟩
theorem sFeast_x {t : Bool} {A : AS} {k : Nat} (g : Int32) (hA : OKX A) (hk : k < (A.2.1 0).1) : OKX (sFeast t A k g).1 ∧ Kp A (sFeast t A k g).1 := by
  have hA1 : OKX (setN A 3 (A.1 3 + 1)) := hA
  have k1 : Kp A (setN A 3 (A.1 3 + 1)) := Kp.num A _ (by omega) (by omega) (by omega)
  unfold sFeast
  by_cases hf : (A.2.1 4).1 < 14
  · rw [if_pos hf]
    by_cases hz : leftS A k g ≤ 0
    · rw [if_pos hz]
      exact ⟨hA1.note _ _ _, k1.trans (Kp.note _ _ _ _ _)⟩
    · rw [if_neg hz]
      obtain ⟨w, b, w1, w2, b1, b2, w3, b3⟩ := hA.2.1.1 k hk
      have hx : ((A.2.1 0).2 k 0 - 1).toInt ≤ ((98 : Nat) : Int) := by rw [w3, pred_toInt (by omega)]; omega
      obtain ⟨s, s1, s2, s3⟩ := clamp_le hx (by omega) hz
      have hr : okRem (A.2.1 0).1 (tAdd (A.2.1 4) (row5 (nI k) (leftS A k g) (A.1 0) (edgeS A k g) 0)) := hA.2.1.2.1.add hk s1 (by omega) rfl s3 (.inl rfl)
      have hA2 : OKX (setT (setN A 3 (A.1 3 + 1)) 4 (tAdd (A.2.1 4) (row5 (nI k) (leftS A k g) (A.1 0) (edgeS A k g) 0))) := hA1.rem hr
      exact ⟨hA2.note _ _ _, (k1.trans (Kp.t4 _ _)).trans (Kp.note _ _ _ _ _)⟩
  · rw [if_neg hf]
    exact ⟨hA1.note _ _ _, k1.trans (Kp.note _ _ _ _ _)⟩
/-- the feasts of a day, behind j lines -/
def feG (t : Bool) (A : AS) : Nat → AS
  | 0 => A
  | j + 1 => if (A.2.1 1).2 j 0 = A.1 0 then (sFeast t (feG t A j) ((A.2.1 1).2 j 1).toInt.toNat ((A.2.1 1).2 j 2)).1 else feG t A j
theorem feG_ok {t : Bool} {A : AS} (h : OKX A) (hk : (A.2.1 0).1 ≤ 6) : ∀ j, j ≤ (A.2.1 1).1 → OKX (feG t A j) ∧ Kp A (feG t A j)
  | 0, _ => ⟨h, Kp.refl _⟩
  | j + 1, hj => by
    obtain ⟨h1, h2⟩ := feG_ok h hk j (by omega)
    show OKX (if _ then _ else _) ∧ Kp A (if _ then _ else _)
    by_cases q : (A.2.1 1).2 j 0 = A.1 0
    · rw [if_pos q]
      obtain ⟨k, k1, k2⟩ := h.2.1.2.2.1 j (by omega)
      have e : ((A.2.1 1).2 j 1).toInt.toNat = k := by rw [k2, nI_toInt (by omega)]; rfl
      obtain ⟨g1, g2⟩ := sFeast_x (t := t) ((A.2.1 1).2 j 2) h1 (k := ((A.2.1 1).2 j 1).toInt.toNat) (by rw [e, h2.1 0 (by omega) (by omega)]; exact k1)
      exact ⟨g1, h2.trans g2⟩
    · rw [if_neg q]; exact ⟨h1, h2⟩
theorem feasts_c {t : Bool} {o : Nat} {A : AS} {M : Mem} (ho : MkAt o) (h : RMk t o A M) (hx : OKX A) : Wq (lp (fun s => w_X6_beginDay_2 o s.1 s.2) FU (0, M)) (fun M' => RMk t o (feG t A (A.2.1 1).1) M' ∧ Out o (o + 26) M M') := by
  have hn : (A.2.1 1).1 ≤ 12 := h.t1.le
  have hk6 : (A.2.1 0).1 ≤ 6 := h.t0.le
  refine lp_to (fun j s => s.1 = nI j ∧ RMk t o (feG t A j) s.2 ∧ Out o (o + 26) M s.2) (A.2.1 1).1 ?_ ?_ _ (by exact ⟨rfl, h, Out.refl _ _ _⟩) (by omega)
  · rintro j ⟨x, N⟩ hj ⟨hx', hR, hO⟩
    simp only at hx' hR hO
    subst hx'
    obtain ⟨x1, x2⟩ := feG_ok (t := t) hx hk6 j (by omega)
    have e1 := x2.1 1 (by omega) (by omega)
    have ht1 := hR.t1
    rw [e1] at ht1
    have hd : N o 10 = A.1 0 := by rw [hR.1.2.1]; exact x2.2.2.2.2.1
    unfold w_X6_beginDay_2
    simp only
    rw [ht1.cnt, if_neg (by rw [nI_le_iff (by omega) (by omega)]; omega), at_lit ht1 0 rfl hj (by omega), b1_some, hd]
    have ef : feG t A (j + 1) = if (A.2.1 1).2 j 0 = A.1 0 then (sFeast t (feG t A j) ((A.2.1 1).2 j 1).toInt.toNat ((A.2.1 1).2 j 2)).1 else feG t A j := rfl
    by_cases q : (A.2.1 1).2 j 0 = A.1 0
    · obtain ⟨k, k1, k2⟩ := hx.2.1.2.2.1 j hj
      have e : ((A.2.1 1).2 j 1).toInt.toNat = k := by rw [k2, nI_toInt (by omega)]; rfl
      rw [if_pos q, e] at ef
      rw [if_pos q, at_lit ht1 1 rfl hj (by omega), b1_some, at_lit ht1 2 rfl hj (by omega), b1_some, k2]
      obtain ⟨⟨N', y⟩, f1, f2, f3, f4⟩ := holdFeast_ok ho hR x1.2.2.2 (k := k) (by rw [x2.1 0 (by omega) (by omega)]; exact k1) ((A.2.1 1).2 j 2)
      simp only at f2 f3 f4
      rw [f1, b2_some, nI_inc]
      exact ⟨_, rfl, rfl, by rw [ef]; exact f3, hO.trans f4⟩
    · rw [if_neg q] at ef
      rw [if_neg q, nI_inc]
      exact ⟨_, rfl, rfl, by rw [ef]; exact hR, hO⟩
  · rintro ⟨x, N⟩ ⟨hx', hR, hO⟩
    simp only at hx' hR hO
    subst hx'
    obtain ⟨x1, x2⟩ := feG_ok (t := t) hx hk6 (A.2.1 1).1 (Nat.le_refl _)
    have ht1 := hR.t1
    rw [x2.1 1 (by omega) (by omega)] at ht1
    unfold w_X6_beginDay_2
    simp only
    rw [ht1.cnt, if_pos (by rw [nI_le_iff (by omega) (by omega)]; omega)]
    exact ⟨_, rfl, hR, hO⟩
theorem feasts_m {t : Bool} {A : AS} {M : Mem} (h : RMm 156 A M) (ht : M 155 26 = if t = true then 1 else 0) (hx : OKX A) : Wq (lp (fun s => w_X11_morning_2 s.1 s.2) FU (0, M)) (fun M' => RMm 156 (feG t A (A.2.1 1).1) M' ∧ Mo M M') := by
  have hn : (A.2.1 1).1 ≤ 12 := (h.2.1 1 (by omega)).2.1
  have hk6 : (A.2.1 0).1 ≤ 6 := (h.2.1 0 (by omega)).2.1
  refine lp_to (fun j s => s.1 = nI j ∧ RMm 156 (feG t A j) s.2 ∧ Mo M s.2) (A.2.1 1).1 ?_ ?_ _ (by exact ⟨rfl, h, Mo.refl _⟩) (by omega)
  · rintro j ⟨x, N⟩ hj ⟨hx', hR, hO⟩
    simp only at hx' hR hO
    subst hx'
    obtain ⟨x1, x2⟩ := feG_ok (t := t) hx hk6 j (by omega)
    have e1 := x2.1 1 (by omega) (by omega)
    have hcn : N 156 84 = nI (A.2.1 1).1 := by have := (hR.2.1 1 (by omega)).1; rw [e1] at this; exact this
    have hd : N 156 0 = A.1 0 := (hR.1 0 (by omega)).trans x2.2.2.2.2.1
    have i0 : (103 + (3 * nI j)) = nI (103 + 3 * j) := idx2 103 3 j
    have i1 : nI (103 + 3 * j) + 1 = nI (103 + 3 * j + 1) := nI_add _ 1
    have i2 : nI (103 + 3 * j) + 2 = nI (103 + 3 * j + 2) := nI_add _ 2
    have hj' : j < ((feG t A j).2.1 1).1 := by rw [e1]; exact hj
    unfold w_X11_morning_2
    simp only
    rw [hcn, if_neg (by rw [nI_le_iff (by omega) (by omega)]; omega), i0, i1, i2, rt_rd hR (k := 1) (by omega) hj' (j := 0) (by simp [twd]) (by simp [tbs, twd]; omega), b1_some, hd, e1]
    have ef : feG t A (j + 1) = if (A.2.1 1).2 j 0 = A.1 0 then (sFeast t (feG t A j) ((A.2.1 1).2 j 1).toInt.toNat ((A.2.1 1).2 j 2)).1 else feG t A j := rfl
    by_cases q : (A.2.1 1).2 j 0 = A.1 0
    · obtain ⟨k, k1, k2⟩ := hx.2.1.2.2.1 j hj
      have e : ((A.2.1 1).2 j 1).toInt.toNat = k := by rw [k2, nI_toInt (by omega)]; rfl
      rw [if_pos q, e] at ef
      rw [if_pos q, rt_rd hR (k := 1) (by omega) hj' (j := 1) (by simp [twd]) (by simp [tbs, twd]; omega), b1_some, rt_rd hR (k := 1) (by omega) hj' (j := 2) (by simp [twd]) (by simp [tbs, twd]; omega), b1_some, e1, k2]
      obtain ⟨⟨N', y⟩, f1, f2, f3, f4⟩ := feasts_ok (t := t) hR (by rw [hO 155 (by omega) (by omega) (by omega)]; exact ht) x1.2.2.2 (k := k) (by rw [x2.1 0 (by omega) (by omega)]; exact k1) ((A.2.1 1).2 j 2)
      simp only at f2 f3 f4
      rw [f1, b2_some, nI_inc]
      exact ⟨_, rfl, rfl, by rw [ef]; exact f3, hO.trans f4⟩
    · rw [if_neg q] at ef
      rw [if_neg q, nI_inc]
      exact ⟨_, rfl, rfl, by rw [ef]; exact hR, hO⟩
  · rintro ⟨x, N⟩ ⟨hx', hR, hO⟩
    simp only at hx' hR hO
    subst hx'
    obtain ⟨x1, x2⟩ := feG_ok (t := t) hx hk6 (A.2.1 1).1 (Nat.le_refl _)
    have hcn : N 156 84 = nI (A.2.1 1).1 := by have := (hR.2.1 1 (by omega)).1; rw [x2.1 1 (by omega) (by omega)] at this; exact this
    unfold w_X11_morning_2
    simp only
    rw [hcn, if_pos (by rw [nI_le_iff (by omega) (by omega)]; omega)]
    exact ⟨_, rfl, hR, hO⟩
/-! wants -/
noncomputable def bestO (T : Tb) (k size : Nat) : Nat := @dite _ (∃ S, bestS T k size S) (Classical.propDecidable _) (fun h => Classical.choose h) (fun _ => 0)
theorem bestO_some {T : Tb} {k size S : Nat} (h : bestS T k size S) : bestO T k size = S := by
  unfold bestO
  rw [dif_pos ⟨S, h⟩]
  exact bestS_uniq (Classical.choose_spec ⟨S, h⟩) h
theorem bestO_none {T : Tb} {k size : Nat} (h : ∀ S, okS T k S → S ≠ 0 → ¬ doesS T size S) : bestO T k size = 0 := by
  unfold bestO
  rw [dif_neg (by
    rintro ⟨S, hS⟩
    exact h S hS.1 hS.2.1 hS.2.2.1)]
theorem bestO_spec {T : Tb} {k size : Nat} (h : bestO T k size ≠ 0) : bestS T k size (bestO T k size) := by
  by_cases e : ∃ S, bestS T k size S
  · obtain ⟨S, hS⟩ := e
    rw [bestO_some hS]; exact hS
  · unfold bestO at h
    rw [dif_neg e] at h
    exact absurd rfl h
def dsF (S : Nat) : Nat → Tb → Tb
  | 0, T => T
  | p + 1, T => dsF S p (if S.testBit p then tDrop T p else T)
theorem dsF_rem {nk S : Nat} : ∀ (p : Nat) (T : Tb), okRem nk T → okRem nk (dsF S p T)
  | 0, T, h => h
  | p + 1, T, h => by
    show okRem nk (dsF S p (if S.testBit p then tDrop T p else T))
    apply dsF_rem p
    split
    · exact h.drop p
    · exact h
theorem dsF_more {S n : Nat} (h : S < 2 ^ n) : ∀ (d : Nat) (T : Tb), dsF S (n + d) T = dsF S n T
  | 0, T => rfl
  | d + 1, T => by
    show dsF S (n + d) (if S.testBit (n + d) then tDrop T (n + d) else T) = _
    rw [Nat.testBit_lt_two_pow (Nat.lt_of_lt_of_le h (pow2_le (by omega)))]
    exact dsF_more h d T
noncomputable def sMeet (t : Bool) (A : AS) (i : Nat) : AS :=
  sNote t (setN (setN (setT A 4 (dsF (bestO (A.2.1 4) ((A.2.1 2).2 i 0).toInt.toNat ((A.2.1 2).2 i 1).toInt.toNat) (A.2.1 4).1 (A.2.1 4))) 5 (A.1 5 ||| ((1 : Int32) <<< (nI i &&& 31)))) 1 (A.1 1 + (A.2.1 2).2 i 3)) 5 (nI i) (nI (popc (bestO (A.2.1 4) ((A.2.1 2).2 i 0).toInt.toNat ((A.2.1 2).2 i 1).toInt.toNat)))
/-- whether a want is met today -/
def canMeet (A : AS) (i : Nat) : Prop := f_X10_isIn (A.1 5) (nI i) = 0 ∧ ¬ (A.2.1 2).2 i 2 < A.1 0 ∧ bestO (A.2.1 4) ((A.2.1 2).2 i 0).toInt.toNat ((A.2.1 2).2 i 1).toInt.toNat ≠ 0
theorem sMeet_x {t : Bool} {A : AS} {i : Nat} (h : OKX A) (hi : i < (A.2.1 2).1) (hn : (A.2.1 2).1 ≤ 12) : OKX (sMeet t A i) ∧ Kp A (sMeet t A i) := by
  obtain ⟨S, hS, hlt⟩ := h.1.2.2
  have hp : 2 ^ i < 2 ^ (A.2.1 2).1 := Nat.pow_lt_pow_right (by omega) hi
  have hmet : okMet (A.1 5 ||| ((1 : Int32) <<< (nI i &&& 31))) (A.2.1 2).1 := ⟨S ||| 2 ^ i, by rw [hS, nI_shl i (by omega), nI_or], Nat.or_lt_two_pow hlt hp⟩
  have h1 : OKX (setT A 4 (dsF (bestO (A.2.1 4) ((A.2.1 2).2 i 0).toInt.toNat ((A.2.1 2).2 i 1).toInt.toNat) (A.2.1 4).1 (A.2.1 4))) := h.rem (dsF_rem _ _ h.2.1.2.1)
  have h2 : OKX (setN (setN (setT A 4 (dsF (bestO (A.2.1 4) ((A.2.1 2).2 i 0).toInt.toNat ((A.2.1 2).2 i 1).toInt.toNat) (A.2.1 4).1 (A.2.1 4))) 5 (A.1 5 ||| ((1 : Int32) <<< (nI i &&& 31)))) 1 (A.1 1 + (A.2.1 2).2 i 3)) := ⟨⟨h.1.1, h.1.2.1, hmet⟩, h1.2⟩
  refine ⟨h2.note _ _ _, ?_⟩
  exact ((((Kp.t4 _ _).trans (Kp.num _ _ (by omega) (by omega) (by omega))).trans (Kp.num _ _ (by omega) (by omega) (by omega)))).trans (Kp.note _ _ _ _ _)
