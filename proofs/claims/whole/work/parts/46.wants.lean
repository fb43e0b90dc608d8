/-! ===== PURE PART: a day's wants ===== -/
theorem neg1_dec {p : Nat} (h : 0 < p) : nI p - 1 + (-1) = nI (p - 1) - 1 := by
  rw [nI_dec' h, Int32.sub_eq_add_neg]
theorem dropAll_c {o n S : Nat} {T : Tb} {M : Mem} (hT : RR (o + 9) 14 5 T M) (hn : n = T.1) (hS : S < 16384) (hb : ∀ j, S.testBit j = true → j < n) : Wq (lp (fun s => w_X6_meets_46 o (nI S) s.1 s.2) FU (nI n - 1, M)) (fun M' => RR (o + 9) 14 5 (dsF S n T) M' ∧ Out (o + 9) (o + 11) M M') := by
  have hm : T.1 ≤ 14 := hT.le
  refine lp_to (fun q s => s.1 = nI (n - q) - 1 ∧ (∃ T', RR (o + 9) 14 5 T' s.2 ∧ dsF S (n - q) T' = dsF S n T ∧ ∀ j, j < n - q → S.testBit j = true → j < T'.1) ∧ Out (o + 9) (o + 11) M s.2) n ?_ ?_ _ ?_ (by omega)
  · rintro q ⟨x, N⟩ hq ⟨hx, ⟨T', h1, h2, h3⟩, hO⟩
    simp only at hx h1 hO
    subst hx
    obtain ⟨p, hp⟩ : ∃ p, n - q = p + 1 := ⟨n - q - 1, by omega⟩
    rw [hp] at h2 h3
    unfold w_X6_meets_46
    simp only
    rw [hp, neg1_dec (by omega), nI_dec' (by omega), Nat.add_sub_cancel, if_neg (nI_nneg (by omega)), isIn_nI (by omega) (by omega)]
    have e : n - (q + 1) = p := by omega
    by_cases hbit : S.testBit p = true
    · rw [hbit]
      simp only [if_true]
      rw [if_neg (by decide)]
      obtain ⟨N', d1, d2, d3⟩ := drop_ok h1 (i := p) (h3 p (by omega) hbit)
      rw [d1, b1_some]
      refine ⟨_, rfl, by simp only; rw [e], ⟨tDrop T' p, d2, ?_, ?_⟩, hO.trans (d3.wide (by omega) (by omega))⟩
      · rw [e, ← h2]
        show _ = dsF S p (if S.testBit p then tDrop T' p else T')
        rw [if_pos hbit]
      · intro j hj hj'
        have := h3 p (by omega) hbit
        show j < T'.1 - 1
        omega
    · have hbit' : S.testBit p = false := by simpa using hbit
      rw [hbit']
      simp only [Bool.false_eq_true, if_false]
      rw [if_pos trivial]
      refine ⟨_, rfl, by simp only; rw [e], ⟨T', h1, ?_, ?_⟩, hO⟩
      · rw [e, ← h2]
        show _ = dsF S p (if S.testBit p then tDrop T' p else T')
        rw [if_neg hbit]
      · intro j hj hj'
        exact h3 j (by omega) hj'
  · rintro ⟨x, N⟩ ⟨hx, ⟨T', h1, h2, h3⟩, hO⟩
    simp only at hx h1 hO
    subst hx
    unfold w_X6_meets_46
    simp only
    rw [Nat.sub_self, if_pos (by decide)]
    refine ⟨_, rfl, ?_, hO⟩
    rw [← h2, Nat.sub_self]
    exact h1
  · refine ⟨rfl, ⟨T, hT, rfl, ?_⟩, Out.refl _ _ _⟩
    intro j _ hj
    have := hb j hj
    omega
theorem dropAll_m {A : AS} {S : Nat} {M : Mem} (h : RMm 156 A M) (hL : A.2.2.length ≤ 16) (hS : S < 16384) (hb : ∀ j, S.testBit j = true → j < (A.2.1 4).1) : Wq (lp (fun s => w_X11_meetsWants_70 (nI S) s.1 s.2) FU (13, M)) (fun M' => RMm 156 (setT A 4 (dsF S 14 (A.2.1 4))) M' ∧ Out 156 157 M M') := by
  have hm := m_4 h
  refine lp_to (fun q s => s.1 = nI (14 - q) - 1 ∧ (∃ T', RMm 156 (setT A 4 T') s.2 ∧ dsF S (14 - q) T' = dsF S 14 (A.2.1 4) ∧ ∀ j, j < 14 - q → S.testBit j = true → j < T'.1) ∧ Out 156 157 M s.2) 14 ?_ ?_ _ ?_ (by omega)
  · rintro q ⟨x, N⟩ hq ⟨hx, ⟨T', h1, h2, h3⟩, hO⟩
    simp only at hx h1 hO
    subst hx
    obtain ⟨p, hp⟩ : ∃ p, 14 - q = p + 1 := ⟨14 - q - 1, by omega⟩
    rw [hp] at h2 h3
    unfold w_X11_meetsWants_70
    simp only
    rw [hp, neg1_dec (by omega), nI_dec' (by omega), Nat.add_sub_cancel, if_neg (nI_nneg (by omega))]
    have e : 14 - (q + 1) = p := by omega
    by_cases hbit : S.testBit p = true
    · rw [if_pos ((shbit (by omega) (by omega)).2 hbit)]
      obtain ⟨N', d1, d2, d3⟩ := goesAway_ok h1 hL (i := p) (show p < T'.1 from h3 p (by omega) hbit)
      rw [setT_same] at d2
      rw [d1, b1_some]
      refine ⟨_, rfl, by simp only; rw [e], ⟨tDrop T' p, d2, ?_, ?_⟩, hO.trans d3⟩
      · rw [e, ← h2]
        show _ = dsF S p (if S.testBit p then tDrop T' p else T')
        rw [if_pos hbit]
      · intro j hj hj'
        have := h3 p (by omega) hbit
        show j < T'.1 - 1
        omega
    · rw [if_neg (fun z => hbit ((shbit (by omega) (by omega)).1 z))]
      refine ⟨_, rfl, by simp only; rw [e], ⟨T', h1, ?_, ?_⟩, hO⟩
      · rw [e, ← h2]
        show _ = dsF S p (if S.testBit p then tDrop T' p else T')
        rw [if_neg hbit]
      · intro j hj hj'
        exact h3 j (by omega) hj'
  · rintro ⟨x, N⟩ ⟨hx, ⟨T', h1, h2, h3⟩, hO⟩
    simp only at hx h1 hO
    subst hx
    unfold w_X11_meetsWants_70
    simp only
    rw [Nat.sub_self, if_pos (by decide)]
    refine ⟨_, rfl, ?_, hO⟩
    rw [← h2, Nat.sub_self]
    exact h1
  · refine ⟨rfl, ⟨A.2.1 4, ?_, rfl, fun j _ hj => hb j hj⟩, Out.refl _ _ _⟩
    have e : setT A 4 (A.2.1 4) = A := by
      unfold setT
      refine Prod.ext rfl (Prod.ext ?_ rfl)
      funext k
      simp only
      by_cases z : k = 4
      · rw [if_pos z, z]
      · rw [if_neg z]
    rw [e]
    exact h
theorem RMk.met {t : Bool} {o : Nat} {A : AS} {M M' : Mem} {v : Int32} (h : RMk t o A M) (hT : RR (o + 5) 12 5 (wantsC v (A.2.1 2)) M') (hO : Out (o + 5) (o + 7) M M') : RMk t o (setN A 5 v) M' := by
  obtain ⟨h1, ⟨t0, t1, t2, t3, t4, B, t5, t6⟩, h3⟩ := h
  refine ⟨?_, ⟨t0.out hO (by omega), t1.out hO (by omega), hT, t3.out hO (by omega), t4.out hO (by omega), B, t5.out hO (by omega), t6⟩, h3.out hO (by omega)⟩
  rw [hO o (by omega)]
  exact h1
theorem want_v {A : AS} (h : OKX A) {i : Nat} (hi : i < (A.2.1 2).1) (hk6 : (A.2.1 0).1 ≤ 6) : ((A.2.1 2).2 i 0) = nI ((A.2.1 2).2 i 0).toInt.toNat ∧ ((A.2.1 2).2 i 1) = nI ((A.2.1 2).2 i 1).toInt.toNat ∧ 1 ≤ ((A.2.1 2).2 i 1).toInt.toNat ∧ ((A.2.1 2).2 i 1).toInt.toNat ≤ 99 := by
  obtain ⟨k, s, k1, s1, s2, e1, e2⟩ := h.2.1.2.2.2.1 i hi
  rw [e1, e2, nI_toInt (by omega), nI_toInt (by omega)]
  exact ⟨rfl, rfl, by omega, by omega⟩
theorem meets_ok {t : Bool} {o : Nat} {A : AS} {M : Mem} (ho : MkAt o) (h : RMk t o A M) (hx : OKX A) {i : Nat} (hi : i < (A.2.1 2).1) : Wq (f_X6_meets o (nI i) M) (fun p => ((bestO (A.2.1 4) ((A.2.1 2).2 i 0).toInt.toNat ((A.2.1 2).2 i 1).toInt.toNat = 0 ∧ p.2 = 0 ∧ RMk t o A p.1) ∨ (bestO (A.2.1 4) ((A.2.1 2).2 i 0).toInt.toNat ((A.2.1 2).2 i 1).toInt.toNat ≠ 0 ∧ p.2 = 1 ∧ RMk t o (sMeet t A i) p.1)) ∧ Out o (o + 26) M p.1) := by
  have hk6 : (A.2.1 0).1 ≤ 6 := h.t0.le
  have hn : (A.2.1 2).1 ≤ 12 := h.t2.le
  have hm : (A.2.1 4).1 ≤ 14 := h.t4.le
  obtain ⟨v1, v2, v3, v4⟩ := want_v hx hi hk6
  have hit : i < (wantsC (A.1 5) (A.2.1 2)).1 := hi
  have w0 : (wantsC (A.1 5) (A.2.1 2)).2 i 0 = (A.2.1 2).2 i 0 := rfl
  have w1 : (wantsC (A.1 5) (A.2.1 2)).2 i 1 = (A.2.1 2).2 i 1 := rfl
  unfold f_X6_meets
  rw [at_lit h.t2 0 rfl hit (by omega), b1_some, at_lit h.t2 1 rfl hit (by omega), b1_some, w0, w1, v1, v2]
  rw [← v1, ← v2]
  generalize hkk : ((A.2.1 2).2 i 0).toInt.toNat = kk at *
  generalize hss : ((A.2.1 2).2 i 1).toInt.toNat = ss at *
  rw [v1, v2]
  refine wq_b2 (fewest_ok (o := o + 21) (r := o + 9) (k := kk) (size := ss) ho.2.2.1 ho.2.2.2.1 ho.2.2.2.2 h.t4 hx.2.1.2.1 (by omega) v3 v4) ?_
  rintro M3 x ⟨hcase, hO3⟩
  simp only at hcase hO3
  have h3 := h.out hO3 (by omega)
  have hO3' : Out o (o + 26) M M3 := hO3.wide (by omega) (by omega)
  rcases hcase with ⟨hx0, hnone⟩ | ⟨S, hB, hxS⟩
  · subst hx0
    rw [if_pos rfl]
    exact wq_some ⟨.inl ⟨bestO_none hnone, rfl, h3⟩, hO3'⟩
  · subst hxS
    have hbo := bestO_some hB
    obtain ⟨hl1, hl2⟩ := best_lt hB hm
    rw [if_neg (nI_ne0 (Nat.pos_of_ne_zero hB.2.1) (by omega)), h3.t4.cnt]
    refine wq_b1 (dropAll_c h3.t4 rfl hl1 (fun j hj => (hB.1 j hj).1)) ?_
    rintro M11 ⟨hR11, hO11⟩
    have h11 := h3.putT4 hR11 hO11
    refine wq_b1 (put_lit h11.t2 4 1 rfl hit (by omega)) ?_
    rintro M12 ⟨hR12, hO12⟩
    obtain ⟨Sm, hSm, hSlt⟩ := hx.1.2.2
    have hSm31 : Sm < 2147483648 := Nat.lt_of_lt_of_le hSlt (Nat.le_trans (pow2_le hn) (by decide))
    have hor31 : Sm ||| 2 ^ i < 2147483648 := Nat.lt_of_lt_of_le (Nat.or_lt_two_pow hSlt (Nat.pow_lt_pow_right (by omega) hi)) (Nat.le_trans (pow2_le hn) (by decide))
    have hmet : RR (o + 5) 12 5 (wantsC (A.1 5 ||| ((1 : Int32) <<< (nI i &&& 31))) (A.2.1 2)) M12 := by
      refine hR12.ext rfl ?_
      intro r c hr hc
      have hr : r < (A.2.1 2).1 := hr
      show (if c = 4 then f_X10_isIn (A.1 5 ||| ((1 : Int32) <<< (nI i &&& 31))) (nI r) else (A.2.1 2).2 r c) = if r = i ∧ c = 4 then 1 else (if c = 4 then f_X10_isIn (A.1 5) (nI r) else (A.2.1 2).2 r c)
      by_cases c4 : c = 4
      · rw [if_pos c4, if_pos c4, hSm, nI_shl i (by omega), nI_or, isIn_nI hor31 (by omega), isIn_nI hSm31 (by omega), Nat.testBit_or, Nat.testBit_two_pow]
        by_cases e : r = i
        · rw [if_pos (show r = i ∧ c = 4 from ⟨e, c4⟩), e]; simp
        · rw [if_neg (show ¬ (r = i ∧ c = 4) from fun z => e z.1)]
          have : decide (i = r) = false := by simp; omega
          rw [this, Bool.or_false]
      · rw [if_neg c4, if_neg (fun z => c4 z.2), if_neg c4]
    have h12 := h11.met hmet (hO12.wide (by omega) (by omega))
    have w3 : (wantsC ((setN (setT A 4 (dsF S (A.2.1 4).1 (A.2.1 4))) 5 (A.1 5 ||| ((1 : Int32) <<< (nI i &&& 31)))).1 5) (A.2.1 2)).2 i 3 = (A.2.1 2).2 i 3 := rfl
    rw [at_lit h12.t2 3 rfl hit (by omega), b1_some, lt_eq, h12.1.2.2.1]
    have h14 := h12.num (k := 1) (j := 11) (v := A.1 1 + (A.2.1 2).2 i 3) (by omega)
    rw [bitCount_nI hl1]
    refine wq_b2 (h14.note 5 (nI i) (nI (popc S)) h14.1.2.1) ?_
    rintro M15 y ⟨h15, hO15⟩
    refine wq_some ⟨.inr ⟨by rw [hbo]; exact hB.2.1, rfl, ?_⟩, ?_⟩
    · unfold sMeet
      rw [hkk, hss, hbo]
      exact h15
    · refine Out.trans (Out.up (((hO3'.trans (hO11.wide (by omega) (by omega))).trans (hO12.wide (by omega) (by omega)))) (Nat.le_refl _) (by omega)) (hO15.wide (by omega) (by omega))
noncomputable def wtG (t : Bool) (A : AS) : Nat → AS × Nat
  | 0 => (A, 0)
  | i + 1 => @ite _ (canMeet (wtG t A i).1 i) (Classical.propDecidable _) (sMeet t (wtG t A i).1 i, (wtG t A i).2 + 1) (wtG t A i)
theorem wtG_go {t : Bool} {A : AS} {i : Nat} (q : canMeet (wtG t A i).1 i) : wtG t A (i + 1) = (sMeet t (wtG t A i).1 i, (wtG t A i).2 + 1) := @if_pos _ (Classical.propDecidable _) q _ _ _
theorem wtG_skip {t : Bool} {A : AS} {i : Nat} (q : ¬ canMeet (wtG t A i).1 i) : wtG t A (i + 1) = wtG t A i := @if_neg _ (Classical.propDecidable _) q _ _ _
theorem wtG_ok {t : Bool} {A : AS} (h : OKX A) (hn : (A.2.1 2).1 ≤ 12) : ∀ i, i ≤ (A.2.1 2).1 → OKX (wtG t A i).1 ∧ Kp A (wtG t A i).1 ∧ (wtG t A i).2 ≤ i
  | 0, _ => ⟨h, Kp.refl _, Nat.le_refl _⟩
  | i + 1, hi => by
    obtain ⟨h1, h2, h3⟩ := wtG_ok (t := t) h hn i (by omega)
    have e2 := h2.1 2 (by omega) (by omega)
    by_cases q : canMeet (wtG t A i).1 i
    · have e := wtG_go q
      rw [e]
      obtain ⟨g1, g2⟩ := sMeet_x (t := t) h1 (i := i) (by rw [e2]; omega) (by rw [e2]; exact hn)
      exact ⟨g1, h2.trans g2, by show _ + 1 ≤ _; omega⟩
    · have e := wtG_skip q
      rw [e]
      exact ⟨h1, h2, by omega⟩
theorem wants_c {t : Bool} {o : Nat} {A : AS} {M : Mem} (ho : MkAt o) (h : RMk t o A M) (hx : OKX A) : Wq (lp (fun s => w_X6_beginDay_62 o s.1 s.2.1 s.2.2) FU (0, 0, M)) (fun r => r.1 = nI (wtG t A (A.2.1 2).1).2 ∧ RMk t o (wtG t A (A.2.1 2).1).1 r.2 ∧ Out o (o + 26) M r.2) := by
  have hn : (A.2.1 2).1 ≤ 12 := h.t2.le
  refine lp_to (fun j s => s.1 = nI (wtG t A j).2 ∧ s.2.1 = nI j ∧ RMk t o (wtG t A j).1 s.2.2 ∧ Out o (o + 26) M s.2.2) (A.2.1 2).1 ?_ ?_ _ (by exact ⟨rfl, rfl, h, Out.refl _ _ _⟩) (by omega)
  · rintro j ⟨a, x, N⟩ hj ⟨ha, hx', hR, hO⟩
    simp only at ha hx' hR hO
    subst ha hx'
    obtain ⟨x1, x2, x3⟩ := wtG_ok (t := t) hx hn j (by omega)
    have e2 := x2.1 2 (by omega) (by omega)
    have ht2 := hR.t2
    rw [e2] at ht2
    have hd : N o 10 = (wtG t A j).1.1 0 := hR.1.2.1
    have hjt : j < (wantsC ((wtG t A j).1.1 5) (A.2.1 2)).1 := hj
    have w4 : (wantsC ((wtG t A j).1.1 5) (A.2.1 2)).2 j 4 = f_X10_isIn ((wtG t A j).1.1 5) (nI j) := rfl
    have w2 : (wantsC ((wtG t A j).1.1 5) (A.2.1 2)).2 j 2 = (A.2.1 2).2 j 2 := rfl
    unfold w_X6_beginDay_62
    simp only
    rw [ht2.cnt, if_neg (by
      show ¬ nI (A.2.1 2).1 ≤ nI j
      rw [nI_le_iff (by omega) (by omega)]; omega), at_lit ht2 4 rfl hjt (by omega), b1_some, w4]
    have skip : ¬ canMeet (wtG t A j).1 j → wtG t A (j + 1) = wtG t A j := wtG_skip
    have go : canMeet (wtG t A j).1 j → wtG t A (j + 1) = (sMeet t (wtG t A j).1 j, (wtG t A j).2 + 1) := wtG_go
    by_cases q1 : f_X10_isIn ((wtG t A j).1.1 5) (nI j) = 0
    · rw [if_pos q1, at_lit ht2 2 rfl hjt (by omega), b1_some, w2, hd]
      by_cases q2 : (A.2.1 2).2 j 2 < (wtG t A j).1.1 0
      · rw [if_pos q2, nI_inc]
        have e := skip (fun z => z.2.1 (by rw [e2]; exact q2))
        exact ⟨_, rfl, by rw [e], rfl, by rw [e]; exact hR, hO⟩
      · rw [if_neg q2]
        obtain ⟨⟨N', y⟩, f1, f2, f3⟩ := meets_ok ho hR x1 (i := j) (by rw [e2]; exact hj)
        simp only at f2 f3
        rw [f1, b2_some]
        rcases f2 with ⟨g1, g2, g3⟩ | ⟨g1, g2, g3⟩
        · subst g2
          rw [if_pos rfl, nI_inc]
          have e := skip (fun z => z.2.2 g1)
          exact ⟨_, rfl, by rw [e], rfl, by rw [e]; exact g3, hO.trans f3⟩
        · subst g2
          rw [if_neg (by decide), nI_inc, nI_inc]
          have e := go ⟨q1, by rw [e2]; exact q2, g1⟩
          exact ⟨_, rfl, by rw [e], rfl, by rw [e]; exact g3, hO.trans f3⟩
    · rw [if_neg q1, nI_inc]
      have e := skip (fun z => q1 z.1)
      exact ⟨_, rfl, by rw [e], rfl, by rw [e]; exact hR, hO⟩
  · rintro ⟨a, x, N⟩ ⟨ha, hx', hR, hO⟩
    simp only at ha hx' hR hO
    subst ha hx'
    obtain ⟨x1, x2, x3⟩ := wtG_ok (t := t) hx hn (A.2.1 2).1 (Nat.le_refl _)
    have ht2 := hR.t2
    rw [x2.1 2 (by omega) (by omega)] at ht2
    unfold w_X6_beginDay_62
    simp only
    rw [ht2.cnt, if_pos (by
      show nI (A.2.1 2).1 ≤ nI (A.2.1 2).1
      rw [nI_le_iff (by omega) (by omega)]; omega)]
    exact ⟨_, rfl, rfl, hR, hO⟩
theorem ofWant_ok {A : AS} {M : Mem} (h : RMm 156 A M) {i : Nat} (hi : i < (A.2.1 2).1) (c : Nat) (hx : (OfNat.ofNat c : Int32) = nI c) (hc : c < 4) : f_X11_ofWant (nI i) (OfNat.ofNat c) M = some ((A.2.1 2).2 i c) := by
  unfold f_X11_ofWant
  have e : ((139 + (4 * nI i)) + nI c) = nI (139 + 4 * i + c) := idx3 139 4 i c
  rw [hx, e, rt_rd h (k := 2) (by omega) hi (j := c) hc (by simp [tbs, twd]; omega), b1_some]
theorem isMet_eq {A : AS} {M : Mem} (h : RMm 156 A M) (i : Nat) : f_X11_isMet (nI i) M = f_X10_isIn (A.1 5) (nI i) := by
  have h6 : M 156 6 = A.1 5 := h.1 5 (by omega)
  unfold f_X11_isMet f_X10_isIn
  rw [h6]
theorem wants_m {t : Bool} {A : AS} {M : Mem} (h : RMm 156 A M) (ht : M 155 26 = if t = true then 1 else 0) (hx : OKX A) : Wq (f_X11_meetsWants M) (fun p => p.2 = nI (wtG t A (A.2.1 2).1).2 ∧ RMm 156 (wtG t A (A.2.1 2).1).1 p.1 ∧ Mo M p.1) := by
  have hn : (A.2.1 2).1 ≤ 12 := (h.2.1 2 (by omega)).2.1
  unfold f_X11_meetsWants
  refine wq_b1 (P := fun r => r.1 = nI (wtG t A (A.2.1 2).1).2 ∧ RMm 156 (wtG t A (A.2.1 2).1).1 r.2 ∧ Mo M r.2) (lp_to (fun j s => s.1 = nI (wtG t A j).2 ∧ s.2.1 = nI j ∧ RMm 156 (wtG t A j).1 s.2.2 ∧ Mo M s.2.2) (A.2.1 2).1 ?_ ?_ _ (by exact ⟨rfl, rfl, h, Mo.refl _⟩) (by omega)) (fun r hr => wq_some hr)
  · rintro j ⟨a, x, N⟩ hj ⟨ha, hx', hR, hO⟩
    simp only at ha hx' hR hO
    subst ha hx'
    obtain ⟨x1, x2, x3⟩ := wtG_ok (t := t) hx hn j (by omega)
    have e2 := x2.1 2 (by omega) (by omega)
    have e0 := x2.1 0 (by omega) (by omega)
    have hk6 : ((wtG t A j).1.2.1 0).1 ≤ 6 := (hR.2.1 0 (by omega)).2.1
    have hm : ((wtG t A j).1.2.1 4).1 ≤ 14 := m_4 hR
    have hLL : (wtG t A j).1.2.2.length ≤ 16 := x1.2.2.2.1
    have hcn : N 156 85 = nI (A.2.1 2).1 := by have := (hR.2.1 2 (by omega)).1; rw [e2] at this; exact this
    have hd : N 156 0 = (wtG t A j).1.1 0 := hR.1 0 (by omega)
    have hj' : j < ((wtG t A j).1.2.1 2).1 := by rw [e2]; exact hj
    have htN : N 155 26 = if t = true then 1 else 0 := by rw [hO 155 (by omega) (by omega) (by omega)]; exact ht
    obtain ⟨v1, v2, v3, v4⟩ := want_v x1 hj' hk6
    unfold w_X11_meetsWants_4
    simp only
    rw [hcn, if_neg (by rw [nI_le_iff (by omega) (by omega)]; omega), isMet_eq hR]
    generalize hB : (wtG t A j).1 = B at *
    by_cases q1 : f_X10_isIn (B.1 5) (nI j) = 0
    · rw [if_pos q1, ofWant_ok hR hj' 2 rfl (by omega), b1_some, hd]
      by_cases q2 : (B.2.1 2).2 j 2 < B.1 0
      · rw [if_neg (by rw [Int32.not_le]; exact q2), nI_inc]
        have e := wtG_skip (t := t) (A := A) (i := j) (fun z => by rw [hB] at z; exact z.2.1 q2)
        exact ⟨_, rfl, by rw [e], rfl, by rw [e, hB]; exact hR, hO⟩
      · rw [if_pos (by rw [Int32.not_lt] at q2; exact q2), ofWant_ok hR hj' 0 rfl (by omega), b1_some, ofWant_ok hR hj' 1 rfl (by omega), b1_some]
        have hjo := joinsOf_ok (k := ((B.2.1 2).2 j 0).toInt.toNat) (size := ((B.2.1 2).2 j 1).toInt.toNat) hR x1.2.1.2.1 v3 v4
        rw [← v1, ← v2] at hjo
        obtain ⟨y, y1, y2⟩ := hjo
        rw [y1, b1_some]
        rcases y2 with ⟨y2, hnone⟩ | ⟨S, hS, y2⟩
        · rw [if_pos y2, nI_inc]
          have e := wtG_skip (t := t) (A := A) (i := j) (fun z => by rw [hB] at z; exact z.2.2 (bestO_none hnone))
          exact ⟨_, rfl, by rw [e], rfl, by rw [e, hB]; exact hR, hO⟩
        · subst y2
          have hbo := bestO_some hS
          obtain ⟨hl1, hl2⟩ := best_lt hS hm
          have e := wtG_go (t := t) (A := A) (i := j) (by rw [hB]; exact ⟨q1, q2, by rw [hbo]; exact hS.2.1⟩)
          rw [if_neg (nI_neg1 (by omega))]
          obtain ⟨N1, d1, d2, d3⟩ := dropAll_m hR hLL hl1 (fun p hp => (hS.1 p hp).1)
          have hmore : dsF S 14 (B.2.1 4) = dsF S (B.2.1 4).1 (B.2.1 4) := by
            have := dsF_more hl2 (14 - (B.2.1 4).1) (B.2.1 4)
            rw [show (B.2.1 4).1 + (14 - (B.2.1 4).1) = 14 from by omega] at this
            exact this
          rw [hmore] at d2
          have d6 : N1 156 6 = B.1 5 := d2.1 5 (by omega)
          rw [d1, b1_some, lt_eq, d6]
          have g1 : RMm 156 (setN (setT B 4 (dsF S (B.2.1 4).1 (B.2.1 4))) 5 (B.1 5 ||| ((1 : Int32) <<< (nI j &&& 31)))) (up2 N1 156 6 (B.1 5 ||| ((1 : Int32) <<< (nI j &&& 31)))) := d2.upN hLL (k := 5) (by omega) _
          have o1 : Out 156 157 N1 (up2 N1 156 6 (B.1 5 ||| ((1 : Int32) <<< (nI j &&& 31)))) := (Out.refl _ _ _).up (by omega) (by omega)
          have d1' : up2 N1 156 6 (B.1 5 ||| ((1 : Int32) <<< (nI j &&& 31))) 156 1 = B.1 1 := g1.1 1 (by omega)
          rw [ofWant_ok g1 (show j < (B.2.1 2).1 from hj') 3 rfl (by omega), b1_some, lt_eq, d1']
          have g2 : RMm 156 (setN (setN (setT B 4 (dsF S (B.2.1 4).1 (B.2.1 4))) 5 (B.1 5 ||| ((1 : Int32) <<< (nI j &&& 31)))) 1 (B.1 1 + (B.2.1 2).2 j 3)) (up2 (up2 N1 156 6 (B.1 5 ||| ((1 : Int32) <<< (nI j &&& 31)))) 156 1 (B.1 1 + (B.2.1 2).2 j 3)) := g1.upN hLL (k := 1) (by omega) _
          have o2 : Out 156 157 N1 (up2 (up2 N1 156 6 (B.1 5 ||| ((1 : Int32) <<< (nI j &&& 31)))) 156 1 (B.1 1 + (B.2.1 2).2 j 3)) := o1.up (by omega) (by omega)
          obtain ⟨N2, n1, n2, n3⟩ := notes_ok (t := t) g2 hLL (by rw [o2 155 (by omega), d3 155 (by omega)]; exact htN) 5 (nI j) (nI (popc S))
          rw [count_nI (by omega), b1_some]
          have n1' : f_X11_notes 5 (nI j) (nI (popc S)) (up2 (up2 N1 156 6 (B.1 5 ||| ((1 : Int32) <<< (nI j &&& 31)))) 156 1 (B.1 1 + ((setN (setT B 4 (dsF S (B.2.1 4).1 (B.2.1 4))) 5 (B.1 5 ||| ((1 : Int32) <<< (nI j &&& 31)))).2.1 2).2 j 3)) = some N2 := n1
          rw [n1', b1_some, nI_inc, nI_inc]
          refine ⟨_, rfl, by rw [e], rfl, ?_, ((hO.trans (Mo.w d3)).trans (Mo.w o2)).trans (Mo.w n3)⟩
          rw [e, hB]
          show RMm 156 (sMeet t B j) N2
          unfold sMeet
          rw [hbo]
          exact n2
    · rw [if_neg q1, nI_inc]
      have e := wtG_skip (t := t) (A := A) (i := j) (fun z => by rw [hB] at z; exact q1 z.1)
      exact ⟨_, rfl, by rw [e], rfl, by rw [e, hB]; exact hR, hO⟩
  · rintro ⟨a, x, N⟩ ⟨ha, hx', hR, hO⟩
    simp only at ha hx' hR hO
    subst ha hx'
    obtain ⟨x1, x2, x3⟩ := wtG_ok (t := t) hx hn (A.2.1 2).1 (Nat.le_refl _)
    have hcn : N 156 85 = nI (A.2.1 2).1 := by have := (hR.2.1 2 (by omega)).1; rw [x2.1 2 (by omega) (by omega)] at this; exact this
    unfold w_X11_meetsWants_4
    simp only
    rw [hcn, if_pos (by rw [nI_le_iff (by omega) (by omega)]; omega)]
    exact ⟨_, rfl, rfl, hR, hO⟩
