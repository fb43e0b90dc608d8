/-! ===== PURE PART: what can be undone, in the class ===== -/
theorem isIn01 (a b : Int32) : f_X10_isIn a b = 0 ∨ f_X10_isIn a b = 1 := by
  unfold f_X10_isIn
  rw [lt_eq]
  by_cases h : (a >>> (b &&& 31)) &&& 1 = 1
  · rw [if_pos h]; exact .inr rfl
  · rw [if_neg h]; exact .inl rfl
section PSC
variable {t : Bool} {o : Nat} {A : AS} {M : Mem}
theorem putMetSet_ok (h : RMk t o A M) (s : Int32) : Wq (f_X6_putMetSet o s M) (fun M' => RR (o + 5) 12 5 (wantsC s (A.2.1 2)) M' ∧ Out (o + 5) (o + 7) M M') := by
  have hT := h.t2
  have hle := hT.le2
  have hle : (A.2.1 2).1 ≤ 150 := hle
  unfold f_X6_putMetSet
  refine wq_b1 (P := fun M' => RR (o + 5) 12 5 (wantsC s (A.2.1 2)) M' ∧ Out (o + 5) (o + 7) M M') (lp_to (fun k q => q.1 = nI k ∧ RR (o + 5) 12 5 ((A.2.1 2).1, fun r c => if c = 4 then (if r < k then f_X10_isIn s (nI r) else f_X10_isIn (A.1 5) (nI r)) else (A.2.1 2).2 r c) q.2 ∧ Out (o + 5) (o + 7) M q.2) (A.2.1 2).1 ?_ ?_ _ ?_ (by omega)) (fun M' q => wq_some q)
  · rintro k ⟨i, N⟩ hk ⟨hi, hR, hO⟩
    simp only at hi hR hO
    subst hi
    unfold w_X6_putMetSet_2
    have e : ((if (f_X10_isIn s (nI k)) = 0 then 0 else 1) : Int32) = f_X10_isIn s (nI k) := by
      rcases isIn01 s (nI k) with q | q
      · rw [q]; rfl
      · rw [q]; rfl
    simp only
    rw [hR.cnt]
    simp only
    rw [if_neg (by rw [nI_le_iff (by omega) (by omega)]; omega), lt_eq, e]
    obtain ⟨N', e1, hR', hO'⟩ := put_lit hR (r := k) 4 (f_X10_isIn s (nI k)) rfl hk (by omega)
    rw [e1, b1_some, nI_inc]
    refine ⟨_, rfl, rfl, hR'.ext rfl ?_, hO.trans (hO'.wide (by omega) (by omega))⟩
    intro r c hr hc
    simp only [tPut]
    by_cases q : c = 4
    · simp only [q, if_true, and_true]
      by_cases q1 : r = k
      · rw [if_pos q1, q1, if_pos (by omega)]
      · rw [if_neg q1]
        by_cases q2 : r < k
        · rw [if_pos q2, if_pos (by omega)]
        · rw [if_neg q2, if_neg (by omega)]
    · simp [q]
  · rintro ⟨i, N⟩ ⟨hi, hR, hO⟩
    simp only at hi hR hO
    subst hi
    unfold w_X6_putMetSet_2
    simp only
    rw [hR.cnt]
    simp only
    rw [if_pos (by rw [nI_le_iff (by omega) (by omega)]; omega)]
    refine ⟨_, rfl, hR.ext rfl ?_, hO⟩
    intro r c hr hc
    simp only [wantsC] at hr ⊢
    by_cases q : c = 4
    · simp only [q, if_true]
      rw [if_pos hr]
    · simp [q]
  · refine ⟨rfl, hT.ext rfl ?_, Out.refl _ _ _⟩
    intro r c hr hc
    simp only [wantsC]
    by_cases q : c = 4
    · simp [q]
    · simp [q]
theorem metSet_ok (h : RMk t o A M) {S : Nat} (hS : A.1 5 = nI S) (hlt : S < 2 ^ (A.2.1 2).1) : f_X6_metSet o M = some (A.1 5) := by
  have hT := h.t2
  have hle : (A.2.1 2).1 ≤ 12 := hT.le
  have hS31 : S < 2147483648 := Nat.lt_of_lt_of_le hlt (Nat.le_trans (pow2_le hle) (by decide))
  unfold f_X6_metSet
  have key := lp_for (body := fun s : Int32 × Int32 => w_X6_metSet_4 o M s.1 s.2) (fun k => (nI (setG (fun i => S.testBit i) k), nI k)) (A.2.1 2).1 (nI S) (by
    intro k hk
    unfold w_X6_metSet_4
    simp only
    rw [hT.cnt, if_neg (by
      show ¬ nI (A.2.1 2).1 ≤ nI k
      rw [nI_le_iff (by omega) (by omega)]; omega), at_lit hT 4 rfl hk (by omega), b1_some]
    show (if (if (4 : Nat) = 4 then f_X10_isIn (A.1 5) (nI k) else (A.2.1 2).2 k 4) = 1 then _ else _) = _
    rw [if_pos rfl, hS, isIn_nI hS31 (by omega)]
    show _ = some (Sum.inl (nI (setG (fun i => S.testBit i) k ||| (if S.testBit k then 2 ^ k else 0)), nI (k + 1)))
    cases hb : S.testBit k with
    | true =>
      simp only [if_true]
      rw [lt_eq, nI_shl k (by omega), nI_or, nI_inc]
    | false =>
      simp only [Bool.false_eq_true, if_false]
      rw [if_neg (by decide), Nat.or_zero, nI_inc]) (by
    unfold w_X6_metSet_4
    simp only
    rw [hT.cnt, if_pos (by
      show nI (A.2.1 2).1 ≤ nI (A.2.1 2).1
      rw [nI_le_iff (by omega) (by omega)]; omega), setG_eq hlt]) (by omega)
  have key : lp (fun s : Int32 × Int32 => w_X6_metSet_4 o M s.1 s.2) FU (0, 0) = some (nI S) := key
  rw [key, b1_some, hS]
end PSC
/-- a step that is kept at a place of the ring -/
def RSc (ix : Nat) (S : Sn) (M : Mem) : Prop := RR (124 + 2 * ix) 14 5 S.2.1 M ∧ M (118 + ix) 0 = S.1 4 ∧ M (118 + ix) 1 = S.1 0 ∧ M (118 + ix) 2 = S.1 1 ∧ M (118 + ix) 3 = S.1 2 ∧ M (118 + ix) 4 = S.1 3 ∧ M (118 + ix) 5 = S.1 5 ∧ M (118 + ix) 6 = nI S.2.2
def RPc (P : Ps) (M : Mem) : Prop := M 115 2 = nI P.1 ∧ P.1 ≤ 6 ∧ (∀ i, i < 6 → ∃ T, RR (124 + 2 * i) 14 5 T M) ∧ ∃ nx, nx < 6 ∧ M 115 3 = nI nx ∧ ∀ j, j < P.1 → RSc ((nx + 6 - P.1 + j) % 6) (P.2 j) M
theorem RSc.congr {ix : Nat} {S : Sn} {M M' : Mem} (h : RSc ix S M) (h1 : M' (118 + ix) = M (118 + ix)) (h2 : M' (124 + 2 * ix) = M (124 + 2 * ix)) (h3 : M' (124 + 2 * ix + 1) = M (124 + 2 * ix + 1)) : RSc ix S M' := by
  unfold RSc
  rw [h1]
  exact ⟨h.1.congr h2 h3, h.2⟩
theorem RPc.out {P : Ps} {lo hi : Nat} {M M' : Mem} (h : RPc P M) (hO : Out lo hi M M') (hc : 135 < lo ∨ hi ≤ 115) : RPc P M' := by
  obtain ⟨h1, h2, h3, nx, h4, h5, h6⟩ := h
  refine ⟨by rw [hO 115 (by omega)]; exact h1, h2, fun i hi' => ?_, nx, h4, by rw [hO 115 (by omega)]; exact h5, fun j hj => ?_⟩
  · obtain ⟨T, hT⟩ := h3 i hi'
    exact ⟨T, hT.out hO (by omega)⟩
  · have hx : (nx + 6 - P.1 + j) % 6 < 6 := Nat.mod_lt _ (by omega)
    exact (h6 j hj).congr (hO _ (by omega)) (hO _ (by omega)) (hO _ (by omega))
theorem rr116 : ∀ i, i < 6 → rr 116 (nI i) = some (124 + 2 * i) := by decide +kernel
theorem rr117 : ∀ i, i < 6 → rr 117 (nI i) = some (118 + i) := by decide +kernel
theorem la_118 : ∀ i, i < 6 → la (118 + i) = some 7 := by decide +kernel
theorem next6 : ∀ i, i < 6 → (nI i + 1) - (nI i + 1) / 6 * 6 = nI ((i + 1) % 6) := by decide +kernel
theorem kept6 : ∀ i, i ≤ 6 → f_J9_min_7cf53 6 (nI i + 1) = nI (if i = 6 then 6 else i + 1) := by
  intro i hi
  have : i = 0 ∨ i = 1 ∨ i = 2 ∨ i = 3 ∨ i = 4 ∨ i = 5 ∨ i = 6 := by omega
  rcases this with rfl | rfl | rfl | rfl | rfl | rfl | rfl <;> rfl
theorem keep_ok {A : AS} {P : Ps} {M : Mem} (h : RMk true 1 A M) (hP : RPc P M) {S : Nat} (hS : A.1 5 = nI S) (hlt : S < 2 ^ (A.2.1 2).1) : Wq (f_X7_keep 1 M) (fun M' => RPc (pKeep P (snap A)) M' ∧ Out 115 136 M M') := by
  obtain ⟨p1, p2, p3, nx, p4, p5, p6⟩ := hP
  unfold f_X7_keep
  rw [p5, if_neg (by
    rintro (q | q)
    · exact nI_nneg (by omega) q
    · exact q (nI_lt (b := 6) p4 (by omega))), rr116 nx p4, b1_some]
  obtain ⟨T0, hT0⟩ := p3 nx p4
  refine wq_b1 (copyFrom_ok hT0 h.t4 (by omega)) ?_
  rintro M19 ⟨hR19, hO19⟩
  have hO19' : Out 124 136 M M19 := hO19.wide (by omega) (by omega)
  have hla := la_118 nx p4
  have e3 : M19 115 3 = nI nx := by rw [hO19' 115 (by omega)]; exact p5
  rw [e3, rr117 nx p4, b1_some]
  have w : ∀ {N : Mem} (k : Nat) (x : Int32) (v : Int32), k < 7 → x = nI k → wr N (118 + nx) x v = some (up2 N (118 + nx) k v) := by
    intro N k x v hk hx
    subst hx
    exact wr_nI hla hk (by omega)
  rw [w 0 0 _ (by omega) rfl, b1_some, w 1 1 _ (by omega) rfl, b1_some, w 2 2 _ (by omega) rfl, b1_some, w 3 3 _ (by omega) rfl, b1_some, w 4 4 _ (by omega) rfl, b1_some]
  refine wq_b1e (metSet_ok (h.out (lo := 115) (hi := 136) ?_ (by omega)) hS hlt) ?_
  · refine Out.up (Out.up (Out.up (Out.up (Out.up (hO19'.wide (by omega) (by omega)) ?_ ?_) ?_ ?_) ?_ ?_) ?_ ?_) ?_ ?_ <;> omega
  rw [w 5 5 _ (by omega) rfl, b1_some, w 6 6 _ (by omega) rfl, b1_some]
  have h19 := h.out hO19' (by omega)
  obtain ⟨n1, n2, n3, n4, n5, n6, n7⟩ := h19.1
  obtain ⟨B, hB, hBe⟩ := h19.t5
  have hBe := hBe rfl
  subst hBe
  have nb : M19 12 3 = nI (A.2.1 5).1 := hB.cnt
  have c1 : (1 : Nat) ≠ 118 + nx := by omega
  have c12 : (12 : Nat) ≠ 118 + nx := by omega
  have c115 : (115 : Nat) ≠ 118 + nx := by omega
  simp only [lt_eq, up2_cell _ _ _ c1, up2_cell _ _ _ c12, up2_cell _ _ _ c115, n1, n2, n3, n4, n7, nb, e3, up2_slot _ 115 _ (show (2 : Nat) ≠ 3 by omega), show (1 : Nat) + 11 = 12 from rfl]
  have e2 : M19 115 2 = nI P.1 := by rw [hO19' 115 (by omega)]; exact p1
  rw [e2, next6 nx p4, kept6 P.1 p2]
  refine wq_some ⟨⟨?_, ?_, ?_, (nx + 1) % 6, Nat.mod_lt _ (by omega), ?_, ?_⟩, ?_⟩
  · rw [up2_at]
    unfold pKeep
    by_cases q : P.1 = 6
    · rw [if_pos q, if_pos q]
    · rw [if_neg q, if_neg q]
  · unfold pKeep
    by_cases q : P.1 = 6
    · rw [if_pos q]; simp
    · rw [if_neg q]; show P.1 + 1 ≤ 6; omega
  · intro i hi
    by_cases q : i = nx
    · subst q
      refine ⟨_, hR19.congr ?_ ?_⟩
      · simp only [up2_cell _ _ _ (show 124 + 2 * i ≠ 115 by omega), up2_cell _ _ _ (show 124 + 2 * i ≠ 118 + i by omega)]
      · simp only [up2_cell _ _ _ (show 124 + 2 * i + 1 ≠ 115 by omega), up2_cell _ _ _ (show 124 + 2 * i + 1 ≠ 118 + i by omega)]
    · obtain ⟨T, hT⟩ := p3 i hi
      refine ⟨T, hT.congr ?_ ?_⟩
      · simp only [up2_cell _ _ _ (show 124 + 2 * i ≠ 115 by omega), up2_cell _ _ _ (show 124 + 2 * i ≠ 118 + nx by omega)]
        exact hO19 _ (by omega)
      · simp only [up2_cell _ _ _ (show 124 + 2 * i + 1 ≠ 115 by omega), up2_cell _ _ _ (show 124 + 2 * i + 1 ≠ 118 + nx by omega)]
        exact hO19 _ (by omega)
  · rw [up2_slot _ _ _ (by omega), up2_at]
  · have new : RSc nx (snap A) (up2 (up2 (up2 (up2 (up2 (up2 (up2 (up2 (up2 M19 (118 + nx) 0 (A.1 4)) (118 + nx) 1 (A.1 0)) (118 + nx) 2 (A.1 1)) (118 + nx) 3 (A.1 2)) (118 + nx) 4 (A.1 3)) (118 + nx) 5 (A.1 5)) (118 + nx) 6 (nI (A.2.1 5).1)) 115 3 (nI ((nx + 1) % 6))) 115 2 (nI (if P.1 = 6 then 6 else P.1 + 1))) := by
      refine ⟨hR19.congr ?_ ?_, ?_, ?_, ?_, ?_, ?_, ?_, ?_⟩
      · simp only [up2_cell _ _ _ (show 124 + 2 * nx ≠ 115 by omega), up2_cell _ _ _ (show 124 + 2 * nx ≠ 118 + nx by omega)]
      · simp only [up2_cell _ _ _ (show 124 + 2 * nx + 1 ≠ 115 by omega), up2_cell _ _ _ (show 124 + 2 * nx + 1 ≠ 118 + nx by omega)]
      all_goals
        rw [up2_cell _ _ _ (by omega), up2_cell _ _ _ (by omega)]
        simp [up2_eq, snap]
    have old : ∀ j ix, j < P.1 → ix = (nx + 6 - P.1 + j) % 6 → ix ≠ nx → RSc ix (P.2 j) (up2 (up2 (up2 (up2 (up2 (up2 (up2 (up2 (up2 M19 (118 + nx) 0 (A.1 4)) (118 + nx) 1 (A.1 0)) (118 + nx) 2 (A.1 1)) (118 + nx) 3 (A.1 2)) (118 + nx) 4 (A.1 3)) (118 + nx) 5 (A.1 5)) (118 + nx) 6 (nI (A.2.1 5).1)) 115 3 (nI ((nx + 1) % 6))) 115 2 (nI (if P.1 = 6 then 6 else P.1 + 1))) := by
      intro j ix hj hix hne
      have hlt6 : ix < 6 := by rw [hix]; exact Nat.mod_lt _ (by omega)
      have hs := p6 j hj
      rw [← hix] at hs
      refine hs.congr ?_ ?_ ?_
      · simp only [up2_cell _ _ _ (show 118 + ix ≠ 115 by omega), up2_cell _ _ _ (show 118 + ix ≠ 118 + nx by omega)]
        exact hO19 _ (by omega)
      · simp only [up2_cell _ _ _ (show 124 + 2 * ix ≠ 115 by omega), up2_cell _ _ _ (show 124 + 2 * ix ≠ 118 + nx by omega)]
        exact hO19 _ (by omega)
      · simp only [up2_cell _ _ _ (show 124 + 2 * ix + 1 ≠ 115 by omega), up2_cell _ _ _ (show 124 + 2 * ix + 1 ≠ 118 + nx by omega)]
        exact hO19 _ (by omega)
    intro j hj
    unfold pKeep at hj ⊢
    by_cases q : P.1 = 6
    · rw [if_pos q] at hj ⊢
      simp only at hj ⊢
      by_cases q5 : j = 5
      · rw [if_pos q5, show ((nx + 1) % 6 + 6 - 6 + j) % 6 = nx from by omega]
        exact new
      · rw [if_neg q5]
        exact old (j + 1) _ (by omega) (by omega) (by omega)
    · rw [if_neg q] at hj ⊢
      simp only at hj ⊢
      by_cases q5 : j = P.1
      · rw [if_pos q5, show ((nx + 1) % 6 + 6 - (P.1 + 1) + j) % 6 = nx from by omega]
        exact new
      · rw [if_neg q5]
        exact old j _ (by omega) (by omega) (by omega)
  · intro a ha
    simp only [up2_cell _ _ _ (show a ≠ 115 by omega), up2_cell _ _ _ (show a ≠ 118 + nx by omega)]
    exact hO19' a (by omega)
/-- what is given back, once the place in the ring is known -/
theorem gb_tail {A : AS} {S : Sn} {N : Mem} {ix : Nat} (hix : ix < 6) (h3 : N 115 3 = nI ix) (hS : RSc ix S N) (h : RMk true 1 A N) (hb : S.2.2 ≤ (A.2.1 5).1) : Wq (b1 (rr 116 (N 115 3)) fun r7 => b1 (f_X8_copyFrom (1 + 9) r7 N) fun M8 => b1 (rr 117 (M8 115 3)) fun r9 => b1 (rd M8 r9 0) fun x10 => lt (up2 M8 1 9 x10) fun M11 => b1 (rd M11 r9 1) fun x12 => lt (up2 M11 1 10 x12) fun M13 => b1 (rd M13 r9 2) fun x14 => lt (up2 M13 1 11 x14) fun M15 => b1 (rd M15 r9 3) fun x16 => lt (up2 M15 1 12 x16) fun M17 => b1 (rd M17 r9 4) fun x18 => lt (up2 M17 1 15 x18) fun M19 => b1 (rd M19 r9 5) fun x20 => b1 (f_X6_putMetSet 1 x20 M19) fun M21 => b1 (rd M21 r9 6) fun x22 => lt (f_X8_keepFirst (1 + 11) x22 M21) fun M23 => some (M23, (1 : Int32))) (fun p => p.2 = 1 ∧ RMk true 1 (sBack A S) p.1 ∧ Out 1 27 N p.1) := by
  obtain ⟨s1, s2, s3, s4, s5, s6, s7, s8⟩ := hS
  have hla := la_118 ix hix
  have r : ∀ {K : Mem} (k : Nat) (x : Int32), k < 7 → x = nI k → rd K (118 + ix) x = some (K (118 + ix) k) := by
    intro K k x hk hx
    subst hx
    exact rd_nI hla hk (by omega)
  rw [h3, rr116 ix hix, b1_some]
  refine wq_b1 (copyFrom_ok h.t4 s1 (by omega)) ?_
  rintro M8 ⟨hR8, hO8⟩
  have e3 : M8 115 3 = nI ix := by rw [hO8 115 (by omega)]; exact h3
  have e118 : M8 (118 + ix) = N (118 + ix) := hO8 _ (by omega)
  have ne : 118 + ix ≠ 1 := by omega
  rw [e3, rr117 ix hix, b1_some, r 0 0 (by omega) rfl, b1_some, lt_eq, r 1 1 (by omega) rfl, b1_some, lt_eq, r 2 2 (by omega) rfl, b1_some, lt_eq, r 3 3 (by omega) rfl, b1_some, lt_eq, r 4 4 (by omega) rfl, b1_some, lt_eq, r 5 5 (by omega) rfl, b1_some]
  simp only [up2_cell _ _ _ ne, e118, s2, s3, s4, s5, s6, s7]
  have h8 := h.putT4 hR8 hO8
  have hn := ((((h8.num (k := 4) (j := 9) (v := S.1 4) (by omega)).num (k := 0) (j := 10) (v := S.1 0) (by omega)).num (k := 1) (j := 11) (v := S.1 1) (by omega)).num (k := 2) (j := 12) (v := S.1 2) (by omega)).num (k := 3) (j := 15) (v := S.1 3) (by omega)
  refine wq_b1 (putMetSet_ok hn (S.1 5)) ?_
  rintro M21 ⟨hR21, hO21⟩
  have e21 : M21 (118 + ix) = N (118 + ix) := by rw [hO21 _ (by omega)]; simp only [up2_cell _ _ _ ne]; exact e118
  rw [r 6 6 (by omega) rfl, b1_some, lt_eq, e21, s8]
  obtain ⟨B, hB, hBe⟩ := (hn.t5)
  have hBe : B = A.2.1 5 := hBe rfl
  subst hBe
  obtain ⟨hK, hOK⟩ := keepFirst_ok (hB.out hO21 (by omega)) hb
  refine wq_some ⟨rfl, ?_, ?_⟩
  · have e1 : f_X8_keepFirst (1 + 11) (nI S.2.2) M21 1 = M21 1 := hOK 1 (by omega)
    have e2 : M21 1 = (up2 (up2 (up2 (up2 (up2 M8 1 9 (S.1 4)) 1 10 (S.1 0)) 1 11 (S.1 1)) 1 12 (S.1 2)) 1 15 (S.1 3)) 1 := hO21 1 (by omega)
    refine ⟨?_, ⟨(hn.t0.out hO21 (by omega)).out hOK (by omega), (hn.t1.out hO21 (by omega)).out hOK (by omega), hR21.out hOK (by omega), (hn.t3.out hO21 (by omega)).out hOK (by omega), (hn.t4.out hO21 (by omega)).out hOK (by omega), _, hK, fun _ => rfl⟩, (hn.lw.out hO21 (by omega)).out hOK (by omega)⟩
    simp only
    rw [e1, e2]
    exact hn.1
  · refine Out.trans (Out.trans ?_ (hO21.wide (by omega) (by omega))) (hOK.wide (by omega) (by omega))
    refine Out.up (Out.up (Out.up (Out.up (Out.up (hO8.wide (by omega) (by omega)) ?_ ?_) ?_ ?_) ?_ ?_) ?_ ?_) ?_ ?_ <;> omega
theorem giveBack_ok {A : AS} {P : Ps} {M : Mem} (h : RMk true 1 A M) (hP : RPc P M) (h0 : 0 < P.1) (hb : (P.2 (P.1 - 1)).2.2 ≤ (A.2.1 5).1) : Wq (f_X7_giveBack 1 M) (fun p => p.2 = 1 ∧ RMk true 1 (sBack A (P.2 (P.1 - 1))) p.1 ∧ RPc (P.1 - 1, P.2) p.1 ∧ ∀ a, (a < 1 ∨ (27 ≤ a ∧ a ≠ 115)) → p.1 a = M a) := by
  obtain ⟨p1, p2, p3, nx, p4, p5, p6⟩ := hP
  have fin : ∀ (ix : Nat) (N : Mem), ix = (nx + 5) % 6 → N = up2 (up2 M 115 2 (nI (P.1 - 1))) 115 3 (nI ix) → Wq (b1 (rr 116 (N 115 3)) fun r7 => b1 (f_X8_copyFrom (1 + 9) r7 N) fun M8 => b1 (rr 117 (M8 115 3)) fun r9 => b1 (rd M8 r9 0) fun x10 => lt (up2 M8 1 9 x10) fun M11 => b1 (rd M11 r9 1) fun x12 => lt (up2 M11 1 10 x12) fun M13 => b1 (rd M13 r9 2) fun x14 => lt (up2 M13 1 11 x14) fun M15 => b1 (rd M15 r9 3) fun x16 => lt (up2 M15 1 12 x16) fun M17 => b1 (rd M17 r9 4) fun x18 => lt (up2 M17 1 15 x18) fun M19 => b1 (rd M19 r9 5) fun x20 => b1 (f_X6_putMetSet 1 x20 M19) fun M21 => b1 (rd M21 r9 6) fun x22 => lt (f_X8_keepFirst (1 + 11) x22 M21) fun M23 => some (M23, (1 : Int32))) (fun p => p.2 = 1 ∧ RMk true 1 (sBack A (P.2 (P.1 - 1))) p.1 ∧ RPc (P.1 - 1, P.2) p.1 ∧ ∀ a, (a < 1 ∨ (27 ≤ a ∧ a ≠ 115)) → p.1 a = M a) := by
    intro ix N hix hN
    have hix6 : ix < 6 := by rw [hix]; exact Nat.mod_lt _ (by omega)
    have hO : Out 115 116 M N := by rw [hN]; exact ((Out.refl _ _ _).up (by omega) (by omega)).up (by omega) (by omega)
    have hs := p6 (P.1 - 1) (by omega)
    rw [show (nx + 6 - P.1 + (P.1 - 1)) % 6 = ix from by omega] at hs
    refine wq_mono (gb_tail (A := A) (S := P.2 (P.1 - 1)) (N := N) hix6 (by rw [hN, up2_at]) (hs.congr (hO _ (by omega)) (hO _ (by omega)) (hO _ (by omega))) (h.out hO (by omega)) hb) ?_
    rintro ⟨N2, x⟩ ⟨hx, hR, hO2⟩
    simp only at hx hR hO2
    refine ⟨hx, hR, ⟨?_, by show P.1 - 1 ≤ 6; omega, ?_, ix, hix6, ?_, ?_⟩, ?_⟩
    · show N2 115 2 = _
      rw [hO2 115 (by omega), hN, up2_slot _ _ _ (by omega), up2_at]
    · intro i hi
      obtain ⟨T, hT⟩ := p3 i hi
      exact ⟨T, (hT.out hO (by omega)).out hO2 (by omega)⟩
    · show N2 115 3 = _
      rw [hO2 115 (by omega), hN, up2_at]
    · intro j hj
      have hj : j < P.1 - 1 := hj
      have hs := p6 j (by omega)
      have e : (nx + 6 - P.1 + j) % 6 = (ix + 6 - (P.1 - 1) + j) % 6 := by omega
      rw [e] at hs
      have hx6 : (ix + 6 - (P.1 - 1) + j) % 6 < 6 := Nat.mod_lt _ (by omega)
      refine hs.congr ?_ ?_ ?_ <;> (show N2 _ = _; rw [hO2 _ (by omega), hO _ (by omega)])
    · intro a ha
      show N2 a = _
      rw [hO2 a (by omega), hO a (by omega)]
  unfold f_X7_giveBack
  rw [p1, if_pos (show (0 : Int32) < nI P.1 from nI_lt (a := 0) h0 (by omega)), lt_eq, nI_dec' h0]
  have e3 : up2 M 115 2 (nI (P.1 - 1)) 115 3 = nI nx := by rw [up2_slot _ _ _ (by omega)]; exact p5
  rw [e3]
  by_cases hz : nx = 0
  · rw [if_pos (.inl (by rw [hz]; decide)), lt_eq]
    exact fin 5 _ (by omega) rfl
  · rw [if_neg (by
      rintro (q | q)
      · have q : nI nx ≤ nI 0 := q
        rw [nI_le_iff (by omega) (by omega)] at q; omega
      · exact q (nI_lt (b := 6) p4 (by omega))), lt_eq, nI_dec' (by omega)]
    exact fin (nx - 1) _ (by omega) rfl
