/-! ===== PURE PART: the lists told ===== -/
def newA (k : Nat) (A : AS) (T : Tb) : AS := if k = 0 then setT (setT (setN (setT (setT (setT A 0 T) 4 (tCut (A.2.1 4) 0)) 1 (tCut (A.2.1 1) 0)) 5 0) 2 (tCut (A.2.1 2) 0)) 3 (tCut (A.2.1 3) 0) else if k = 2 then setT A 1 T else if k = 3 then setT (setN A 5 0) 2 T else setT A 3 T
def newP (k : Nat) (P : Ps) : Ps := if k = 4 then P else (0, P.2)
section NEWA
variable {t : Bool} {o : Nat} {A : AS} {M M' : Mem} {T : Tb}
theorem RMk.p0 (h : RMk t o A M) (hT : RR (o + 1) 6 2 T M') (hO : Out (o + 1) (o + 3) M M') : RMk t o (setT A 0 T) M' := by
  obtain ⟨a1, ⟨t0, t1, t2, t3, t4, T5, t5, t6⟩, a3⟩ := h
  refine ⟨?_, ⟨hT, t1.out hO (by omega), t2.out hO (by omega), t3.out hO (by omega), t4.out hO (by omega), T5, t5.out hO (by omega), t6⟩, a3.out hO (by omega)⟩
  rw [hO o (by omega)]; exact a1
theorem RMk.p1 (h : RMk t o A M) (hT : RR (o + 3) 12 3 T M') (hO : Out (o + 3) (o + 5) M M') : RMk t o (setT A 1 T) M' := by
  obtain ⟨a1, ⟨t0, t1, t2, t3, t4, T5, t5, t6⟩, a3⟩ := h
  refine ⟨?_, ⟨t0.out hO (by omega), hT, t2.out hO (by omega), t3.out hO (by omega), t4.out hO (by omega), T5, t5.out hO (by omega), t6⟩, a3.out hO (by omega)⟩
  rw [hO o (by omega)]; exact a1
theorem RMk.p2 (h : RMk t o A M) {v : Int32} (hT : RR (o + 5) 12 5 (wantsC v T) M') (hO : Out (o + 5) (o + 7) M M') : RMk t o (setT (setN A 5 v) 2 T) M' := by
  obtain ⟨a1, ⟨t0, t1, t2, t3, t4, T5, t5, t6⟩, a3⟩ := h
  refine ⟨?_, ⟨t0.out hO (by omega), t1.out hO (by omega), hT, t3.out hO (by omega), t4.out hO (by omega), T5, t5.out hO (by omega), t6⟩, a3.out hO (by omega)⟩
  rw [hO o (by omega)]; exact a1
theorem RMk.p3 (h : RMk t o A M) (hT : RR (o + 7) 12 7 (dishC T) M') (hO : Out (o + 7) (o + 9) M M') : RMk t o (setT A 3 T) M' := by
  obtain ⟨a1, ⟨t0, t1, t2, t3, t4, T5, t5, t6⟩, a3⟩ := h
  refine ⟨?_, ⟨t0.out hO (by omega), t1.out hO (by omega), t2.out hO (by omega), hT, t4.out hO (by omega), T5, t5.out hO (by omega), t6⟩, a3.out hO (by omega)⟩
  rw [hO o (by omega)]; exact a1
end NEWA
theorem linesOf_k (o : Nat) {k : Nat} (hk : k = 0 ∨ k = 2 ∨ k = 3 ∨ k = 4) : f_X6_linesOf o (nI k) = some (o + (if k = 0 then 1 else if k = 2 then 3 else if k = 3 then 5 else 7)) := by
  rcases hk with rfl | rfl | rfl | rfl <;> rfl
def oiG (k : Nat) : Nat := if k = 0 then 1 else if k = 2 then 3 else if k = 3 then 5 else 7
theorem thk_rr {k : Nat} (hk : k = 0 ∨ k = 2 ∨ k = 3 ∨ k = 4) {M : Mem} {o : Nat} (hM : Ms o M) : ∃ T, RR (o + oiG k) (mxG k) (wdG k) T M := by
  obtain ⟨a, b, c, d, e, f⟩ := hM
  rcases hk with rfl | rfl | rfl | rfl
  · exact a
  · exact b
  · exact c
  · exact d
theorem thk_ms {k : Nat} (hk : k = 0 ∨ k = 2 ∨ k = 3 ∨ k = 4) {b : Bool} {M M' : Mem} (hM : Ms 53 M) (hF : Fr b (53 + oiG k) M M') (hT : ∃ T', RR (53 + oiG k) (mxG k) (wdG k) T' M') : Ms 53 M' := by
  obtain ⟨⟨a, ha⟩, ⟨b, hb⟩, ⟨c, hc⟩, ⟨d, hd⟩, ⟨e, he⟩, ⟨f, hf⟩⟩ := hM
  have q := hF.1
  rcases hk with rfl | rfl | rfl | rfl
  · have q : ∀ x, x ≠ 136 → x ≠ 54 → x ≠ 55 → M' x = M x := q
    exact ⟨hT, ⟨b, hb.congr (q _ (by omega) (by omega) (by omega)) (q _ (by omega) (by omega) (by omega))⟩, ⟨c, hc.congr (q _ (by omega) (by omega) (by omega)) (q _ (by omega) (by omega) (by omega))⟩, ⟨d, hd.congr (q _ (by omega) (by omega) (by omega)) (q _ (by omega) (by omega) (by omega))⟩, ⟨e, he.congr (q _ (by omega) (by omega) (by omega)) (q _ (by omega) (by omega) (by omega))⟩, ⟨f, hf.congr (q _ (by omega) (by omega) (by omega)) (q _ (by omega) (by omega) (by omega))⟩⟩
  · have q : ∀ x, x ≠ 136 → x ≠ 56 → x ≠ 57 → M' x = M x := q
    exact ⟨⟨a, ha.congr (q _ (by omega) (by omega) (by omega)) (q _ (by omega) (by omega) (by omega))⟩, hT, ⟨c, hc.congr (q _ (by omega) (by omega) (by omega)) (q _ (by omega) (by omega) (by omega))⟩, ⟨d, hd.congr (q _ (by omega) (by omega) (by omega)) (q _ (by omega) (by omega) (by omega))⟩, ⟨e, he.congr (q _ (by omega) (by omega) (by omega)) (q _ (by omega) (by omega) (by omega))⟩, ⟨f, hf.congr (q _ (by omega) (by omega) (by omega)) (q _ (by omega) (by omega) (by omega))⟩⟩
  · have q : ∀ x, x ≠ 136 → x ≠ 58 → x ≠ 59 → M' x = M x := q
    exact ⟨⟨a, ha.congr (q _ (by omega) (by omega) (by omega)) (q _ (by omega) (by omega) (by omega))⟩, ⟨b, hb.congr (q _ (by omega) (by omega) (by omega)) (q _ (by omega) (by omega) (by omega))⟩, hT, ⟨d, hd.congr (q _ (by omega) (by omega) (by omega)) (q _ (by omega) (by omega) (by omega))⟩, ⟨e, he.congr (q _ (by omega) (by omega) (by omega)) (q _ (by omega) (by omega) (by omega))⟩, ⟨f, hf.congr (q _ (by omega) (by omega) (by omega)) (q _ (by omega) (by omega) (by omega))⟩⟩
  · have q : ∀ x, x ≠ 136 → x ≠ 60 → x ≠ 61 → M' x = M x := q
    exact ⟨⟨a, ha.congr (q _ (by omega) (by omega) (by omega)) (q _ (by omega) (by omega) (by omega))⟩, ⟨b, hb.congr (q _ (by omega) (by omega) (by omega)) (q _ (by omega) (by omega) (by omega))⟩, ⟨c, hc.congr (q _ (by omega) (by omega) (by omega)) (q _ (by omega) (by omega) (by omega))⟩, hT, ⟨e, he.congr (q _ (by omega) (by omega) (by omega)) (q _ (by omega) (by omega) (by omega))⟩, ⟨f, hf.congr (q _ (by omega) (by omega) (by omega)) (q _ (by omega) (by omega) (by omega))⟩⟩
/-- the lines that were read are told -/
theorem tellLines_ok {k nk : Nat} (hk : k = 0 ∨ k = 2 ∨ k = 3 ∨ k = 4) (hk6 : nk ≤ 6) {L : List Rw} (hA : ∀ r, r < L.length → rowAb k nk (L.getD r ([], []))) {A : AS} {I : Option AS} {P : Ps} {r : Sk × (Int32 × Int32)} {M : Mem} (h : InvC (A, I, P, r) M) (hR : RR (53 + oiG k) (mxG k) (wdG k) (tbC L) M) : Wq (f_X10_tellLines (nI k) (53 + oiG k) M) (fun p => p.2 = nI L.length ∧ Hi M p.1 ∧ ∀ Mr, FRm k L Mr → InvC (newA k A (tbM k L Mr), I, newP k P, r) p.1) := by
  have hm := h.1
  rcases hk with rfl | rfl | rfl | rfl
  · unfold f_X10_tellLines
    have e1 : f_X6_linesOf 1 (nI 0) = some (1 + 1) := rfl
    rw [e1, b1_some]
    refine wq_b1 (copyFrom_ok (o' := 53 + 1) hm.t0 hR (by omega)) ?_
    rintro M2 ⟨c1, c2⟩
    rw [if_pos (by decide)]
    have t4 := hm.t4.out c2 (by omega)
    obtain ⟨-, a1, a2⟩ := empty_ok t4
    have t1 := (hm.t1.out c2 (by omega)).out a2 (by omega)
    obtain ⟨-, b1', b2'⟩ := empty_ok t1
    have t2 := ((hm.t2.out c2 (by omega)).out a2 (by omega)).out b2' (by omega)
    obtain ⟨-, d1, d2⟩ := empty_ok t2
    have t3 := (((hm.t3.out c2 (by omega)).out a2 (by omega)).out b2' (by omega)).out d2 (by omega)
    obtain ⟨-, f1, f2⟩ := empty_ok t3
    simp only [lt_eq]
    rw [if_neg (by decide)]
    generalize f_X8_empty (1 + 9) M2 = p6 at *
    generalize f_X8_empty (1 + 3) p6.1 = p7 at *
    generalize f_X8_empty (1 + 5) p7.1 = p8 at *
    generalize f_X8_empty (1 + 7) p8.1 = p9 at *
    have hall : Out 1 27 M p9.1 := ((((c2.wide (by omega) (by omega)).trans (a2.wide (by omega) (by omega))).trans (b2'.wide (by omega) (by omega))).trans (d2.wide (by omega) (by omega))).trans (f2.wide (by omega) (by omega))
    have key : ∀ Mr, FRm 0 L Mr → InvC (newA 0 A (tbM 0 L Mr), I, P, r) p9.1 := by
      intro Mr hF
      have k1 := hm.p0 (tb_same (.inl rfl) hF hA rfl c1) c2
      have k2 := k1.putT4 a1 (a2.wide (by omega) (by omega))
      have k3 := k2.p1 b1' (b2'.wide (by omega) (by omega))
      have k4 := k3.p2 (v := 0) (T := tCut (A.2.1 2) 0) (d1.ext rfl (fun r c hr _ => absurd hr (Nat.not_lt_zero _))) (d2.wide (by omega) (by omega))
      have k5 := k4.p3 (T := tCut (A.2.1 3) 0) (f1.ext rfl (fun r c hr _ => absurd hr (Nat.not_lt_zero _))) (f2.wide (by omega) (by omega))
      refine h.mkt hall k5 (fun j hj => ?_)
      show (if j = 3 then _ else if j = 2 then _ else if j = 1 then _ else if j = 4 then _ else if j = 0 then _ else A.2.1 j) = A.2.1 j
      rw [if_neg (by omega), if_neg (by omega), if_neg (by omega), if_neg (by omega), if_neg (by omega)]
    refine wq_some ⟨?_, ?_, fun Mr hF => (key Mr hF).forget.1⟩
    · show f_X7_forget p9.1 (1 + 1) 3 = nI L.length
      have e : f_X7_forget p9.1 (1 + 1) = p9.1 (1 + 1) := by unfold f_X7_forget; rw [lt_eq, up2_cell _ _ _ (by omega)]
      rw [e]
      exact ((((c1.out a2 (by omega)).out b2' (by omega)).out d2 (by omega)).out f2 (by omega)).cnt
    · have e : Hi p9.1 (f_X7_forget p9.1) := by unfold f_X7_forget; rw [lt_eq]; exact ((Out.refl 0 155 _).up (by omega) (by omega))
      exact (hall.hi (by omega)).trans e
  · unfold f_X10_tellLines
    have e1 : f_X6_linesOf 1 (nI 2) = some (1 + 3) := rfl
    rw [e1, b1_some]
    refine wq_b1 (copyFrom_ok (o' := 53 + 3) hm.t1 hR (by omega)) ?_
    rintro M2 ⟨c1, c2⟩
    rw [if_neg (by decide), if_neg (by decide), lt_eq]
    have hall : Out 1 27 M M2 := c2.wide (by omega) (by omega)
    refine wq_some ⟨?_, ?_, fun Mr hF => ?_⟩
    · show f_X7_forget M2 (1 + 3) 3 = nI L.length
      have e : f_X7_forget M2 (1 + 3) = M2 (1 + 3) := by unfold f_X7_forget; rw [lt_eq, up2_cell _ _ _ (by omega)]
      rw [e]; exact c1.cnt
    · have e : Hi M2 (f_X7_forget M2) := by unfold f_X7_forget; rw [lt_eq]; exact ((Out.refl 0 155 _).up (by omega) (by omega))
      exact (hall.hi (by omega)).trans e
    · have k1 := hm.p1 (tb_same (.inr (.inl rfl)) hF hA rfl c1) c2
      have : InvC (setT A 1 (tbM 2 L Mr), I, P, r) M2 := h.mkt hall k1 (fun j hj => by
        show (if j = 1 then _ else A.2.1 j) = A.2.1 j
        rw [if_neg (by omega)])
      exact this.forget.1
  · unfold f_X10_tellLines
    have e1 : f_X6_linesOf 1 (nI 3) = some (1 + 5) := rfl
    rw [e1, b1_some]
    refine wq_b1 (copyFrom_ok (o' := 53 + 5) hm.t2 hR (by omega)) ?_
    rintro M2 ⟨c1, c2⟩
    rw [if_neg (by decide), if_neg (by decide), lt_eq]
    have hall : Out 1 27 M M2 := c2.wide (by omega) (by omega)
    have hl : L.length ≤ 12 := hR.le
    refine wq_some ⟨?_, ?_, fun Mr hF => ?_⟩
    · show f_X7_forget M2 (1 + 5) 3 = nI L.length
      have e : f_X7_forget M2 (1 + 5) = M2 (1 + 5) := by unfold f_X7_forget; rw [lt_eq, up2_cell _ _ _ (by omega)]
      rw [e]; exact c1.cnt
    · have e : Hi M2 (f_X7_forget M2) := by unfold f_X7_forget; rw [lt_eq]; exact ((Out.refl 0 155 _).up (by omega) (by omega))
      exact (hall.hi (by omega)).trans e
    · have k1 := hm.p2 (tb_want hF hA hl c1) c2
      have : InvC (setT (setN A 5 0) 2 (tbM 3 L Mr), I, P, r) M2 := h.mkt hall k1 (fun j hj => by
        show (if j = 2 then _ else A.2.1 j) = A.2.1 j
        rw [if_neg (by omega)])
      exact this.forget.1
  · unfold f_X10_tellLines
    have e1 : f_X6_linesOf 1 (nI 4) = some (1 + 7) := rfl
    rw [e1, b1_some]
    refine wq_b1 (copyFrom_ok (o' := 53 + 7) hm.t3 hR (by omega)) ?_
    rintro M2 ⟨c1, c2⟩
    rw [if_neg (by decide), if_pos (by decide)]
    have hall : Out 1 27 M M2 := c2.wide (by omega) (by omega)
    refine wq_some ⟨c1.cnt, hall.hi (by omega), fun Mr hF => ?_⟩
    have k1 := hm.p3 (tb_dish hF hA hk6 c1) c2
    exact h.mkt hall k1 (fun j hj => by
      show (if j = 3 then _ else A.2.1 j) = A.2.1 j
      rw [if_neg (by omega)])
section TXR
variable {B : Nat → Nat} {n N : Nat} {A : AS} {I : Option AS} {P : Ps} {tp : Sk} {ft : Int32 × Int32} {M : Mem}
theorem textC_ok {k : Nat} (hk : k = 0 ∨ k = 2 ∨ k = 3 ∨ k = 4) (hN : okN B n N) (hC : InvC (A, I, P, tp, ft) M) (ht : tp.1 = n) (hB : ∀ j, j < n → tp.2 j = nI (B j)) : Wq (f_X10_text (nI k) M) (fun p => Hi M p.1 ∧ match rowsG (tyT B n) (vlT B n) k (A.2.1 0).1 13 0 [] with
    | .inl e => p.2 = -1 ∧ InvC (A, I, P, (0, tp.2), (nI e.1, nI (plT B n e.2))) p.1
    | .inr q => p.2 = nI q.2.length ∧ ∀ Mr, FRm k q.2 Mr → InvC (newA k A (tbM k q.2 Mr), I, newP k P, (0, tp.2), (0, -1)) p.1) := by
  obtain ⟨M1, s0, h1, h2, h3, h4⟩ := split_inv hN hC ht hB
  have hk6 : (A.2.1 0).1 ≤ 6 := h1.1.t0.le
  have h4' := h1.2.2.2.1.2.2
  obtain ⟨T0, hT0⟩ := thk_rr hk h4'
  have ho : 53 + oiG k + 1 < 136 ∧ 53 ≤ 53 + oiG k ∧ 53 + oiG k + 2 ≤ 79 := by unfold oiG; rcases hk with rfl | rfl | rfl | rfl <;> decide
  obtain ⟨⟨M5, x6⟩, r0, rF, rm⟩ := read_ok hN.t hN.v ho.1 h2 h3 hk hk6 hT0
  have hlin : f_X6_linesOf 53 (nI k) = some (53 + oiG k) := linesOf_k 53 hk
  have hn1 : ¬ nI k = 1 := by rcases hk with rfl | rfl | rfl | rfl <;> decide
  have hn2 : ¬ f_X10_within (nI k) 0 4 = 0 := by rcases hk with rfl | rfl | rfl | rfl <;> decide
  have hcnt : M1 (1 + 1) 3 = nI (A.2.1 0).1 := h1.1.t0.cnt
  have hcl : f_X10_text (nI k) M = if x6 = 0 then some (M5, -1) else (b2 (f_X10_tellLines (nI k) (53 + oiG k) M5) fun M9 x10 => some (M9, x10)) := by
    unfold f_X10_text
    rw [s0, b1_some, if_neg hn1, if_neg hn2, hlin, b1_some, hcnt, r0, b2_some, b1_some]
  have hi5 : ∀ {b : Bool} {M' : Mem}, Fr b (53 + oiG k) M1 M' → Hi M1 M' := fun hF a ha => hF.1 a (by omega) (by omega) (by omega)
  have hall := rows_all (ty := tyT B n) (vl := vlT B n) (nk := (A.2.1 0).1) hk 13 0 [] ⟨Nat.zero_le _, fun r hr => absurd hr (Nat.not_lt_zero _)⟩
  cases hR : rowsG (tyT B n) (vlT B n) k (A.2.1 0).1 13 0 [] with
  | inl e =>
    rw [hR] at rF rm
    have rF : Fr true (53 + oiG k) M1 M5 := rF
    obtain ⟨z1, z2, z3, z4⟩ := rm
    simp only at z1 z2 z3 z4
    rw [hcl, if_pos z1]
    refine wq_some ⟨h4.trans (hi5 rF), rfl, h1.rd ho.2 rF (thk_ms hk h4' rF z4) ⟨?_, fun j hj => absurd hj (Nat.not_lt_zero _), z2, z3⟩⟩
    show M5 136 4 = nI 0
    rw [rF.2 4 (by omega) (fun _ => by omega)]
    exact h1.2.2.2.2.2.1
  | inr q =>
    rw [hR] at rF rm
    have rF : Fr false (53 + oiG k) M1 M5 := rF
    obtain ⟨z1, z2⟩ := rm
    simp only at z1 z2
    rw [hcl, if_neg (by rw [z1]; decide)]
    have hx : InvC (A, I, P, (0, tp.2), (0, -1)) M5 := h1.rd ho.2 rF (thk_ms hk h4' rF ⟨_, z2⟩) ⟨by
      show M5 136 4 = nI 0
      rw [rF.2 4 (by omega) (fun z => by cases z)]
      exact h1.2.2.2.2.2.1, fun j hj => absurd hj (Nat.not_lt_zero _), by
      show M5 136 7 = 0
      rw [rF.2 7 (by omega) (fun z => by cases z)]
      exact h1.2.2.2.2.2.2.2.1, by
      show M5 136 8 = -1
      rw [rF.2 8 (by omega) (fun z => by cases z)]
      exact h1.2.2.2.2.2.2.2.2⟩
    obtain ⟨⟨M9, x10⟩, t0, t1, t2, t3⟩ := tellLines_ok hk hk6 (hall q.1 q.2 hR).2 hx z2
    rw [t0, b2_some]
    exact wq_some ⟨(h4.trans (hi5 rF)).trans t2, t1, t3⟩
theorem newA0_eq (A : AS) (T : Tb) : newA 0 A T = setT (setN (setT (setT (setT (setT A 4 (tCut (A.2.1 4) 0)) 1 (tCut (A.2.1 1) 0)) 2 (tCut (A.2.1 2) 0)) 3 (tCut (A.2.1 3) 0)) 5 0) 0 T := by
  refine Prod.ext rfl (Prod.ext ?_ rfl)
  funext j
  show (if j = 3 then tCut (A.2.1 3) 0 else if j = 2 then tCut (A.2.1 2) 0 else if j = 1 then tCut (A.2.1 1) 0 else if j = 4 then tCut (A.2.1 4) 0 else if j = 0 then T else A.2.1 j) = (if j = 0 then T else if j = 3 then tCut (A.2.1 3) 0 else if j = 2 then tCut (A.2.1 2) 0 else if j = 1 then tCut (A.2.1 1) 0 else if j = 4 then tCut (A.2.1 4) 0 else A.2.1 j)
  by_cases h0 : j = 0
  · subst h0; rfl
  · rw [if_neg h0, if_neg h0]
theorem textM_ok {k : Nat} (hk : k = 0 ∨ k = 2 ∨ k = 3 ∨ k = 4) (hN : okN B n N) (hM : InvM (A, I, P, tp, ft) M) (hL : A.2.2.length ≤ 16) (ht : tp.1 = n) (hB : ∀ j, j < n → tp.2 j = nI (B j)) (hk6 : (A.2.1 0).1 ≤ 6) : Wq (f_X11_text (nI k) M) (fun p => Lo M p.1 ∧ match rowsG (tyT B n) (vlT B n) k (A.2.1 0).1 13 0 [] with
    | .inl e => p.2 = -1 ∧ InvM (A, I, P, (0, tp.2), (nI e.1, nI (plT B n e.2))) p.1
    | .inr q => p.2 = nI q.2.length ∧ ∃ Mr, FRm k q.2 Mr ∧ InvM (newA k A (tbM k q.2 Mr), I, newP k P, (0, tp.2), (0, -1)) p.1) := by
  have hin : ¬ f_X11_isIn (nI k) 0 4 = 0 := by rcases hk with rfl | rfl | rfl | rfl <;> decide
  have hn1 : ¬ nI k = 1 := by rcases hk with rfl | rfl | rfl | rfl <;> decide
  have hk5 : k < 5 := by omega
  obtain ⟨M7, p0, p1, p2, p3, p4⟩ := prem_ok (k := k) hN hk5 hM ht hB
  have hk80 : M7 156 80 = nI (A.2.1 0).1 := by
    rw [p2.1 156 (by omega) (by omega) (by omega) (by omega)]
    exact ans_m 0 (by omega) hM
  obtain ⟨⟨M9, x10⟩, r0, r1, r2⟩ := readsRows_ok hN hk hk80 hk6 p1
  obtain ⟨f1, f2, f3⟩ := r1.fz p2 p3 p4
  rw [textm_eq hin, p0, b1_some, if_neg hn1, r0, b2_some]
  have hall := rows_all (ty := tyT B n) (vl := vlT B n) (nk := (A.2.1 0).1) hk 13 0 [] ⟨Nat.zero_le _, fun r hr => absurd hr (Nat.not_lt_zero _)⟩
  cases hR : rowsG (tyT B n) (vlT B n) k (A.2.1 0).1 13 0 [] with
  | inl e =>
    rw [hR] at r2
    obtain ⟨z1, z2, z3⟩ := r2
    simp only at z1 z2 z3
    rw [if_pos z1]
    have := fin_ok hM f1 z2 z3
    exact wq_some ⟨this.2, rfl, this.1⟩
  | inr q =>
    rw [hR] at r2
    obtain ⟨z1, z2⟩ := r2
    simp only at z1 z2
    rw [if_neg (by rw [z1]; decide)]
    have hlen := (hall q.1 q.2 hR).1
    have hg := good_ok hM f1 f2 f3
    generalize hM11 : up2 M9 155 16 0 = M11 at *
    have fr11 : FRm k q.2 M11 := by
      rw [← hM11]
      refine ⟨by rw [up2_slot _ _ _ (by omega)]; exact z2.1, fun r hr => (z2.2 r hr).same hk (fun j _ => by rw [up2_cell _ _ _ (by omega)])⟩
    have hfo := forgets_ok hg.1
    have frf : ∀ M3, M3 162 = M11 162 → M3 155 15 = M11 155 15 → FRm k q.2 M3 := fun M3 e1 e2 => ⟨by rw [e2]; exact fr11.1, fun r hr => (fr11.2 r hr).same hk (fun j _ => by rw [e1])⟩
    unfold f_X11_putsText
    rw [if_neg hn1]
    have ef : f_X11_forgets M11 = up2 M11 155 4 0 := by unfold f_X11_forgets; rw [lt_eq]
    rcases hk with rfl | rfl | rfl | rfl
    · rw [if_neg (by decide), lt_eq, if_pos (by decide)]
      unfold f_X11_putsKinds
      simp only [lt_eq]
      generalize hM3 : f_X11_forgets M11 = M3 at *
      have g1 := hfo.1.1
      have k4 := (g1.clear hL (k := 4) (by omega))
      have k1 := k4.clear hL (k := 1) (by omega)
      have k2 := k1.clear hL (k := 2) (by omega)
      have k3 := k2.clear hL (k := 3) (by omega)
      have k5 := k3.upN hL (k := 5) (by omega) 0
      have k5' : RMm 156 _ (up2 (up2 (up2 (up2 (up2 M3 156 7 0) 156 84 0) 156 85 0) 156 86 0) 156 6 0) := k5
      generalize hM5 : up2 (up2 (up2 (up2 (up2 M3 156 7 0) 156 84 0) 156 85 0) 156 86 0) 156 6 0 = M5 at *
      have o5 : Out 156 157 M3 M5 := by
        rw [← hM5]
        exact (((((Out.refl _ _ _).up (by omega) (by omega)).up (by omega) (by omega)).up (by omega) (by omega)).up (by omega) (by omega)).up (by omega) (by omega)
      have c162 : M5 162 = M11 162 := by rw [o5 162 (by omega), ef, up2_cell _ _ _ (by omega)]
      have c15 : M5 155 15 = M11 155 15 := by rw [o5 155 (by omega), ef, up2_slot _ _ _ (by omega)]
      have hF := frf M5 c162 c15
      obtain ⟨⟨M6, x7⟩, u0, u1, u2, u3⟩ := puts_ok (t := 0) (w := 2) (a1 := 80) (a2 := 91) (a3 := 2) (by omega) k5' hL hF.1 hlen rfl (by decide) rfl rfl rfl
      rw [u0, b2_some, b2_some, b2_some]
      have hro : InvM (newA 0 A (tbM 0 q.2 M5), I, (0, P.2), (0, tp.2), (0, -1)) M6 := by
        refine hfo.1.row ((Mo.w o5).trans (Mo.w u3)) ?_
        rw [newA0_eq]
        exact u2
      exact wq_some ⟨(((hg.2.trans (hfo.2.lo (by omega) (by omega))).trans (o5.lo (by omega) (by omega))).trans (u3.lo (by omega) (by omega))), u1, M5, hF, hro⟩
    · rw [if_neg (by decide), lt_eq, if_neg (by decide), if_pos (by decide)]
      generalize hM3 : f_X11_forgets M11 = M3 at *
      have c162 : M3 162 = M11 162 := by rw [ef, up2_cell _ _ _ (by omega)]
      have c15 : M3 155 15 = M11 155 15 := by rw [ef, up2_slot _ _ _ (by omega)]
      have hF := frf M3 c162 c15
      obtain ⟨⟨M6, x7⟩, u0, u1, u2, u3⟩ := puts_ok (t := 1) (w := 3) (a1 := 84) (a2 := 103) (a3 := 3) (by omega) hfo.1.1 hL hF.1 hlen rfl (by decide) rfl rfl rfl
      rw [u0, b2_some, b2_some]
      exact wq_some ⟨((hg.2.trans (hfo.2.lo (by omega) (by omega))).trans (u3.lo (by omega) (by omega))), u1, M3, hF, hfo.1.row (Mo.w u3) u2⟩
    · rw [if_neg (by decide), lt_eq, if_neg (by decide), if_neg (by decide), lt_eq]
      generalize hM3 : f_X11_forgets M11 = M3 at *
      have k5 := hfo.1.1.upN hL (k := 5) (by omega) 0
      have k5' : RMm 156 (setN A 5 0) (up2 M3 156 6 0) := k5
      have o5 : Out 156 157 M3 (up2 M3 156 6 0) := (Out.refl _ _ _).up (by omega) (by omega)
      have c162 : up2 M3 156 6 0 162 = M11 162 := by rw [o5 162 (by omega), ef, up2_cell _ _ _ (by omega)]
      have c15 : up2 M3 156 6 0 155 15 = M11 155 15 := by rw [o5 155 (by omega), ef, up2_slot _ _ _ (by omega)]
      have hF := frf _ c162 c15
      obtain ⟨⟨M6, x7⟩, u0, u1, u2, u3⟩ := puts_ok (t := 2) (w := 4) (a1 := 85) (a2 := 139) (a3 := 4) (by omega) k5' hL hF.1 hlen rfl (by decide) rfl rfl rfl
      rw [u0, b2_some, b2_some]
      exact wq_some ⟨(((hg.2.trans (hfo.2.lo (by omega) (by omega))).trans (o5.lo (by omega) (by omega))).trans (u3.lo (by omega) (by omega))), u1, _, hF, hfo.1.row ((Mo.w o5).trans (Mo.w u3)) u2⟩
    · rw [if_pos (by decide)]
      obtain ⟨⟨M6, x7⟩, u0, u1, u2, u3⟩ := puts_ok (t := 3) (w := 10) (a1 := 86) (a2 := 187) (a3 := 10) (by omega) hg.1.1 hL fr11.1 hlen rfl (by decide) rfl rfl rfl
      rw [u0, b2_some, b2_some]
      exact wq_some ⟨hg.2.trans (u3.lo (by omega) (by omega)), u1, M11, fr11, hg.1.row (Mo.w u3) u2⟩
theorem newA_ok {k : Nat} (hk : k = 0 ∨ k = 2 ∨ k = 3 ∨ k = 4) (hG : OKG (A, I, P, tp, ft)) (hk6 : (A.2.1 0).1 ≤ 6) {L : List Rw} {Mr : Mem} (hF : FRm k L Mr) (hA : ∀ r, r < L.length → rowAb k (A.2.1 0).1 (L.getD r ([], []))) : OKG (newA k A (tbM k L Mr), I, newP k P, (0, tp.2), (0, -1)) := by
  obtain ⟨⟨hn, hT, hi, hL⟩, hI, hP, _⟩ := hG
  have tape : (0 ≤ 400 ∧ ∀ j, j < 0 → ∃ b, b < 256 ∧ tp.2 j = nI b) := ⟨Nat.zero_le _, fun j hj => absurd hj (Nat.not_lt_zero _)⟩
  rcases hk with rfl | rfl | rfl | rfl
  · exact ⟨⟨⟨hn.1, hn.2.1, hn.2.2.1, 0, rfl, Nat.pow_pos (by omega)⟩, ⟨ok_kinds hF hA, fun r hr => absurd hr (Nat.not_lt_zero _), fun r hr => absurd hr (Nat.not_lt_zero _), fun r hr => absurd hr (Nat.not_lt_zero _), fun r hr => absurd hr (Nat.not_lt_zero _)⟩, hi, hL⟩, hI, OKP.none _ _, tape⟩
  · exact ⟨⟨hn, ⟨hT.1, hT.2.1, ok_feasts hF hA, hT.2.2.2⟩, hi, hL⟩, hI, OKP.none _ _, tape⟩
  · exact ⟨⟨⟨hn.1, hn.2.1, hn.2.2.1, 0, rfl, Nat.pow_pos (by omega)⟩, ⟨hT.1, hT.2.1, hT.2.2.1, ok_wants hF hA, hT.2.2.2.2⟩, hi, hL⟩, hI, OKP.none _ _, tape⟩
  · exact ⟨⟨hn, ⟨hT.1, hT.2.1, hT.2.2.1, hT.2.2.2.1, ok_dishes hF hA hk6⟩, hi, hL⟩, hI, hP, tape⟩
end TXR
theorem c_text (a : Int32) {M : Mem} (h : Inv M) : ∃ M1 M2 r, f_X10_text a M = some (M1, r) ∧ f_X11_text a M1 = some (M2, r) ∧ Inv M2 := by
  have hh := h
  obtain ⟨⟨A, I, P, tp, ft⟩, hC, hM, hG⟩ := hh
  obtain ⟨hA, hI, hP, htp, hby⟩ := hG
  have hG : OKG (A, I, P, tp, ft) := ⟨hA, hI, hP, htp, hby⟩
  simp only at htp hby
  have hB : ∀ j, j < tp.1 → tp.2 j = nI ((tp.2 j).toInt.toNat) ∧ (tp.2 j).toInt.toNat < 256 := by
    intro j hj
    obtain ⟨b, hb, e⟩ := hby j hj
    rw [e, nI_toInt (by omega)]
    exact ⟨rfl, hb⟩
  have hok : okB (fun j => (tp.2 j).toInt.toNat) tp.1 := ⟨htp, fun j hj => (hB j hj).2⟩
  obtain ⟨N, n1, n2, n3⟩ := tok_end hok
  have hN : okN (fun j => (tp.2 j).toInt.toNat) tp.1 N := ⟨hok, n1, n2, n3⟩
  have hB1 : ∀ j, j < tp.1 → tp.2 j = nI ((fun j => (tp.2 j).toInt.toNat) j) := fun j hj => (hB j hj).1
  have hk6 : (A.2.1 0).1 ≤ 6 := hC.1.t0.le
  rcases rng_cases a 0 4 (by omega) (by omega) with z | ⟨k, _, hk, rfl⟩
  · obtain ⟨M1, s0, h1, h2, h3, h4⟩ := split_inv hN hC rfl hB1
    have hn1 : ¬ a = 1 := by
      rintro rfl
      exact absurd z (by decide)
    have hM1 := hM.hi h4
    have f : Fz M1 (up2 (up2 (up2 M1 155 23 0) 155 25 (-1)) 155 16 0) := ⟨fun x x1 _ _ _ => by rw [up2_cell _ _ _ x1, up2_cell _ _ _ x1, up2_cell _ _ _ x1], fun j hj => by rw [up2_slot _ _ _ (by omega), up2_slot _ _ _ (by omega), up2_slot _ _ _ (by omega)]⟩
    have hz := hM1.z f (up2_at _ _ _ _)
    have e23 : up2 (up2 (up2 M1 155 23 0) 155 25 (-1)) 155 16 0 155 23 = 0 := by simp [up2_eq]
    have e25 : up2 (up2 (up2 M1 155 23 0) 155 25 (-1)) 155 16 0 155 25 = -1 := by simp [up2_eq]
    rw [e23, e25] at hz
    refine ⟨M1, up2 (up2 (up2 M1 155 23 0) 155 25 (-1)) 155 16 0, -1, ?_, ?_, _, h1.lo f.lo, hz, hG.tape _⟩
    · unfold f_X10_text
      rw [s0, b1_some, if_neg hn1, if_pos (show f_X10_within a 0 4 = 0 from (within0 _ _ _).2 z)]
    · unfold f_X11_text
      simp only [lt_eq]
      rw [if_pos (show f_X11_isIn a 0 4 = 0 from (isInm0 _ _ _).2 z)]
  · by_cases k1 : k = 1
    · subst k1
      obtain ⟨G', r, g1, ⟨⟨M1, r1⟩, e1, e2, e3, e4⟩, g3⟩ := text_law hN hC hG rfl hB1
      simp only at e2 e3 e4
      obtain ⟨⟨M2, r2⟩, w1, w2, w3, w4⟩ := g3 M1 (hM.hi e4)
      simp only at w2 w3 w4
      subst e2
      subst w2
      exact ⟨M1, M2, r2, e1, w1, G', e3.lo w4, w3, g1⟩
    · have hk4 : k = 0 ∨ k = 2 ∨ k = 3 ∨ k = 4 := by omega
      obtain ⟨⟨M1, r1⟩, e1, hH, m1⟩ := textC_ok hk4 hN hC rfl hB1
      simp only at hH
      obtain ⟨⟨M2, r2⟩, e2, hLo, m2⟩ := textM_ok hk4 hN (hM.hi hH) hA.2.2.2.1 rfl hB1 hk6
      simp only at hLo
      have hall := rows_all (ty := tyT (fun j => (tp.2 j).toInt.toNat) tp.1) (vl := vlT (fun j => (tp.2 j).toInt.toNat) tp.1) (nk := (A.2.1 0).1) hk4 13 0 [] ⟨Nat.zero_le _, fun r hr => absurd hr (Nat.not_lt_zero _)⟩
      cases hR : rowsG (tyT (fun j => (tp.2 j).toInt.toNat) tp.1) (vlT (fun j => (tp.2 j).toInt.toNat) tp.1) k (A.2.1 0).1 13 0 [] with
      | inl e =>
        rw [hR] at m1 m2
        obtain ⟨y1, y2⟩ := m1
        obtain ⟨x1, x2⟩ := m2
        simp only at y1 y2 x1 x2
        subst y1
        subst x1
        exact ⟨M1, M2, -1, e1, e2, _, y2.lo hLo, x2, hG.tape _⟩
      | inr q =>
        rw [hR] at m1 m2
        obtain ⟨y1, y2⟩ := m1
        obtain ⟨x1, Mr, x2, x3⟩ := m2
        simp only at y1 y2 x1 x3
        subst y1
        subst x1
        exact ⟨M1, M2, _, e1, e2, _, (y2 Mr x2).lo hLo, x3, newA_ok hk4 hG hk6 x2 (hall q.1 q.2 hR).2⟩
