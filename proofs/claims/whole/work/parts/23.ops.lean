/-! ===== PURE PART: what a market does, told without memory ===== -/
def row5 (a b c d e : Int32) : Nat → Int32 := fun j => if j = 0 then a else if j = 1 then b else if j = 2 then c else if j = 3 then d else if j = 4 then e else 0
def sNote (t : Bool) (A : AS) (what which much : Int32) : AS := if t = true ∧ (A.2.1 5).1 < 150 then setT A 5 (tAdd (A.2.1 5) (row4 (A.1 0) what which much)) else A
def sFeast (t : Bool) (A : AS) (k : Nat) (g : Int32) : AS × Int32 :=
  if (A.2.1 4).1 < 14 then
    if leftS A k g ≤ 0 then (sNote t (setN A 3 (A.1 3 + 1)) 0 (nI k) (leftS A k g), leftS A k g)
    else (sNote t (setT (setN A 3 (A.1 3 + 1)) 4 (tAdd (A.2.1 4) (row5 (nI k) (leftS A k g) (A.1 0) (edgeS A k g) 0))) 0 (nI k) (leftS A k g), leftS A k g)
  else (sNote t (setN A 3 (A.1 3 + 1)) 0 (nI k) 0, 0)
def sForge (t : Bool) (A : AS) (k : Nat) (s : Int32) : AS := sNote t (setT (setN A 1 (A.1 1 - 20)) 4 (tAdd (A.2.1 4) (row5 (nI k) s (A.1 0) 9 1))) 1 (nI k) s
def cutT (T : Tb) (i : Nat) (s : Int32) : Tb := tAdd (tPut (tPut T i 1 s) i 3 (f_J9_min_7cf53 9 (T.2 i 3 + 1))) (row5 (T.2 i 0) (T.2 i 1 - s) (T.2 i 2) (f_J9_min_7cf53 9 (T.2 i 3 + 1)) (T.2 i 4))
def sCut (t : Bool) (A : AS) (i : Nat) (s : Int32) : AS := sNote t (setT A 4 (cutT (A.2.1 4) i s)) 2 ((A.2.1 4).2 i 0) s
def joinS (T : Tb) (a b : Nat) : Int32 := f_X10_held (((T.2 a 1 + T.2 b 1) * 9) / 10) 1 99
def joinT (T : Tb) (a b : Nat) : Tb := tDrop (tPut (tPut (tPut (tPut T a 1 (joinS T a b)) a 2 (f_J9_min_7cf53 (T.2 a 2) (T.2 b 2))) a 3 (f_J9_max_7cf53 (T.2 a 3) (T.2 b 3))) a 4 (f_J9_max_7cf53 (T.2 a 4) (T.2 b 4))) b
def sJoin (t : Bool) (A : AS) (a b : Nat) : AS := sNote t (setT A 4 (joinT (A.2.1 4) a b)) 3 ((A.2.1 4).2 a 0) (joinS (A.2.1 4) a b)
def sSell (t : Bool) (A : AS) (i : Nat) : AS := sNote t (setT (setN A 1 (A.1 1 + priceS A i 0)) 4 (tDrop (A.2.1 4) i)) 4 ((A.2.1 4).2 i 0) (priceS A i 0)
/-- a remain goes, and the book says why -/
def sLose (t : Bool) (A : AS) (i : Nat) (why : Int32) : AS := sNote t (setT A 4 (tDrop (A.2.1 4) i)) why ((A.2.1 4).2 i 0) ((A.2.1 4).2 i 1)
theorem setT_comm (A : AS) (X Y : Tb) {i j : Nat} (h : i ≠ j) : setT (setT A i X) j Y = setT (setT A j Y) i X := by
  unfold setT
  simp only [Prod.mk.injEq, true_and, and_true]
  funext k
  by_cases e : k = j
  · rw [if_pos e, if_neg (by omega), if_pos e]
  · rw [if_neg e]
    by_cases e2 : k = i
    · rw [if_pos e2, if_pos e2]
    · rw [if_neg e2, if_neg e2, if_neg e]
theorem sNote_T4 (t : Bool) (A : AS) (Y : Tb) (a b c : Int32) : sNote t (setT A 4 Y) a b c = setT (sNote t A a b c) 4 Y := by
  unfold sNote
  show (if t = true ∧ (A.2.1 5).1 < 150 then setT (setT A 4 Y) 5 (tAdd (A.2.1 5) (row4 (A.1 0) a b c)) else setT A 4 Y) = _
  by_cases h : t = true ∧ (A.2.1 5).1 < 150
  · rw [if_pos h, if_pos h, setT_comm _ _ _ (by omega)]
  · rw [if_neg h, if_neg h]
theorem sNote_N (t : Bool) (A : AS) {k : Nat} (hk : k ≠ 0) (v : Int32) (a b c : Int32) : sNote t (setN A k v) a b c = setN (sNote t A a b c) k v := by
  unfold sNote
  have e : (setN A k v).1 0 = A.1 0 := by show upd A.1 k v 0 = _; unfold upd; rw [if_neg (by omega)]
  rw [e]
  show (if t = true ∧ (A.2.1 5).1 < 150 then setT (setN A k v) 5 (tAdd (A.2.1 5) (row4 (A.1 0) a b c)) else setN A k v) = _
  by_cases h : t = true ∧ (A.2.1 5).1 < 150
  · rw [if_pos h, if_pos h]; rfl
  · rw [if_neg h, if_neg h]
theorem sNote_tab (t : Bool) (A : AS) (a b c : Int32) {k : Nat} (hk : k ≠ 5) : (sNote t A a b c).2.1 k = A.2.1 k := by
  unfold sNote
  by_cases h : t = true ∧ (A.2.1 5).1 < 150
  · rw [if_pos h]; show (if k = 5 then _ else A.2.1 k) = _; rw [if_neg hk]
  · rw [if_neg h]
theorem sNote_num (t : Bool) (A : AS) (a b c : Int32) : (sNote t A a b c).1 = A.1 := by
  unfold sNote
  by_cases h : t = true ∧ (A.2.1 5).1 < 150
  · rw [if_pos h]; rfl
  · rw [if_neg h]
theorem sNote_law (t : Bool) (A : AS) (a b c : Int32) : (sNote t A a b c).2.2 = A.2.2 := by
  unfold sNote
  by_cases h : t = true ∧ (A.2.1 5).1 < 150
  · rw [if_pos h]; rfl
  · rw [if_neg h]
/-! the class -/
section OPC
variable {t : Bool} {o : Nat} {A : AS} {M : Mem}
theorem RMk.putT4 (h : RMk t o A M) {T : Tb} {M' : Mem} (hT : RR (o + 9) 14 5 T M') (hO : Out (o + 9) (o + 11) M M') : RMk t o (setT A 4 T) M' := by
  obtain ⟨h1, ⟨t0, t1, t2, t3, t4, B, t5, t6⟩, h3⟩ := h
  refine ⟨?_, ⟨t0.out hO (by omega), t1.out hO (by omega), t2.out hO (by omega), t3.out hO (by omega), hT, B, t5.out hO (by omega), t6⟩, h3.out hO (by omega)⟩
  rw [hO o (by omega)]
  exact h1
theorem RMk.note (h : RMk t o A M) (a b c : Int32) {d : Int32} (hd : d = A.1 0) : Wq (f_X8_add (o + 11) d a b c M) (fun p => RMk t o (sNote t A a b c) p.1 ∧ Out (o + 11) (o + 13) M p.1) := by
  subst hd
  obtain ⟨h1, ⟨t0, t1, t2, t3, t4, B, t5, t6⟩, h3⟩ := h
  by_cases hf : B.1 < 150
  · refine wq_mono (add_ok t5 hf (A.1 0) a b c) ?_
    rintro ⟨M', x⟩ ⟨_, hR, hO⟩
    simp only at hR hO
    refine ⟨?_, hO⟩
    unfold sNote
    cases t with
    | true =>
      have e := t6 rfl
      subst e
      rw [if_pos ⟨rfl, hf⟩]
      exact ⟨by have e := hO o (by omega); simp only; rw [e]; exact h1, ⟨t0.out hO (by omega), t1.out hO (by omega), t2.out hO (by omega), t3.out hO (by omega), t4.out hO (by omega), _, hR, fun _ => rfl⟩, h3.out hO (by omega)⟩
    | false =>
      rw [if_neg (by simp)]
      exact ⟨by have e := hO o (by omega); simp only; rw [e]; exact h1, ⟨t0.out hO (by omega), t1.out hO (by omega), t2.out hO (by omega), t3.out hO (by omega), t4.out hO (by omega), _, hR, fun q => by cases q⟩, h3.out hO (by omega)⟩
  · have hf' : B.1 = 150 := by have := t5.le; omega
    rw [add_full t5 hf']
    refine wq_some ⟨?_, Out.refl _ _ _⟩
    unfold sNote
    cases t with
    | true =>
      have e := t6 rfl
      subst e
      rw [if_neg (fun q => hf q.2)]
      exact ⟨h1, ⟨t0, t1, t2, t3, t4, _, t5, t6⟩, h3⟩
    | false =>
      rw [if_neg (by simp)]
      exact ⟨h1, ⟨t0, t1, t2, t3, t4, _, t5, t6⟩, h3⟩
theorem RMk.num (h : RMk t o A M) {k j : Nat} {v : Int32} (hk : (k = 4 ∧ j = 9) ∨ (k = 0 ∧ j = 10) ∨ (k = 1 ∧ j = 11) ∨ (k = 2 ∧ j = 12) ∨ (k = 6 ∧ j = 13) ∨ (k = 7 ∧ j = 14) ∨ (k = 3 ∧ j = 15)) : RMk t o (setN A k v) (up2 M o j v) := by
  obtain ⟨h1, ⟨t0, t1, t2, t3, t4, B, t5, t6⟩, h3⟩ := h
  have hO : Out o (o + 1) M (up2 M o j v) := (Out.refl _ _ _).up (Nat.le_refl _) (by omega)
  refine ⟨?_, ⟨t0.out hO (by omega), t1.out hO (by omega), ?_, t3.out hO (by omega), t4.out hO (by omega), B, t5.out hO (by omega), t6⟩, h3.out hO (by omega)⟩
  · obtain ⟨n1, n2, n3, n4, n5, n6, n7⟩ := h1
    rcases hk with ⟨rfl, rfl⟩ | ⟨rfl, rfl⟩ | ⟨rfl, rfl⟩ | ⟨rfl, rfl⟩ | ⟨rfl, rfl⟩ | ⟨rfl, rfl⟩ | ⟨rfl, rfl⟩ <;> simp [up2_eq, setN, upd, n1, n2, n3, n4, n5, n6, n7]
  · have e : (setN A k v).1 5 = A.1 5 := by show upd A.1 k v 5 = _; unfold upd; rw [if_neg (by omega)]
    rw [e]
    exact t2.out hO (by omega)
theorem isFull_4 (h : RMk t o A M) : f_X8_isFull (o + 9) M = if (A.2.1 4).1 < 14 then 0 else 1 := isFull_eq h.t4
theorem row45 (a b c d : Int32) (T : Tb) {o m w : Nat} {M : Mem} (h : RR o m w (tAdd T (row4 a b c d)) M) : RR o m w (tAdd T (row5 a b c d 0)) M := by
  refine h.ext rfl ?_
  intro r j _ _
  simp only [tAdd, row4, row5]
  by_cases q : j = 4
  · subst q; simp
  · simp [q]
theorem holdFeast_ok (ho : MkAt o) (h : RMk t o A M) (hL : OKL A.2.2) {k : Nat} (hk : k < (A.2.1 0).1) (g : Int32) : Wq (f_X6_holdFeast o (nI k) g M) (fun p => p.2 = (sFeast t A k g).2 ∧ RMk t o (sFeast t A k g).1 p.1 ∧ Out o (o + 26) M p.1) := by
  unfold f_X6_holdFeast sFeast
  rw [lt_eq]
  have e15 : M o 15 = A.1 3 := h.1.2.2.2.2.2.2
  rw [e15]
  have h1 := h.num (k := 3) (j := 15) (v := A.1 3 + 1) (by omega)
  have hO1 : Out o (o + 26) M (up2 M o 15 (A.1 3 + 1)) := (Out.refl _ _ _).up (Nat.le_refl _) (by omega)
  rw [isFull_4 h1]
  show Wq (if (if (A.2.1 4).1 < 14 then (0 : Int32) else 1) = 0 then _ else _) _
  by_cases hf : (A.2.1 4).1 < 14
  · rw [if_pos hf, if_pos rfl, if_pos hf]
    refine wq_b2 (leftByFeast_ok ho h1 hL hk g) ?_
    rintro M3 x ⟨hx, hO3⟩
    simp only at hx hO3
    have hx' : x = leftS A k g := hx
    subst hx'
    have h3 := h1.out hO3 (by omega)
    have hO3' := hO1.trans (hO3.wide (by omega) (by omega))
    have d3 : M3 o 10 = A.1 0 := h3.1.2.1
    by_cases hz : leftS A k g ≤ 0
    · rw [if_pos hz, if_pos hz]
      refine wq_b2 (h3.note 0 (nI k) (leftS A k g) d3) ?_
      rintro M6 y ⟨h6, hO6⟩
      exact wq_some ⟨rfl, h6, hO3'.trans (hO6.wide (by omega) (by omega))⟩
    · rw [if_neg hz, if_neg hz]
      refine wq_b2 (edgeOfFeast_ok ho h3 hL hk g) ?_
      rintro M8 y ⟨hy, hO8⟩
      simp only at hy hO8
      have hy' : y = edgeS A k g := hy
      subst hy'
      have h8 := h3.out hO8 (by omega)
      have hO8' := hO3'.trans (hO8.wide (by omega) (by omega))
      rw [d3]
      refine wq_b2 (add_ok h8.t4 hf (nI k) (leftS A k g) (A.1 0) (edgeS A k g)) ?_
      rintro M10 z ⟨hz', h10, hO10⟩
      simp only at hz' h10 hO10
      have h10' := h8.putT4 (row45 _ _ _ _ _ h10) hO10
      refine wq_b2 (h10'.note 0 (nI k) (leftS A k g) h10'.1.2.1) ?_
      rintro M12 y ⟨h12, hO12⟩
      exact wq_some ⟨rfl, h12, (hO8'.trans (hO10.wide (by omega) (by omega))).trans (hO12.wide (by omega) (by omega))⟩
  · rw [if_neg hf, if_neg (by decide), if_neg hf]
    refine wq_b2 (h1.note 0 (nI k) 0 h1.1.2.1) ?_
    rintro M6 y ⟨h6, hO6⟩
    exact wq_some ⟨rfl, h6, hO1.trans (hO6.wide (by omega) (by omega))⟩
theorem put_lit {o m w : Nat} {T : Tb} {M : Mem} (h : RR o m w T M) {r : Nat} (c : Nat) (v : Int32) (hx : (OfNat.ofNat c : Int32) = nI c) (hr : r < T.1) (hc : c < w) : Wq (f_X8_put o (nI r) (OfNat.ofNat c) v M) (fun M' => RR o m w (tPut T r c v) M' ∧ Out (o + 1) (o + 2) M M') := by rw [hx]; exact put_in h v hr hc
theorem forgeOne_ok (h : RMk t o A M) {k : Nat} (s : Int32) (hf : (A.2.1 4).1 < 14) : Wq (f_X6_forgeOne o (nI k) s M) (fun p => p.2 = nI (A.2.1 4).1 ∧ RMk t o (sForge t A k s) p.1 ∧ Out o (o + 26) M p.1) := by
  unfold f_X6_forgeOne
  have d : M o 10 = A.1 0 := h.1.2.1
  rw [d]
  refine wq_b2 (add_ok h.t4 hf (nI k) s (A.1 0) 9) ?_
  rintro M1 x ⟨hx, hR, hO⟩
  simp only at hx hR hO
  subst hx
  refine wq_b1 (put_lit hR 4 1 rfl (by simp [tAdd]) (by omega)) ?_
  rintro M3 ⟨hR3, hO3⟩
  have h3 := h.putT4 (T := tAdd (A.2.1 4) (row5 (nI k) s (A.1 0) 9 1)) (hR3.ext rfl (by
    intro r j hr hj
    simp only [tAdd, tPut, row4, row5]
    by_cases q : r = (A.2.1 4).1
    · subst q
      by_cases q2 : j = 4
      · subst q2; simp
      · simp [q2]
    · simp [q])) (hO.trans (hO3.wide (by omega) (by omega)))
  rw [lt_eq, h3.1.2.2.1]
  have h4 := h3.num (k := 1) (j := 11) (v := A.1 1 - 20) (by omega)
  refine wq_b2 (h4.note 1 (nI k) s h4.1.2.1) ?_
  rintro M5 y ⟨h5, hO5⟩
  refine wq_some ⟨rfl, h5, ?_⟩
  exact (((hO.wide (by omega) (by omega)).trans (hO3.wide (by omega) (by omega))).up (Nat.le_refl _) (by omega)).trans (hO5.wide (by omega) (by omega))
theorem cutOne_ok (h : RMk t o A M) {i : Nat} (s : Int32) (hi : i < (A.2.1 4).1) (hf : (A.2.1 4).1 < 14) : Wq (f_X6_cutOne o (nI i) s M) (fun p => p.2 = nI (A.2.1 4).1 ∧ RMk t o (sCut t A i s) p.1 ∧ Out o (o + 26) M p.1) := by
  unfold f_X6_cutOne
  rw [at_lit h.t4 0 rfl hi (by omega), b1_some, at_lit h.t4 3 rfl hi (by omega), b1_some, lt_eq, at_lit h.t4 1 rfl hi (by omega), b1_some, at_lit h.t4 2 rfl hi (by omega), b1_some]
  refine wq_b2 (add_ok h.t4 hf _ _ _ _) ?_
  rintro M1 x ⟨hx, hR, hO⟩
  simp only at hx hR hO
  subst hx
  rw [at_lit hR 4 rfl (by simp [tAdd]; omega) (by omega), b1_some]
  refine wq_b1 (put_lit hR 4 _ rfl (by simp [tAdd]) (by omega)) ?_
  rintro M3 ⟨hR3, hO3⟩
  refine wq_b1 (put_lit hR3 1 _ rfl (by simp [tAdd, tPut]; omega) (by omega)) ?_
  rintro M4 ⟨hR4, hO4⟩
  refine wq_b1 (put_lit hR4 3 _ rfl (by simp [tAdd, tPut]; omega) (by omega)) ?_
  rintro M5 ⟨hR5, hO5⟩
  have hOO := ((hO.trans (hO3.wide (by omega) (by omega))).trans (hO4.wide (by omega) (by omega))).trans (hO5.wide (by omega) (by omega))
  have h5 := h.putT4 (T := cutT (A.2.1 4) i s) (hR5.ext rfl (by
    intro r j hr hj
    simp only [tAdd, tPut, row4, row5, cutT]
    have hne : i ≠ (A.2.1 4).1 := by omega
    by_cases q : r = (A.2.1 4).1
    · subst q
      simp only [hne.symm, hne, false_and, if_false, true_and, if_true]
      by_cases q2 : j = 4
      · subst q2; simp
      · simp [q2]
    · simp [q])) hOO
  refine wq_b2 (h5.note 2 _ _ h5.1.2.1) ?_
  rintro M6 y ⟨h6, hO6⟩
  exact wq_some ⟨rfl, h6, (hOO.wide (by omega) (by omega)).trans (hO6.wide (by omega) (by omega))⟩
theorem tPut_col (T : Tb) (r c : Nat) (v : Int32) (r' c' : Nat) (h : c' ≠ c) : (tPut T r c v).2 r' c' = T.2 r' c' := by
  show (if r' = r ∧ c' = c then v else T.2 r' c') = _
  rw [if_neg (fun q => h q.2)]
theorem setT_same (B : AS) (k : Nat) (X Y : Tb) : setT (setT B k X) k Y = setT B k Y := by
  unfold setT
  simp only [Prod.mk.injEq, true_and, and_true]
  funext j
  by_cases q : j = k
  · rw [if_pos q, if_pos q]
  · rw [if_neg q, if_neg q, if_neg q]
theorem joinTwo_ok (h : RMk t o A M) {a b : Nat} (ha : a < (A.2.1 4).1) (hb : b < (A.2.1 4).1) : Wq (f_X6_joinTwo o (nI a) (nI b) M) (fun p => p.2 = joinS (A.2.1 4) a b ∧ RMk t o (sJoin t A a b) p.1 ∧ Out o (o + 26) M p.1) := by
  unfold f_X6_joinTwo
  rw [at_lit h.t4 1 rfl ha (by omega), b1_some, at_lit h.t4 1 rfl hb (by omega), b1_some, lt_eq]
  refine wq_b1 (put_lit h.t4 1 _ rfl ha (by omega)) ?_
  rintro M4 ⟨hR4, hO4⟩
  rw [at_lit hR4 2 rfl ha (by omega), b1_some, at_lit hR4 2 rfl hb (by omega), b1_some, tPut_col _ _ _ _ a 2 (by omega), tPut_col _ _ _ _ b 2 (by omega)]
  refine wq_b1 (put_lit hR4 2 _ rfl ha (by omega)) ?_
  rintro M7 ⟨hR7, hO7⟩
  rw [at_lit hR7 3 rfl ha (by omega), b1_some, at_lit hR7 3 rfl hb (by omega), b1_some, tPut_col _ _ _ _ a 3 (by omega), tPut_col _ _ _ _ a 3 (by omega), tPut_col _ _ _ _ b 3 (by omega), tPut_col _ _ _ _ b 3 (by omega)]
  refine wq_b1 (put_lit hR7 3 _ rfl ha (by omega)) ?_
  rintro M10 ⟨hR10, hO10⟩
  rw [at_lit hR10 4 rfl ha (by omega), b1_some, at_lit hR10 4 rfl hb (by omega), b1_some, tPut_col _ _ _ _ a 4 (by omega), tPut_col _ _ _ _ a 4 (by omega), tPut_col _ _ _ _ a 4 (by omega), tPut_col _ _ _ _ b 4 (by omega), tPut_col _ _ _ _ b 4 (by omega), tPut_col _ _ _ _ b 4 (by omega)]
  refine wq_b1 (put_lit hR10 4 _ rfl ha (by omega)) ?_
  rintro M13 ⟨hR13, hO13⟩
  rw [at_lit hR13 0 rfl ha (by omega), b1_some, tPut_col _ _ _ _ a 0 (by omega), tPut_col _ _ _ _ a 0 (by omega), tPut_col _ _ _ _ a 0 (by omega), tPut_col _ _ _ _ a 0 (by omega)]
  have hOO := ((hO4.trans hO7).trans hO10).trans hO13
  have h13 := h.putT4 hR13 (hOO.wide (by omega) (by omega))
  refine wq_b2 (h13.note 3 _ _ h13.1.2.1) ?_
  rintro M15 y ⟨h15, hO15⟩
  simp only at h15 hO15
  rw [sNote_T4] at h15
  refine wq_b1 (drop_ok h15.t4 (i := b) hb) ?_
  rintro M17 ⟨hR17, hO17⟩
  refine wq_some ⟨rfl, ?_, ((hOO.wide (by omega) (by omega)).trans (hO15.wide (by omega) (by omega))).trans (hO17.wide (by omega) (by omega))⟩
  have h17 := h15.putT4 hR17 hO17
  rw [setT_same] at h17
  unfold sJoin
  rw [sNote_T4]
  exact h17
theorem sellOne_ok (ho : MkAt o) (h : RMk t o A M) (hL : OKL A.2.2) (hR : okRk A) {i : Nat} (hi : i < (A.2.1 4).1) : Wq (f_X6_sellOne o (nI i) M) (fun p => p.2 = priceS A i 0 ∧ RMk t o (sSell t A i) p.1 ∧ Out o (o + 26) M p.1) := by
  unfold f_X6_sellOne
  refine wq_b2 (priceOf_ok ho h hL hR hi 0) ?_
  rintro M1 x ⟨hx, hO1⟩
  simp only at hx hO1
  subst hx
  have h1 := h.out hO1 (by omega)
  rw [lt_eq, h1.1.2.2.1]
  have h3 := h1.num (k := 1) (j := 11) (v := A.1 1 + priceS A i 0) (by omega)
  rw [at_lit h3.t4 0 rfl hi (by omega), b1_some]
  refine wq_b2 (h3.note 4 _ _ h3.1.2.1) ?_
  rintro M5 y ⟨h5, hO5⟩
  simp only at h5 hO5
  have h5 : RMk t o (sNote t (setN A 1 (A.1 1 + priceS A i 0)) 4 ((A.2.1 4).2 i 0) (priceS A i 0)) M5 := h5
  have e4 : (sNote t (setN A 1 (A.1 1 + priceS A i 0)) 4 ((A.2.1 4).2 i 0) (priceS A i 0)).2.1 4 = A.2.1 4 := sNote_tab _ _ _ _ _ (by omega)
  refine wq_b1 (drop_ok h5.t4 (i := i) (by rw [e4]; exact hi)) ?_
  rintro M7 ⟨hR7, hO7⟩
  refine wq_some ⟨rfl, ?_, (((hO1.wide (by omega) (by omega)).up (Nat.le_refl _) (by omega)).trans (hO5.wide (by omega) (by omega))).trans (hO7.wide (by omega) (by omega))⟩
  have h7 := h5.putT4 hR7 hO7
  unfold sSell
  rw [sNote_T4]
  rw [e4] at h7
  exact h7
theorem lose_ok (h : RMk t o A M) {i : Nat} (hi : i < (A.2.1 4).1) (why : Int32) : Wq (f_X6_lose o (nI i) why M) (fun M' => RMk t o (sLose t A i why) M' ∧ Out o (o + 26) M M') := by
  unfold f_X6_lose
  rw [at_lit h.t4 0 rfl hi (by omega), b1_some, at_lit h.t4 1 rfl hi (by omega), b1_some]
  refine wq_b2 (h.note why _ _ h.1.2.1) ?_
  rintro M5 y ⟨h5, hO5⟩
  simp only at h5 hO5
  have e4 : (sNote t A why ((A.2.1 4).2 i 0) ((A.2.1 4).2 i 1)).2.1 4 = A.2.1 4 := sNote_tab _ _ _ _ _ (by omega)
  refine wq_b1 (drop_ok h5.t4 (i := i) (by rw [e4]; exact hi)) ?_
  rintro M7 ⟨hR7, hO7⟩
  refine wq_some ⟨?_, (hO5.wide (by omega) (by omega)).trans (hO7.wide (by omega) (by omega))⟩
  have h7 := h5.putT4 hR7 hO7
  unfold sLose
  rw [sNote_T4]
  rw [e4] at h7
  exact h7
end OPC
