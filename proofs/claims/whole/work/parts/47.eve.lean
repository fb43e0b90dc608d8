/-! ===== PURE PART: a day's evening ===== -/
def drawA (A : AS) : AS := setN A 4 (1664525 * A.1 4 + 1013904223)
def drawV (A : AS) (m : Int32) : Int32 := (ush (A.1 4) 8) - (ush (A.1 4) 8) / m * m
theorem drawA_x {A : AS} (h : OKX A) : OKX (drawA A) := h
theorem drawA_k (A : AS) : Kp A (drawA A) := Kp.num A _ (by omega) (by omega) (by omega)
theorem draw_c {t : Bool} {o : Nat} {A : AS} {M : Mem} (h : RMk t o A M) {m : Int32} (hm : ¬ m ≤ 0) : ∃ M', f_X6_draw o m M = some (M', drawV (drawA A) m) ∧ RMk t o (drawA A) M' ∧ Out o (o + 1) M M' := by
  have e : M o 9 = A.1 4 := h.1.1
  refine ⟨up2 M o 9 (1664525 * A.1 4 + 1013904223), ?_, h.num (k := 4) (j := 9) (by omega), (Out.refl _ _ _).up (Nat.le_refl _) (by omega)⟩
  unfold f_X6_draw
  rw [e, lt_eq, if_neg hm, if_neg (by rintro rfl; exact hm (by decide)), up2_at]
  rfl
theorem draw_m {A : AS} {M : Mem} (h : RMm 156 A M) (hL : A.2.2.length ≤ 16) {m : Int32} (hm : ¬ m = 0) : ∃ M', f_X11_draw m M = some (M', drawV (drawA A) m) ∧ RMm 156 (drawA A) M' ∧ Out 156 157 M M' := by
  have e : M 156 4 = A.1 4 := h.1 4 (by omega)
  refine ⟨up2 M 156 4 (1664525 * A.1 4 + 1013904223), ?_, h.upN hL (k := 4) (by omega) _, (Out.refl _ _ _).up (by omega) (by omega)⟩
  unfold f_X11_draw
  rw [e, lt_eq, if_neg hm, up2_at]
  rfl
theorem sLose_x {t : Bool} {A : AS} (i : Nat) (why : Int32) (h : OKX A) : OKX (sLose t A i why) ∧ Kp A (sLose t A i why) ∧ ((sLose t A i why).2.1 4).1 = (A.2.1 4).1 - 1 := by
  unfold sLose
  refine ⟨(h.rem (h.2.1.2.1.drop i)).note _ _ _, (Kp.t4 _ _).trans (Kp.note _ _ _ _ _), ?_⟩
  rw [sNote_tab _ _ _ _ _ (by omega)]
  rfl
def spStep (t : Bool) (A : AS) (p : Nat) : AS × Nat :=
  if (A.1 0 - (A.2.1 4).2 p 2) < (A.2.1 0).2 (kindR A p) 1 then
    (if t = true then
      (if spoilS A p ≤ 0 then (A, p + 1)
       else if spoilS A p ≤ drawV (drawA A) 1000 then (drawA A, p + 1) else (sLose t (drawA A) p 6, p))
     else (A, p + 1))
  else (sLose t A p 6, p)
def spG (t : Bool) (A : AS) : Nat → AS × Nat
  | 0 => (A, 0)
  | k + 1 => spStep t (spG t A k).1 (spG t A k).2
theorem spStep_x {t : Bool} {A : AS} {p : Nat} (h : OKX A) (hp : p < (A.2.1 4).1) : OKX (spStep t A p).1 ∧ Kp A (spStep t A p).1 ∧ ((spStep t A p).1.2.1 4).1 + p + 1 = (A.2.1 4).1 + (spStep t A p).2 ∧ (spStep t A p).2 ≤ p + 1 := by
  unfold spStep
  by_cases q : (A.1 0 - (A.2.1 4).2 p 2) < (A.2.1 0).2 (kindR A p) 1
  · rw [if_pos q]
    cases t with
    | true =>
      rw [if_pos rfl]
      by_cases q2 : spoilS A p ≤ 0
      · rw [if_pos q2]; exact ⟨h, Kp.refl _, by show (A.2.1 4).1 + p + 1 = (A.2.1 4).1 + (p + 1); omega, Nat.le_refl _⟩
      · rw [if_neg q2]
        by_cases q3 : spoilS A p ≤ drawV (drawA A) 1000
        · rw [if_pos q3]; exact ⟨drawA_x h, drawA_k A, by show (A.2.1 4).1 + p + 1 = _ + (p + 1); omega, Nat.le_refl _⟩
        · rw [if_neg q3]
          obtain ⟨g1, g2, g3⟩ := sLose_x (t := true) p 6 (drawA_x h)
          have g3 : ((sLose true (drawA A) p 6).2.1 4).1 = (A.2.1 4).1 - 1 := g3
          exact ⟨g1, (drawA_k A).trans g2, by show ((sLose true (drawA A) p 6).2.1 4).1 + p + 1 = (A.2.1 4).1 + p; omega, by show p ≤ p + 1; omega⟩
    | false =>
      rw [if_neg (by simp)]
      exact ⟨h, Kp.refl _, by show (A.2.1 4).1 + p + 1 = (A.2.1 4).1 + (p + 1); omega, Nat.le_refl _⟩
  · rw [if_neg q]
    obtain ⟨g1, g2, g3⟩ := sLose_x (t := t) p 6 h
    exact ⟨g1, g2, by show ((sLose t A p 6).2.1 4).1 + p + 1 = (A.2.1 4).1 + p; omega, by show p ≤ p + 1; omega⟩
theorem spG_ok {t : Bool} {A : AS} (h : OKX A) : ∀ k, k ≤ (A.2.1 4).1 → OKX (spG t A k).1 ∧ Kp A (spG t A k).1 ∧ ((spG t A k).1.2.1 4).1 + k = (A.2.1 4).1 + (spG t A k).2 ∧ (spG t A k).2 ≤ k
  | 0, _ => ⟨h, Kp.refl _, rfl, Nat.le_refl _⟩
  | k + 1, hk => by
    obtain ⟨h1, h2, h3, h4⟩ := spG_ok (t := t) h k (by omega)
    obtain ⟨g1, g2, g3, g4⟩ := spStep_x (t := t) h1 (p := (spG t A k).2) (by omega)
    exact ⟨g1, h2.trans g2, by show ((spStep t _ _).1.2.1 4).1 + (k + 1) = _ + (spStep t _ _).2; omega, by show (spStep t _ _).2 ≤ _; omega⟩
theorem spoil_c {t : Bool} {o : Nat} {A : AS} {M : Mem} (ho : MkAt o) (h : RMk t o A M) (hx : OKX A) {a1 : Int32} (ha : a1 = if t = true then 0 else 1) : Wq (lp (fun s => w_X6_endDay_13 o a1 M s.1 s.2.1 s.2.2) FU (0, 0, M)) (fun M' => RMk t o (spG t A (A.2.1 4).1).1 M' ∧ Out o (o + 26) M M') := by
  have hm : (A.2.1 4).1 ≤ 14 := h.t4.le
  refine lp_to (fun k s => s.1 = nI (spG t A k).2 ∧ s.2.1 = nI k ∧ RMk t o (spG t A k).1 s.2.2 ∧ Out o (o + 26) M s.2.2) (A.2.1 4).1 ?_ ?_ _ (by exact ⟨rfl, rfl, h, Out.refl _ _ _⟩) (by omega)
  · rintro k ⟨x, y, N⟩ hk ⟨hx', hy, hR, hO⟩
    simp only at hx' hy hR hO
    subst hx' hy
    obtain ⟨x1, x2, x3, x4⟩ := spG_ok (t := t) hx k (by omega)
    have est : spG t A (k + 1) = spStep t (spG t A k).1 (spG t A k).2 := rfl
    generalize hB : (spG t A k).1 = B at *
    generalize hp : (spG t A k).2 = p at *
    have hpl : p < (B.2.1 4).1 := by omega
    unfold w_X6_endDay_13
    simp only
    rw [h.t4.cnt, if_neg (by rw [nI_le_iff (by omega) (by omega)]; omega), isTooOld_ok hR x1.rk hpl, b1_some, Int32.add_zero]
    unfold spStep at est
    by_cases q : (B.1 0 - (B.2.1 4).2 p 2) < (B.2.1 0).2 (kindR B p) 1
    · rw [if_pos q] at est
      rw [if_pos q, if_pos rfl]
      cases t with
      | true =>
        rw [if_pos rfl] at est ha
        rw [if_pos ha]
        unfold f_X6_isSpoilt
        obtain ⟨⟨N1, z⟩, e1, e2, e3⟩ := spoilOf_ok ho hR x1.2.2.2 x1.rk hpl
        simp only at e2 e3
        have hR1 := hR.out e3 (by omega)
        rw [e1, b2_some, e2]
        by_cases q2 : spoilS B p ≤ 0
        · rw [if_pos q2] at est
          rw [if_pos q2, b2_some, if_pos rfl, nI_inc, nI_inc]
          exact ⟨_, rfl, by rw [est], rfl, by rw [est]; exact hR1, hO.trans (e3.wide (by omega) (by omega))⟩
        · rw [if_neg q2] at est
          rw [if_neg q2]
          obtain ⟨N2, d1, d2, d3⟩ := draw_c hR1 (m := 1000) (by decide)
          rw [d1, b2_some]
          by_cases q3 : spoilS B p ≤ drawV (drawA B) 1000
          · rw [if_pos q3] at est
            rw [if_pos q3, b2_some, if_pos rfl, nI_inc, nI_inc]
            exact ⟨_, rfl, by rw [est], rfl, by rw [est]; exact d2, (hO.trans (e3.wide (by omega) (by omega))).trans (d3.wide (by omega) (by omega))⟩
          · rw [if_neg q3] at est
            rw [if_neg q3, b2_some, if_neg (by decide)]
            obtain ⟨N3, l1, l2, l3⟩ := lose_ok d2 (i := p) hpl 6
            rw [l1, b1_some, nI_inc]
            exact ⟨_, rfl, by rw [est], rfl, by rw [est]; exact l2, ((hO.trans (e3.wide (by omega) (by omega))).trans (d3.wide (by omega) (by omega))).trans l3⟩
      | false =>
        rw [if_neg (by simp)] at est ha
        rw [ha, if_neg (by decide), nI_inc, nI_inc]
        exact ⟨_, rfl, by rw [est], rfl, by rw [est]; exact hR, hO⟩
    · rw [if_neg q] at est
      rw [if_neg q, if_neg (by decide)]
      obtain ⟨N3, l1, l2, l3⟩ := lose_ok hR (i := p) hpl 6
      rw [l1, b1_some, nI_inc]
      exact ⟨_, rfl, by rw [est], rfl, by rw [est]; exact l2, hO.trans l3⟩
  · rintro ⟨x, y, N⟩ ⟨hx', hy, hR, hO⟩
    simp only at hx' hy hR hO
    subst hx' hy
    unfold w_X6_endDay_13
    simp only
    rw [h.t4.cnt, if_pos (by rw [nI_le_iff (by omega) (by omega)]; omega)]
    exact ⟨_, rfl, hR, hO⟩
/-- a remain goes in the reference, and its book says why -/
theorem lose_m {t : Bool} {A : AS} {M : Mem} (h : RMm 156 A M) (hL : A.2.2.length ≤ 16) (ht : M 155 26 = if t = true then 1 else 0) {i : Nat} (hi : i < (A.2.1 4).1) (why : Int32) : Wq (b1 (f_X11_ofRemain (nI i) 0 M) fun x7 => b1 (f_X11_ofRemain (nI i) 1 M) fun x8 => b1 (f_X11_notes why x7 x8 M) fun M9 => b1 (f_X11_goesAway (nI i) M9) fun M10 => some M10) (fun M' => RMm 156 (sLose t A i why) M' ∧ Mo M M') := by
  rw [ofRemain_ok h hi 0 rfl (by omega), b1_some, ofRemain_ok h hi 1 rfl (by omega), b1_some]
  refine wq_b1 (notes_ok (t := t) h hL ht why _ _) ?_
  rintro M9 ⟨h9, hO9⟩
  have e4 : (sNote t A why ((A.2.1 4).2 i 0) ((A.2.1 4).2 i 1)).2.1 4 = A.2.1 4 := sNote_tab _ _ _ _ _ (by omega)
  refine wq_b1 (goesAway_ok h9 (by rw [sNote_law]; exact hL) (i := i) (by rw [e4]; exact hi)) ?_
  rintro M10 ⟨h10, hO10⟩
  rw [e4, ← sNote_T4] at h10
  exact wq_some ⟨h10, (Mo.w hO9).trans (Mo.w hO10)⟩
theorem spoil_m {t : Bool} {A : AS} {M : Mem} (h : RMm 156 A M) (ht : M 155 26 = if t = true then 1 else 0) (hx : OKX A) : Wq (f_X11_spoils M) (fun M' => RMm 156 (spG t A (A.2.1 4).1).1 M' ∧ Mo M M') := by
  have hm : (A.2.1 4).1 ≤ 14 := m_4 h
  unfold f_X11_spoils
  refine wq_b1 (P := fun M' => RMm 156 (spG t A (A.2.1 4).1).1 M' ∧ Mo M M') (lp_to (fun k s => s.1 = nI (spG t A k).2 ∧ RMm 156 (spG t A k).1 s.2 ∧ Mo M s.2) (A.2.1 4).1 ?_ ?_ _ (by exact ⟨rfl, h, Mo.refl _⟩) (by omega)) (fun r hr => wq_some hr)
  · rintro k ⟨x, N⟩ hk ⟨hx', hR, hO⟩
    simp only at hx' hR hO
    subst hx'
    obtain ⟨x1, x2, x3, x4⟩ := spG_ok (t := t) hx k (by omega)
    have est : spG t A (k + 1) = spStep t (spG t A k).1 (spG t A k).2 := rfl
    generalize hB : (spG t A k).1 = B at *
    generalize hp : (spG t A k).2 = p at *
    have hpl : p < (B.2.1 4).1 := by omega
    have hbm : (B.2.1 4).1 ≤ 14 := m_4 hR
    have htN : N 155 26 = if t = true then 1 else 0 := by rw [hO 155 (by omega) (by omega) (by omega)]; exact ht
    obtain ⟨kk, hkk, hkk2⟩ := x1.rk p hpl
    have hk6 : kk < 1000 := by have := tm_le hR (k := 0) (by omega); omega
    have hkr := kindR_of hkk2 hk6
    unfold w_X11_spoils_2
    simp only
    rw [n156_4 hR, if_neg (by rw [nI_le_iff (by omega) (by omega)]; omega)]
    unfold f_X11_isSpoilt
    rw [ageOf_m hR hpl, b1_some, ofRemain_ok hR hpl 0 rfl (by omega), b1_some, hkk2, keepsOf_ok hR hkk, b1_some, ← hkr, htN]
    unfold spStep at est
    by_cases q : (B.1 0 - (B.2.1 4).2 p 2) < (B.2.1 0).2 (kindR B p) 1
    · rw [if_pos q] at est
      rw [if_pos q]
      cases t with
      | true =>
        rw [if_pos rfl] at est
        simp only [if_true]
        rw [if_neg (by decide)]
        obtain ⟨⟨N1, z⟩, e1, e2, e3⟩ := spoilOf_m hR x1.2.2.2 x1.rk hpl
        simp only at e2 e3
        have hR1 := hR.out e3 (by omega)
        rw [e1, b2_some, e2]
        by_cases q2 : spoilS B p ≤ 0
        · rw [if_pos q2] at est
          rw [if_pos q2, b2_some, if_pos rfl, nI_inc]
          exact ⟨_, rfl, by rw [est], by rw [est]; exact hR1, hO.trans (Mo.s e3)⟩
        · rw [if_neg q2] at est
          rw [if_neg q2]
          obtain ⟨N2, d1, d2, d3⟩ := draw_m hR1 x1.2.2.2.1 (m := 1000) (by decide)
          rw [d1, b2_some]
          by_cases q3 : spoilS B p ≤ drawV (drawA B) 1000
          · rw [if_pos q3] at est
            rw [if_pos q3, b2_some, if_pos rfl, nI_inc]
            exact ⟨_, rfl, by rw [est], by rw [est]; exact d2, (hO.trans (Mo.s e3)).trans (Mo.w d3)⟩
          · rw [if_neg q3] at est
            rw [if_neg q3, b2_some, if_neg (by decide)]
            have hl := lose_m (t := true) d2 x1.2.2.2.1 (by rw [d3 155 (by omega), e3 155 (by omega)]; exact htN) (i := p) hpl 6
            obtain ⟨N3, l1, l2, l3⟩ := hl
            refine ⟨(nI p, N3), ?_, by rw [est], by rw [est]; exact l2, ((hO.trans (Mo.s e3)).trans (Mo.w d3)).trans l3⟩
            obtain ⟨y0, f0, l1⟩ := b1E l1
            obtain ⟨y1, f1, l1⟩ := b1E l1
            obtain ⟨y2, f2, l1⟩ := b1E l1
            obtain ⟨y3, f3, l1⟩ := b1E l1
            cases l1
            rw [f0, b1_some, f1, b1_some, f2, b1_some, f3, b1_some]
      | false =>
        rw [if_neg (by simp)] at est
        simp only [Bool.false_eq_true, if_false]
        rw [if_pos trivial, b2_some, if_pos rfl, nI_inc]
        exact ⟨_, rfl, by rw [est], by rw [est]; exact hR, hO⟩
    · rw [if_neg q] at est
      rw [if_neg q, b2_some, if_neg (by decide)]
      have hl := lose_m (t := t) hR x1.2.2.2.1 htN (i := p) hpl 6
      obtain ⟨N3, l1, l2, l3⟩ := hl
      refine ⟨(nI p, N3), ?_, by rw [est], by rw [est]; exact l2, hO.trans l3⟩
      obtain ⟨y0, f0, l1⟩ := b1E l1
      obtain ⟨y1, f1, l1⟩ := b1E l1
      obtain ⟨y2, f2, l1⟩ := b1E l1
      obtain ⟨y3, f3, l1⟩ := b1E l1
      cases l1
      rw [← hkk2] at *
      rw [f0, b1_some, f1, b1_some, f2, b1_some, f3, b1_some]
  · rintro ⟨x, N⟩ ⟨hx', hR, hO⟩
    simp only at hx' hR hO
    subst hx'
    obtain ⟨x1, x2, x3, x4⟩ := spG_ok (t := t) hx (A.2.1 4).1 (Nat.le_refl _)
    have hbm := m_4 hR
    unfold w_X11_spoils_2
    simp only
    rw [n156_4 hR, if_pos (by rw [nI_le_iff (by omega) (by omega)]; omega)]
    exact ⟨_, rfl, hR, hO⟩
/-! inspectors and dogs -/
def forgF (A : AS) : Option Nat := firstF (fun i => decide ((A.2.1 4).2 i 4 = 1)) 0 (A.2.1 4).1
def sInsp (A : AS) : AS :=
  if A.1 6 = 0 then A
  else if drawV (drawA A) 1000 < A.1 6 then
    (match forgF A with
     | some i => setN (setN (sLose true (drawA A) i 7) 2 (A.1 2 + 1)) 1 (A.1 1 - 50)
     | none => drawA A)
  else drawA A
theorem sInsp_x {A : AS} (h : OKX A) : OKX (sInsp A) ∧ Kp A (sInsp A) := by
  unfold sInsp
  by_cases q : A.1 6 = 0
  · rw [if_pos q]; exact ⟨h, Kp.refl _⟩
  · rw [if_neg q]
    by_cases q2 : drawV (drawA A) 1000 < A.1 6
    · rw [if_pos q2]
      cases forgF A with
      | none => exact ⟨drawA_x h, drawA_k A⟩
      | some i =>
        obtain ⟨g1, g2, _⟩ := sLose_x (t := true) i 7 (drawA_x h)
        exact ⟨g1, (((drawA_k A).trans g2).trans (Kp.num _ _ (by omega) (by omega) (by omega))).trans (Kp.num _ _ (by omega) (by omega) (by omega))⟩
    · rw [if_neg q2]; exact ⟨drawA_x h, drawA_k A⟩
theorem tho_le {v : Int32} (h : okTho v) : v ≤ 0 ↔ v = 0 := by
  obtain ⟨n, hn, rfl⟩ := h
  constructor
  · intro z
    have z : nI n ≤ nI 0 := z
    rw [nI_le_iff (by omega) (by omega)] at z
    rw [show n = 0 from by omega]; rfl
  · intro z; rw [z]; decide
theorem insp_c {o : Nat} {A : AS} {M : Mem} (h : RMk true o A M) (hx : OKX A) : Wq (f_X6_inspectorsCome o M) (fun M' => RMk true o (sInsp A) M' ∧ Out o (o + 26) M M') := by
  have e13 : M o 13 = A.1 6 := h.1.2.2.2.2.1
  unfold f_X6_inspectorsCome sInsp
  rw [e13]
  by_cases q : A.1 6 = 0
  · rw [if_pos ((tho_le hx.1.1).2 q), if_pos q]
    exact wq_some ⟨h, Out.refl _ _ _⟩
  · rw [if_neg (fun z => q ((tho_le hx.1.1).1 z)), if_neg q]
    obtain ⟨M2, d1, d2, d3⟩ := draw_c h (m := 1000) (by decide)
    have d3' : Out o (o + 26) M M2 := d3.wide (by omega) (by omega)
    have e13' : M2 o 13 = A.1 6 := d2.1.2.2.2.2.1
    rw [d1, b2_some, e13']
    by_cases q2 : drawV (drawA A) 1000 < A.1 6
    · rw [if_pos q2, if_pos q2]
      have hT : RR (o + 9) 14 5 (A.2.1 4) M2 := d2.t4
      have hm : (A.2.1 4).1 ≤ 14 := hT.le
      have key := lp_first (body := fun s => w_X6_inspectorsCome_24 o M2 s) (fun j => decide ((A.2.1 4).2 j 4 = 1)) (fun r => match r with | some j => .inl (nI j) | none => .inr ()) (A.2.1 4).1 (by
        intro j hj hp
        have hp : ¬ (A.2.1 4).2 j 4 = 1 := by simpa using hp
        simp only [w_X6_inspectorsCome_24]
        rw [hT.cnt, if_neg (by rw [nI_le_iff (by omega) (by omega)]; omega), at_lit hT 4 rfl hj (by omega), b1_some, if_neg hp, nI_inc]) (by
        intro j hj hp
        have hp : (A.2.1 4).2 j 4 = 1 := by simpa using hp
        simp only [w_X6_inspectorsCome_24]
        rw [hT.cnt, if_neg (by rw [nI_le_iff (by omega) (by omega)]; omega), at_lit hT 4 rfl hj (by omega), b1_some, if_pos hp]) (by
        simp only [w_X6_inspectorsCome_24]
        rw [hT.cnt, if_pos (by rw [nI_le_iff (by omega) (by omega)]; omega)]) (by omega)
      rw [key, b1_some]
      show Wq (match (match forgF A with | some j => (Sum.inl (nI j) : Int32 ⊕ Unit) | none => .inr ()) with | .inl u10 => _ | .inr u14 => _) _
      cases hf : forgF A with
      | none => exact wq_some ⟨d2, d3'⟩
      | some i =>
        have hi : i < (A.2.1 4).1 := by have := (firstF_lt hf).2.1; omega
        simp only
        refine wq_b1 (lose_ok d2 (i := i) hi 7) ?_
        rintro M11 ⟨l2, l3⟩
        have f2 : (sLose true (drawA A) i 7).1 = (drawA A).1 := sNote_num _ _ _ _ _
        have e12 : M11 o 12 = A.1 2 := by rw [l2.1.2.2.2.1, f2]; rfl
        rw [lt_eq, e12, lt_eq]
        have h12 := l2.num (k := 2) (j := 12) (v := A.1 2 + 1) (by omega)
        have e11 : up2 M11 o 12 (A.1 2 + 1) o 11 = A.1 1 := by
          rw [up2_slot _ _ _ (by omega), l2.1.2.2.1, f2]; rfl
        rw [e11]
        exact wq_some ⟨h12.num (k := 1) (j := 11) (by omega), ((d3'.trans l3).up (Nat.le_refl _) (by omega)).up (Nat.le_refl _) (by omega)⟩
    · rw [if_neg q2, if_neg q2]
      exact wq_some ⟨d2, d3'⟩
theorem insp_m {A : AS} {M : Mem} (h : RMm 156 A M) (ht : M 155 26 = 1) (hx : OKX A) : Wq (f_X11_inspects M) (fun M' => RMm 156 (sInsp A) M' ∧ Mo M M') := by
  have hLL : A.2.2.length ≤ 16 := hx.2.2.2.1
  have e81 : M 156 81 = A.1 6 := h.1 6 (by omega)
  unfold f_X11_inspects sInsp
  rw [e81]
  by_cases q : A.1 6 = 0
  · rw [if_pos q, if_pos q]
    exact wq_some ⟨h, Mo.refl _⟩
  · rw [if_neg q, if_neg q]
    obtain ⟨M2, d1, d2, d3⟩ := draw_m h hLL (m := 1000) (by decide)
    have e81' : M2 156 81 = A.1 6 := d2.1 6 (by omega)
    rw [d1, b2_some, e81']
    by_cases q2 : drawV (drawA A) 1000 < A.1 6
    · rw [if_pos q2, if_pos q2]
      have hm : (A.2.1 4).1 ≤ 14 := m_4 h
      have hcn : M2 156 7 = nI (A.2.1 4).1 := n156_4 (A := drawA A) d2
      have key := lp_first (body := fun s => w_X11_inspects_30 M2 s) (fun j => decide ((A.2.1 4).2 j 4 = 1)) (fun r => match r with | some j => .inl (nI j) | none => .inr ()) (A.2.1 4).1 (by
        intro j hj hp
        have hp : ¬ (A.2.1 4).2 j 4 = 1 := by simpa using hp
        obtain ⟨_, _, _, _, _, _, _, f01⟩ := hx.2.1.2.1 j hj
        have hof : f_X11_ofRemain (nI j) 4 M2 = some ((A.2.1 4).2 j 4) := ofRemain_ok d2 (show j < (A.2.1 4).1 from hj) 4 rfl (by omega)
        simp only [w_X11_inspects_30]
        rw [hcn, if_neg (by rw [nI_le_iff (by omega) (by omega)]; omega), hof, b1_some, if_pos (f01.resolve_right hp), nI_inc]) (by
        intro j hj hp
        have hp : (A.2.1 4).2 j 4 = 1 := by simpa using hp
        have hof : f_X11_ofRemain (nI j) 4 M2 = some ((A.2.1 4).2 j 4) := ofRemain_ok d2 (show j < (A.2.1 4).1 from hj) 4 rfl (by omega)
        simp only [w_X11_inspects_30]
        rw [hcn, if_neg (by rw [nI_le_iff (by omega) (by omega)]; omega), hof, b1_some, hp, if_neg (by decide)]) (by
        simp only [w_X11_inspects_30]
        rw [hcn, if_pos (by rw [nI_le_iff (by omega) (by omega)]; omega)]) (by omega)
      rw [key, b1_some]
      show Wq (match (match forgF A with | some j => (Sum.inl (nI j) : Int32 ⊕ Unit) | none => .inr ()) with | .inl u10 => _ | .inr u17 => _) _
      cases hf : forgF A with
      | none => exact wq_some ⟨d2, Mo.w d3⟩
      | some i =>
        have hi : i < (A.2.1 4).1 := by have := (firstF_lt hf).2.1; omega
        simp only
        have e2 : M2 156 2 = A.1 2 := d2.1 2 (by omega)
        rw [lt_eq, e2, lt_eq]
        have g1 : RMm 156 (setN (drawA A) 2 (A.1 2 + 1)) (up2 M2 156 2 (A.1 2 + 1)) := d2.upN hLL (k := 2) (by omega) _
        have e1 : up2 M2 156 2 (A.1 2 + 1) 156 1 = A.1 1 := g1.1 1 (by omega)
        rw [e1]
        have g2 : RMm 156 (setN (setN (drawA A) 2 (A.1 2 + 1)) 1 (A.1 1 - 50)) (up2 (up2 M2 156 2 (A.1 2 + 1)) 156 1 (A.1 1 - 50)) := g1.upN hLL (k := 1) (by omega) _
        have o2 : Out 156 157 M2 (up2 (up2 M2 156 2 (A.1 2 + 1)) 156 1 (A.1 1 - 50)) := ((Out.refl _ _ _).up (by omega) (by omega)).up (by omega) (by omega)
        refine wq_mono (lose_m (t := true) g2 hLL (by rw [o2 155 (by omega), d3 155 (by omega)]; exact ht) (i := i) hi 7) ?_
        rintro N ⟨n1, n2⟩
        refine ⟨?_, ((Mo.w d3).trans (Mo.w o2)).trans n2⟩
        have ec : sLose true (setN (setN (drawA A) 2 (A.1 2 + 1)) 1 (A.1 1 - 50)) i 7 = setN (setN (sLose true (drawA A) i 7) 2 (A.1 2 + 1)) 1 (A.1 1 - 50) := by
          unfold sLose
          rw [sNote_T4, sNote_T4, sNote_N _ _ (by omega), sNote_N _ _ (by omega)]
          rfl
        rw [ec] at n1
        exact n1
    · rw [if_neg q2, if_neg q2]
      exact wq_some ⟨d2, Mo.w d3⟩
theorem ush8 (x : Int32) : ush x 8 = nI (x.toBitVec.toNat >>> 8) ∧ x.toBitVec.toNat >>> 8 < 16777216 := by
  have hlt : x.toBitVec.toNat < 4294967296 := x.toBitVec.isLt
  have h2 : x.toBitVec.toNat >>> 8 < 16777216 := by rw [Nat.shiftRight_eq_div_pow]; omega
  refine ⟨?_, h2⟩
  apply Int32.toBitVec_inj.1
  apply BitVec.eq_of_toNat_eq
  show (x.toBitVec >>> (UInt32.mod ((nI 8).toUInt32 &&& Int32.toUInt32 31) 32).toBitVec).toNat = (BitVec.ofNat 32 (x.toBitVec.toNat >>> 8)).toNat
  rw [BitVec.ushiftRight_eq', BitVec.toNat_ushiftRight, ushk 8 (by omega), BitVec.toNat_ofNat, Nat.mod_eq_of_lt (by omega)]
theorem nI_div {a b : Nat} (ha : a < 2147483648) (hb : b < 2147483648) : nI a / nI b = nI (a / b) := by
  apply Int32.toInt_inj.1
  have hle : a / b ≤ a := Nat.div_le_self a b
  rw [Int32.toInt_div_of_ne_right _ _ (nI_neg1 hb), nI_toInt (by omega), nI_toInt (by omega), nI_toInt (by omega), Int.ofNat_tdiv]
theorem drawV_lt (A : AS) {n : Nat} (h0 : 0 < n) (hn : n ≤ 1000) : ∃ i, i < n ∧ drawV A (nI n) = nI i := by
  obtain ⟨e, hlt⟩ := ush8 (A.1 4)
  obtain ⟨X, hX⟩ : ∃ X, X = (A.1 4).toBitVec.toNat >>> 8 := ⟨_, rfl⟩
  rw [← hX] at e hlt
  refine ⟨X % n, Nat.mod_lt _ h0, ?_⟩
  unfold drawV
  have hd := Nat.div_add_mod X n
  rw [Nat.mul_comm] at hd
  have hc : X / n * n ≤ X := Nat.div_mul_le_self X n
  rw [e, nI_div (by omega) (by omega), nI_mul, nI_sub hc]
  congr 1
  omega
def sDogs (A : AS) : AS :=
  if A.1 7 = 0 ∨ (A.2.1 4).1 = 0 then A
  else if drawV (drawA A) 1000 < A.1 7 then sLose true (drawA (drawA A)) (drawV (drawA (drawA A)) (nI (A.2.1 4).1)).toInt.toNat 8
  else drawA A
theorem sDogs_x {A : AS} (h : OKX A) : OKX (sDogs A) ∧ Kp A (sDogs A) := by
  unfold sDogs
  by_cases q : A.1 7 = 0 ∨ (A.2.1 4).1 = 0
  · rw [if_pos q]; exact ⟨h, Kp.refl _⟩
  · rw [if_neg q]
    by_cases q2 : drawV (drawA A) 1000 < A.1 7
    · rw [if_pos q2]
      obtain ⟨g1, g2, _⟩ := sLose_x (t := true) (drawV (drawA (drawA A)) (nI (A.2.1 4).1)).toInt.toNat 8 (drawA_x (drawA_x h))
      exact ⟨g1, ((drawA_k A).trans (drawA_k _)).trans g2⟩
    · rw [if_neg q2]; exact ⟨drawA_x h, drawA_k A⟩
theorem dogs_c {o : Nat} {A : AS} {M : Mem} (h : RMk true o A M) (hx : OKX A) : Wq (f_X6_dogsCome o M) (fun M' => RMk true o (sDogs A) M' ∧ Out o (o + 26) M M') := by
  have e14 : M o 14 = A.1 7 := h.1.2.2.2.2.2.1
  have hm : (A.2.1 4).1 ≤ 14 := h.t4.le
  unfold f_X6_dogsCome sDogs
  rw [e14, h.t4.cnt]
  by_cases q : A.1 7 = 0 ∨ (A.2.1 4).1 = 0
  · rw [if_pos q, if_pos (by
      rcases q with q | q
      · exact .inl ((tho_le hx.1.2.1).2 q)
      · exact .inr (by rw [q]; decide))]
    exact wq_some ⟨h, Out.refl _ _ _⟩
  · rw [if_neg q, if_neg (by
      rintro (z | z)
      · exact q (.inl ((tho_le hx.1.2.1).1 z))
      · have z : nI (A.2.1 4).1 ≤ nI 0 := z
        rw [nI_le_iff (by omega) (by omega)] at z
        exact q (.inr (by omega)))]
    obtain ⟨M2, d1, d2, d3⟩ := draw_c h (m := 1000) (by decide)
    have d3' : Out o (o + 26) M M2 := d3.wide (by omega) (by omega)
    have e14' : M2 o 14 = A.1 7 := d2.1.2.2.2.2.2.1
    rw [d1, b2_some, e14']
    by_cases q2 : drawV (drawA A) 1000 < A.1 7
    · rw [if_pos q2, if_neg (by rw [Int32.not_le]; exact q2)]
      have h0 : 0 < (A.2.1 4).1 := Nat.pos_of_ne_zero (fun z => q (.inr z))
      have hcn : M2 (o + 9) 3 = nI (A.2.1 4).1 := d2.t4.cnt
      obtain ⟨M4, f1, f2, f3⟩ := draw_c d2 (m := nI (A.2.1 4).1) (by
        intro z
        have z : nI (A.2.1 4).1 ≤ nI 0 := z
        rw [nI_le_iff (by omega) (by omega)] at z; omega)
      obtain ⟨i, i1, i2⟩ := drawV_lt (drawA (drawA A)) h0 (by omega)
      rw [hcn, f1, b2_some, i2]
      have ei : (nI i).toInt.toNat = i := by rw [nI_toInt (by omega)]; rfl
      rw [ei]
      refine wq_b1 (lose_ok f2 (i := i) i1 8) ?_
      rintro M5 ⟨l2, l3⟩
      exact wq_some ⟨l2, (d3'.trans (f3.wide (by omega) (by omega))).trans l3⟩
    · rw [if_neg q2, if_pos (by rw [Int32.not_lt] at q2; exact q2)]
      exact wq_some ⟨d2, d3'⟩
theorem dogs_m {A : AS} {M : Mem} (h : RMm 156 A M) (ht : M 155 26 = 1) (hx : OKX A) : Wq (f_X11_dogs M) (fun M' => RMm 156 (sDogs A) M' ∧ Mo M M') := by
  have hLL : A.2.2.length ≤ 16 := hx.2.2.2.1
  have e82 : M 156 82 = A.1 7 := h.1 7 (by omega)
  have hm : (A.2.1 4).1 ≤ 14 := m_4 h
  unfold f_X11_dogs sDogs
  rw [e82, n156_4 h]
  by_cases q : A.1 7 = 0 ∨ (A.2.1 4).1 = 0
  · rw [if_pos q, if_pos (by
      rcases q with q | q
      · exact .inl q
      · exact .inr (by rw [q]; rfl))]
    exact wq_some ⟨h, Mo.refl _⟩
  · have h0 : 0 < (A.2.1 4).1 := Nat.pos_of_ne_zero (fun z => q (.inr z))
    rw [if_neg q, if_neg (by
      rintro (z | z)
      · exact q (.inl z)
      · exact nI_ne0 h0 (by omega) z)]
    obtain ⟨M2, d1, d2, d3⟩ := draw_m h hLL (m := 1000) (by decide)
    have e82' : M2 156 82 = A.1 7 := d2.1 7 (by omega)
    rw [d1, b2_some, e82']
    by_cases q2 : drawV (drawA A) 1000 < A.1 7
    · rw [if_pos q2, if_pos q2]
      have hcn : M2 156 7 = nI (A.2.1 4).1 := n156_4 (A := drawA A) d2
      obtain ⟨M4, f1, f2, f3⟩ := draw_m d2 hLL (m := nI (A.2.1 4).1) (nI_ne0 h0 (by omega))
      obtain ⟨i, i1, i2⟩ := drawV_lt (drawA (drawA A)) h0 (by omega)
      rw [hcn, f1, b2_some, i2]
      have ei : (nI i).toInt.toNat = i := by rw [nI_toInt (by omega)]; rfl
      rw [ei]
      refine wq_mono (lose_m (t := true) f2 hLL (by rw [f3 155 (by omega), d3 155 (by omega)]; exact ht) (i := i) i1 8) ?_
      rintro N ⟨n1, n2⟩
      exact ⟨n1, ((Mo.w d3).trans (Mo.w f3)).trans n2⟩
    · rw [if_neg q2, if_neg q2]
      exact wq_some ⟨d2, Mo.w d3⟩
/-! the whole day -/
noncomputable def mornA (t : Bool) (A : AS) : AS × Nat := wtG t (feG t A (A.2.1 1).1) ((feG t A (A.2.1 1).1).2.1 2).1
def eveA (t : Bool) (A : AS) : AS := if t = true then setN (sDogs (sInsp (spG t A (A.2.1 4).1).1)) 0 (A.1 0 + 1) else setN (spG t A (A.2.1 4).1).1 0 (A.1 0 + 1)
/-- what two days' markets have in common: all but day, remains, numbers, book -/
def Kd (A A' : AS) : Prop := (∀ k, k ≠ 4 → k ≠ 5 → A'.2.1 k = A.2.1 k) ∧ A'.2.2 = A.2.2 ∧ A'.1 6 = A.1 6 ∧ A'.1 7 = A.1 7 ∧ (A.2.1 5).1 ≤ (A'.2.1 5).1
theorem Kp.d {A A' : AS} (h : Kp A A') : Kd A A' := ⟨h.1, h.2.1, h.2.2.1, h.2.2.2.1, h.2.2.2.2.2⟩
theorem Kd.refl (A : AS) : Kd A A := (Kp.refl A).d
theorem Kd.trans {A B C : AS} (h : Kd A B) (h2 : Kd B C) : Kd A C := ⟨fun k a b => (h2.1 k a b).trans (h.1 k a b), h2.2.1.trans h.2.1, h2.2.2.1.trans h.2.2.1, h2.2.2.2.1.trans h.2.2.2.1, Nat.le_trans h.2.2.2.2 h2.2.2.2.2⟩
theorem mornA_x {t : Bool} {A : AS} (h : OKX A) (hk : (A.2.1 0).1 ≤ 6) (hw : (A.2.1 2).1 ≤ 12) : OKX (mornA t A).1 ∧ Kp A (mornA t A).1 ∧ (mornA t A).2 ≤ 12 := by
  obtain ⟨a1, a2⟩ := feG_ok (t := t) h hk (A.2.1 1).1 (Nat.le_refl _)
  have e2 := a2.1 2 (by omega) (by omega)
  obtain ⟨b1, b2, b3⟩ := wtG_ok (t := t) a1 (by rw [e2]; exact hw) _ (Nat.le_refl _)
  refine ⟨b1, a2.trans b2, Nat.le_trans b3 ?_⟩
  rw [e2]; exact hw
theorem eveA_x {t : Bool} {A : AS} (h : OKX A) : OKX (eveA t A) ∧ Kd A (eveA t A) ∧ (eveA t A).1 0 = A.1 0 + 1 := by
  obtain ⟨a1, a2, _⟩ := spG_ok (t := t) h (A.2.1 4).1 (Nat.le_refl _)
  unfold eveA
  cases t with
  | true =>
    rw [if_pos rfl]
    obtain ⟨b1, b2⟩ := sInsp_x a1
    obtain ⟨c1, c2⟩ := sDogs_x b1
    exact ⟨c1, ((a2.trans b2).trans c2).d, rfl⟩
  | false =>
    rw [if_neg (by simp)]
    exact ⟨a1, a2.d, rfl⟩
theorem beginDay_ok {t : Bool} {o : Nat} {A : AS} {M : Mem} (ho : MkAt o) (h : RMk t o A M) (hx : OKX A) : Wq (f_X6_beginDay o M) (fun p => p.2 = nI (mornA t A).2 ∧ RMk t o (mornA t A).1 p.1 ∧ Out o (o + 26) M p.1) := by
  obtain ⟨a1, a2⟩ := feG_ok (t := t) hx h.t0.le (A.2.1 1).1 (Nat.le_refl _)
  unfold f_X6_beginDay
  refine wq_b1 (feasts_c ho h hx) ?_
  rintro M1 ⟨h1, o1⟩
  refine wq_b1 (wants_c ho h1 a1) ?_
  rintro ⟨x, M2⟩ ⟨h2, h3, o2⟩
  exact wq_some ⟨h2, h3, o1.trans o2⟩
theorem morning_ok {t : Bool} {A : AS} {M : Mem} (h : RMm 156 A M) (ht : M 155 26 = if t = true then 1 else 0) (hx : OKX A) : Wq (f_X11_morning M) (fun p => p.2 = nI (mornA t A).2 ∧ RMm 156 (mornA t A).1 p.1 ∧ Mo M p.1) := by
  obtain ⟨a1, a2⟩ := feG_ok (t := t) hx (h.2.1 0 (by omega)).2.1 (A.2.1 1).1 (Nat.le_refl _)
  unfold f_X11_morning
  refine wq_b1 (feasts_m (t := t) h ht hx) ?_
  rintro M1 ⟨h1, o1⟩
  refine wq_b2 (wants_m (t := t) h1 (by rw [o1 155 (by omega) (by omega) (by omega)]; exact ht) a1) ?_
  rintro M2 x ⟨h2, h3, o2⟩
  exact wq_some ⟨h2, h3, o1.trans o2⟩
theorem endDay_ok {t : Bool} {o : Nat} {A : AS} {M : Mem} (ho : MkAt o) (h : RMk t o A M) (hx : OKX A) {a1 : Int32} (ha : a1 = if t = true then 0 else 1) : Wq (f_X6_endDay o a1 M) (fun M' => RMk t o (eveA t A) M' ∧ Out o (o + 26) M M') := by
  obtain ⟨x1, x2, _⟩ := spG_ok (t := t) hx (A.2.1 4).1 (Nat.le_refl _)
  unfold f_X6_endDay
  refine wq_b1 (spoil_c ho h hx ha) ?_
  rintro M1 ⟨h1, o1⟩
  unfold eveA
  cases t with
  | true =>
    rw [if_pos rfl] at ha
    rw [if_pos ha, if_pos rfl]
    refine wq_b1 (insp_c h1 x1) ?_
    rintro M2 ⟨h2, o2⟩
    obtain ⟨b1, b2⟩ := sInsp_x x1
    refine wq_b1 (dogs_c h2 b1) ?_
    rintro M3 ⟨h3, o3⟩
    obtain ⟨c1, c2⟩ := sDogs_x b1
    have ed : M3 o 10 = A.1 0 := by rw [h3.1.2.1, c2.2.2.2.2.1, b2.2.2.2.2.1, x2.2.2.2.2.1]
    rw [lt_eq, ed]
    exact wq_some ⟨h3.num (k := 0) (j := 10) (by omega), ((o1.trans o2).trans o3).up (Nat.le_refl _) (by omega)⟩
  | false =>
    rw [if_neg (by simp)] at ha
    rw [ha, if_neg (by decide), if_neg (by simp)]
    have ed : M1 o 10 = A.1 0 := by rw [h1.1.2.1, x2.2.2.2.2.1]
    rw [lt_eq, ed]
    exact wq_some ⟨h1.num (k := 0) (j := 10) (by omega), o1.up (Nat.le_refl _) (by omega)⟩
theorem evening_ok {t : Bool} {A : AS} {M : Mem} (h : RMm 156 A M) (ht : M 155 26 = if t = true then 1 else 0) (hx : OKX A) : Wq (f_X11_evening M) (fun M' => RMm 156 (eveA t A) M' ∧ Mo M M') := by
  have hLL : A.2.2.length ≤ 16 := hx.2.2.2.1
  obtain ⟨x1, x2, _⟩ := spG_ok (t := t) hx (A.2.1 4).1 (Nat.le_refl _)
  unfold f_X11_evening
  refine wq_b1 (spoil_m (t := t) h ht hx) ?_
  rintro M1 ⟨h1, o1⟩
  have ht1 : M1 155 26 = if t = true then 1 else 0 := by rw [o1 155 (by omega) (by omega) (by omega)]; exact ht
  unfold eveA
  rw [ht1]
  cases t with
  | true =>
    simp only [if_true]
    rw [if_neg (by decide)]
    have ht1 : M1 155 26 = 1 := ht1
    refine wq_b1 (insp_m h1 ht1 x1) ?_
    rintro M2 ⟨h2, o2⟩
    obtain ⟨b1, b2⟩ := sInsp_x x1
    have ht2 : M2 155 26 = 1 := by rw [o2 155 (by omega) (by omega) (by omega)]; exact ht1
    rw [ht2, if_neg (by decide)]
    refine wq_b1 (dogs_m h2 ht2 b1) ?_
    rintro M3 ⟨h3, o3⟩
    obtain ⟨c1, c2⟩ := sDogs_x b1
    have ed : M3 156 0 = A.1 0 := (h3.1 0 (by omega)).trans (by rw [c2.2.2.2.2.1, b2.2.2.2.2.1, x2.2.2.2.2.1])
    rw [lt_eq, ed]
    have o4 : Out 156 157 M3 (up2 M3 156 0 (A.1 0 + 1)) := (Out.refl _ _ _).up (by omega) (by omega)
    exact wq_some ⟨h3.upN c1.2.2.2.1 (k := 0) (by omega) _, ((o1.trans o2).trans o3).trans (Mo.w o4)⟩
  | false =>
    simp only [Bool.false_eq_true, if_false]
    rw [if_pos trivial, if_pos trivial]
    have ed : M1 156 0 = A.1 0 := (h1.1 0 (by omega)).trans x2.2.2.2.2.1
    rw [lt_eq, ed]
    have o4 : Out 156 157 M1 (up2 M1 156 0 (A.1 0 + 1)) := (Out.refl _ _ _).up (by omega) (by omega)
    exact wq_some ⟨h1.upN x1.2.2.2.1 (k := 0) (by omega) _, o1.trans (Mo.w o4)⟩
