/-! ===== PURE PART: text ===== -/
theorem InvC.tok2 {A : AS} {I : Option AS} {P : Ps} {tp tp' : Sk} {ft ft' : Int32 × Int32} {M M' : Mem} (h : InvC (A, I, P, tp, ft) M) (hO : Out 136 151 M M') (hT : RTk tp' ft' M') : InvC (A, I, P, tp', ft') M' := by
  obtain ⟨h1, h2, h3, ⟨h4, h5, h6⟩, h7, h8⟩ := h
  exact ⟨h1.out hO (by omega), h2.out hO (by omega), h3.out hO (by omega) (by omega), ⟨h4.out hO (by omega), h5.out hO (by omega), h6.out hO (by omega)⟩, h7.out hO (by omega), hT⟩
theorem InvC.law {A : AS} {r : Option AS × Ps × Sk × (Int32 × Int32)} {L : LwT} {M M' : Mem} (h : InvC (A, r) M) (hO : Out (1 + 13) (1 + 13 + 7) M M') (hL : RLw (1 + 13) L M') : InvC ((A.1, A.2.1, L), r) M' := by
  obtain ⟨h1, h2, h3, ⟨h4, h5, h6⟩, h7, h8⟩ := h
  refine ⟨?_, h2.out hO (by omega), h3.out hO (by omega) (by omega), ⟨h4.out hO (by omega), h5.out hO (by omega), h6.out hO (by omega)⟩, h7.out hO (by omega), h8.out hO (by omega)⟩
  obtain ⟨a1, ⟨t0, t1, t2, t3, t4, T, t5, t6⟩, a3⟩ := h1
  refine ⟨?_, ⟨t0.out hO (by omega), t1.out hO (by omega), t2.out hO (by omega), t3.out hO (by omega), t4.out hO (by omega), T, t5.out hO (by omega), t6⟩, hL⟩
  rw [hO 1 (by omega)]
  exact a1
theorem Fl.out {b : Bool} {M M' : Mem} (h : Fl b M M') : Out 136 151 M M' := fun a ha => h.1 a (by omega) (by omega)
/-- a line of the thought market was read -/
theorem InvC.rd {A : AS} {I : Option AS} {P : Ps} {tp tp' : Sk} {ft ft' : Int32 × Int32} {M M' : Mem} {o : Nat} {b : Bool} (h : InvC (A, I, P, tp, ft) M) (ho : 53 ≤ o ∧ o + 2 ≤ 79) (hF : Fr b o M M') (hM : Ms 53 M') (hT : RTk tp' ft' M') : InvC (A, I, P, tp', ft') M' := by
  have h1 : InvC (A, I, P, tp, ft) (fun a => if a = 136 then M a else M' a) := by
    refine h.thk (fun a ha => ?_) ?_
    · show (if a = 136 then M a else M' a) = M a
      by_cases e : a = 136
      · rw [if_pos e]
      · rw [if_neg e]; exact hF.1 a e (by omega) (by omega)
    · obtain ⟨⟨a, ha⟩, ⟨b, hb⟩, ⟨c, hc⟩, ⟨d, hd⟩, ⟨e, he⟩, ⟨f, hf⟩⟩ := hM
      have q : ∀ x, x ≠ 136 → (fun a => if a = 136 then M a else M' a) x = M' x := fun x hx => by show (if x = 136 then M x else M' x) = M' x; rw [if_neg hx]
      exact ⟨⟨a, ha.congr (q _ (by omega)) (q _ (by omega))⟩, ⟨b, hb.congr (q _ (by omega)) (q _ (by omega))⟩, ⟨c, hc.congr (q _ (by omega)) (q _ (by omega))⟩, ⟨d, hd.congr (q _ (by omega)) (q _ (by omega))⟩, ⟨e, he.congr (q _ (by omega)) (q _ (by omega))⟩, ⟨f, hf.congr (q _ (by omega)) (q _ (by omega))⟩⟩
  refine h1.tok (fun a ha => ?_) hT
  show M' a = if a = 136 then M a else M' a
  rw [if_neg (by omega)]
def Fz (M M' : Mem) : Prop := (∀ a, a ≠ 155 → a ≠ 160 → a ≠ 161 → a ≠ 162 → M' a = M a) ∧ ∀ k, k < 12 → M' 155 k = M 155 k
theorem Fz.lo {M M' : Mem} (h : Fz M M') : Lo M M' := fun a ha => h.1 a (by omega) (by omega) (by omega) (by omega)
theorem InvM.z {A : AS} {I : Option AS} {P : Ps} {tp : Sk} {ft : Int32 × Int32} {M M' : Mem} (h : InvM (A, I, P, tp, ft) M) (hF : Fz M M') (h16 : M' 155 16 = 0) : InvM (A, I, P, (0, tp.2), (M' 155 23, M' 155 25)) M' := by
  refine h.upd155 (hF.1 156 (by omega) (by omega) (by omega) (by omega)) (hF.1 157 (by omega) (by omega) (by omega) (by omega)) (hF.2 5 (by omega)) ?_ ⟨h16, fun j hj => absurd hj (Nat.not_lt_zero _)⟩ ⟨rfl, rfl⟩
  have hP : RPm P M := h.2.2.1
  unfold RPm RSn at hP ⊢
  rw [hF.2 4 (by omega), hF.1 158 (by omega) (by omega) (by omega) (by omega)]
  exact hP
/-- what the reference's reading gives, and what comes of it -/
def preM (k : Int32) (M : Mem) : Mem := up2 (up2 (up2 (up2 (up2 M 155 23 0) 155 25 (-1)) 155 21 0) 155 17 0) 155 12 k
def finM (M : Mem) : Mem := up2 (up2 (up2 M 155 16 0) 155 23 (up2 M 155 16 0 155 21)) 155 25 (up2 (up2 M 155 16 0) 155 23 (up2 M 155 16 0 155 21) 155 22)
theorem textm_eq {k : Int32} {M : Mem} (hk : ¬ f_X11_isIn k 0 4 = 0) : f_X11_text k M = b1 (f_X11_next0 (preM k M)) fun M7 => if k = 1 then (b2 (f_X11_readsLaw M7) fun M17 x18 => if x18 = 0 then some (finM M17, -1) else (b2 (f_X11_putsText k (up2 M17 155 16 0)) fun M23 x24 => some (M23, x24))) else (b2 (f_X11_readsRows M7) fun M9 x10 => if x10 = 0 then some (finM M9, -1) else (b2 (f_X11_putsText k (up2 M9 155 16 0)) fun M15 x16 => some (M15, x16))) := by
  unfold f_X11_text
  simp only [lt_eq]
  rw [if_neg hk]
  rfl
theorem prem_ok {B : Nat → Nat} {n N k : Nat} {A : AS} {I : Option AS} {P : Ps} {tp : Sk} {ft : Int32 × Int32} {M : Mem} (hN : okN B n N) (hk : k < 5) (h : InvM (A, I, P, tp, ft) M) (ht : tp.1 = n) (hB : ∀ j, j < n → tp.2 j = nI (B j)) : Wq (f_X11_next0 (preM (nI k) M)) (fun M7 => RSm B n k 0 M7 ∧ Fz M M7 ∧ M7 155 23 = 0 ∧ M7 155 25 = -1) := by
  have h16 : M 155 16 = nI n := by rw [← ht]; exact h.2.2.2.1.1
  have h163 : ∀ j, j < n → M 163 j = nI (B j) := fun j hj => by rw [← hB j hj]; exact h.2.2.2.1.2 j (by rw [ht]; exact hj)
  have c155 : ∀ a, a ≠ 155 → preM (nI k) M a = M a := fun a ha => by unfold preM; simp only [up2_cell _ _ _ ha]
  have tp' : TPm B n (preM (nI k) M) := by
    refine ⟨?_, ?_⟩
    · unfold preM; simp [up2_eq]; exact h16
    · rw [c155 163 (by omega)]; exact h163
  refine wq_mono (next0_ok (k := 0) hN.1 tp' hk (by unfold preM; exact up2_at _ _ _ _) (by unfold preM; simp [up2_eq]; rfl)) ?_
  rintro M7 ⟨n1, n2⟩
  refine ⟨n1, ⟨fun a a1 _ _ _ => by rw [n2.1 a a1, c155 a a1], fun j hj => ?_⟩, ?_, ?_⟩
  · rw [n2.2 j (by omega) (by omega) (by omega) (by omega)]
    unfold preM
    rw [up2_slot _ _ _ (by omega), up2_slot _ _ _ (by omega), up2_slot _ _ _ (by omega), up2_slot _ _ _ (by omega), up2_slot _ _ _ (by omega)]
  · rw [n2.2 23 (by omega) (by omega) (by omega) (by omega)]; unfold preM; simp [up2_eq]
  · rw [n2.2 25 (by omega) (by omega) (by omega) (by omega)]; unfold preM; simp [up2_eq]
theorem fin_ok {A : AS} {I : Option AS} {P : Ps} {tp : Sk} {ft : Int32 × Int32} {M M9 : Mem} (h : InvM (A, I, P, tp, ft) M) (hF : Fz M M9) {x y : Int32} (hx : M9 155 21 = x) (hy : M9 155 22 = y) : InvM (A, I, P, (0, tp.2), (x, y)) (finM M9) ∧ Lo M (finM M9) := by
  have c155 : ∀ a, a ≠ 155 → finM M9 a = M9 a := fun a ha => by unfold finM; simp only [up2_cell _ _ _ ha]
  have f : Fz M (finM M9) := ⟨fun a a1 a2 a3 a4 => by rw [c155 a a1]; exact hF.1 a a1 a2 a3 a4, fun j hj => by
    unfold finM
    rw [up2_slot _ _ _ (by omega), up2_slot _ _ _ (by omega), up2_slot _ _ _ (by omega)]
    exact hF.2 j hj⟩
  have e16 : finM M9 155 16 = 0 := by unfold finM; simp [up2_eq]
  have e23 : finM M9 155 23 = x := by unfold finM; simp [up2_eq]; exact hx
  have e25 : finM M9 155 25 = y := by unfold finM; simp [up2_eq]; exact hy
  have := h.z f e16
  rw [e23, e25] at this
  exact ⟨this, f.lo⟩
theorem good_ok {A : AS} {I : Option AS} {P : Ps} {tp : Sk} {ft : Int32 × Int32} {M M9 : Mem} (h : InvM (A, I, P, tp, ft) M) (hF : Fz M M9) (h23 : M9 155 23 = 0) (h25 : M9 155 25 = -1) : InvM (A, I, P, (0, tp.2), (0, -1)) (up2 M9 155 16 0) ∧ Lo M (up2 M9 155 16 0) := by
  have f : Fz M (up2 M9 155 16 0) := ⟨fun a a1 a2 a3 a4 => by rw [up2_cell _ _ _ a1]; exact hF.1 a a1 a2 a3 a4, fun j hj => by rw [up2_slot _ _ _ (by omega)]; exact hF.2 j hj⟩
  have := h.z f (up2_at _ _ _ _)
  rw [up2_slot _ _ _ (by omega), up2_slot _ _ _ (by omega), h23, h25] at this
  exact ⟨this, f.lo⟩
theorem Fx.fz {M M7 M9 : Mem} (h7 : Fz M M7) (h : Fx M7 M9) (h23 : M7 155 23 = 0) (h25 : M7 155 25 = -1) : Fz M M9 ∧ M9 155 23 = 0 ∧ M9 155 25 = -1 := by
  refine ⟨⟨fun a a1 a2 a3 a4 => by rw [h.1 a a1 a4]; exact h7.1 a a1 a2 a3 a4, fun j hj => by rw [h.2 j (by omega) (by omega)]; exact h7.2 j hj⟩, ?_, ?_⟩
  · rw [h.2 23 (by omega) (by omega)]; exact h23
  · rw [h.2 25 (by omega) (by omega)]; exact h25
theorem Fq.fz {M M7 M9 : Mem} (h7 : Fz M M7) (h : Fq M7 M9) (h23 : M7 155 23 = 0) (h25 : M7 155 25 = -1) : Fz M M9 ∧ M9 155 23 = 0 ∧ M9 155 25 = -1 := by
  refine ⟨⟨fun a a1 a2 a3 a4 => by rw [h.1 a a1 a2 a3]; exact h7.1 a a1 a2 a3 a4, fun j hj => by rw [h.2 j (by omega) (by omega) (by omega) (by omega)]; exact h7.2 j hj⟩, ?_, ?_⟩
  · rw [h.2 23 (by omega) (by omega) (by omega) (by omega)]; exact h23
  · rw [h.2 25 (by omega) (by omega) (by omega) (by omega)]; exact h25
/-! the law's text -/
theorem OKG.tape {A : AS} {I : Option AS} {P : Ps} {tp : Sk} {ft : Int32 × Int32} (h : OKG (A, I, P, tp, ft)) (ft' : Int32 × Int32) : OKG (A, I, P, (0, tp.2), ft') := ⟨h.1, h.2.1, h.2.2.1, Nat.zero_le _, fun j hj => absurd hj (Nat.not_lt_zero _)⟩
section TXT
variable {B : Nat → Nat} {n N : Nat} {A : AS} {I : Option AS} {P : Ps} {tp : Sk} {ft : Int32 × Int32} {M : Mem}
/-- the class, behind the split -/
theorem split_inv (hN : okN B n N) (hC : InvC (A, I, P, tp, ft) M) (ht : tp.1 = n) (hB : ∀ j, j < n → tp.2 j = nI (B j)) : Wq (f_X9_split M) (fun M1 => InvC (A, I, P, (0, tp.2), (0, -1)) M1 ∧ STc N (tyT B n) (vlT B n) (plT B n) M1 ∧ M1 136 6 = 0 ∧ Hi M M1) := by
  have hT := hC.2.2.2.2.2
  have hTP : TPc B n M := ⟨by rw [← ht]; exact hT.1, fun j hj => by rw [← hB j hj]; exact hT.2.1 j (by rw [ht]; exact hj)⟩
  refine wq_mono (split_ok hN.1 hTP hN.2.1 hN.2.2.1 hN.2.2.2) ?_
  rintro M1 ⟨a1, a2, a3, a4, a5, a6⟩
  refine ⟨hC.tok a6 ⟨a2, fun j hj => absurd hj (Nat.not_lt_zero _), a4, a5⟩, ⟨a1.1, fun j hj => a1.2 j (by omega)⟩, a3, a6.hi (by omega)⟩
theorem text_law (hN : okN B n N) (hC : InvC (A, I, P, tp, ft) M) (hG : OKG (A, I, P, tp, ft)) (ht : tp.1 = n) (hB : ∀ j, j < n → tp.2 j = nI (B j)) : ∃ G' r, OKG G' ∧ Wq (f_X10_text 1 M) (fun p => p.2 = r ∧ InvC G' p.1 ∧ Hi M p.1) ∧ ∀ M1, InvM (A, I, P, tp, ft) M1 → Wq (f_X11_text 1 M1) (fun p => p.2 = r ∧ InvM G' p.1 ∧ Lo M1 p.1) := by
  have hg0 : OKL ([] : LwT) := ⟨by decide, fun l hl => by simp at hl⟩
  have hok := lw_good (ty := tyT B n) (vl := vlT B n) hN.v 17 0 [] hg0
  have hin : ¬ f_X11_isIn 1 0 4 = 0 := by decide
  obtain ⟨M1, s0, h1, h2, h3, h4⟩ := split_inv hN hC ht hB
  obtain ⟨⟨M11, x12⟩, t0, tm⟩ := tell_ok hN.t hN.v h2 h3
  have hcl : f_X10_text 1 M = some (M11, x12) := by
    unfold f_X10_text
    rw [s0, b1_some, if_pos rfl, t0, b2_some]
  have hrf : ∀ Ma, InvM (A, I, P, tp, ft) Ma → ∃ M17 x18, f_X11_text 1 Ma = (if x18 = 0 then some (finM M17, -1) else (b2 (f_X11_putsText 1 (up2 M17 155 16 0)) fun M23 x24 => some (M23, x24))) ∧ PmR B n N M17 (lwG (tyT B n) (vlT B n) 17 0 []) (M17, x18) ∧ Fz Ma M17 ∧ M17 155 23 = 0 ∧ M17 155 25 = -1 := by
    intro Ma hMa
    obtain ⟨M7, p0, p1, p2, p3, p4⟩ := prem_ok (k := 1) hN (by omega) hMa ht hB
    have p0 : f_X11_next0 (preM 1 Ma) = some M7 := p0
    obtain ⟨⟨M17, x18⟩, r0, r1, r2⟩ := readsLaw_ok hN p1
    obtain ⟨f1, f2, f3⟩ := r1.fz p2 p3 p4
    refine ⟨M17, x18, ?_, ⟨Fq.refl _, r2⟩, f1, f2, f3⟩
    rw [textm_eq hin, p0, b1_some, if_pos rfl, r0, b2_some]
  cases hR : lwG (tyT B n) (vlT B n) 17 0 [] with
  | inl e =>
    rw [hR] at tm
    obtain ⟨t1, t2, t3, t4⟩ := tm
    simp only at t1 t2 t3 t4
    refine ⟨(A, I, P, (0, tp.2), (nI e.1, nI (plT B n e.2))), -1, hG.tape _, wq_eq hcl ⟨t2, h1.tok2 t1.out ⟨?_, fun j hj => absurd hj (Nat.not_lt_zero _), t3, t4⟩, h4.trans (t1.out.hi (by omega))⟩, ?_⟩
    · show M11 136 4 = nI 0
      rw [t1.2 4 (by omega) (fun _ => by omega)]
      exact h1.2.2.2.2.2.1
    · intro Ma hMa
      obtain ⟨M17, x18, e1, ⟨_, e2⟩, f1, f2, f3⟩ := hrf Ma hMa
      rw [hR] at e2
      obtain ⟨z1, z2, z3⟩ := e2
      simp only at z1 z2 z3
      rw [e1, if_pos z1]
      have := fin_ok hMa f1 z2 z3
      exact wq_some ⟨rfl, this.1, this.2⟩
  | inr q =>
    rw [hR] at tm
    obtain ⟨t1, t2, Mx, t3, t4⟩ := tm
    simp only at t1 t2 t4
    have hL := hok q.1 q.2 hR
    have hx : InvC (A, I, P, (0, tp.2), (0, -1)) Mx := h1.tok2 t3.out ⟨by
      show Mx 136 4 = nI 0
      rw [t3.2 4 (by omega) (fun z => by cases z)]
      exact h1.2.2.2.2.2.1, fun j hj => absurd hj (Nat.not_lt_zero _), by
      show Mx 136 7 = 0
      rw [t3.2 7 (by omega) (fun z => by cases z)]
      exact h1.2.2.2.2.2.2.2.1, by
      show Mx 136 8 = -1
      rw [t3.2 8 (by omega) (fun z => by cases z)]
      exact h1.2.2.2.2.2.2.2.2⟩
    refine ⟨((A.1, A.2.1, q.2), I, P, (0, tp.2), (0, -1)), nI q.2.length, ⟨⟨hG.1.1, hG.1.2.1, hG.1.2.2.1, hL⟩, hG.2.1, hG.2.2.1, Nat.zero_le _, fun j hj => absurd hj (Nat.not_lt_zero _)⟩, wq_eq hcl ⟨t1, hx.law t4 t2, (h4.trans (t3.out.hi (by omega))).trans (t4.hi (by omega))⟩, ?_⟩
    intro Ma hMa
    obtain ⟨M17, x18, e1, ⟨_, e2⟩, f1, f2, f3⟩ := hrf Ma hMa
    rw [hR] at e2
    obtain ⟨z1, z2, z3, z4, z5⟩ := e2
    simp only at z1 z2 z3 z4 z5
    rw [e1, if_neg (by rw [z1]; decide)]
    have hg := good_ok hMa f1 f2 f3
    unfold f_X11_putsText
    rw [if_pos rfl]
    have hN4 := hN.t.1
    have l17 : LM q.2 (up2 M17 155 16 0) := by
      refine ⟨by rw [up2_slot _ _ _ (by omega)]; exact z3.1, fun i l hl => ?_⟩
      unfold LE
      rw [up2_cell _ _ _ (by omega)]
      exact z3.2 i l hl
    obtain ⟨⟨M23, x24⟩, p0, p1, p2, p3⟩ := putsLaw_ok hg.1.1 hL.1 l17 (z4.up (by omega)) (by omega)
    rw [p0, b2_some, b2_some]
    exact wq_some ⟨p1, hg.1.row (Mo.w p3) p2, hg.2.trans (p3.lo (by omega) (by omega))⟩
end TXT
