/-! ===== PURE PART: the whole law, read by the reference ===== -/
def catM : LwT → Cd
  | [] => []
  | l :: L => l.2.1 ++ l.2.2 ++ catM L
theorem catM_app (l : Nat × Cd × Cd) : ∀ L : LwT, catM (L ++ [l]) = catM L ++ l.2.1 ++ l.2.2
  | [] => by
    show l.2.1 ++ l.2.2 ++ [] = [] ++ l.2.1 ++ l.2.2
    rw [List.append_nil, List.nil_append]
  | a :: L => by
    show a.2.1 ++ a.2.2 ++ catM (L ++ [l]) = a.2.1 ++ a.2.2 ++ catM L ++ l.2.1 ++ l.2.2
    rw [catM_app l L]
    simp only [List.append_assoc]
theorem catM_get : ∀ (L : LwT) (i : Nat) (l : Nat × Cd × Cd), L[i]? = some l → catM L = catM (L.take i) ++ (l.2.1 ++ l.2.2 ++ catM (L.drop (i + 1)))
  | [], i, l, h => by simp at h
  | a :: L, 0, l, h => by
    simp at h
    subst h
    rfl
  | a :: L, i + 1, l, h => by
    have := catM_get L i l (by simpa using h)
    show a.2.1 ++ a.2.2 ++ catM L = (a.2.1 ++ a.2.2 ++ catM (L.take i)) ++ (l.2.1 ++ l.2.2 ++ catM (L.drop (i + 1)))
    rw [this]
    simp only [List.append_assoc]
def sM (L : LwT) (i : Nat) : Nat := (catM (L.take i)).length
def LE (M : Mem) (i a b c w : Nat) : Prop := M 160 (4 * i) = nI a ∧ M 160 (4 * i + 1) = nI b ∧ M 160 (4 * i + 2) = nI c ∧ M 160 (4 * i + 3) = nI w
def LM (L : LwT) (M : Mem) : Prop := M 155 13 = nI L.length ∧ ∀ i l, L[i]? = some l → LE M i (sM L i) (sM L i + l.2.1.length) (sM L i + l.2.1.length + l.2.2.length) l.1
def Fq (M M' : Mem) : Prop := (∀ a, a ≠ 155 → a ≠ 160 → a ≠ 161 → M' a = M a) ∧ ∀ k, k ≠ 13 → k ≠ 14 → (k < 17 ∨ 23 ≤ k) → k ≠ 24 → M' 155 k = M 155 k
theorem Fq.refl (M : Mem) : Fq M M := ⟨fun _ _ _ _ => rfl, fun _ _ _ _ _ => rfl⟩
theorem Fq.trans {M M1 M2 : Mem} (h : Fq M M1) (h2 : Fq M1 M2) : Fq M M2 := ⟨fun a b c d => (h2.1 a b c d).trans (h.1 a b c d), fun a b c d e => (h2.2 a b c d e).trans (h.2 a b c d e)⟩
theorem Fm.fq {M M' : Mem} (h : Fm M M') : Fq M M' := ⟨fun a b _ d => h.1 a b d, fun k _ b c d => h.2 k b c d⟩
theorem Fq.w {M : Mem} {j : Nat} {x : Int32} : Fq M (up2 M 160 j x) := ⟨fun a _ b _ => up2_cell _ _ _ b, fun k _ _ _ _ => by rw [up2_cell _ _ _ (by omega)]⟩
theorem Fq.u13 {M : Mem} {x : Int32} : Fq M (up2 M 155 13 x) := ⟨fun a b _ _ => up2_cell _ _ _ b, fun k b _ _ _ => up2_slot _ _ _ b⟩
theorem la_160 : la 160 = some 64 := by decide +kernel
theorem LM.w {L : LwT} {M : Mem} {x : Int32} {j : Nat} (h : LM L M) (hj : 4 * L.length ≤ j) : LM L (up2 M 160 j x) := by
  refine ⟨by rw [up2_cell _ _ _ (by omega)]; exact h.1, fun i l hl => ?_⟩
  have hi : i < L.length := (List.getElem?_eq_some_iff.mp hl).1
  have := h.2 i l hl
  unfold LE at this ⊢
  rw [up2_slot _ _ _ (by omega), up2_slot _ _ _ (by omega), up2_slot _ _ _ (by omega), up2_slot _ _ _ (by omega)]
  exact this
theorem LM.fm {L : LwT} {M M' : Mem} (h : LM L M) (hF : Fm M M') : LM L M' := by
  unfold LM LE
  rw [hF.2 13 (by omega) (by omega) (by omega), hF.1 160 (by omega) (by omega)]
  exact h
theorem SM.w {Y : Cd} {M : Mem} {j : Nat} {x : Int32} (h : SM Y M) : SM Y (up2 M 160 j x) := by
  unfold SM
  rw [up2_cell _ _ _ (by omega), up2_cell _ _ _ (by omega)]
  exact h
section TLM
variable {B : Nat → Nat} {n N : Nat} {M : Mem}
theorem RSm.w {r k j : Nat} {x : Int32} (h : RSm B n r k M) : RSm B n r k (up2 M 160 j x) := by
  unfold RSm TPm
  rw [up2_cell _ _ _ (by omega), up2_cell _ _ _ (by omega)]
  exact h
def PmA (B : Nat → Nat) (n N i : Nat) (L : LwT) (M : Mem) (R : Rs (Nat × Cd × Cd)) (p : Mem × Int32) : Prop := Fq M p.1 ∧ match R with
  | .inl e => p.2 = 0 ∧ p.1 155 21 = nI e.1 ∧ p.1 155 22 = nI (plT B n e.2)
  | .inr q => p.2 = 1 ∧ i < q.1 ∧ q.1 ≤ N ∧ RSm B n 1 q.1 p.1 ∧ LM L p.1 ∧ SM (catM L ++ q.2.2.1 ++ q.2.2.2) p.1 ∧ (catM L).length + q.2.2.1.length + q.2.2.2.length ≤ q.1 ∧ LE p.1 L.length (catM L).length ((catM L).length + q.2.2.1.length) ((catM L).length + q.2.2.1.length + q.2.2.2.length) q.2.1
theorem pa_bad {M0 : Mem} {r k i0 : Nat} {L : LwT} (h : RSm B n r k M) (hF : Fq M0 M) {x : Int32} {w : Nat} (hx : x = nI w) : Wq (lt (f_X11_bad x M) fun p3 => b1 (gz p3.2) fun x4 => some (p3.1, x4)) (PmA B n N i0 L M0 (.inl (w, k))) := by
  obtain ⟨p, b0, bF, b1', b2', b3'⟩ := bad_ok (N := N) (i0 := i0) (Y0 := []) h (Fm.refl M) hx
  exact wq_eq b0 ⟨hF.trans bF.fq, b1', b2', b3'⟩
theorem pa_b2 {M0 M1 : Mem} {x : Option (Mem × Int32)} {k : Mem → Option (Mem × Int32)} {R : Rs Cd} {f : Nat → Cd → Rs (Nat × Cd × Cd)} {i1 i0 : Nat} {Y1 : Cd} {L : LwT} (h : Wq x (PmC B n N i1 Y1 M1 R)) (hF : Fq M0 M1) (hk : ∀ j c M2, i1 < j → j ≤ N → Fm M1 M2 → RSm B n 1 j M2 → SM (Y1 ++ c) M2 → c.length + i1 ≤ j → M2 155 24 = M1 155 24 → Wq (k M2) (PmA B n N i0 L M0 (f j c))) : Wq (b2 x fun M2 x2 => if x2 = 0 then some (M2, 0) else k M2) (PmA B n N i0 L M0 (bnR R f)) := by
  obtain ⟨⟨M2, x2⟩, rfl, hFF, hm⟩ := h
  rw [b2_some]
  cases R with
  | inl e =>
    obtain ⟨h1, h2, h3⟩ := hm
    simp only at h1
    rw [if_pos h1]
    exact wq_some ⟨hF.trans hFF.fq, rfl, h2, h3⟩
  | inr q =>
    obtain ⟨h1, h2, h3, h4, h5, h6, h7⟩ := hm
    simp only at h1
    rw [if_neg (by rw [h1]; decide)]
    exact hk q.1 q.2 M2 h2 h3 hFF h4 h5 h6 h7
theorem endm_ok (hN : okN B n N) {M0 : Mem} {i i0 : Nat} {L : LwT} {l : Nat × Cd × Cd} (h : RSm B n 1 i M) (hF : Fq M0 M) (hi0 : i0 ≤ i) (hi : i ≤ N) (hL : L.length < 16) (hLM : LM L M) (hS : SM (catM L ++ l.2.1 ++ l.2.2) M) (hlen : (catM L).length + l.2.1.length + l.2.2.length ≤ i) (p1 : M 160 (4 * L.length) = nI (catM L).length) (p2 : M 160 (4 * L.length + 1) = nI ((catM L).length + l.2.1.length)) (p4 : M 160 (4 * L.length + 3) = nI l.1) : Wq (b1 (wr M 160 ((4 * (M 155 13)) + 2) (M 155 14)) fun M12 => b2 (f_X11_need 159 M12) fun M13 x14 => b1 (gz x14) fun x15 => some (M13, x15)) (PmA B n N i0 L M0 (nxG (tyT B n) 59 i l)) := by
  have hT := hN.t
  have ix : (4 * nI L.length) + 2 = nI (4 * L.length + 2) := by
    have e1 : 4 * nI L.length = nI (4 * L.length) := nI_mul 4 L.length
    rw [e1]
    exact nI_add _ 2
  rw [hLM.1, ix, hS.1, wr_nI la_160 (by omega) (by omega), b1_some]
  generalize hMe : up2 M 160 (4 * L.length + 2) (nI (catM L ++ l.2.1 ++ l.2.2).length) = Me
  have r1 : RSm B n 1 i Me := by rw [← hMe]; exact h.w
  have f1 : Fq M0 Me := by rw [← hMe]; exact hF.trans Fq.w
  have l1 : LM L Me := by rw [← hMe]; exact hLM.w (by omega)
  have s1 : SM (catM L ++ l.2.1 ++ l.2.2) Me := by rw [← hMe]; exact hS.w
  have e1 : LE Me L.length (catM L).length ((catM L).length + l.2.1.length) ((catM L).length + l.2.1.length + l.2.2.length) l.1 := by
    refine ⟨?_, ?_, ?_, ?_⟩
    · rw [← hMe, up2_slot _ _ _ (by omega)]; exact p1
    · rw [← hMe, up2_slot _ _ _ (by omega)]; exact p2
    · rw [← hMe, up2_at, List.length_append, List.length_append]
    · rw [← hMe, up2_slot _ _ _ (by omega)]; exact p4
  have ht := hT.2.2.2 i
  have e159 := tokq (v := 159) (x := 159) rfl ht (by omega) (tr1_b _ ht).2.2.2.2.2.2.2.2.2.1
  unfold f_X11_need nxG
  rw [r1.2.2.2.1]
  by_cases hs : tyT B n i = 59
  · have hiN : i < N := in_tok hT hi hs (by omega)
    obtain ⟨M13, n0, n1, n2⟩ := nextm hN (by omega) r1
    have hg : gz 1 = some 1 := rfl
    rw [if_pos (e159.2 hs), n0, b1_some, b2_some, hg, b1_some, if_pos hs]
    refine wq_some ⟨f1.trans n2.fm.fq, rfl, by simp only; omega, hiN, n1, l1.fm n2.fm, s1.fn n2, by simp only; omega, ?_⟩
    unfold LE
    try simp only
    rw [n2.1 160 (by omega)]
    exact e1
  · rw [if_neg (fun z => hs (e159.1 z)), if_neg hs]
    obtain ⟨⟨M2, x2⟩, b0, bF, b1', b2', b3'⟩ := pa_bad (N := N) (i0 := i0) (L := L) r1 f1 (x := 1) (w := 1) rfl
    rw [b0, b2_some]
    simp only at b1'
    have hg : gz 0 = some 0 := rfl
    rw [b1', hg, b1_some]
    exact wq_some ⟨bF, rfl, b2', b3'⟩
theorem aLine_ok (hN : okN B n N) {i : Nat} {L : LwT} (h : RSm B n 1 i M) (hi : i ≤ N) (hL : L.length ≤ 16) (hLM : LM L M) (hS : SM (catM L) M) (hlen : (catM L).length ≤ i) : Wq (f_X11_aLine M) (PmA B n N i L M (if 307 ≤ tyT B n i ∧ tyT B n i ≤ 310 then (if L.length = 16 then .inl (3, i) else lnG (tyT B n) (vlT B n) i) else .inl (1, i))) := by
  have hT := hN.t
  have hN4 := hT.1
  have ht := hT.2.2.2 i
  have t1 := (tr1_a _ ht).1
  obtain ⟨t3, t4⟩ := tr1_c _ ht
  have e18 := h.2.2.2.1
  have ein : f_X11_isIn (nI (trT 1 (tyT B n i))) 20 23 = 0 ↔ ¬ (307 ≤ tyT B n i ∧ tyT B n i ≤ 310) := by
    rw [isInm0]
    have a1 : nI (trT 1 (tyT B n i)) < 20 ↔ trT 1 (tyT B n i) < 20 := nI_lt_iff (b := 20) (by omega) (by omega)
    have a2 : (23 : Int32) < nI (trT 1 (tyT B n i)) ↔ 23 < trT 1 (tyT B n i) := nI_lt_iff (a := 23) (by omega) (by omega)
    rw [a1, a2, ← t3]; omega
  unfold f_X11_aLine
  rw [e18]
  by_cases hw : 307 ≤ tyT B n i ∧ tyT B n i ≤ 310
  · rw [if_neg (fun z => ein.1 z hw), if_pos hw, hLM.1]
    by_cases h16 : L.length = 16
    · rw [if_pos (by rw [h16]; rfl), if_pos h16]
      exact pa_bad h (Fq.refl _) rfl
    · have hiN : i < N := in_tok hT hi rfl (by omega)
      have ix0 : 4 * nI L.length = nI (4 * L.length) := nI_mul 4 L.length
      have ix1 : nI (4 * L.length) + 1 = nI (4 * L.length + 1) := nI_inc _
      have ix3 : nI (4 * L.length) + 3 = nI (4 * L.length + 3) := nI_add _ 3
      rw [if_neg (by
        intro z
        have z : nI L.length = nI 16 := z
        rw [nI_eq_iff (by omega) (by omega)] at z
        exact h16 z), if_neg h16, lt_eq, up2_slot _ _ _ (show (13 : Nat) ≠ 24 by omega), hLM.1, up2_slot _ _ _ (show (18 : Nat) ≠ 24 by omega), e18, ix0, ix3, wr_nI la_160 (by omega) (by omega), b1_some]
      generalize hM4 : up2 (up2 M 155 24 0) 160 (4 * L.length + 3) (nI (trT 1 (tyT B n i))) = M4
      have r4 : RSm B n 1 i M4 := by rw [← hM4]; exact (h.up (by omega)).w
      have f4 : Fq M M4 := by rw [← hM4]; exact (Fm.up (by omega)).fq.trans Fq.w
      have l4 : LM L M4 := by rw [← hM4]; exact (hLM.fm (Fm.up (by omega))).w (by omega)
      have s4 : SM (catM L) M4 := by rw [← hM4]; exact (hS.up (by omega)).w
      have d4 : M4 155 24 = nI 0 := by rw [← hM4, up2_cell _ _ _ (by omega), up2_at]; rfl
      have p4 : M4 160 (4 * L.length + 3) = nI (tyT B n i - 287) := by rw [← hM4, up2_at, t4 hw]
      obtain ⟨M5, n0, n1, n2⟩ := nextm hN (by omega) r4
      have l5 := l4.fm n2.fm
      have s5 := s4.fn n2
      rw [n0, b1_some, l5.1, s5.1, ix0, wr_nI la_160 (by omega) (by omega), b1_some]
      generalize hM6 : up2 M5 160 (4 * L.length) (nI (catM L).length) = M6
      have r6 : RSm B n 1 (i + 1) M6 := by rw [← hM6]; exact n1.w
      have f6 : Fq M M6 := by rw [← hM6]; exact (f4.trans n2.fm.fq).trans Fq.w
      have l6 : LM L M6 := by rw [← hM6]; exact l5.w (by omega)
      have s6 : SM (catM L) M6 := by rw [← hM6]; exact s5.w
      have d6 : M6 155 24 = nI 0 := by rw [← hM6, up2_cell _ _ _ (by omega), n2.2 24 (by omega) (by omega) (by omega) (by omega)]; exact d4
      have p6 : M6 160 (4 * L.length + 3) = nI (tyT B n i - 287) := by rw [← hM6, up2_slot _ _ _ (by omega), n2.1 160 (by omega)]; exact p4
      have p0 : M6 160 (4 * L.length) = nI (catM L).length := by rw [← hM6, up2_at]
      unfold lnG
      refine pa_b2 (sumUp_ok hN r6 hiN s6 (by omega)) f6 ?_
      intro j c M7 h1 h2 h3 h4 h5 h6 h7
      have l7 := l6.fm h3
      have e160 : M7 160 = M6 160 := h3.1 160 (by omega) (by omega)
      rw [l7.1, h5.1, ix0, ix1, wr_nI la_160 (by omega) (by omega), b1_some]
      generalize hM10 : up2 M7 160 (4 * L.length + 1) (nI (catM L ++ c).length) = M10
      have r10 : RSm B n 1 j M10 := by rw [← hM10]; exact h4.w
      have f10 : Fq M M10 := by rw [← hM10]; exact (f6.trans h3.fq).trans Fq.w
      have l10 : LM L M10 := by rw [← hM10]; exact l7.w (by omega)
      have s10 : SM (catM L ++ c) M10 := by rw [← hM10]; exact h5.w
      have d10 : M10 155 24 = nI 0 := by rw [← hM10, up2_cell _ _ _ (by omega), h7]; exact d6
      have q0 : M10 160 (4 * L.length) = nI (catM L).length := by rw [← hM10, up2_slot _ _ _ (by omega), e160]; exact p0
      have q1 : M10 160 (4 * L.length + 1) = nI ((catM L).length + c.length) := by rw [← hM10, up2_at, List.length_append]
      have q3 : M10 160 (4 * L.length + 3) = nI (tyT B n i - 287) := by rw [← hM10, up2_slot _ _ _ (by omega), e160]; exact p6
      have htj := hT.2.2.2 j
      have e3 := tokq (v := 3) (x := 3) rfl htj (by omega) (tr1_b _ htj).2.2.2.2.2.2.2.2.1
      rw [r10.2.2.2.1]
      by_cases hs : tyT B n j = 311
      · have hjN : j < N := in_tok hT h2 hs (by omega)
        rw [if_pos (e3.2 hs), if_pos hs]
        obtain ⟨M16, m0, m1, m2⟩ := nextm hN (by omega) r10
        rw [m0, b1_some]
        have d16 : M16 155 24 = nI 0 := by rw [m2.2 24 (by omega) (by omega) (by omega) (by omega)]; exact d10
        refine pa_b2 (any40_ok hN (j + 1) _ M16 m1 hjN (s10.fn m2) (by rw [List.length_append]; omega) d16) (f10.trans m2.fm.fq) ?_
        intro j2 c2 M17 k1 k2 k3 k4 k5 k6 k7
        have fm17 : Fm M10 M17 := m2.fm.trans k3
        have e160' : M17 160 = M10 160 := fm17.1 160 (by omega) (by omega)
        exact endm_ok (l := (tyT B n i - 287, c, c2)) hN k4 (f10.trans fm17.fq) (by omega) k2 (by omega) (l10.fm fm17) k5 (by simp only; omega) (by rw [e160']; exact q0) (by rw [e160']; exact q1) (by rw [e160']; exact q3)
      · rw [if_neg (fun z => hs (e3.1 z)), if_neg hs]
        exact endm_ok (l := (tyT B n i - 287, c, [])) hN r10 f10 (by omega) h2 (by omega) l10 (by simp only; rw [List.append_nil]; exact s10) (by show (catM L).length + c.length + 0 ≤ j; omega) q0 q1 q3
  · rw [if_pos (ein.2 hw), if_neg hw]
    exact pa_bad h (Fq.refl _) rfl
def PmR (B : Nat → Nat) (n N : Nat) (M : Mem) (R : Rs LwT) (p : Mem × Int32) : Prop := Fq M p.1 ∧ match R with
  | .inl e => p.2 = 0 ∧ p.1 155 21 = nI e.1 ∧ p.1 155 22 = nI (plT B n e.2)
  | .inr q => p.2 = 1 ∧ q.1 ≤ N ∧ LM q.2 p.1 ∧ SM (catM q.2) p.1 ∧ (catM q.2).length ≤ q.1
theorem reads_run (hN : okN B n N) {M0 : Mem} : ∀ (f i : Nat) (L : LwT) (M : Mem) (fuel : Nat), f + L.length = 17 → L.length ≤ 16 → f + 1 < fuel → Fq M0 M → i ≤ N → RSm B n 1 i M → LM L M → SM (catM L) M → (catM L).length ≤ i → Wq (lp (fun s => w_X11_readsLaw_12 s.1 s.2) fuel (1, M)) (fun r => PmR B n N M0 (lwG (tyT B n) (vlT B n) f i L) (r.2, r.1))
  | f, i, L, M, 0, _, _, hfu, _, _, _, _, _, _ => absurd hfu (Nat.not_lt_zero _)
  | f, i, L, M, 1, _, _, hfu, _, _, _, _, _, _ => by omega
  | 0, i, L, M, fuel + 2, hf, hL, _, _, _, _, _, _, _ => by omega
  | f + 1, i, L, M, fuel + 2, hf, hL, hfu, hF, hi, h, hLM, hS, hlen => by
    have hT := hN.t
    have ht := hT.2.2.2 i
    have e18 := h.2.2.2.1
    have e0 := tokq (v := 0) (x := 0) rfl ht (by omega) (tr1_b _ ht).2.2.2.2.2.2.2.2.2.2
    unfold lwG
    by_cases hs : tyT B n i = 258
    · rw [if_pos hs]
      have hb : (fun s : Int32 × Mem => w_X11_readsLaw_12 s.1 s.2) (1, M) = some (.inr (1, M)) := by
        simp only [w_X11_readsLaw_12]
        rw [e18, if_pos (.inr (e0.2 hs))]
      rw [lp_end hb]
      exact wq_some ⟨hF, rfl, hi, hLM, hS, hlen⟩
    · rw [if_neg hs]
      obtain ⟨⟨M8, x9⟩, u0, uF, um⟩ := aLine_ok hN h hi hL hLM hS hlen
      simp only at uF
      have hbody : (fun s : Int32 × Mem => w_X11_readsLaw_12 s.1 s.2) (1, M) = some (.inl (x9, up2 M8 155 13 (M8 155 13 + (if x9 = 0 then 0 else 1)))) := by
        simp only [w_X11_readsLaw_12]
        rw [e18, if_neg (by
          rintro (z | z)
          · exact absurd z (by decide)
          · exact hs (e0.1 z)), u0, b2_some, lt_eq, lt_eq]
      have fail : ∀ e : Nat × Nat, (x9 = 0 ∧ M8 155 21 = nI e.1 ∧ M8 155 22 = nI (plT B n e.2)) → Wq (lp (fun s => w_X11_readsLaw_12 s.1 s.2) (fuel + 2) (1, M)) (fun r => PmR B n N M0 (.inl e) (r.2, r.1)) := by
        rintro e ⟨z1, z2, z3⟩
        rw [lp_in hbody]
        have hb : (fun s : Int32 × Mem => w_X11_readsLaw_12 s.1 s.2) (x9, up2 M8 155 13 (M8 155 13 + (if x9 = 0 then 0 else 1))) = some (.inr (x9, up2 M8 155 13 (M8 155 13 + (if x9 = 0 then 0 else 1)))) := by
          simp only [w_X11_readsLaw_12]
          rw [if_pos (.inl z1)]
        rw [lp_end hb]
        refine wq_some ⟨(hF.trans uF).trans Fq.u13, z1, ?_, ?_⟩
        · simp only; rw [up2_slot _ _ _ (by omega)]; exact z2
        · simp only; rw [up2_slot _ _ _ (by omega)]; exact z3
      by_cases hw : 307 ≤ tyT B n i ∧ tyT B n i ≤ 310
      · rw [if_pos hw] at um ⊢
        by_cases h16 : L.length = 16
        · rw [if_pos h16] at um ⊢
          exact fail _ um
        · rw [if_neg h16] at um ⊢
          cases hR : lnG (tyT B n) (vlT B n) i with
          | inl e =>
            rw [hR] at um
            rw [bnR_l]
            exact fail _ um
          | inr q =>
            obtain ⟨j, l⟩ := q
            rw [hR] at um
            rw [bnR_r]
            obtain ⟨g1, g2, g3, g4, g5, g6, g7, g8⟩ := um
            simp only at g1 g2 g3 g4 g5 g6 g7 g8
            subst g1
            have el : (L ++ [l]).length = L.length + 1 := by rw [List.length_append]; rfl
            rw [lp_in hbody, if_neg (by decide), g5.1, nI_inc, ← el]
            refine reads_run hN f j (L ++ [l]) _ (fuel + 1) (by omega) (by omega) (by omega) ((hF.trans uF).trans Fq.u13) g3 (g4.up (by omega)) ⟨up2_at _ _ _ _, ?_⟩ (by rw [catM_app]; exact g6.up (by omega)) ?_
            · intro k l' hl'
              unfold LE
              rw [up2_cell _ _ _ (by omega)]
              by_cases e : k = L.length
              · subst e
                rw [List.getElem?_append_right (Nat.le_refl _), Nat.sub_self] at hl'
                have hl' : some l = some l' := hl'
                cases hl'
                have est : sM (L ++ [l]) L.length = (catM L).length := by
                  unfold sM
                  rw [List.take_append_of_le_length (Nat.le_refl _), List.take_length]
                rw [est]
                exact g8
              · have hk : k < L.length := by
                  have := (List.getElem?_eq_some_iff.mp hl').1
                  rw [el] at this
                  omega
                rw [List.getElem?_append_left hk] at hl'
                have est : sM (L ++ [l]) k = sM L k := by
                  unfold sM
                  rw [List.take_append_of_le_length (by omega)]
                rw [est]
                exact g5.2 k l' hl'
            · rw [catM_app, List.length_append, List.length_append]
              omega
      · rw [if_neg hw] at um ⊢
        exact fail _ um
theorem readsLaw_ok (hN : okN B n N) (h : RSm B n 1 0 M) : Wq (f_X11_readsLaw M) (PmR B n N M (lwG (tyT B n) (vlT B n) 17 0 [])) := by
  unfold f_X11_readsLaw
  simp only [lt_eq]
  generalize hM1 : up2 (up2 M 155 13 0) 155 14 0 = M1
  have f1 : Fq M M1 := by rw [← hM1]; exact Fq.u13.trans (Fm.up (by omega)).fq
  have r1 : RSm B n 1 0 M1 := by rw [← hM1]; exact (h.up (by omega)).up (by omega)
  have l1 : LM [] M1 := ⟨by rw [← hM1, up2_slot _ _ _ (by omega), up2_at]; rfl, fun i l hl => by simp at hl⟩
  have s1 : SM (catM []) M1 := ⟨by rw [← hM1, up2_at]; rfl, fun j p hp => by simp [catM] at hp⟩
  obtain ⟨⟨x, M2⟩, e1, hF, hm⟩ := reads_run hN 17 0 [] M1 FU rfl (by decide) (by unfold FU; omega) f1 (Nat.zero_le _) r1 l1 s1 (Nat.le_refl _)
  rw [e1, b1_some]
  cases hR : lwG (tyT B n) (vlT B n) 17 0 [] with
  | inl e =>
    rw [hR] at hm
    obtain ⟨h1, h2, h3⟩ := hm
    simp only at h1
    have hg : gz 0 = some 0 := rfl
    try simp only
    rw [h1, hg, b1_some]
    exact wq_some ⟨hF, rfl, h2, h3⟩
  | inr q =>
    rw [hR] at hm
    obtain ⟨h1, h2⟩ := hm
    simp only at h1
    have hg : gz 1 = some 1 := rfl
    try simp only
    rw [h1, hg, b1_some]
    exact wq_some ⟨hF, rfl, h2⟩
end TLM
theorem putsLaw_ok {A : AS} {L : LwT} {M : Mem} (h : RMm 156 A M) (hL : L.length ≤ 16) (hLM : LM L M) (hS : SM (catM L) M) (hl : (catM L).length ≤ 400) : Wq (f_X11_putsLaw M) (fun p => p.2 = nI L.length ∧ RMm 156 (A.1, A.2.1, L) p.1 ∧ Out 156 157 M p.1) := by
  unfold f_X11_putsLaw
  rw [lt_eq, hLM.1]
  have ix : ∀ k, k < 16 → 4 * nI k = nI (4 * k) := fun k _ => nI_mul 4 k
  refine wq_b1 (P := fun M' => (∀ i, i < L.length → M' 156 (970 + i) = M 160 (4 * i) ∧ M' 156 (986 + i) = M 160 (4 * i + 1) ∧ M' 156 (1002 + i) = M 160 (4 * i + 2) ∧ M' 156 (1018 + i) = M 160 (4 * i + 3)) ∧ (∀ x, x < 970 → M' 156 x = up2 M 156 83 (nI L.length) 156 x) ∧ Out 156 157 M M') (lp_to (fun k s => s.1 = nI k ∧ (∀ i, i < k → s.2 156 (970 + i) = M 160 (4 * i) ∧ s.2 156 (986 + i) = M 160 (4 * i + 1) ∧ s.2 156 (1002 + i) = M 160 (4 * i + 2) ∧ s.2 156 (1018 + i) = M 160 (4 * i + 3)) ∧ (∀ x, x < 970 → s.2 156 x = up2 M 156 83 (nI L.length) 156 x) ∧ Out 156 157 M s.2) L.length ?_ ?_ _ ⟨rfl, fun i hi => absurd hi (Nat.not_lt_zero _), fun x _ => rfl, (Out.refl _ _ _).up (by omega) (by omega)⟩ (by omega)) ?_
  · rintro k ⟨i, Q⟩ hk ⟨hi, h1, h2, hO⟩
    simp only at hi h1 h2 hO
    subst hi
    have e155 : Q 155 = M 155 := hO 155 (by omega)
    have e160 : Q 160 = M 160 := hO 160 (by omega)
    have a1 : (970 : Int32) + nI k = nI (970 + k) := nI_add 970 k
    have a2 : (986 : Int32) + nI k = nI (986 + k) := nI_add 986 k
    have a3 : (1002 : Int32) + nI k = nI (1002 + k) := nI_add 1002 k
    have a4 : (1018 : Int32) + nI k = nI (1018 + k) := nI_add 1018 k
    have b1' : nI (4 * k) + 1 = nI (4 * k + 1) := nI_inc _
    have b2' : nI (4 * k) + 2 = nI (4 * k + 2) := nI_add _ 2
    have b3' : nI (4 * k) + 3 = nI (4 * k + 3) := nI_add _ 3
    unfold w_X11_putsLaw_13
    try simp only
    rw [e155, hLM.1, if_neg (by rw [nI_le_iff (by omega) (by omega)]; omega), ix k (by omega), a1, a2, a3, a4, b1', b2', b3', rd_nI la_160 (by omega) (by omega), b1_some, wr_nI la_156 (by omega) (by omega), b1_some, rd_nI la_160 (by omega) (by omega), b1_some, wr_nI la_156 (by omega) (by omega), b1_some, rd_nI la_160 (by omega) (by omega), b1_some, wr_nI la_156 (by omega) (by omega), b1_some, rd_nI la_160 (by omega) (by omega), b1_some, wr_nI la_156 (by omega) (by omega), b1_some, nI_inc]
    refine ⟨_, rfl, rfl, ?_, ?_, (((hO.up (by omega) (by omega)).up (by omega) (by omega)).up (by omega) (by omega)).up (by omega) (by omega)⟩
    · intro i hi
      simp only [up2_cell _ _ _ (show (160 : Nat) ≠ 156 by omega), e160]
      by_cases e : i = k
      · subst e
        refine ⟨?_, ?_, ?_, ?_⟩
        · rw [up2_slot _ _ _ (by omega), up2_slot _ _ _ (by omega), up2_slot _ _ _ (by omega), up2_at]
        · rw [up2_slot _ _ _ (by omega), up2_slot _ _ _ (by omega), up2_at]
        · rw [up2_slot _ _ _ (by omega), up2_at]
        · rw [up2_at]
      · have := h1 i (by omega)
        refine ⟨?_, ?_, ?_, ?_⟩
        · rw [up2_slot _ _ _ (by omega), up2_slot _ _ _ (by omega), up2_slot _ _ _ (by omega), up2_slot _ _ _ (by omega)]; exact this.1
        · rw [up2_slot _ _ _ (by omega), up2_slot _ _ _ (by omega), up2_slot _ _ _ (by omega), up2_slot _ _ _ (by omega)]; exact this.2.1
        · rw [up2_slot _ _ _ (by omega), up2_slot _ _ _ (by omega), up2_slot _ _ _ (by omega), up2_slot _ _ _ (by omega)]; exact this.2.2.1
        · rw [up2_slot _ _ _ (by omega), up2_slot _ _ _ (by omega), up2_slot _ _ _ (by omega), up2_slot _ _ _ (by omega)]; exact this.2.2.2
    · intro x hx
      try simp only
      rw [up2_slot _ _ _ (by omega), up2_slot _ _ _ (by omega), up2_slot _ _ _ (by omega), up2_slot _ _ _ (by omega)]
      exact h2 x hx
  · rintro ⟨i, Q⟩ ⟨hi, h1, h2, hO⟩
    simp only at hi h1 h2 hO
    subst hi
    have e155 : Q 155 = M 155 := hO 155 (by omega)
    unfold w_X11_putsLaw_13
    try simp only
    rw [e155, hLM.1, if_pos (by rw [nI_le_iff (by omega) (by omega)]; omega)]
    exact ⟨_, rfl, h1, h2, hO⟩
  · rintro Q ⟨h1, h2, hO⟩
    refine wq_b1 (P := fun M' => (∀ j, j < 2 * (catM L).length → M' 156 (1036 + j) = M 161 j) ∧ (∀ x, x < 1036 → M' 156 x = Q 156 x) ∧ Out 156 157 M M') (lp_to (fun k s => s.1 = nI k ∧ (∀ j, j < k → s.2 156 (1036 + j) = M 161 j) ∧ (∀ x, x < 1036 → s.2 156 x = Q 156 x) ∧ Out 156 157 M s.2) (2 * (catM L).length) ?_ ?_ _ ⟨rfl, fun i hi => absurd hi (Nat.not_lt_zero _), fun x _ => rfl, hO⟩ (by omega)) ?_
    · rintro k ⟨i, Q2⟩ hk ⟨hi, g1, g2, gO⟩
      simp only at hi g1 g2 gO
      subst hi
      have e155 : Q2 155 = M 155 := gO 155 (by omega)
      have e161 : Q2 161 = M 161 := gO 161 (by omega)
      have a1 : (1036 : Int32) + nI k = nI (1036 + k) := nI_add 1036 k
      have e2 : 2 * nI (catM L).length = nI (2 * (catM L).length) := nI_mul 2 _
      unfold w_X11_putsLaw_107
      try simp only
      rw [e155, hS.1, e2, if_neg (by rw [nI_le_iff (by omega) (by omega)]; omega), a1, rd_nI la_161 (by omega) (by omega), b1_some, wr_nI la_156 (by omega) (by omega), b1_some, nI_inc, e161]
      refine ⟨_, rfl, rfl, ?_, ?_, gO.up (by omega) (by omega)⟩
      · intro j hj
        try simp only
        by_cases e : j = k
        · rw [e, up2_at]
        · rw [up2_slot _ _ _ (by omega)]; exact g1 j (by omega)
      · intro x hx
        try simp only
        rw [up2_slot _ _ _ (by omega)]; exact g2 x hx
    · rintro ⟨i, Q2⟩ ⟨hi, g1, g2, gO⟩
      simp only at hi g1 g2 gO
      subst hi
      have e155 : Q2 155 = M 155 := gO 155 (by omega)
      have e2 : 2 * nI (catM L).length = nI (2 * (catM L).length) := nI_mul 2 _
      unfold w_X11_putsLaw_107
      try simp only
      rw [e155, hS.1, e2, if_pos (by rw [nI_le_iff (by omega) (by omega)]; omega)]
      exact ⟨_, rfl, g1, g2, gO⟩
    · rintro Q2 ⟨g1, g2, gO⟩
      have e155 : Q2 155 = M 155 := gO 155 (by omega)
      have low : ∀ x, x < 970 → x ≠ 83 → Q2 156 x = M 156 x := fun x hx hne => by rw [g2 x (by omega), h2 x hx, up2_slot _ _ _ hne]
      refine wq_some ⟨by simp only; rw [e155]; exact hLM.1, ⟨?_, ?_, ?_⟩, gO⟩
      · intro k hk
        have := num_law hk
        show Q2 156 (nsl k) = A.1 k
        rw [low _ this.2 this.1]
        exact h.1 k hk
      · intro k hk
        refine (h.2.1 k hk).congr (fun j hj => ?_)
        refine low j ?_ ?_
        · rcases Nat.lt_or_ge j 970 with z | z
          · exact z
          · exact absurd hj (reg_law hk (.inr z))
        · intro z; exact reg_law hk (.inl z) hj
      · refine ⟨sM L, ?_, ?_⟩
        · try simp only
          rw [g2 83 (by omega), h2 83 (by omega), up2_at]
        · intro i l hl'
          have hi : i < L.length := (List.getElem?_eq_some_iff.mp hl').1
          obtain ⟨c1, c2, c3, c4⟩ := hLM.2 i l hl'
          obtain ⟨d1, d2, d3, d4⟩ := h1 i hi
          have e := catM_get L i l hl'
          have el := congrArg List.length e
          rw [List.length_append, List.length_append, List.length_append] at el
          have es : sM L i = (catM (L.take i)).length := rfl
          refine ⟨⟨?_, ?_, ?_, ?_, by omega⟩, ?_⟩
          · simp only; rw [g2 _ (by omega), d1]; exact c1
          · simp only; rw [g2 _ (by omega), d2]; exact c2
          · simp only; rw [g2 _ (by omega), d3]; exact c3
          · simp only; rw [g2 _ (by omega), d4]; exact c4
          · intro j p hp
            have hin : (catM L)[sM L i + j]? = some p := by
              rw [e]
              exact get_app_r (get_app_l hp)
            have hlt := (List.getElem?_eq_some_iff.mp hin).1
            have := hS.2 _ p hin
            try simp only
            rw [g1 _ (by omega), Nat.add_assoc, g1 _ (by omega)]
            exact this
