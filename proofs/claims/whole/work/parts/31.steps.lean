/-! ===== PURE PART: feast, forge, cut, join, sell, undo ===== -/
theorem InvC.keep {A : AS} {I : Option AS} {P : Ps} {r : Sk × (Int32 × Int32)} {M : Mem} (h : InvC (A, I, P, r) M) (hA : OKA A) : Wq (f_X7_keep 1 M) (fun M' => InvC (A, I, pKeep P (snap A), r) M' ∧ Hi M M') := by
  obtain ⟨S, hS, hlt⟩ := hA.1.2.2.2
  refine wq_mono (keep_ok h.1 h.2.2.2.2.1 hS hlt) ?_
  rintro M' ⟨h1, h2⟩
  exact ⟨h.pst h2 h1, h2.hi (by omega)⟩
theorem InvM.keep {A : AS} {I : Option AS} {P : Ps} {tp : Sk} {ft : Int32 × Int32} {M : Mem} (h : InvM (A, I, P, tp, ft) M) : Wq (f_X11_keeps M) (fun M' => InvM (A, I, pKeep P (snap A), tp, ft) M' ∧ M' 155 26 = 1 ∧ Lo M M') := by
  refine wq_mono (keeps_ok h.1 h.2.2.1) ?_
  rintro M' ⟨h1, h2, h3, h4⟩
  refine ⟨h.upd155 (h4 156 (by omega) (by omega)) (h4 157 (by omega) (by omega)) (h3 5 (by omega) (by omega)) h1 ?_ ?_, h2, fun a ha => h4 a (by omega) (by omega)⟩
  · rw [h3 16 (by omega) (by omega), h4 163 (by omega) (by omega)]; exact h.2.2.2.1
  · rw [h3 23 (by omega) (by omega), h3 25 (by omega) (by omega)]; exact h.2.2.2.2
theorem OKP.keep {A A' : AS} {P : Ps} (hP : OKP A P) (hA : OKA A) (hk : (A'.2.1 0).1 = (A.2.1 0).1) (hw : (A'.2.1 2).1 = (A.2.1 2).1) (hb : (A.2.1 5).1 ≤ (A'.2.1 5).1) (h6 : P.1 ≤ 6) : OKP A' (pKeep P (snap A)) := by
  have up : ∀ S, OKS A S → OKS A' S := by
    rintro S ⟨h1, h2, h3, h4⟩
    exact ⟨h1, by rw [hw]; exact h2, by rw [hk]; exact h3, Nat.le_trans h4 hb⟩
  have hs : OKS A (snap A) := ⟨hA.1.1, hA.1.2.2.2, hA.2.1.2.1, Nat.le_refl _⟩
  unfold pKeep
  by_cases q : P.1 = 6
  · rw [if_pos q]
    refine ⟨?_, ?_⟩
    · intro j hj
      have hj : j < 6 := hj
      show OKS A' (if j = 5 then snap A else P.2 (j + 1))
      by_cases z : j = 5
      · rw [if_pos z]; exact up _ hs
      · rw [if_neg z]; exact up _ (hP.1 _ (by omega))
    · intro j hj
      have hj : j + 1 < 6 := hj
      show (if j = 5 then snap A else P.2 (j + 1)).2.2 ≤ (if j + 1 = 5 then snap A else P.2 (j + 1 + 1)).2.2
      rw [if_neg (by omega)]
      by_cases z : j + 1 = 5
      · rw [if_pos z]; exact (hP.1 (j + 1) (by omega)).2.2.2
      · rw [if_neg z]; exact hP.2 _ (by omega)
  · rw [if_neg q]
    refine ⟨?_, ?_⟩
    · intro j hj
      have hj : j < P.1 + 1 := hj
      show OKS A' (if j = P.1 then snap A else P.2 j)
      by_cases z : j = P.1
      · rw [if_pos z]; exact up _ hs
      · rw [if_neg z]; exact up _ (hP.1 _ (by omega))
    · intro j hj
      have hj : j + 1 < P.1 + 1 := hj
      show (if j = P.1 then snap A else P.2 j).2.2 ≤ (if j + 1 = P.1 then snap A else P.2 (j + 1)).2.2
      rw [if_neg (by omega)]
      by_cases z : j + 1 = P.1
      · rw [if_pos z]; exact (hP.1 j (by omega)).2.2.2
      · rw [if_neg z]; exact hP.2 _ (by omega)
theorem OKA.note {t : Bool} {A : AS} (a b c : Int32) (h : OKA A) : OKA (sNote t A a b c) := by
  unfold OKA OKN OKT OKI at h ⊢
  rw [sNote_num, sNote_law, sNote_tab t A a b c (k := 0) (by omega), sNote_tab t A a b c (k := 1) (by omega), sNote_tab t A a b c (k := 2) (by omega), sNote_tab t A a b c (k := 3) (by omega), sNote_tab t A a b c (k := 4) (by omega), sNote_tab t A a b c (k := 6) (by omega), sNote_tab t A a b c (k := 7) (by omega), sNote_tab t A a b c (k := 8) (by omega), sNote_tab t A a b c (k := 9) (by omega)]
  exact h
theorem OKA.rem {A : AS} {T : Tb} (h : OKA A) (hT : okRem (A.2.1 0).1 T) : OKA (setT A 4 T) := ⟨h.1, ⟨h.2.1.1, hT, h.2.1.2.2⟩, h.2.2.1, h.2.2.2⟩
theorem sNote_book (t : Bool) (A : AS) (a b c : Int32) : (A.2.1 5).1 ≤ ((sNote t A a b c).2.1 5).1 := by
  unfold sNote
  by_cases h : t = true ∧ (A.2.1 5).1 < 150
  · rw [if_pos h]; show (A.2.1 5).1 ≤ (A.2.1 5).1 + 1; omega
  · rw [if_neg h]; exact Nat.le_refl _
theorem okRem.add {nk : Nat} {T : Tb} (h : okRem nk T) {k s : Nat} {a b c d e : Int32} (hk : k < nk) (h1 : 1 ≤ s) (h2 : s ≤ 99) (ha : a = nI k) (hb : b = nI s) (he : e = 0 ∨ e = 1) : okRem nk (tAdd T (row5 a b c d e)) := by
  intro r hr
  have hr : r < T.1 + 1 := hr
  by_cases q : r = T.1
  · refine ⟨k, s, hk, h1, h2, ?_, ?_, ?_⟩
    · show (if r = T.1 then row5 a b c d e 0 else _) = _; rw [if_pos q]; exact ha
    · show (if r = T.1 then row5 a b c d e 1 else _) = _; rw [if_pos q]; exact hb
    · show (if r = T.1 then row5 a b c d e 4 else _) = _ ∨ (if r = T.1 then row5 a b c d e 4 else _) = _; rw [if_pos q]; exact he
  · obtain ⟨k', s', g1, g2, g3, g4, g5, g6⟩ := h r (by omega)
    refine ⟨k', s', g1, g2, g3, ?_, ?_, ?_⟩
    · show (if r = T.1 then _ else T.2 r 0) = _; rw [if_neg q]; exact g4
    · show (if r = T.1 then _ else T.2 r 1) = _; rw [if_neg q]; exact g5
    · show (if r = T.1 then _ else T.2 r 4) = _ ∨ (if r = T.1 then _ else T.2 r 4) = _; rw [if_neg q]; exact g6
theorem okRem.drop {nk : Nat} {T : Tb} (h : okRem nk T) (i : Nat) : okRem nk (tDrop T i) := by
  intro r hr
  have hr : r < T.1 - 1 := hr
  show ∃ k s, k < nk ∧ 1 ≤ s ∧ s ≤ 99 ∧ (if r < i then T.2 r 0 else T.2 (r + 1) 0) = nI k ∧ (if r < i then T.2 r 1 else T.2 (r + 1) 1) = nI s ∧ ((if r < i then T.2 r 4 else T.2 (r + 1) 4) = 0 ∨ (if r < i then T.2 r 4 else T.2 (r + 1) 4) = 1)
  by_cases q : r < i
  · simp only [if_pos q]; exact h r (by omega)
  · simp only [if_neg q]; exact h (r + 1) (by omega)
theorem okRem.put {nk : Nat} {T : Tb} (h : okRem nk T) {i c : Nat} {v : Int32} (hc : c = 2 ∨ c = 3 ∨ (c = 1 ∧ ∃ s, 1 ≤ s ∧ s ≤ 99 ∧ v = nI s) ∨ (c = 4 ∧ (v = 0 ∨ v = 1))) : okRem nk (tPut T i c v) := by
  intro r hr
  obtain ⟨k', s', g1, g2, g3, g4, g5, g6⟩ := h r hr
  have e0 : (tPut T i c v).2 r 0 = T.2 r 0 := tPut_col _ _ _ _ _ _ (by omega)
  by_cases q : r = i
  · subst q
    rcases hc with rfl | rfl | ⟨rfl, s, s1, s2, s3⟩ | ⟨rfl, hv⟩
    · exact ⟨k', s', g1, g2, g3, e0.trans g4, (tPut_col _ _ _ _ _ _ (by omega)).trans g5, by rw [tPut_col _ _ _ _ _ _ (by omega)]; exact g6⟩
    · exact ⟨k', s', g1, g2, g3, e0.trans g4, (tPut_col _ _ _ _ _ _ (by omega)).trans g5, by rw [tPut_col _ _ _ _ _ _ (by omega)]; exact g6⟩
    · refine ⟨k', s, g1, s1, s2, e0.trans g4, ?_, by rw [tPut_col _ _ _ _ _ _ (by omega)]; exact g6⟩
      show (if r = r ∧ 1 = 1 then v else _) = _
      rw [if_pos ⟨rfl, rfl⟩]; exact s3
    · refine ⟨k', s', g1, g2, g3, e0.trans g4, (tPut_col _ _ _ _ _ _ (by omega)).trans g5, ?_⟩
      show (if r = r ∧ 4 = 4 then v else _) = _ ∨ (if r = r ∧ 4 = 4 then v else _) = _
      rw [if_pos ⟨rfl, rfl⟩]; exact hv
  · have e : ∀ j, (tPut T i c v).2 r j = T.2 r j := fun j => by show (if r = i ∧ j = c then v else T.2 r j) = _; rw [if_neg (fun z => q z.1)]
    exact ⟨k', s', g1, g2, g3, (e 0).trans g4, (e 1).trans g5, by rw [e 4]; exact g6⟩
/-- what the law leaves stays below a whole one -/
theorem clamp_le {v hi : Int32} {n : Nat} (h : hi.toInt ≤ n) (hn : n < 2147483648) (hz : ¬ clampI v hi ≤ 0) : ∃ s, 1 ≤ s ∧ s ≤ n ∧ clampI v hi = nI s := by
  rw [Int32.not_le, Int32.lt_iff_toInt_lt, toInt_0] at hz
  have hle : (clampI v hi).toInt ≤ n := by
    unfold clampI f_J9_max_7cf53 f_J9_min_7cf53
    by_cases q : v < hi
    · rw [if_pos q]
      rw [Int32.lt_iff_toInt_lt] at q
      by_cases z : (0 : Int32) < v
      · rw [if_pos z]; omega
      · rw [if_neg z, toInt_0]; omega
    · rw [if_neg q]
      by_cases z : (0 : Int32) < hi
      · rw [if_pos z]; omega
      · rw [if_neg z, toInt_0]; omega
  exact ⟨(clampI v hi).toInt.toNat, by omega, by omega, nI_ofI (by omega)⟩
theorem sFeast_ok {t : Bool} {A : AS} {k : Nat} (g : Int32) (hA : OKA A) (hk : k < (A.2.1 0).1) : OKA (sFeast t A k g).1 ∧ ((sFeast t A k g).1.2.1 0).1 = (A.2.1 0).1 ∧ ((sFeast t A k g).1.2.1 2).1 = (A.2.1 2).1 ∧ (A.2.1 5).1 ≤ ((sFeast t A k g).1.2.1 5).1 ∧ (∀ j, 6 ≤ j → (sFeast t A k g).1.2.1 j = A.2.1 j) ∧ (sFeast t A k g).1.2.2 = A.2.2 := by
  have hA1 : OKA (setN A 3 (A.1 3 + 1)) := hA
  unfold sFeast
  by_cases hf : (A.2.1 4).1 < 14
  · rw [if_pos hf]
    by_cases hz : leftS A k g ≤ 0
    · rw [if_pos hz]
      exact ⟨hA1.note _ _ _, by rw [sNote_tab _ _ _ _ _ (by omega)]; rfl, by rw [sNote_tab _ _ _ _ _ (by omega)]; rfl, sNote_book t (setN A 3 (A.1 3 + 1)) _ _ _, fun j hj => by rw [sNote_tab _ _ _ _ _ (by omega)]; rfl, sNote_law _ _ _ _ _⟩
    · rw [if_neg hz]
      obtain ⟨w, b, w1, w2, b1, b2, w3, b3⟩ := hA.2.1.1 k hk
      have hx : ((A.2.1 0).2 k 0 - 1).toInt ≤ ((98 : Nat) : Int) := by rw [w3, pred_toInt (by omega)]; omega
      obtain ⟨s, s1, s2, s3⟩ := clamp_le hx (by omega) hz
      have hr : okRem (A.2.1 0).1 (tAdd (A.2.1 4) (row5 (nI k) (leftS A k g) (A.1 0) (edgeS A k g) 0)) := hA.2.1.2.1.add hk s1 (by omega) rfl s3 (.inl rfl)
      have hA2 : OKA (setT (setN A 3 (A.1 3 + 1)) 4 (tAdd (A.2.1 4) (row5 (nI k) (leftS A k g) (A.1 0) (edgeS A k g) 0))) := hA1.rem hr
      refine ⟨hA2.note _ _ _, by rw [sNote_tab _ _ _ _ _ (by omega)]; rfl, by rw [sNote_tab _ _ _ _ _ (by omega)]; rfl, sNote_book t (setT (setN A 3 (A.1 3 + 1)) 4 _) _ _ _, fun j hj => ?_, sNote_law _ _ _ _ _⟩
      rw [sNote_tab _ _ _ _ _ (by omega)]
      show (if j = 4 then _ else A.2.1 j) = _
      rw [if_neg (by omega)]
  · rw [if_neg hf]
    exact ⟨hA1.note _ _ _, by rw [sNote_tab _ _ _ _ _ (by omega)]; rfl, by rw [sNote_tab _ _ _ _ _ (by omega)]; rfl, sNote_book t (setN A 3 (A.1 3 + 1)) _ _ _, fun j hj => by rw [sNote_tab _ _ _ _ _ (by omega)]; rfl, sNote_law _ _ _ _ _⟩
theorem p6 {G : GS} {M : Mem} (h : InvM G M) : G.2.2.1.1 ≤ 6 := h.2.2.1.2.1
theorem c_feast (a g : Int32) {M : Mem} (h : Inv M) : ∃ M1 M2 r, f_X10_feast a g M = some (M1, r) ∧ f_X11_feast a g M1 = some (M2, r) ∧ Inv M2 := by
  refine both_ok (fc := fun M => f_X10_feast a g M) (fm := fun M => f_X11_feast a g M) h ?_
  rintro ⟨A, I, P, tp, ft⟩ hC hM hG
  have hle : (A.2.1 0).1 ≤ 150 := m_k hM (k := 0) (by omega)
  have hT := hC.1.t0
  have hn : ∀ M1, InvM (A, I, P, tp, ft) M1 → M1 156 80 = nI (A.2.1 0).1 := fun M1 h1 => ans_m 0 (by omega) h1
  by_cases q : (a < 0 ∨ nI (A.2.1 0).1 ≤ a) ∨ (g < 1 ∨ (20 : Int32) < g)
  · refine ⟨(A, I, P, tp, ft), -1, hG, ?_, fun M1 hM1 => ?_⟩
    · show Wq (f_X10_feast a g M) _
      unfold f_X10_feast f_X6_feastCanBe
      rw [if_pos (by rw [if_pos]; rw [has0 hT, within0]; exact q)]
      exact wq_some ⟨rfl, hC, Hi.refl _⟩
    · show Wq (f_X11_feast a g M1) _
      unfold f_X11_feast f_X11_isKind
      rw [hn M1 hM1, if_pos (by rw [isInm_pred (by omega), isInm0]; exact q)]
      exact wq_some ⟨rfl, hM1, Lo.refl _⟩
  · rw [not_or] at q
    rcases idx_cases a (n := (A.2.1 0).1) (by omega) with z | ⟨k, hk, rfl⟩
    · exact absurd z q.1
    · obtain ⟨o1, o2, o3, o4, o5, _⟩ := sFeast_ok (t := true) g hG.1 hk
      refine ⟨((sFeast true A k g).1, I, pKeep P (snap A), tp, ft), (sFeast true A k g).2, ⟨o1, hG.2.1, OKP.keep hG.2.2.1 hG.1 o2 o3 o4 (p6 hM), hG.2.2.2⟩, ?_, fun M1 hM1 => ?_⟩
      · show Wq (f_X10_feast (nI k) g M) _
        unfold f_X10_feast
        have c0 : ¬ f_X6_feastCanBe 1 (nI k) g M = 0 := by
          unfold f_X6_feastCanBe
          rw [if_neg (by rw [has0 hT, within0]; exact fun z => z.elim q.1 q.2)]
          decide
        rw [if_neg c0]
        refine wq_b1 (hC.keep hG.1) ?_
        rintro M2 ⟨hC2, hH2⟩
        refine wq_b2 (holdFeast_ok mkAt_1 hC2.1 hG.1.2.2.2 hk g) ?_
        rintro M3 x ⟨hx, hR, hO⟩
        exact wq_some ⟨hx, hC2.mkt hO hR o5, hH2.trans (hO.hi (by omega))⟩
      · show Wq (f_X11_feast (nI k) g M1) _
        unfold f_X11_feast f_X11_isKind
        rw [hn M1 hM1, if_neg (by rw [isInm_pred (by omega), isInm0]; exact fun z => z.elim q.1 q.2)]
        refine wq_b1 hM1.keep ?_
        rintro M2 ⟨hM2, ht, hL2⟩
        refine wq_b2 (feasts_ok (t := true) hM2.1 ht hG.1.2.2.2 hk g) ?_
        rintro M3 x ⟨hx, hR, hO⟩
        exact wq_some ⟨hx, hM2.row hO hR, hL2.trans hO.lo⟩
