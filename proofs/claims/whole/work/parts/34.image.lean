/-! ===== PURE PART: image ===== -/
theorem cpy_all {M : Mem} {a b n : Nat} {x : Int32} (hx : x = nI n) (ha : la a = some n) (hb : la b = some n) (hn : n < 2147483648) : cpy M a 0 b 0 x = some (upA M b (fun k => if k < n then M a k else M b k)) := by
  subst hx
  unfold cpy
  rw [ha, hb]
  simp only
  rw [if_pos (by rw [nI_toInt (by omega), toInt_0]; omega), nI_clamp (by omega), show (0 : Int32).toNatClampNeg = 0 from rfl]
  congr 2
  funext k
  unfold va_cpy
  by_cases q : k < n
  · rw [if_pos q, if_pos ⟨Nat.zero_le _, by omega⟩, Nat.zero_add, Nat.sub_zero]
  · rw [if_neg q, if_neg (by omega)]
theorem upA_cell (M : Mem) {a b : Nat} (f : Nat → Int32) (h : b ≠ a) : upA M a f b = M b := by unfold upA; rw [if_neg h]
theorem upA_at (M : Mem) (a : Nat) (f : Nat → Int32) : upA M a f a = f := by unfold upA; rw [if_pos rfl]
theorem Out.upA {lo hi : Nat} {M M1 : Mem} {a : Nat} {f : Nat → Int32} (h : Out lo hi M M1) (h1 : lo ≤ a) (h2 : a < hi) : Out lo hi M (upA M1 a f) := fun b hb => by
  rw [upA_cell _ _ (by omega)]; exact h b hb
theorem lawCopy_ok {o o' : Nat} {L : LwT} {M : Mem} (hA : LwAt o) (hA' : LwAt o') (hL : L.length ≤ 16) (h : RLw o' L M) (hne : o' + 8 ≤ o ∨ o + 8 ≤ o') : Wq (f_X2_copyFrom o o' M) (fun M' => RLw o L M' ∧ Out o (o + 7) M M') := by
  unfold f_X2_copyFrom
  rw [cpy_all (n := 16) (x := 16) rfl hA'.1 hA.1 (by omega), b1_some, cpy_all (n := 16) (x := 16) rfl hA'.2.1 hA.2.1 (by omega), b1_some, cpy_all (n := 16) (x := 16) rfl hA'.2.2.1 hA.2.2.1 (by omega), b1_some, cpy_all (n := 16) (x := 16) rfl hA'.2.2.2.1 hA.2.2.2.1 (by omega), b1_some, cpy_all (n := 400) (x := 400) rfl hA'.2.2.2.2.1 hA.2.2.2.2.1 (by omega), b1_some, cpy_all (n := 400) (x := 400) rfl hA'.2.2.2.2.2.1 hA.2.2.2.2.2.1 (by omega), b1_some, lt_eq, lt_eq]
  obtain ⟨st, h1, h2⟩ := h
  refine wq_some ⟨⟨st, ?_, ?_⟩, ?_⟩
  · rw [up2_slot _ _ _ (by omega), up2_at]
    simp only [upA_cell _ _ (show o' ≠ o + 1 by omega), upA_cell _ _ (show o' ≠ o + 2 by omega), upA_cell _ _ (show o' ≠ o + 3 by omega), upA_cell _ _ (show o' ≠ o + 4 by omega), upA_cell _ _ (show o' ≠ o + 5 by omega), upA_cell _ _ (show o' ≠ o + 6 by omega)]
    exact h1
  · intro i l hl
    have hlt : i < L.length := (List.getElem?_eq_some_iff.mp hl).1
    obtain ⟨⟨r1, r2, r3, r4, r5⟩, r6⟩ := h2 i l hl
    simp only [up2_cell _ _ _ (show o + 1 ≠ o by omega), up2_cell _ _ _ (show o + 2 ≠ o by omega), up2_cell _ _ _ (show o + 3 ≠ o by omega), up2_cell _ _ _ (show o + 4 ≠ o by omega), up2_cell _ _ _ (show o + 5 ≠ o by omega), up2_cell _ _ _ (show o + 6 ≠ o by omega)]
    have c : ∀ (x y : Nat) (N : Mem) (f : Nat → Int32), x ≠ y → upA N (o + y) f (o + x) = N (o + x) := fun x y N f hxy => upA_cell _ _ (by omega)
    have c' : ∀ (x y : Nat) (N : Mem) (f : Nat → Int32), x < 8 → y < 8 → upA N (o + y) f (o' + x) = N (o' + x) := fun x y N f hx hy => upA_cell _ _ (by omega)
    simp only [c 1 2 _ _ (by omega), c 1 3 _ _ (by omega), c 1 4 _ _ (by omega), c 1 5 _ _ (by omega), c 1 6 _ _ (by omega), c 2 3 _ _ (by omega), c 2 4 _ _ (by omega), c 2 5 _ _ (by omega), c 2 6 _ _ (by omega), c 3 4 _ _ (by omega), c 3 5 _ _ (by omega), c 3 6 _ _ (by omega), c 4 5 _ _ (by omega), c 4 6 _ _ (by omega), c 5 6 _ _ (by omega), upA_at, c' 2 1 _ _ (by omega) (by omega), c' 3 1 _ _ (by omega) (by omega), c' 3 2 _ _ (by omega) (by omega), c' 4 1 _ _ (by omega) (by omega), c' 4 2 _ _ (by omega) (by omega), c' 4 3 _ _ (by omega) (by omega), c' 5 1 _ _ (by omega) (by omega), c' 5 2 _ _ (by omega) (by omega), c' 5 3 _ _ (by omega) (by omega), c' 5 4 _ _ (by omega) (by omega), c' 6 1 _ _ (by omega) (by omega), c' 6 2 _ _ (by omega) (by omega), c' 6 3 _ _ (by omega) (by omega), c' 6 4 _ _ (by omega) (by omega), c' 6 5 _ _ (by omega) (by omega)]
    rw [if_pos (show i < 16 by omega), if_pos (show i < 16 by omega), if_pos (show i < 16 by omega), if_pos (show i < 16 by omega)]
    refine ⟨⟨r1, r2, r3, r4, r5⟩, ?_⟩
    intro j p hp
    have hj : j < (xC l.2.1 ++ xC l.2.2).length := (List.getElem?_eq_some_iff.mp hp).1
    rw [List.length_append] at hj
    rw [if_pos (by omega), if_pos (by omega)]
    exact r6 j p hp
  · refine Out.up (Out.up (Out.upA (Out.upA (Out.upA (Out.upA (Out.upA (Out.upA (Out.refl _ _ _) ?_ ?_) ?_ ?_) ?_ ?_) ?_ ?_) ?_ ?_) ?_ ?_) ?_ ?_) ?_ ?_ <;> omega
theorem mkCopy_ok {o o' : Nat} {A : AS} {M : Mem} (hA : MkAt o) (hA' : MkAt o') (hL : A.2.2.length ≤ 16) (hM : Ms o M) (h : RMk true o' A M) (hne : o' + 26 ≤ o ∨ o + 26 ≤ o') : Wq (f_X6_copyFrom o o' M) (fun M' => RMk true o A M' ∧ Out o (o + 26) M M') := by
  obtain ⟨⟨a0, g0⟩, ⟨a1, g1⟩, ⟨a2, g2⟩, ⟨a3, g3⟩, ⟨a4, g4⟩, ⟨a5, g5⟩⟩ := hM
  unfold f_X6_copyFrom
  refine wq_b1 (copyFrom_ok g0 h.t0 (by omega)) ?_
  rintro M1 ⟨r1, o1⟩
  have h1 := h.out o1 (by omega)
  refine wq_b1 (copyFrom_ok (g1.out o1 (by omega)) h1.t1 (by omega)) ?_
  rintro M2 ⟨r2, o2⟩
  have h2 := h1.out o2 (by omega)
  refine wq_b1 (copyFrom_ok ((g2.out o1 (by omega)).out o2 (by omega)) h2.t2 (by omega)) ?_
  rintro M3 ⟨r3, o3⟩
  have h3 := h2.out o3 (by omega)
  refine wq_b1 (copyFrom_ok (((g3.out o1 (by omega)).out o2 (by omega)).out o3 (by omega)) h3.t3 (by omega)) ?_
  rintro M4 ⟨r4, o4⟩
  have h4 := h3.out o4 (by omega)
  refine wq_b1 (copyFrom_ok ((((g4.out o1 (by omega)).out o2 (by omega)).out o3 (by omega)).out o4 (by omega)) h4.t4 (by omega)) ?_
  rintro M5 ⟨r5, o5⟩
  have h5 := h4.out o5 (by omega)
  obtain ⟨B, hB, hBe⟩ := h5.t5
  have hBe := hBe rfl
  subst hBe
  refine wq_b1 (copyFrom_ok (((((g5.out o1 (by omega)).out o2 (by omega)).out o3 (by omega)).out o4 (by omega)).out o5 (by omega)) hB (by omega)) ?_
  rintro M6 ⟨r6, o6⟩
  have h6 := h5.out o6 (by omega)
  refine wq_b1 (lawCopy_ok hA.1 hA'.1 hL h6.lw (by omega)) ?_
  rintro M7 ⟨r7, o7⟩
  have h7 := h6.out o7 (by omega)
  have ne : o' ≠ o := by omega
  obtain ⟨n1, n2, n3, n4, n5, n6, n7⟩ := h7.1
  simp only [lt_eq, up2_cell _ _ _ ne, n1, n2, n3, n4, n5, n6, n7]
  have hU : Out o (o + 1) M7 (up2 (up2 (up2 (up2 (up2 (up2 (up2 M7 o 9 (A.1 4)) o 10 (A.1 0)) o 11 (A.1 1)) o 12 (A.1 2)) o 13 (A.1 6)) o 14 (A.1 7)) o 15 (A.1 3)) := by
    refine Out.up (Out.up (Out.up (Out.up (Out.up (Out.up (Out.up (Out.refl _ _ _) ?_ ?_) ?_ ?_) ?_ ?_) ?_ ?_) ?_ ?_) ?_ ?_) ?_ ?_ <;> omega
  refine wq_some ⟨⟨?_, ⟨?_, ?_, ?_, ?_, ?_, _, ?_, fun _ => rfl⟩, ?_⟩, ?_⟩
  · simp [up2_eq]
  · exact ((((((r1.out o2 (by omega)).out o3 (by omega)).out o4 (by omega)).out o5 (by omega)).out o6 (by omega)).out o7 (by omega)).out hU (by omega)
  · exact (((((r2.out o3 (by omega)).out o4 (by omega)).out o5 (by omega)).out o6 (by omega)).out o7 (by omega)).out hU (by omega)
  · exact ((((r3.out o4 (by omega)).out o5 (by omega)).out o6 (by omega)).out o7 (by omega)).out hU (by omega)
  · exact (((r4.out o5 (by omega)).out o6 (by omega)).out o7 (by omega)).out hU (by omega)
  · exact ((r5.out o6 (by omega)).out o7 (by omega)).out hU (by omega)
  · exact (r6.out o7 (by omega)).out hU (by omega)
  · exact r7.out hU (by omega)
  · exact (((((((o1.wide (by omega) (by omega)).trans (o2.wide (by omega) (by omega))).trans (o3.wide (by omega) (by omega))).trans (o4.wide (by omega) (by omega))).trans (o5.wide (by omega) (by omega))).trans (o6.wide (by omega) (by omega))).trans (o7.wide (by omega) (by omega))).trans (hU.wide (by omega) (by omega))
theorem lsCopy_ok {o o' : Nat} {A : AS} {M : Mem} (hM : Lst o M) (h : RLs o' A M) (hne : o' + 9 ≤ o ∨ o + 9 ≤ o') : Wq (f_X5_copyFrom o o' M) (fun M' => RLs o A M' ∧ Out o (o + 9) M M') := by
  obtain ⟨⟨a0, g0⟩, ⟨a1, g1⟩, ⟨a2, g2⟩, ⟨a3, g3⟩⟩ := hM
  unfold f_X5_copyFrom
  refine wq_b1 (copyFrom_ok g0 h.1 (by omega)) ?_
  rintro M1 ⟨r1, o1⟩
  have h1 := h.out o1 (by omega)
  refine wq_b1 (copyFrom_ok (g1.out o1 (by omega)) h1.2.1 (by omega)) ?_
  rintro M2 ⟨r2, o2⟩
  have h2 := h1.out o2 (by omega)
  refine wq_b1 (copyFrom_ok ((g2.out o1 (by omega)).out o2 (by omega)) h2.2.2.1 (by omega)) ?_
  rintro M3 ⟨r3, o3⟩
  have h3 := h2.out o3 (by omega)
  refine wq_b1 (copyFrom_ok (((g3.out o1 (by omega)).out o2 (by omega)).out o3 (by omega)) h3.2.2.2 (by omega)) ?_
  rintro M4 ⟨r4, o4⟩
  exact wq_some ⟨⟨((r1.out o2 (by omega)).out o3 (by omega)).out o4 (by omega), (r2.out o3 (by omega)).out o4 (by omega), r3.out o4 (by omega), r4⟩, (((o1.wide (by omega) (by omega)).trans (o2.wide (by omega) (by omega))).trans (o3.wide (by omega) (by omega))).trans (o4.wide (by omega) (by omega))⟩
theorem RMm.mv {c c' : Nat} {A : AS} {M M' : Mem} (h : RMm c A M) (hL : A.2.2.length ≤ 16) (hx : ∀ x, x < 1856 → M' c' x = M c x) : RMm c' A M' := by
  refine ⟨?_, ?_, ?_⟩
  · intro k hk
    rw [hx _ (by have := num_law hk; omega)]
    exact h.1 k hk
  · intro k hk
    have hT := h.2.1 k hk
    have hb : tbs k + tmx k * twd k ≤ 970 ∧ tcn k < 970 := by rcases lt10 hk with rfl | rfl | rfl | rfl | rfl | rfl | rfl | rfl | rfl | rfl <;> simp [tbs, tmx, twd, tcn]
    refine ⟨by rw [hx _ (by omega)]; exact hT.1, hT.2.1, ?_⟩
    intro r j hr hj
    have := row_lt (m := tmx k) hr hj hT.2.1
    rw [hx _ (by omega)]
    exact hT.2.2 r j hr hj
  · obtain ⟨st, h1, h2⟩ := h.2.2
    refine ⟨st, by rw [hx _ (by omega)]; exact h1, ?_⟩
    intro i l hl
    have hlt : i < A.2.2.length := (List.getElem?_eq_some_iff.mp hl).1
    obtain ⟨⟨r1, r2, r3, r4, r5⟩, r6⟩ := h2 i l hl
    refine ⟨⟨by rw [hx _ (by omega)]; exact r1, by rw [hx _ (by omega)]; exact r2, by rw [hx _ (by omega)]; exact r3, by rw [hx _ (by omega)]; exact r4, r5⟩, ?_⟩
    intro j p hp
    have hj : j < (l.2.1 ++ l.2.2).length := (List.getElem?_eq_some_iff.mp hp).1
    rw [List.length_append] at hj
    rw [hx _ (by omega), hx _ (by omega)]
    exact r6 j p hp
theorem la_157 : la 157 = some 1856 := by decide +kernel
theorem img_put {a : Int32} (ha : ¬ a = 0) (M : Mem) : Wq (lp (fun s => w_X11_image_15 a s.1 s.2) FU (0, M)) (fun M' => (∀ x, x < 1856 → M' 157 x = M 156 x) ∧ Out 157 158 M M') := by
  refine lp_to (fun k s => s.1 = nI k ∧ (∀ x, x < k → s.2 157 x = M 156 x) ∧ Out 157 158 M s.2) 1856 ?_ ?_ _ ⟨rfl, fun x hx => absurd hx (Nat.not_lt_zero _), Out.refl _ _ _⟩ (by omega)
  · rintro k ⟨i, N⟩ hk ⟨hi, hx, hO⟩
    simp only at hi hx hO
    subst hi
    unfold w_X11_image_15
    simp only
    rw [if_neg (by
      intro q
      have q : nI 1856 ≤ nI k := q
      rw [nI_le_iff (by omega) (by omega)] at q; omega), if_neg ha, rd_nI la_156 (by omega) (by omega), b1_some, wr_nI la_157 (by omega) (by omega), b1_some, nI_inc, hO 156 (by omega)]
    refine ⟨_, rfl, rfl, ?_, hO.up (by omega) (by omega)⟩
    intro x hx'
    simp only [up2_eq, true_and]
    by_cases q : x = k
    · rw [if_pos q, q]
    · rw [if_neg q]; exact hx x (by omega)
  · rintro ⟨i, N⟩ ⟨hi, hx, hO⟩
    simp only at hi hx hO
    subst hi
    unfold w_X11_image_15
    simp only
    rw [if_pos (by decide)]
    exact ⟨_, rfl, hx, hO⟩
theorem img_get (M : Mem) : Wq (lp (fun s => w_X11_image_15 0 s.1 s.2) FU (0, M)) (fun M' => (∀ x, x < 1856 → M' 156 x = M 157 x) ∧ Out 156 157 M M') := by
  refine lp_to (fun k s => s.1 = nI k ∧ (∀ x, x < k → s.2 156 x = M 157 x) ∧ Out 156 157 M s.2) 1856 ?_ ?_ _ ⟨rfl, fun x hx => absurd hx (Nat.not_lt_zero _), Out.refl _ _ _⟩ (by omega)
  · rintro k ⟨i, N⟩ hk ⟨hi, hx, hO⟩
    simp only at hi hx hO
    subst hi
    unfold w_X11_image_15
    simp only
    rw [if_neg (by
      intro q
      have q : nI 1856 ≤ nI k := q
      rw [nI_le_iff (by omega) (by omega)] at q; omega), if_pos trivial, rd_nI la_157 (by omega) (by omega), b1_some, wr_nI la_156 (by omega) (by omega), b1_some, nI_inc, hO 157 (by omega)]
    refine ⟨_, rfl, rfl, ?_, hO.up (by omega) (by omega)⟩
    intro x hx'
    simp only [up2_eq, true_and]
    by_cases q : x = k
    · rw [if_pos q, q]
    · rw [if_neg q]; exact hx x (by omega)
  · rintro ⟨i, N⟩ ⟨hi, hx, hO⟩
    simp only at hi hx hO
    subst hi
    unfold w_X11_image_15
    simp only
    rw [if_pos (by decide)]
    exact ⟨_, rfl, hx, hO⟩
theorem c_image (a : Int32) {M : Mem} (h : Inv M) : ∃ M1 M2 r, f_X10_image a M = some (M1, r) ∧ f_X11_image a M1 = some (M2, r) ∧ Inv M2 := by
  refine both_ok (fc := fun M => f_X10_image a M) (fm := fun M => f_X11_image a M) h ?_
  rintro ⟨A, I, P, tp, ft⟩ hC hM hG
  by_cases q : a = 0
  · subst q
    cases I with
    | none =>
      refine ⟨(A, none, P, tp, ft), 0, hG, ?_, fun M1 hM1 => ?_⟩
      · show Wq (f_X10_image 0 M) _
        have e : M 0 10 = 0 := hC.2.2.1.1 rfl
        unfold f_X10_image
        rw [if_pos rfl, e, if_pos rfl]
        exact wq_some ⟨rfl, hC, Hi.refl _⟩
      · show Wq (f_X11_image 0 M1) _
        have e : M1 155 5 = 0 := hM1.2.1.1 rfl
        unfold f_X11_image
        rw [e, if_pos ⟨rfl, rfl⟩]
        exact wq_some ⟨rfl, hM1, Lo.refl _⟩
    | some J =>
      have hJ : OKA J := hG.2.1 J rfl
      refine ⟨(J, some J, (0, P.2), tp, ft), 1, ⟨hJ, hG.2.1, OKP.none _ _, hG.2.2.2⟩, ?_, fun M1 hM1 => ?_⟩
      · show Wq (f_X10_image 0 M) _
        obtain ⟨c1, c2, c3, ⟨c4, c5, c6⟩, c7, c8⟩ := hC
        obtain ⟨i1, i2, i3⟩ := c3.2 J rfl
        unfold f_X10_image
        rw [if_pos rfl, i1, if_neg (by decide)]
        refine wq_b1 (mkCopy_ok mkAt_1 mkAt_27 hJ.2.2.2.1 c1.ms i2 (by omega)) ?_
        rintro M4 ⟨r4, o4⟩
        refine wq_b1 (lsCopy_ok ((c2.out o4 (by omega)).lst) (i3.out o4 (by omega)) (by omega)) ?_
        rintro M5 ⟨r5, o5⟩
        obtain ⟨f1, f2⟩ := forget_ok ((c7.out o4 (by omega)).out o5 (by omega))
        have e : f_X7_forget M5 0 10 = 1 := by rw [f2 0 (by omega), o5 0 (by omega), o4 0 (by omega)]; exact i1
        rw [lt_eq, e]
        have hI : RIm (some J) (f_X7_forget M5) := ((c3.out o4 (by omega) (by omega)).out o5 (by omega) (by omega)).out f2 (by omega) (by omega)
        exact wq_some ⟨rfl, ⟨(r4.out o5 (by omega)).out f2 (by omega), r5.out f2 (by omega), hI, ⟨((c4.out o4 (by omega)).out o5 (by omega)).out f2 (by omega), ((c5.out o4 (by omega)).out o5 (by omega)).out f2 (by omega), ((c6.out o4 (by omega)).out o5 (by omega)).out f2 (by omega)⟩, f1, ((c8.out o4 (by omega)).out o5 (by omega)).out f2 (by omega)⟩, ((o4.hi (by omega)).trans (o5.hi (by omega))).trans (f2.hi (by omega))⟩
      · show Wq (f_X11_image 0 M1) _
        obtain ⟨e, hk⟩ := hM1.2.1.2 J rfl
        unfold f_X11_image
        rw [e, if_neg (by rintro ⟨_, z⟩; exact absurd z (by decide))]
        refine wq_b1 (img_get M1) ?_
        rintro M2 ⟨hx, hO⟩
        rw [if_pos rfl]
        have h2 : InvM (J, some J, P, tp, ft) M2 := hM1.row (A' := J) (Mo.w hO) (hk.mv hJ.2.2.2.1 hx)
        obtain ⟨h3, o3⟩ := forgets_ok h2
        rw [lt_eq, lt_eq]
        have h4 : InvM (J, some J, (0, P.2), tp, ft) (up2 (f_X11_forgets M2) 155 5 1) := by
          obtain ⟨k1, k2, k3, k4, k5, k6⟩ := h3
          refine ⟨k1.cell (up2_cell _ _ _ (by omega)), ⟨fun z => (by cases z), fun J' hJ' => ⟨up2_at _ _ _ _, (k2.2 J' hJ').2.cell (up2_cell _ _ _ (by omega))⟩⟩, ?_, ?_, ?_, ?_⟩
          · unfold RPm RSn at k3 ⊢
            rw [up2_slot _ _ _ (by omega), up2_cell _ _ _ (by omega)]; exact k3
          · rw [up2_slot _ _ _ (by omega), up2_cell _ _ _ (by omega)]; exact k4
          · rw [up2_slot _ _ _ (by omega)]; exact k5
          · rw [up2_slot _ _ _ (by omega)]; exact k6
        exact wq_some ⟨rfl, h4, ((hO.lo (by omega) (by omega)).trans (o3.lo (by omega) (by omega))).trans (((Out.refl 155 156 _).up (by omega) (by omega)).lo (by omega) (by omega))⟩
  · refine ⟨(A, some A, P, tp, ft), 1, ⟨hG.1, fun J hJ => by cases hJ; exact hG.1, hG.2.2.1, hG.2.2.2⟩, ?_, fun M1 hM1 => ?_⟩
    · show Wq (f_X10_image a M) _
      obtain ⟨c1, c2, c3, ⟨c4, c5, c6⟩, c7, c8⟩ := hC
      unfold f_X10_image
      rw [if_neg q]
      refine wq_b1 (mkCopy_ok mkAt_27 mkAt_1 hG.1.2.2.2.1 c4 c1 (by omega)) ?_
      rintro M4 ⟨r4, o4⟩
      refine wq_b1 (lsCopy_ok (c5.out o4 (by omega)) (c2.out o4 (by omega)) (by omega)) ?_
      rintro M5 ⟨r5, o5⟩
      have f2 : Out 0 1 M5 (up2 M5 0 10 1) := (Out.refl _ _ _).up (by omega) (by omega)
      rw [lt_eq, up2_at]
      have r4' : RMk true 27 A (up2 M5 0 10 1) := (r4.out o5 (by omega)).out f2 (by omega)
      have r5' : RLs 97 A (up2 M5 0 10 1) := r5.out f2 (by omega)
      have hI : RIm (some A) (up2 M5 0 10 1) := ⟨fun z => (by cases z), fun J hJ => by cases hJ; exact ⟨up2_at _ _ _ _, r4', r5'⟩⟩
      exact wq_some ⟨rfl, ⟨((c1.out o4 (by omega)).out o5 (by omega)).out f2 (by omega), ((c2.out o4 (by omega)).out o5 (by omega)).out f2 (by omega), hI, ⟨r4'.ms, r5'.lst, ((c6.out o4 (by omega)).out o5 (by omega)).out f2 (by omega)⟩, ((c7.out o4 (by omega)).out o5 (by omega)).out f2 (by omega), ((c8.out o4 (by omega)).out o5 (by omega)).out f2 (by omega)⟩, ((o4.hi (by omega)).trans (o5.hi (by omega))).trans (f2.hi (by omega))⟩
    · show Wq (f_X11_image a M1) _
      unfold f_X11_image
      rw [if_neg (fun z => q z.1)]
      refine wq_b1 (img_put q M1) ?_
      rintro M2 ⟨hx, hO⟩
      rw [if_neg q, lt_eq]
      obtain ⟨k1, k2, k3, k4, k5, k6⟩ := hM1
      have h4 : InvM (A, some A, P, tp, ft) (up2 M2 155 5 1) := by
        refine ⟨(k1.out hO (by omega)).cell (up2_cell _ _ _ (by omega)), ⟨fun z => (by cases z), fun J hJ => ?_⟩, ?_, ?_, ?_, ?_⟩
        · cases hJ
          refine ⟨up2_at _ _ _ _, ?_⟩
          have : RMm 157 A M2 := k1.mv hG.1.2.2.2.1 hx
          exact this.cell (up2_cell _ _ _ (by omega))
        · unfold RPm RSn at k3 ⊢
          rw [up2_slot _ _ _ (by omega), up2_cell _ _ _ (by omega), hO 155 (by omega), hO 158 (by omega)]; exact k3
        · rw [up2_slot _ _ _ (by omega), up2_cell _ _ _ (by omega), hO 155 (by omega), hO 163 (by omega)]; exact k4
        · rw [up2_slot _ _ _ (by omega), hO 155 (by omega)]; exact k5
        · rw [up2_slot _ _ _ (by omega), hO 155 (by omega)]; exact k6
      exact wq_some ⟨rfl, h4, (hO.lo (by omega) (by omega)).trans (((Out.refl 155 156 _).up (by omega) (by omega)).lo (by omega) (by omega))⟩
