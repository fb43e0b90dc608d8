def w_X11_waits_27 (a1 : Int32) (i4 : Int32) (i5 : Int32) (i6 : Int32) (M7 : Mem) : Option ((Int32 × Int32 × Int32 × Mem) ⊕ (Int32 × Int32 × Mem)) :=
  if 30 < i6 then (some (.inr (i4, i5, M7))) else (b1 (f_X11_ageOf a1 M7) fun x9 => b1 (f_X11_ofRemain a1 0 M7) fun x10 => b1 (f_X11_keepsOf x10 M7) fun x11 => if x11 ≤ (x9 + i6) then (some (.inr (i4, i5, M7))) else (b2 (f_X11_priceOf a1 i6 M7) fun M13 x14 => if i5 < x14 then (some (.inl (i6, x14, (i6 + 1), M13))) else (some (.inl (i4, i5, (i6 + 1), M13)))))
def f_X11_waits (a1 : Int32) (a2 : Int32) (M : Mem) : Option (Mem × Int32) :=
  if ((f_X11_isRemain a1 M) = 0 ∨ (f_X11_isIn a2 0 1) = 0) then (some (M, (-1))) else (b1 (lp (fun s => w_X11_waits_27 a1 s.1 s.2.1 s.2.2.1 s.2.2.2) FU ((-1), (-1), 0, M)) fun q16 => lt ((if a2 = 0 then q16.1 else q16.2.1) : Int32) fun x21 => some (q16.2.2, x21))
set_option maxRecDepth 100000 in
set_option maxHeartbeats 4000000 in
theorem t_X11_waits (l : Launch) (E : EV) (a1 : Int32) (a2 : Int32) (M : Mem) {M' : Mem} {r : Int32} (h : f_X11_waits a1 a2 M = some (M', r)) : RunM l E yX11_waits cX11_waits 7 (some .int) 5 [.ref 155, .int a1, .int a2] M M' (some (.int r)) := by
  refine RunM.of (by decide) (Nat.le_of_ble_eq_true rfl) ?_
  show XM l E (RX11, "waits", cX11_waits, 7) (some .int) 5 0 [some (.ref 155), some (.int a1), some (.int a2), none, none, none, none] [] M M' (some (.int r))
  unfold f_X11_waits at h
  refine ex_aload_n dX11_waits_0 rfl ?_
  refine ex_iload_n dX11_waits_1 rfl ?_
  refine mx_cVi [.int a1] [] 155 11 (f_X11_isRemain a1 M) dX11_waits_2 cl_X11_332 im_X11_isRemain cy_X11_isRemain oc_at_155 rfl (Nat.le_of_ble_eq_true rfl) (by decide) (t_X11_isRemain l E a1 M rfl) ?_
  have JXC3 : ((f_X11_isRemain a1 M) = 0 ∨ (f_X11_isIn a2 0 1) = 0) → XM l E (RX11, "waits", cX11_waits, 7) (some .int) 5 17 [some (.ref 155), some (.int a1), some (.int a2), none, none, none, none] [] M M' (some (.int r)) := fun C3 => by
    rw [if_pos C3] at h
    refine ex_iconst (-1) dX11_waits_17 kI_m1 ?_
    cases h
    exact mx_reti .int dX11_waits_18 ⟨rfl, rfl⟩
  have JYC3 : ¬ (((f_X11_isRemain a1 M) = 0 ∨ (f_X11_isIn a2 0 1) = 0)) → XM l E (RX11, "waits", cX11_waits, 7) (some .int) 5 20 [some (.ref 155), some (.int a1), some (.int a2), none, none, none, none] [.int (-1)] M M' (some (.int r)) := fun C3 => by
    rw [if_neg C3] at h
    refine ex_istore_n (L2 := [some (.ref 155), some (.int a1), some (.int a2), some (.int (-1)), none, none, none]) dX11_waits_20 (by decide) rfl ?_
    refine ex_iconst (-1) dX11_waits_21 kI_m1 ?_
    refine ex_istore (L2 := [some (.ref 155), some (.int a1), some (.int a2), some (.int (-1)), some (.int (-1)), none, none]) dX11_waits_22 (by decide) rfl ?_
    refine ex_iconst 0 dX11_waits_24 kI_0 ?_
    refine ex_istore (L2 := [some (.ref 155), some (.int a1), some (.int a2), some (.int (-1)), some (.int (-1)), some (.int 0), none]) dX11_waits_25 (by decide) rfl ?_
    refine ex_mskL [true, true, true, true, true, true, false] (L2 := [some (.ref 155), some (.int a1), some (.int a2), some (.int (-1)), some (.int (-1)), some (.int 0), none]) rfl ?_
    obtain ⟨q16, hlq16, h⟩ := b1E h
    obtain ⟨y17, y18, M19⟩ := q16
    dsimp only at h
    have hx : XM l E (RX11, "waits", cX11_waits, 7) (some .int) 5 87 [none, none, some (.int a2), some (.int y17), some (.int y18), none, none] [] M19 M' (some (.int r)) := by
      refine ex_iload_n dX11_waits_87 rfl ?_
      obtain ⟨x21, ex21, h⟩ := ltE h
      have Jx21 : XM l E (RX11, "waits", cX11_waits, 7) (some .int) 5 97 [none, none, some (.int a2), some (.int y17), some (.int y18), none, none] [.int x21] M19 M' (some (.int r)) := by
        cases h
        exact mx_reti .int dX11_waits_97 ⟨rfl, rfl⟩
      clear h
      refine ex_if_ne 95 dX11_waits_88 (by decide) (fun c20 => ?_) (fun c20 => ?_)
      · rw [if_neg c20] at ex21
        refine ex_iload dX11_waits_95 rfl ?_
        subst ex21
        exact Jx21
      · rw [if_pos c20] at ex21
        refine ex_iload_n dX11_waits_91 rfl ?_
        refine ex_goto 97 dX11_waits_92 (by decide) ?_
        subst ex21
        exact Jx21
    clear h
    have key : ∀ (k : Nat) (s : Int32 × Int32 × Int32 × Mem), lp (fun s => w_X11_waits_27 a1 s.1 s.2.1 s.2.2.1 s.2.2.2) k s = some (y17, y18, M19) → XM l E (RX11, "waits", cX11_waits, 7) (some .int) 5 27 [some (.ref 155), some (.int a1), some (.int a2), some (.int s.1), some (.int s.2.1), some (.int s.2.2.1), none] [] s.2.2.2 M' (some (.int r)) := lp_ind (P := fun (s : Int32 × Int32 × Int32 × Mem) => XM l E (RX11, "waits", cX11_waits, 7) (some .int) 5 27 [some (.ref 155), some (.int a1), some (.int a2), some (.int s.1), some (.int s.2.1), some (.int s.2.2.1), none] [] s.2.2.2 M' (some (.int r))) (fun s t hb hk he => by
      obtain ⟨i4, i5, i6, M7⟩ := s
      show XM l E (RX11, "waits", cX11_waits, 7) (some .int) 5 27 [some (.ref 155), some (.int a1), some (.int a2), some (.int i4), some (.int i5), some (.int i6), none] [] M7 M' (some (.int r))
      change w_X11_waits_27 a1 i4 i5 i6 M7 = some t at hb
      unfold w_X11_waits_27 at hb
      refine ex_iload dX11_waits_27 rfl ?_
      refine ex_bipush 30 dX11_waits_29 kB_30 ?_
      refine ex_icmp_gt 87 dX11_waits_31 (by decide) (fun c8 => ?_) (fun c8 => ?_)
      · rw [if_pos c8] at hb
        refine ex_mskL [false, false, true, true, true, false, false] (L2 := [none, none, some (.int a2), some (.int i4), some (.int i5), none, none]) rfl ?_
        cases hb
        cases (he _ rfl) <;> exact hx
      · rw [if_neg c8] at hb
        refine ex_aload_n dX11_waits_34 rfl ?_
        refine ex_iload_n dX11_waits_35 rfl ?_
        obtain ⟨x9, qx9, hb⟩ := b1E hb
        refine mx_cVi [.int a1] [] 155 11 x9 dX11_waits_36 cl_X11_303 im_X11_ageOf cy_X11_ageOf oc_at_155 rfl (Nat.le_of_ble_eq_true rfl) (by decide) (t_X11_ageOf l E a1 M7 qx9) ?_
        refine ex_iload dX11_waits_39 rfl ?_
        refine ex_iadd dX11_waits_41 ?_
        refine ex_aload_n dX11_waits_42 rfl ?_
        refine ex_aload_n dX11_waits_43 rfl ?_
        refine ex_iload_n dX11_waits_44 rfl ?_
        refine ex_iconst 0 dX11_waits_45 kI_0 ?_
        obtain ⟨x10, qx10, hb⟩ := b1E hb
        refine mx_cVi [.int a1, .int 0] [.ref 155, .int (x9 + i6)] 155 11 x10 dX11_waits_46 cl_X11_57 im_X11_ofRemain cy_X11_ofRemain oc_at_155 rfl (Nat.le_of_ble_eq_true rfl) (by decide) (t_X11_ofRemain l E a1 0 M7 qx10) ?_
        obtain ⟨x11, qx11, hb⟩ := b1E hb
        refine mx_cVi [.int x10] [.int (x9 + i6)] 155 11 x11 dX11_waits_49 cl_X11_367 im_X11_keepsOf cy_X11_keepsOf oc_at_155 rfl (Nat.le_of_ble_eq_true rfl) (by decide) (t_X11_keepsOf l E x10 M7 qx11) ?_
        refine ex_icmp_ge 87 dX11_waits_52 (by decide) (fun c12 => ?_) (fun c12 => ?_)
        · rw [if_pos c12] at hb
          refine ex_mskL [false, false, true, true, true, false, false] (L2 := [none, none, some (.int a2), some (.int i4), some (.int i5), none, none]) rfl ?_
          cases hb
          cases (he _ rfl) <;> exact hx
        · rw [if_neg c12] at hb
          refine ex_aload_n dX11_waits_55 rfl ?_
          refine ex_iload_n dX11_waits_56 rfl ?_
          refine ex_iload dX11_waits_57 rfl ?_
          obtain ⟨M13, x14, qx14, hb⟩ := b2E hb
          refine mx_cVi [.int a1, .int i6] [] 155 11 x14 dX11_waits_59 cl_X11_342 im_X11_priceOf cy_X11_priceOf oc_at_155 rfl (Nat.le_of_ble_eq_true rfl) (by decide) (t_X11_priceOf l E a1 i6 M7 qx14) ?_
          refine ex_istore (L2 := [some (.ref 155), some (.int a1), some (.int a2), some (.int i4), some (.int i5), some (.int i6), some (.int x14)]) dX11_waits_62 (by decide) rfl ?_
          refine ex_iload dX11_waits_64 rfl ?_
          refine ex_iload dX11_waits_66 rfl ?_
          refine ex_icmp_gt 74 dX11_waits_68 (by decide) (fun c15 => ?_) (fun c15 => ?_)
          · rw [if_pos c15] at hb
            refine ex_iload dX11_waits_74 rfl ?_
            refine ex_istore (L2 := [some (.ref 155), some (.int a1), some (.int a2), some (.int i4), some (.int x14), some (.int i6), some (.int x14)]) dX11_waits_76 (by decide) rfl ?_
            refine ex_iload dX11_waits_78 rfl ?_
            refine ex_istore_n (L2 := [some (.ref 155), some (.int a1), some (.int a2), some (.int i6), some (.int x14), some (.int i6), some (.int x14)]) dX11_waits_80 (by decide) rfl ?_
            refine ex_iinc 1 (L2 := [some (.ref 155), some (.int a1), some (.int a2), some (.int i6), some (.int x14), some (.int (i6 + 1)), some (.int x14)]) dX11_waits_81 rfl kI_1 (by decide) rfl ?_
            refine ex_goto 27 dX11_waits_84 (by decide) ?_
            refine ex_mskL [true, true, true, true, true, true, false] (L2 := [some (.ref 155), some (.int a1), some (.int a2), some (.int i6), some (.int x14), some (.int (i6 + 1)), none]) rfl ?_
            cases hb
            exact hk (i6, x14, (i6 + 1), M13) rfl
          · rw [if_neg c15] at hb
            refine ex_goto 81 dX11_waits_71 (by decide) ?_
            refine ex_iinc 1 (L2 := [some (.ref 155), some (.int a1), some (.int a2), some (.int i4), some (.int i5), some (.int (i6 + 1)), some (.int x14)]) dX11_waits_81 rfl kI_1 (by decide) rfl ?_
            refine ex_goto 27 dX11_waits_84 (by decide) ?_
            refine ex_mskL [true, true, true, true, true, true, false] (L2 := [some (.ref 155), some (.int a1), some (.int a2), some (.int i4), some (.int i5), some (.int (i6 + 1)), none]) rfl ?_
            cases hb
            exact hk (i4, i5, (i6 + 1), M13) rfl)
    exact key FU ((-1), (-1), 0, M) hlq16
  clear h
  refine ex_if_eq 17 dX11_waits_5 (by decide) (fun c1 => ?_) (fun c1 => ?_)
  · exact JXC3 (Or.inl c1)
  · refine ex_iload_n dX11_waits_8 rfl ?_
    refine ex_iconst 0 dX11_waits_9 kI_0 ?_
    refine ex_iconst 1 dX11_waits_10 kI_1 ?_
    refine mx_cSi [.int a2, .int 0, .int 1] [] (f_X11_isIn a2 0 1) dX11_waits_11 cl_X11_53 sm_X11_isIn rfl (Nat.le_of_ble_eq_true rfl) (by decide) (t_X11_isIn l E a2 0 1 M rfl) ?_
    refine ex_if_ne 19 dX11_waits_14 (by decide) (fun c2 => ?_) (fun c2 => ?_)
    · refine ex_iconst (-1) dX11_waits_19 kI_m1 ?_
      exact JYC3 (fun z => z.elim c1 c2)
    · exact JXC3 (Or.inr c2)
def f_X11_limit (a1 : Int32) (M : Mem) : Option (Mem × Int32) :=
  if a1 = (-1) then (lt (up2 M 156 89 0) fun M7 => some (M7, 0)) else (if ((f_X11_isIn a1 1 999) = 0 ∨ (M 156 89) = 6) then (some (M, (-1))) else (b1 (wr M 156 (331 + (M 156 89)) a1) fun M5 => lt (up2 M5 156 89 ((M5 156 89) + 1)) fun M6 => some (M6, (M6 156 89))))
set_option maxRecDepth 100000 in
set_option maxHeartbeats 4000000 in
theorem t_X11_limit (l : Launch) (E : EV) (a1 : Int32) (M : Mem) {M' : Mem} {r : Int32} (h : f_X11_limit a1 M = some (M', r)) : RunM l E yX11_limit cX11_limit 2 (some .int) 1 [.ref 155, .int a1] M M' (some (.int r)) := by
  refine RunM.of (by decide) (Nat.le_of_ble_eq_true rfl) ?_
  show XM l E (RX11, "limit", cX11_limit, 2) (some .int) 1 0 [some (.ref 155), some (.int a1)] [] M M' (some (.int r))
  unfold f_X11_limit at h
  refine ex_iload_n dX11_limit_0 rfl ?_
  refine ex_iconst (-1) dX11_limit_1 kI_m1 ?_
  refine ex_icmp_ne 15 dX11_limit_2 (by decide) (fun c1 => ?_) (fun c1 => ?_)
  · rw [if_neg c1] at h
    refine ex_iload_n dX11_limit_15 rfl ?_
    refine ex_iconst 1 dX11_limit_16 kI_1 ?_
    refine ex_sipush 999 dX11_limit_17 kS_999 ?_
    refine mx_cSi [.int a1, .int 1, .int 999] [] (f_X11_isIn a1 1 999) dX11_limit_20 cl_X11_53 sm_X11_isIn rfl (Nat.le_of_ble_eq_true rfl) (by decide) (t_X11_isIn l E a1 1 999 M rfl) ?_
    have JXC4 : ((f_X11_isIn a1 1 999) = 0 ∨ (M 156 89) = 6) → XM l E (RX11, "limit", cX11_limit, 2) (some .int) 1 38 [some (.ref 155), some (.int a1)] [] M M' (some (.int r)) := fun C4 => by
      rw [if_pos C4] at h
      refine ex_iconst (-1) dX11_limit_38 kI_m1 ?_
      cases h
      exact mx_reti .int dX11_limit_39 ⟨rfl, rfl⟩
    have JYC4 : ¬ (((f_X11_isIn a1 1 999) = 0 ∨ (M 156 89) = 6)) → XM l E (RX11, "limit", cX11_limit, 2) (some .int) 1 56 [some (.ref 155), some (.int a1)] [.int a1, .int (331 + (M 156 89)), .ref 156] M M' (some (.int r)) := fun C4 => by
      rw [if_neg C4] at h
      obtain ⟨M5, qM5, h⟩ := b1E h
      refine mx_iast M5 dX11_limit_56 qM5 ?_
      refine ex_aload_n dX11_limit_57 rfl ?_
      refine mx_getr 11 156 dX11_limit_58 fl_X11_7 oc_at_155 (rf_11_0 oc_at_155) ?_
      refine ex_bipush 89 dX11_limit_61 kB_89 ?_
      refine ex_dup2 dX11_limit_63 rfl rfl ?_
      refine mx_iald (M5 156 89) dX11_limit_64 (rdc_156_89 _) ?_
      refine ex_iconst 1 dX11_limit_65 kI_1 ?_
      refine ex_iadd dX11_limit_66 ?_
      obtain ⟨M6, eM6, h⟩ := ltE h
      refine mx_iast M6 dX11_limit_67 ((wrc_156_89 _ _).trans (congrArg some eM6.symm)) ?_
      refine ex_aload_n dX11_limit_68 rfl ?_
      refine mx_getr 11 156 dX11_limit_69 fl_X11_7 oc_at_155 (rf_11_0 oc_at_155) ?_
      refine ex_bipush 89 dX11_limit_72 kB_89 ?_
      refine mx_iald (M6 156 89) dX11_limit_74 (rdc_156_89 _) ?_
      cases h
      exact mx_reti .int dX11_limit_75 ⟨rfl, rfl⟩
    clear h
    refine ex_if_eq 38 dX11_limit_23 (by decide) (fun c2 => ?_) (fun c2 => ?_)
    · exact JXC4 (Or.inl c2)
    · refine ex_aload_n dX11_limit_26 rfl ?_
      refine mx_getr 11 156 dX11_limit_27 fl_X11_7 oc_at_155 (rf_11_0 oc_at_155) ?_
      refine ex_bipush 89 dX11_limit_30 kB_89 ?_
      refine mx_iald (M 156 89) dX11_limit_32 (rdc_156_89 _) ?_
      refine ex_bipush 6 dX11_limit_33 kB_6 ?_
      refine ex_icmp_ne 40 dX11_limit_35 (by decide) (fun c3 => ?_) (fun c3 => ?_)
      · refine ex_aload_n dX11_limit_40 rfl ?_
        refine mx_getr 11 156 dX11_limit_41 fl_X11_7 oc_at_155 (rf_11_0 oc_at_155) ?_
        refine ex_sipush 331 dX11_limit_44 kS_331 ?_
        refine ex_aload_n dX11_limit_47 rfl ?_
        refine mx_getr 11 156 dX11_limit_48 fl_X11_7 oc_at_155 (rf_11_0 oc_at_155) ?_
        refine ex_bipush 89 dX11_limit_51 kB_89 ?_
        refine mx_iald (M 156 89) dX11_limit_53 (rdc_156_89 _) ?_
        refine ex_iadd dX11_limit_54 ?_
        refine ex_iload_n dX11_limit_55 rfl ?_
        exact JYC4 (fun z => z.elim c2 c3)
      · exact JXC4 (Or.inr c3)
  · rw [if_pos c1] at h
    refine ex_aload_n dX11_limit_5 rfl ?_
    refine mx_getr 11 156 dX11_limit_6 fl_X11_7 oc_at_155 (rf_11_0 oc_at_155) ?_
    refine ex_bipush 89 dX11_limit_9 kB_89 ?_
    refine ex_iconst 0 dX11_limit_11 kI_0 ?_
    obtain ⟨M7, eM7, h⟩ := ltE h
    refine mx_iast M7 dX11_limit_12 ((wrc_156_89 _ _).trans (congrArg some eM7.symm)) ?_
    refine ex_iconst 0 dX11_limit_13 kI_0 ?_
    cases h
    exact mx_reti .int dX11_limit_14 ⟨rfl, rfl⟩
def w_X11_takerAt_2 (a1 : Int32) (M : Mem) (i1 : Int32) : Option ((Int32) ⊕ ((Int32) ⊕ (Unit))) :=
  if (M 156 89) ≤ i1 then (some (.inr (.inr ()))) else (b1 (rd M 156 (331 + i1)) fun x3 => if x3 < a1 then (some (.inl (i1 + 1))) else (some (.inr (.inl i1))))
def f_X11_takerAt (a1 : Int32) (M : Mem) : Option (Int32) :=
  b1 (lp (fun s => w_X11_takerAt_2 a1 M s) FU 0) fun q5 => match q5 with | .inl u6 => (some u6) | .inr u7 => (some (-1))
set_option maxRecDepth 100000 in
set_option maxHeartbeats 4000000 in
theorem t_X11_takerAt (l : Launch) (E : EV) (a1 : Int32) (M : Mem) {r : Int32} (h : f_X11_takerAt a1 M = some r) : RunM l E yX11_takerAt cX11_takerAt 3 (some .int) 0 [.ref 155, .int a1] M M (some (.int r)) := by
  refine RunM.of (by decide) (Nat.le_of_ble_eq_true rfl) ?_
  show XM l E (RX11, "takerAt", cX11_takerAt, 3) (some .int) 0 0 [some (.ref 155), some (.int a1), none] [] M M (some (.int r))
  unfold f_X11_takerAt at h
  refine ex_iconst 0 dX11_takerAt_0 kI_0 ?_
  refine ex_istore_n (L2 := [some (.ref 155), some (.int a1), some (.int 0)]) dX11_takerAt_1 (by decide) rfl ?_
  refine ex_mskL [true, true, true] (L2 := [some (.ref 155), some (.int a1), some (.int 0)]) rfl ?_
  obtain ⟨q5, hlq5, h⟩ := b1E h
  rcases q5 with u6 | ⟨⟩
  · dsimp only at h
    have hx : XM l E (RX11, "takerAt", cX11_takerAt, 3) (some .int) 0 27 [none, none, some (.int u6)] [] M M (some (.int r)) := by
      refine ex_iload_n dX11_takerAt_27 rfl ?_
      cases h
      exact mx_reti .int dX11_takerAt_28 ⟨rfl, rfl⟩
    clear h
    have key : ∀ (k : Nat) (s : Int32), lp (fun s => w_X11_takerAt_2 a1 M s) k s = some (.inl u6) → XM l E (RX11, "takerAt", cX11_takerAt, 3) (some .int) 0 2 [some (.ref 155), some (.int a1), some (.int s)] [] M M (some (.int r)) := lp_ind (P := fun (s : Int32) => XM l E (RX11, "takerAt", cX11_takerAt, 3) (some .int) 0 2 [some (.ref 155), some (.int a1), some (.int s)] [] M M (some (.int r))) (fun s t hb hk he => by
      revert hb hk he; generalize s = i1; intro hb hk he
      show XM l E (RX11, "takerAt", cX11_takerAt, 3) (some .int) 0 2 [some (.ref 155), some (.int a1), some (.int i1)] [] M M (some (.int r))
      change w_X11_takerAt_2 a1 M i1 = some t at hb
      unfold w_X11_takerAt_2 at hb
      refine ex_iload_n dX11_takerAt_2 rfl ?_
      refine ex_aload_n dX11_takerAt_3 rfl ?_
      refine mx_getr 11 156 dX11_takerAt_4 fl_X11_7 oc_at_155 (rf_11_0 oc_at_155) ?_
      refine ex_bipush 89 dX11_takerAt_7 kB_89 ?_
      refine mx_iald (M 156 89) dX11_takerAt_9 (rdc_156_89 _) ?_
      refine ex_icmp_ge 35 dX11_takerAt_10 (by decide) (fun c2 => ?_) (fun c2 => ?_)
      · rw [if_pos c2] at hb
        refine ex_mskL [false, false, false] (L2 := [none, none, none]) rfl ?_
        cases hb
        cases (he _ rfl) <;> exact hx
      · rw [if_neg c2] at hb
        refine ex_aload_n dX11_takerAt_13 rfl ?_
        refine mx_getr 11 156 dX11_takerAt_14 fl_X11_7 oc_at_155 (rf_11_0 oc_at_155) ?_
        refine ex_sipush 331 dX11_takerAt_17 kS_331 ?_
        refine ex_iload_n dX11_takerAt_20 rfl ?_
        refine ex_iadd dX11_takerAt_21 ?_
        obtain ⟨x3, qx3, hb⟩ := b1E hb
        refine mx_iald x3 dX11_takerAt_22 qx3 ?_
        refine ex_iload_n dX11_takerAt_23 rfl ?_
        refine ex_icmp_lt 29 dX11_takerAt_24 (by decide) (fun c4 => ?_) (fun c4 => ?_)
        · rw [if_pos c4] at hb
          refine ex_iinc 1 (L2 := [some (.ref 155), some (.int a1), some (.int (i1 + 1))]) dX11_takerAt_29 rfl kI_1 (by decide) rfl ?_
          refine ex_goto 2 dX11_takerAt_32 (by decide) ?_
          refine ex_mskL [true, true, true] (L2 := [some (.ref 155), some (.int a1), some (.int (i1 + 1))]) rfl ?_
          cases hb
          exact hk (i1 + 1) rfl
        · rw [if_neg c4] at hb
          refine ex_mskL [false, false, true] (L2 := [none, none, some (.int i1)]) rfl ?_
          cases hb
          cases (he _ rfl) <;> exact hx)
    exact key FU 0 hlq5
  · dsimp only at h
    have hx : XM l E (RX11, "takerAt", cX11_takerAt, 3) (some .int) 0 35 [none, none, none] [] M M (some (.int r)) := by
      refine ex_iconst (-1) dX11_takerAt_35 kI_m1 ?_
      cases h
      exact mx_reti .int dX11_takerAt_36 ⟨rfl, rfl⟩
    clear h
    have key : ∀ (k : Nat) (s : Int32), lp (fun s => w_X11_takerAt_2 a1 M s) k s = some (.inr ()) → XM l E (RX11, "takerAt", cX11_takerAt, 3) (some .int) 0 2 [some (.ref 155), some (.int a1), some (.int s)] [] M M (some (.int r)) := lp_ind (P := fun (s : Int32) => XM l E (RX11, "takerAt", cX11_takerAt, 3) (some .int) 0 2 [some (.ref 155), some (.int a1), some (.int s)] [] M M (some (.int r))) (fun s t hb hk he => by
      revert hb hk he; generalize s = i1; intro hb hk he
      show XM l E (RX11, "takerAt", cX11_takerAt, 3) (some .int) 0 2 [some (.ref 155), some (.int a1), some (.int i1)] [] M M (some (.int r))
      change w_X11_takerAt_2 a1 M i1 = some t at hb
      unfold w_X11_takerAt_2 at hb
      refine ex_iload_n dX11_takerAt_2 rfl ?_
      refine ex_aload_n dX11_takerAt_3 rfl ?_
      refine mx_getr 11 156 dX11_takerAt_4 fl_X11_7 oc_at_155 (rf_11_0 oc_at_155) ?_
      refine ex_bipush 89 dX11_takerAt_7 kB_89 ?_
      refine mx_iald (M 156 89) dX11_takerAt_9 (rdc_156_89 _) ?_
      refine ex_icmp_ge 35 dX11_takerAt_10 (by decide) (fun c2 => ?_) (fun c2 => ?_)
      · rw [if_pos c2] at hb
        refine ex_mskL [false, false, false] (L2 := [none, none, none]) rfl ?_
        cases hb
        cases (he _ rfl) <;> exact hx
      · rw [if_neg c2] at hb
        refine ex_aload_n dX11_takerAt_13 rfl ?_
        refine mx_getr 11 156 dX11_takerAt_14 fl_X11_7 oc_at_155 (rf_11_0 oc_at_155) ?_
        refine ex_sipush 331 dX11_takerAt_17 kS_331 ?_
        refine ex_iload_n dX11_takerAt_20 rfl ?_
        refine ex_iadd dX11_takerAt_21 ?_
        obtain ⟨x3, qx3, hb⟩ := b1E hb
        refine mx_iald x3 dX11_takerAt_22 qx3 ?_
        refine ex_iload_n dX11_takerAt_23 rfl ?_
        refine ex_icmp_lt 29 dX11_takerAt_24 (by decide) (fun c4 => ?_) (fun c4 => ?_)
        · rw [if_pos c4] at hb
          refine ex_iinc 1 (L2 := [some (.ref 155), some (.int a1), some (.int (i1 + 1))]) dX11_takerAt_29 rfl kI_1 (by decide) rfl ?_
          refine ex_goto 2 dX11_takerAt_32 (by decide) ?_
          refine ex_mskL [true, true, true] (L2 := [some (.ref 155), some (.int a1), some (.int (i1 + 1))]) rfl ?_
          cases hb
          exact hk (i1 + 1) rfl
        · rw [if_neg c4] at hb
          refine ex_mskL [false, false, true] (L2 := [none, none, some (.int i1)]) rfl ?_
          cases hb
          cases (he _ rfl) <;> exact hx)
    exact key FU 0 hlq5
def w_X11_dusk_35 (a2 : Int32) (M : Mem) (i5 : Int32) : Option ((Int32) ⊕ ((Int32) ⊕ (Unit))) :=
  if i5 < 1 then (some (.inr (.inr ()))) else (b1 (f_X11_takerAt i5 M) fun x7 => if x7 = (-1) then (some (.inl (i5 - a2))) else (some (.inr (.inl i5))))
def f_X11_dusk (a1 : Int32) (a2 : Int32) (a3 : Int32) (M : Mem) : Option (Int32) :=
  if ((f_X11_isIn a1 1 999) = 0 ∨ ((f_X11_isIn a2 1 99) = 0 ∨ (f_X11_isIn a3 0 1) = 0)) then (some (-1)) else (b1 (lp (fun s => w_X11_dusk_35 a2 M s) FU a1) fun q9 => match q9 with | .inl u10 => (if a3 = 0 then (b1 (f_X11_takerAt u10 M) fun x12 => some x12) else (some u10)) | .inr u13 => (some (-1)))
set_option maxRecDepth 100000 in
set_option maxHeartbeats 4000000 in
theorem t_X11_dusk (l : Launch) (E : EV) (a1 : Int32) (a2 : Int32) (a3 : Int32) (M : Mem) {r : Int32} (h : f_X11_dusk a1 a2 a3 M = some r) : RunM l E yX11_dusk cX11_dusk 5 (some .int) 1 [.ref 155, .int a1, .int a2, .int a3] M M (some (.int r)) := by
  refine RunM.of (by decide) (Nat.le_of_ble_eq_true rfl) ?_
  show XM l E (RX11, "dusk", cX11_dusk, 5) (some .int) 1 0 [some (.ref 155), some (.int a1), some (.int a2), some (.int a3), none] [] M M (some (.int r))
  unfold f_X11_dusk at h
  refine ex_iload_n dX11_dusk_0 rfl ?_
  refine ex_iconst 1 dX11_dusk_1 kI_1 ?_
  refine ex_sipush 999 dX11_dusk_2 kS_999 ?_
  refine mx_cSi [.int a1, .int 1, .int 999] [] (f_X11_isIn a1 1 999) dX11_dusk_5 cl_X11_53 sm_X11_isIn rfl (Nat.le_of_ble_eq_true rfl) (by decide) (t_X11_isIn l E a1 1 999 M rfl) ?_
  have JXC4 : ((f_X11_isIn a1 1 999) = 0 ∨ ((f_X11_isIn a2 1 99) = 0 ∨ (f_X11_isIn a3 0 1) = 0)) → XM l E (RX11, "dusk", cX11_dusk, 5) (some .int) 1 30 [some (.ref 155), some (.int a1), some (.int a2), some (.int a3), none] [] M M (some (.int r)) := fun C4 => by
    rw [if_pos C4] at h
    refine ex_iconst (-1) dX11_dusk_30 kI_m1 ?_
    cases h
    exact mx_reti .int dX11_dusk_31 ⟨rfl, rfl⟩
  have JYC4 : ¬ (((f_X11_isIn a1 1 999) = 0 ∨ ((f_X11_isIn a2 1 99) = 0 ∨ (f_X11_isIn a3 0 1) = 0))) → XM l E (RX11, "dusk", cX11_dusk, 5) (some .int) 1 33 [some (.ref 155), some (.int a1), some (.int a2), some (.int a3), none] [.int a1] M M (some (.int r)) := fun C4 => by
    rw [if_neg C4] at h
    refine ex_istore (L2 := [some (.ref 155), some (.int a1), some (.int a2), some (.int a3), some (.int a1)]) dX11_dusk_33 (by decide) rfl ?_
    refine ex_mskL [true, false, true, true, true] (L2 := [some (.ref 155), none, some (.int a2), some (.int a3), some (.int a1)]) rfl ?_
    obtain ⟨q9, hlq9, h⟩ := b1E h
    rcases q9 with u10 | ⟨⟩
    · dsimp only at h
      have hx : XM l E (RX11, "dusk", cX11_dusk, 5) (some .int) 1 51 [some (.ref 155), none, none, some (.int a3), some (.int u10)] [] M M (some (.int r)) := by
        refine ex_iload_n dX11_dusk_51 rfl ?_
        refine ex_if_ne 64 dX11_dusk_52 (by decide) (fun c11 => ?_) (fun c11 => ?_)
        · rw [if_neg c11] at h
          refine ex_iload dX11_dusk_64 rfl ?_
          cases h
          exact mx_reti .int dX11_dusk_66 ⟨rfl, rfl⟩
        · rw [if_pos c11] at h
          refine ex_aload_n dX11_dusk_55 rfl ?_
          refine ex_iload dX11_dusk_56 rfl ?_
          obtain ⟨x12, qx12, h⟩ := b1E h
          refine mx_cVi [.int u10] [] 155 11 x12 dX11_dusk_58 cl_X11_433 im_X11_takerAt cy_X11_takerAt oc_at_155 rfl (Nat.le_of_ble_eq_true rfl) (by decide) (t_X11_takerAt l E u10 M qx12) ?_
          refine ex_goto 66 dX11_dusk_61 (by decide) ?_
          cases h
          exact mx_reti .int dX11_dusk_66 ⟨rfl, rfl⟩
      clear h
      have key : ∀ (k : Nat) (s : Int32), lp (fun s => w_X11_dusk_35 a2 M s) k s = some (.inl u10) → XM l E (RX11, "dusk", cX11_dusk, 5) (some .int) 1 35 [some (.ref 155), none, some (.int a2), some (.int a3), some (.int s)] [] M M (some (.int r)) := lp_ind (P := fun (s : Int32) => XM l E (RX11, "dusk", cX11_dusk, 5) (some .int) 1 35 [some (.ref 155), none, some (.int a2), some (.int a3), some (.int s)] [] M M (some (.int r))) (fun s t hb hk he => by
        revert hb hk he; generalize s = i5; intro hb hk he
        show XM l E (RX11, "dusk", cX11_dusk, 5) (some .int) 1 35 [some (.ref 155), none, some (.int a2), some (.int a3), some (.int i5)] [] M M (some (.int r))
        change w_X11_dusk_35 a2 M i5 = some t at hb
        unfold w_X11_dusk_35 at hb
        refine ex_iload dX11_dusk_35 rfl ?_
        refine ex_iconst 1 dX11_dusk_37 kI_1 ?_
        refine ex_icmp_lt 76 dX11_dusk_38 (by decide) (fun c6 => ?_) (fun c6 => ?_)
        · rw [if_pos c6] at hb
          refine ex_mskL [false, false, false, false, false] (L2 := [none, none, none, none, none]) rfl ?_
          cases hb
          cases (he _ rfl) <;> exact hx
        · rw [if_neg c6] at hb
          refine ex_aload_n dX11_dusk_41 rfl ?_
          refine ex_iload dX11_dusk_42 rfl ?_
          obtain ⟨x7, qx7, hb⟩ := b1E hb
          refine mx_cVi [.int i5] [] 155 11 x7 dX11_dusk_44 cl_X11_433 im_X11_takerAt cy_X11_takerAt oc_at_155 rfl (Nat.le_of_ble_eq_true rfl) (by decide) (t_X11_takerAt l E i5 M qx7) ?_
          refine ex_iconst (-1) dX11_dusk_47 kI_m1 ?_
          refine ex_icmp_eq 67 dX11_dusk_48 (by decide) (fun c8 => ?_) (fun c8 => ?_)
          · rw [if_pos c8] at hb
            refine ex_iload dX11_dusk_67 rfl ?_
            refine ex_iload_n dX11_dusk_69 rfl ?_
            refine ex_isub dX11_dusk_70 ?_
            refine ex_istore (L2 := [some (.ref 155), none, some (.int a2), some (.int a3), some (.int (i5 - a2))]) dX11_dusk_71 (by decide) rfl ?_
            refine ex_goto 35 dX11_dusk_73 (by decide) ?_
            refine ex_mskL [true, false, true, true, true] (L2 := [some (.ref 155), none, some (.int a2), some (.int a3), some (.int (i5 - a2))]) rfl ?_
            cases hb
            exact hk (i5 - a2) rfl
          · rw [if_neg c8] at hb
            refine ex_mskL [true, false, false, true, true] (L2 := [some (.ref 155), none, none, some (.int a3), some (.int i5)]) rfl ?_
            cases hb
            cases (he _ rfl) <;> exact hx)
      exact key FU a1 hlq9
    · dsimp only at h
      have hx : XM l E (RX11, "dusk", cX11_dusk, 5) (some .int) 1 76 [none, none, none, none, none] [] M M (some (.int r)) := by
        refine ex_iconst (-1) dX11_dusk_76 kI_m1 ?_
        cases h
        exact mx_reti .int dX11_dusk_77 ⟨rfl, rfl⟩
      clear h
      have key : ∀ (k : Nat) (s : Int32), lp (fun s => w_X11_dusk_35 a2 M s) k s = some (.inr ()) → XM l E (RX11, "dusk", cX11_dusk, 5) (some .int) 1 35 [some (.ref 155), none, some (.int a2), some (.int a3), some (.int s)] [] M M (some (.int r)) := lp_ind (P := fun (s : Int32) => XM l E (RX11, "dusk", cX11_dusk, 5) (some .int) 1 35 [some (.ref 155), none, some (.int a2), some (.int a3), some (.int s)] [] M M (some (.int r))) (fun s t hb hk he => by
        revert hb hk he; generalize s = i5; intro hb hk he
        show XM l E (RX11, "dusk", cX11_dusk, 5) (some .int) 1 35 [some (.ref 155), none, some (.int a2), some (.int a3), some (.int i5)] [] M M (some (.int r))
        change w_X11_dusk_35 a2 M i5 = some t at hb
        unfold w_X11_dusk_35 at hb
        refine ex_iload dX11_dusk_35 rfl ?_
        refine ex_iconst 1 dX11_dusk_37 kI_1 ?_
        refine ex_icmp_lt 76 dX11_dusk_38 (by decide) (fun c6 => ?_) (fun c6 => ?_)
        · rw [if_pos c6] at hb
          refine ex_mskL [false, false, false, false, false] (L2 := [none, none, none, none, none]) rfl ?_
          cases hb
          cases (he _ rfl) <;> exact hx
        · rw [if_neg c6] at hb
          refine ex_aload_n dX11_dusk_41 rfl ?_
          refine ex_iload dX11_dusk_42 rfl ?_
          obtain ⟨x7, qx7, hb⟩ := b1E hb
          refine mx_cVi [.int i5] [] 155 11 x7 dX11_dusk_44 cl_X11_433 im_X11_takerAt cy_X11_takerAt oc_at_155 rfl (Nat.le_of_ble_eq_true rfl) (by decide) (t_X11_takerAt l E i5 M qx7) ?_
          refine ex_iconst (-1) dX11_dusk_47 kI_m1 ?_
          refine ex_icmp_eq 67 dX11_dusk_48 (by decide) (fun c8 => ?_) (fun c8 => ?_)
          · rw [if_pos c8] at hb
            refine ex_iload dX11_dusk_67 rfl ?_
            refine ex_iload_n dX11_dusk_69 rfl ?_
            refine ex_isub dX11_dusk_70 ?_
            refine ex_istore (L2 := [some (.ref 155), none, some (.int a2), some (.int a3), some (.int (i5 - a2))]) dX11_dusk_71 (by decide) rfl ?_
            refine ex_goto 35 dX11_dusk_73 (by decide) ?_
            refine ex_mskL [true, false, true, true, true] (L2 := [some (.ref 155), none, some (.int a2), some (.int a3), some (.int (i5 - a2))]) rfl ?_
            cases hb
            exact hk (i5 - a2) rfl
          · rw [if_neg c8] at hb
            refine ex_mskL [true, false, false, true, true] (L2 := [some (.ref 155), none, none, some (.int a3), some (.int i5)]) rfl ?_
            cases hb
            cases (he _ rfl) <;> exact hx)
      exact key FU a1 hlq9
  clear h
  refine ex_if_eq 30 dX11_dusk_8 (by decide) (fun c1 => ?_) (fun c1 => ?_)
  · exact JXC4 (Or.inl c1)
  · refine ex_iload_n dX11_dusk_11 rfl ?_
    refine ex_iconst 1 dX11_dusk_12 kI_1 ?_
    refine ex_bipush 99 dX11_dusk_13 kB_99 ?_
    refine mx_cSi [.int a2, .int 1, .int 99] [] (f_X11_isIn a2 1 99) dX11_dusk_15 cl_X11_53 sm_X11_isIn rfl (Nat.le_of_ble_eq_true rfl) (by decide) (t_X11_isIn l E a2 1 99 M rfl) ?_
    refine ex_if_eq 30 dX11_dusk_18 (by decide) (fun c2 => ?_) (fun c2 => ?_)
    · exact JXC4 (Or.inr (Or.inl c2))
    · refine ex_iload_n dX11_dusk_21 rfl ?_
      refine ex_iconst 0 dX11_dusk_22 kI_0 ?_
      refine ex_iconst 1 dX11_dusk_23 kI_1 ?_
      refine mx_cSi [.int a3, .int 0, .int 1] [] (f_X11_isIn a3 0 1) dX11_dusk_24 cl_X11_53 sm_X11_isIn rfl (Nat.le_of_ble_eq_true rfl) (by decide) (t_X11_isIn l E a3 0 1 M rfl) ?_
      refine ex_if_ne 32 dX11_dusk_27 (by decide) (fun c3 => ?_) (fun c3 => ?_)
      · refine ex_iload_n dX11_dusk_32 rfl ?_
        exact JYC4 (fun z => z.elim c1 (fun z => z.elim c2 c3))
      · exact JXC4 (Or.inr (Or.inr c3))
def f_X11_isOne (a1 : Int32) : (Int32) :=
  (f_X11_isIn a1 0 5)
theorem z_X11_isOne (a1 : Int32) : f_X11_isOne a1 = 0 ∨ f_X11_isOne a1 = 1 := by
  unfold f_X11_isOne
  (repeat' split) <;> first | exact Or.inl rfl | exact Or.inr rfl | exact z_X11_isIn _ _ _
set_option maxRecDepth 100000 in
set_option maxHeartbeats 4000000 in
theorem t_X11_isOne (l : Launch) (E : EV) (a1 : Int32) (M : Mem) {r : Int32} (h : f_X11_isOne a1 = r) : RunM l E yX11_isOne cX11_isOne 1 (some .boolean) 1 [.int a1] M M (some (.int r)) := by
  refine RunM.of (by decide) (Nat.le_of_ble_eq_true rfl) ?_
  show XM l E (RX11, "isOne", cX11_isOne, 1) (some .boolean) 1 0 [some (.int a1)] [] M M (some (.int r))
  unfold f_X11_isOne at h
  refine ex_iload_n dX11_isOne_0 rfl ?_
  refine ex_iconst 0 dX11_isOne_1 kI_0 ?_
  refine ex_iconst 5 dX11_isOne_2 kI_5 ?_
  refine mx_cSi [.int a1, .int 0, .int 5] [] (f_X11_isIn a1 0 5) dX11_isOne_3 cl_X11_53 sm_X11_isIn rfl (Nat.le_of_ble_eq_true rfl) (by decide) (t_X11_isIn l E a1 0 5 M rfl) ?_
  subst h
  exact mx_reti .boolean dX11_isOne_6 ⟨rfl, nzB (z_X11_isIn _ _ _)⟩
def f_X11_trade (a1 : Int32) (a2 : Int32) (a3 : Int32) (a4 : Int32) (M : Mem) : Option (Mem × Int32) :=
  if a1 = (-1) then (lt (up2 M 156 90 0) fun M14 => some (M14, 0)) else (if ((f_X11_isOne a1) = 0 ∨ ((f_X11_isOne a2) = 0 ∨ (a1 = a2 ∨ ((f_X11_isIn a3 1 9) = 0 ∨ ((f_X11_isIn a4 1 9) = 0 ∨ (M 156 90) = 8))))) then (some (M, (-1))) else (b1 (wr M 156 (337 + (4 * (M 156 90))) a1) fun M9 => b1 (wr M9 156 ((337 + (4 * (M 156 90))) + 1) a2) fun M10 => b1 (wr M10 156 ((337 + (4 * (M 156 90))) + 2) a3) fun M11 => b1 (wr M11 156 ((337 + (4 * (M 156 90))) + 3) a4) fun M12 => lt (up2 M12 156 90 ((M12 156 90) + 1)) fun M13 => some (M13, (M13 156 90))))
set_option maxRecDepth 100000 in
set_option maxHeartbeats 4000000 in
theorem t_X11_trade (l : Launch) (E : EV) (a1 : Int32) (a2 : Int32) (a3 : Int32) (a4 : Int32) (M : Mem) {M' : Mem} {r : Int32} (h : f_X11_trade a1 a2 a3 a4 M = some (M', r)) : RunM l E yX11_trade cX11_trade 6 (some .int) 2 [.ref 155, .int a1, .int a2, .int a3, .int a4] M M' (some (.int r)) := by
  refine RunM.of (by decide) (Nat.le_of_ble_eq_true rfl) ?_
  show XM l E (RX11, "trade", cX11_trade, 6) (some .int) 2 0 [some (.ref 155), some (.int a1), some (.int a2), some (.int a3), some (.int a4), none] [] M M' (some (.int r))
  unfold f_X11_trade at h
  refine ex_iload_n dX11_trade_0 rfl ?_
  refine ex_iconst (-1) dX11_trade_1 kI_m1 ?_
  refine ex_icmp_ne 15 dX11_trade_2 (by decide) (fun c1 => ?_) (fun c1 => ?_)
  · rw [if_neg c1] at h
    refine ex_iload_n dX11_trade_15 rfl ?_
    refine mx_cSi [.int a1] [] (f_X11_isOne a1) dX11_trade_16 cl_X11_436 sm_X11_isOne rfl (Nat.le_of_ble_eq_true rfl) (by decide) (t_X11_isOne l E a1 M rfl) ?_
    have JXC8 : ((f_X11_isOne a1) = 0 ∨ ((f_X11_isOne a2) = 0 ∨ (a1 = a2 ∨ ((f_X11_isIn a3 1 9) = 0 ∨ ((f_X11_isIn a4 1 9) = 0 ∨ (M 156 90) = 8))))) → XM l E (RX11, "trade", cX11_trade, 6) (some .int) 2 67 [some (.ref 155), some (.int a1), some (.int a2), some (.int a3), some (.int a4), none] [] M M' (some (.int r)) := fun C8 => by
      rw [if_pos C8] at h
      refine ex_iconst (-1) dX11_trade_67 kI_m1 ?_
      cases h
      exact mx_reti .int dX11_trade_68 ⟨rfl, rfl⟩
    have JYC8 : ¬ (((f_X11_isOne a1) = 0 ∨ ((f_X11_isOne a2) = 0 ∨ (a1 = a2 ∨ ((f_X11_isIn a3 1 9) = 0 ∨ ((f_X11_isIn a4 1 9) = 0 ∨ (M 156 90) = 8)))))) → XM l E (RX11, "trade", cX11_trade, 6) (some .int) 2 82 [some (.ref 155), some (.int a1), some (.int a2), some (.int a3), some (.int a4), none] [.int (337 + (4 * (M 156 90)))] M M' (some (.int r)) := fun C8 => by
      rw [if_neg C8] at h
      refine ex_istore (L2 := [some (.ref 155), some (.int a1), some (.int a2), some (.int a3), some (.int a4), some (.int (337 + (4 * (M 156 90))))]) dX11_trade_82 (by decide) rfl ?_
      refine ex_aload_n dX11_trade_84 rfl ?_
      refine mx_getr 11 156 dX11_trade_85 fl_X11_7 oc_at_155 (rf_11_0 oc_at_155) ?_
      refine ex_iload dX11_trade_88 rfl ?_
      refine ex_iload_n dX11_trade_90 rfl ?_
      obtain ⟨M9, qM9, h⟩ := b1E h
      refine mx_iast M9 dX11_trade_91 qM9 ?_
      refine ex_aload_n dX11_trade_92 rfl ?_
      refine mx_getr 11 156 dX11_trade_93 fl_X11_7 oc_at_155 (rf_11_0 oc_at_155) ?_
      refine ex_iload dX11_trade_96 rfl ?_
      refine ex_iconst 1 dX11_trade_98 kI_1 ?_
      refine ex_iadd dX11_trade_99 ?_
      refine ex_iload_n dX11_trade_100 rfl ?_
      obtain ⟨M10, qM10, h⟩ := b1E h
      refine mx_iast M10 dX11_trade_101 qM10 ?_
      refine ex_aload_n dX11_trade_102 rfl ?_
      refine mx_getr 11 156 dX11_trade_103 fl_X11_7 oc_at_155 (rf_11_0 oc_at_155) ?_
      refine ex_iload dX11_trade_106 rfl ?_
      refine ex_iconst 2 dX11_trade_108 kI_2 ?_
      refine ex_iadd dX11_trade_109 ?_
      refine ex_iload_n dX11_trade_110 rfl ?_
      obtain ⟨M11, qM11, h⟩ := b1E h
      refine mx_iast M11 dX11_trade_111 qM11 ?_
      refine ex_aload_n dX11_trade_112 rfl ?_
      refine mx_getr 11 156 dX11_trade_113 fl_X11_7 oc_at_155 (rf_11_0 oc_at_155) ?_
      refine ex_iload dX11_trade_116 rfl ?_
      refine ex_iconst 3 dX11_trade_118 kI_3 ?_
      refine ex_iadd dX11_trade_119 ?_
      refine ex_iload dX11_trade_120 rfl ?_
      obtain ⟨M12, qM12, h⟩ := b1E h
      refine mx_iast M12 dX11_trade_122 qM12 ?_
      refine ex_aload_n dX11_trade_123 rfl ?_
      refine mx_getr 11 156 dX11_trade_124 fl_X11_7 oc_at_155 (rf_11_0 oc_at_155) ?_
      refine ex_bipush 90 dX11_trade_127 kB_90 ?_
      refine ex_dup2 dX11_trade_129 rfl rfl ?_
      refine mx_iald (M12 156 90) dX11_trade_130 (rdc_156_90 _) ?_
      refine ex_iconst 1 dX11_trade_131 kI_1 ?_
      refine ex_iadd dX11_trade_132 ?_
      obtain ⟨M13, eM13, h⟩ := ltE h
      refine mx_iast M13 dX11_trade_133 ((wrc_156_90 _ _).trans (congrArg some eM13.symm)) ?_
      refine ex_aload_n dX11_trade_134 rfl ?_
      refine mx_getr 11 156 dX11_trade_135 fl_X11_7 oc_at_155 (rf_11_0 oc_at_155) ?_
      refine ex_bipush 90 dX11_trade_138 kB_90 ?_
      refine mx_iald (M13 156 90) dX11_trade_140 (rdc_156_90 _) ?_
      cases h
      exact mx_reti .int dX11_trade_141 ⟨rfl, rfl⟩
    clear h
    refine ex_if_eq 67 dX11_trade_19 (by decide) (fun c2 => ?_) (fun c2 => ?_)
    · exact JXC8 (Or.inl c2)
    · refine ex_iload_n dX11_trade_22 rfl ?_
      refine mx_cSi [.int a2] [] (f_X11_isOne a2) dX11_trade_23 cl_X11_436 sm_X11_isOne rfl (Nat.le_of_ble_eq_true rfl) (by decide) (t_X11_isOne l E a2 M rfl) ?_
      refine ex_if_eq 67 dX11_trade_26 (by decide) (fun c3 => ?_) (fun c3 => ?_)
      · exact JXC8 (Or.inr (Or.inl c3))
      · refine ex_iload_n dX11_trade_29 rfl ?_
        refine ex_iload_n dX11_trade_30 rfl ?_
        refine ex_icmp_eq 67 dX11_trade_31 (by decide) (fun c4 => ?_) (fun c4 => ?_)
        · exact JXC8 (Or.inr (Or.inr (Or.inl c4)))
        · refine ex_iload_n dX11_trade_34 rfl ?_
          refine ex_iconst 1 dX11_trade_35 kI_1 ?_
          refine ex_bipush 9 dX11_trade_36 kB_9 ?_
          refine mx_cSi [.int a3, .int 1, .int 9] [] (f_X11_isIn a3 1 9) dX11_trade_38 cl_X11_53 sm_X11_isIn rfl (Nat.le_of_ble_eq_true rfl) (by decide) (t_X11_isIn l E a3 1 9 M rfl) ?_
          refine ex_if_eq 67 dX11_trade_41 (by decide) (fun c5 => ?_) (fun c5 => ?_)
          · exact JXC8 (Or.inr (Or.inr (Or.inr (Or.inl c5))))
          · refine ex_iload dX11_trade_44 rfl ?_
            refine ex_iconst 1 dX11_trade_46 kI_1 ?_
            refine ex_bipush 9 dX11_trade_47 kB_9 ?_
            refine mx_cSi [.int a4, .int 1, .int 9] [] (f_X11_isIn a4 1 9) dX11_trade_49 cl_X11_53 sm_X11_isIn rfl (Nat.le_of_ble_eq_true rfl) (by decide) (t_X11_isIn l E a4 1 9 M rfl) ?_
            refine ex_if_eq 67 dX11_trade_52 (by decide) (fun c6 => ?_) (fun c6 => ?_)
            · exact JXC8 (Or.inr (Or.inr (Or.inr (Or.inr (Or.inl c6)))))
            · refine ex_aload_n dX11_trade_55 rfl ?_
              refine mx_getr 11 156 dX11_trade_56 fl_X11_7 oc_at_155 (rf_11_0 oc_at_155) ?_
              refine ex_bipush 90 dX11_trade_59 kB_90 ?_
              refine mx_iald (M 156 90) dX11_trade_61 (rdc_156_90 _) ?_
              refine ex_bipush 8 dX11_trade_62 kB_8 ?_
              refine ex_icmp_ne 69 dX11_trade_64 (by decide) (fun c7 => ?_) (fun c7 => ?_)
              · refine ex_sipush 337 dX11_trade_69 kS_337 ?_
                refine ex_iconst 4 dX11_trade_72 kI_4 ?_
                refine ex_aload_n dX11_trade_73 rfl ?_
                refine mx_getr 11 156 dX11_trade_74 fl_X11_7 oc_at_155 (rf_11_0 oc_at_155) ?_
                refine ex_bipush 90 dX11_trade_77 kB_90 ?_
                refine mx_iald (M 156 90) dX11_trade_79 (rdc_156_90 _) ?_
                refine ex_imul dX11_trade_80 ?_
                refine ex_iadd dX11_trade_81 ?_
                exact JYC8 (fun z => z.elim c2 (fun z => z.elim c3 (fun z => z.elim c4 (fun z => z.elim c5 (fun z => z.elim c6 c7)))))
              · exact JXC8 (Or.inr (Or.inr (Or.inr (Or.inr (Or.inr c7)))))
  · rw [if_pos c1] at h
    refine ex_aload_n dX11_trade_5 rfl ?_
    refine mx_getr 11 156 dX11_trade_6 fl_X11_7 oc_at_155 (rf_11_0 oc_at_155) ?_
    refine ex_bipush 90 dX11_trade_9 kB_90 ?_
    refine ex_iconst 0 dX11_trade_11 kI_0 ?_
    obtain ⟨M14, eM14, h⟩ := ltE h
    refine mx_iast M14 dX11_trade_12 ((wrc_156_90 _ _).trans (congrArg some eM14.symm)) ?_
    refine ex_iconst 0 dX11_trade_13 kI_0 ?_
    cases h
    exact mx_reti .int dX11_trade_14 ⟨rfl, rfl⟩
def w_X11_ring_48 (M : Mem) (i4 : Int32) (i8 : Int32) (i9 : Int32) : Option ((Int32 × Int32) ⊕ (Int32)) :=
  if (M 156 90) ≤ i9 then (some (.inr i8)) else (b1 (rd M 156 (337 + (4 * i9))) fun x11 => if ((i4 >>> (x11 &&& 31)) &&& 1) = 1 then (b1 (rd M 156 ((337 + (4 * i9)) + 1)) fun x13 => lt (i8 ||| (1 <<< (x13 &&& 31))) fun x14 => some (.inl (x14, (i9 + 1)))) else (some (.inl ((i8 ||| 0), (i9 + 1)))))
def w_X11_ring_23 (a2 : Int32) (M : Mem) (i4 : Int32) (i5 : Int32) : Option ((Int32 × Int32) ⊕ ((Int32) ⊕ (Unit))) :=
  if 6 ≤ i5 then (some (.inr (.inr ()))) else (if ((i4 >>> (a2 &&& 31)) &&& 1) = 1 then (some (.inr (.inl i5))) else (b1 (lp (fun s => w_X11_ring_48 M i4 s.1 s.2) FU (i4, 0)) fun q15 => some (.inl (q15, (i5 + 1)))))
def f_X11_ring (a1 : Int32) (a2 : Int32) (M : Mem) : Option (Int32) :=
  if ((f_X11_isOne a1) = 0 ∨ (f_X11_isOne a2) = 0) then (some (-1)) else (b1 (lp (fun s => w_X11_ring_23 a2 M s.1 s.2) FU ((1 <<< (a1 &&& 31)), 0)) fun q16 => match q16 with | .inl u17 => (some u17) | .inr u18 => (some (-1)))
set_option maxRecDepth 100000 in
set_option maxHeartbeats 4000000 in
theorem t_X11_ring (l : Launch) (E : EV) (a1 : Int32) (a2 : Int32) (M : Mem) {r : Int32} (h : f_X11_ring a1 a2 M = some r) : RunM l E yX11_ring cX11_ring 7 (some .int) 2 [.ref 155, .int a1, .int a2] M M (some (.int r)) := by
  refine RunM.of (by decide) (Nat.le_of_ble_eq_true rfl) ?_
  show XM l E (RX11, "ring", cX11_ring, 7) (some .int) 2 0 [some (.ref 155), some (.int a1), some (.int a2), none, none, none, none] [] M M (some (.int r))
  unfold f_X11_ring at h
  refine ex_iload_n dX11_ring_0 rfl ?_
  refine mx_cSi [.int a1] [] (f_X11_isOne a1) dX11_ring_1 cl_X11_436 sm_X11_isOne rfl (Nat.le_of_ble_eq_true rfl) (by decide) (t_X11_isOne l E a1 M rfl) ?_
  have JXC3 : ((f_X11_isOne a1) = 0 ∨ (f_X11_isOne a2) = 0) → XM l E (RX11, "ring", cX11_ring, 7) (some .int) 2 14 [some (.ref 155), some (.int a1), some (.int a2), none, none, none, none] [] M M (some (.int r)) := fun C3 => by
    rw [if_pos C3] at h
    refine ex_iconst (-1) dX11_ring_14 kI_m1 ?_
    cases h
    exact mx_reti .int dX11_ring_15 ⟨rfl, rfl⟩
  have JYC3 : ¬ (((f_X11_isOne a1) = 0 ∨ (f_X11_isOne a2) = 0)) → XM l E (RX11, "ring", cX11_ring, 7) (some .int) 2 19 [some (.ref 155), some (.int a1), some (.int a2), none, none, none, none] [.int (1 <<< (a1 &&& 31))] M M (some (.int r)) := fun C3 => by
    rw [if_neg C3] at h
    refine ex_istore_n (L2 := [some (.ref 155), some (.int a1), some (.int a2), some (.int (1 <<< (a1 &&& 31))), none, none, none]) dX11_ring_19 (by decide) rfl ?_
    refine ex_iconst 0 dX11_ring_20 kI_0 ?_
    refine ex_istore (L2 := [some (.ref 155), some (.int a1), some (.int a2), some (.int (1 <<< (a1 &&& 31))), some (.int 0), none, none]) dX11_ring_21 (by decide) rfl ?_
    refine ex_mskL [true, false, true, true, true, false, false] (L2 := [some (.ref 155), none, some (.int a2), some (.int (1 <<< (a1 &&& 31))), some (.int 0), none, none]) rfl ?_
    obtain ⟨q16, hlq16, h⟩ := b1E h
    rcases q16 with u17 | ⟨⟩
    · dsimp only at h
      have hx : XM l E (RX11, "ring", cX11_ring, 7) (some .int) 2 39 [none, none, none, none, some (.int u17), none, none] [] M M (some (.int r)) := by
        refine ex_iload dX11_ring_39 rfl ?_
        cases h
        exact mx_reti .int dX11_ring_41 ⟨rfl, rfl⟩
      clear h
      have key : ∀ (k : Nat) (s : Int32 × Int32), lp (fun s => w_X11_ring_23 a2 M s.1 s.2) k s = some (.inl u17) → XM l E (RX11, "ring", cX11_ring, 7) (some .int) 2 23 [some (.ref 155), none, some (.int a2), some (.int s.1), some (.int s.2), none, none] [] M M (some (.int r)) := lp_ind (P := fun (s : Int32 × Int32) => XM l E (RX11, "ring", cX11_ring, 7) (some .int) 2 23 [some (.ref 155), none, some (.int a2), some (.int s.1), some (.int s.2), none, none] [] M M (some (.int r))) (fun s t hb hk he => by
        obtain ⟨i4, i5⟩ := s
        show XM l E (RX11, "ring", cX11_ring, 7) (some .int) 2 23 [some (.ref 155), none, some (.int a2), some (.int i4), some (.int i5), none, none] [] M M (some (.int r))
        change w_X11_ring_23 a2 M i4 i5 = some t at hb
        unfold w_X11_ring_23 at hb
        refine ex_iload dX11_ring_23 rfl ?_
        refine ex_bipush 6 dX11_ring_25 kB_6 ?_
        refine ex_icmp_ge 122 dX11_ring_27 (by decide) (fun c6 => ?_) (fun c6 => ?_)
        · rw [if_pos c6] at hb
          refine ex_mskL [false, false, false, false, false, false, false] (L2 := [none, none, none, none, none, none, none]) rfl ?_
          cases hb
          cases (he _ rfl) <;> exact hx
        · rw [if_neg c6] at hb
          refine ex_iload_n dX11_ring_30 rfl ?_
          refine ex_iload_n dX11_ring_31 rfl ?_
          refine ex_ishr dX11_ring_32 ?_
          refine ex_iconst 1 dX11_ring_33 kI_1 ?_
          refine ex_iand dX11_ring_34 ?_
          refine ex_iconst 1 dX11_ring_35 kI_1 ?_
          refine ex_icmp_ne 42 dX11_ring_36 (by decide) (fun c7 => ?_) (fun c7 => ?_)
          · rw [if_neg c7] at hb
            refine ex_iload_n dX11_ring_42 rfl ?_
            refine ex_istore (L2 := [some (.ref 155), none, some (.int a2), some (.int i4), some (.int i5), some (.int i4), none]) dX11_ring_43 (by decide) rfl ?_
            refine ex_iconst 0 dX11_ring_45 kI_0 ?_
            refine ex_istore (L2 := [some (.ref 155), none, some (.int a2), some (.int i4), some (.int i5), some (.int i4), some (.int 0)]) dX11_ring_46 (by decide) rfl ?_
            refine ex_mskL [true, false, true, true, true, true, true] (L2 := [some (.ref 155), none, some (.int a2), some (.int i4), some (.int i5), some (.int i4), some (.int 0)]) rfl ?_
            obtain ⟨q15, hlq15, hb⟩ := b1E hb
            have hx : XM l E (RX11, "ring", cX11_ring, 7) (some .int) 2 113 [some (.ref 155), none, some (.int a2), none, some (.int i5), some (.int q15), none] [] M M (some (.int r)) := by
              refine ex_iload dX11_ring_113 rfl ?_
              refine ex_istore_n (L2 := [some (.ref 155), none, some (.int a2), some (.int q15), some (.int i5), some (.int q15), none]) dX11_ring_115 (by decide) rfl ?_
              refine ex_iinc 1 (L2 := [some (.ref 155), none, some (.int a2), some (.int q15), some (.int (i5 + 1)), some (.int q15), none]) dX11_ring_116 rfl kI_1 (by decide) rfl ?_
              refine ex_goto 23 dX11_ring_119 (by decide) ?_
              refine ex_mskL [true, false, true, true, true, false, false] (L2 := [some (.ref 155), none, some (.int a2), some (.int q15), some (.int (i5 + 1)), none, none]) rfl ?_
              cases hb
              exact hk (q15, (i5 + 1)) rfl
            clear hb
            have key : ∀ (k : Nat) (s : Int32 × Int32), lp (fun s => w_X11_ring_48 M i4 s.1 s.2) k s = some q15 → XM l E (RX11, "ring", cX11_ring, 7) (some .int) 2 48 [some (.ref 155), none, some (.int a2), some (.int i4), some (.int i5), some (.int s.1), some (.int s.2)] [] M M (some (.int r)) := lp_ind (P := fun (s : Int32 × Int32) => XM l E (RX11, "ring", cX11_ring, 7) (some .int) 2 48 [some (.ref 155), none, some (.int a2), some (.int i4), some (.int i5), some (.int s.1), some (.int s.2)] [] M M (some (.int r))) (fun s t hb hk he => by
              obtain ⟨i8, i9⟩ := s
              show XM l E (RX11, "ring", cX11_ring, 7) (some .int) 2 48 [some (.ref 155), none, some (.int a2), some (.int i4), some (.int i5), some (.int i8), some (.int i9)] [] M M (some (.int r))
              change w_X11_ring_48 M i4 i8 i9 = some t at hb
              unfold w_X11_ring_48 at hb
              refine ex_iload dX11_ring_48 rfl ?_
              refine ex_aload_n dX11_ring_50 rfl ?_
              refine mx_getr 11 156 dX11_ring_51 fl_X11_7 oc_at_155 (rf_11_0 oc_at_155) ?_
              refine ex_bipush 90 dX11_ring_54 kB_90 ?_
              refine mx_iald (M 156 90) dX11_ring_56 (rdc_156_90 _) ?_
              refine ex_icmp_ge 113 dX11_ring_57 (by decide) (fun c10 => ?_) (fun c10 => ?_)
              · rw [if_pos c10] at hb
                refine ex_mskL [true, false, true, false, true, true, false] (L2 := [some (.ref 155), none, some (.int a2), none, some (.int i5), some (.int i8), none]) rfl ?_
                cases hb
                cases (he _ rfl) <;> exact hx
              · rw [if_neg c10] at hb
                refine ex_iload dX11_ring_60 rfl ?_
                refine ex_iload_n dX11_ring_62 rfl ?_
                refine ex_aload_n dX11_ring_63 rfl ?_
                refine mx_getr 11 156 dX11_ring_64 fl_X11_7 oc_at_155 (rf_11_0 oc_at_155) ?_
                refine ex_sipush 337 dX11_ring_67 kS_337 ?_
                refine ex_iconst 4 dX11_ring_70 kI_4 ?_
                refine ex_iload dX11_ring_71 rfl ?_
                refine ex_imul dX11_ring_73 ?_
                refine ex_iadd dX11_ring_74 ?_
                obtain ⟨x11, qx11, hb⟩ := b1E hb
                refine mx_iald x11 dX11_ring_75 qx11 ?_
                refine ex_ishr dX11_ring_76 ?_
                refine ex_iconst 1 dX11_ring_77 kI_1 ?_
                refine ex_iand dX11_ring_78 ?_
                refine ex_iconst 1 dX11_ring_79 kI_1 ?_
                refine ex_icmp_ne 103 dX11_ring_80 (by decide) (fun c12 => ?_) (fun c12 => ?_)
                · rw [if_neg c12] at hb
                  refine ex_iconst 0 dX11_ring_103 kI_0 ?_
                  refine ex_ior dX11_ring_104 ?_
                  refine ex_istore (L2 := [some (.ref 155), none, some (.int a2), some (.int i4), some (.int i5), some (.int (i8 ||| 0)), some (.int i9)]) dX11_ring_105 (by decide) rfl ?_
                  refine ex_iinc 1 (L2 := [some (.ref 155), none, some (.int a2), some (.int i4), some (.int i5), some (.int (i8 ||| 0)), some (.int (i9 + 1))]) dX11_ring_107 rfl kI_1 (by decide) rfl ?_
                  refine ex_goto 48 dX11_ring_110 (by decide) ?_
                  refine ex_mskL [true, false, true, true, true, true, true] (L2 := [some (.ref 155), none, some (.int a2), some (.int i4), some (.int i5), some (.int (i8 ||| 0)), some (.int (i9 + 1))]) rfl ?_
                  cases hb
                  exact hk ((i8 ||| 0), (i9 + 1)) rfl
                · rw [if_pos c12] at hb
                  refine ex_iconst 1 dX11_ring_83 kI_1 ?_
                  refine ex_aload_n dX11_ring_84 rfl ?_
                  refine mx_getr 11 156 dX11_ring_85 fl_X11_7 oc_at_155 (rf_11_0 oc_at_155) ?_
                  refine ex_sipush 337 dX11_ring_88 kS_337 ?_
                  refine ex_iconst 4 dX11_ring_91 kI_4 ?_
                  refine ex_iload dX11_ring_92 rfl ?_
                  refine ex_imul dX11_ring_94 ?_
                  refine ex_iadd dX11_ring_95 ?_
                  refine ex_iconst 1 dX11_ring_96 kI_1 ?_
                  refine ex_iadd dX11_ring_97 ?_
                  obtain ⟨x13, qx13, hb⟩ := b1E hb
                  refine mx_iald x13 dX11_ring_98 qx13 ?_
                  refine ex_ishl dX11_ring_99 ?_
                  refine ex_goto 104 dX11_ring_100 (by decide) ?_
                  refine ex_ior dX11_ring_104 ?_
                  obtain ⟨x14, ex14, hb⟩ := ltE hb
                  rw [← ex14]
                  refine ex_istore (L2 := [some (.ref 155), none, some (.int a2), some (.int i4), some (.int i5), some (.int x14), some (.int i9)]) dX11_ring_105 (by decide) rfl ?_
                  refine ex_iinc 1 (L2 := [some (.ref 155), none, some (.int a2), some (.int i4), some (.int i5), some (.int x14), some (.int (i9 + 1))]) dX11_ring_107 rfl kI_1 (by decide) rfl ?_
                  refine ex_goto 48 dX11_ring_110 (by decide) ?_
                  refine ex_mskL [true, false, true, true, true, true, true] (L2 := [some (.ref 155), none, some (.int a2), some (.int i4), some (.int i5), some (.int x14), some (.int (i9 + 1))]) rfl ?_
                  cases hb
                  exact hk (x14, (i9 + 1)) rfl)
            exact key FU (i4, 0) hlq15
          · rw [if_pos c7] at hb
            refine ex_mskL [false, false, false, false, true, false, false] (L2 := [none, none, none, none, some (.int i5), none, none]) rfl ?_
            cases hb
            cases (he _ rfl) <;> exact hx)
      exact key FU ((1 <<< (a1 &&& 31)), 0) hlq16
    · dsimp only at h
      have hx : XM l E (RX11, "ring", cX11_ring, 7) (some .int) 2 122 [none, none, none, none, none, none, none] [] M M (some (.int r)) := by
        refine ex_iconst (-1) dX11_ring_122 kI_m1 ?_
        cases h
        exact mx_reti .int dX11_ring_123 ⟨rfl, rfl⟩
      clear h
      have key : ∀ (k : Nat) (s : Int32 × Int32), lp (fun s => w_X11_ring_23 a2 M s.1 s.2) k s = some (.inr ()) → XM l E (RX11, "ring", cX11_ring, 7) (some .int) 2 23 [some (.ref 155), none, some (.int a2), some (.int s.1), some (.int s.2), none, none] [] M M (some (.int r)) := lp_ind (P := fun (s : Int32 × Int32) => XM l E (RX11, "ring", cX11_ring, 7) (some .int) 2 23 [some (.ref 155), none, some (.int a2), some (.int s.1), some (.int s.2), none, none] [] M M (some (.int r))) (fun s t hb hk he => by
        obtain ⟨i4, i5⟩ := s
        show XM l E (RX11, "ring", cX11_ring, 7) (some .int) 2 23 [some (.ref 155), none, some (.int a2), some (.int i4), some (.int i5), none, none] [] M M (some (.int r))
        change w_X11_ring_23 a2 M i4 i5 = some t at hb
        unfold w_X11_ring_23 at hb
        refine ex_iload dX11_ring_23 rfl ?_
        refine ex_bipush 6 dX11_ring_25 kB_6 ?_
        refine ex_icmp_ge 122 dX11_ring_27 (by decide) (fun c6 => ?_) (fun c6 => ?_)
        · rw [if_pos c6] at hb
          refine ex_mskL [false, false, false, false, false, false, false] (L2 := [none, none, none, none, none, none, none]) rfl ?_
          cases hb
          cases (he _ rfl) <;> exact hx
        · rw [if_neg c6] at hb
          refine ex_iload_n dX11_ring_30 rfl ?_
          refine ex_iload_n dX11_ring_31 rfl ?_
          refine ex_ishr dX11_ring_32 ?_
          refine ex_iconst 1 dX11_ring_33 kI_1 ?_
          refine ex_iand dX11_ring_34 ?_
          refine ex_iconst 1 dX11_ring_35 kI_1 ?_
          refine ex_icmp_ne 42 dX11_ring_36 (by decide) (fun c7 => ?_) (fun c7 => ?_)
          · rw [if_neg c7] at hb
            refine ex_iload_n dX11_ring_42 rfl ?_
            refine ex_istore (L2 := [some (.ref 155), none, some (.int a2), some (.int i4), some (.int i5), some (.int i4), none]) dX11_ring_43 (by decide) rfl ?_
            refine ex_iconst 0 dX11_ring_45 kI_0 ?_
            refine ex_istore (L2 := [some (.ref 155), none, some (.int a2), some (.int i4), some (.int i5), some (.int i4), some (.int 0)]) dX11_ring_46 (by decide) rfl ?_
            refine ex_mskL [true, false, true, true, true, true, true] (L2 := [some (.ref 155), none, some (.int a2), some (.int i4), some (.int i5), some (.int i4), some (.int 0)]) rfl ?_
            obtain ⟨q15, hlq15, hb⟩ := b1E hb
            have hx : XM l E (RX11, "ring", cX11_ring, 7) (some .int) 2 113 [some (.ref 155), none, some (.int a2), none, some (.int i5), some (.int q15), none] [] M M (some (.int r)) := by
              refine ex_iload dX11_ring_113 rfl ?_
              refine ex_istore_n (L2 := [some (.ref 155), none, some (.int a2), some (.int q15), some (.int i5), some (.int q15), none]) dX11_ring_115 (by decide) rfl ?_
              refine ex_iinc 1 (L2 := [some (.ref 155), none, some (.int a2), some (.int q15), some (.int (i5 + 1)), some (.int q15), none]) dX11_ring_116 rfl kI_1 (by decide) rfl ?_
              refine ex_goto 23 dX11_ring_119 (by decide) ?_
              refine ex_mskL [true, false, true, true, true, false, false] (L2 := [some (.ref 155), none, some (.int a2), some (.int q15), some (.int (i5 + 1)), none, none]) rfl ?_
              cases hb
              exact hk (q15, (i5 + 1)) rfl
            clear hb
            have key : ∀ (k : Nat) (s : Int32 × Int32), lp (fun s => w_X11_ring_48 M i4 s.1 s.2) k s = some q15 → XM l E (RX11, "ring", cX11_ring, 7) (some .int) 2 48 [some (.ref 155), none, some (.int a2), some (.int i4), some (.int i5), some (.int s.1), some (.int s.2)] [] M M (some (.int r)) := lp_ind (P := fun (s : Int32 × Int32) => XM l E (RX11, "ring", cX11_ring, 7) (some .int) 2 48 [some (.ref 155), none, some (.int a2), some (.int i4), some (.int i5), some (.int s.1), some (.int s.2)] [] M M (some (.int r))) (fun s t hb hk he => by
              obtain ⟨i8, i9⟩ := s
              show XM l E (RX11, "ring", cX11_ring, 7) (some .int) 2 48 [some (.ref 155), none, some (.int a2), some (.int i4), some (.int i5), some (.int i8), some (.int i9)] [] M M (some (.int r))
              change w_X11_ring_48 M i4 i8 i9 = some t at hb
              unfold w_X11_ring_48 at hb
              refine ex_iload dX11_ring_48 rfl ?_
              refine ex_aload_n dX11_ring_50 rfl ?_
              refine mx_getr 11 156 dX11_ring_51 fl_X11_7 oc_at_155 (rf_11_0 oc_at_155) ?_
              refine ex_bipush 90 dX11_ring_54 kB_90 ?_
              refine mx_iald (M 156 90) dX11_ring_56 (rdc_156_90 _) ?_
              refine ex_icmp_ge 113 dX11_ring_57 (by decide) (fun c10 => ?_) (fun c10 => ?_)
              · rw [if_pos c10] at hb
                refine ex_mskL [true, false, true, false, true, true, false] (L2 := [some (.ref 155), none, some (.int a2), none, some (.int i5), some (.int i8), none]) rfl ?_
                cases hb
                cases (he _ rfl) <;> exact hx
              · rw [if_neg c10] at hb
                refine ex_iload dX11_ring_60 rfl ?_
                refine ex_iload_n dX11_ring_62 rfl ?_
                refine ex_aload_n dX11_ring_63 rfl ?_
                refine mx_getr 11 156 dX11_ring_64 fl_X11_7 oc_at_155 (rf_11_0 oc_at_155) ?_
                refine ex_sipush 337 dX11_ring_67 kS_337 ?_
                refine ex_iconst 4 dX11_ring_70 kI_4 ?_
                refine ex_iload dX11_ring_71 rfl ?_
                refine ex_imul dX11_ring_73 ?_
                refine ex_iadd dX11_ring_74 ?_
                obtain ⟨x11, qx11, hb⟩ := b1E hb
                refine mx_iald x11 dX11_ring_75 qx11 ?_
                refine ex_ishr dX11_ring_76 ?_
                refine ex_iconst 1 dX11_ring_77 kI_1 ?_
                refine ex_iand dX11_ring_78 ?_
                refine ex_iconst 1 dX11_ring_79 kI_1 ?_
                refine ex_icmp_ne 103 dX11_ring_80 (by decide) (fun c12 => ?_) (fun c12 => ?_)
                · rw [if_neg c12] at hb
                  refine ex_iconst 0 dX11_ring_103 kI_0 ?_
                  refine ex_ior dX11_ring_104 ?_
                  refine ex_istore (L2 := [some (.ref 155), none, some (.int a2), some (.int i4), some (.int i5), some (.int (i8 ||| 0)), some (.int i9)]) dX11_ring_105 (by decide) rfl ?_
                  refine ex_iinc 1 (L2 := [some (.ref 155), none, some (.int a2), some (.int i4), some (.int i5), some (.int (i8 ||| 0)), some (.int (i9 + 1))]) dX11_ring_107 rfl kI_1 (by decide) rfl ?_
                  refine ex_goto 48 dX11_ring_110 (by decide) ?_
                  refine ex_mskL [true, false, true, true, true, true, true] (L2 := [some (.ref 155), none, some (.int a2), some (.int i4), some (.int i5), some (.int (i8 ||| 0)), some (.int (i9 + 1))]) rfl ?_
                  cases hb
                  exact hk ((i8 ||| 0), (i9 + 1)) rfl
                · rw [if_pos c12] at hb
                  refine ex_iconst 1 dX11_ring_83 kI_1 ?_
                  refine ex_aload_n dX11_ring_84 rfl ?_
                  refine mx_getr 11 156 dX11_ring_85 fl_X11_7 oc_at_155 (rf_11_0 oc_at_155) ?_
                  refine ex_sipush 337 dX11_ring_88 kS_337 ?_
                  refine ex_iconst 4 dX11_ring_91 kI_4 ?_
                  refine ex_iload dX11_ring_92 rfl ?_
                  refine ex_imul dX11_ring_94 ?_
                  refine ex_iadd dX11_ring_95 ?_
                  refine ex_iconst 1 dX11_ring_96 kI_1 ?_
                  refine ex_iadd dX11_ring_97 ?_
                  obtain ⟨x13, qx13, hb⟩ := b1E hb
                  refine mx_iald x13 dX11_ring_98 qx13 ?_
                  refine ex_ishl dX11_ring_99 ?_
                  refine ex_goto 104 dX11_ring_100 (by decide) ?_
                  refine ex_ior dX11_ring_104 ?_
                  obtain ⟨x14, ex14, hb⟩ := ltE hb
                  rw [← ex14]
                  refine ex_istore (L2 := [some (.ref 155), none, some (.int a2), some (.int i4), some (.int i5), some (.int x14), some (.int i9)]) dX11_ring_105 (by decide) rfl ?_
                  refine ex_iinc 1 (L2 := [some (.ref 155), none, some (.int a2), some (.int i4), some (.int i5), some (.int x14), some (.int (i9 + 1))]) dX11_ring_107 rfl kI_1 (by decide) rfl ?_
                  refine ex_goto 48 dX11_ring_110 (by decide) ?_
                  refine ex_mskL [true, false, true, true, true, true, true] (L2 := [some (.ref 155), none, some (.int a2), some (.int i4), some (.int i5), some (.int x14), some (.int (i9 + 1))]) rfl ?_
                  cases hb
                  exact hk (x14, (i9 + 1)) rfl)
            exact key FU (i4, 0) hlq15
          · rw [if_pos c7] at hb
            refine ex_mskL [false, false, false, false, true, false, false] (L2 := [none, none, none, none, some (.int i5), none, none]) rfl ?_
            cases hb
            cases (he _ rfl) <;> exact hx)
      exact key FU ((1 <<< (a1 &&& 31)), 0) hlq16
  clear h
  refine ex_if_eq 14 dX11_ring_4 (by decide) (fun c1 => ?_) (fun c1 => ?_)
  · exact JXC3 (Or.inl c1)
  · refine ex_iload_n dX11_ring_7 rfl ?_
    refine mx_cSi [.int a2] [] (f_X11_isOne a2) dX11_ring_8 cl_X11_436 sm_X11_isOne rfl (Nat.le_of_ble_eq_true rfl) (by decide) (t_X11_isOne l E a2 M rfl) ?_
    refine ex_if_ne 16 dX11_ring_11 (by decide) (fun c2 => ?_) (fun c2 => ?_)
    · refine ex_iconst 1 dX11_ring_16 kI_1 ?_
      refine ex_iload_n dX11_ring_17 rfl ?_
      refine ex_ishl dX11_ring_18 ?_
      exact JYC3 (fun z => z.elim c1 c2)
    · exact JXC3 (Or.inr c2)
def w_X11_backFrom_27 (r_X11_backFrom : Int32 → Int32 → Int32 → Int64 → Int64 → Mem → Option (Int32)) (a1 : Int32) (a2 : Int32) (a3 : Int32) (a4 : Int64) (a5 : Int64) (M : Mem) (i5 : Int32) (i6 : Int32) : Option ((Int32 × Int32) ⊕ (Int32)) :=
  if (M 156 90) ≤ i6 then (some (.inr i5)) else (if ((a3 >>> (i6 &&& 31)) &&& 1) = 0 then (b1 (rd M 156 (337 + (4 * i6))) fun x9 => if x9 = a1 then (b1 (rd M 156 ((337 + (4 * i6)) + 1)) fun x11 => b1 (rd M 156 ((337 + (4 * i6)) + 2)) fun x12 => b1 (rd M 156 ((337 + (4 * i6)) + 3)) fun x13 => b1 (r_X11_backFrom x11 a2 (a3 ||| (1 <<< (i6 &&& 31))) (a4 * x12.toInt64) (a5 * x13.toInt64) M) fun x14 => lt (f_X11_lesser i5 (1 + x14)) fun x15 => some (.inl (x15, (i6 + 1)))) else (some (.inl (i5, (i6 + 1))))) else (some (.inl (i5, (i6 + 1)))))
def F_X11_backFrom (r_X11_backFrom : Int32 → Int32 → Int32 → Int64 → Int64 → Mem → Option (Int32)) (a1 : Int32) (a2 : Int32) (a3 : Int32) (a4 : Int64) (a5 : Int64) (M : Mem) : Option (Int32) :=
  if (a3 = 0 ∨ (¬ (a1 = a2) ∨ (lg_cmp a5 a4) ≤ 0)) then (b1 (lp (fun s => w_X11_backFrom_27 r_X11_backFrom a1 a2 a3 a4 a5 M s.1 s.2) FU (100000, 0)) fun q16 => some q16) else (some 0)
set_option maxRecDepth 100000 in
set_option maxHeartbeats 4000000 in
theorem T_X11_backFrom (l : Launch) (E : EV) (n : Nat) (r_X11_backFrom : Int32 → Int32 → Int32 → Int64 → Int64 → Mem → Option (Int32)) (h_X11_backFrom : ∀ (a1 : Int32) (a2 : Int32) (a3 : Int32) (a4 : Int64) (a5 : Int64) (M : Mem) {r : Int32}, r_X11_backFrom a1 a2 a3 a4 a5 M = some r → RunM l E yX11_backFrom cX11_backFrom 11 (some .int) (n + 1) [.ref 155, .int a1, .int a2, .int a3, .long a4, .long a5] M M (some (.int r))) (a1 : Int32) (a2 : Int32) (a3 : Int32) (a4 : Int64) (a5 : Int64) (M : Mem) {r : Int32} (h : F_X11_backFrom r_X11_backFrom a1 a2 a3 a4 a5 M = some r) : RunM l E yX11_backFrom cX11_backFrom 11 (some .int) (n + 2) [.ref 155, .int a1, .int a2, .int a3, .long a4, .long a5] M M (some (.int r)) := by
  refine RunM.of (by decide) (Nat.le_of_ble_eq_true rfl) ?_
  show XM l E (RX11, "backFrom", cX11_backFrom, 11) (some .int) (n + 2) 0 [some (.ref 155), some (.int a1), some (.int a2), some (.int a3), some (.long a4), none, some (.long a5), none, none, none, none] [] M M (some (.int r))
  unfold F_X11_backFrom at h
  refine ex_iload_n dX11_backFrom_0 rfl ?_
  have JXC4 : (a3 = 0 ∨ (¬ (a1 = a2) ∨ (lg_cmp a5 a4) ≤ 0)) → XM l E (RX11, "backFrom", cX11_backFrom, 11) (some .int) (n + 2) 19 [some (.ref 155), some (.int a1), some (.int a2), some (.int a3), some (.long a4), none, some (.long a5), none, none, none, none] [] M M (some (.int r)) := fun C4 => by
    rw [if_pos C4] at h
    refine ex_ldcw 100000 dX11_backFrom_19 (tb (i := 1829) (by decide +kernel)) ?_
    refine ex_istore (L2 := [some (.ref 155), some (.int a1), some (.int a2), some (.int a3), some (.long a4), none, some (.long a5), none, some (.int 100000), none, none]) dX11_backFrom_22 (by decide) rfl ?_
    refine ex_iconst 0 dX11_backFrom_24 kI_0 ?_
    refine ex_istore (L2 := [some (.ref 155), some (.int a1), some (.int a2), some (.int a3), some (.long a4), none, some (.long a5), none, some (.int 100000), some (.int 0), none]) dX11_backFrom_25 (by decide) rfl ?_
    refine ex_mskL [true, true, true, true, true, false, true, false, true, true, false] (L2 := [some (.ref 155), some (.int a1), some (.int a2), some (.int a3), some (.long a4), none, some (.long a5), none, some (.int 100000), some (.int 0), none]) rfl ?_
    obtain ⟨q16, hlq16, h⟩ := b1E h
    have hx : XM l E (RX11, "backFrom", cX11_backFrom, 11) (some .int) (n + 2) 130 [none, none, none, none, none, none, none, none, some (.int q16), none, none] [] M M (some (.int r)) := by
      refine ex_iload dX11_backFrom_130 rfl ?_
      cases h
      exact mx_reti .int dX11_backFrom_132 ⟨rfl, rfl⟩
    clear h
    have key : ∀ (k : Nat) (s : Int32 × Int32), lp (fun s => w_X11_backFrom_27 r_X11_backFrom a1 a2 a3 a4 a5 M s.1 s.2) k s = some q16 → XM l E (RX11, "backFrom", cX11_backFrom, 11) (some .int) (n + 2) 27 [some (.ref 155), some (.int a1), some (.int a2), some (.int a3), some (.long a4), none, some (.long a5), none, some (.int s.1), some (.int s.2), none] [] M M (some (.int r)) := lp_ind (P := fun (s : Int32 × Int32) => XM l E (RX11, "backFrom", cX11_backFrom, 11) (some .int) (n + 2) 27 [some (.ref 155), some (.int a1), some (.int a2), some (.int a3), some (.long a4), none, some (.long a5), none, some (.int s.1), some (.int s.2), none] [] M M (some (.int r))) (fun s t hb hk he => by
      obtain ⟨i5, i6⟩ := s
      show XM l E (RX11, "backFrom", cX11_backFrom, 11) (some .int) (n + 2) 27 [some (.ref 155), some (.int a1), some (.int a2), some (.int a3), some (.long a4), none, some (.long a5), none, some (.int i5), some (.int i6), none] [] M M (some (.int r))
      change w_X11_backFrom_27 r_X11_backFrom a1 a2 a3 a4 a5 M i5 i6 = some t at hb
      unfold w_X11_backFrom_27 at hb
      refine ex_iload dX11_backFrom_27 rfl ?_
      refine ex_aload_n dX11_backFrom_29 rfl ?_
      refine mx_getr 11 156 dX11_backFrom_30 fl_X11_7 oc_at_155 (rf_11_0 oc_at_155) ?_
      refine ex_bipush 90 dX11_backFrom_33 kB_90 ?_
      refine mx_iald (M 156 90) dX11_backFrom_35 (rdc_156_90 _) ?_
      refine ex_icmp_ge 130 dX11_backFrom_36 (by decide) (fun c7 => ?_) (fun c7 => ?_)
      · rw [if_pos c7] at hb
        refine ex_mskL [false, false, false, false, false, false, false, false, true, false, false] (L2 := [none, none, none, none, none, none, none, none, some (.int i5), none, none]) rfl ?_
        cases hb
        cases (he _ rfl) <;> exact hx
      · rw [if_neg c7] at hb
        refine ex_sipush 337 dX11_backFrom_39 kS_337 ?_
        refine ex_iconst 4 dX11_backFrom_42 kI_4 ?_
        refine ex_iload dX11_backFrom_43 rfl ?_
        refine ex_imul dX11_backFrom_45 ?_
        refine ex_iadd dX11_backFrom_46 ?_
        refine ex_istore (L2 := [some (.ref 155), some (.int a1), some (.int a2), some (.int a3), some (.long a4), none, some (.long a5), none, some (.int i5), some (.int i6), some (.int (337 + (4 * i6)))]) dX11_backFrom_47 (by decide) rfl ?_
        refine ex_iload_n dX11_backFrom_49 rfl ?_
        refine ex_iload dX11_backFrom_50 rfl ?_
        refine ex_ishr dX11_backFrom_52 ?_
        refine ex_iconst 1 dX11_backFrom_53 kI_1 ?_
        refine ex_iand dX11_backFrom_54 ?_
        refine ex_if_ne 124 dX11_backFrom_55 (by decide) (fun c8 => ?_) (fun c8 => ?_)
        · rw [if_neg c8] at hb
          refine ex_iinc 1 (L2 := [some (.ref 155), some (.int a1), some (.int a2), some (.int a3), some (.long a4), none, some (.long a5), none, some (.int i5), some (.int (i6 + 1)), some (.int (337 + (4 * i6)))]) dX11_backFrom_124 rfl kI_1 (by decide) rfl ?_
          refine ex_goto 27 dX11_backFrom_127 (by decide) ?_
          refine ex_mskL [true, true, true, true, true, false, true, false, true, true, false] (L2 := [some (.ref 155), some (.int a1), some (.int a2), some (.int a3), some (.long a4), none, some (.long a5), none, some (.int i5), some (.int (i6 + 1)), none]) rfl ?_
          cases hb
          exact hk (i5, (i6 + 1)) rfl
        · rw [if_pos c8] at hb
          refine ex_aload_n dX11_backFrom_58 rfl ?_
          refine mx_getr 11 156 dX11_backFrom_59 fl_X11_7 oc_at_155 (rf_11_0 oc_at_155) ?_
          refine ex_iload dX11_backFrom_62 rfl ?_
          obtain ⟨x9, qx9, hb⟩ := b1E hb
          refine mx_iald x9 dX11_backFrom_64 qx9 ?_
          refine ex_iload_n dX11_backFrom_65 rfl ?_
          refine ex_icmp_ne 124 dX11_backFrom_66 (by decide) (fun c10 => ?_) (fun c10 => ?_)
          · rw [if_neg c10] at hb
            refine ex_iinc 1 (L2 := [some (.ref 155), some (.int a1), some (.int a2), some (.int a3), some (.long a4), none, some (.long a5), none, some (.int i5), some (.int (i6 + 1)), some (.int (337 + (4 * i6)))]) dX11_backFrom_124 rfl kI_1 (by decide) rfl ?_
            refine ex_goto 27 dX11_backFrom_127 (by decide) ?_
            refine ex_mskL [true, true, true, true, true, false, true, false, true, true, false] (L2 := [some (.ref 155), some (.int a1), some (.int a2), some (.int a3), some (.long a4), none, some (.long a5), none, some (.int i5), some (.int (i6 + 1)), none]) rfl ?_
            cases hb
            exact hk (i5, (i6 + 1)) rfl
          · rw [if_pos c10] at hb
            refine ex_iload dX11_backFrom_69 rfl ?_
            refine ex_iconst 1 dX11_backFrom_71 kI_1 ?_
            refine ex_aload_n dX11_backFrom_72 rfl ?_
            refine ex_aload_n dX11_backFrom_73 rfl ?_
            refine mx_getr 11 156 dX11_backFrom_74 fl_X11_7 oc_at_155 (rf_11_0 oc_at_155) ?_
            refine ex_iload dX11_backFrom_77 rfl ?_
            refine ex_iconst 1 dX11_backFrom_79 kI_1 ?_
            refine ex_iadd dX11_backFrom_80 ?_
            obtain ⟨x11, qx11, hb⟩ := b1E hb
            refine mx_iald x11 dX11_backFrom_81 qx11 ?_
            refine ex_iload_n dX11_backFrom_82 rfl ?_
            refine ex_iload_n dX11_backFrom_83 rfl ?_
            refine ex_iconst 1 dX11_backFrom_84 kI_1 ?_
            refine ex_iload dX11_backFrom_85 rfl ?_
            refine ex_ishl dX11_backFrom_87 ?_
            refine ex_ior dX11_backFrom_88 ?_
            refine ex_lload dX11_backFrom_89 rfl ?_
            refine ex_aload_n dX11_backFrom_91 rfl ?_
            refine mx_getr 11 156 dX11_backFrom_92 fl_X11_7 oc_at_155 (rf_11_0 oc_at_155) ?_
            refine ex_iload dX11_backFrom_95 rfl ?_
            refine ex_iconst 2 dX11_backFrom_97 kI_2 ?_
            refine ex_iadd dX11_backFrom_98 ?_
            obtain ⟨x12, qx12, hb⟩ := b1E hb
            refine mx_iald x12 dX11_backFrom_99 qx12 ?_
            refine ex_i2l dX11_backFrom_100 ?_
            refine ex_lmul dX11_backFrom_101 ?_
            refine ex_lload dX11_backFrom_102 rfl ?_
            refine ex_aload_n dX11_backFrom_104 rfl ?_
            refine mx_getr 11 156 dX11_backFrom_105 fl_X11_7 oc_at_155 (rf_11_0 oc_at_155) ?_
            refine ex_iload dX11_backFrom_108 rfl ?_
            refine ex_iconst 3 dX11_backFrom_110 kI_3 ?_
            refine ex_iadd dX11_backFrom_111 ?_
            obtain ⟨x13, qx13, hb⟩ := b1E hb
            refine mx_iald x13 dX11_backFrom_112 qx13 ?_
            refine ex_i2l dX11_backFrom_113 ?_
            refine ex_lmul dX11_backFrom_114 ?_
            obtain ⟨x14, qx14, hb⟩ := b1E hb
            refine mx_cVi [.int x11, .int a2, .int (a3 ||| (1 <<< (i6 &&& 31))), .long (a4 * x12.toInt64), .long (a5 * x13.toInt64)] [.int 1, .int i5] 155 11 x14 dX11_backFrom_115 cl_X11_439 im_X11_backFrom cy_X11_backFrom oc_at_155 rfl (Nat.le_of_ble_eq_true rfl) (by omega) (h_X11_backFrom x11 a2 (a3 ||| (1 <<< (i6 &&& 31))) (a4 * x12.toInt64) (a5 * x13.toInt64) M qx14) ?_
            refine ex_iadd dX11_backFrom_118 ?_
            refine mx_cSi [.int i5, .int (1 + x14)] [] (f_X11_lesser i5 (1 + x14)) dX11_backFrom_119 cl_X11_288 sm_X11_lesser rfl (Nat.le_of_ble_eq_true rfl) (by omega) (t_X11_lesser l E i5 (1 + x14) M rfl) ?_
            obtain ⟨x15, ex15, hb⟩ := ltE hb
            rw [← ex15]
            refine ex_istore (L2 := [some (.ref 155), some (.int a1), some (.int a2), some (.int a3), some (.long a4), none, some (.long a5), none, some (.int x15), some (.int i6), some (.int (337 + (4 * i6)))]) dX11_backFrom_122 (by decide) rfl ?_
            refine ex_iinc 1 (L2 := [some (.ref 155), some (.int a1), some (.int a2), some (.int a3), some (.long a4), none, some (.long a5), none, some (.int x15), some (.int (i6 + 1)), some (.int (337 + (4 * i6)))]) dX11_backFrom_124 rfl kI_1 (by decide) rfl ?_
            refine ex_goto 27 dX11_backFrom_127 (by decide) ?_
            refine ex_mskL [true, true, true, true, true, false, true, false, true, true, false] (L2 := [some (.ref 155), some (.int a1), some (.int a2), some (.int a3), some (.long a4), none, some (.long a5), none, some (.int x15), some (.int (i6 + 1)), none]) rfl ?_
            cases hb
            exact hk (x15, (i6 + 1)) rfl)
    exact key FU (100000, 0) hlq16
  have JYC4 : ¬ ((a3 = 0 ∨ (¬ (a1 = a2) ∨ (lg_cmp a5 a4) ≤ 0))) → XM l E (RX11, "backFrom", cX11_backFrom, 11) (some .int) (n + 2) 18 [some (.ref 155), some (.int a1), some (.int a2), some (.int a3), some (.long a4), none, some (.long a5), none, none, none, none] [.int 0] M M (some (.int r)) := fun C4 => by
    rw [if_neg C4] at h
    cases h
    exact mx_reti .int dX11_backFrom_18 ⟨rfl, rfl⟩
  clear h
  refine ex_if_eq 19 dX11_backFrom_1 (by decide) (fun c1 => ?_) (fun c1 => ?_)
  · exact JXC4 (Or.inl c1)
  · refine ex_iload_n dX11_backFrom_4 rfl ?_
    refine ex_iload_n dX11_backFrom_5 rfl ?_
    refine ex_icmp_ne 19 dX11_backFrom_6 (by decide) (fun c2 => ?_) (fun c2 => ?_)
    · exact JXC4 (Or.inr (Or.inl c2))
    · refine ex_lload dX11_backFrom_9 rfl ?_
      refine ex_lload dX11_backFrom_11 rfl ?_
      refine ex_lcmp dX11_backFrom_13 ?_
      refine ex_if_le 19 dX11_backFrom_14 (by decide) (fun c3 => ?_) (fun c3 => ?_)
      · exact JXC4 (Or.inr (Or.inr c3))
      · refine ex_iconst 0 dX11_backFrom_17 kI_0 ?_
        exact JYC4 (fun z => z.elim c1 (fun z => z.elim (fun y => y c2) c3))
def gr_X11_backFrom : Nat → (Int32 → Int32 → Int32 → Int64 → Int64 → Mem → Option (Int32))
  | 0 => (fun _ _ _ _ _ _ => none)
  | n + 1 => (F_X11_backFrom (gr_X11_backFrom n))
def f_X11_backFrom (n : Nat) (a1 : Int32) (a2 : Int32) (a3 : Int32) (a4 : Int64) (a5 : Int64) (M : Mem) : Option (Int32) := (gr_X11_backFrom n) a1 a2 a3 a4 a5 M
theorem tg_X11_backFrom (l : Launch) (E : EV) : ∀ n : Nat, (∀ (a1 : Int32) (a2 : Int32) (a3 : Int32) (a4 : Int64) (a5 : Int64) (M : Mem) {r : Int32}, f_X11_backFrom n a1 a2 a3 a4 a5 M = some r → RunM l E yX11_backFrom cX11_backFrom 11 (some .int) (n + 1) [.ref 155, .int a1, .int a2, .int a3, .long a4, .long a5] M M (some (.int r)))
  | 0 => (by intros; rename_i h; cases h)
  | n + 1 => by
    have ih := tg_X11_backFrom l E n
    refine ?_
    intro a1 a2 a3 a4 a5 M r h
    exact T_X11_backFrom l E n _ ih a1 a2 a3 a4 a5 M h
theorem t_X11_backFrom (l : Launch) (E : EV) (n : Nat) (a1 : Int32) (a2 : Int32) (a3 : Int32) (a4 : Int64) (a5 : Int64) (M : Mem) {r : Int32} (h : f_X11_backFrom n a1 a2 a3 a4 a5 M = some r) : RunM l E yX11_backFrom cX11_backFrom 11 (some .int) (n + 1) [.ref 155, .int a1, .int a2, .int a3, .long a4, .long a5] M M (some (.int r)) := (tg_X11_backFrom l E n) a1 a2 a3 a4 a5 M h
def f_X11_back (a1 : Int32) (M : Mem) : Option (Int32) :=
  if (f_X11_isOne a1) = 0 then (some (-1)) else (b1 (f_X11_backFrom 40 a1 a1 0 1 1 M) fun x2 => lt ((if x2 < 100000 then x2 else (-1)) : Int32) fun x4 => some x4)
set_option maxRecDepth 100000 in
set_option maxHeartbeats 4000000 in
theorem t_X11_back (l : Launch) (E : EV) (a1 : Int32) (M : Mem) {r : Int32} (h : f_X11_back a1 M = some r) : RunM l E yX11_back cX11_back 3 (some .int) 42 [.ref 155, .int a1] M M (some (.int r)) := by
  refine RunM.of (by decide) (Nat.le_of_ble_eq_true rfl) ?_
  show XM l E (RX11, "back", cX11_back, 3) (some .int) 42 0 [some (.ref 155), some (.int a1), none] [] M M (some (.int r))
  unfold f_X11_back at h
  refine ex_iload_n dX11_back_0 rfl ?_
  refine mx_cSi [.int a1] [] (f_X11_isOne a1) dX11_back_1 cl_X11_436 sm_X11_isOne rfl (Nat.le_of_ble_eq_true rfl) (by decide) (t_X11_isOne l E a1 M rfl) ?_
  refine ex_if_ne 9 dX11_back_4 (by decide) (fun c1 => ?_) (fun c1 => ?_)
  · rw [if_neg c1] at h
    refine ex_aload_n dX11_back_9 rfl ?_
    refine ex_iload_n dX11_back_10 rfl ?_
    refine ex_iload_n dX11_back_11 rfl ?_
    refine ex_iconst 0 dX11_back_12 kI_0 ?_
    refine ex_lconst 1 dX11_back_13 (by decide) ?_
    refine ex_lconst 1 dX11_back_14 (by decide) ?_
    obtain ⟨x2, qx2, h⟩ := b1E h
    refine mx_cVi [.int a1, .int a1, .int 0, .long 1, .long 1] [] 155 11 x2 dX11_back_15 cl_X11_439 im_X11_backFrom cy_X11_backFrom oc_at_155 rfl (Nat.le_of_ble_eq_true rfl) (by decide) (t_X11_backFrom l E 40 a1 a1 0 1 1 M qx2) ?_
    refine ex_istore_n (L2 := [some (.ref 155), some (.int a1), some (.int x2)]) dX11_back_18 (by decide) rfl ?_
    refine ex_iload_n dX11_back_19 rfl ?_
    refine ex_ldcw 100000 dX11_back_20 (tb (i := 1829) (by decide +kernel)) ?_
    obtain ⟨x4, ex4, h⟩ := ltE h
    have Jx4 : XM l E (RX11, "back", cX11_back, 3) (some .int) 42 31 [some (.ref 155), some (.int a1), some (.int x2)] [.int x4] M M (some (.int r)) := by
      cases h
      exact mx_reti .int dX11_back_31 ⟨rfl, rfl⟩
    clear h
    refine ex_icmp_lt 30 dX11_back_23 (by decide) (fun c3 => ?_) (fun c3 => ?_)
    · rw [if_pos c3] at ex4
      refine ex_iload_n dX11_back_30 rfl ?_
      subst ex4
      exact Jx4
    · rw [if_neg c3] at ex4
      refine ex_iconst (-1) dX11_back_26 kI_m1 ?_
      refine ex_goto 31 dX11_back_27 (by decide) ?_
      subst ex4
      exact Jx4
  · rw [if_pos c1] at h
    refine ex_iconst (-1) dX11_back_7 kI_m1 ?_
    cases h
    exact mx_reti .int dX11_back_8 ⟨rfl, rfl⟩
def w_X11_image_15 (a1 : Int32) (i4 : Int32) (M5 : Mem) : Option ((Int32 × Mem) ⊕ (Mem)) :=
  if 1856 ≤ i4 then (some (.inr M5)) else (if a1 = 0 then (b1 (rd M5 157 i4) fun x8 => b1 (wr M5 156 i4 x8) fun M9 => some (.inl ((i4 + 1), M9))) else (b1 (rd M5 156 i4) fun x10 => b1 (wr M5 157 i4 x10) fun M11 => some (.inl ((i4 + 1), M11))))
def f_X11_image (a1 : Int32) (M : Mem) : Option (Mem × Int32) :=
  if (a1 = 0 ∧ (M 155 5) = 0) then (some (M, 0)) else (b1 (lp (fun s => w_X11_image_15 a1 s.1 s.2) FU (0, M)) fun q12 => if a1 = 0 then (lt (f_X11_forgets q12) fun M15 => lt (up2 M15 155 5 1) fun M16 => some (M16, 1)) else (lt (up2 q12 155 5 1) fun M14 => some (M14, 1)))
set_option maxRecDepth 100000 in
set_option maxHeartbeats 4000000 in
theorem t_X11_image (l : Launch) (E : EV) (a1 : Int32) (M : Mem) {M' : Mem} {r : Int32} (h : f_X11_image a1 M = some (M', r)) : RunM l E yX11_image cX11_image 3 (some .boolean) 1 [.ref 155, .int a1] M M' (some (.int r)) := by
  refine RunM.of (by decide) (Nat.le_of_ble_eq_true rfl) ?_
  show XM l E (RX11, "image", cX11_image, 3) (some .boolean) 1 0 [some (.ref 155), some (.int a1), none] [] M M' (some (.int r))
  unfold f_X11_image at h
  refine ex_iload_n dX11_image_0 rfl ?_
  have JXC3 : (a1 = 0 ∧ (M 155 5) = 0) → XM l E (RX11, "image", cX11_image, 3) (some .boolean) 1 12 [some (.ref 155), some (.int a1), none] [.int 0] M M' (some (.int r)) := fun C3 => by
    rw [if_pos C3] at h
    cases h
    exact mx_reti .boolean dX11_image_12 ⟨rfl, by decide⟩
  have JYC3 : ¬ ((a1 = 0 ∧ (M 155 5) = 0)) → XM l E (RX11, "image", cX11_image, 3) (some .boolean) 1 13 [some (.ref 155), some (.int a1), none] [] M M' (some (.int r)) := fun C3 => by
    rw [if_neg C3] at h
    refine ex_iconst 0 dX11_image_13 kI_0 ?_
    refine ex_istore_n (L2 := [some (.ref 155), some (.int a1), some (.int 0)]) dX11_image_14 (by decide) rfl ?_
    refine ex_mskL [true, true, true] (L2 := [some (.ref 155), some (.int a1), some (.int 0)]) rfl ?_
    obtain ⟨q12, hlq12, h⟩ := b1E h
    have hx : XM l E (RX11, "image", cX11_image, 3) (some .boolean) 1 59 [some (.ref 155), some (.int a1), none] [] q12 M' (some (.int r)) := by
      refine ex_iload_n dX11_image_59 rfl ?_
      refine ex_if_ne 67 dX11_image_60 (by decide) (fun c13 => ?_) (fun c13 => ?_)
      · rw [if_neg c13] at h
        refine ex_aload_n dX11_image_67 rfl ?_
        refine ex_iconst 1 dX11_image_68 kI_1 ?_
        obtain ⟨M14, eM14, h⟩ := ltE h
        refine mx_puti 11 dX11_image_69 fl_X11_443 rfl ⟨by decide, rfl⟩ oc_at_155 (isi_11_5 oc_at_155) ?_
        rw [← eM14]
        refine ex_iconst 1 dX11_image_72 kI_1 ?_
        cases h
        exact mx_reti .boolean dX11_image_73 ⟨rfl, by decide⟩
      · rw [if_pos c13] at h
        refine ex_aload_n dX11_image_63 rfl ?_
        obtain ⟨M15, eM15, h⟩ := ltE h
        refine mx_cVv [] [] 155 11 dX11_image_64 cl_X11_64 im_X11_forgets cy_X11_forgets oc_at_155 rfl (Nat.le_of_ble_eq_true rfl) (by decide) (t_X11_forgets l E q12 eM15.symm) ?_
        refine ex_aload_n dX11_image_67 rfl ?_
        refine ex_iconst 1 dX11_image_68 kI_1 ?_
        obtain ⟨M16, eM16, h⟩ := ltE h
        refine mx_puti 11 dX11_image_69 fl_X11_443 rfl ⟨by decide, rfl⟩ oc_at_155 (isi_11_5 oc_at_155) ?_
        rw [← eM16]
        refine ex_iconst 1 dX11_image_72 kI_1 ?_
        cases h
        exact mx_reti .boolean dX11_image_73 ⟨rfl, by decide⟩
    clear h
    have key : ∀ (k : Nat) (s : Int32 × Mem), lp (fun s => w_X11_image_15 a1 s.1 s.2) k s = some q12 → XM l E (RX11, "image", cX11_image, 3) (some .boolean) 1 15 [some (.ref 155), some (.int a1), some (.int s.1)] [] s.2 M' (some (.int r)) := lp_ind (P := fun (s : Int32 × Mem) => XM l E (RX11, "image", cX11_image, 3) (some .boolean) 1 15 [some (.ref 155), some (.int a1), some (.int s.1)] [] s.2 M' (some (.int r))) (fun s t hb hk he => by
      obtain ⟨i4, M5⟩ := s
      show XM l E (RX11, "image", cX11_image, 3) (some .boolean) 1 15 [some (.ref 155), some (.int a1), some (.int i4)] [] M5 M' (some (.int r))
      change w_X11_image_15 a1 i4 M5 = some t at hb
      unfold w_X11_image_15 at hb
      refine ex_iload_n dX11_image_15 rfl ?_
      refine ex_sipush 1856 dX11_image_16 kS_1856 ?_
      refine ex_icmp_ge 59 dX11_image_19 (by decide) (fun c6 => ?_) (fun c6 => ?_)
      · rw [if_pos c6] at hb
        refine ex_mskL [true, true, false] (L2 := [some (.ref 155), some (.int a1), none]) rfl ?_
        cases hb
        cases (he _ rfl) <;> exact hx
      · rw [if_neg c6] at hb
        refine ex_iload_n dX11_image_22 rfl ?_
        refine ex_if_eq 41 dX11_image_23 (by decide) (fun c7 => ?_) (fun c7 => ?_)
        · rw [if_pos c7] at hb
          refine ex_aload_n dX11_image_41 rfl ?_
          refine mx_getr 11 156 dX11_image_42 fl_X11_7 oc_at_155 (rf_11_0 oc_at_155) ?_
          refine ex_iload_n dX11_image_45 rfl ?_
          refine ex_aload_n dX11_image_46 rfl ?_
          refine mx_getr 11 157 dX11_image_47 fl_X11_13 oc_at_155 (rf_11_1 oc_at_155) ?_
          refine ex_iload_n dX11_image_50 rfl ?_
          obtain ⟨x8, qx8, hb⟩ := b1E hb
          refine mx_iald x8 dX11_image_51 qx8 ?_
          obtain ⟨M9, qM9, hb⟩ := b1E hb
          refine mx_iast M9 dX11_image_52 qM9 ?_
          refine ex_iinc 1 (L2 := [some (.ref 155), some (.int a1), some (.int (i4 + 1))]) dX11_image_53 rfl kI_1 (by decide) rfl ?_
          refine ex_goto 15 dX11_image_56 (by decide) ?_
          refine ex_mskL [true, true, true] (L2 := [some (.ref 155), some (.int a1), some (.int (i4 + 1))]) rfl ?_
          cases hb
          exact hk ((i4 + 1), M9) rfl
        · rw [if_neg c7] at hb
          refine ex_aload_n dX11_image_26 rfl ?_
          refine mx_getr 11 157 dX11_image_27 fl_X11_13 oc_at_155 (rf_11_1 oc_at_155) ?_
          refine ex_iload_n dX11_image_30 rfl ?_
          refine ex_aload_n dX11_image_31 rfl ?_
          refine mx_getr 11 156 dX11_image_32 fl_X11_7 oc_at_155 (rf_11_0 oc_at_155) ?_
          refine ex_iload_n dX11_image_35 rfl ?_
          obtain ⟨x10, qx10, hb⟩ := b1E hb
          refine mx_iald x10 dX11_image_36 qx10 ?_
          obtain ⟨M11, qM11, hb⟩ := b1E hb
          refine mx_iast M11 dX11_image_37 qM11 ?_
          refine ex_goto 53 dX11_image_38 (by decide) ?_
          refine ex_iinc 1 (L2 := [some (.ref 155), some (.int a1), some (.int (i4 + 1))]) dX11_image_53 rfl kI_1 (by decide) rfl ?_
          refine ex_goto 15 dX11_image_56 (by decide) ?_
          refine ex_mskL [true, true, true] (L2 := [some (.ref 155), some (.int a1), some (.int (i4 + 1))]) rfl ?_
          cases hb
          exact hk ((i4 + 1), M11) rfl)
    exact key FU (0, M) hlq12
  clear h
  refine ex_if_ne 13 dX11_image_1 (by decide) (fun c1 => ?_) (fun c1 => ?_)
  · exact JYC3 (fun z => c1 z.1)
  · refine ex_aload_n dX11_image_4 rfl ?_
    refine mx_geti 11 dX11_image_5 fl_X11_443 oc_at_155 (isi_11_5 oc_at_155) ?_
    refine ex_if_ne 13 dX11_image_8 (by decide) (fun c2 => ?_) (fun c2 => ?_)
    · exact JYC3 (fun z => c2 z.2)
    · refine ex_iconst 0 dX11_image_11 kI_0 ?_
      exact JXC3 ⟨c1, c2⟩
def f_X11_look (a1 : Int32) (M : Mem) : Option (Int32) :=
  if a1.toInt < 0 ∨ 18 < a1.toInt then (some (-1000000)) else if a1 = 0 then (some (M 156 80)) else if a1 = 1 then (some (M 156 0)) else if a1 = 2 then (some (M 156 7)) else if a1 = 3 then (some (M 156 1)) else if a1 = 4 then (some (M 156 2)) else if a1 = 5 then (some (M 156 3)) else if a1 = 6 then (some (M 156 81)) else if a1 = 7 then (some (M 156 82)) else if a1 = 8 then (some (M 156 5)) else if a1 = 9 then (some (M 156 4)) else if a1 = 10 then (some (M 156 83)) else if a1 = 11 then (some (M 156 84)) else if a1 = 12 then (some (M 156 85)) else if a1 = 13 then (some (M 156 86)) else if a1 = 14 then (some (M 155 4)) else if a1 = 15 then (some (M 156 87)) else if a1 = 16 then (some (M 156 88)) else if a1 = 17 then (some (M 156 89)) else if a1 = 18 then (some (M 156 90)) else none
set_option maxRecDepth 100000 in
set_option maxHeartbeats 4000000 in
theorem t_X11_look (l : Launch) (E : EV) (a1 : Int32) (M : Mem) {r : Int32} (h : f_X11_look a1 M = some r) : RunM l E yX11_look cX11_look 2 (some .int) 0 [.ref 155, .int a1] M M (some (.int r)) := by
  refine RunM.of (by decide) (Nat.le_of_ble_eq_true rfl) ?_
  show XM l E (RX11, "look", cX11_look, 2) (some .int) 0 0 [some (.ref 155), some (.int a1)] [] M M (some (.int r))
  unfold f_X11_look at h
  refine ex_iload_n dX11_look_0 rfl ?_
  by_cases c1 : a1.toInt < 0 ∨ 18 < a1.toInt
  · rw [if_pos c1] at h
    refine ex_tswO 235 dX11_look_1 c1 (by decide) ?_
    refine ex_ldcw (-1000000) dX11_look_235 (tb (i := 1920) (by decide +kernel)) ?_
    cases h
    exact mx_reti .int dX11_look_238 ⟨rfl, rfl⟩
  rw [if_neg c1] at h
  by_cases c2 : a1 = 0
  · rw [if_pos c2] at h
    refine ex_tswI 0 (91) 92 dX11_look_1 c2 (by decide) (by decide) ?_
    refine ex_aload_n dX11_look_92 rfl ?_
    refine mx_getr 11 156 dX11_look_93 fl_X11_7 oc_at_155 (rf_11_0 oc_at_155) ?_
    refine ex_bipush 80 dX11_look_96 kB_80 ?_
    refine mx_iald (M 156 80) dX11_look_98 (rdc_156_80 _) ?_
    cases h
    exact mx_reti .int dX11_look_99 ⟨rfl, rfl⟩
  rw [if_neg c2] at h
  by_cases c3 : a1 = 1
  · rw [if_pos c3] at h
    refine ex_tswI 1 (99) 100 dX11_look_1 c3 (by decide) (by decide) ?_
    refine ex_aload_n dX11_look_100 rfl ?_
    refine mx_getr 11 156 dX11_look_101 fl_X11_7 oc_at_155 (rf_11_0 oc_at_155) ?_
    refine ex_iconst 0 dX11_look_104 kI_0 ?_
    refine mx_iald (M 156 0) dX11_look_105 (rdc_156_0 _) ?_
    cases h
    exact mx_reti .int dX11_look_106 ⟨rfl, rfl⟩
  rw [if_neg c3] at h
  by_cases c4 : a1 = 2
  · rw [if_pos c4] at h
    refine ex_tswI 2 (106) 107 dX11_look_1 c4 (by decide) (by decide) ?_
    refine ex_aload_n dX11_look_107 rfl ?_
    refine mx_getr 11 156 dX11_look_108 fl_X11_7 oc_at_155 (rf_11_0 oc_at_155) ?_
    refine ex_bipush 7 dX11_look_111 kB_7 ?_
    refine mx_iald (M 156 7) dX11_look_113 (rdc_156_7 _) ?_
    cases h
    exact mx_reti .int dX11_look_114 ⟨rfl, rfl⟩
  rw [if_neg c4] at h
  by_cases c5 : a1 = 3
  · rw [if_pos c5] at h
    refine ex_tswI 3 (114) 115 dX11_look_1 c5 (by decide) (by decide) ?_
    refine ex_aload_n dX11_look_115 rfl ?_
    refine mx_getr 11 156 dX11_look_116 fl_X11_7 oc_at_155 (rf_11_0 oc_at_155) ?_
    refine ex_iconst 1 dX11_look_119 kI_1 ?_
    refine mx_iald (M 156 1) dX11_look_120 (rdc_156_1 _) ?_
    cases h
    exact mx_reti .int dX11_look_121 ⟨rfl, rfl⟩
  rw [if_neg c5] at h
  by_cases c6 : a1 = 4
  · rw [if_pos c6] at h
    refine ex_tswI 4 (121) 122 dX11_look_1 c6 (by decide) (by decide) ?_
    refine ex_aload_n dX11_look_122 rfl ?_
    refine mx_getr 11 156 dX11_look_123 fl_X11_7 oc_at_155 (rf_11_0 oc_at_155) ?_
    refine ex_iconst 2 dX11_look_126 kI_2 ?_
    refine mx_iald (M 156 2) dX11_look_127 (rdc_156_2 _) ?_
    cases h
    exact mx_reti .int dX11_look_128 ⟨rfl, rfl⟩
  rw [if_neg c6] at h
  by_cases c7 : a1 = 5
  · rw [if_pos c7] at h
    refine ex_tswI 5 (128) 129 dX11_look_1 c7 (by decide) (by decide) ?_
    refine ex_aload_n dX11_look_129 rfl ?_
    refine mx_getr 11 156 dX11_look_130 fl_X11_7 oc_at_155 (rf_11_0 oc_at_155) ?_
    refine ex_iconst 3 dX11_look_133 kI_3 ?_
    refine mx_iald (M 156 3) dX11_look_134 (rdc_156_3 _) ?_
    cases h
    exact mx_reti .int dX11_look_135 ⟨rfl, rfl⟩
  rw [if_neg c7] at h
  by_cases c8 : a1 = 6
  · rw [if_pos c8] at h
    refine ex_tswI 6 (135) 136 dX11_look_1 c8 (by decide) (by decide) ?_
    refine ex_aload_n dX11_look_136 rfl ?_
    refine mx_getr 11 156 dX11_look_137 fl_X11_7 oc_at_155 (rf_11_0 oc_at_155) ?_
    refine ex_bipush 81 dX11_look_140 kB_81 ?_
    refine mx_iald (M 156 81) dX11_look_142 (rdc_156_81 _) ?_
    cases h
    exact mx_reti .int dX11_look_143 ⟨rfl, rfl⟩
  rw [if_neg c8] at h
  by_cases c9 : a1 = 7
  · rw [if_pos c9] at h
    refine ex_tswI 7 (143) 144 dX11_look_1 c9 (by decide) (by decide) ?_
    refine ex_aload_n dX11_look_144 rfl ?_
    refine mx_getr 11 156 dX11_look_145 fl_X11_7 oc_at_155 (rf_11_0 oc_at_155) ?_
    refine ex_bipush 82 dX11_look_148 kB_82 ?_
    refine mx_iald (M 156 82) dX11_look_150 (rdc_156_82 _) ?_
    cases h
    exact mx_reti .int dX11_look_151 ⟨rfl, rfl⟩
  rw [if_neg c9] at h
  by_cases c10 : a1 = 8
  · rw [if_pos c10] at h
    refine ex_tswI 8 (151) 152 dX11_look_1 c10 (by decide) (by decide) ?_
    refine ex_aload_n dX11_look_152 rfl ?_
    refine mx_getr 11 156 dX11_look_153 fl_X11_7 oc_at_155 (rf_11_0 oc_at_155) ?_
    refine ex_iconst 5 dX11_look_156 kI_5 ?_
    refine mx_iald (M 156 5) dX11_look_157 (rdc_156_5 _) ?_
    cases h
    exact mx_reti .int dX11_look_158 ⟨rfl, rfl⟩
  rw [if_neg c10] at h
  by_cases c11 : a1 = 9
  · rw [if_pos c11] at h
    refine ex_tswI 9 (158) 159 dX11_look_1 c11 (by decide) (by decide) ?_
    refine ex_aload_n dX11_look_159 rfl ?_
    refine mx_getr 11 156 dX11_look_160 fl_X11_7 oc_at_155 (rf_11_0 oc_at_155) ?_
    refine ex_iconst 4 dX11_look_163 kI_4 ?_
    refine mx_iald (M 156 4) dX11_look_164 (rdc_156_4 _) ?_
    cases h
    exact mx_reti .int dX11_look_165 ⟨rfl, rfl⟩
  rw [if_neg c11] at h
  by_cases c12 : a1 = 10
  · rw [if_pos c12] at h
    refine ex_tswI 10 (165) 166 dX11_look_1 c12 (by decide) (by decide) ?_
    refine ex_aload_n dX11_look_166 rfl ?_
    refine mx_getr 11 156 dX11_look_167 fl_X11_7 oc_at_155 (rf_11_0 oc_at_155) ?_
    refine ex_bipush 83 dX11_look_170 kB_83 ?_
    refine mx_iald (M 156 83) dX11_look_172 (rdc_156_83 _) ?_
    cases h
    exact mx_reti .int dX11_look_173 ⟨rfl, rfl⟩
  rw [if_neg c12] at h
  by_cases c13 : a1 = 11
  · rw [if_pos c13] at h
    refine ex_tswI 11 (173) 174 dX11_look_1 c13 (by decide) (by decide) ?_
    refine ex_aload_n dX11_look_174 rfl ?_
    refine mx_getr 11 156 dX11_look_175 fl_X11_7 oc_at_155 (rf_11_0 oc_at_155) ?_
    refine ex_bipush 84 dX11_look_178 kB_84 ?_
    refine mx_iald (M 156 84) dX11_look_180 (rdc_156_84 _) ?_
    cases h
    exact mx_reti .int dX11_look_181 ⟨rfl, rfl⟩
  rw [if_neg c13] at h
  by_cases c14 : a1 = 12
  · rw [if_pos c14] at h
    refine ex_tswI 12 (181) 182 dX11_look_1 c14 (by decide) (by decide) ?_
    refine ex_aload_n dX11_look_182 rfl ?_
    refine mx_getr 11 156 dX11_look_183 fl_X11_7 oc_at_155 (rf_11_0 oc_at_155) ?_
    refine ex_bipush 85 dX11_look_186 kB_85 ?_
    refine mx_iald (M 156 85) dX11_look_188 (rdc_156_85 _) ?_
    cases h
    exact mx_reti .int dX11_look_189 ⟨rfl, rfl⟩
  rw [if_neg c14] at h
  by_cases c15 : a1 = 13
  · rw [if_pos c15] at h
    refine ex_tswI 13 (189) 190 dX11_look_1 c15 (by decide) (by decide) ?_
    refine ex_aload_n dX11_look_190 rfl ?_
    refine mx_getr 11 156 dX11_look_191 fl_X11_7 oc_at_155 (rf_11_0 oc_at_155) ?_
    refine ex_bipush 86 dX11_look_194 kB_86 ?_
    refine mx_iald (M 156 86) dX11_look_196 (rdc_156_86 _) ?_
    cases h
    exact mx_reti .int dX11_look_197 ⟨rfl, rfl⟩
  rw [if_neg c15] at h
  by_cases c16 : a1 = 14
  · rw [if_pos c16] at h
    refine ex_tswI 14 (197) 198 dX11_look_1 c16 (by decide) (by decide) ?_
    refine ex_aload_n dX11_look_198 rfl ?_
    refine mx_geti 11 dX11_look_199 fl_X11_61 oc_at_155 (isi_11_4 oc_at_155) ?_
    cases h
    exact mx_reti .int dX11_look_202 ⟨rfl, rfl⟩
  rw [if_neg c16] at h
  by_cases c17 : a1 = 15
  · rw [if_pos c17] at h
    refine ex_tswI 15 (202) 203 dX11_look_1 c17 (by decide) (by decide) ?_
    refine ex_aload_n dX11_look_203 rfl ?_
    refine mx_getr 11 156 dX11_look_204 fl_X11_7 oc_at_155 (rf_11_0 oc_at_155) ?_
    refine ex_bipush 87 dX11_look_207 kB_87 ?_
    refine mx_iald (M 156 87) dX11_look_209 (rdc_156_87 _) ?_
    cases h
    exact mx_reti .int dX11_look_210 ⟨rfl, rfl⟩
  rw [if_neg c17] at h
  by_cases c18 : a1 = 16
  · rw [if_pos c18] at h
    refine ex_tswI 16 (210) 211 dX11_look_1 c18 (by decide) (by decide) ?_
    refine ex_aload_n dX11_look_211 rfl ?_
    refine mx_getr 11 156 dX11_look_212 fl_X11_7 oc_at_155 (rf_11_0 oc_at_155) ?_
    refine ex_bipush 88 dX11_look_215 kB_88 ?_
    refine mx_iald (M 156 88) dX11_look_217 (rdc_156_88 _) ?_
    cases h
    exact mx_reti .int dX11_look_218 ⟨rfl, rfl⟩
  rw [if_neg c18] at h
  by_cases c19 : a1 = 17
  · rw [if_pos c19] at h
    refine ex_tswI 17 (218) 219 dX11_look_1 c19 (by decide) (by decide) ?_
    refine ex_aload_n dX11_look_219 rfl ?_
    refine mx_getr 11 156 dX11_look_220 fl_X11_7 oc_at_155 (rf_11_0 oc_at_155) ?_
    refine ex_bipush 89 dX11_look_223 kB_89 ?_
    refine mx_iald (M 156 89) dX11_look_225 (rdc_156_89 _) ?_
    cases h
    exact mx_reti .int dX11_look_226 ⟨rfl, rfl⟩
  rw [if_neg c19] at h
  by_cases c20 : a1 = 18
  · rw [if_pos c20] at h
    refine ex_tswI 18 (226) 227 dX11_look_1 c20 (by decide) (by decide) ?_
    refine ex_aload_n dX11_look_227 rfl ?_
    refine mx_getr 11 156 dX11_look_228 fl_X11_7 oc_at_155 (rf_11_0 oc_at_155) ?_
    refine ex_bipush 90 dX11_look_231 kB_90 ?_
    refine mx_iald (M 156 90) dX11_look_233 (rdc_156_90 _) ?_
    cases h
    exact mx_reti .int dX11_look_234 ⟨rfl, rfl⟩
  rw [if_neg c20] at h
  cases h
