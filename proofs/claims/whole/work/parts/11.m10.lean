def w_X11_says_3 (a1 : Int32) (i1 : Int32) (M2 : Mem) : Option ((Int32 × Mem) ⊕ ((Int32 × Mem) ⊕ (Mem))) :=
  if (M2 156 83) ≤ i1 then (some (.inr (.inr M2))) else (b1 (rd M2 156 (1018 + i1)) fun x4 => if x4 = a1 then (b2 (f_X11_isSo i1 M2) fun M6 x7 => if x7 = 0 then (some (.inl ((i1 + 1), M6))) else (some (.inr (.inl (i1, M6))))) else (some (.inl ((i1 + 1), M2))))
def f_X11_says (a1 : Int32) (a2 : Int32) (a3 : Int32) (M : Mem) : Option (Mem × Int32) :=
  b1 (lp (fun s => w_X11_says_3 a1 s.1 s.2) FU (0, M)) fun q9 => match q9 with | .inl u10 => (b1 (rd u10.2 156 (970 + u10.1)) fun x13 => b1 (rd u10.2 156 (986 + u10.1)) fun x14 => b2 (f_X11_comesTo 0 x13 x14 u10.2) fun M15 x16 => some (M15, (f_X11_greater 0 (f_X11_lesser a3 x16)))) | .inr u17 => (some (u17, (f_X11_greater 0 (f_X11_lesser a3 a2))))
set_option maxRecDepth 100000 in
set_option maxHeartbeats 4000000 in
theorem t_X11_says (l : Launch) (E : EV) (a1 : Int32) (a2 : Int32) (a3 : Int32) (M : Mem) {M' : Mem} {r : Int32} (h : f_X11_says a1 a2 a3 M = some (M', r)) : RunM l E yX11_says cX11_says 5 (some .int) 3 [.ref 155, .int a1, .int a2, .int a3] M M' (some (.int r)) := by
  refine RunM.of (by decide) (Nat.le_of_ble_eq_true rfl) ?_
  show XM l E (RX11, "says", cX11_says, 5) (some .int) 3 0 [some (.ref 155), some (.int a1), some (.int a2), some (.int a3), none] [] M M' (some (.int r))
  unfold f_X11_says at h
  refine ex_iconst 0 dX11_says_0 kI_0 ?_
  refine ex_istore (L2 := [some (.ref 155), some (.int a1), some (.int a2), some (.int a3), some (.int 0)]) dX11_says_1 (by decide) rfl ?_
  refine ex_mskL [true, true, true, true, true] (L2 := [some (.ref 155), some (.int a1), some (.int a2), some (.int a3), some (.int 0)]) rfl ?_
  obtain ⟨q9, hlq9, h⟩ := b1E h
  rcases q9 with ⟨y11, M12⟩ | u17
  · dsimp only at h
    have hx : XM l E (RX11, "says", cX11_says, 5) (some .int) 3 39 [some (.ref 155), none, none, some (.int a3), some (.int y11)] [] M12 M' (some (.int r)) := by
      refine ex_iconst 0 dX11_says_39 kI_0 ?_
      refine ex_iload_n dX11_says_40 rfl ?_
      refine ex_aload_n dX11_says_41 rfl ?_
      refine ex_iconst 0 dX11_says_42 kI_0 ?_
      refine ex_aload_n dX11_says_43 rfl ?_
      refine mx_getr 11 156 dX11_says_44 fl_X11_7 oc_at_155 (rf_11_0 oc_at_155) ?_
      refine ex_sipush 970 dX11_says_47 kS_970 ?_
      refine ex_iload dX11_says_50 rfl ?_
      refine ex_iadd dX11_says_52 ?_
      obtain ⟨x13, qx13, h⟩ := b1E h
      refine mx_iald x13 dX11_says_53 qx13 ?_
      refine ex_aload_n dX11_says_54 rfl ?_
      refine mx_getr 11 156 dX11_says_55 fl_X11_7 oc_at_155 (rf_11_0 oc_at_155) ?_
      refine ex_sipush 986 dX11_says_58 kS_986 ?_
      refine ex_iload dX11_says_61 rfl ?_
      refine ex_iadd dX11_says_63 ?_
      obtain ⟨x14, qx14, h⟩ := b1E h
      refine mx_iald x14 dX11_says_64 qx14 ?_
      obtain ⟨M15, x16, qx16, h⟩ := b2E h
      refine mx_cVi [.int 0, .int x13, .int x14] [.int a3, .int 0] 155 11 x16 dX11_says_65 cl_X11_282 im_X11_comesTo cy_X11_comesTo oc_at_155 rfl (Nat.le_of_ble_eq_true rfl) (by decide) (t_X11_comesTo l E 0 x13 x14 M12 qx16) ?_
      refine mx_cSi [.int a3, .int x16] [.int 0] (f_X11_lesser a3 x16) dX11_says_68 cl_X11_288 sm_X11_lesser rfl (Nat.le_of_ble_eq_true rfl) (by decide) (t_X11_lesser l E a3 x16 M15 rfl) ?_
      refine mx_cSi [.int 0, .int (f_X11_lesser a3 x16)] [] (f_X11_greater 0 (f_X11_lesser a3 x16)) dX11_says_71 cl_X11_291 sm_X11_greater rfl (Nat.le_of_ble_eq_true rfl) (by decide) (t_X11_greater l E 0 (f_X11_lesser a3 x16) M15 rfl) ?_
      cases h
      exact mx_reti .int dX11_says_74 ⟨rfl, rfl⟩
    clear h
    have key : ∀ (k : Nat) (s : Int32 × Mem), lp (fun s => w_X11_says_3 a1 s.1 s.2) k s = some (.inl (y11, M12)) → XM l E (RX11, "says", cX11_says, 5) (some .int) 3 3 [some (.ref 155), some (.int a1), some (.int a2), some (.int a3), some (.int s.1)] [] s.2 M' (some (.int r)) := lp_ind (P := fun (s : Int32 × Mem) => XM l E (RX11, "says", cX11_says, 5) (some .int) 3 3 [some (.ref 155), some (.int a1), some (.int a2), some (.int a3), some (.int s.1)] [] s.2 M' (some (.int r))) (fun s t hb hk he => by
      obtain ⟨i1, M2⟩ := s
      show XM l E (RX11, "says", cX11_says, 5) (some .int) 3 3 [some (.ref 155), some (.int a1), some (.int a2), some (.int a3), some (.int i1)] [] M2 M' (some (.int r))
      change w_X11_says_3 a1 i1 M2 = some t at hb
      unfold w_X11_says_3 at hb
      refine ex_iload dX11_says_3 rfl ?_
      refine ex_aload_n dX11_says_5 rfl ?_
      refine mx_getr 11 156 dX11_says_6 fl_X11_7 oc_at_155 (rf_11_0 oc_at_155) ?_
      refine ex_bipush 83 dX11_says_9 kB_83 ?_
      refine mx_iald (M2 156 83) dX11_says_11 (rdc_156_83 _) ?_
      refine ex_icmp_ge 81 dX11_says_12 (by decide) (fun c3 => ?_) (fun c3 => ?_)
      · rw [if_pos c3] at hb
        refine ex_mskL [false, false, true, true, false] (L2 := [none, none, some (.int a2), some (.int a3), none]) rfl ?_
        cases hb
        cases (he _ rfl) <;> exact hx
      · rw [if_neg c3] at hb
        refine ex_aload_n dX11_says_15 rfl ?_
        refine mx_getr 11 156 dX11_says_16 fl_X11_7 oc_at_155 (rf_11_0 oc_at_155) ?_
        refine ex_sipush 1018 dX11_says_19 kS_1018 ?_
        refine ex_iload dX11_says_22 rfl ?_
        refine ex_iadd dX11_says_24 ?_
        obtain ⟨x4, qx4, hb⟩ := b1E hb
        refine mx_iald x4 dX11_says_25 qx4 ?_
        refine ex_iload_n dX11_says_26 rfl ?_
        refine ex_icmp_ne 75 dX11_says_27 (by decide) (fun c5 => ?_) (fun c5 => ?_)
        · rw [if_neg c5] at hb
          refine ex_iinc 1 (L2 := [some (.ref 155), some (.int a1), some (.int a2), some (.int a3), some (.int (i1 + 1))]) dX11_says_75 rfl kI_1 (by decide) rfl ?_
          refine ex_goto 3 dX11_says_78 (by decide) ?_
          refine ex_mskL [true, true, true, true, true] (L2 := [some (.ref 155), some (.int a1), some (.int a2), some (.int a3), some (.int (i1 + 1))]) rfl ?_
          cases hb
          exact hk ((i1 + 1), M2) rfl
        · rw [if_pos c5] at hb
          refine ex_aload_n dX11_says_30 rfl ?_
          refine ex_iload dX11_says_31 rfl ?_
          obtain ⟨M6, x7, qx7, hb⟩ := b2E hb
          refine mx_cVi [.int i1] [] 155 11 x7 dX11_says_33 cl_X11_285 im_X11_isSo cy_X11_isSo oc_at_155 rfl (Nat.le_of_ble_eq_true rfl) (by decide) (t_X11_isSo l E i1 M2 qx7) ?_
          refine ex_if_eq 75 dX11_says_36 (by decide) (fun c8 => ?_) (fun c8 => ?_)
          · rw [if_pos c8] at hb
            refine ex_iinc 1 (L2 := [some (.ref 155), some (.int a1), some (.int a2), some (.int a3), some (.int (i1 + 1))]) dX11_says_75 rfl kI_1 (by decide) rfl ?_
            refine ex_goto 3 dX11_says_78 (by decide) ?_
            refine ex_mskL [true, true, true, true, true] (L2 := [some (.ref 155), some (.int a1), some (.int a2), some (.int a3), some (.int (i1 + 1))]) rfl ?_
            cases hb
            exact hk ((i1 + 1), M6) rfl
          · rw [if_neg c8] at hb
            refine ex_mskL [true, false, false, true, true] (L2 := [some (.ref 155), none, none, some (.int a3), some (.int i1)]) rfl ?_
            cases hb
            cases (he _ rfl) <;> exact hx)
    exact key FU (0, M) hlq9
  · dsimp only at h
    have hx : XM l E (RX11, "says", cX11_says, 5) (some .int) 3 81 [none, none, some (.int a2), some (.int a3), none] [] u17 M' (some (.int r)) := by
      refine ex_iconst 0 dX11_says_81 kI_0 ?_
      refine ex_iload_n dX11_says_82 rfl ?_
      refine ex_iload_n dX11_says_83 rfl ?_
      refine mx_cSi [.int a3, .int a2] [.int 0] (f_X11_lesser a3 a2) dX11_says_84 cl_X11_288 sm_X11_lesser rfl (Nat.le_of_ble_eq_true rfl) (by decide) (t_X11_lesser l E a3 a2 u17 rfl) ?_
      refine mx_cSi [.int 0, .int (f_X11_lesser a3 a2)] [] (f_X11_greater 0 (f_X11_lesser a3 a2)) dX11_says_87 cl_X11_291 sm_X11_greater rfl (Nat.le_of_ble_eq_true rfl) (by decide) (t_X11_greater l E 0 (f_X11_lesser a3 a2) u17 rfl) ?_
      cases h
      exact mx_reti .int dX11_says_90 ⟨rfl, rfl⟩
    clear h
    have key : ∀ (k : Nat) (s : Int32 × Mem), lp (fun s => w_X11_says_3 a1 s.1 s.2) k s = some (.inr u17) → XM l E (RX11, "says", cX11_says, 5) (some .int) 3 3 [some (.ref 155), some (.int a1), some (.int a2), some (.int a3), some (.int s.1)] [] s.2 M' (some (.int r)) := lp_ind (P := fun (s : Int32 × Mem) => XM l E (RX11, "says", cX11_says, 5) (some .int) 3 3 [some (.ref 155), some (.int a1), some (.int a2), some (.int a3), some (.int s.1)] [] s.2 M' (some (.int r))) (fun s t hb hk he => by
      obtain ⟨i1, M2⟩ := s
      show XM l E (RX11, "says", cX11_says, 5) (some .int) 3 3 [some (.ref 155), some (.int a1), some (.int a2), some (.int a3), some (.int i1)] [] M2 M' (some (.int r))
      change w_X11_says_3 a1 i1 M2 = some t at hb
      unfold w_X11_says_3 at hb
      refine ex_iload dX11_says_3 rfl ?_
      refine ex_aload_n dX11_says_5 rfl ?_
      refine mx_getr 11 156 dX11_says_6 fl_X11_7 oc_at_155 (rf_11_0 oc_at_155) ?_
      refine ex_bipush 83 dX11_says_9 kB_83 ?_
      refine mx_iald (M2 156 83) dX11_says_11 (rdc_156_83 _) ?_
      refine ex_icmp_ge 81 dX11_says_12 (by decide) (fun c3 => ?_) (fun c3 => ?_)
      · rw [if_pos c3] at hb
        refine ex_mskL [false, false, true, true, false] (L2 := [none, none, some (.int a2), some (.int a3), none]) rfl ?_
        cases hb
        cases (he _ rfl) <;> exact hx
      · rw [if_neg c3] at hb
        refine ex_aload_n dX11_says_15 rfl ?_
        refine mx_getr 11 156 dX11_says_16 fl_X11_7 oc_at_155 (rf_11_0 oc_at_155) ?_
        refine ex_sipush 1018 dX11_says_19 kS_1018 ?_
        refine ex_iload dX11_says_22 rfl ?_
        refine ex_iadd dX11_says_24 ?_
        obtain ⟨x4, qx4, hb⟩ := b1E hb
        refine mx_iald x4 dX11_says_25 qx4 ?_
        refine ex_iload_n dX11_says_26 rfl ?_
        refine ex_icmp_ne 75 dX11_says_27 (by decide) (fun c5 => ?_) (fun c5 => ?_)
        · rw [if_neg c5] at hb
          refine ex_iinc 1 (L2 := [some (.ref 155), some (.int a1), some (.int a2), some (.int a3), some (.int (i1 + 1))]) dX11_says_75 rfl kI_1 (by decide) rfl ?_
          refine ex_goto 3 dX11_says_78 (by decide) ?_
          refine ex_mskL [true, true, true, true, true] (L2 := [some (.ref 155), some (.int a1), some (.int a2), some (.int a3), some (.int (i1 + 1))]) rfl ?_
          cases hb
          exact hk ((i1 + 1), M2) rfl
        · rw [if_pos c5] at hb
          refine ex_aload_n dX11_says_30 rfl ?_
          refine ex_iload dX11_says_31 rfl ?_
          obtain ⟨M6, x7, qx7, hb⟩ := b2E hb
          refine mx_cVi [.int i1] [] 155 11 x7 dX11_says_33 cl_X11_285 im_X11_isSo cy_X11_isSo oc_at_155 rfl (Nat.le_of_ble_eq_true rfl) (by decide) (t_X11_isSo l E i1 M2 qx7) ?_
          refine ex_if_eq 75 dX11_says_36 (by decide) (fun c8 => ?_) (fun c8 => ?_)
          · rw [if_pos c8] at hb
            refine ex_iinc 1 (L2 := [some (.ref 155), some (.int a1), some (.int a2), some (.int a3), some (.int (i1 + 1))]) dX11_says_75 rfl kI_1 (by decide) rfl ?_
            refine ex_goto 3 dX11_says_78 (by decide) ?_
            refine ex_mskL [true, true, true, true, true] (L2 := [some (.ref 155), some (.int a1), some (.int a2), some (.int a3), some (.int (i1 + 1))]) rfl ?_
            cases hb
            exact hk ((i1 + 1), M6) rfl
          · rw [if_neg c8] at hb
            refine ex_mskL [true, false, false, true, true] (L2 := [some (.ref 155), none, none, some (.int a3), some (.int i1)]) rfl ?_
            cases hb
            cases (he _ rfl) <;> exact hx)
    exact key FU (0, M) hlq9
def f_X11_laysFeast (a1 : Int32) (a2 : Int32) (M : Mem) : Option (Mem) :=
  lt (up2 M 165 1 a1) fun M1 => b1 (f_X11_wholeOf a1 M1) fun x2 => lt (up2 M1 165 2 x2) fun M3 => lt (up2 M3 165 3 a2) fun M4 => lt (up2 M4 165 4 0) fun M5 => lt (up2 M5 165 5 0) fun M6 => lt (up2 M6 165 6 0) fun M7 => lt (up2 M7 165 7 (M7 156 0)) fun M8 => some M8
set_option maxRecDepth 100000 in
set_option maxHeartbeats 4000000 in
theorem t_X11_laysFeast (l : Launch) (E : EV) (a1 : Int32) (a2 : Int32) (M : Mem) {M' : Mem} (h : f_X11_laysFeast a1 a2 M = some M') : RunM l E yX11_laysFeast cX11_laysFeast 3 none 1 [.ref 155, .int a1, .int a2] M M' none := by
  refine RunM.of (by decide) (Nat.le_of_ble_eq_true rfl) ?_
  show XM l E (RX11, "laysFeast", cX11_laysFeast, 3) none 1 0 [some (.ref 155), some (.int a1), some (.int a2)] [] M M' none
  unfold f_X11_laysFeast at h
  refine ex_aload_n dX11_laysFeast_0 rfl ?_
  refine mx_getr 11 165 dX11_laysFeast_1 fl_X11_37 oc_at_155 (rf_11_11 oc_at_155) ?_
  refine ex_iconst 1 dX11_laysFeast_4 kI_1 ?_
  refine ex_iload_n dX11_laysFeast_5 rfl ?_
  obtain ⟨M1, eM1, h⟩ := ltE h
  refine mx_iast M1 dX11_laysFeast_6 ((wrc_165_1 _ _).trans (congrArg some eM1.symm)) ?_
  refine ex_aload_n dX11_laysFeast_7 rfl ?_
  refine mx_getr 11 165 dX11_laysFeast_8 fl_X11_37 oc_at_155 (rf_11_11 oc_at_155) ?_
  refine ex_iconst 2 dX11_laysFeast_11 kI_2 ?_
  refine ex_aload_n dX11_laysFeast_12 rfl ?_
  refine ex_iload_n dX11_laysFeast_13 rfl ?_
  obtain ⟨x2, qx2, h⟩ := b1E h
  refine mx_cVi [.int a1] [.int 2, .ref 165] 155 11 x2 dX11_laysFeast_14 cl_X11_294 im_X11_wholeOf cy_X11_wholeOf oc_at_155 rfl (Nat.le_of_ble_eq_true rfl) (by decide) (t_X11_wholeOf l E a1 M1 qx2) ?_
  obtain ⟨M3, eM3, h⟩ := ltE h
  refine mx_iast M3 dX11_laysFeast_17 ((wrc_165_2 _ _).trans (congrArg some eM3.symm)) ?_
  refine ex_aload_n dX11_laysFeast_18 rfl ?_
  refine mx_getr 11 165 dX11_laysFeast_19 fl_X11_37 oc_at_155 (rf_11_11 oc_at_155) ?_
  refine ex_iconst 3 dX11_laysFeast_22 kI_3 ?_
  refine ex_iload_n dX11_laysFeast_23 rfl ?_
  obtain ⟨M4, eM4, h⟩ := ltE h
  refine mx_iast M4 dX11_laysFeast_24 ((wrc_165_3 _ _).trans (congrArg some eM4.symm)) ?_
  refine ex_aload_n dX11_laysFeast_25 rfl ?_
  refine mx_getr 11 165 dX11_laysFeast_26 fl_X11_37 oc_at_155 (rf_11_11 oc_at_155) ?_
  refine ex_iconst 4 dX11_laysFeast_29 kI_4 ?_
  refine ex_iconst 0 dX11_laysFeast_30 kI_0 ?_
  obtain ⟨M5, eM5, h⟩ := ltE h
  refine mx_iast M5 dX11_laysFeast_31 ((wrc_165_4 _ _).trans (congrArg some eM5.symm)) ?_
  refine ex_aload_n dX11_laysFeast_32 rfl ?_
  refine mx_getr 11 165 dX11_laysFeast_33 fl_X11_37 oc_at_155 (rf_11_11 oc_at_155) ?_
  refine ex_iconst 5 dX11_laysFeast_36 kI_5 ?_
  refine ex_iconst 0 dX11_laysFeast_37 kI_0 ?_
  obtain ⟨M6, eM6, h⟩ := ltE h
  refine mx_iast M6 dX11_laysFeast_38 ((wrc_165_5 _ _).trans (congrArg some eM6.symm)) ?_
  refine ex_aload_n dX11_laysFeast_39 rfl ?_
  refine mx_getr 11 165 dX11_laysFeast_40 fl_X11_37 oc_at_155 (rf_11_11 oc_at_155) ?_
  refine ex_bipush 6 dX11_laysFeast_43 kB_6 ?_
  refine ex_iconst 0 dX11_laysFeast_45 kI_0 ?_
  obtain ⟨M7, eM7, h⟩ := ltE h
  refine mx_iast M7 dX11_laysFeast_46 ((wrc_165_6 _ _).trans (congrArg some eM7.symm)) ?_
  refine ex_aload_n dX11_laysFeast_47 rfl ?_
  refine mx_getr 11 165 dX11_laysFeast_48 fl_X11_37 oc_at_155 (rf_11_11 oc_at_155) ?_
  refine ex_bipush 7 dX11_laysFeast_51 kB_7 ?_
  refine ex_aload_n dX11_laysFeast_53 rfl ?_
  refine mx_getr 11 156 dX11_laysFeast_54 fl_X11_7 oc_at_155 (rf_11_0 oc_at_155) ?_
  refine ex_iconst 0 dX11_laysFeast_57 kI_0 ?_
  refine mx_iald (M7 156 0) dX11_laysFeast_58 (rdc_156_0 _) ?_
  obtain ⟨M8, eM8, h⟩ := ltE h
  refine mx_iast M8 dX11_laysFeast_59 ((wrc_165_7 _ _).trans (congrArg some eM8.symm)) ?_
  cases h
  exact mx_retv dX11_laysFeast_60 rfl
def f_X11_leftOf (a1 : Int32) (a2 : Int32) (M : Mem) : Option (Mem × Int32) :=
  b1 (f_X11_laysFeast a1 a2 M) fun M1 => b1 (f_X11_wholeOf a1 M1) fun x2 => b1 (f_X11_wholeOf a1 M1) fun x3 => b2 (f_X11_says 20 (x2 - (5 * a2)) (x3 - 1) M1) fun M4 x5 => some (M4, x5)
set_option maxRecDepth 100000 in
set_option maxHeartbeats 4000000 in
theorem t_X11_leftOf (l : Launch) (E : EV) (a1 : Int32) (a2 : Int32) (M : Mem) {M' : Mem} {r : Int32} (h : f_X11_leftOf a1 a2 M = some (M', r)) : RunM l E yX11_leftOf cX11_leftOf 3 (some .int) 4 [.ref 155, .int a1, .int a2] M M' (some (.int r)) := by
  refine RunM.of (by decide) (Nat.le_of_ble_eq_true rfl) ?_
  show XM l E (RX11, "leftOf", cX11_leftOf, 3) (some .int) 4 0 [some (.ref 155), some (.int a1), some (.int a2)] [] M M' (some (.int r))
  unfold f_X11_leftOf at h
  refine ex_aload_n dX11_leftOf_0 rfl ?_
  refine ex_iload_n dX11_leftOf_1 rfl ?_
  refine ex_iload_n dX11_leftOf_2 rfl ?_
  obtain ⟨M1, qM1, h⟩ := b1E h
  refine mx_cVv [.int a1, .int a2] [] 155 11 dX11_leftOf_3 cl_X11_297 im_X11_laysFeast cy_X11_laysFeast oc_at_155 rfl (Nat.le_of_ble_eq_true rfl) (by decide) (t_X11_laysFeast l E a1 a2 M qM1) ?_
  refine ex_aload_n dX11_leftOf_6 rfl ?_
  refine ex_bipush 20 dX11_leftOf_7 kB_20 ?_
  refine ex_aload_n dX11_leftOf_9 rfl ?_
  refine ex_iload_n dX11_leftOf_10 rfl ?_
  obtain ⟨x2, qx2, h⟩ := b1E h
  refine mx_cVi [.int a1] [.int 20, .ref 155] 155 11 x2 dX11_leftOf_11 cl_X11_294 im_X11_wholeOf cy_X11_wholeOf oc_at_155 rfl (Nat.le_of_ble_eq_true rfl) (by decide) (t_X11_wholeOf l E a1 M1 qx2) ?_
  refine ex_iconst 5 dX11_leftOf_14 kI_5 ?_
  refine ex_iload_n dX11_leftOf_15 rfl ?_
  refine ex_imul dX11_leftOf_16 ?_
  refine ex_isub dX11_leftOf_17 ?_
  refine ex_aload_n dX11_leftOf_18 rfl ?_
  refine ex_iload_n dX11_leftOf_19 rfl ?_
  obtain ⟨x3, qx3, h⟩ := b1E h
  refine mx_cVi [.int a1] [.int (x2 - (5 * a2)), .int 20, .ref 155] 155 11 x3 dX11_leftOf_20 cl_X11_294 im_X11_wholeOf cy_X11_wholeOf oc_at_155 rfl (Nat.le_of_ble_eq_true rfl) (by decide) (t_X11_wholeOf l E a1 M1 qx3) ?_
  refine ex_iconst 1 dX11_leftOf_23 kI_1 ?_
  refine ex_isub dX11_leftOf_24 ?_
  obtain ⟨M4, x5, qx5, h⟩ := b2E h
  refine mx_cVi [.int 20, .int (x2 - (5 * a2)), .int (x3 - 1)] [] 155 11 x5 dX11_leftOf_25 cl_X11_300 im_X11_says cy_X11_says oc_at_155 rfl (Nat.le_of_ble_eq_true rfl) (by decide) (t_X11_says l E 20 (x2 - (5 * a2)) (x3 - 1) M1 qx5) ?_
  cases h
  exact mx_reti .int dX11_leftOf_28 ⟨rfl, rfl⟩
def f_X11_edgeOf (a1 : Int32) (a2 : Int32) (M : Mem) : Option (Mem × Int32) :=
  b1 (f_X11_laysFeast a1 a2 M) fun M1 => b2 (f_X11_says 23 3 9 M1) fun M2 x3 => some (M2, x3)
set_option maxRecDepth 100000 in
set_option maxHeartbeats 4000000 in
theorem t_X11_edgeOf (l : Launch) (E : EV) (a1 : Int32) (a2 : Int32) (M : Mem) {M' : Mem} {r : Int32} (h : f_X11_edgeOf a1 a2 M = some (M', r)) : RunM l E yX11_edgeOf cX11_edgeOf 3 (some .int) 4 [.ref 155, .int a1, .int a2] M M' (some (.int r)) := by
  refine RunM.of (by decide) (Nat.le_of_ble_eq_true rfl) ?_
  show XM l E (RX11, "edgeOf", cX11_edgeOf, 3) (some .int) 4 0 [some (.ref 155), some (.int a1), some (.int a2)] [] M M' (some (.int r))
  unfold f_X11_edgeOf at h
  refine ex_aload_n dX11_edgeOf_0 rfl ?_
  refine ex_iload_n dX11_edgeOf_1 rfl ?_
  refine ex_iload_n dX11_edgeOf_2 rfl ?_
  obtain ⟨M1, qM1, h⟩ := b1E h
  refine mx_cVv [.int a1, .int a2] [] 155 11 dX11_edgeOf_3 cl_X11_297 im_X11_laysFeast cy_X11_laysFeast oc_at_155 rfl (Nat.le_of_ble_eq_true rfl) (by decide) (t_X11_laysFeast l E a1 a2 M qM1) ?_
  refine ex_aload_n dX11_edgeOf_6 rfl ?_
  refine ex_bipush 23 dX11_edgeOf_7 kB_23 ?_
  refine ex_iconst 3 dX11_edgeOf_9 kI_3 ?_
  refine ex_bipush 9 dX11_edgeOf_10 kB_9 ?_
  obtain ⟨M2, x3, qx3, h⟩ := b2E h
  refine mx_cVi [.int 23, .int 3, .int 9] [] 155 11 x3 dX11_edgeOf_12 cl_X11_300 im_X11_says cy_X11_says oc_at_155 rfl (Nat.le_of_ble_eq_true rfl) (by decide) (t_X11_says l E 23 3 9 M1 qx3) ?_
  cases h
  exact mx_reti .int dX11_edgeOf_15 ⟨rfl, rfl⟩
def f_X11_laysRemain (a1 : Int32) (a2 : Int32) (M : Mem) : Option (Mem) :=
  b1 (f_X11_ofRemain a1 0 M) fun x1 => b1 (f_X11_laysFeast x1 0 M) fun M2 => b1 (f_X11_ofRemain a1 1 M2) fun x3 => lt (up2 M2 165 4 x3) fun M4 => b1 (f_X11_ageOf a1 M4) fun x5 => lt (up2 M4 165 5 (x5 + a2)) fun M6 => b1 (f_X11_ofRemain a1 3 M6) fun x7 => lt (up2 M6 165 6 x7) fun M8 => lt (up2 M8 165 7 ((M8 156 0) + a2)) fun M9 => some M9
set_option maxRecDepth 100000 in
set_option maxHeartbeats 4000000 in
theorem t_X11_laysRemain (l : Launch) (E : EV) (a1 : Int32) (a2 : Int32) (M : Mem) {M' : Mem} (h : f_X11_laysRemain a1 a2 M = some M') : RunM l E yX11_laysRemain cX11_laysRemain 3 none 2 [.ref 155, .int a1, .int a2] M M' none := by
  refine RunM.of (by decide) (Nat.le_of_ble_eq_true rfl) ?_
  show XM l E (RX11, "laysRemain", cX11_laysRemain, 3) none 2 0 [some (.ref 155), some (.int a1), some (.int a2)] [] M M' none
  unfold f_X11_laysRemain at h
  refine ex_aload_n dX11_laysRemain_0 rfl ?_
  refine ex_aload_n dX11_laysRemain_1 rfl ?_
  refine ex_iload_n dX11_laysRemain_2 rfl ?_
  refine ex_iconst 0 dX11_laysRemain_3 kI_0 ?_
  obtain ⟨x1, qx1, h⟩ := b1E h
  refine mx_cVi [.int a1, .int 0] [.ref 155] 155 11 x1 dX11_laysRemain_4 cl_X11_57 im_X11_ofRemain cy_X11_ofRemain oc_at_155 rfl (Nat.le_of_ble_eq_true rfl) (by decide) (t_X11_ofRemain l E a1 0 M qx1) ?_
  refine ex_iconst 0 dX11_laysRemain_7 kI_0 ?_
  obtain ⟨M2, qM2, h⟩ := b1E h
  refine mx_cVv [.int x1, .int 0] [] 155 11 dX11_laysRemain_8 cl_X11_297 im_X11_laysFeast cy_X11_laysFeast oc_at_155 rfl (Nat.le_of_ble_eq_true rfl) (by decide) (t_X11_laysFeast l E x1 0 M qM2) ?_
  refine ex_aload_n dX11_laysRemain_11 rfl ?_
  refine mx_getr 11 165 dX11_laysRemain_12 fl_X11_37 oc_at_155 (rf_11_11 oc_at_155) ?_
  refine ex_iconst 4 dX11_laysRemain_15 kI_4 ?_
  refine ex_aload_n dX11_laysRemain_16 rfl ?_
  refine ex_iload_n dX11_laysRemain_17 rfl ?_
  refine ex_iconst 1 dX11_laysRemain_18 kI_1 ?_
  obtain ⟨x3, qx3, h⟩ := b1E h
  refine mx_cVi [.int a1, .int 1] [.int 4, .ref 165] 155 11 x3 dX11_laysRemain_19 cl_X11_57 im_X11_ofRemain cy_X11_ofRemain oc_at_155 rfl (Nat.le_of_ble_eq_true rfl) (by decide) (t_X11_ofRemain l E a1 1 M2 qx3) ?_
  obtain ⟨M4, eM4, h⟩ := ltE h
  refine mx_iast M4 dX11_laysRemain_22 ((wrc_165_4 _ _).trans (congrArg some eM4.symm)) ?_
  refine ex_aload_n dX11_laysRemain_23 rfl ?_
  refine mx_getr 11 165 dX11_laysRemain_24 fl_X11_37 oc_at_155 (rf_11_11 oc_at_155) ?_
  refine ex_iconst 5 dX11_laysRemain_27 kI_5 ?_
  refine ex_aload_n dX11_laysRemain_28 rfl ?_
  refine ex_iload_n dX11_laysRemain_29 rfl ?_
  obtain ⟨x5, qx5, h⟩ := b1E h
  refine mx_cVi [.int a1] [.int 5, .ref 165] 155 11 x5 dX11_laysRemain_30 cl_X11_303 im_X11_ageOf cy_X11_ageOf oc_at_155 rfl (Nat.le_of_ble_eq_true rfl) (by decide) (t_X11_ageOf l E a1 M4 qx5) ?_
  refine ex_iload_n dX11_laysRemain_33 rfl ?_
  refine ex_iadd dX11_laysRemain_34 ?_
  obtain ⟨M6, eM6, h⟩ := ltE h
  refine mx_iast M6 dX11_laysRemain_35 ((wrc_165_5 _ _).trans (congrArg some eM6.symm)) ?_
  refine ex_aload_n dX11_laysRemain_36 rfl ?_
  refine mx_getr 11 165 dX11_laysRemain_37 fl_X11_37 oc_at_155 (rf_11_11 oc_at_155) ?_
  refine ex_bipush 6 dX11_laysRemain_40 kB_6 ?_
  refine ex_aload_n dX11_laysRemain_42 rfl ?_
  refine ex_iload_n dX11_laysRemain_43 rfl ?_
  refine ex_iconst 3 dX11_laysRemain_44 kI_3 ?_
  obtain ⟨x7, qx7, h⟩ := b1E h
  refine mx_cVi [.int a1, .int 3] [.int 6, .ref 165] 155 11 x7 dX11_laysRemain_45 cl_X11_57 im_X11_ofRemain cy_X11_ofRemain oc_at_155 rfl (Nat.le_of_ble_eq_true rfl) (by decide) (t_X11_ofRemain l E a1 3 M6 qx7) ?_
  obtain ⟨M8, eM8, h⟩ := ltE h
  refine mx_iast M8 dX11_laysRemain_48 ((wrc_165_6 _ _).trans (congrArg some eM8.symm)) ?_
  refine ex_aload_n dX11_laysRemain_49 rfl ?_
  refine mx_getr 11 165 dX11_laysRemain_50 fl_X11_37 oc_at_155 (rf_11_11 oc_at_155) ?_
  refine ex_bipush 7 dX11_laysRemain_53 kB_7 ?_
  refine ex_aload_n dX11_laysRemain_55 rfl ?_
  refine mx_getr 11 156 dX11_laysRemain_56 fl_X11_7 oc_at_155 (rf_11_0 oc_at_155) ?_
  refine ex_iconst 0 dX11_laysRemain_59 kI_0 ?_
  refine mx_iald (M8 156 0) dX11_laysRemain_60 (rdc_156_0 _) ?_
  refine ex_iload_n dX11_laysRemain_61 rfl ?_
  refine ex_iadd dX11_laysRemain_62 ?_
  obtain ⟨M9, eM9, h⟩ := ltE h
  refine mx_iast M9 dX11_laysRemain_63 ((wrc_165_7 _ _).trans (congrArg some eM9.symm)) ?_
  cases h
  exact mx_retv dX11_laysRemain_64 rfl
def f_X11_priceOf (a1 : Int32) (a2 : Int32) (M : Mem) : Option (Mem × Int32) :=
  b1 (f_X11_laysRemain a1 a2 M) fun M1 => b1 (f_X11_ofRemain a1 1 M1) fun x2 => b2 (f_X11_says 21 x2 999 M1) fun M3 x4 => some (M3, x4)
set_option maxRecDepth 100000 in
set_option maxHeartbeats 4000000 in
theorem t_X11_priceOf (l : Launch) (E : EV) (a1 : Int32) (a2 : Int32) (M : Mem) {M' : Mem} {r : Int32} (h : f_X11_priceOf a1 a2 M = some (M', r)) : RunM l E yX11_priceOf cX11_priceOf 3 (some .int) 4 [.ref 155, .int a1, .int a2] M M' (some (.int r)) := by
  refine RunM.of (by decide) (Nat.le_of_ble_eq_true rfl) ?_
  show XM l E (RX11, "priceOf", cX11_priceOf, 3) (some .int) 4 0 [some (.ref 155), some (.int a1), some (.int a2)] [] M M' (some (.int r))
  unfold f_X11_priceOf at h
  refine ex_aload_n dX11_priceOf_0 rfl ?_
  refine ex_iload_n dX11_priceOf_1 rfl ?_
  refine ex_iload_n dX11_priceOf_2 rfl ?_
  obtain ⟨M1, qM1, h⟩ := b1E h
  refine mx_cVv [.int a1, .int a2] [] 155 11 dX11_priceOf_3 cl_X11_306 im_X11_laysRemain cy_X11_laysRemain oc_at_155 rfl (Nat.le_of_ble_eq_true rfl) (by decide) (t_X11_laysRemain l E a1 a2 M qM1) ?_
  refine ex_aload_n dX11_priceOf_6 rfl ?_
  refine ex_bipush 21 dX11_priceOf_7 kB_21 ?_
  refine ex_aload_n dX11_priceOf_9 rfl ?_
  refine ex_iload_n dX11_priceOf_10 rfl ?_
  refine ex_iconst 1 dX11_priceOf_11 kI_1 ?_
  obtain ⟨x2, qx2, h⟩ := b1E h
  refine mx_cVi [.int a1, .int 1] [.int 21, .ref 155] 155 11 x2 dX11_priceOf_12 cl_X11_57 im_X11_ofRemain cy_X11_ofRemain oc_at_155 rfl (Nat.le_of_ble_eq_true rfl) (by decide) (t_X11_ofRemain l E a1 1 M1 qx2) ?_
  refine ex_sipush 999 dX11_priceOf_15 kS_999 ?_
  obtain ⟨M3, x4, qx4, h⟩ := b2E h
  refine mx_cVi [.int 21, .int x2, .int 999] [] 155 11 x4 dX11_priceOf_18 cl_X11_300 im_X11_says cy_X11_says oc_at_155 rfl (Nat.le_of_ble_eq_true rfl) (by decide) (t_X11_says l E 21 x2 999 M1 qx4) ?_
  cases h
  exact mx_reti .int dX11_priceOf_21 ⟨rfl, rfl⟩
def f_X11_spoilOf (a1 : Int32) (M : Mem) : Option (Mem × Int32) :=
  b1 (f_X11_laysRemain a1 0 M) fun M1 => b2 (f_X11_says 22 0 1000 M1) fun M2 x3 => some (M2, x3)
set_option maxRecDepth 100000 in
set_option maxHeartbeats 4000000 in
theorem t_X11_spoilOf (l : Launch) (E : EV) (a1 : Int32) (M : Mem) {M' : Mem} {r : Int32} (h : f_X11_spoilOf a1 M = some (M', r)) : RunM l E yX11_spoilOf cX11_spoilOf 2 (some .int) 4 [.ref 155, .int a1] M M' (some (.int r)) := by
  refine RunM.of (by decide) (Nat.le_of_ble_eq_true rfl) ?_
  show XM l E (RX11, "spoilOf", cX11_spoilOf, 2) (some .int) 4 0 [some (.ref 155), some (.int a1)] [] M M' (some (.int r))
  unfold f_X11_spoilOf at h
  refine ex_aload_n dX11_spoilOf_0 rfl ?_
  refine ex_iload_n dX11_spoilOf_1 rfl ?_
  refine ex_iconst 0 dX11_spoilOf_2 kI_0 ?_
  obtain ⟨M1, qM1, h⟩ := b1E h
  refine mx_cVv [.int a1, .int 0] [] 155 11 dX11_spoilOf_3 cl_X11_306 im_X11_laysRemain cy_X11_laysRemain oc_at_155 rfl (Nat.le_of_ble_eq_true rfl) (by decide) (t_X11_laysRemain l E a1 0 M qM1) ?_
  refine ex_aload_n dX11_spoilOf_6 rfl ?_
  refine ex_bipush 22 dX11_spoilOf_7 kB_22 ?_
  refine ex_iconst 0 dX11_spoilOf_9 kI_0 ?_
  refine ex_sipush 1000 dX11_spoilOf_10 kS_1000 ?_
  obtain ⟨M2, x3, qx3, h⟩ := b2E h
  refine mx_cVi [.int 22, .int 0, .int 1000] [] 155 11 x3 dX11_spoilOf_13 cl_X11_300 im_X11_says cy_X11_says oc_at_155 rfl (Nat.le_of_ble_eq_true rfl) (by decide) (t_X11_says l E 22 0 1000 M1 qx3) ?_
  cases h
  exact mx_reti .int dX11_spoilOf_16 ⟨rfl, rfl⟩
def w_X11_keeps_51 (i2 : Int32) (M3 : Mem) : Option ((Int32 × Mem) ⊕ (Mem)) :=
  if 80 ≤ i2 then (some (.inr M3)) else (b1 (rd M3 156 i2) fun x5 => b1 (wr M3 158 ((80 * (M3 155 4)) + i2) x5) fun M6 => some (.inl ((i2 + 1), M6)))
def w_X11_keeps_11 (i10 : Int32) (M11 : Mem) : Option ((Int32 × Mem) ⊕ (Mem)) :=
  if 400 ≤ i10 then (some (.inr M11)) else (b1 (rd M11 158 (i10 + 80)) fun x13 => b1 (wr M11 158 i10 x13) fun M14 => some (.inl ((i10 + 1), M14)))
def w_X11_keeps_51a (i17 : Int32) (M18 : Mem) : Option ((Int32 × Mem) ⊕ (Mem)) :=
  if 80 ≤ i17 then (some (.inr M18)) else (b1 (rd M18 156 i17) fun x20 => b1 (wr M18 158 ((80 * (M18 155 4)) + i17) x20) fun M21 => some (.inl ((i17 + 1), M21)))
def f_X11_keeps (M : Mem) : Option (Mem) :=
  if (M 155 4) = 6 then (b1 (lp (fun s => w_X11_keeps_11 s.1 s.2) FU (0, M)) fun q15 => lt (up2 q15 155 4 ((q15 155 4) - 1)) fun M16 => b1 (lp (fun s => w_X11_keeps_51a s.1 s.2) FU (0, M16)) fun q22 => lt (up2 q22 155 4 ((q22 155 4) + 1)) fun M23 => lt (up2 M23 155 26 1) fun M24 => some M24) else (b1 (lp (fun s => w_X11_keeps_51 s.1 s.2) FU (0, M)) fun q7 => lt (up2 q7 155 4 ((q7 155 4) + 1)) fun M8 => lt (up2 M8 155 26 1) fun M9 => some M9)
set_option maxRecDepth 100000 in
set_option maxHeartbeats 4000000 in
theorem t_X11_keeps (l : Launch) (E : EV) (M : Mem) {M' : Mem} (h : f_X11_keeps M = some M') : RunM l E yX11_keeps cX11_keeps 2 none 0 [.ref 155] M M' none := by
  refine RunM.of (by decide) (Nat.le_of_ble_eq_true rfl) ?_
  show XM l E (RX11, "keeps", cX11_keeps, 2) none 0 0 [some (.ref 155), none] [] M M' none
  unfold f_X11_keeps at h
  refine ex_aload_n dX11_keeps_0 rfl ?_
  refine mx_geti 11 dX11_keeps_1 fl_X11_61 oc_at_155 (isi_11_4 oc_at_155) ?_
  refine ex_bipush 6 dX11_keeps_4 kB_6 ?_
  refine ex_icmp_ne 49 dX11_keeps_6 (by decide) (fun c1 => ?_) (fun c1 => ?_)
  · rw [if_neg c1] at h
    refine ex_iconst 0 dX11_keeps_49 kI_0 ?_
    refine ex_istore_n (L2 := [some (.ref 155), some (.int 0)]) dX11_keeps_50 (by decide) rfl ?_
    refine ex_mskL [true, true] (L2 := [some (.ref 155), some (.int 0)]) rfl ?_
    obtain ⟨q7, hlq7, h⟩ := b1E h
    have hx : XM l E (RX11, "keeps", cX11_keeps, 2) none 0 83 [some (.ref 155), none] [] q7 M' none := by
      refine ex_aload_n dX11_keeps_83 rfl ?_
      refine ex_dup dX11_keeps_84 rfl ?_
      refine mx_geti 11 dX11_keeps_85 fl_X11_61 oc_at_155 (isi_11_4 oc_at_155) ?_
      refine ex_iconst 1 dX11_keeps_88 kI_1 ?_
      refine ex_iadd dX11_keeps_89 ?_
      obtain ⟨M8, eM8, h⟩ := ltE h
      refine mx_puti 11 dX11_keeps_90 fl_X11_61 rfl ⟨rfl, rfl⟩ oc_at_155 (isi_11_4 oc_at_155) ?_
      rw [← eM8]
      refine ex_aload_n dX11_keeps_93 rfl ?_
      refine ex_iconst 1 dX11_keeps_94 kI_1 ?_
      obtain ⟨M9, eM9, h⟩ := ltE h
      refine mx_puti 11 dX11_keeps_95 fl_X11_309 rfl ⟨by decide, rfl⟩ oc_at_155 (isi_11_26 oc_at_155) ?_
      rw [← eM9]
      cases h
      exact mx_retv dX11_keeps_98 rfl
    clear h
    have key : ∀ (k : Nat) (s : Int32 × Mem), lp (fun s => w_X11_keeps_51 s.1 s.2) k s = some q7 → XM l E (RX11, "keeps", cX11_keeps, 2) none 0 51 [some (.ref 155), some (.int s.1)] [] s.2 M' none := lp_ind (P := fun (s : Int32 × Mem) => XM l E (RX11, "keeps", cX11_keeps, 2) none 0 51 [some (.ref 155), some (.int s.1)] [] s.2 M' none) (fun s t hb hk he => by
      obtain ⟨i2, M3⟩ := s
      show XM l E (RX11, "keeps", cX11_keeps, 2) none 0 51 [some (.ref 155), some (.int i2)] [] M3 M' none
      change w_X11_keeps_51 i2 M3 = some t at hb
      unfold w_X11_keeps_51 at hb
      refine ex_iload_n dX11_keeps_51 rfl ?_
      refine ex_bipush 80 dX11_keeps_52 kB_80 ?_
      refine ex_icmp_ge 83 dX11_keeps_54 (by decide) (fun c4 => ?_) (fun c4 => ?_)
      · rw [if_pos c4] at hb
        refine ex_mskL [true, false] (L2 := [some (.ref 155), none]) rfl ?_
        cases hb
        cases (he _ rfl) <;> exact hx
      · rw [if_neg c4] at hb
        refine ex_aload_n dX11_keeps_57 rfl ?_
        refine mx_getr 11 158 dX11_keeps_58 fl_X11_16 oc_at_155 (rf_11_2 oc_at_155) ?_
        refine ex_bipush 80 dX11_keeps_61 kB_80 ?_
        refine ex_aload_n dX11_keeps_63 rfl ?_
        refine mx_geti 11 dX11_keeps_64 fl_X11_61 oc_at_155 (isi_11_4 oc_at_155) ?_
        refine ex_imul dX11_keeps_67 ?_
        refine ex_iload_n dX11_keeps_68 rfl ?_
        refine ex_iadd dX11_keeps_69 ?_
        refine ex_aload_n dX11_keeps_70 rfl ?_
        refine mx_getr 11 156 dX11_keeps_71 fl_X11_7 oc_at_155 (rf_11_0 oc_at_155) ?_
        refine ex_iload_n dX11_keeps_74 rfl ?_
        obtain ⟨x5, qx5, hb⟩ := b1E hb
        refine mx_iald x5 dX11_keeps_75 qx5 ?_
        obtain ⟨M6, qM6, hb⟩ := b1E hb
        refine mx_iast M6 dX11_keeps_76 qM6 ?_
        refine ex_iinc 1 (L2 := [some (.ref 155), some (.int (i2 + 1))]) dX11_keeps_77 rfl kI_1 (by decide) rfl ?_
        refine ex_goto 51 dX11_keeps_80 (by decide) ?_
        refine ex_mskL [true, true] (L2 := [some (.ref 155), some (.int (i2 + 1))]) rfl ?_
        cases hb
        exact hk ((i2 + 1), M6) rfl)
    exact key FU (0, M) hlq7
  · rw [if_pos c1] at h
    refine ex_iconst 0 dX11_keeps_9 kI_0 ?_
    refine ex_istore_n (L2 := [some (.ref 155), some (.int 0)]) dX11_keeps_10 (by decide) rfl ?_
    refine ex_mskL [true, true] (L2 := [some (.ref 155), some (.int 0)]) rfl ?_
    obtain ⟨q15, hlq15, h⟩ := b1E h
    have hx : XM l E (RX11, "keeps", cX11_keeps, 2) none 0 39 [some (.ref 155), none] [] q15 M' none := by
      refine ex_aload_n dX11_keeps_39 rfl ?_
      refine ex_dup dX11_keeps_40 rfl ?_
      refine mx_geti 11 dX11_keeps_41 fl_X11_61 oc_at_155 (isi_11_4 oc_at_155) ?_
      refine ex_iconst 1 dX11_keeps_44 kI_1 ?_
      refine ex_isub dX11_keeps_45 ?_
      obtain ⟨M16, eM16, h⟩ := ltE h
      refine mx_puti 11 dX11_keeps_46 fl_X11_61 rfl ⟨rfl, rfl⟩ oc_at_155 (isi_11_4 oc_at_155) ?_
      rw [← eM16]
      refine ex_iconst 0 dX11_keeps_49 kI_0 ?_
      refine ex_istore_n (L2 := [some (.ref 155), some (.int 0)]) dX11_keeps_50 (by decide) rfl ?_
      refine ex_mskL [true, true] (L2 := [some (.ref 155), some (.int 0)]) rfl ?_
      obtain ⟨q22, hlq22, h⟩ := b1E h
      have hx : XM l E (RX11, "keeps", cX11_keeps, 2) none 0 83 [some (.ref 155), none] [] q22 M' none := by
        refine ex_aload_n dX11_keeps_83 rfl ?_
        refine ex_dup dX11_keeps_84 rfl ?_
        refine mx_geti 11 dX11_keeps_85 fl_X11_61 oc_at_155 (isi_11_4 oc_at_155) ?_
        refine ex_iconst 1 dX11_keeps_88 kI_1 ?_
        refine ex_iadd dX11_keeps_89 ?_
        obtain ⟨M23, eM23, h⟩ := ltE h
        refine mx_puti 11 dX11_keeps_90 fl_X11_61 rfl ⟨rfl, rfl⟩ oc_at_155 (isi_11_4 oc_at_155) ?_
        rw [← eM23]
        refine ex_aload_n dX11_keeps_93 rfl ?_
        refine ex_iconst 1 dX11_keeps_94 kI_1 ?_
        obtain ⟨M24, eM24, h⟩ := ltE h
        refine mx_puti 11 dX11_keeps_95 fl_X11_309 rfl ⟨by decide, rfl⟩ oc_at_155 (isi_11_26 oc_at_155) ?_
        rw [← eM24]
        cases h
        exact mx_retv dX11_keeps_98 rfl
      clear h
      have key : ∀ (k : Nat) (s : Int32 × Mem), lp (fun s => w_X11_keeps_51a s.1 s.2) k s = some q22 → XM l E (RX11, "keeps", cX11_keeps, 2) none 0 51 [some (.ref 155), some (.int s.1)] [] s.2 M' none := lp_ind (P := fun (s : Int32 × Mem) => XM l E (RX11, "keeps", cX11_keeps, 2) none 0 51 [some (.ref 155), some (.int s.1)] [] s.2 M' none) (fun s t hb hk he => by
        obtain ⟨i17, M18⟩ := s
        show XM l E (RX11, "keeps", cX11_keeps, 2) none 0 51 [some (.ref 155), some (.int i17)] [] M18 M' none
        change w_X11_keeps_51a i17 M18 = some t at hb
        unfold w_X11_keeps_51a at hb
        refine ex_iload_n dX11_keeps_51 rfl ?_
        refine ex_bipush 80 dX11_keeps_52 kB_80 ?_
        refine ex_icmp_ge 83 dX11_keeps_54 (by decide) (fun c19 => ?_) (fun c19 => ?_)
        · rw [if_pos c19] at hb
          refine ex_mskL [true, false] (L2 := [some (.ref 155), none]) rfl ?_
          cases hb
          cases (he _ rfl) <;> exact hx
        · rw [if_neg c19] at hb
          refine ex_aload_n dX11_keeps_57 rfl ?_
          refine mx_getr 11 158 dX11_keeps_58 fl_X11_16 oc_at_155 (rf_11_2 oc_at_155) ?_
          refine ex_bipush 80 dX11_keeps_61 kB_80 ?_
          refine ex_aload_n dX11_keeps_63 rfl ?_
          refine mx_geti 11 dX11_keeps_64 fl_X11_61 oc_at_155 (isi_11_4 oc_at_155) ?_
          refine ex_imul dX11_keeps_67 ?_
          refine ex_iload_n dX11_keeps_68 rfl ?_
          refine ex_iadd dX11_keeps_69 ?_
          refine ex_aload_n dX11_keeps_70 rfl ?_
          refine mx_getr 11 156 dX11_keeps_71 fl_X11_7 oc_at_155 (rf_11_0 oc_at_155) ?_
          refine ex_iload_n dX11_keeps_74 rfl ?_
          obtain ⟨x20, qx20, hb⟩ := b1E hb
          refine mx_iald x20 dX11_keeps_75 qx20 ?_
          obtain ⟨M21, qM21, hb⟩ := b1E hb
          refine mx_iast M21 dX11_keeps_76 qM21 ?_
          refine ex_iinc 1 (L2 := [some (.ref 155), some (.int (i17 + 1))]) dX11_keeps_77 rfl kI_1 (by decide) rfl ?_
          refine ex_goto 51 dX11_keeps_80 (by decide) ?_
          refine ex_mskL [true, true] (L2 := [some (.ref 155), some (.int (i17 + 1))]) rfl ?_
          cases hb
          exact hk ((i17 + 1), M21) rfl)
      exact key FU (0, M16) hlq22
    clear h
    have key : ∀ (k : Nat) (s : Int32 × Mem), lp (fun s => w_X11_keeps_11 s.1 s.2) k s = some q15 → XM l E (RX11, "keeps", cX11_keeps, 2) none 0 11 [some (.ref 155), some (.int s.1)] [] s.2 M' none := lp_ind (P := fun (s : Int32 × Mem) => XM l E (RX11, "keeps", cX11_keeps, 2) none 0 11 [some (.ref 155), some (.int s.1)] [] s.2 M' none) (fun s t hb hk he => by
      obtain ⟨i10, M11⟩ := s
      show XM l E (RX11, "keeps", cX11_keeps, 2) none 0 11 [some (.ref 155), some (.int i10)] [] M11 M' none
      change w_X11_keeps_11 i10 M11 = some t at hb
      unfold w_X11_keeps_11 at hb
      refine ex_iload_n dX11_keeps_11 rfl ?_
      refine ex_sipush 400 dX11_keeps_12 kS_400 ?_
      refine ex_icmp_ge 39 dX11_keeps_15 (by decide) (fun c12 => ?_) (fun c12 => ?_)
      · rw [if_pos c12] at hb
        refine ex_mskL [true, false] (L2 := [some (.ref 155), none]) rfl ?_
        cases hb
        cases (he _ rfl) <;> exact hx
      · rw [if_neg c12] at hb
        refine ex_aload_n dX11_keeps_18 rfl ?_
        refine mx_getr 11 158 dX11_keeps_19 fl_X11_16 oc_at_155 (rf_11_2 oc_at_155) ?_
        refine ex_iload_n dX11_keeps_22 rfl ?_
        refine ex_aload_n dX11_keeps_23 rfl ?_
        refine mx_getr 11 158 dX11_keeps_24 fl_X11_16 oc_at_155 (rf_11_2 oc_at_155) ?_
        refine ex_iload_n dX11_keeps_27 rfl ?_
        refine ex_bipush 80 dX11_keeps_28 kB_80 ?_
        refine ex_iadd dX11_keeps_30 ?_
        obtain ⟨x13, qx13, hb⟩ := b1E hb
        refine mx_iald x13 dX11_keeps_31 qx13 ?_
        obtain ⟨M14, qM14, hb⟩ := b1E hb
        refine mx_iast M14 dX11_keeps_32 qM14 ?_
        refine ex_iinc 1 (L2 := [some (.ref 155), some (.int (i10 + 1))]) dX11_keeps_33 rfl kI_1 (by decide) rfl ?_
        refine ex_goto 11 dX11_keeps_36 (by decide) ?_
        refine ex_mskL [true, true] (L2 := [some (.ref 155), some (.int (i10 + 1))]) rfl ?_
        cases hb
        exact hk ((i10 + 1), M14) rfl)
    exact key FU (0, M) hlq15
def w_X11_undo_21 (i3 : Int32) (M4 : Mem) : Option ((Int32 × Mem) ⊕ (Mem)) :=
  if 80 ≤ i3 then (some (.inr M4)) else (b1 (rd M4 158 ((80 * (M4 155 4)) + i3)) fun x6 => b1 (wr M4 156 i3 x6) fun M7 => some (.inl ((i3 + 1), M7)))
def f_X11_undo (M : Mem) : Option (Mem × Int32) :=
  if (M 155 4) = 0 then (some (M, 0)) else (lt (up2 M 155 4 ((M 155 4) - 1)) fun M2 => b1 (lp (fun s => w_X11_undo_21 s.1 s.2) FU (0, M2)) fun q8 => some (q8, 1))
set_option maxRecDepth 100000 in
set_option maxHeartbeats 4000000 in
theorem t_X11_undo (l : Launch) (E : EV) (M : Mem) {M' : Mem} {r : Int32} (h : f_X11_undo M = some (M', r)) : RunM l E yX11_undo cX11_undo 2 (some .boolean) 0 [.ref 155] M M' (some (.int r)) := by
  refine RunM.of (by decide) (Nat.le_of_ble_eq_true rfl) ?_
  show XM l E (RX11, "undo", cX11_undo, 2) (some .boolean) 0 0 [some (.ref 155), none] [] M M' (some (.int r))
  unfold f_X11_undo at h
  refine ex_aload_n dX11_undo_0 rfl ?_
  refine mx_geti 11 dX11_undo_1 fl_X11_61 oc_at_155 (isi_11_4 oc_at_155) ?_
  refine ex_if_ne 9 dX11_undo_4 (by decide) (fun c1 => ?_) (fun c1 => ?_)
  · rw [if_neg c1] at h
    refine ex_aload_n dX11_undo_9 rfl ?_
    refine ex_dup dX11_undo_10 rfl ?_
    refine mx_geti 11 dX11_undo_11 fl_X11_61 oc_at_155 (isi_11_4 oc_at_155) ?_
    refine ex_iconst 1 dX11_undo_14 kI_1 ?_
    refine ex_isub dX11_undo_15 ?_
    obtain ⟨M2, eM2, h⟩ := ltE h
    refine mx_puti 11 dX11_undo_16 fl_X11_61 rfl ⟨rfl, rfl⟩ oc_at_155 (isi_11_4 oc_at_155) ?_
    rw [← eM2]
    refine ex_iconst 0 dX11_undo_19 kI_0 ?_
    refine ex_istore_n (L2 := [some (.ref 155), some (.int 0)]) dX11_undo_20 (by decide) rfl ?_
    refine ex_mskL [true, true] (L2 := [some (.ref 155), some (.int 0)]) rfl ?_
    obtain ⟨q8, hlq8, h⟩ := b1E h
    have hx : XM l E (RX11, "undo", cX11_undo, 2) (some .boolean) 0 53 [none, none] [] q8 M' (some (.int r)) := by
      refine ex_iconst 1 dX11_undo_53 kI_1 ?_
      cases h
      exact mx_reti .boolean dX11_undo_54 ⟨rfl, by decide⟩
    clear h
    have key : ∀ (k : Nat) (s : Int32 × Mem), lp (fun s => w_X11_undo_21 s.1 s.2) k s = some q8 → XM l E (RX11, "undo", cX11_undo, 2) (some .boolean) 0 21 [some (.ref 155), some (.int s.1)] [] s.2 M' (some (.int r)) := lp_ind (P := fun (s : Int32 × Mem) => XM l E (RX11, "undo", cX11_undo, 2) (some .boolean) 0 21 [some (.ref 155), some (.int s.1)] [] s.2 M' (some (.int r))) (fun s t hb hk he => by
      obtain ⟨i3, M4⟩ := s
      show XM l E (RX11, "undo", cX11_undo, 2) (some .boolean) 0 21 [some (.ref 155), some (.int i3)] [] M4 M' (some (.int r))
      change w_X11_undo_21 i3 M4 = some t at hb
      unfold w_X11_undo_21 at hb
      refine ex_iload_n dX11_undo_21 rfl ?_
      refine ex_bipush 80 dX11_undo_22 kB_80 ?_
      refine ex_icmp_ge 53 dX11_undo_24 (by decide) (fun c5 => ?_) (fun c5 => ?_)
      · rw [if_pos c5] at hb
        refine ex_mskL [false, false] (L2 := [none, none]) rfl ?_
        cases hb
        cases (he _ rfl) <;> exact hx
      · rw [if_neg c5] at hb
        refine ex_aload_n dX11_undo_27 rfl ?_
        refine mx_getr 11 156 dX11_undo_28 fl_X11_7 oc_at_155 (rf_11_0 oc_at_155) ?_
        refine ex_iload_n dX11_undo_31 rfl ?_
        refine ex_aload_n dX11_undo_32 rfl ?_
        refine mx_getr 11 158 dX11_undo_33 fl_X11_16 oc_at_155 (rf_11_2 oc_at_155) ?_
        refine ex_bipush 80 dX11_undo_36 kB_80 ?_
        refine ex_aload_n dX11_undo_38 rfl ?_
        refine mx_geti 11 dX11_undo_39 fl_X11_61 oc_at_155 (isi_11_4 oc_at_155) ?_
        refine ex_imul dX11_undo_42 ?_
        refine ex_iload_n dX11_undo_43 rfl ?_
        refine ex_iadd dX11_undo_44 ?_
        obtain ⟨x6, qx6, hb⟩ := b1E hb
        refine mx_iald x6 dX11_undo_45 qx6 ?_
        obtain ⟨M7, qM7, hb⟩ := b1E hb
        refine mx_iast M7 dX11_undo_46 qM7 ?_
        refine ex_iinc 1 (L2 := [some (.ref 155), some (.int (i3 + 1))]) dX11_undo_47 rfl kI_1 (by decide) rfl ?_
        refine ex_goto 21 dX11_undo_50 (by decide) ?_
        refine ex_mskL [true, true] (L2 := [some (.ref 155), some (.int (i3 + 1))]) rfl ?_
        cases hb
        exact hk ((i3 + 1), M7) rfl)
    exact key FU (0, M2) hlq8
  · rw [if_pos c1] at h
    refine ex_iconst 0 dX11_undo_7 kI_0 ?_
    cases h
    exact mx_reti .boolean dX11_undo_8 ⟨rfl, by decide⟩
def f_X11_notes (a1 : Int32) (a2 : Int32) (a3 : Int32) (M : Mem) : Option (Mem) :=
  if ((M 155 26) = 0 ∨ (M 156 5) = 150) then (some M) else (b1 (wr M 156 (370 + (4 * (M 156 5))) (M 156 0)) fun M4 => b1 (wr M4 156 ((370 + (4 * (M 156 5))) + 1) a1) fun M5 => b1 (wr M5 156 ((370 + (4 * (M 156 5))) + 2) a2) fun M6 => b1 (wr M6 156 ((370 + (4 * (M 156 5))) + 3) a3) fun M7 => lt (up2 M7 156 5 ((M7 156 5) + 1)) fun M8 => some M8)
set_option maxRecDepth 100000 in
set_option maxHeartbeats 4000000 in
theorem t_X11_notes (l : Launch) (E : EV) (a1 : Int32) (a2 : Int32) (a3 : Int32) (M : Mem) {M' : Mem} (h : f_X11_notes a1 a2 a3 M = some M') : RunM l E yX11_notes cX11_notes 5 none 0 [.ref 155, .int a1, .int a2, .int a3] M M' none := by
  refine RunM.of (by decide) (Nat.le_of_ble_eq_true rfl) ?_
  show XM l E (RX11, "notes", cX11_notes, 5) none 0 0 [some (.ref 155), some (.int a1), some (.int a2), some (.int a3), none] [] M M' none
  unfold f_X11_notes at h
  refine ex_aload_n dX11_notes_0 rfl ?_
  refine mx_geti 11 dX11_notes_1 fl_X11_309 oc_at_155 (isi_11_26 oc_at_155) ?_
  have JXC3 : ((M 155 26) = 0 ∨ (M 156 5) = 150) → XM l E (RX11, "notes", cX11_notes, 5) none 0 19 [some (.ref 155), some (.int a1), some (.int a2), some (.int a3), none] [] M M' none := fun C3 => by
    rw [if_pos C3] at h
    cases h
    exact mx_retv dX11_notes_19 rfl
  have JYC3 : ¬ (((M 155 26) = 0 ∨ (M 156 5) = 150)) → XM l E (RX11, "notes", cX11_notes, 5) none 0 32 [some (.ref 155), some (.int a1), some (.int a2), some (.int a3), none] [.int (370 + (4 * (M 156 5)))] M M' none := fun C3 => by
    rw [if_neg C3] at h
    refine ex_istore (L2 := [some (.ref 155), some (.int a1), some (.int a2), some (.int a3), some (.int (370 + (4 * (M 156 5))))]) dX11_notes_32 (by decide) rfl ?_
    refine ex_aload_n dX11_notes_34 rfl ?_
    refine mx_getr 11 156 dX11_notes_35 fl_X11_7 oc_at_155 (rf_11_0 oc_at_155) ?_
    refine ex_iload dX11_notes_38 rfl ?_
    refine ex_aload_n dX11_notes_40 rfl ?_
    refine mx_getr 11 156 dX11_notes_41 fl_X11_7 oc_at_155 (rf_11_0 oc_at_155) ?_
    refine ex_iconst 0 dX11_notes_44 kI_0 ?_
    refine mx_iald (M 156 0) dX11_notes_45 (rdc_156_0 _) ?_
    obtain ⟨M4, qM4, h⟩ := b1E h
    refine mx_iast M4 dX11_notes_46 qM4 ?_
    refine ex_aload_n dX11_notes_47 rfl ?_
    refine mx_getr 11 156 dX11_notes_48 fl_X11_7 oc_at_155 (rf_11_0 oc_at_155) ?_
    refine ex_iload dX11_notes_51 rfl ?_
    refine ex_iconst 1 dX11_notes_53 kI_1 ?_
    refine ex_iadd dX11_notes_54 ?_
    refine ex_iload_n dX11_notes_55 rfl ?_
    obtain ⟨M5, qM5, h⟩ := b1E h
    refine mx_iast M5 dX11_notes_56 qM5 ?_
    refine ex_aload_n dX11_notes_57 rfl ?_
    refine mx_getr 11 156 dX11_notes_58 fl_X11_7 oc_at_155 (rf_11_0 oc_at_155) ?_
    refine ex_iload dX11_notes_61 rfl ?_
    refine ex_iconst 2 dX11_notes_63 kI_2 ?_
    refine ex_iadd dX11_notes_64 ?_
    refine ex_iload_n dX11_notes_65 rfl ?_
    obtain ⟨M6, qM6, h⟩ := b1E h
    refine mx_iast M6 dX11_notes_66 qM6 ?_
    refine ex_aload_n dX11_notes_67 rfl ?_
    refine mx_getr 11 156 dX11_notes_68 fl_X11_7 oc_at_155 (rf_11_0 oc_at_155) ?_
    refine ex_iload dX11_notes_71 rfl ?_
    refine ex_iconst 3 dX11_notes_73 kI_3 ?_
    refine ex_iadd dX11_notes_74 ?_
    refine ex_iload_n dX11_notes_75 rfl ?_
    obtain ⟨M7, qM7, h⟩ := b1E h
    refine mx_iast M7 dX11_notes_76 qM7 ?_
    refine ex_aload_n dX11_notes_77 rfl ?_
    refine mx_getr 11 156 dX11_notes_78 fl_X11_7 oc_at_155 (rf_11_0 oc_at_155) ?_
    refine ex_iconst 5 dX11_notes_81 kI_5 ?_
    refine ex_dup2 dX11_notes_82 rfl rfl ?_
    refine mx_iald (M7 156 5) dX11_notes_83 (rdc_156_5 _) ?_
    refine ex_iconst 1 dX11_notes_84 kI_1 ?_
    refine ex_iadd dX11_notes_85 ?_
    obtain ⟨M8, eM8, h⟩ := ltE h
    refine mx_iast M8 dX11_notes_86 ((wrc_156_5 _ _).trans (congrArg some eM8.symm)) ?_
    cases h
    exact mx_retv dX11_notes_87 rfl
  clear h
  refine ex_if_eq 19 dX11_notes_4 (by decide) (fun c1 => ?_) (fun c1 => ?_)
  · exact JXC3 (Or.inl c1)
  · refine ex_aload_n dX11_notes_7 rfl ?_
    refine mx_getr 11 156 dX11_notes_8 fl_X11_7 oc_at_155 (rf_11_0 oc_at_155) ?_
    refine ex_iconst 5 dX11_notes_11 kI_5 ?_
    refine mx_iald (M 156 5) dX11_notes_12 (rdc_156_5 _) ?_
    refine ex_sipush 150 dX11_notes_13 kS_150 ?_
    refine ex_icmp_ne 20 dX11_notes_16 (by decide) (fun c2 => ?_) (fun c2 => ?_)
    · refine ex_sipush 370 dX11_notes_20 kS_370 ?_
      refine ex_iconst 4 dX11_notes_23 kI_4 ?_
      refine ex_aload_n dX11_notes_24 rfl ?_
      refine mx_getr 11 156 dX11_notes_25 fl_X11_7 oc_at_155 (rf_11_0 oc_at_155) ?_
      refine ex_iconst 5 dX11_notes_28 kI_5 ?_
      refine mx_iald (M 156 5) dX11_notes_29 (rdc_156_5 _) ?_
      refine ex_imul dX11_notes_30 ?_
      refine ex_iadd dX11_notes_31 ?_
      exact JYC3 (fun z => z.elim c1 c2)
    · exact JXC3 (Or.inr c2)
def f_X11_comes (a1 : Int32) (a2 : Int32) (a3 : Int32) (a4 : Int32) (a5 : Int32) (M : Mem) : Option (Mem × Int32) :=
  b1 (wr M 156 ((8 + (5 * (M 156 7))) + 0) a1) fun M1 => b1 (wr M1 156 ((8 + (5 * (M 156 7))) + 1) a2) fun M2 => b1 (wr M2 156 ((8 + (5 * (M 156 7))) + 2) a3) fun M3 => b1 (wr M3 156 ((8 + (5 * (M 156 7))) + 3) a4) fun M4 => b1 (wr M4 156 ((8 + (5 * (M 156 7))) + 4) a5) fun M5 => lt (up2 M5 156 7 ((M5 156 7) + 1)) fun M6 => some (M6, (M 156 7))
set_option maxRecDepth 100000 in
set_option maxHeartbeats 4000000 in
theorem t_X11_comes (l : Launch) (E : EV) (a1 : Int32) (a2 : Int32) (a3 : Int32) (a4 : Int32) (a5 : Int32) (M : Mem) {M' : Mem} {r : Int32} (h : f_X11_comes a1 a2 a3 a4 a5 M = some (M', r)) : RunM l E yX11_comes cX11_comes 8 (some .int) 0 [.ref 155, .int a1, .int a2, .int a3, .int a4, .int a5] M M' (some (.int r)) := by
  refine RunM.of (by decide) (Nat.le_of_ble_eq_true rfl) ?_
  show XM l E (RX11, "comes", cX11_comes, 8) (some .int) 0 0 [some (.ref 155), some (.int a1), some (.int a2), some (.int a3), some (.int a4), some (.int a5), none, none] [] M M' (some (.int r))
  unfold f_X11_comes at h
  refine ex_aload_n dX11_comes_0 rfl ?_
  refine mx_getr 11 156 dX11_comes_1 fl_X11_7 oc_at_155 (rf_11_0 oc_at_155) ?_
  refine ex_bipush 7 dX11_comes_4 kB_7 ?_
  refine mx_iald (M 156 7) dX11_comes_6 (rdc_156_7 _) ?_
  refine ex_istore (L2 := [some (.ref 155), some (.int a1), some (.int a2), some (.int a3), some (.int a4), some (.int a5), some (.int (M 156 7)), none]) dX11_comes_7 (by decide) rfl ?_
  refine ex_bipush 8 dX11_comes_9 kB_8 ?_
  refine ex_iconst 5 dX11_comes_11 kI_5 ?_
  refine ex_iload dX11_comes_12 rfl ?_
  refine ex_imul dX11_comes_14 ?_
  refine ex_iadd dX11_comes_15 ?_
  refine ex_istore (L2 := [some (.ref 155), some (.int a1), some (.int a2), some (.int a3), some (.int a4), some (.int a5), some (.int (M 156 7)), some (.int (8 + (5 * (M 156 7))))]) dX11_comes_16 (by decide) rfl ?_
  refine ex_aload_n dX11_comes_18 rfl ?_
  refine mx_getr 11 156 dX11_comes_19 fl_X11_7 oc_at_155 (rf_11_0 oc_at_155) ?_
  refine ex_iload dX11_comes_22 rfl ?_
  refine ex_iconst 0 dX11_comes_24 kI_0 ?_
  refine ex_iadd dX11_comes_25 ?_
  refine ex_iload_n dX11_comes_26 rfl ?_
  obtain ⟨M1, qM1, h⟩ := b1E h
  refine mx_iast M1 dX11_comes_27 qM1 ?_
  refine ex_aload_n dX11_comes_28 rfl ?_
  refine mx_getr 11 156 dX11_comes_29 fl_X11_7 oc_at_155 (rf_11_0 oc_at_155) ?_
  refine ex_iload dX11_comes_32 rfl ?_
  refine ex_iconst 1 dX11_comes_34 kI_1 ?_
  refine ex_iadd dX11_comes_35 ?_
  refine ex_iload_n dX11_comes_36 rfl ?_
  obtain ⟨M2, qM2, h⟩ := b1E h
  refine mx_iast M2 dX11_comes_37 qM2 ?_
  refine ex_aload_n dX11_comes_38 rfl ?_
  refine mx_getr 11 156 dX11_comes_39 fl_X11_7 oc_at_155 (rf_11_0 oc_at_155) ?_
  refine ex_iload dX11_comes_42 rfl ?_
  refine ex_iconst 2 dX11_comes_44 kI_2 ?_
  refine ex_iadd dX11_comes_45 ?_
  refine ex_iload_n dX11_comes_46 rfl ?_
  obtain ⟨M3, qM3, h⟩ := b1E h
  refine mx_iast M3 dX11_comes_47 qM3 ?_
  refine ex_aload_n dX11_comes_48 rfl ?_
  refine mx_getr 11 156 dX11_comes_49 fl_X11_7 oc_at_155 (rf_11_0 oc_at_155) ?_
  refine ex_iload dX11_comes_52 rfl ?_
  refine ex_iconst 3 dX11_comes_54 kI_3 ?_
  refine ex_iadd dX11_comes_55 ?_
  refine ex_iload dX11_comes_56 rfl ?_
  obtain ⟨M4, qM4, h⟩ := b1E h
  refine mx_iast M4 dX11_comes_58 qM4 ?_
  refine ex_aload_n dX11_comes_59 rfl ?_
  refine mx_getr 11 156 dX11_comes_60 fl_X11_7 oc_at_155 (rf_11_0 oc_at_155) ?_
  refine ex_iload dX11_comes_63 rfl ?_
  refine ex_iconst 4 dX11_comes_65 kI_4 ?_
  refine ex_iadd dX11_comes_66 ?_
  refine ex_iload dX11_comes_67 rfl ?_
  obtain ⟨M5, qM5, h⟩ := b1E h
  refine mx_iast M5 dX11_comes_69 qM5 ?_
  refine ex_aload_n dX11_comes_70 rfl ?_
  refine mx_getr 11 156 dX11_comes_71 fl_X11_7 oc_at_155 (rf_11_0 oc_at_155) ?_
  refine ex_bipush 7 dX11_comes_74 kB_7 ?_
  refine ex_dup2 dX11_comes_76 rfl rfl ?_
  refine mx_iald (M5 156 7) dX11_comes_77 (rdc_156_7 _) ?_
  refine ex_iconst 1 dX11_comes_78 kI_1 ?_
  refine ex_iadd dX11_comes_79 ?_
  obtain ⟨M6, eM6, h⟩ := ltE h
  refine mx_iast M6 dX11_comes_80 ((wrc_156_7 _ _).trans (congrArg some eM6.symm)) ?_
  refine ex_iload dX11_comes_81 rfl ?_
  cases h
  exact mx_reti .int dX11_comes_83 ⟨rfl, rfl⟩
def w_X11_goesAway_18 (i2 : Int32) (M3 : Mem) : Option ((Int32 × Mem) ⊕ (Mem)) :=
  if (8 + (5 * (M3 156 7))) ≤ i2 then (some (.inr M3)) else (b1 (rd M3 156 (i2 + 5)) fun x5 => b1 (wr M3 156 i2 x5) fun M6 => some (.inl ((i2 + 1), M6)))
def f_X11_goesAway (a1 : Int32) (M : Mem) : Option (Mem) :=
  lt (up2 M 156 7 ((M 156 7) - 1)) fun M1 => b1 (lp (fun s => w_X11_goesAway_18 s.1 s.2) FU ((8 + (5 * a1)), M1)) fun q7 => some q7
set_option maxRecDepth 100000 in
set_option maxHeartbeats 4000000 in
theorem t_X11_goesAway (l : Launch) (E : EV) (a1 : Int32) (M : Mem) {M' : Mem} (h : f_X11_goesAway a1 M = some M') : RunM l E yX11_goesAway cX11_goesAway 3 none 0 [.ref 155, .int a1] M M' none := by
  refine RunM.of (by decide) (Nat.le_of_ble_eq_true rfl) ?_
  show XM l E (RX11, "goesAway", cX11_goesAway, 3) none 0 0 [some (.ref 155), some (.int a1), none] [] M M' none
  unfold f_X11_goesAway at h
  refine ex_aload_n dX11_goesAway_0 rfl ?_
  refine mx_getr 11 156 dX11_goesAway_1 fl_X11_7 oc_at_155 (rf_11_0 oc_at_155) ?_
  refine ex_bipush 7 dX11_goesAway_4 kB_7 ?_
  refine ex_dup2 dX11_goesAway_6 rfl rfl ?_
  refine mx_iald (M 156 7) dX11_goesAway_7 (rdc_156_7 _) ?_
  refine ex_iconst 1 dX11_goesAway_8 kI_1 ?_
  refine ex_isub dX11_goesAway_9 ?_
  obtain ⟨M1, eM1, h⟩ := ltE h
  refine mx_iast M1 dX11_goesAway_10 ((wrc_156_7 _ _).trans (congrArg some eM1.symm)) ?_
  refine ex_bipush 8 dX11_goesAway_11 kB_8 ?_
  refine ex_iconst 5 dX11_goesAway_13 kI_5 ?_
  refine ex_iload_n dX11_goesAway_14 rfl ?_
  refine ex_imul dX11_goesAway_15 ?_
  refine ex_iadd dX11_goesAway_16 ?_
  refine ex_istore_n (L2 := [some (.ref 155), some (.int a1), some (.int (8 + (5 * a1)))]) dX11_goesAway_17 (by decide) rfl ?_
  refine ex_mskL [true, false, true] (L2 := [some (.ref 155), none, some (.int (8 + (5 * a1)))]) rfl ?_
  obtain ⟨q7, hlq7, h⟩ := b1E h
  have hx : XM l E (RX11, "goesAway", cX11_goesAway, 3) none 0 54 [none, none, none] [] q7 M' none := by
    cases h
    exact mx_retv dX11_goesAway_54 rfl
  clear h
  have key : ∀ (k : Nat) (s : Int32 × Mem), lp (fun s => w_X11_goesAway_18 s.1 s.2) k s = some q7 → XM l E (RX11, "goesAway", cX11_goesAway, 3) none 0 18 [some (.ref 155), none, some (.int s.1)] [] s.2 M' none := lp_ind (P := fun (s : Int32 × Mem) => XM l E (RX11, "goesAway", cX11_goesAway, 3) none 0 18 [some (.ref 155), none, some (.int s.1)] [] s.2 M' none) (fun s t hb hk he => by
    obtain ⟨i2, M3⟩ := s
    show XM l E (RX11, "goesAway", cX11_goesAway, 3) none 0 18 [some (.ref 155), none, some (.int i2)] [] M3 M' none
    change w_X11_goesAway_18 i2 M3 = some t at hb
    unfold w_X11_goesAway_18 at hb
    refine ex_iload_n dX11_goesAway_18 rfl ?_
    refine ex_bipush 8 dX11_goesAway_19 kB_8 ?_
    refine ex_iconst 5 dX11_goesAway_21 kI_5 ?_
    refine ex_aload_n dX11_goesAway_22 rfl ?_
    refine mx_getr 11 156 dX11_goesAway_23 fl_X11_7 oc_at_155 (rf_11_0 oc_at_155) ?_
    refine ex_bipush 7 dX11_goesAway_26 kB_7 ?_
    refine mx_iald (M3 156 7) dX11_goesAway_28 (rdc_156_7 _) ?_
    refine ex_imul dX11_goesAway_29 ?_
    refine ex_iadd dX11_goesAway_30 ?_
    refine ex_icmp_ge 54 dX11_goesAway_31 (by decide) (fun c4 => ?_) (fun c4 => ?_)
    · rw [if_pos c4] at hb
      refine ex_mskL [false, false, false] (L2 := [none, none, none]) rfl ?_
      cases hb
      cases (he _ rfl) <;> exact hx
    · rw [if_neg c4] at hb
      refine ex_aload_n dX11_goesAway_34 rfl ?_
      refine mx_getr 11 156 dX11_goesAway_35 fl_X11_7 oc_at_155 (rf_11_0 oc_at_155) ?_
      refine ex_iload_n dX11_goesAway_38 rfl ?_
      refine ex_aload_n dX11_goesAway_39 rfl ?_
      refine mx_getr 11 156 dX11_goesAway_40 fl_X11_7 oc_at_155 (rf_11_0 oc_at_155) ?_
      refine ex_iload_n dX11_goesAway_43 rfl ?_
      refine ex_iconst 5 dX11_goesAway_44 kI_5 ?_
      refine ex_iadd dX11_goesAway_45 ?_
      obtain ⟨x5, qx5, hb⟩ := b1E hb
      refine mx_iald x5 dX11_goesAway_46 qx5 ?_
      obtain ⟨M6, qM6, hb⟩ := b1E hb
      refine mx_iast M6 dX11_goesAway_47 qM6 ?_
      refine ex_iinc 1 (L2 := [some (.ref 155), none, some (.int (i2 + 1))]) dX11_goesAway_48 rfl kI_1 (by decide) rfl ?_
      refine ex_goto 18 dX11_goesAway_51 (by decide) ?_
      refine ex_mskL [true, false, true] (L2 := [some (.ref 155), none, some (.int (i2 + 1))]) rfl ?_
      cases hb
      exact hk ((i2 + 1), M6) rfl)
  exact key FU ((8 + (5 * a1)), M1) hlq7
def f_X11_feasts (a1 : Int32) (a2 : Int32) (M : Mem) : Option (Mem × Int32) :=
  if (M 156 7) = 14 then (lt (up2 M 156 3 ((M 156 3) + 1)) fun M12 => b1 (f_X11_notes 0 a1 0 M12) fun M13 => some (M13, 0)) else (b2 (f_X11_leftOf a1 a2 M) fun M2 x3 => lt (up2 M2 156 3 ((M2 156 3) + 1)) fun M4 => if x3 ≤ 0 then (b1 (f_X11_notes 0 a1 x3 M4) fun M6 => some (M6, x3)) else (b2 (f_X11_edgeOf a1 a2 M4) fun M7 x8 => b2 (f_X11_comes a1 x3 (M7 156 0) x8 0 M7) fun M9 x10 => b1 (f_X11_notes 0 a1 x3 M9) fun M11 => some (M11, x3)))
set_option maxRecDepth 100000 in
set_option maxHeartbeats 4000000 in
theorem t_X11_feasts (l : Launch) (E : EV) (a1 : Int32) (a2 : Int32) (M : Mem) {M' : Mem} {r : Int32} (h : f_X11_feasts a1 a2 M = some (M', r)) : RunM l E yX11_feasts cX11_feasts 5 (some .int) 5 [.ref 155, .int a1, .int a2] M M' (some (.int r)) := by
  refine RunM.of (by decide) (Nat.le_of_ble_eq_true rfl) ?_
  show XM l E (RX11, "feasts", cX11_feasts, 5) (some .int) 5 0 [some (.ref 155), some (.int a1), some (.int a2), none, none] [] M M' (some (.int r))
  unfold f_X11_feasts at h
  refine ex_aload_n dX11_feasts_0 rfl ?_
  refine mx_getr 11 156 dX11_feasts_1 fl_X11_7 oc_at_155 (rf_11_0 oc_at_155) ?_
  refine ex_bipush 7 dX11_feasts_4 kB_7 ?_
  refine mx_iald (M 156 7) dX11_feasts_6 (rdc_156_7 _) ?_
  refine ex_bipush 14 dX11_feasts_7 kB_14 ?_
  refine ex_icmp_ne 16 dX11_feasts_9 (by decide) (fun c1 => ?_) (fun c1 => ?_)
  · rw [if_neg c1] at h
    refine ex_aload_n dX11_feasts_16 rfl ?_
    refine ex_iload_n dX11_feasts_17 rfl ?_
    refine ex_iload_n dX11_feasts_18 rfl ?_
    obtain ⟨M2, x3, qx3, h⟩ := b2E h
    refine mx_cVi [.int a1, .int a2] [] 155 11 x3 dX11_feasts_19 cl_X11_313 im_X11_leftOf cy_X11_leftOf oc_at_155 rfl (Nat.le_of_ble_eq_true rfl) (by decide) (t_X11_leftOf l E a1 a2 M qx3) ?_
    refine ex_istore_n (L2 := [some (.ref 155), some (.int a1), some (.int a2), some (.int x3), none]) dX11_feasts_22 (by decide) rfl ?_
    refine ex_aload_n dX11_feasts_23 rfl ?_
    refine mx_getr 11 156 dX11_feasts_24 fl_X11_7 oc_at_155 (rf_11_0 oc_at_155) ?_
    refine ex_iconst 3 dX11_feasts_27 kI_3 ?_
    refine ex_dup2 dX11_feasts_28 rfl rfl ?_
    refine mx_iald (M2 156 3) dX11_feasts_29 (rdc_156_3 _) ?_
    refine ex_iconst 1 dX11_feasts_30 kI_1 ?_
    refine ex_iadd dX11_feasts_31 ?_
    obtain ⟨M4, eM4, h⟩ := ltE h
    refine mx_iast M4 dX11_feasts_32 ((wrc_156_3 _ _).trans (congrArg some eM4.symm)) ?_
    refine ex_iload_n dX11_feasts_33 rfl ?_
    refine ex_if_le 61 dX11_feasts_34 (by decide) (fun c5 => ?_) (fun c5 => ?_)
    · rw [if_pos c5] at h
      refine ex_aload_n dX11_feasts_61 rfl ?_
      refine ex_iconst 0 dX11_feasts_62 kI_0 ?_
      refine ex_iload_n dX11_feasts_63 rfl ?_
      refine ex_iload_n dX11_feasts_64 rfl ?_
      obtain ⟨M6, qM6, h⟩ := b1E h
      refine mx_cVv [.int 0, .int a1, .int x3] [] 155 11 dX11_feasts_65 cl_X11_323 im_X11_notes cy_X11_notes oc_at_155 rfl (Nat.le_of_ble_eq_true rfl) (by decide) (t_X11_notes l E 0 a1 x3 M4 qM6) ?_
      refine ex_iload_n dX11_feasts_68 rfl ?_
      cases h
      exact mx_reti .int dX11_feasts_69 ⟨rfl, rfl⟩
    · rw [if_neg c5] at h
      refine ex_aload_n dX11_feasts_37 rfl ?_
      refine ex_iload_n dX11_feasts_38 rfl ?_
      refine ex_iload_n dX11_feasts_39 rfl ?_
      obtain ⟨M7, x8, qx8, h⟩ := b2E h
      refine mx_cVi [.int a1, .int a2] [] 155 11 x8 dX11_feasts_40 cl_X11_316 im_X11_edgeOf cy_X11_edgeOf oc_at_155 rfl (Nat.le_of_ble_eq_true rfl) (by decide) (t_X11_edgeOf l E a1 a2 M4 qx8) ?_
      refine ex_istore (L2 := [some (.ref 155), some (.int a1), some (.int a2), some (.int x3), some (.int x8)]) dX11_feasts_43 (by decide) rfl ?_
      refine ex_aload_n dX11_feasts_45 rfl ?_
      refine ex_iload_n dX11_feasts_46 rfl ?_
      refine ex_iload_n dX11_feasts_47 rfl ?_
      refine ex_aload_n dX11_feasts_48 rfl ?_
      refine mx_getr 11 156 dX11_feasts_49 fl_X11_7 oc_at_155 (rf_11_0 oc_at_155) ?_
      refine ex_iconst 0 dX11_feasts_52 kI_0 ?_
      refine mx_iald (M7 156 0) dX11_feasts_53 (rdc_156_0 _) ?_
      refine ex_iload dX11_feasts_54 rfl ?_
      refine ex_iconst 0 dX11_feasts_56 kI_0 ?_
      obtain ⟨M9, x10, qx10, h⟩ := b2E h
      refine mx_cVi [.int a1, .int x3, .int (M7 156 0), .int x8, .int 0] [] 155 11 x10 dX11_feasts_57 cl_X11_319 im_X11_comes cy_X11_comes oc_at_155 rfl (Nat.le_of_ble_eq_true rfl) (by decide) (t_X11_comes l E a1 x3 (M7 156 0) x8 0 M7 qx10) ?_
      refine ex_pop dX11_feasts_60 rfl ?_
      refine ex_aload_n dX11_feasts_61 rfl ?_
      refine ex_iconst 0 dX11_feasts_62 kI_0 ?_
      refine ex_iload_n dX11_feasts_63 rfl ?_
      refine ex_iload_n dX11_feasts_64 rfl ?_
      obtain ⟨M11, qM11, h⟩ := b1E h
      refine mx_cVv [.int 0, .int a1, .int x3] [] 155 11 dX11_feasts_65 cl_X11_323 im_X11_notes cy_X11_notes oc_at_155 rfl (Nat.le_of_ble_eq_true rfl) (by decide) (t_X11_notes l E 0 a1 x3 M9 qM11) ?_
      refine ex_iload_n dX11_feasts_68 rfl ?_
      cases h
      exact mx_reti .int dX11_feasts_69 ⟨rfl, rfl⟩
  · rw [if_pos c1] at h
    refine ex_iconst 0 dX11_feasts_12 kI_0 ?_
    refine ex_goto 22 dX11_feasts_13 (by decide) ?_
    refine ex_istore_n (L2 := [some (.ref 155), some (.int a1), some (.int a2), some (.int 0), none]) dX11_feasts_22 (by decide) rfl ?_
    refine ex_aload_n dX11_feasts_23 rfl ?_
    refine mx_getr 11 156 dX11_feasts_24 fl_X11_7 oc_at_155 (rf_11_0 oc_at_155) ?_
    refine ex_iconst 3 dX11_feasts_27 kI_3 ?_
    refine ex_dup2 dX11_feasts_28 rfl rfl ?_
    refine mx_iald (M 156 3) dX11_feasts_29 (rdc_156_3 _) ?_
    refine ex_iconst 1 dX11_feasts_30 kI_1 ?_
    refine ex_iadd dX11_feasts_31 ?_
    obtain ⟨M12, eM12, h⟩ := ltE h
    refine mx_iast M12 dX11_feasts_32 ((wrc_156_3 _ _).trans (congrArg some eM12.symm)) ?_
    refine ex_iload_n dX11_feasts_33 rfl ?_
    refine ex_if_le 61 dX11_feasts_34 (by decide) (fun _ => ?_) (fun z => absurd (by decide) z)
    refine ex_aload_n dX11_feasts_61 rfl ?_
    refine ex_iconst 0 dX11_feasts_62 kI_0 ?_
    refine ex_iload_n dX11_feasts_63 rfl ?_
    refine ex_iload_n dX11_feasts_64 rfl ?_
    obtain ⟨M13, qM13, h⟩ := b1E h
    refine mx_cVv [.int 0, .int a1, .int 0] [] 155 11 dX11_feasts_65 cl_X11_323 im_X11_notes cy_X11_notes oc_at_155 rfl (Nat.le_of_ble_eq_true rfl) (by decide) (t_X11_notes l E 0 a1 0 M12 qM13) ?_
    refine ex_iload_n dX11_feasts_68 rfl ?_
    cases h
    exact mx_reti .int dX11_feasts_69 ⟨rfl, rfl⟩
def f_X11_feast (a1 : Int32) (a2 : Int32) (M : Mem) : Option (Mem × Int32) :=
  if ((f_X11_isKind a1 M) = 0 ∨ (f_X11_isIn a2 1 20) = 0) then (some (M, (-1))) else (b1 (f_X11_keeps M) fun M4 => b2 (f_X11_feasts a1 a2 M4) fun M5 x6 => some (M5, x6))
set_option maxRecDepth 100000 in
set_option maxHeartbeats 4000000 in
theorem t_X11_feast (l : Launch) (E : EV) (a1 : Int32) (a2 : Int32) (M : Mem) {M' : Mem} {r : Int32} (h : f_X11_feast a1 a2 M = some (M', r)) : RunM l E yX11_feast cX11_feast 3 (some .int) 6 [.ref 155, .int a1, .int a2] M M' (some (.int r)) := by
  refine RunM.of (by decide) (Nat.le_of_ble_eq_true rfl) ?_
  show XM l E (RX11, "feast", cX11_feast, 3) (some .int) 6 0 [some (.ref 155), some (.int a1), some (.int a2)] [] M M' (some (.int r))
  unfold f_X11_feast at h
  refine ex_aload_n dX11_feast_0 rfl ?_
  refine ex_iload_n dX11_feast_1 rfl ?_
  refine mx_cVi [.int a1] [] 155 11 (f_X11_isKind a1 M) dX11_feast_2 cl_X11_239 im_X11_isKind cy_X11_isKind oc_at_155 rfl (Nat.le_of_ble_eq_true rfl) (by decide) (t_X11_isKind l E a1 M rfl) ?_
  have JXC3 : ((f_X11_isKind a1 M) = 0 ∨ (f_X11_isIn a2 1 20) = 0) → XM l E (RX11, "feast", cX11_feast, 3) (some .int) 6 18 [some (.ref 155), some (.int a1), some (.int a2)] [] M M' (some (.int r)) := fun C3 => by
    rw [if_pos C3] at h
    refine ex_iconst (-1) dX11_feast_18 kI_m1 ?_
    cases h
    exact mx_reti .int dX11_feast_19 ⟨rfl, rfl⟩
  have JYC3 : ¬ (((f_X11_isKind a1 M) = 0 ∨ (f_X11_isIn a2 1 20) = 0)) → XM l E (RX11, "feast", cX11_feast, 3) (some .int) 6 21 [some (.ref 155), some (.int a1), some (.int a2)] [.ref 155] M M' (some (.int r)) := fun C3 => by
    rw [if_neg C3] at h
    obtain ⟨M4, qM4, h⟩ := b1E h
    refine mx_cVv [] [] 155 11 dX11_feast_21 cl_X11_327 im_X11_keeps cy_X11_keeps oc_at_155 rfl (Nat.le_of_ble_eq_true rfl) (by decide) (t_X11_keeps l E M qM4) ?_
    refine ex_aload_n dX11_feast_24 rfl ?_
    refine ex_iload_n dX11_feast_25 rfl ?_
    refine ex_iload_n dX11_feast_26 rfl ?_
    obtain ⟨M5, x6, qx6, h⟩ := b2E h
    refine mx_cVi [.int a1, .int a2] [] 155 11 x6 dX11_feast_27 cl_X11_329 im_X11_feasts cy_X11_feasts oc_at_155 rfl (Nat.le_of_ble_eq_true rfl) (by decide) (t_X11_feasts l E a1 a2 M4 qx6) ?_
    cases h
    exact mx_reti .int dX11_feast_30 ⟨rfl, rfl⟩
  clear h
  refine ex_if_eq 18 dX11_feast_5 (by decide) (fun c1 => ?_) (fun c1 => ?_)
  · exact JXC3 (Or.inl c1)
  · refine ex_iload_n dX11_feast_8 rfl ?_
    refine ex_iconst 1 dX11_feast_9 kI_1 ?_
    refine ex_bipush 20 dX11_feast_10 kB_20 ?_
    refine mx_cSi [.int a2, .int 1, .int 20] [] (f_X11_isIn a2 1 20) dX11_feast_12 cl_X11_53 sm_X11_isIn rfl (Nat.le_of_ble_eq_true rfl) (by decide) (t_X11_isIn l E a2 1 20 M rfl) ?_
    refine ex_if_ne 20 dX11_feast_15 (by decide) (fun c2 => ?_) (fun c2 => ?_)
    · refine ex_aload_n dX11_feast_20 rfl ?_
      exact JYC3 (fun z => z.elim c1 c2)
    · exact JXC3 (Or.inr c2)
def f_X11_forge (a1 : Int32) (a2 : Int32) (M : Mem) : Option (Mem × Int32) :=
  if (f_X11_isKind a1 M) = 0 then (some (M, (-1))) else (b1 (f_X11_wholeOf a1 M) fun x2 => if ((f_X11_isIn a2 1 (x2 - 1)) = 0 ∨ ((M 156 1) < 20 ∨ (M 156 7) = 14)) then (some (M, (-1))) else (b1 (f_X11_keeps M) fun M7 => lt (up2 M7 156 1 ((M7 156 1) - 20)) fun M8 => b1 (f_X11_notes 1 a1 a2 M8) fun M9 => b2 (f_X11_comes a1 a2 (M9 156 0) 9 1 M9) fun M10 x11 => some (M10, x11)))
set_option maxRecDepth 100000 in
set_option maxHeartbeats 4000000 in
theorem t_X11_forge (l : Launch) (E : EV) (a1 : Int32) (a2 : Int32) (M : Mem) {M' : Mem} {r : Int32} (h : f_X11_forge a1 a2 M = some (M', r)) : RunM l E yX11_forge cX11_forge 3 (some .int) 2 [.ref 155, .int a1, .int a2] M M' (some (.int r)) := by
  refine RunM.of (by decide) (Nat.le_of_ble_eq_true rfl) ?_
  show XM l E (RX11, "forge", cX11_forge, 3) (some .int) 2 0 [some (.ref 155), some (.int a1), some (.int a2)] [] M M' (some (.int r))
  unfold f_X11_forge at h
  refine ex_aload_n dX11_forge_0 rfl ?_
  refine ex_iload_n dX11_forge_1 rfl ?_
  refine mx_cVi [.int a1] [] 155 11 (f_X11_isKind a1 M) dX11_forge_2 cl_X11_239 im_X11_isKind cy_X11_isKind oc_at_155 rfl (Nat.le_of_ble_eq_true rfl) (by decide) (t_X11_isKind l E a1 M rfl) ?_
  refine ex_if_eq 46 dX11_forge_5 (by decide) (fun c1 => ?_) (fun c1 => ?_)
  · rw [if_pos c1] at h
    refine ex_iconst (-1) dX11_forge_46 kI_m1 ?_
    cases h
    exact mx_reti .int dX11_forge_47 ⟨rfl, rfl⟩
  · rw [if_neg c1] at h
    refine ex_iload_n dX11_forge_8 rfl ?_
    refine ex_iconst 1 dX11_forge_9 kI_1 ?_
    refine ex_aload_n dX11_forge_10 rfl ?_
    refine ex_iload_n dX11_forge_11 rfl ?_
    obtain ⟨x2, qx2, h⟩ := b1E h
    refine mx_cVi [.int a1] [.int 1, .int a2] 155 11 x2 dX11_forge_12 cl_X11_294 im_X11_wholeOf cy_X11_wholeOf oc_at_155 rfl (Nat.le_of_ble_eq_true rfl) (by decide) (t_X11_wholeOf l E a1 M qx2) ?_
    refine ex_iconst 1 dX11_forge_15 kI_1 ?_
    refine ex_isub dX11_forge_16 ?_
    refine mx_cSi [.int a2, .int 1, .int (x2 - 1)] [] (f_X11_isIn a2 1 (x2 - 1)) dX11_forge_17 cl_X11_53 sm_X11_isIn rfl (Nat.le_of_ble_eq_true rfl) (by decide) (t_X11_isIn l E a2 1 (x2 - 1) M rfl) ?_
    have JXC6 : ((f_X11_isIn a2 1 (x2 - 1)) = 0 ∨ ((M 156 1) < 20 ∨ (M 156 7) = 14)) → XM l E (RX11, "forge", cX11_forge, 3) (some .int) 2 46 [some (.ref 155), some (.int a1), some (.int a2)] [] M M' (some (.int r)) := fun C6 => by
      rw [if_pos C6] at h
      refine ex_iconst (-1) dX11_forge_46 kI_m1 ?_
      cases h
      exact mx_reti .int dX11_forge_47 ⟨rfl, rfl⟩
    have JYC6 : ¬ (((f_X11_isIn a2 1 (x2 - 1)) = 0 ∨ ((M 156 1) < 20 ∨ (M 156 7) = 14))) → XM l E (RX11, "forge", cX11_forge, 3) (some .int) 2 49 [some (.ref 155), some (.int a1), some (.int a2)] [.ref 155] M M' (some (.int r)) := fun C6 => by
      rw [if_neg C6] at h
      obtain ⟨M7, qM7, h⟩ := b1E h
      refine mx_cVv [] [] 155 11 dX11_forge_49 cl_X11_327 im_X11_keeps cy_X11_keeps oc_at_155 rfl (Nat.le_of_ble_eq_true rfl) (by decide) (t_X11_keeps l E M qM7) ?_
      refine ex_aload_n dX11_forge_52 rfl ?_
      refine mx_getr 11 156 dX11_forge_53 fl_X11_7 oc_at_155 (rf_11_0 oc_at_155) ?_
      refine ex_iconst 1 dX11_forge_56 kI_1 ?_
      refine ex_dup2 dX11_forge_57 rfl rfl ?_
      refine mx_iald (M7 156 1) dX11_forge_58 (rdc_156_1 _) ?_
      refine ex_bipush 20 dX11_forge_59 kB_20 ?_
      refine ex_isub dX11_forge_61 ?_
      obtain ⟨M8, eM8, h⟩ := ltE h
      refine mx_iast M8 dX11_forge_62 ((wrc_156_1 _ _).trans (congrArg some eM8.symm)) ?_
      refine ex_aload_n dX11_forge_63 rfl ?_
      refine ex_iconst 1 dX11_forge_64 kI_1 ?_
      refine ex_iload_n dX11_forge_65 rfl ?_
      refine ex_iload_n dX11_forge_66 rfl ?_
      obtain ⟨M9, qM9, h⟩ := b1E h
      refine mx_cVv [.int 1, .int a1, .int a2] [] 155 11 dX11_forge_67 cl_X11_323 im_X11_notes cy_X11_notes oc_at_155 rfl (Nat.le_of_ble_eq_true rfl) (by decide) (t_X11_notes l E 1 a1 a2 M8 qM9) ?_
      refine ex_aload_n dX11_forge_70 rfl ?_
      refine ex_iload_n dX11_forge_71 rfl ?_
      refine ex_iload_n dX11_forge_72 rfl ?_
      refine ex_aload_n dX11_forge_73 rfl ?_
      refine mx_getr 11 156 dX11_forge_74 fl_X11_7 oc_at_155 (rf_11_0 oc_at_155) ?_
      refine ex_iconst 0 dX11_forge_77 kI_0 ?_
      refine mx_iald (M9 156 0) dX11_forge_78 (rdc_156_0 _) ?_
      refine ex_bipush 9 dX11_forge_79 kB_9 ?_
      refine ex_iconst 1 dX11_forge_81 kI_1 ?_
      obtain ⟨M10, x11, qx11, h⟩ := b2E h
      refine mx_cVi [.int a1, .int a2, .int (M9 156 0), .int 9, .int 1] [] 155 11 x11 dX11_forge_82 cl_X11_319 im_X11_comes cy_X11_comes oc_at_155 rfl (Nat.le_of_ble_eq_true rfl) (by decide) (t_X11_comes l E a1 a2 (M9 156 0) 9 1 M9 qx11) ?_
      cases h
      exact mx_reti .int dX11_forge_85 ⟨rfl, rfl⟩
    clear h
    refine ex_if_eq 46 dX11_forge_20 (by decide) (fun c3 => ?_) (fun c3 => ?_)
    · exact JXC6 (Or.inl c3)
    · refine ex_aload_n dX11_forge_23 rfl ?_
      refine mx_getr 11 156 dX11_forge_24 fl_X11_7 oc_at_155 (rf_11_0 oc_at_155) ?_
      refine ex_iconst 1 dX11_forge_27 kI_1 ?_
      refine mx_iald (M 156 1) dX11_forge_28 (rdc_156_1 _) ?_
      refine ex_bipush 20 dX11_forge_29 kB_20 ?_
      refine ex_icmp_lt 46 dX11_forge_31 (by decide) (fun c4 => ?_) (fun c4 => ?_)
      · exact JXC6 (Or.inr (Or.inl c4))
      · refine ex_aload_n dX11_forge_34 rfl ?_
        refine mx_getr 11 156 dX11_forge_35 fl_X11_7 oc_at_155 (rf_11_0 oc_at_155) ?_
        refine ex_bipush 7 dX11_forge_38 kB_7 ?_
        refine mx_iald (M 156 7) dX11_forge_40 (rdc_156_7 _) ?_
        refine ex_bipush 14 dX11_forge_41 kB_14 ?_
        refine ex_icmp_ne 48 dX11_forge_43 (by decide) (fun c5 => ?_) (fun c5 => ?_)
        · refine ex_aload_n dX11_forge_48 rfl ?_
          exact JYC6 (fun z => z.elim c3 (fun z => z.elim c4 c5))
        · exact JXC6 (Or.inr (Or.inr c5))
def f_X11_cut (a1 : Int32) (a2 : Int32) (M : Mem) : Option (Mem × Int32) :=
  if ((f_X11_isRemain a1 M) = 0 ∨ (M 156 7) = 14) then (some (M, (-1))) else (b1 (f_X11_ofRemain a1 1 M) fun x4 => if (f_X11_isIn a2 1 (x4 - 1)) = 0 then (some (M, (-1))) else (b1 (f_X11_keeps M) fun M6 => b1 (rd M6 156 ((8 + (5 * a1)) + 1)) fun x7 => b1 (wr M6 156 ((8 + (5 * a1)) + 1) a2) fun M8 => b1 (rd M8 156 ((8 + (5 * a1)) + 3)) fun x9 => b1 (wr M8 156 ((8 + (5 * a1)) + 3) (f_X11_lesser 9 (x9 + 1))) fun M10 => b1 (rd M10 156 ((8 + (5 * a1)) + 0)) fun x11 => b1 (f_X11_notes 2 x11 a2 M10) fun M12 => b1 (rd M12 156 ((8 + (5 * a1)) + 0)) fun x13 => b1 (rd M12 156 ((8 + (5 * a1)) + 2)) fun x14 => b1 (rd M12 156 ((8 + (5 * a1)) + 3)) fun x15 => b1 (rd M12 156 ((8 + (5 * a1)) + 4)) fun x16 => b2 (f_X11_comes x13 (x7 - a2) x14 x15 x16 M12) fun M17 x18 => some (M17, x18)))
set_option maxRecDepth 100000 in
set_option maxHeartbeats 4000000 in
theorem t_X11_cut (l : Launch) (E : EV) (a1 : Int32) (a2 : Int32) (M : Mem) {M' : Mem} {r : Int32} (h : f_X11_cut a1 a2 M = some (M', r)) : RunM l E yX11_cut cX11_cut 5 (some .int) 2 [.ref 155, .int a1, .int a2] M M' (some (.int r)) := by
  refine RunM.of (by decide) (Nat.le_of_ble_eq_true rfl) ?_
  show XM l E (RX11, "cut", cX11_cut, 5) (some .int) 2 0 [some (.ref 155), some (.int a1), some (.int a2), none, none] [] M M' (some (.int r))
  unfold f_X11_cut at h
  refine ex_aload_n dX11_cut_0 rfl ?_
  refine ex_iload_n dX11_cut_1 rfl ?_
  refine mx_cVi [.int a1] [] 155 11 (f_X11_isRemain a1 M) dX11_cut_2 cl_X11_332 im_X11_isRemain cy_X11_isRemain oc_at_155 rfl (Nat.le_of_ble_eq_true rfl) (by decide) (t_X11_isRemain l E a1 M rfl) ?_
  have JXC3 : ((f_X11_isRemain a1 M) = 0 ∨ (M 156 7) = 14) → XM l E (RX11, "cut", cX11_cut, 5) (some .int) 2 36 [some (.ref 155), some (.int a1), some (.int a2), none, none] [] M M' (some (.int r)) := fun C3 => by
    rw [if_pos C3] at h
    refine ex_iconst (-1) dX11_cut_36 kI_m1 ?_
    cases h
    exact mx_reti .int dX11_cut_37 ⟨rfl, rfl⟩
  have JYC3 : ¬ (((f_X11_isRemain a1 M) = 0 ∨ (M 156 7) = 14)) → XM l E (RX11, "cut", cX11_cut, 5) (some .int) 2 25 [some (.ref 155), some (.int a1), some (.int a2), none, none] [.int 1, .int a1, .ref 155, .int 1, .int a2] M M' (some (.int r)) := fun C3 => by
    rw [if_neg C3] at h
    obtain ⟨x4, qx4, h⟩ := b1E h
    refine mx_cVi [.int a1, .int 1] [.int 1, .int a2] 155 11 x4 dX11_cut_25 cl_X11_57 im_X11_ofRemain cy_X11_ofRemain oc_at_155 rfl (Nat.le_of_ble_eq_true rfl) (by decide) (t_X11_ofRemain l E a1 1 M qx4) ?_
    refine ex_iconst 1 dX11_cut_28 kI_1 ?_
    refine ex_isub dX11_cut_29 ?_
    refine mx_cSi [.int a2, .int 1, .int (x4 - 1)] [] (f_X11_isIn a2 1 (x4 - 1)) dX11_cut_30 cl_X11_53 sm_X11_isIn rfl (Nat.le_of_ble_eq_true rfl) (by decide) (t_X11_isIn l E a2 1 (x4 - 1) M rfl) ?_
    refine ex_if_ne 38 dX11_cut_33 (by decide) (fun c5 => ?_) (fun c5 => ?_)
    · rw [if_neg c5] at h
      refine ex_aload_n dX11_cut_38 rfl ?_
      obtain ⟨M6, qM6, h⟩ := b1E h
      refine mx_cVv [] [] 155 11 dX11_cut_39 cl_X11_327 im_X11_keeps cy_X11_keeps oc_at_155 rfl (Nat.le_of_ble_eq_true rfl) (by decide) (t_X11_keeps l E M qM6) ?_
      refine ex_bipush 8 dX11_cut_42 kB_8 ?_
      refine ex_iconst 5 dX11_cut_44 kI_5 ?_
      refine ex_iload_n dX11_cut_45 rfl ?_
      refine ex_imul dX11_cut_46 ?_
      refine ex_iadd dX11_cut_47 ?_
      refine ex_istore_n (L2 := [some (.ref 155), some (.int a1), some (.int a2), some (.int (8 + (5 * a1))), none]) dX11_cut_48 (by decide) rfl ?_
      refine ex_aload_n dX11_cut_49 rfl ?_
      refine mx_getr 11 156 dX11_cut_50 fl_X11_7 oc_at_155 (rf_11_0 oc_at_155) ?_
      refine ex_iload_n dX11_cut_53 rfl ?_
      refine ex_iconst 1 dX11_cut_54 kI_1 ?_
      refine ex_iadd dX11_cut_55 ?_
      obtain ⟨x7, qx7, h⟩ := b1E h
      refine mx_iald x7 dX11_cut_56 qx7 ?_
      refine ex_iload_n dX11_cut_57 rfl ?_
      refine ex_isub dX11_cut_58 ?_
      refine ex_istore (L2 := [some (.ref 155), some (.int a1), some (.int a2), some (.int (8 + (5 * a1))), some (.int (x7 - a2))]) dX11_cut_59 (by decide) rfl ?_
      refine ex_aload_n dX11_cut_61 rfl ?_
      refine mx_getr 11 156 dX11_cut_62 fl_X11_7 oc_at_155 (rf_11_0 oc_at_155) ?_
      refine ex_iload_n dX11_cut_65 rfl ?_
      refine ex_iconst 1 dX11_cut_66 kI_1 ?_
      refine ex_iadd dX11_cut_67 ?_
      refine ex_iload_n dX11_cut_68 rfl ?_
      obtain ⟨M8, qM8, h⟩ := b1E h
      refine mx_iast M8 dX11_cut_69 qM8 ?_
      refine ex_aload_n dX11_cut_70 rfl ?_
      refine mx_getr 11 156 dX11_cut_71 fl_X11_7 oc_at_155 (rf_11_0 oc_at_155) ?_
      refine ex_iload_n dX11_cut_74 rfl ?_
      refine ex_iconst 3 dX11_cut_75 kI_3 ?_
      refine ex_iadd dX11_cut_76 ?_
      refine ex_bipush 9 dX11_cut_77 kB_9 ?_
      refine ex_aload_n dX11_cut_79 rfl ?_
      refine mx_getr 11 156 dX11_cut_80 fl_X11_7 oc_at_155 (rf_11_0 oc_at_155) ?_
      refine ex_iload_n dX11_cut_83 rfl ?_
      refine ex_iconst 3 dX11_cut_84 kI_3 ?_
      refine ex_iadd dX11_cut_85 ?_
      obtain ⟨x9, qx9, h⟩ := b1E h
      refine mx_iald x9 dX11_cut_86 qx9 ?_
      refine ex_iconst 1 dX11_cut_87 kI_1 ?_
      refine ex_iadd dX11_cut_88 ?_
      refine mx_cSi [.int 9, .int (x9 + 1)] [.int ((8 + (5 * a1)) + 3), .ref 156] (f_X11_lesser 9 (x9 + 1)) dX11_cut_89 cl_X11_288 sm_X11_lesser rfl (Nat.le_of_ble_eq_true rfl) (by decide) (t_X11_lesser l E 9 (x9 + 1) M8 rfl) ?_
      obtain ⟨M10, qM10, h⟩ := b1E h
      refine mx_iast M10 dX11_cut_92 qM10 ?_
      refine ex_aload_n dX11_cut_93 rfl ?_
      refine ex_iconst 2 dX11_cut_94 kI_2 ?_
      refine ex_aload_n dX11_cut_95 rfl ?_
      refine mx_getr 11 156 dX11_cut_96 fl_X11_7 oc_at_155 (rf_11_0 oc_at_155) ?_
      refine ex_iload_n dX11_cut_99 rfl ?_
      refine ex_iconst 0 dX11_cut_100 kI_0 ?_
      refine ex_iadd dX11_cut_101 ?_
      obtain ⟨x11, qx11, h⟩ := b1E h
      refine mx_iald x11 dX11_cut_102 qx11 ?_
      refine ex_iload_n dX11_cut_103 rfl ?_
      obtain ⟨M12, qM12, h⟩ := b1E h
      refine mx_cVv [.int 2, .int x11, .int a2] [] 155 11 dX11_cut_104 cl_X11_323 im_X11_notes cy_X11_notes oc_at_155 rfl (Nat.le_of_ble_eq_true rfl) (by decide) (t_X11_notes l E 2 x11 a2 M10 qM12) ?_
      refine ex_aload_n dX11_cut_107 rfl ?_
      refine ex_aload_n dX11_cut_108 rfl ?_
      refine mx_getr 11 156 dX11_cut_109 fl_X11_7 oc_at_155 (rf_11_0 oc_at_155) ?_
      refine ex_iload_n dX11_cut_112 rfl ?_
      refine ex_iconst 0 dX11_cut_113 kI_0 ?_
      refine ex_iadd dX11_cut_114 ?_
      obtain ⟨x13, qx13, h⟩ := b1E h
      refine mx_iald x13 dX11_cut_115 qx13 ?_
      refine ex_iload dX11_cut_116 rfl ?_
      refine ex_aload_n dX11_cut_118 rfl ?_
      refine mx_getr 11 156 dX11_cut_119 fl_X11_7 oc_at_155 (rf_11_0 oc_at_155) ?_
      refine ex_iload_n dX11_cut_122 rfl ?_
      refine ex_iconst 2 dX11_cut_123 kI_2 ?_
      refine ex_iadd dX11_cut_124 ?_
      obtain ⟨x14, qx14, h⟩ := b1E h
      refine mx_iald x14 dX11_cut_125 qx14 ?_
      refine ex_aload_n dX11_cut_126 rfl ?_
      refine mx_getr 11 156 dX11_cut_127 fl_X11_7 oc_at_155 (rf_11_0 oc_at_155) ?_
      refine ex_iload_n dX11_cut_130 rfl ?_
      refine ex_iconst 3 dX11_cut_131 kI_3 ?_
      refine ex_iadd dX11_cut_132 ?_
      obtain ⟨x15, qx15, h⟩ := b1E h
      refine mx_iald x15 dX11_cut_133 qx15 ?_
      refine ex_aload_n dX11_cut_134 rfl ?_
      refine mx_getr 11 156 dX11_cut_135 fl_X11_7 oc_at_155 (rf_11_0 oc_at_155) ?_
      refine ex_iload_n dX11_cut_138 rfl ?_
      refine ex_iconst 4 dX11_cut_139 kI_4 ?_
      refine ex_iadd dX11_cut_140 ?_
      obtain ⟨x16, qx16, h⟩ := b1E h
      refine mx_iald x16 dX11_cut_141 qx16 ?_
      obtain ⟨M17, x18, qx18, h⟩ := b2E h
      refine mx_cVi [.int x13, .int (x7 - a2), .int x14, .int x15, .int x16] [] 155 11 x18 dX11_cut_142 cl_X11_319 im_X11_comes cy_X11_comes oc_at_155 rfl (Nat.le_of_ble_eq_true rfl) (by decide) (t_X11_comes l E x13 (x7 - a2) x14 x15 x16 M12 qx18) ?_
      cases h
      exact mx_reti .int dX11_cut_145 ⟨rfl, rfl⟩
    · rw [if_pos c5] at h
      refine ex_iconst (-1) dX11_cut_36 kI_m1 ?_
      cases h
      exact mx_reti .int dX11_cut_37 ⟨rfl, rfl⟩
  clear h
  refine ex_if_eq 36 dX11_cut_5 (by decide) (fun c1 => ?_) (fun c1 => ?_)
  · exact JXC3 (Or.inl c1)
  · refine ex_aload_n dX11_cut_8 rfl ?_
    refine mx_getr 11 156 dX11_cut_9 fl_X11_7 oc_at_155 (rf_11_0 oc_at_155) ?_
    refine ex_bipush 7 dX11_cut_12 kB_7 ?_
    refine mx_iald (M 156 7) dX11_cut_14 (rdc_156_7 _) ?_
    refine ex_bipush 14 dX11_cut_15 kB_14 ?_
    refine ex_icmp_eq 36 dX11_cut_17 (by decide) (fun c2 => ?_) (fun c2 => ?_)
    · exact JXC3 (Or.inr c2)
    · refine ex_iload_n dX11_cut_20 rfl ?_
      refine ex_iconst 1 dX11_cut_21 kI_1 ?_
      refine ex_aload_n dX11_cut_22 rfl ?_
      refine ex_iload_n dX11_cut_23 rfl ?_
      refine ex_iconst 1 dX11_cut_24 kI_1 ?_
      exact JYC3 (fun z => z.elim c1 c2)
def f_X11_joined (a1 : Int32) : (Int32) :=
  ((9 * a1) / 10)
set_option maxRecDepth 100000 in
set_option maxHeartbeats 4000000 in
theorem t_X11_joined (l : Launch) (E : EV) (a1 : Int32) (M : Mem) {r : Int32} (h : f_X11_joined a1 = r) : RunM l E yX11_joined cX11_joined 1 (some .int) 0 [.int a1] M M (some (.int r)) := by
  refine RunM.of (by decide) (Nat.le_of_ble_eq_true rfl) ?_
  show XM l E (RX11, "joined", cX11_joined, 1) (some .int) 0 0 [some (.int a1)] [] M M (some (.int r))
  unfold f_X11_joined at h
  refine ex_bipush 9 dX11_joined_0 kB_9 ?_
  refine ex_iload_n dX11_joined_2 rfl ?_
  refine ex_imul dX11_joined_3 ?_
  refine ex_bipush 10 dX11_joined_4 kB_10 ?_
  refine ex_idiv dX11_joined_6 (by decide) ?_
  subst h
  exact mx_reti .int dX11_joined_7 ⟨rfl, rfl⟩
def f_X11_join (a1 : Int32) (a2 : Int32) (M : Mem) : Option (Mem × Int32) :=
  if ((f_X11_isRemain a1 M) = 0 ∨ ((f_X11_isRemain a2 M) = 0 ∨ a1 = a2)) then (some (M, (-1))) else (b1 (f_X11_ofRemain a1 0 M) fun x5 => b1 (f_X11_ofRemain a2 0 M) fun x6 => if x5 = x6 then (b1 (f_X11_ofRemain a1 1 M) fun x8 => b1 (f_X11_ofRemain a2 1 M) fun x9 => lt (f_X11_greater 1 (f_X11_lesser 99 (f_X11_joined (x8 + x9)))) fun x10 => b1 (f_X11_keeps M) fun M11 => b1 (wr M11 156 ((8 + (5 * a1)) + 1) x10) fun M12 => b1 (rd M12 156 ((8 + (5 * a1)) + 3)) fun x13 => b1 (f_X11_ofRemain a2 3 M12) fun x14 => b1 (wr M12 156 ((8 + (5 * a1)) + 3) (f_X11_greater x13 x14)) fun M15 => b1 (rd M15 156 ((8 + (5 * a1)) + 2)) fun x16 => b1 (f_X11_ofRemain a2 2 M15) fun x17 => b1 (wr M15 156 ((8 + (5 * a1)) + 2) (f_X11_lesser x16 x17)) fun M18 => b1 (rd M18 156 ((8 + (5 * a1)) + 4)) fun x19 => b1 (f_X11_ofRemain a2 4 M18) fun x20 => b1 (wr M18 156 ((8 + (5 * a1)) + 4) (f_X11_greater x19 x20)) fun M21 => b1 (rd M21 156 ((8 + (5 * a1)) + 0)) fun x22 => b1 (f_X11_notes 3 x22 x10 M21) fun M23 => b1 (f_X11_goesAway a2 M23) fun M24 => some (M24, x10)) else (some (M, (-1))))
set_option maxRecDepth 100000 in
set_option maxHeartbeats 4000000 in
theorem t_X11_join (l : Launch) (E : EV) (a1 : Int32) (a2 : Int32) (M : Mem) {M' : Mem} {r : Int32} (h : f_X11_join a1 a2 M = some (M', r)) : RunM l E yX11_join cX11_join 5 (some .int) 2 [.ref 155, .int a1, .int a2] M M' (some (.int r)) := by
  refine RunM.of (by decide) (Nat.le_of_ble_eq_true rfl) ?_
  show XM l E (RX11, "join", cX11_join, 5) (some .int) 2 0 [some (.ref 155), some (.int a1), some (.int a2), none, none] [] M M' (some (.int r))
  unfold f_X11_join at h
  refine ex_aload_n dX11_join_0 rfl ?_
  refine ex_iload_n dX11_join_1 rfl ?_
  refine mx_cVi [.int a1] [] 155 11 (f_X11_isRemain a1 M) dX11_join_2 cl_X11_332 im_X11_isRemain cy_X11_isRemain oc_at_155 rfl (Nat.le_of_ble_eq_true rfl) (by decide) (t_X11_isRemain l E a1 M rfl) ?_
  have JXC4 : ((f_X11_isRemain a1 M) = 0 ∨ ((f_X11_isRemain a2 M) = 0 ∨ a1 = a2)) → XM l E (RX11, "join", cX11_join, 5) (some .int) 2 36 [some (.ref 155), some (.int a1), some (.int a2), none, none] [] M M' (some (.int r)) := fun C4 => by
    rw [if_pos C4] at h
    refine ex_iconst (-1) dX11_join_36 kI_m1 ?_
    cases h
    exact mx_reti .int dX11_join_37 ⟨rfl, rfl⟩
  have JYC4 : ¬ (((f_X11_isRemain a1 M) = 0 ∨ ((f_X11_isRemain a2 M) = 0 ∨ a1 = a2))) → XM l E (RX11, "join", cX11_join, 5) (some .int) 2 24 [some (.ref 155), some (.int a1), some (.int a2), none, none] [.int 0, .int a1, .ref 155] M M' (some (.int r)) := fun C4 => by
    rw [if_neg C4] at h
    obtain ⟨x5, qx5, h⟩ := b1E h
    refine mx_cVi [.int a1, .int 0] [] 155 11 x5 dX11_join_24 cl_X11_57 im_X11_ofRemain cy_X11_ofRemain oc_at_155 rfl (Nat.le_of_ble_eq_true rfl) (by decide) (t_X11_ofRemain l E a1 0 M qx5) ?_
    refine ex_aload_n dX11_join_27 rfl ?_
    refine ex_iload_n dX11_join_28 rfl ?_
    refine ex_iconst 0 dX11_join_29 kI_0 ?_
    obtain ⟨x6, qx6, h⟩ := b1E h
    refine mx_cVi [.int a2, .int 0] [.int x5] 155 11 x6 dX11_join_30 cl_X11_57 im_X11_ofRemain cy_X11_ofRemain oc_at_155 rfl (Nat.le_of_ble_eq_true rfl) (by decide) (t_X11_ofRemain l E a2 0 M qx6) ?_
    refine ex_icmp_eq 38 dX11_join_33 (by decide) (fun c7 => ?_) (fun c7 => ?_)
    · rw [if_pos c7] at h
      refine ex_iconst 1 dX11_join_38 kI_1 ?_
      refine ex_bipush 99 dX11_join_39 kB_99 ?_
      refine ex_aload_n dX11_join_41 rfl ?_
      refine ex_iload_n dX11_join_42 rfl ?_
      refine ex_iconst 1 dX11_join_43 kI_1 ?_
      obtain ⟨x8, qx8, h⟩ := b1E h
      refine mx_cVi [.int a1, .int 1] [.int 99, .int 1] 155 11 x8 dX11_join_44 cl_X11_57 im_X11_ofRemain cy_X11_ofRemain oc_at_155 rfl (Nat.le_of_ble_eq_true rfl) (by decide) (t_X11_ofRemain l E a1 1 M qx8) ?_
      refine ex_aload_n dX11_join_47 rfl ?_
      refine ex_iload_n dX11_join_48 rfl ?_
      refine ex_iconst 1 dX11_join_49 kI_1 ?_
      obtain ⟨x9, qx9, h⟩ := b1E h
      refine mx_cVi [.int a2, .int 1] [.int x8, .int 99, .int 1] 155 11 x9 dX11_join_50 cl_X11_57 im_X11_ofRemain cy_X11_ofRemain oc_at_155 rfl (Nat.le_of_ble_eq_true rfl) (by decide) (t_X11_ofRemain l E a2 1 M qx9) ?_
      refine ex_iadd dX11_join_53 ?_
      refine mx_cSi [.int (x8 + x9)] [.int 99, .int 1] (f_X11_joined (x8 + x9)) dX11_join_54 cl_X11_335 sm_X11_joined rfl (Nat.le_of_ble_eq_true rfl) (by decide) (t_X11_joined l E (x8 + x9) M rfl) ?_
      refine mx_cSi [.int 99, .int (f_X11_joined (x8 + x9))] [.int 1] (f_X11_lesser 99 (f_X11_joined (x8 + x9))) dX11_join_57 cl_X11_288 sm_X11_lesser rfl (Nat.le_of_ble_eq_true rfl) (by decide) (t_X11_lesser l E 99 (f_X11_joined (x8 + x9)) M rfl) ?_
      refine mx_cSi [.int 1, .int (f_X11_lesser 99 (f_X11_joined (x8 + x9)))] [] (f_X11_greater 1 (f_X11_lesser 99 (f_X11_joined (x8 + x9)))) dX11_join_60 cl_X11_291 sm_X11_greater rfl (Nat.le_of_ble_eq_true rfl) (by decide) (t_X11_greater l E 1 (f_X11_lesser 99 (f_X11_joined (x8 + x9))) M rfl) ?_
      obtain ⟨x10, ex10, h⟩ := ltE h
      rw [← ex10]
      refine ex_istore_n (L2 := [some (.ref 155), some (.int a1), some (.int a2), some (.int x10), none]) dX11_join_63 (by decide) rfl ?_
      refine ex_aload_n dX11_join_64 rfl ?_
      obtain ⟨M11, qM11, h⟩ := b1E h
      refine mx_cVv [] [] 155 11 dX11_join_65 cl_X11_327 im_X11_keeps cy_X11_keeps oc_at_155 rfl (Nat.le_of_ble_eq_true rfl) (by decide) (t_X11_keeps l E M qM11) ?_
      refine ex_bipush 8 dX11_join_68 kB_8 ?_
      refine ex_iconst 5 dX11_join_70 kI_5 ?_
      refine ex_iload_n dX11_join_71 rfl ?_
      refine ex_imul dX11_join_72 ?_
      refine ex_iadd dX11_join_73 ?_
      refine ex_istore (L2 := [some (.ref 155), some (.int a1), some (.int a2), some (.int x10), some (.int (8 + (5 * a1)))]) dX11_join_74 (by decide) rfl ?_
      refine ex_aload_n dX11_join_76 rfl ?_
      refine mx_getr 11 156 dX11_join_77 fl_X11_7 oc_at_155 (rf_11_0 oc_at_155) ?_
      refine ex_iload dX11_join_80 rfl ?_
      refine ex_iconst 1 dX11_join_82 kI_1 ?_
      refine ex_iadd dX11_join_83 ?_
      refine ex_iload_n dX11_join_84 rfl ?_
      obtain ⟨M12, qM12, h⟩ := b1E h
      refine mx_iast M12 dX11_join_85 qM12 ?_
      refine ex_aload_n dX11_join_86 rfl ?_
      refine mx_getr 11 156 dX11_join_87 fl_X11_7 oc_at_155 (rf_11_0 oc_at_155) ?_
      refine ex_iload dX11_join_90 rfl ?_
      refine ex_iconst 3 dX11_join_92 kI_3 ?_
      refine ex_iadd dX11_join_93 ?_
      refine ex_aload_n dX11_join_94 rfl ?_
      refine mx_getr 11 156 dX11_join_95 fl_X11_7 oc_at_155 (rf_11_0 oc_at_155) ?_
      refine ex_iload dX11_join_98 rfl ?_
      refine ex_iconst 3 dX11_join_100 kI_3 ?_
      refine ex_iadd dX11_join_101 ?_
      obtain ⟨x13, qx13, h⟩ := b1E h
      refine mx_iald x13 dX11_join_102 qx13 ?_
      refine ex_aload_n dX11_join_103 rfl ?_
      refine ex_iload_n dX11_join_104 rfl ?_
      refine ex_iconst 3 dX11_join_105 kI_3 ?_
      obtain ⟨x14, qx14, h⟩ := b1E h
      refine mx_cVi [.int a2, .int 3] [.int x13, .int ((8 + (5 * a1)) + 3), .ref 156] 155 11 x14 dX11_join_106 cl_X11_57 im_X11_ofRemain cy_X11_ofRemain oc_at_155 rfl (Nat.le_of_ble_eq_true rfl) (by decide) (t_X11_ofRemain l E a2 3 M12 qx14) ?_
      refine mx_cSi [.int x13, .int x14] [.int ((8 + (5 * a1)) + 3), .ref 156] (f_X11_greater x13 x14) dX11_join_109 cl_X11_291 sm_X11_greater rfl (Nat.le_of_ble_eq_true rfl) (by decide) (t_X11_greater l E x13 x14 M12 rfl) ?_
      obtain ⟨M15, qM15, h⟩ := b1E h
      refine mx_iast M15 dX11_join_112 qM15 ?_
      refine ex_aload_n dX11_join_113 rfl ?_
      refine mx_getr 11 156 dX11_join_114 fl_X11_7 oc_at_155 (rf_11_0 oc_at_155) ?_
      refine ex_iload dX11_join_117 rfl ?_
      refine ex_iconst 2 dX11_join_119 kI_2 ?_
      refine ex_iadd dX11_join_120 ?_
      refine ex_aload_n dX11_join_121 rfl ?_
      refine mx_getr 11 156 dX11_join_122 fl_X11_7 oc_at_155 (rf_11_0 oc_at_155) ?_
      refine ex_iload dX11_join_125 rfl ?_
      refine ex_iconst 2 dX11_join_127 kI_2 ?_
      refine ex_iadd dX11_join_128 ?_
      obtain ⟨x16, qx16, h⟩ := b1E h
      refine mx_iald x16 dX11_join_129 qx16 ?_
      refine ex_aload_n dX11_join_130 rfl ?_
      refine ex_iload_n dX11_join_131 rfl ?_
      refine ex_iconst 2 dX11_join_132 kI_2 ?_
      obtain ⟨x17, qx17, h⟩ := b1E h
      refine mx_cVi [.int a2, .int 2] [.int x16, .int ((8 + (5 * a1)) + 2), .ref 156] 155 11 x17 dX11_join_133 cl_X11_57 im_X11_ofRemain cy_X11_ofRemain oc_at_155 rfl (Nat.le_of_ble_eq_true rfl) (by decide) (t_X11_ofRemain l E a2 2 M15 qx17) ?_
      refine mx_cSi [.int x16, .int x17] [.int ((8 + (5 * a1)) + 2), .ref 156] (f_X11_lesser x16 x17) dX11_join_136 cl_X11_288 sm_X11_lesser rfl (Nat.le_of_ble_eq_true rfl) (by decide) (t_X11_lesser l E x16 x17 M15 rfl) ?_
      obtain ⟨M18, qM18, h⟩ := b1E h
      refine mx_iast M18 dX11_join_139 qM18 ?_
      refine ex_aload_n dX11_join_140 rfl ?_
      refine mx_getr 11 156 dX11_join_141 fl_X11_7 oc_at_155 (rf_11_0 oc_at_155) ?_
      refine ex_iload dX11_join_144 rfl ?_
      refine ex_iconst 4 dX11_join_146 kI_4 ?_
      refine ex_iadd dX11_join_147 ?_
      refine ex_aload_n dX11_join_148 rfl ?_
      refine mx_getr 11 156 dX11_join_149 fl_X11_7 oc_at_155 (rf_11_0 oc_at_155) ?_
      refine ex_iload dX11_join_152 rfl ?_
      refine ex_iconst 4 dX11_join_154 kI_4 ?_
      refine ex_iadd dX11_join_155 ?_
      obtain ⟨x19, qx19, h⟩ := b1E h
      refine mx_iald x19 dX11_join_156 qx19 ?_
      refine ex_aload_n dX11_join_157 rfl ?_
      refine ex_iload_n dX11_join_158 rfl ?_
      refine ex_iconst 4 dX11_join_159 kI_4 ?_
      obtain ⟨x20, qx20, h⟩ := b1E h
      refine mx_cVi [.int a2, .int 4] [.int x19, .int ((8 + (5 * a1)) + 4), .ref 156] 155 11 x20 dX11_join_160 cl_X11_57 im_X11_ofRemain cy_X11_ofRemain oc_at_155 rfl (Nat.le_of_ble_eq_true rfl) (by decide) (t_X11_ofRemain l E a2 4 M18 qx20) ?_
      refine mx_cSi [.int x19, .int x20] [.int ((8 + (5 * a1)) + 4), .ref 156] (f_X11_greater x19 x20) dX11_join_163 cl_X11_291 sm_X11_greater rfl (Nat.le_of_ble_eq_true rfl) (by decide) (t_X11_greater l E x19 x20 M18 rfl) ?_
      obtain ⟨M21, qM21, h⟩ := b1E h
      refine mx_iast M21 dX11_join_166 qM21 ?_
      refine ex_aload_n dX11_join_167 rfl ?_
      refine ex_iconst 3 dX11_join_168 kI_3 ?_
      refine ex_aload_n dX11_join_169 rfl ?_
      refine mx_getr 11 156 dX11_join_170 fl_X11_7 oc_at_155 (rf_11_0 oc_at_155) ?_
      refine ex_iload dX11_join_173 rfl ?_
      refine ex_iconst 0 dX11_join_175 kI_0 ?_
      refine ex_iadd dX11_join_176 ?_
      obtain ⟨x22, qx22, h⟩ := b1E h
      refine mx_iald x22 dX11_join_177 qx22 ?_
      refine ex_iload_n dX11_join_178 rfl ?_
      obtain ⟨M23, qM23, h⟩ := b1E h
      refine mx_cVv [.int 3, .int x22, .int x10] [] 155 11 dX11_join_179 cl_X11_323 im_X11_notes cy_X11_notes oc_at_155 rfl (Nat.le_of_ble_eq_true rfl) (by decide) (t_X11_notes l E 3 x22 x10 M21 qM23) ?_
      refine ex_aload_n dX11_join_182 rfl ?_
      refine ex_iload_n dX11_join_183 rfl ?_
      obtain ⟨M24, qM24, h⟩ := b1E h
      refine mx_cVv [.int a2] [] 155 11 dX11_join_184 cl_X11_338 im_X11_goesAway cy_X11_goesAway oc_at_155 rfl (Nat.le_of_ble_eq_true rfl) (by decide) (t_X11_goesAway l E a2 M23 qM24) ?_
      refine ex_iload_n dX11_join_187 rfl ?_
      cases h
      exact mx_reti .int dX11_join_188 ⟨rfl, rfl⟩
    · rw [if_neg c7] at h
      refine ex_iconst (-1) dX11_join_36 kI_m1 ?_
      cases h
      exact mx_reti .int dX11_join_37 ⟨rfl, rfl⟩
  clear h
  refine ex_if_eq 36 dX11_join_5 (by decide) (fun c1 => ?_) (fun c1 => ?_)
  · exact JXC4 (Or.inl c1)
  · refine ex_aload_n dX11_join_8 rfl ?_
    refine ex_iload_n dX11_join_9 rfl ?_
    refine mx_cVi [.int a2] [] 155 11 (f_X11_isRemain a2 M) dX11_join_10 cl_X11_332 im_X11_isRemain cy_X11_isRemain oc_at_155 rfl (Nat.le_of_ble_eq_true rfl) (by decide) (t_X11_isRemain l E a2 M rfl) ?_
    refine ex_if_eq 36 dX11_join_13 (by decide) (fun c2 => ?_) (fun c2 => ?_)
    · exact JXC4 (Or.inr (Or.inl c2))
    · refine ex_iload_n dX11_join_16 rfl ?_
      refine ex_iload_n dX11_join_17 rfl ?_
      refine ex_icmp_eq 36 dX11_join_18 (by decide) (fun c3 => ?_) (fun c3 => ?_)
      · exact JXC4 (Or.inr (Or.inr c3))
      · refine ex_aload_n dX11_join_21 rfl ?_
        refine ex_iload_n dX11_join_22 rfl ?_
        refine ex_iconst 0 dX11_join_23 kI_0 ?_
        exact JYC4 (fun z => z.elim c1 (fun z => z.elim c2 c3))
def f_X11_sell (a1 : Int32) (M : Mem) : Option (Mem × Int32) :=
  if (f_X11_isRemain a1 M) = 0 then (some (M, (-1))) else (b1 (f_X11_keeps M) fun M2 => b2 (f_X11_priceOf a1 0 M2) fun M3 x4 => lt (up2 M3 156 1 ((M3 156 1) + x4)) fun M5 => b1 (f_X11_ofRemain a1 0 M5) fun x6 => b1 (f_X11_notes 4 x6 x4 M5) fun M7 => b1 (f_X11_goesAway a1 M7) fun M8 => some (M8, x4))
set_option maxRecDepth 100000 in
set_option maxHeartbeats 4000000 in
theorem t_X11_sell (l : Launch) (E : EV) (a1 : Int32) (M : Mem) {M' : Mem} {r : Int32} (h : f_X11_sell a1 M = some (M', r)) : RunM l E yX11_sell cX11_sell 3 (some .int) 5 [.ref 155, .int a1] M M' (some (.int r)) := by
  refine RunM.of (by decide) (Nat.le_of_ble_eq_true rfl) ?_
  show XM l E (RX11, "sell", cX11_sell, 3) (some .int) 5 0 [some (.ref 155), some (.int a1), none] [] M M' (some (.int r))
  unfold f_X11_sell at h
  refine ex_aload_n dX11_sell_0 rfl ?_
  refine ex_iload_n dX11_sell_1 rfl ?_
  refine mx_cVi [.int a1] [] 155 11 (f_X11_isRemain a1 M) dX11_sell_2 cl_X11_332 im_X11_isRemain cy_X11_isRemain oc_at_155 rfl (Nat.le_of_ble_eq_true rfl) (by decide) (t_X11_isRemain l E a1 M rfl) ?_
  refine ex_if_ne 10 dX11_sell_5 (by decide) (fun c1 => ?_) (fun c1 => ?_)
  · rw [if_neg c1] at h
    refine ex_aload_n dX11_sell_10 rfl ?_
    obtain ⟨M2, qM2, h⟩ := b1E h
    refine mx_cVv [] [] 155 11 dX11_sell_11 cl_X11_327 im_X11_keeps cy_X11_keeps oc_at_155 rfl (Nat.le_of_ble_eq_true rfl) (by decide) (t_X11_keeps l E M qM2) ?_
    refine ex_aload_n dX11_sell_14 rfl ?_
    refine ex_iload_n dX11_sell_15 rfl ?_
    refine ex_iconst 0 dX11_sell_16 kI_0 ?_
    obtain ⟨M3, x4, qx4, h⟩ := b2E h
    refine mx_cVi [.int a1, .int 0] [] 155 11 x4 dX11_sell_17 cl_X11_342 im_X11_priceOf cy_X11_priceOf oc_at_155 rfl (Nat.le_of_ble_eq_true rfl) (by decide) (t_X11_priceOf l E a1 0 M2 qx4) ?_
    refine ex_istore_n (L2 := [some (.ref 155), some (.int a1), some (.int x4)]) dX11_sell_20 (by decide) rfl ?_
    refine ex_aload_n dX11_sell_21 rfl ?_
    refine mx_getr 11 156 dX11_sell_22 fl_X11_7 oc_at_155 (rf_11_0 oc_at_155) ?_
    refine ex_iconst 1 dX11_sell_25 kI_1 ?_
    refine ex_dup2 dX11_sell_26 rfl rfl ?_
    refine mx_iald (M3 156 1) dX11_sell_27 (rdc_156_1 _) ?_
    refine ex_iload_n dX11_sell_28 rfl ?_
    refine ex_iadd dX11_sell_29 ?_
    obtain ⟨M5, eM5, h⟩ := ltE h
    refine mx_iast M5 dX11_sell_30 ((wrc_156_1 _ _).trans (congrArg some eM5.symm)) ?_
    refine ex_aload_n dX11_sell_31 rfl ?_
    refine ex_iconst 4 dX11_sell_32 kI_4 ?_
    refine ex_aload_n dX11_sell_33 rfl ?_
    refine ex_iload_n dX11_sell_34 rfl ?_
    refine ex_iconst 0 dX11_sell_35 kI_0 ?_
    obtain ⟨x6, qx6, h⟩ := b1E h
    refine mx_cVi [.int a1, .int 0] [.int 4, .ref 155] 155 11 x6 dX11_sell_36 cl_X11_57 im_X11_ofRemain cy_X11_ofRemain oc_at_155 rfl (Nat.le_of_ble_eq_true rfl) (by decide) (t_X11_ofRemain l E a1 0 M5 qx6) ?_
    refine ex_iload_n dX11_sell_39 rfl ?_
    obtain ⟨M7, qM7, h⟩ := b1E h
    refine mx_cVv [.int 4, .int x6, .int x4] [] 155 11 dX11_sell_40 cl_X11_323 im_X11_notes cy_X11_notes oc_at_155 rfl (Nat.le_of_ble_eq_true rfl) (by decide) (t_X11_notes l E 4 x6 x4 M5 qM7) ?_
    refine ex_aload_n dX11_sell_43 rfl ?_
    refine ex_iload_n dX11_sell_44 rfl ?_
    obtain ⟨M8, qM8, h⟩ := b1E h
    refine mx_cVv [.int a1] [] 155 11 dX11_sell_45 cl_X11_338 im_X11_goesAway cy_X11_goesAway oc_at_155 rfl (Nat.le_of_ble_eq_true rfl) (by decide) (t_X11_goesAway l E a1 M7 qM8) ?_
    refine ex_iload_n dX11_sell_48 rfl ?_
    cases h
    exact mx_reti .int dX11_sell_49 ⟨rfl, rfl⟩
  · rw [if_pos c1] at h
    refine ex_iconst (-1) dX11_sell_8 kI_m1 ?_
    cases h
    exact mx_reti .int dX11_sell_9 ⟨rfl, rfl⟩
def w_X11_sumOf_4 (a1 : Int32) (M : Mem) (i1 : Int32) (i2 : Int32) : Option ((Int32 × Int32) ⊕ (Int32)) :=
  if (M 156 7) ≤ i2 then (some (.inr i1)) else (if ((a1 >>> (i2 &&& 31)) &&& 1) = 1 then (b1 (f_X11_ofRemain i2 1 M) fun x5 => some (.inl ((i1 + x5), (i2 + 1)))) else (some (.inl ((i1 + 0), (i2 + 1)))))
def f_X11_sumOf (a1 : Int32) (M : Mem) : Option (Int32) :=
  b1 (lp (fun s => w_X11_sumOf_4 a1 M s.1 s.2) FU (0, 0)) fun q6 => some q6
set_option maxRecDepth 100000 in
set_option maxHeartbeats 4000000 in
theorem t_X11_sumOf (l : Launch) (E : EV) (a1 : Int32) (M : Mem) {r : Int32} (h : f_X11_sumOf a1 M = some r) : RunM l E yX11_sumOf cX11_sumOf 4 (some .int) 1 [.ref 155, .int a1] M M (some (.int r)) := by
  refine RunM.of (by decide) (Nat.le_of_ble_eq_true rfl) ?_
  show XM l E (RX11, "sumOf", cX11_sumOf, 4) (some .int) 1 0 [some (.ref 155), some (.int a1), none, none] [] M M (some (.int r))
  unfold f_X11_sumOf at h
  refine ex_iconst 0 dX11_sumOf_0 kI_0 ?_
  refine ex_istore_n (L2 := [some (.ref 155), some (.int a1), some (.int 0), none]) dX11_sumOf_1 (by decide) rfl ?_
  refine ex_iconst 0 dX11_sumOf_2 kI_0 ?_
  refine ex_istore_n (L2 := [some (.ref 155), some (.int a1), some (.int 0), some (.int 0)]) dX11_sumOf_3 (by decide) rfl ?_
  refine ex_mskL [true, true, true, true] (L2 := [some (.ref 155), some (.int a1), some (.int 0), some (.int 0)]) rfl ?_
  obtain ⟨q6, hlq6, h⟩ := b1E h
  have hx : XM l E (RX11, "sumOf", cX11_sumOf, 4) (some .int) 1 43 [none, none, some (.int q6), none] [] M M (some (.int r)) := by
    refine ex_iload_n dX11_sumOf_43 rfl ?_
    cases h
    exact mx_reti .int dX11_sumOf_44 ⟨rfl, rfl⟩
  clear h
  have key : ∀ (k : Nat) (s : Int32 × Int32), lp (fun s => w_X11_sumOf_4 a1 M s.1 s.2) k s = some q6 → XM l E (RX11, "sumOf", cX11_sumOf, 4) (some .int) 1 4 [some (.ref 155), some (.int a1), some (.int s.1), some (.int s.2)] [] M M (some (.int r)) := lp_ind (P := fun (s : Int32 × Int32) => XM l E (RX11, "sumOf", cX11_sumOf, 4) (some .int) 1 4 [some (.ref 155), some (.int a1), some (.int s.1), some (.int s.2)] [] M M (some (.int r))) (fun s t hb hk he => by
    obtain ⟨i1, i2⟩ := s
    show XM l E (RX11, "sumOf", cX11_sumOf, 4) (some .int) 1 4 [some (.ref 155), some (.int a1), some (.int i1), some (.int i2)] [] M M (some (.int r))
    change w_X11_sumOf_4 a1 M i1 i2 = some t at hb
    unfold w_X11_sumOf_4 at hb
    refine ex_iload_n dX11_sumOf_4 rfl ?_
    refine ex_aload_n dX11_sumOf_5 rfl ?_
    refine mx_getr 11 156 dX11_sumOf_6 fl_X11_7 oc_at_155 (rf_11_0 oc_at_155) ?_
    refine ex_bipush 7 dX11_sumOf_9 kB_7 ?_
    refine mx_iald (M 156 7) dX11_sumOf_11 (rdc_156_7 _) ?_
    refine ex_icmp_ge 43 dX11_sumOf_12 (by decide) (fun c3 => ?_) (fun c3 => ?_)
    · rw [if_pos c3] at hb
      refine ex_mskL [false, false, true, false] (L2 := [none, none, some (.int i1), none]) rfl ?_
      cases hb
      cases (he _ rfl) <;> exact hx
    · rw [if_neg c3] at hb
      refine ex_iload_n dX11_sumOf_15 rfl ?_
      refine ex_iload_n dX11_sumOf_16 rfl ?_
      refine ex_iload_n dX11_sumOf_17 rfl ?_
      refine ex_ishr dX11_sumOf_18 ?_
      refine ex_iconst 1 dX11_sumOf_19 kI_1 ?_
      refine ex_iand dX11_sumOf_20 ?_
      refine ex_iconst 1 dX11_sumOf_21 kI_1 ?_
      refine ex_icmp_ne 34 dX11_sumOf_22 (by decide) (fun c4 => ?_) (fun c4 => ?_)
      · rw [if_neg c4] at hb
        refine ex_iconst 0 dX11_sumOf_34 kI_0 ?_
        refine ex_iadd dX11_sumOf_35 ?_
        refine ex_istore_n (L2 := [some (.ref 155), some (.int a1), some (.int (i1 + 0)), some (.int i2)]) dX11_sumOf_36 (by decide) rfl ?_
        refine ex_iinc 1 (L2 := [some (.ref 155), some (.int a1), some (.int (i1 + 0)), some (.int (i2 + 1))]) dX11_sumOf_37 rfl kI_1 (by decide) rfl ?_
        refine ex_goto 4 dX11_sumOf_40 (by decide) ?_
        refine ex_mskL [true, true, true, true] (L2 := [some (.ref 155), some (.int a1), some (.int (i1 + 0)), some (.int (i2 + 1))]) rfl ?_
        cases hb
        exact hk ((i1 + 0), (i2 + 1)) rfl
      · rw [if_pos c4] at hb
        refine ex_aload_n dX11_sumOf_25 rfl ?_
        refine ex_iload_n dX11_sumOf_26 rfl ?_
        refine ex_iconst 1 dX11_sumOf_27 kI_1 ?_
        obtain ⟨x5, qx5, hb⟩ := b1E hb
        refine mx_cVi [.int i2, .int 1] [.int i1] 155 11 x5 dX11_sumOf_28 cl_X11_57 im_X11_ofRemain cy_X11_ofRemain oc_at_155 rfl (Nat.le_of_ble_eq_true rfl) (by decide) (t_X11_ofRemain l E i2 1 M qx5) ?_
        refine ex_goto 35 dX11_sumOf_31 (by decide) ?_
        refine ex_iadd dX11_sumOf_35 ?_
        refine ex_istore_n (L2 := [some (.ref 155), some (.int a1), some (.int (i1 + x5)), some (.int i2)]) dX11_sumOf_36 (by decide) rfl ?_
        refine ex_iinc 1 (L2 := [some (.ref 155), some (.int a1), some (.int (i1 + x5)), some (.int (i2 + 1))]) dX11_sumOf_37 rfl kI_1 (by decide) rfl ?_
        refine ex_goto 4 dX11_sumOf_40 (by decide) ?_
        refine ex_mskL [true, true, true, true] (L2 := [some (.ref 155), some (.int a1), some (.int (i1 + x5)), some (.int (i2 + 1))]) rfl ?_
        cases hb
        exact hk ((i1 + x5), (i2 + 1)) rfl)
  exact key FU (0, 0) hlq6
def w_X11_placesOf_4 (a1 : Int32) (M : Mem) (i1 : Int32) (i2 : Int32) : Option ((Int32 × Int32) ⊕ (Int32)) :=
  if (M 156 7) ≤ i2 then (some (.inr i1)) else (b1 (f_X11_ofRemain i2 0 M) fun x4 => lt ((if x4 = a1 then (1 <<< (i2 &&& 31)) else 0) : Int32) fun x6 => some (.inl ((i1 ||| x6), (i2 + 1))))
def f_X11_placesOf (a1 : Int32) (M : Mem) : Option (Int32) :=
  b1 (lp (fun s => w_X11_placesOf_4 a1 M s.1 s.2) FU (0, 0)) fun q7 => some q7
set_option maxRecDepth 100000 in
set_option maxHeartbeats 4000000 in
theorem t_X11_placesOf (l : Launch) (E : EV) (a1 : Int32) (M : Mem) {r : Int32} (h : f_X11_placesOf a1 M = some r) : RunM l E yX11_placesOf cX11_placesOf 4 (some .int) 1 [.ref 155, .int a1] M M (some (.int r)) := by
  refine RunM.of (by decide) (Nat.le_of_ble_eq_true rfl) ?_
  show XM l E (RX11, "placesOf", cX11_placesOf, 4) (some .int) 1 0 [some (.ref 155), some (.int a1), none, none] [] M M (some (.int r))
  unfold f_X11_placesOf at h
  refine ex_iconst 0 dX11_placesOf_0 kI_0 ?_
  refine ex_istore_n (L2 := [some (.ref 155), some (.int a1), some (.int 0), none]) dX11_placesOf_1 (by decide) rfl ?_
  refine ex_iconst 0 dX11_placesOf_2 kI_0 ?_
  refine ex_istore_n (L2 := [some (.ref 155), some (.int a1), some (.int 0), some (.int 0)]) dX11_placesOf_3 (by decide) rfl ?_
  refine ex_mskL [true, true, true, true] (L2 := [some (.ref 155), some (.int a1), some (.int 0), some (.int 0)]) rfl ?_
  obtain ⟨q7, hlq7, h⟩ := b1E h
  have hx : XM l E (RX11, "placesOf", cX11_placesOf, 4) (some .int) 1 41 [none, none, some (.int q7), none] [] M M (some (.int r)) := by
    refine ex_iload_n dX11_placesOf_41 rfl ?_
    cases h
    exact mx_reti .int dX11_placesOf_42 ⟨rfl, rfl⟩
  clear h
  have key : ∀ (k : Nat) (s : Int32 × Int32), lp (fun s => w_X11_placesOf_4 a1 M s.1 s.2) k s = some q7 → XM l E (RX11, "placesOf", cX11_placesOf, 4) (some .int) 1 4 [some (.ref 155), some (.int a1), some (.int s.1), some (.int s.2)] [] M M (some (.int r)) := lp_ind (P := fun (s : Int32 × Int32) => XM l E (RX11, "placesOf", cX11_placesOf, 4) (some .int) 1 4 [some (.ref 155), some (.int a1), some (.int s.1), some (.int s.2)] [] M M (some (.int r))) (fun s t hb hk he => by
    obtain ⟨i1, i2⟩ := s
    show XM l E (RX11, "placesOf", cX11_placesOf, 4) (some .int) 1 4 [some (.ref 155), some (.int a1), some (.int i1), some (.int i2)] [] M M (some (.int r))
    change w_X11_placesOf_4 a1 M i1 i2 = some t at hb
    unfold w_X11_placesOf_4 at hb
    refine ex_iload_n dX11_placesOf_4 rfl ?_
    refine ex_aload_n dX11_placesOf_5 rfl ?_
    refine mx_getr 11 156 dX11_placesOf_6 fl_X11_7 oc_at_155 (rf_11_0 oc_at_155) ?_
    refine ex_bipush 7 dX11_placesOf_9 kB_7 ?_
    refine mx_iald (M 156 7) dX11_placesOf_11 (rdc_156_7 _) ?_
    refine ex_icmp_ge 41 dX11_placesOf_12 (by decide) (fun c3 => ?_) (fun c3 => ?_)
    · rw [if_pos c3] at hb
      refine ex_mskL [false, false, true, false] (L2 := [none, none, some (.int i1), none]) rfl ?_
      cases hb
      cases (he _ rfl) <;> exact hx
    · rw [if_neg c3] at hb
      refine ex_iload_n dX11_placesOf_15 rfl ?_
      refine ex_aload_n dX11_placesOf_16 rfl ?_
      refine ex_iload_n dX11_placesOf_17 rfl ?_
      refine ex_iconst 0 dX11_placesOf_18 kI_0 ?_
      obtain ⟨x4, qx4, hb⟩ := b1E hb
      refine mx_cVi [.int i2, .int 0] [.int i1] 155 11 x4 dX11_placesOf_19 cl_X11_57 im_X11_ofRemain cy_X11_ofRemain oc_at_155 rfl (Nat.le_of_ble_eq_true rfl) (by decide) (t_X11_ofRemain l E i2 0 M qx4) ?_
      refine ex_iload_n dX11_placesOf_22 rfl ?_
      obtain ⟨x6, ex6, hb⟩ := ltE hb
      have Jx6 : XM l E (RX11, "placesOf", cX11_placesOf, 4) (some .int) 1 33 [some (.ref 155), some (.int a1), some (.int i1), some (.int i2)] [.int x6, .int i1] M M (some (.int r)) := by
        refine ex_ior dX11_placesOf_33 ?_
        refine ex_istore_n (L2 := [some (.ref 155), some (.int a1), some (.int (i1 ||| x6)), some (.int i2)]) dX11_placesOf_34 (by decide) rfl ?_
        refine ex_iinc 1 (L2 := [some (.ref 155), some (.int a1), some (.int (i1 ||| x6)), some (.int (i2 + 1))]) dX11_placesOf_35 rfl kI_1 (by decide) rfl ?_
        refine ex_goto 4 dX11_placesOf_38 (by decide) ?_
        refine ex_mskL [true, true, true, true] (L2 := [some (.ref 155), some (.int a1), some (.int (i1 ||| x6)), some (.int (i2 + 1))]) rfl ?_
        cases hb
        exact hk ((i1 ||| x6), (i2 + 1)) rfl
      clear hb
      refine ex_icmp_ne 32 dX11_placesOf_23 (by decide) (fun c5 => ?_) (fun c5 => ?_)
      · rw [if_neg c5] at ex6
        refine ex_iconst 0 dX11_placesOf_32 kI_0 ?_
        subst ex6
        exact Jx6
      · rw [if_pos c5] at ex6
        refine ex_iconst 1 dX11_placesOf_26 kI_1 ?_
        refine ex_iload_n dX11_placesOf_27 rfl ?_
        refine ex_ishl dX11_placesOf_28 ?_
        refine ex_goto 33 dX11_placesOf_29 (by decide) ?_
        subst ex6
        exact Jx6)
  exact key FU (0, 0) hlq7
def f_X11_doesFor (a1 : Int32) (a2 : Int32) (M : Mem) : Option (Int32) :=
  b1 (f_X11_count a1) fun x1 => if x1 = 1 then (b1 (f_X11_sumOf a1 M) fun x6 => lt ((if x6 < a2 then 0 else 1) : Int32) fun x8 => some x8) else (b1 (f_X11_sumOf a1 M) fun x3 => lt ((if (f_X11_joined x3) < a2 then 0 else 1) : Int32) fun x5 => some x5)
set_option maxRecDepth 100000 in
set_option maxHeartbeats 4000000 in
theorem t_X11_doesFor (l : Launch) (E : EV) (a1 : Int32) (a2 : Int32) (M : Mem) {r : Int32} (h : f_X11_doesFor a1 a2 M = some r) : RunM l E yX11_doesFor cX11_doesFor 3 (some .boolean) 2 [.ref 155, .int a1, .int a2] M M (some (.int r)) := by
  refine RunM.of (by decide) (Nat.le_of_ble_eq_true rfl) ?_
  show XM l E (RX11, "doesFor", cX11_doesFor, 3) (some .boolean) 2 0 [some (.ref 155), some (.int a1), some (.int a2)] [] M M (some (.int r))
  unfold f_X11_doesFor at h
  refine ex_iload_n dX11_doesFor_0 rfl ?_
  obtain ⟨x1, qx1, h⟩ := b1E h
  refine mx_cSi [.int a1] [] x1 dX11_doesFor_1 cl_X11_345 sm_X11_count rfl (Nat.le_of_ble_eq_true rfl) (by decide) (t_X11_count l E a1 M qx1) ?_
  refine ex_iconst 1 dX11_doesFor_4 kI_1 ?_
  refine ex_icmp_ne 25 dX11_doesFor_5 (by decide) (fun c2 => ?_) (fun c2 => ?_)
  · rw [if_neg c2] at h
    refine ex_aload_n dX11_doesFor_25 rfl ?_
    refine ex_iload_n dX11_doesFor_26 rfl ?_
    obtain ⟨x3, qx3, h⟩ := b1E h
    refine mx_cVi [.int a1] [] 155 11 x3 dX11_doesFor_27 cl_X11_348 im_X11_sumOf cy_X11_sumOf oc_at_155 rfl (Nat.le_of_ble_eq_true rfl) (by decide) (t_X11_sumOf l E a1 M qx3) ?_
    refine mx_cSi [.int x3] [] (f_X11_joined x3) dX11_doesFor_30 cl_X11_335 sm_X11_joined rfl (Nat.le_of_ble_eq_true rfl) (by decide) (t_X11_joined l E x3 M rfl) ?_
    refine ex_iload_n dX11_doesFor_33 rfl ?_
    obtain ⟨x5, ex5, h⟩ := ltE h
    have Jx5 : XM l E (RX11, "doesFor", cX11_doesFor, 3) (some .boolean) 2 42 [some (.ref 155), some (.int a1), some (.int a2)] [.int x5] M M (some (.int r)) := by
      cases h
      exact mx_reti .boolean dX11_doesFor_42 ⟨rfl, nzB (by rw [ex5]; (repeat' split) <;> simp)⟩
    clear h
    refine ex_icmp_lt 41 dX11_doesFor_34 (by decide) (fun c4 => ?_) (fun c4 => ?_)
    · rw [if_pos c4] at ex5
      refine ex_iconst 0 dX11_doesFor_41 kI_0 ?_
      subst ex5
      exact Jx5
    · rw [if_neg c4] at ex5
      refine ex_iconst 1 dX11_doesFor_37 kI_1 ?_
      refine ex_goto 42 dX11_doesFor_38 (by decide) ?_
      subst ex5
      exact Jx5
  · rw [if_pos c2] at h
    refine ex_aload_n dX11_doesFor_8 rfl ?_
    refine ex_iload_n dX11_doesFor_9 rfl ?_
    obtain ⟨x6, qx6, h⟩ := b1E h
    refine mx_cVi [.int a1] [] 155 11 x6 dX11_doesFor_10 cl_X11_348 im_X11_sumOf cy_X11_sumOf oc_at_155 rfl (Nat.le_of_ble_eq_true rfl) (by decide) (t_X11_sumOf l E a1 M qx6) ?_
    refine ex_iload_n dX11_doesFor_13 rfl ?_
    obtain ⟨x8, ex8, h⟩ := ltE h
    have Jx8 : XM l E (RX11, "doesFor", cX11_doesFor, 3) (some .boolean) 2 42 [some (.ref 155), some (.int a1), some (.int a2)] [.int x8] M M (some (.int r)) := by
      cases h
      exact mx_reti .boolean dX11_doesFor_42 ⟨rfl, nzB (by rw [ex8]; (repeat' split) <;> simp)⟩
    clear h
    refine ex_icmp_lt 21 dX11_doesFor_14 (by decide) (fun c7 => ?_) (fun c7 => ?_)
    · rw [if_pos c7] at ex8
      refine ex_iconst 0 dX11_doesFor_21 kI_0 ?_
      refine ex_goto 42 dX11_doesFor_22 (by decide) ?_
      subst ex8
      exact Jx8
    · rw [if_neg c7] at ex8
      refine ex_iconst 1 dX11_doesFor_17 kI_1 ?_
      refine ex_goto 42 dX11_doesFor_18 (by decide) ?_
      subst ex8
      exact Jx8
def w_X11_joinsOf_31 (a2 : Int32) (M : Mem) (x1 : Int32) (i5 : Int32) (i6 : Int32) : Option ((Int32 × Int32) ⊕ (Int32)) :=
  if (M 156 7) ≤ i6 then (some (.inr i5)) else (if i5 = 0 then (if ((x1 >>> (i6 &&& 31)) &&& 1) = 1 then (b1 (f_X11_ofRemain i6 1 M) fun x10 => if x10 < a2 then (some (.inl (0, (i6 + 1)))) else (some (.inl (1, (i6 + 1))))) else (some (.inl (0, (i6 + 1))))) else (some (.inl (1, (i6 + 1)))))
def w_X11_joinsOf_85 (a2 : Int32) (M : Mem) (x1 : Int32) (q12 : Int32) (i13 : Int32) (i14 : Int32) : Option ((Int32 × Int32) ⊕ (Int32)) :=
  if x1 < i14 then (some (.inr i13)) else (if q12 = 0 then (some (.inr i13)) else (if (i14 &&& (x1 ^^^ (-1))) = 0 then (b1 (f_X11_doesFor i14 a2 M) fun x18 => if x18 = 0 then (some (.inl (i13, (i14 + 1)))) else (if i13 = (-1) then (some (.inl (i14, (i14 + 1)))) else (b1 (f_X11_count i14) fun x21 => b1 (f_X11_count i13) fun x22 => if (x21 - x22) < 0 then (some (.inl (i14, (i14 + 1)))) else (if (x21 - x22) = 0 then (b1 (f_X11_sumOf i14 M) fun x25 => b1 (f_X11_sumOf i13 M) fun x26 => if x26 ≤ x25 then (some (.inl (i13, (i14 + 1)))) else (some (.inl (i14, (i14 + 1))))) else (some (.inl (i13, (i14 + 1)))))))) else (some (.inl (i13, (i14 + 1))))))
def f_X11_joinsOf (a1 : Int32) (a2 : Int32) (M : Mem) : Option (Int32) :=
  b1 (f_X11_placesOf a1 M) fun x1 => b1 (f_X11_sumOf x1 M) fun x2 => lt ((if (f_X11_joined x2) < a2 then 0 else 1) : Int32) fun x4 => b1 (lp (fun s => w_X11_joinsOf_31 a2 M x1 s.1 s.2) FU (x4, 0)) fun q12 => b1 (lp (fun s => w_X11_joinsOf_85 a2 M x1 q12 s.1 s.2) FU ((-1), 1)) fun q28 => some q28
set_option maxRecDepth 100000 in
set_option maxHeartbeats 4000000 in
theorem t_X11_joinsOf (l : Launch) (E : EV) (a1 : Int32) (a2 : Int32) (M : Mem) {r : Int32} (h : f_X11_joinsOf a1 a2 M = some r) : RunM l E yX11_joinsOf cX11_joinsOf 8 (some .int) 3 [.ref 155, .int a1, .int a2] M M (some (.int r)) := by
  refine RunM.of (by decide) (Nat.le_of_ble_eq_true rfl) ?_
  show XM l E (RX11, "joinsOf", cX11_joinsOf, 8) (some .int) 3 0 [some (.ref 155), some (.int a1), some (.int a2), none, none, none, none, none] [] M M (some (.int r))
  unfold f_X11_joinsOf at h
  refine ex_aload_n dX11_joinsOf_0 rfl ?_
  refine ex_iload_n dX11_joinsOf_1 rfl ?_
  obtain ⟨x1, qx1, h⟩ := b1E h
  refine mx_cVi [.int a1] [] 155 11 x1 dX11_joinsOf_2 cl_X11_351 im_X11_placesOf cy_X11_placesOf oc_at_155 rfl (Nat.le_of_ble_eq_true rfl) (by decide) (t_X11_placesOf l E a1 M qx1) ?_
  refine ex_istore_n (L2 := [some (.ref 155), some (.int a1), some (.int a2), some (.int x1), none, none, none, none]) dX11_joinsOf_5 (by decide) rfl ?_
  refine ex_iconst (-1) dX11_joinsOf_6 kI_m1 ?_
  refine ex_istore (L2 := [some (.ref 155), some (.int a1), some (.int a2), some (.int x1), some (.int (-1)), none, none, none]) dX11_joinsOf_7 (by decide) rfl ?_
  refine ex_aload_n dX11_joinsOf_9 rfl ?_
  refine ex_iload_n dX11_joinsOf_10 rfl ?_
  obtain ⟨x2, qx2, h⟩ := b1E h
  refine mx_cVi [.int x1] [] 155 11 x2 dX11_joinsOf_11 cl_X11_348 im_X11_sumOf cy_X11_sumOf oc_at_155 rfl (Nat.le_of_ble_eq_true rfl) (by decide) (t_X11_sumOf l E x1 M qx2) ?_
  refine mx_cSi [.int x2] [] (f_X11_joined x2) dX11_joinsOf_14 cl_X11_335 sm_X11_joined rfl (Nat.le_of_ble_eq_true rfl) (by decide) (t_X11_joined l E x2 M rfl) ?_
  refine ex_iload_n dX11_joinsOf_17 rfl ?_
  obtain ⟨x4, ex4, h⟩ := ltE h
  have Jx4 : XM l E (RX11, "joinsOf", cX11_joinsOf, 8) (some .int) 3 26 [some (.ref 155), some (.int a1), some (.int a2), some (.int x1), some (.int (-1)), none, none, none] [.int x4] M M (some (.int r)) := by
    refine ex_istore (L2 := [some (.ref 155), some (.int a1), some (.int a2), some (.int x1), some (.int (-1)), some (.int x4), none, none]) dX11_joinsOf_26 (by decide) rfl ?_
    refine ex_iconst 0 dX11_joinsOf_28 kI_0 ?_
    refine ex_istore (L2 := [some (.ref 155), some (.int a1), some (.int a2), some (.int x1), some (.int (-1)), some (.int x4), some (.int 0), none]) dX11_joinsOf_29 (by decide) rfl ?_
    refine ex_mskL [true, false, true, true, true, true, true, false] (L2 := [some (.ref 155), none, some (.int a2), some (.int x1), some (.int (-1)), some (.int x4), some (.int 0), none]) rfl ?_
    obtain ⟨q12, hlq12, h⟩ := b1E h
    have hx : XM l E (RX11, "joinsOf", cX11_joinsOf, 8) (some .int) 3 82 [some (.ref 155), none, some (.int a2), some (.int x1), some (.int (-1)), some (.int q12), none, none] [] M M (some (.int r)) := by
      refine ex_iconst 1 dX11_joinsOf_82 kI_1 ?_
      refine ex_istore (L2 := [some (.ref 155), none, some (.int a2), some (.int x1), some (.int (-1)), some (.int q12), some (.int 1), none]) dX11_joinsOf_83 (by decide) rfl ?_
      refine ex_mskL [true, false, true, true, true, true, true, false] (L2 := [some (.ref 155), none, some (.int a2), some (.int x1), some (.int (-1)), some (.int q12), some (.int 1), none]) rfl ?_
      obtain ⟨q28, hlq28, h⟩ := b1E h
      have hx : XM l E (RX11, "joinsOf", cX11_joinsOf, 8) (some .int) 3 176 [none, none, none, none, some (.int q28), none, none, none] [] M M (some (.int r)) := by
        refine ex_iload dX11_joinsOf_176 rfl ?_
        cases h
        exact mx_reti .int dX11_joinsOf_178 ⟨rfl, rfl⟩
      clear h
      have key : ∀ (k : Nat) (s : Int32 × Int32), lp (fun s => w_X11_joinsOf_85 a2 M x1 q12 s.1 s.2) k s = some q28 → XM l E (RX11, "joinsOf", cX11_joinsOf, 8) (some .int) 3 85 [some (.ref 155), none, some (.int a2), some (.int x1), some (.int s.1), some (.int q12), some (.int s.2), none] [] M M (some (.int r)) := lp_ind (P := fun (s : Int32 × Int32) => XM l E (RX11, "joinsOf", cX11_joinsOf, 8) (some .int) 3 85 [some (.ref 155), none, some (.int a2), some (.int x1), some (.int s.1), some (.int q12), some (.int s.2), none] [] M M (some (.int r))) (fun s t hb hk he => by
        obtain ⟨i13, i14⟩ := s
        show XM l E (RX11, "joinsOf", cX11_joinsOf, 8) (some .int) 3 85 [some (.ref 155), none, some (.int a2), some (.int x1), some (.int i13), some (.int q12), some (.int i14), none] [] M M (some (.int r))
        change w_X11_joinsOf_85 a2 M x1 q12 i13 i14 = some t at hb
        unfold w_X11_joinsOf_85 at hb
        refine ex_iload dX11_joinsOf_85 rfl ?_
        refine ex_iload_n dX11_joinsOf_87 rfl ?_
        refine ex_icmp_gt 176 dX11_joinsOf_88 (by decide) (fun c15 => ?_) (fun c15 => ?_)
        · rw [if_pos c15] at hb
          refine ex_mskL [false, false, false, false, true, false, false, false] (L2 := [none, none, none, none, some (.int i13), none, none, none]) rfl ?_
          cases hb
          cases (he _ rfl) <;> exact hx
        · rw [if_neg c15] at hb
          refine ex_iload dX11_joinsOf_91 rfl ?_
          refine ex_if_eq 176 dX11_joinsOf_93 (by decide) (fun c16 => ?_) (fun c16 => ?_)
          · rw [if_pos c16] at hb
            refine ex_mskL [false, false, false, false, true, false, false, false] (L2 := [none, none, none, none, some (.int i13), none, none, none]) rfl ?_
            cases hb
            cases (he _ rfl) <;> exact hx
          · rw [if_neg c16] at hb
            refine ex_iload dX11_joinsOf_96 rfl ?_
            refine ex_iload_n dX11_joinsOf_98 rfl ?_
            refine ex_iconst (-1) dX11_joinsOf_99 kI_m1 ?_
            refine ex_ixor dX11_joinsOf_100 ?_
            refine ex_iand dX11_joinsOf_101 ?_
            refine ex_if_ne 170 dX11_joinsOf_102 (by decide) (fun c17 => ?_) (fun c17 => ?_)
            · rw [if_neg c17] at hb
              refine ex_iinc 1 (L2 := [some (.ref 155), none, some (.int a2), some (.int x1), some (.int i13), some (.int q12), some (.int (i14 + 1)), none]) dX11_joinsOf_170 rfl kI_1 (by decide) rfl ?_
              refine ex_goto 85 dX11_joinsOf_173 (by decide) ?_
              refine ex_mskL [true, false, true, true, true, true, true, false] (L2 := [some (.ref 155), none, some (.int a2), some (.int x1), some (.int i13), some (.int q12), some (.int (i14 + 1)), none]) rfl ?_
              cases hb
              exact hk (i13, (i14 + 1)) rfl
            · rw [if_pos c17] at hb
              refine ex_aload_n dX11_joinsOf_105 rfl ?_
              refine ex_iload dX11_joinsOf_106 rfl ?_
              refine ex_iload_n dX11_joinsOf_108 rfl ?_
              obtain ⟨x18, qx18, hb⟩ := b1E hb
              refine mx_cVi [.int i14, .int a2] [] 155 11 x18 dX11_joinsOf_109 cl_X11_354 im_X11_doesFor cy_X11_doesFor oc_at_155 rfl (Nat.le_of_ble_eq_true rfl) (by decide) (t_X11_doesFor l E i14 a2 M qx18) ?_
              refine ex_if_ne 118 dX11_joinsOf_112 (by decide) (fun c19 => ?_) (fun c19 => ?_)
              · rw [if_neg c19] at hb
                refine ex_iload dX11_joinsOf_118 rfl ?_
                refine ex_iconst (-1) dX11_joinsOf_120 kI_m1 ?_
                refine ex_icmp_ne 128 dX11_joinsOf_121 (by decide) (fun c20 => ?_) (fun c20 => ?_)
                · rw [if_neg c20] at hb
                  refine ex_iload dX11_joinsOf_128 rfl ?_
                  obtain ⟨x21, qx21, hb⟩ := b1E hb
                  refine mx_cSi [.int i14] [] x21 dX11_joinsOf_130 cl_X11_345 sm_X11_count rfl (Nat.le_of_ble_eq_true rfl) (by decide) (t_X11_count l E i14 M qx21) ?_
                  refine ex_iload dX11_joinsOf_133 rfl ?_
                  obtain ⟨x22, qx22, hb⟩ := b1E hb
                  refine mx_cSi [.int i13] [.int x21] x22 dX11_joinsOf_135 cl_X11_345 sm_X11_count rfl (Nat.le_of_ble_eq_true rfl) (by decide) (t_X11_count l E i13 M qx22) ?_
                  refine ex_isub dX11_joinsOf_138 ?_
                  refine ex_istore (L2 := [some (.ref 155), none, some (.int a2), some (.int x1), some (.int i13), some (.int q12), some (.int i14), some (.int (x21 - x22))]) dX11_joinsOf_139 (by decide) rfl ?_
                  refine ex_iload dX11_joinsOf_141 rfl ?_
                  refine ex_if_lt 166 dX11_joinsOf_143 (by decide) (fun c23 => ?_) (fun c23 => ?_)
                  · rw [if_pos c23] at hb
                    refine ex_iload dX11_joinsOf_166 rfl ?_
                    refine ex_istore (L2 := [some (.ref 155), none, some (.int a2), some (.int x1), some (.int i14), some (.int q12), some (.int i14), some (.int (x21 - x22))]) dX11_joinsOf_168 (by decide) rfl ?_
                    refine ex_iinc 1 (L2 := [some (.ref 155), none, some (.int a2), some (.int x1), some (.int i14), some (.int q12), some (.int (i14 + 1)), some (.int (x21 - x22))]) dX11_joinsOf_170 rfl kI_1 (by decide) rfl ?_
                    refine ex_goto 85 dX11_joinsOf_173 (by decide) ?_
                    refine ex_mskL [true, false, true, true, true, true, true, false] (L2 := [some (.ref 155), none, some (.int a2), some (.int x1), some (.int i14), some (.int q12), some (.int (i14 + 1)), none]) rfl ?_
                    cases hb
                    exact hk (i14, (i14 + 1)) rfl
                  · rw [if_neg c23] at hb
                    refine ex_iload dX11_joinsOf_146 rfl ?_
                    refine ex_if_ne 170 dX11_joinsOf_148 (by decide) (fun c24 => ?_) (fun c24 => ?_)
                    · rw [if_neg c24] at hb
                      refine ex_iinc 1 (L2 := [some (.ref 155), none, some (.int a2), some (.int x1), some (.int i13), some (.int q12), some (.int (i14 + 1)), some (.int (x21 - x22))]) dX11_joinsOf_170 rfl kI_1 (by decide) rfl ?_
                      refine ex_goto 85 dX11_joinsOf_173 (by decide) ?_
                      refine ex_mskL [true, false, true, true, true, true, true, false] (L2 := [some (.ref 155), none, some (.int a2), some (.int x1), some (.int i13), some (.int q12), some (.int (i14 + 1)), none]) rfl ?_
                      cases hb
                      exact hk (i13, (i14 + 1)) rfl
                    · rw [if_pos c24] at hb
                      refine ex_aload_n dX11_joinsOf_151 rfl ?_
                      refine ex_iload dX11_joinsOf_152 rfl ?_
                      obtain ⟨x25, qx25, hb⟩ := b1E hb
                      refine mx_cVi [.int i14] [] 155 11 x25 dX11_joinsOf_154 cl_X11_348 im_X11_sumOf cy_X11_sumOf oc_at_155 rfl (Nat.le_of_ble_eq_true rfl) (by decide) (t_X11_sumOf l E i14 M qx25) ?_
                      refine ex_aload_n dX11_joinsOf_157 rfl ?_
                      refine ex_iload dX11_joinsOf_158 rfl ?_
                      obtain ⟨x26, qx26, hb⟩ := b1E hb
                      refine mx_cVi [.int i13] [.int x25] 155 11 x26 dX11_joinsOf_160 cl_X11_348 im_X11_sumOf cy_X11_sumOf oc_at_155 rfl (Nat.le_of_ble_eq_true rfl) (by decide) (t_X11_sumOf l E i13 M qx26) ?_
                      refine ex_icmp_ge 170 dX11_joinsOf_163 (by decide) (fun c27 => ?_) (fun c27 => ?_)
                      · rw [if_pos c27] at hb
                        refine ex_iinc 1 (L2 := [some (.ref 155), none, some (.int a2), some (.int x1), some (.int i13), some (.int q12), some (.int (i14 + 1)), some (.int (x21 - x22))]) dX11_joinsOf_170 rfl kI_1 (by decide) rfl ?_
                        refine ex_goto 85 dX11_joinsOf_173 (by decide) ?_
                        refine ex_mskL [true, false, true, true, true, true, true, false] (L2 := [some (.ref 155), none, some (.int a2), some (.int x1), some (.int i13), some (.int q12), some (.int (i14 + 1)), none]) rfl ?_
                        cases hb
                        exact hk (i13, (i14 + 1)) rfl
                      · rw [if_neg c27] at hb
                        refine ex_iload dX11_joinsOf_166 rfl ?_
                        refine ex_istore (L2 := [some (.ref 155), none, some (.int a2), some (.int x1), some (.int i14), some (.int q12), some (.int i14), some (.int (x21 - x22))]) dX11_joinsOf_168 (by decide) rfl ?_
                        refine ex_iinc 1 (L2 := [some (.ref 155), none, some (.int a2), some (.int x1), some (.int i14), some (.int q12), some (.int (i14 + 1)), some (.int (x21 - x22))]) dX11_joinsOf_170 rfl kI_1 (by decide) rfl ?_
                        refine ex_goto 85 dX11_joinsOf_173 (by decide) ?_
                        refine ex_mskL [true, false, true, true, true, true, true, false] (L2 := [some (.ref 155), none, some (.int a2), some (.int x1), some (.int i14), some (.int q12), some (.int (i14 + 1)), none]) rfl ?_
                        cases hb
                        exact hk (i14, (i14 + 1)) rfl
                · rw [if_pos c20] at hb
                  refine ex_iconst (-1) dX11_joinsOf_124 kI_m1 ?_
                  refine ex_goto 139 dX11_joinsOf_125 (by decide) ?_
                  refine ex_istore (L2 := [some (.ref 155), none, some (.int a2), some (.int x1), some (.int i13), some (.int q12), some (.int i14), some (.int (-1))]) dX11_joinsOf_139 (by decide) rfl ?_
                  refine ex_iload dX11_joinsOf_141 rfl ?_
                  refine ex_if_lt 166 dX11_joinsOf_143 (by decide) (fun _ => ?_) (fun z => absurd (by decide) z)
                  refine ex_iload dX11_joinsOf_166 rfl ?_
                  refine ex_istore (L2 := [some (.ref 155), none, some (.int a2), some (.int x1), some (.int i14), some (.int q12), some (.int i14), some (.int (-1))]) dX11_joinsOf_168 (by decide) rfl ?_
                  refine ex_iinc 1 (L2 := [some (.ref 155), none, some (.int a2), some (.int x1), some (.int i14), some (.int q12), some (.int (i14 + 1)), some (.int (-1))]) dX11_joinsOf_170 rfl kI_1 (by decide) rfl ?_
                  refine ex_goto 85 dX11_joinsOf_173 (by decide) ?_
                  refine ex_mskL [true, false, true, true, true, true, true, false] (L2 := [some (.ref 155), none, some (.int a2), some (.int x1), some (.int i14), some (.int q12), some (.int (i14 + 1)), none]) rfl ?_
                  cases hb
                  exact hk (i14, (i14 + 1)) rfl
              · rw [if_pos c19] at hb
                refine ex_goto 170 dX11_joinsOf_115 (by decide) ?_
                refine ex_iinc 1 (L2 := [some (.ref 155), none, some (.int a2), some (.int x1), some (.int i13), some (.int q12), some (.int (i14 + 1)), none]) dX11_joinsOf_170 rfl kI_1 (by decide) rfl ?_
                refine ex_goto 85 dX11_joinsOf_173 (by decide) ?_
                refine ex_mskL [true, false, true, true, true, true, true, false] (L2 := [some (.ref 155), none, some (.int a2), some (.int x1), some (.int i13), some (.int q12), some (.int (i14 + 1)), none]) rfl ?_
                cases hb
                exact hk (i13, (i14 + 1)) rfl)
      exact key FU ((-1), 1) hlq28
    clear h
    have key : ∀ (k : Nat) (s : Int32 × Int32), lp (fun s => w_X11_joinsOf_31 a2 M x1 s.1 s.2) k s = some q12 → XM l E (RX11, "joinsOf", cX11_joinsOf, 8) (some .int) 3 31 [some (.ref 155), none, some (.int a2), some (.int x1), some (.int (-1)), some (.int s.1), some (.int s.2), none] [] M M (some (.int r)) := lp_ind (P := fun (s : Int32 × Int32) => XM l E (RX11, "joinsOf", cX11_joinsOf, 8) (some .int) 3 31 [some (.ref 155), none, some (.int a2), some (.int x1), some (.int (-1)), some (.int s.1), some (.int s.2), none] [] M M (some (.int r))) (fun s t hb hk he => by
      obtain ⟨i5, i6⟩ := s
      show XM l E (RX11, "joinsOf", cX11_joinsOf, 8) (some .int) 3 31 [some (.ref 155), none, some (.int a2), some (.int x1), some (.int (-1)), some (.int i5), some (.int i6), none] [] M M (some (.int r))
      change w_X11_joinsOf_31 a2 M x1 i5 i6 = some t at hb
      unfold w_X11_joinsOf_31 at hb
      refine ex_iload dX11_joinsOf_31 rfl ?_
      refine ex_aload_n dX11_joinsOf_33 rfl ?_
      refine mx_getr 11 156 dX11_joinsOf_34 fl_X11_7 oc_at_155 (rf_11_0 oc_at_155) ?_
      refine ex_bipush 7 dX11_joinsOf_37 kB_7 ?_
      refine mx_iald (M 156 7) dX11_joinsOf_39 (rdc_156_7 _) ?_
      refine ex_icmp_ge 82 dX11_joinsOf_40 (by decide) (fun c7 => ?_) (fun c7 => ?_)
      · rw [if_pos c7] at hb
        refine ex_mskL [true, false, true, true, true, true, false, false] (L2 := [some (.ref 155), none, some (.int a2), some (.int x1), some (.int (-1)), some (.int i5), none, none]) rfl ?_
        cases hb
        cases (he _ rfl) <;> exact hx
      · rw [if_neg c7] at hb
        refine ex_iload dX11_joinsOf_43 rfl ?_
        refine ex_if_ne 69 dX11_joinsOf_45 (by decide) (fun c8 => ?_) (fun c8 => ?_)
        · rw [if_neg c8] at hb
          refine ex_iconst 1 dX11_joinsOf_69 kI_1 ?_
          refine ex_goto 74 dX11_joinsOf_70 (by decide) ?_
          refine ex_istore (L2 := [some (.ref 155), none, some (.int a2), some (.int x1), some (.int (-1)), some (.int 1), some (.int i6), none]) dX11_joinsOf_74 (by decide) rfl ?_
          refine ex_iinc 1 (L2 := [some (.ref 155), none, some (.int a2), some (.int x1), some (.int (-1)), some (.int 1), some (.int (i6 + 1)), none]) dX11_joinsOf_76 rfl kI_1 (by decide) rfl ?_
          refine ex_goto 31 dX11_joinsOf_79 (by decide) ?_
          refine ex_mskL [true, false, true, true, true, true, true, false] (L2 := [some (.ref 155), none, some (.int a2), some (.int x1), some (.int (-1)), some (.int 1), some (.int (i6 + 1)), none]) rfl ?_
          cases hb
          exact hk (1, (i6 + 1)) rfl
        · rw [if_pos c8] at hb
          refine ex_iload_n dX11_joinsOf_48 rfl ?_
          refine ex_iload dX11_joinsOf_49 rfl ?_
          refine ex_ishr dX11_joinsOf_51 ?_
          refine ex_iconst 1 dX11_joinsOf_52 kI_1 ?_
          refine ex_iand dX11_joinsOf_53 ?_
          refine ex_iconst 1 dX11_joinsOf_54 kI_1 ?_
          refine ex_icmp_ne 73 dX11_joinsOf_55 (by decide) (fun c9 => ?_) (fun c9 => ?_)
          · rw [if_neg c9] at hb
            refine ex_iconst 0 dX11_joinsOf_73 kI_0 ?_
            refine ex_istore (L2 := [some (.ref 155), none, some (.int a2), some (.int x1), some (.int (-1)), some (.int 0), some (.int i6), none]) dX11_joinsOf_74 (by decide) rfl ?_
            refine ex_iinc 1 (L2 := [some (.ref 155), none, some (.int a2), some (.int x1), some (.int (-1)), some (.int 0), some (.int (i6 + 1)), none]) dX11_joinsOf_76 rfl kI_1 (by decide) rfl ?_
            refine ex_goto 31 dX11_joinsOf_79 (by decide) ?_
            refine ex_mskL [true, false, true, true, true, true, true, false] (L2 := [some (.ref 155), none, some (.int a2), some (.int x1), some (.int (-1)), some (.int 0), some (.int (i6 + 1)), none]) rfl ?_
            cases hb
            exact hk (0, (i6 + 1)) rfl
          · rw [if_pos c9] at hb
            refine ex_aload_n dX11_joinsOf_58 rfl ?_
            refine ex_iload dX11_joinsOf_59 rfl ?_
            refine ex_iconst 1 dX11_joinsOf_61 kI_1 ?_
            obtain ⟨x10, qx10, hb⟩ := b1E hb
            refine mx_cVi [.int i6, .int 1] [] 155 11 x10 dX11_joinsOf_62 cl_X11_57 im_X11_ofRemain cy_X11_ofRemain oc_at_155 rfl (Nat.le_of_ble_eq_true rfl) (by decide) (t_X11_ofRemain l E i6 1 M qx10) ?_
            refine ex_iload_n dX11_joinsOf_65 rfl ?_
            refine ex_icmp_lt 73 dX11_joinsOf_66 (by decide) (fun c11 => ?_) (fun c11 => ?_)
            · rw [if_pos c11] at hb
              refine ex_iconst 0 dX11_joinsOf_73 kI_0 ?_
              refine ex_istore (L2 := [some (.ref 155), none, some (.int a2), some (.int x1), some (.int (-1)), some (.int 0), some (.int i6), none]) dX11_joinsOf_74 (by decide) rfl ?_
              refine ex_iinc 1 (L2 := [some (.ref 155), none, some (.int a2), some (.int x1), some (.int (-1)), some (.int 0), some (.int (i6 + 1)), none]) dX11_joinsOf_76 rfl kI_1 (by decide) rfl ?_
              refine ex_goto 31 dX11_joinsOf_79 (by decide) ?_
              refine ex_mskL [true, false, true, true, true, true, true, false] (L2 := [some (.ref 155), none, some (.int a2), some (.int x1), some (.int (-1)), some (.int 0), some (.int (i6 + 1)), none]) rfl ?_
              cases hb
              exact hk (0, (i6 + 1)) rfl
            · rw [if_neg c11] at hb
              refine ex_iconst 1 dX11_joinsOf_69 kI_1 ?_
              refine ex_goto 74 dX11_joinsOf_70 (by decide) ?_
              refine ex_istore (L2 := [some (.ref 155), none, some (.int a2), some (.int x1), some (.int (-1)), some (.int 1), some (.int i6), none]) dX11_joinsOf_74 (by decide) rfl ?_
              refine ex_iinc 1 (L2 := [some (.ref 155), none, some (.int a2), some (.int x1), some (.int (-1)), some (.int 1), some (.int (i6 + 1)), none]) dX11_joinsOf_76 rfl kI_1 (by decide) rfl ?_
              refine ex_goto 31 dX11_joinsOf_79 (by decide) ?_
              refine ex_mskL [true, false, true, true, true, true, true, false] (L2 := [some (.ref 155), none, some (.int a2), some (.int x1), some (.int (-1)), some (.int 1), some (.int (i6 + 1)), none]) rfl ?_
              cases hb
              exact hk (1, (i6 + 1)) rfl)
    exact key FU (x4, 0) hlq12
  clear h
  refine ex_icmp_lt 25 dX11_joinsOf_18 (by decide) (fun c3 => ?_) (fun c3 => ?_)
  · rw [if_pos c3] at ex4
    refine ex_iconst 0 dX11_joinsOf_25 kI_0 ?_
    subst ex4
    exact Jx4
  · rw [if_neg c3] at ex4
    refine ex_iconst 1 dX11_joinsOf_21 kI_1 ?_
    refine ex_goto 26 dX11_joinsOf_22 (by decide) ?_
    subst ex4
    exact Jx4
def f_X11_joins (a1 : Int32) (a2 : Int32) (a3 : Int32) (M : Mem) : Option (Int32) :=
  if ((f_X11_isKind a1 M) = 0 ∨ ((f_X11_isIn a2 1 99) = 0 ∨ (f_X11_isIn a3 0 1) = 0)) then (some (-1)) else (b1 (f_X11_joinsOf a1 a2 M) fun x5 => if (x5 = (-1) ∨ a3 = 1) then (some x5) else (b1 (f_X11_count x5) fun x9 => some x9))
set_option maxRecDepth 100000 in
set_option maxHeartbeats 4000000 in
theorem t_X11_joins (l : Launch) (E : EV) (a1 : Int32) (a2 : Int32) (a3 : Int32) (M : Mem) {r : Int32} (h : f_X11_joins a1 a2 a3 M = some r) : RunM l E yX11_joins cX11_joins 5 (some .int) 4 [.ref 155, .int a1, .int a2, .int a3] M M (some (.int r)) := by
  refine RunM.of (by decide) (Nat.le_of_ble_eq_true rfl) ?_
  show XM l E (RX11, "joins", cX11_joins, 5) (some .int) 4 0 [some (.ref 155), some (.int a1), some (.int a2), some (.int a3), none] [] M M (some (.int r))
  unfold f_X11_joins at h
  refine ex_aload_n dX11_joins_0 rfl ?_
  refine ex_iload_n dX11_joins_1 rfl ?_
  refine mx_cVi [.int a1] [] 155 11 (f_X11_isKind a1 M) dX11_joins_2 cl_X11_239 im_X11_isKind cy_X11_isKind oc_at_155 rfl (Nat.le_of_ble_eq_true rfl) (by decide) (t_X11_isKind l E a1 M rfl) ?_
  have JXC4 : ((f_X11_isKind a1 M) = 0 ∨ ((f_X11_isIn a2 1 99) = 0 ∨ (f_X11_isIn a3 0 1) = 0)) → XM l E (RX11, "joins", cX11_joins, 5) (some .int) 4 27 [some (.ref 155), some (.int a1), some (.int a2), some (.int a3), none] [] M M (some (.int r)) := fun C4 => by
    rw [if_pos C4] at h
    refine ex_iconst (-1) dX11_joins_27 kI_m1 ?_
    cases h
    exact mx_reti .int dX11_joins_28 ⟨rfl, rfl⟩
  have JYC4 : ¬ (((f_X11_isKind a1 M) = 0 ∨ ((f_X11_isIn a2 1 99) = 0 ∨ (f_X11_isIn a3 0 1) = 0))) → XM l E (RX11, "joins", cX11_joins, 5) (some .int) 4 32 [some (.ref 155), some (.int a1), some (.int a2), some (.int a3), none] [.int a2, .int a1, .ref 155] M M (some (.int r)) := fun C4 => by
    rw [if_neg C4] at h
    obtain ⟨x5, qx5, h⟩ := b1E h
    refine mx_cVi [.int a1, .int a2] [] 155 11 x5 dX11_joins_32 cl_X11_358 im_X11_joinsOf cy_X11_joinsOf oc_at_155 rfl (Nat.le_of_ble_eq_true rfl) (by decide) (t_X11_joinsOf l E a1 a2 M qx5) ?_
    refine ex_istore (L2 := [some (.ref 155), some (.int a1), some (.int a2), some (.int a3), some (.int x5)]) dX11_joins_35 (by decide) rfl ?_
    refine ex_iload dX11_joins_37 rfl ?_
    refine ex_iconst (-1) dX11_joins_39 kI_m1 ?_
    have JXC8 : (x5 = (-1) ∨ a3 = 1) → XM l E (RX11, "joins", cX11_joins, 5) (some .int) 4 48 [some (.ref 155), some (.int a1), some (.int a2), some (.int a3), some (.int x5)] [] M M (some (.int r)) := fun C8 => by
      rw [if_pos C8] at h
      refine ex_iload dX11_joins_48 rfl ?_
      refine ex_goto 58 dX11_joins_50 (by decide) ?_
      cases h
      exact mx_reti .int dX11_joins_58 ⟨rfl, rfl⟩
    have JYC8 : ¬ ((x5 = (-1) ∨ a3 = 1)) → XM l E (RX11, "joins", cX11_joins, 5) (some .int) 4 55 [some (.ref 155), some (.int a1), some (.int a2), some (.int a3), some (.int x5)] [.int x5] M M (some (.int r)) := fun C8 => by
      rw [if_neg C8] at h
      obtain ⟨x9, qx9, h⟩ := b1E h
      refine mx_cSi [.int x5] [] x9 dX11_joins_55 cl_X11_345 sm_X11_count rfl (Nat.le_of_ble_eq_true rfl) (by decide) (t_X11_count l E x5 M qx9) ?_
      cases h
      exact mx_reti .int dX11_joins_58 ⟨rfl, rfl⟩
    clear h
    refine ex_icmp_eq 48 dX11_joins_40 (by decide) (fun c6 => ?_) (fun c6 => ?_)
    · exact JXC8 (Or.inl c6)
    · refine ex_iload_n dX11_joins_43 rfl ?_
      refine ex_iconst 1 dX11_joins_44 kI_1 ?_
      refine ex_icmp_ne 53 dX11_joins_45 (by decide) (fun c7 => ?_) (fun c7 => ?_)
      · refine ex_iload dX11_joins_53 rfl ?_
        exact JYC8 (fun z => z.elim c6 c7)
      · exact JXC8 (Or.inr c7)
  clear h
  refine ex_if_eq 27 dX11_joins_5 (by decide) (fun c1 => ?_) (fun c1 => ?_)
  · exact JXC4 (Or.inl c1)
  · refine ex_iload_n dX11_joins_8 rfl ?_
    refine ex_iconst 1 dX11_joins_9 kI_1 ?_
    refine ex_bipush 99 dX11_joins_10 kB_99 ?_
    refine mx_cSi [.int a2, .int 1, .int 99] [] (f_X11_isIn a2 1 99) dX11_joins_12 cl_X11_53 sm_X11_isIn rfl (Nat.le_of_ble_eq_true rfl) (by decide) (t_X11_isIn l E a2 1 99 M rfl) ?_
    refine ex_if_eq 27 dX11_joins_15 (by decide) (fun c2 => ?_) (fun c2 => ?_)
    · exact JXC4 (Or.inr (Or.inl c2))
    · refine ex_iload_n dX11_joins_18 rfl ?_
      refine ex_iconst 0 dX11_joins_19 kI_0 ?_
      refine ex_iconst 1 dX11_joins_20 kI_1 ?_
      refine mx_cSi [.int a3, .int 0, .int 1] [] (f_X11_isIn a3 0 1) dX11_joins_21 cl_X11_53 sm_X11_isIn rfl (Nat.le_of_ble_eq_true rfl) (by decide) (t_X11_isIn l E a3 0 1 M rfl) ?_
      refine ex_if_ne 29 dX11_joins_24 (by decide) (fun c3 => ?_) (fun c3 => ?_)
      · refine ex_aload_n dX11_joins_29 rfl ?_
        refine ex_iload_n dX11_joins_30 rfl ?_
        refine ex_iload_n dX11_joins_31 rfl ?_
        exact JYC4 (fun z => z.elim c1 (fun z => z.elim c2 c3))
      · exact JXC4 (Or.inr (Or.inr c3))
def f_X11_ofWant (a1 : Int32) (a2 : Int32) (M : Mem) : Option (Int32) :=
  b1 (rd M 156 ((139 + (4 * a1)) + a2)) fun x1 => some x1
set_option maxRecDepth 100000 in
set_option maxHeartbeats 4000000 in
theorem t_X11_ofWant (l : Launch) (E : EV) (a1 : Int32) (a2 : Int32) (M : Mem) {r : Int32} (h : f_X11_ofWant a1 a2 M = some r) : RunM l E yX11_ofWant cX11_ofWant 3 (some .int) 0 [.ref 155, .int a1, .int a2] M M (some (.int r)) := by
  refine RunM.of (by decide) (Nat.le_of_ble_eq_true rfl) ?_
  show XM l E (RX11, "ofWant", cX11_ofWant, 3) (some .int) 0 0 [some (.ref 155), some (.int a1), some (.int a2)] [] M M (some (.int r))
  unfold f_X11_ofWant at h
  refine ex_aload_n dX11_ofWant_0 rfl ?_
  refine mx_getr 11 156 dX11_ofWant_1 fl_X11_7 oc_at_155 (rf_11_0 oc_at_155) ?_
  refine ex_sipush 139 dX11_ofWant_4 kS_139 ?_
  refine ex_iconst 4 dX11_ofWant_7 kI_4 ?_
  refine ex_iload_n dX11_ofWant_8 rfl ?_
  refine ex_imul dX11_ofWant_9 ?_
  refine ex_iadd dX11_ofWant_10 ?_
  refine ex_iload_n dX11_ofWant_11 rfl ?_
  refine ex_iadd dX11_ofWant_12 ?_
  obtain ⟨x1, qx1, h⟩ := b1E h
  refine mx_iald x1 dX11_ofWant_13 qx1 ?_
  cases h
  exact mx_reti .int dX11_ofWant_14 ⟨rfl, rfl⟩
def f_X11_isMet (a1 : Int32) (M : Mem) : (Int32) :=
  lt ((if (((M 156 6) >>> (a1 &&& 31)) &&& 1) = 1 then 1 else 0) : Int32) fun x2 => x2
theorem z_X11_isMet (a1 : Int32) (M : Mem) : f_X11_isMet a1 M = 0 ∨ f_X11_isMet a1 M = 1 := by
  unfold f_X11_isMet
  (repeat' split) <;> first | exact Or.inl rfl | exact Or.inr rfl
set_option maxRecDepth 100000 in
set_option maxHeartbeats 4000000 in
theorem t_X11_isMet (l : Launch) (E : EV) (a1 : Int32) (M : Mem) {r : Int32} (h : f_X11_isMet a1 M = r) : RunM l E yX11_isMet cX11_isMet 2 (some .boolean) 0 [.ref 155, .int a1] M M (some (.int r)) := by
  refine RunM.of (by decide) (Nat.le_of_ble_eq_true rfl) ?_
  show XM l E (RX11, "isMet", cX11_isMet, 2) (some .boolean) 0 0 [some (.ref 155), some (.int a1)] [] M M (some (.int r))
  unfold f_X11_isMet at h
  refine ex_aload_n dX11_isMet_0 rfl ?_
  refine mx_getr 11 156 dX11_isMet_1 fl_X11_7 oc_at_155 (rf_11_0 oc_at_155) ?_
  refine ex_bipush 6 dX11_isMet_4 kB_6 ?_
  refine mx_iald (M 156 6) dX11_isMet_6 (rdc_156_6 _) ?_
  refine ex_iload_n dX11_isMet_7 rfl ?_
  refine ex_ishr dX11_isMet_8 ?_
  refine ex_iconst 1 dX11_isMet_9 kI_1 ?_
  refine ex_iand dX11_isMet_10 ?_
  refine ex_iconst 1 dX11_isMet_11 kI_1 ?_
  obtain ⟨x2, ex2, h⟩ := ltE h
  have Jx2 : XM l E (RX11, "isMet", cX11_isMet, 2) (some .boolean) 0 20 [some (.ref 155), some (.int a1)] [.int x2] M M (some (.int r)) := by
    subst h
    exact mx_reti .boolean dX11_isMet_20 ⟨rfl, nzB (by rw [ex2]; (repeat' split) <;> simp)⟩
  clear h
  refine ex_icmp_ne 19 dX11_isMet_12 (by decide) (fun c1 => ?_) (fun c1 => ?_)
  · rw [if_neg c1] at ex2
    refine ex_iconst 0 dX11_isMet_19 kI_0 ?_
    subst ex2
    exact Jx2
  · rw [if_pos c1] at ex2
    refine ex_iconst 1 dX11_isMet_15 kI_1 ?_
    refine ex_goto 20 dX11_isMet_16 (by decide) ?_
    subst ex2
    exact Jx2
