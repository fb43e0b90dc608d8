def f_X4_readWant (a1 : Nat) (a2 : Int32) (M : Mem) : Option (Mem × Int32) :=
  b2 (f_X4_begins 319 a1 M) fun M1 x2 => if x2 = 0 then (some (M1, 0)) else (b2 (f_X4_takesNumber a1 0 0 (a2 - 1) M1) fun M4 x5 => if x5 = 0 then (some (M4, 0)) else (b2 (f_X4_takesNumber a1 1 1 99 M4) fun M7 x8 => if x8 = 0 then (some (M7, 0)) else (b2 (f_X9_takes 320 M7) fun M10 x11 => if x11 = 0 then (some (M10, 0)) else (b2 (f_X4_takesNumber a1 2 0 999 M10) fun M13 x14 => if x14 = 0 then (some (M13, 0)) else (b2 (f_X9_takes 321 M13) fun M16 x17 => if x17 = 0 then (some (M16, 0)) else (b2 (f_X4_takesNumber a1 3 0 999 M16) fun M19 x20 => if x20 = 0 then (some (M19, 0)) else (b2 (f_X9_takes 59 M19) fun M22 x23 => if x23 = 0 then (some (M22, 0)) else (some (M22, 1)))))))))
set_option maxRecDepth 100000 in
set_option maxHeartbeats 4000000 in
theorem t_X4_readWant (l : Launch) (E : EV) (a1 : Nat) (a2 : Int32) (ha1 : oc a1 = some 8) (M : Mem) {M' : Mem} {r : Int32} (h : f_X4_readWant a1 a2 M = some (M', r)) : RunM l E yX4_readWant cX4_readWant 3 (some .boolean) 4 [.ref 141, .ref a1, .int a2] M M' (some (.int r)) := by
  refine RunM.of (by decide) (Nat.le_of_ble_eq_true rfl) ?_
  show XM l E (RX4, "readWant", cX4_readWant, 3) (some .boolean) 4 0 [some (.ref 141), some (.ref a1), some (.int a2)] [] M M' (some (.int r))
  unfold f_X4_readWant at h
  refine ex_aload_n dX4_readWant_0 rfl ?_
  refine ex_sipush 319 dX4_readWant_1 kS_319 ?_
  refine ex_aload_n dX4_readWant_4 rfl ?_
  obtain ⟨M1, x2, qx2, h⟩ := b2E h
  refine mx_cVi [.int 319, .ref a1] [] 141 4 x2 dX4_readWant_5 cl_X4_45 im_X4_begins cy_X4_begins oc_at_141 rfl (Nat.le_of_ble_eq_true rfl) (by decide) (t_X4_begins l E 319 a1 ha1 M qx2) ?_
  refine ex_if_eq 104 dX4_readWant_8 (by decide) (fun c3 => ?_) (fun c3 => ?_)
  · rw [if_pos c3] at h
    refine ex_iconst 0 dX4_readWant_104 kI_0 ?_
    cases h
    exact mx_reti .boolean dX4_readWant_105 ⟨rfl, by decide⟩
  · rw [if_neg c3] at h
    refine ex_aload_n dX4_readWant_11 rfl ?_
    refine ex_aload_n dX4_readWant_12 rfl ?_
    refine ex_iconst 0 dX4_readWant_13 kI_0 ?_
    refine ex_iconst 0 dX4_readWant_14 kI_0 ?_
    refine ex_iload_n dX4_readWant_15 rfl ?_
    refine ex_iconst 1 dX4_readWant_16 kI_1 ?_
    refine ex_isub dX4_readWant_17 ?_
    obtain ⟨M4, x5, qx5, h⟩ := b2E h
    refine mx_cVi [.ref a1, .int 0, .int 0, .int (a2 - 1)] [] 141 4 x5 dX4_readWant_18 cl_X4_49 im_X4_takesNumber cy_X4_takesNumber oc_at_141 rfl (Nat.le_of_ble_eq_true rfl) (by decide) (t_X4_takesNumber l E a1 0 0 (a2 - 1) ha1 M1 qx5) ?_
    refine ex_if_eq 104 dX4_readWant_21 (by decide) (fun c6 => ?_) (fun c6 => ?_)
    · rw [if_pos c6] at h
      refine ex_iconst 0 dX4_readWant_104 kI_0 ?_
      cases h
      exact mx_reti .boolean dX4_readWant_105 ⟨rfl, by decide⟩
    · rw [if_neg c6] at h
      refine ex_aload_n dX4_readWant_24 rfl ?_
      refine ex_aload_n dX4_readWant_25 rfl ?_
      refine ex_iconst 1 dX4_readWant_26 kI_1 ?_
      refine ex_iconst 1 dX4_readWant_27 kI_1 ?_
      refine ex_bipush 99 dX4_readWant_28 kB_99 ?_
      obtain ⟨M7, x8, qx8, h⟩ := b2E h
      refine mx_cVi [.ref a1, .int 1, .int 1, .int 99] [] 141 4 x8 dX4_readWant_30 cl_X4_49 im_X4_takesNumber cy_X4_takesNumber oc_at_141 rfl (Nat.le_of_ble_eq_true rfl) (by decide) (t_X4_takesNumber l E a1 1 1 99 ha1 M4 qx8) ?_
      refine ex_if_eq 104 dX4_readWant_33 (by decide) (fun c9 => ?_) (fun c9 => ?_)
      · rw [if_pos c9] at h
        refine ex_iconst 0 dX4_readWant_104 kI_0 ?_
        cases h
        exact mx_reti .boolean dX4_readWant_105 ⟨rfl, by decide⟩
      · rw [if_neg c9] at h
        refine ex_aload_n dX4_readWant_36 rfl ?_
        refine mx_getr 4 136 dX4_readWant_37 fl_X4_9 oc_at_141 (rf_4_0 oc_at_141) ?_
        refine ex_sipush 320 dX4_readWant_40 kS_320 ?_
        obtain ⟨M10, x11, qx11, h⟩ := b2E h
        refine mx_cVi [.int 320] [] 136 9 x11 dX4_readWant_43 cl_X4_53 im_X9_takes cy_X9_takes (oc_4_0 oc_at_141) rfl (Nat.le_of_ble_eq_true rfl) (by decide) (t_X9_takes l E 320 M7 qx11) ?_
        refine ex_if_eq 104 dX4_readWant_46 (by decide) (fun c12 => ?_) (fun c12 => ?_)
        · rw [if_pos c12] at h
          refine ex_iconst 0 dX4_readWant_104 kI_0 ?_
          cases h
          exact mx_reti .boolean dX4_readWant_105 ⟨rfl, by decide⟩
        · rw [if_neg c12] at h
          refine ex_aload_n dX4_readWant_49 rfl ?_
          refine ex_aload_n dX4_readWant_50 rfl ?_
          refine ex_iconst 2 dX4_readWant_51 kI_2 ?_
          refine ex_iconst 0 dX4_readWant_52 kI_0 ?_
          refine ex_sipush 999 dX4_readWant_53 kS_999 ?_
          obtain ⟨M13, x14, qx14, h⟩ := b2E h
          refine mx_cVi [.ref a1, .int 2, .int 0, .int 999] [] 141 4 x14 dX4_readWant_56 cl_X4_49 im_X4_takesNumber cy_X4_takesNumber oc_at_141 rfl (Nat.le_of_ble_eq_true rfl) (by decide) (t_X4_takesNumber l E a1 2 0 999 ha1 M10 qx14) ?_
          refine ex_if_eq 104 dX4_readWant_59 (by decide) (fun c15 => ?_) (fun c15 => ?_)
          · rw [if_pos c15] at h
            refine ex_iconst 0 dX4_readWant_104 kI_0 ?_
            cases h
            exact mx_reti .boolean dX4_readWant_105 ⟨rfl, by decide⟩
          · rw [if_neg c15] at h
            refine ex_aload_n dX4_readWant_62 rfl ?_
            refine mx_getr 4 136 dX4_readWant_63 fl_X4_9 oc_at_141 (rf_4_0 oc_at_141) ?_
            refine ex_sipush 321 dX4_readWant_66 kS_321 ?_
            obtain ⟨M16, x17, qx17, h⟩ := b2E h
            refine mx_cVi [.int 321] [] 136 9 x17 dX4_readWant_69 cl_X4_53 im_X9_takes cy_X9_takes (oc_4_0 oc_at_141) rfl (Nat.le_of_ble_eq_true rfl) (by decide) (t_X9_takes l E 321 M13 qx17) ?_
            refine ex_if_eq 104 dX4_readWant_72 (by decide) (fun c18 => ?_) (fun c18 => ?_)
            · rw [if_pos c18] at h
              refine ex_iconst 0 dX4_readWant_104 kI_0 ?_
              cases h
              exact mx_reti .boolean dX4_readWant_105 ⟨rfl, by decide⟩
            · rw [if_neg c18] at h
              refine ex_aload_n dX4_readWant_75 rfl ?_
              refine ex_aload_n dX4_readWant_76 rfl ?_
              refine ex_iconst 3 dX4_readWant_77 kI_3 ?_
              refine ex_iconst 0 dX4_readWant_78 kI_0 ?_
              refine ex_sipush 999 dX4_readWant_79 kS_999 ?_
              obtain ⟨M19, x20, qx20, h⟩ := b2E h
              refine mx_cVi [.ref a1, .int 3, .int 0, .int 999] [] 141 4 x20 dX4_readWant_82 cl_X4_49 im_X4_takesNumber cy_X4_takesNumber oc_at_141 rfl (Nat.le_of_ble_eq_true rfl) (by decide) (t_X4_takesNumber l E a1 3 0 999 ha1 M16 qx20) ?_
              refine ex_if_eq 104 dX4_readWant_85 (by decide) (fun c21 => ?_) (fun c21 => ?_)
              · rw [if_pos c21] at h
                refine ex_iconst 0 dX4_readWant_104 kI_0 ?_
                cases h
                exact mx_reti .boolean dX4_readWant_105 ⟨rfl, by decide⟩
              · rw [if_neg c21] at h
                refine ex_aload_n dX4_readWant_88 rfl ?_
                refine mx_getr 4 136 dX4_readWant_89 fl_X4_9 oc_at_141 (rf_4_0 oc_at_141) ?_
                refine ex_bipush 59 dX4_readWant_92 kB_59 ?_
                obtain ⟨M22, x23, qx23, h⟩ := b2E h
                refine mx_cVi [.int 59] [] 136 9 x23 dX4_readWant_94 cl_X4_53 im_X9_takes cy_X9_takes (oc_4_0 oc_at_141) rfl (Nat.le_of_ble_eq_true rfl) (by decide) (t_X9_takes l E 59 M19 qx23) ?_
                refine ex_if_eq 104 dX4_readWant_97 (by decide) (fun c24 => ?_) (fun c24 => ?_)
                · rw [if_pos c24] at h
                  refine ex_iconst 0 dX4_readWant_104 kI_0 ?_
                  cases h
                  exact mx_reti .boolean dX4_readWant_105 ⟨rfl, by decide⟩
                · rw [if_neg c24] at h
                  refine ex_iconst 1 dX4_readWant_100 kI_1 ?_
                  refine ex_goto 105 dX4_readWant_101 (by decide) ?_
                  cases h
                  exact mx_reti .boolean dX4_readWant_105 ⟨rfl, by decide⟩
def w_X4_readParts_10 (a1 : Nat) (a2 : Int32) (M : Mem) (i1 : Int32) (M2 : Mem) : Option ((Int32 × Mem) ⊕ ((Mem) ⊕ (Mem) ⊕ (Mem) ⊕ (Mem))) :=
  if 4 < i1 then (some (.inr (.inr (.inr (.inr M2))))) else (b1 (f_X9_type M2) fun x4 => if x4 = 256 then (b1 (f_X9_value M2) fun x6 => if a2 ≤ x6 then (some (.inr (.inl M2))) else (b1 (f_X8_at a1 ((M a1 3) - 1) (1 + x6) M2) fun x8 => if x8 ≤ 0 then (if i1 = 4 then (some (.inr (.inr (.inl M2)))) else (lt (f_X9_take M2) fun M11 => b2 (f_X4_takesNumber a1 (1 + x6) 1 99 M11) fun M12 x13 => if x13 = 0 then (some (.inr (.inr (.inr (.inl M12))))) else (some (.inl ((i1 + 1), M12))))) else (some (.inr (.inl M2))))) else (some (.inr (.inr (.inr (.inr M2))))))
def f_X4_readParts (a1 : Nat) (a2 : Int32) (M : Mem) : Option (Mem × Int32) :=
  b1 (lp (fun s => w_X4_readParts_10 a1 a2 M s.1 s.2) FU (0, M)) fun q15 => match q15 with | .inl u16 => (b2 (f_X9_fails 2 u16) fun M17 x18 => b1 (gz x18) fun x19 => some (M17, x19)) | .inr u26 => (match u26 with | .inl u20 => (b2 (f_X9_fails 3 u20) fun M21 x22 => b1 (gz x22) fun x23 => some (M21, x23)) | .inr u27 => (match u27 with | .inl u24 => (some (u24, 0)) | .inr u25 => (some (u25, 1))))
set_option maxRecDepth 100000 in
set_option maxHeartbeats 4000000 in
theorem t_X4_readParts (l : Launch) (E : EV) (a1 : Nat) (a2 : Int32) (ha1 : oc a1 = some 8) (M : Mem) {M' : Mem} {r : Int32} (h : f_X4_readParts a1 a2 M = some (M', r)) : RunM l E yX4_readParts cX4_readParts 6 (some .boolean) 3 [.ref 141, .ref a1, .int a2] M M' (some (.int r)) := by
  refine RunM.of (by decide) (Nat.le_of_ble_eq_true rfl) ?_
  show XM l E (RX4, "readParts", cX4_readParts, 6) (some .boolean) 3 0 [some (.ref 141), some (.ref a1), some (.int a2), none, none, none] [] M M' (some (.int r))
  unfold f_X4_readParts at h
  refine ex_aload_n dX4_readParts_0 rfl ?_
  refine mx_geti 8 dX4_readParts_1 fl_X4_60 ha1 (isi_8_3 ha1) ?_
  refine ex_iconst 1 dX4_readParts_4 kI_1 ?_
  refine ex_isub dX4_readParts_5 ?_
  refine ex_istore_n (L2 := [some (.ref 141), some (.ref a1), some (.int a2), some (.int ((M a1 3) - 1)), none, none]) dX4_readParts_6 (by decide) rfl ?_
  refine ex_iconst 0 dX4_readParts_7 kI_0 ?_
  refine ex_istore (L2 := [some (.ref 141), some (.ref a1), some (.int a2), some (.int ((M a1 3) - 1)), some (.int 0), none]) dX4_readParts_8 (by decide) rfl ?_
  refine ex_mskL [true, true, true, true, true, false] (L2 := [some (.ref 141), some (.ref a1), some (.int a2), some (.int ((M a1 3) - 1)), some (.int 0), none]) rfl ?_
  obtain ⟨q15, hlq15, h⟩ := b1E h
  rcases q15 with u16 | u20 | u24 | u25
  · dsimp only at h
    have hx : XM l E (RX4, "readParts", cX4_readParts, 6) (some .boolean) 3 56 [some (.ref 141), none, none, none, none, none] [] u16 M' (some (.int r)) := by
      refine ex_aload_n dX4_readParts_56 rfl ?_
      refine mx_getr 4 136 dX4_readParts_57 fl_X4_9 oc_at_141 (rf_4_0 oc_at_141) ?_
      refine ex_iconst 2 dX4_readParts_60 kI_2 ?_
      obtain ⟨M17, x18, qx18, h⟩ := b2E h
      refine mx_cVi [.int 2] [] 136 9 x18 dX4_readParts_61 cl_X4_74 im_X9_fails cy_X9_fails (oc_4_0 oc_at_141) rfl (Nat.le_of_ble_eq_true rfl) (by decide) (t_X9_fails l E 2 u16 qx18) ?_
      obtain ⟨x19, qx19, h⟩ := b1E h
      obtain ⟨ex19, nx19⟩ := gzE qx19
      rw [← ex19] at h
      cases h
      exact mx_reti .boolean dX4_readParts_64 ⟨rfl, nx19⟩
    clear h
    have key : ∀ (k : Nat) (s : Int32 × Mem), lp (fun s => w_X4_readParts_10 a1 a2 M s.1 s.2) k s = some (.inl u16) → XM l E (RX4, "readParts", cX4_readParts, 6) (some .boolean) 3 10 [some (.ref 141), some (.ref a1), some (.int a2), some (.int ((M a1 3) - 1)), some (.int s.1), none] [] s.2 M' (some (.int r)) := lp_ind (P := fun (s : Int32 × Mem) => XM l E (RX4, "readParts", cX4_readParts, 6) (some .boolean) 3 10 [some (.ref 141), some (.ref a1), some (.int a2), some (.int ((M a1 3) - 1)), some (.int s.1), none] [] s.2 M' (some (.int r))) (fun s t hb hk he => by
      obtain ⟨i1, M2⟩ := s
      show XM l E (RX4, "readParts", cX4_readParts, 6) (some .boolean) 3 10 [some (.ref 141), some (.ref a1), some (.int a2), some (.int ((M a1 3) - 1)), some (.int i1), none] [] M2 M' (some (.int r))
      change w_X4_readParts_10 a1 a2 M i1 M2 = some t at hb
      unfold w_X4_readParts_10 at hb
      refine ex_iload dX4_readParts_10 rfl ?_
      refine ex_iconst 4 dX4_readParts_12 kI_4 ?_
      refine ex_icmp_gt 110 dX4_readParts_13 (by decide) (fun c3 => ?_) (fun c3 => ?_)
      · rw [if_pos c3] at hb
        refine ex_mskL [false, false, false, false, false, false] (L2 := [none, none, none, none, none, none]) rfl ?_
        cases hb
        cases (he _ rfl) <;> exact hx
      · rw [if_neg c3] at hb
        refine ex_aload_n dX4_readParts_16 rfl ?_
        refine mx_getr 4 136 dX4_readParts_17 fl_X4_9 oc_at_141 (rf_4_0 oc_at_141) ?_
        obtain ⟨x4, qx4, hb⟩ := b1E hb
        refine mx_cVi [] [] 136 9 x4 dX4_readParts_20 cl_X4_64 im_X9_type cy_X9_type (oc_4_0 oc_at_141) rfl (Nat.le_of_ble_eq_true rfl) (by decide) (t_X9_type l E M2 qx4) ?_
        refine ex_sipush 256 dX4_readParts_23 kS_256 ?_
        refine ex_icmp_ne 110 dX4_readParts_26 (by decide) (fun c5 => ?_) (fun c5 => ?_)
        · rw [if_neg c5] at hb
          refine ex_mskL [false, false, false, false, false, false] (L2 := [none, none, none, none, none, none]) rfl ?_
          cases hb
          cases (he _ rfl) <;> exact hx
        · rw [if_pos c5] at hb
          refine ex_aload_n dX4_readParts_29 rfl ?_
          refine mx_getr 4 136 dX4_readParts_30 fl_X4_9 oc_at_141 (rf_4_0 oc_at_141) ?_
          obtain ⟨x6, qx6, hb⟩ := b1E hb
          refine mx_cVi [] [] 136 9 x6 dX4_readParts_33 cl_X4_67 im_X9_value cy_X9_value (oc_4_0 oc_at_141) rfl (Nat.le_of_ble_eq_true rfl) (by decide) (t_X9_value l E M2 qx6) ?_
          refine ex_istore (L2 := [some (.ref 141), some (.ref a1), some (.int a2), some (.int ((M a1 3) - 1)), some (.int i1), some (.int x6)]) dX4_readParts_36 (by decide) rfl ?_
          refine ex_iload dX4_readParts_38 rfl ?_
          refine ex_iload_n dX4_readParts_40 rfl ?_
          refine ex_icmp_ge 56 dX4_readParts_41 (by decide) (fun c7 => ?_) (fun c7 => ?_)
          · rw [if_pos c7] at hb
            refine ex_mskL [true, false, false, false, false, false] (L2 := [some (.ref 141), none, none, none, none, none]) rfl ?_
            cases hb
            cases (he _ rfl) <;> exact hx
          · rw [if_neg c7] at hb
            refine ex_aload_n dX4_readParts_44 rfl ?_
            refine ex_iload_n dX4_readParts_45 rfl ?_
            refine ex_iconst 1 dX4_readParts_46 kI_1 ?_
            refine ex_iload dX4_readParts_47 rfl ?_
            refine ex_iadd dX4_readParts_49 ?_
            obtain ⟨x8, qx8, hb⟩ := b1E hb
            refine mx_cVi [.int ((M a1 3) - 1), .int (1 + x6)] [] a1 8 x8 dX4_readParts_50 cl_X4_70 im_X8_at cy_X8_at ha1 rfl (Nat.le_of_ble_eq_true rfl) (by decide) (t_X8_at l E a1 ((M a1 3) - 1) (1 + x6) ha1 M2 qx8) ?_
            refine ex_if_le 65 dX4_readParts_53 (by decide) (fun c9 => ?_) (fun c9 => ?_)
            · rw [if_pos c9] at hb
              refine ex_iload dX4_readParts_65 rfl ?_
              refine ex_iconst 4 dX4_readParts_67 kI_4 ?_
              refine ex_icmp_ne 80 dX4_readParts_68 (by decide) (fun c10 => ?_) (fun c10 => ?_)
              · rw [if_neg c10] at hb
                refine ex_aload_n dX4_readParts_80 rfl ?_
                refine mx_getr 4 136 dX4_readParts_81 fl_X4_9 oc_at_141 (rf_4_0 oc_at_141) ?_
                obtain ⟨M11, eM11, hb⟩ := ltE hb
                refine mx_cVv [] [] 136 9 dX4_readParts_84 cl_X4_77 im_X9_take cy_X9_take (oc_4_0 oc_at_141) rfl (Nat.le_of_ble_eq_true rfl) (by decide) (t_X9_take l E M2 eM11.symm) ?_
                refine ex_aload_n dX4_readParts_87 rfl ?_
                refine ex_aload_n dX4_readParts_88 rfl ?_
                refine ex_iconst 1 dX4_readParts_89 kI_1 ?_
                refine ex_iload dX4_readParts_90 rfl ?_
                refine ex_iadd dX4_readParts_92 ?_
                refine ex_iconst 1 dX4_readParts_93 kI_1 ?_
                refine ex_bipush 99 dX4_readParts_94 kB_99 ?_
                obtain ⟨M12, x13, qx13, hb⟩ := b2E hb
                refine mx_cVi [.ref a1, .int (1 + x6), .int 1, .int 99] [] 141 4 x13 dX4_readParts_96 cl_X4_49 im_X4_takesNumber cy_X4_takesNumber oc_at_141 rfl (Nat.le_of_ble_eq_true rfl) (by decide) (t_X4_takesNumber l E a1 (1 + x6) 1 99 ha1 M11 qx13) ?_
                refine ex_if_ne 104 dX4_readParts_99 (by decide) (fun c14 => ?_) (fun c14 => ?_)
                · rw [if_neg c14] at hb
                  refine ex_iinc 1 (L2 := [some (.ref 141), some (.ref a1), some (.int a2), some (.int ((M a1 3) - 1)), some (.int (i1 + 1)), some (.int x6)]) dX4_readParts_104 rfl kI_1 (by decide) rfl ?_
                  refine ex_goto 10 dX4_readParts_107 (by decide) ?_
                  refine ex_mskL [true, true, true, true, true, false] (L2 := [some (.ref 141), some (.ref a1), some (.int a2), some (.int ((M a1 3) - 1)), some (.int (i1 + 1)), none]) rfl ?_
                  cases hb
                  exact hk ((i1 + 1), M12) rfl
                · rw [if_pos c14] at hb
                  refine ex_mskL [false, false, false, false, false, false] (L2 := [none, none, none, none, none, none]) rfl ?_
                  cases hb
                  cases (he _ rfl) <;> exact hx
              · rw [if_pos c10] at hb
                refine ex_mskL [true, false, false, false, false, false] (L2 := [some (.ref 141), none, none, none, none, none]) rfl ?_
                cases hb
                cases (he _ rfl) <;> exact hx
            · rw [if_neg c9] at hb
              refine ex_mskL [true, false, false, false, false, false] (L2 := [some (.ref 141), none, none, none, none, none]) rfl ?_
              cases hb
              cases (he _ rfl) <;> exact hx)
    exact key FU (0, M) hlq15
  · dsimp only at h
    have hx : XM l E (RX4, "readParts", cX4_readParts, 6) (some .boolean) 3 71 [some (.ref 141), none, none, none, none, none] [] u20 M' (some (.int r)) := by
      refine ex_aload_n dX4_readParts_71 rfl ?_
      refine mx_getr 4 136 dX4_readParts_72 fl_X4_9 oc_at_141 (rf_4_0 oc_at_141) ?_
      refine ex_iconst 3 dX4_readParts_75 kI_3 ?_
      obtain ⟨M21, x22, qx22, h⟩ := b2E h
      refine mx_cVi [.int 3] [] 136 9 x22 dX4_readParts_76 cl_X4_74 im_X9_fails cy_X9_fails (oc_4_0 oc_at_141) rfl (Nat.le_of_ble_eq_true rfl) (by decide) (t_X9_fails l E 3 u20 qx22) ?_
      obtain ⟨x23, qx23, h⟩ := b1E h
      obtain ⟨ex23, nx23⟩ := gzE qx23
      rw [← ex23] at h
      cases h
      exact mx_reti .boolean dX4_readParts_79 ⟨rfl, nx23⟩
    clear h
    have key : ∀ (k : Nat) (s : Int32 × Mem), lp (fun s => w_X4_readParts_10 a1 a2 M s.1 s.2) k s = some (.inr (.inl u20)) → XM l E (RX4, "readParts", cX4_readParts, 6) (some .boolean) 3 10 [some (.ref 141), some (.ref a1), some (.int a2), some (.int ((M a1 3) - 1)), some (.int s.1), none] [] s.2 M' (some (.int r)) := lp_ind (P := fun (s : Int32 × Mem) => XM l E (RX4, "readParts", cX4_readParts, 6) (some .boolean) 3 10 [some (.ref 141), some (.ref a1), some (.int a2), some (.int ((M a1 3) - 1)), some (.int s.1), none] [] s.2 M' (some (.int r))) (fun s t hb hk he => by
      obtain ⟨i1, M2⟩ := s
      show XM l E (RX4, "readParts", cX4_readParts, 6) (some .boolean) 3 10 [some (.ref 141), some (.ref a1), some (.int a2), some (.int ((M a1 3) - 1)), some (.int i1), none] [] M2 M' (some (.int r))
      change w_X4_readParts_10 a1 a2 M i1 M2 = some t at hb
      unfold w_X4_readParts_10 at hb
      refine ex_iload dX4_readParts_10 rfl ?_
      refine ex_iconst 4 dX4_readParts_12 kI_4 ?_
      refine ex_icmp_gt 110 dX4_readParts_13 (by decide) (fun c3 => ?_) (fun c3 => ?_)
      · rw [if_pos c3] at hb
        refine ex_mskL [false, false, false, false, false, false] (L2 := [none, none, none, none, none, none]) rfl ?_
        cases hb
        cases (he _ rfl) <;> exact hx
      · rw [if_neg c3] at hb
        refine ex_aload_n dX4_readParts_16 rfl ?_
        refine mx_getr 4 136 dX4_readParts_17 fl_X4_9 oc_at_141 (rf_4_0 oc_at_141) ?_
        obtain ⟨x4, qx4, hb⟩ := b1E hb
        refine mx_cVi [] [] 136 9 x4 dX4_readParts_20 cl_X4_64 im_X9_type cy_X9_type (oc_4_0 oc_at_141) rfl (Nat.le_of_ble_eq_true rfl) (by decide) (t_X9_type l E M2 qx4) ?_
        refine ex_sipush 256 dX4_readParts_23 kS_256 ?_
        refine ex_icmp_ne 110 dX4_readParts_26 (by decide) (fun c5 => ?_) (fun c5 => ?_)
        · rw [if_neg c5] at hb
          refine ex_mskL [false, false, false, false, false, false] (L2 := [none, none, none, none, none, none]) rfl ?_
          cases hb
          cases (he _ rfl) <;> exact hx
        · rw [if_pos c5] at hb
          refine ex_aload_n dX4_readParts_29 rfl ?_
          refine mx_getr 4 136 dX4_readParts_30 fl_X4_9 oc_at_141 (rf_4_0 oc_at_141) ?_
          obtain ⟨x6, qx6, hb⟩ := b1E hb
          refine mx_cVi [] [] 136 9 x6 dX4_readParts_33 cl_X4_67 im_X9_value cy_X9_value (oc_4_0 oc_at_141) rfl (Nat.le_of_ble_eq_true rfl) (by decide) (t_X9_value l E M2 qx6) ?_
          refine ex_istore (L2 := [some (.ref 141), some (.ref a1), some (.int a2), some (.int ((M a1 3) - 1)), some (.int i1), some (.int x6)]) dX4_readParts_36 (by decide) rfl ?_
          refine ex_iload dX4_readParts_38 rfl ?_
          refine ex_iload_n dX4_readParts_40 rfl ?_
          refine ex_icmp_ge 56 dX4_readParts_41 (by decide) (fun c7 => ?_) (fun c7 => ?_)
          · rw [if_pos c7] at hb
            refine ex_mskL [true, false, false, false, false, false] (L2 := [some (.ref 141), none, none, none, none, none]) rfl ?_
            cases hb
            cases (he _ rfl) <;> exact hx
          · rw [if_neg c7] at hb
            refine ex_aload_n dX4_readParts_44 rfl ?_
            refine ex_iload_n dX4_readParts_45 rfl ?_
            refine ex_iconst 1 dX4_readParts_46 kI_1 ?_
            refine ex_iload dX4_readParts_47 rfl ?_
            refine ex_iadd dX4_readParts_49 ?_
            obtain ⟨x8, qx8, hb⟩ := b1E hb
            refine mx_cVi [.int ((M a1 3) - 1), .int (1 + x6)] [] a1 8 x8 dX4_readParts_50 cl_X4_70 im_X8_at cy_X8_at ha1 rfl (Nat.le_of_ble_eq_true rfl) (by decide) (t_X8_at l E a1 ((M a1 3) - 1) (1 + x6) ha1 M2 qx8) ?_
            refine ex_if_le 65 dX4_readParts_53 (by decide) (fun c9 => ?_) (fun c9 => ?_)
            · rw [if_pos c9] at hb
              refine ex_iload dX4_readParts_65 rfl ?_
              refine ex_iconst 4 dX4_readParts_67 kI_4 ?_
              refine ex_icmp_ne 80 dX4_readParts_68 (by decide) (fun c10 => ?_) (fun c10 => ?_)
              · rw [if_neg c10] at hb
                refine ex_aload_n dX4_readParts_80 rfl ?_
                refine mx_getr 4 136 dX4_readParts_81 fl_X4_9 oc_at_141 (rf_4_0 oc_at_141) ?_
                obtain ⟨M11, eM11, hb⟩ := ltE hb
                refine mx_cVv [] [] 136 9 dX4_readParts_84 cl_X4_77 im_X9_take cy_X9_take (oc_4_0 oc_at_141) rfl (Nat.le_of_ble_eq_true rfl) (by decide) (t_X9_take l E M2 eM11.symm) ?_
                refine ex_aload_n dX4_readParts_87 rfl ?_
                refine ex_aload_n dX4_readParts_88 rfl ?_
                refine ex_iconst 1 dX4_readParts_89 kI_1 ?_
                refine ex_iload dX4_readParts_90 rfl ?_
                refine ex_iadd dX4_readParts_92 ?_
                refine ex_iconst 1 dX4_readParts_93 kI_1 ?_
                refine ex_bipush 99 dX4_readParts_94 kB_99 ?_
                obtain ⟨M12, x13, qx13, hb⟩ := b2E hb
                refine mx_cVi [.ref a1, .int (1 + x6), .int 1, .int 99] [] 141 4 x13 dX4_readParts_96 cl_X4_49 im_X4_takesNumber cy_X4_takesNumber oc_at_141 rfl (Nat.le_of_ble_eq_true rfl) (by decide) (t_X4_takesNumber l E a1 (1 + x6) 1 99 ha1 M11 qx13) ?_
                refine ex_if_ne 104 dX4_readParts_99 (by decide) (fun c14 => ?_) (fun c14 => ?_)
                · rw [if_neg c14] at hb
                  refine ex_iinc 1 (L2 := [some (.ref 141), some (.ref a1), some (.int a2), some (.int ((M a1 3) - 1)), some (.int (i1 + 1)), some (.int x6)]) dX4_readParts_104 rfl kI_1 (by decide) rfl ?_
                  refine ex_goto 10 dX4_readParts_107 (by decide) ?_
                  refine ex_mskL [true, true, true, true, true, false] (L2 := [some (.ref 141), some (.ref a1), some (.int a2), some (.int ((M a1 3) - 1)), some (.int (i1 + 1)), none]) rfl ?_
                  cases hb
                  exact hk ((i1 + 1), M12) rfl
                · rw [if_pos c14] at hb
                  refine ex_mskL [false, false, false, false, false, false] (L2 := [none, none, none, none, none, none]) rfl ?_
                  cases hb
                  cases (he _ rfl) <;> exact hx
              · rw [if_pos c10] at hb
                refine ex_mskL [true, false, false, false, false, false] (L2 := [some (.ref 141), none, none, none, none, none]) rfl ?_
                cases hb
                cases (he _ rfl) <;> exact hx
            · rw [if_neg c9] at hb
              refine ex_mskL [true, false, false, false, false, false] (L2 := [some (.ref 141), none, none, none, none, none]) rfl ?_
              cases hb
              cases (he _ rfl) <;> exact hx)
    exact key FU (0, M) hlq15
  · dsimp only at h
    have hx : XM l E (RX4, "readParts", cX4_readParts, 6) (some .boolean) 3 102 [none, none, none, none, none, none] [] u24 M' (some (.int r)) := by
      refine ex_iconst 0 dX4_readParts_102 kI_0 ?_
      cases h
      exact mx_reti .boolean dX4_readParts_103 ⟨rfl, by decide⟩
    clear h
    have key : ∀ (k : Nat) (s : Int32 × Mem), lp (fun s => w_X4_readParts_10 a1 a2 M s.1 s.2) k s = some (.inr (.inr (.inl u24))) → XM l E (RX4, "readParts", cX4_readParts, 6) (some .boolean) 3 10 [some (.ref 141), some (.ref a1), some (.int a2), some (.int ((M a1 3) - 1)), some (.int s.1), none] [] s.2 M' (some (.int r)) := lp_ind (P := fun (s : Int32 × Mem) => XM l E (RX4, "readParts", cX4_readParts, 6) (some .boolean) 3 10 [some (.ref 141), some (.ref a1), some (.int a2), some (.int ((M a1 3) - 1)), some (.int s.1), none] [] s.2 M' (some (.int r))) (fun s t hb hk he => by
      obtain ⟨i1, M2⟩ := s
      show XM l E (RX4, "readParts", cX4_readParts, 6) (some .boolean) 3 10 [some (.ref 141), some (.ref a1), some (.int a2), some (.int ((M a1 3) - 1)), some (.int i1), none] [] M2 M' (some (.int r))
      change w_X4_readParts_10 a1 a2 M i1 M2 = some t at hb
      unfold w_X4_readParts_10 at hb
      refine ex_iload dX4_readParts_10 rfl ?_
      refine ex_iconst 4 dX4_readParts_12 kI_4 ?_
      refine ex_icmp_gt 110 dX4_readParts_13 (by decide) (fun c3 => ?_) (fun c3 => ?_)
      · rw [if_pos c3] at hb
        refine ex_mskL [false, false, false, false, false, false] (L2 := [none, none, none, none, none, none]) rfl ?_
        cases hb
        cases (he _ rfl) <;> exact hx
      · rw [if_neg c3] at hb
        refine ex_aload_n dX4_readParts_16 rfl ?_
        refine mx_getr 4 136 dX4_readParts_17 fl_X4_9 oc_at_141 (rf_4_0 oc_at_141) ?_
        obtain ⟨x4, qx4, hb⟩ := b1E hb
        refine mx_cVi [] [] 136 9 x4 dX4_readParts_20 cl_X4_64 im_X9_type cy_X9_type (oc_4_0 oc_at_141) rfl (Nat.le_of_ble_eq_true rfl) (by decide) (t_X9_type l E M2 qx4) ?_
        refine ex_sipush 256 dX4_readParts_23 kS_256 ?_
        refine ex_icmp_ne 110 dX4_readParts_26 (by decide) (fun c5 => ?_) (fun c5 => ?_)
        · rw [if_neg c5] at hb
          refine ex_mskL [false, false, false, false, false, false] (L2 := [none, none, none, none, none, none]) rfl ?_
          cases hb
          cases (he _ rfl) <;> exact hx
        · rw [if_pos c5] at hb
          refine ex_aload_n dX4_readParts_29 rfl ?_
          refine mx_getr 4 136 dX4_readParts_30 fl_X4_9 oc_at_141 (rf_4_0 oc_at_141) ?_
          obtain ⟨x6, qx6, hb⟩ := b1E hb
          refine mx_cVi [] [] 136 9 x6 dX4_readParts_33 cl_X4_67 im_X9_value cy_X9_value (oc_4_0 oc_at_141) rfl (Nat.le_of_ble_eq_true rfl) (by decide) (t_X9_value l E M2 qx6) ?_
          refine ex_istore (L2 := [some (.ref 141), some (.ref a1), some (.int a2), some (.int ((M a1 3) - 1)), some (.int i1), some (.int x6)]) dX4_readParts_36 (by decide) rfl ?_
          refine ex_iload dX4_readParts_38 rfl ?_
          refine ex_iload_n dX4_readParts_40 rfl ?_
          refine ex_icmp_ge 56 dX4_readParts_41 (by decide) (fun c7 => ?_) (fun c7 => ?_)
          · rw [if_pos c7] at hb
            refine ex_mskL [true, false, false, false, false, false] (L2 := [some (.ref 141), none, none, none, none, none]) rfl ?_
            cases hb
            cases (he _ rfl) <;> exact hx
          · rw [if_neg c7] at hb
            refine ex_aload_n dX4_readParts_44 rfl ?_
            refine ex_iload_n dX4_readParts_45 rfl ?_
            refine ex_iconst 1 dX4_readParts_46 kI_1 ?_
            refine ex_iload dX4_readParts_47 rfl ?_
            refine ex_iadd dX4_readParts_49 ?_
            obtain ⟨x8, qx8, hb⟩ := b1E hb
            refine mx_cVi [.int ((M a1 3) - 1), .int (1 + x6)] [] a1 8 x8 dX4_readParts_50 cl_X4_70 im_X8_at cy_X8_at ha1 rfl (Nat.le_of_ble_eq_true rfl) (by decide) (t_X8_at l E a1 ((M a1 3) - 1) (1 + x6) ha1 M2 qx8) ?_
            refine ex_if_le 65 dX4_readParts_53 (by decide) (fun c9 => ?_) (fun c9 => ?_)
            · rw [if_pos c9] at hb
              refine ex_iload dX4_readParts_65 rfl ?_
              refine ex_iconst 4 dX4_readParts_67 kI_4 ?_
              refine ex_icmp_ne 80 dX4_readParts_68 (by decide) (fun c10 => ?_) (fun c10 => ?_)
              · rw [if_neg c10] at hb
                refine ex_aload_n dX4_readParts_80 rfl ?_
                refine mx_getr 4 136 dX4_readParts_81 fl_X4_9 oc_at_141 (rf_4_0 oc_at_141) ?_
                obtain ⟨M11, eM11, hb⟩ := ltE hb
                refine mx_cVv [] [] 136 9 dX4_readParts_84 cl_X4_77 im_X9_take cy_X9_take (oc_4_0 oc_at_141) rfl (Nat.le_of_ble_eq_true rfl) (by decide) (t_X9_take l E M2 eM11.symm) ?_
                refine ex_aload_n dX4_readParts_87 rfl ?_
                refine ex_aload_n dX4_readParts_88 rfl ?_
                refine ex_iconst 1 dX4_readParts_89 kI_1 ?_
                refine ex_iload dX4_readParts_90 rfl ?_
                refine ex_iadd dX4_readParts_92 ?_
                refine ex_iconst 1 dX4_readParts_93 kI_1 ?_
                refine ex_bipush 99 dX4_readParts_94 kB_99 ?_
                obtain ⟨M12, x13, qx13, hb⟩ := b2E hb
                refine mx_cVi [.ref a1, .int (1 + x6), .int 1, .int 99] [] 141 4 x13 dX4_readParts_96 cl_X4_49 im_X4_takesNumber cy_X4_takesNumber oc_at_141 rfl (Nat.le_of_ble_eq_true rfl) (by decide) (t_X4_takesNumber l E a1 (1 + x6) 1 99 ha1 M11 qx13) ?_
                refine ex_if_ne 104 dX4_readParts_99 (by decide) (fun c14 => ?_) (fun c14 => ?_)
                · rw [if_neg c14] at hb
                  refine ex_iinc 1 (L2 := [some (.ref 141), some (.ref a1), some (.int a2), some (.int ((M a1 3) - 1)), some (.int (i1 + 1)), some (.int x6)]) dX4_readParts_104 rfl kI_1 (by decide) rfl ?_
                  refine ex_goto 10 dX4_readParts_107 (by decide) ?_
                  refine ex_mskL [true, true, true, true, true, false] (L2 := [some (.ref 141), some (.ref a1), some (.int a2), some (.int ((M a1 3) - 1)), some (.int (i1 + 1)), none]) rfl ?_
                  cases hb
                  exact hk ((i1 + 1), M12) rfl
                · rw [if_pos c14] at hb
                  refine ex_mskL [false, false, false, false, false, false] (L2 := [none, none, none, none, none, none]) rfl ?_
                  cases hb
                  cases (he _ rfl) <;> exact hx
              · rw [if_pos c10] at hb
                refine ex_mskL [true, false, false, false, false, false] (L2 := [some (.ref 141), none, none, none, none, none]) rfl ?_
                cases hb
                cases (he _ rfl) <;> exact hx
            · rw [if_neg c9] at hb
              refine ex_mskL [true, false, false, false, false, false] (L2 := [some (.ref 141), none, none, none, none, none]) rfl ?_
              cases hb
              cases (he _ rfl) <;> exact hx)
    exact key FU (0, M) hlq15
  · dsimp only at h
    have hx : XM l E (RX4, "readParts", cX4_readParts, 6) (some .boolean) 3 110 [none, none, none, none, none, none] [] u25 M' (some (.int r)) := by
      refine ex_iconst 1 dX4_readParts_110 kI_1 ?_
      cases h
      exact mx_reti .boolean dX4_readParts_111 ⟨rfl, by decide⟩
    clear h
    have key : ∀ (k : Nat) (s : Int32 × Mem), lp (fun s => w_X4_readParts_10 a1 a2 M s.1 s.2) k s = some (.inr (.inr (.inr u25))) → XM l E (RX4, "readParts", cX4_readParts, 6) (some .boolean) 3 10 [some (.ref 141), some (.ref a1), some (.int a2), some (.int ((M a1 3) - 1)), some (.int s.1), none] [] s.2 M' (some (.int r)) := lp_ind (P := fun (s : Int32 × Mem) => XM l E (RX4, "readParts", cX4_readParts, 6) (some .boolean) 3 10 [some (.ref 141), some (.ref a1), some (.int a2), some (.int ((M a1 3) - 1)), some (.int s.1), none] [] s.2 M' (some (.int r))) (fun s t hb hk he => by
      obtain ⟨i1, M2⟩ := s
      show XM l E (RX4, "readParts", cX4_readParts, 6) (some .boolean) 3 10 [some (.ref 141), some (.ref a1), some (.int a2), some (.int ((M a1 3) - 1)), some (.int i1), none] [] M2 M' (some (.int r))
      change w_X4_readParts_10 a1 a2 M i1 M2 = some t at hb
      unfold w_X4_readParts_10 at hb
      refine ex_iload dX4_readParts_10 rfl ?_
      refine ex_iconst 4 dX4_readParts_12 kI_4 ?_
      refine ex_icmp_gt 110 dX4_readParts_13 (by decide) (fun c3 => ?_) (fun c3 => ?_)
      · rw [if_pos c3] at hb
        refine ex_mskL [false, false, false, false, false, false] (L2 := [none, none, none, none, none, none]) rfl ?_
        cases hb
        cases (he _ rfl) <;> exact hx
      · rw [if_neg c3] at hb
        refine ex_aload_n dX4_readParts_16 rfl ?_
        refine mx_getr 4 136 dX4_readParts_17 fl_X4_9 oc_at_141 (rf_4_0 oc_at_141) ?_
        obtain ⟨x4, qx4, hb⟩ := b1E hb
        refine mx_cVi [] [] 136 9 x4 dX4_readParts_20 cl_X4_64 im_X9_type cy_X9_type (oc_4_0 oc_at_141) rfl (Nat.le_of_ble_eq_true rfl) (by decide) (t_X9_type l E M2 qx4) ?_
        refine ex_sipush 256 dX4_readParts_23 kS_256 ?_
        refine ex_icmp_ne 110 dX4_readParts_26 (by decide) (fun c5 => ?_) (fun c5 => ?_)
        · rw [if_neg c5] at hb
          refine ex_mskL [false, false, false, false, false, false] (L2 := [none, none, none, none, none, none]) rfl ?_
          cases hb
          cases (he _ rfl) <;> exact hx
        · rw [if_pos c5] at hb
          refine ex_aload_n dX4_readParts_29 rfl ?_
          refine mx_getr 4 136 dX4_readParts_30 fl_X4_9 oc_at_141 (rf_4_0 oc_at_141) ?_
          obtain ⟨x6, qx6, hb⟩ := b1E hb
          refine mx_cVi [] [] 136 9 x6 dX4_readParts_33 cl_X4_67 im_X9_value cy_X9_value (oc_4_0 oc_at_141) rfl (Nat.le_of_ble_eq_true rfl) (by decide) (t_X9_value l E M2 qx6) ?_
          refine ex_istore (L2 := [some (.ref 141), some (.ref a1), some (.int a2), some (.int ((M a1 3) - 1)), some (.int i1), some (.int x6)]) dX4_readParts_36 (by decide) rfl ?_
          refine ex_iload dX4_readParts_38 rfl ?_
          refine ex_iload_n dX4_readParts_40 rfl ?_
          refine ex_icmp_ge 56 dX4_readParts_41 (by decide) (fun c7 => ?_) (fun c7 => ?_)
          · rw [if_pos c7] at hb
            refine ex_mskL [true, false, false, false, false, false] (L2 := [some (.ref 141), none, none, none, none, none]) rfl ?_
            cases hb
            cases (he _ rfl) <;> exact hx
          · rw [if_neg c7] at hb
            refine ex_aload_n dX4_readParts_44 rfl ?_
            refine ex_iload_n dX4_readParts_45 rfl ?_
            refine ex_iconst 1 dX4_readParts_46 kI_1 ?_
            refine ex_iload dX4_readParts_47 rfl ?_
            refine ex_iadd dX4_readParts_49 ?_
            obtain ⟨x8, qx8, hb⟩ := b1E hb
            refine mx_cVi [.int ((M a1 3) - 1), .int (1 + x6)] [] a1 8 x8 dX4_readParts_50 cl_X4_70 im_X8_at cy_X8_at ha1 rfl (Nat.le_of_ble_eq_true rfl) (by decide) (t_X8_at l E a1 ((M a1 3) - 1) (1 + x6) ha1 M2 qx8) ?_
            refine ex_if_le 65 dX4_readParts_53 (by decide) (fun c9 => ?_) (fun c9 => ?_)
            · rw [if_pos c9] at hb
              refine ex_iload dX4_readParts_65 rfl ?_
              refine ex_iconst 4 dX4_readParts_67 kI_4 ?_
              refine ex_icmp_ne 80 dX4_readParts_68 (by decide) (fun c10 => ?_) (fun c10 => ?_)
              · rw [if_neg c10] at hb
                refine ex_aload_n dX4_readParts_80 rfl ?_
                refine mx_getr 4 136 dX4_readParts_81 fl_X4_9 oc_at_141 (rf_4_0 oc_at_141) ?_
                obtain ⟨M11, eM11, hb⟩ := ltE hb
                refine mx_cVv [] [] 136 9 dX4_readParts_84 cl_X4_77 im_X9_take cy_X9_take (oc_4_0 oc_at_141) rfl (Nat.le_of_ble_eq_true rfl) (by decide) (t_X9_take l E M2 eM11.symm) ?_
                refine ex_aload_n dX4_readParts_87 rfl ?_
                refine ex_aload_n dX4_readParts_88 rfl ?_
                refine ex_iconst 1 dX4_readParts_89 kI_1 ?_
                refine ex_iload dX4_readParts_90 rfl ?_
                refine ex_iadd dX4_readParts_92 ?_
                refine ex_iconst 1 dX4_readParts_93 kI_1 ?_
                refine ex_bipush 99 dX4_readParts_94 kB_99 ?_
                obtain ⟨M12, x13, qx13, hb⟩ := b2E hb
                refine mx_cVi [.ref a1, .int (1 + x6), .int 1, .int 99] [] 141 4 x13 dX4_readParts_96 cl_X4_49 im_X4_takesNumber cy_X4_takesNumber oc_at_141 rfl (Nat.le_of_ble_eq_true rfl) (by decide) (t_X4_takesNumber l E a1 (1 + x6) 1 99 ha1 M11 qx13) ?_
                refine ex_if_ne 104 dX4_readParts_99 (by decide) (fun c14 => ?_) (fun c14 => ?_)
                · rw [if_neg c14] at hb
                  refine ex_iinc 1 (L2 := [some (.ref 141), some (.ref a1), some (.int a2), some (.int ((M a1 3) - 1)), some (.int (i1 + 1)), some (.int x6)]) dX4_readParts_104 rfl kI_1 (by decide) rfl ?_
                  refine ex_goto 10 dX4_readParts_107 (by decide) ?_
                  refine ex_mskL [true, true, true, true, true, false] (L2 := [some (.ref 141), some (.ref a1), some (.int a2), some (.int ((M a1 3) - 1)), some (.int (i1 + 1)), none]) rfl ?_
                  cases hb
                  exact hk ((i1 + 1), M12) rfl
                · rw [if_pos c14] at hb
                  refine ex_mskL [false, false, false, false, false, false] (L2 := [none, none, none, none, none, none]) rfl ?_
                  cases hb
                  cases (he _ rfl) <;> exact hx
              · rw [if_pos c10] at hb
                refine ex_mskL [true, false, false, false, false, false] (L2 := [some (.ref 141), none, none, none, none, none]) rfl ?_
                cases hb
                cases (he _ rfl) <;> exact hx
            · rw [if_neg c9] at hb
              refine ex_mskL [true, false, false, false, false, false] (L2 := [some (.ref 141), none, none, none, none, none]) rfl ?_
              cases hb
              cases (he _ rfl) <;> exact hx)
    exact key FU (0, M) hlq15
def f_X4_readDish (a1 : Nat) (a2 : Int32) (M : Mem) : Option (Mem × Int32) :=
  b2 (f_X4_begins 322 a1 M) fun M1 x2 => if x2 = 0 then (some (M1, 0)) else (b2 (f_X4_takesNumber a1 0 1 99 M1) fun M4 x5 => if x5 = 0 then (some (M4, 0)) else (b2 (f_X4_readParts a1 a2 M4) fun M7 x8 => if x8 = 0 then (some (M7, 0)) else (b2 (f_X9_takes 59 M7) fun M10 x11 => if x11 = 0 then (some (M10, 0)) else (some (M10, 1)))))
set_option maxRecDepth 100000 in
set_option maxHeartbeats 4000000 in
theorem t_X4_readDish (l : Launch) (E : EV) (a1 : Nat) (a2 : Int32) (ha1 : oc a1 = some 8) (M : Mem) {M' : Mem} {r : Int32} (h : f_X4_readDish a1 a2 M = some (M', r)) : RunM l E yX4_readDish cX4_readDish 3 (some .boolean) 4 [.ref 141, .ref a1, .int a2] M M' (some (.int r)) := by
  refine RunM.of (by decide) (Nat.le_of_ble_eq_true rfl) ?_
  show XM l E (RX4, "readDish", cX4_readDish, 3) (some .boolean) 4 0 [some (.ref 141), some (.ref a1), some (.int a2)] [] M M' (some (.int r))
  unfold f_X4_readDish at h
  refine ex_aload_n dX4_readDish_0 rfl ?_
  refine ex_sipush 322 dX4_readDish_1 kS_322 ?_
  refine ex_aload_n dX4_readDish_4 rfl ?_
  obtain ⟨M1, x2, qx2, h⟩ := b2E h
  refine mx_cVi [.int 322, .ref a1] [] 141 4 x2 dX4_readDish_5 cl_X4_45 im_X4_begins cy_X4_begins oc_at_141 rfl (Nat.le_of_ble_eq_true rfl) (by decide) (t_X4_begins l E 322 a1 ha1 M qx2) ?_
  refine ex_if_eq 48 dX4_readDish_8 (by decide) (fun c3 => ?_) (fun c3 => ?_)
  · rw [if_pos c3] at h
    refine ex_iconst 0 dX4_readDish_48 kI_0 ?_
    cases h
    exact mx_reti .boolean dX4_readDish_49 ⟨rfl, by decide⟩
  · rw [if_neg c3] at h
    refine ex_aload_n dX4_readDish_11 rfl ?_
    refine ex_aload_n dX4_readDish_12 rfl ?_
    refine ex_iconst 0 dX4_readDish_13 kI_0 ?_
    refine ex_iconst 1 dX4_readDish_14 kI_1 ?_
    refine ex_bipush 99 dX4_readDish_15 kB_99 ?_
    obtain ⟨M4, x5, qx5, h⟩ := b2E h
    refine mx_cVi [.ref a1, .int 0, .int 1, .int 99] [] 141 4 x5 dX4_readDish_17 cl_X4_49 im_X4_takesNumber cy_X4_takesNumber oc_at_141 rfl (Nat.le_of_ble_eq_true rfl) (by decide) (t_X4_takesNumber l E a1 0 1 99 ha1 M1 qx5) ?_
    refine ex_if_eq 48 dX4_readDish_20 (by decide) (fun c6 => ?_) (fun c6 => ?_)
    · rw [if_pos c6] at h
      refine ex_iconst 0 dX4_readDish_48 kI_0 ?_
      cases h
      exact mx_reti .boolean dX4_readDish_49 ⟨rfl, by decide⟩
    · rw [if_neg c6] at h
      refine ex_aload_n dX4_readDish_23 rfl ?_
      refine ex_aload_n dX4_readDish_24 rfl ?_
      refine ex_iload_n dX4_readDish_25 rfl ?_
      obtain ⟨M7, x8, qx8, h⟩ := b2E h
      refine mx_cVi [.ref a1, .int a2] [] 141 4 x8 dX4_readDish_26 cl_X4_57 im_X4_readParts cy_X4_readParts oc_at_141 rfl (Nat.le_of_ble_eq_true rfl) (by decide) (t_X4_readParts l E a1 a2 ha1 M4 qx8) ?_
      refine ex_if_eq 48 dX4_readDish_29 (by decide) (fun c9 => ?_) (fun c9 => ?_)
      · rw [if_pos c9] at h
        refine ex_iconst 0 dX4_readDish_48 kI_0 ?_
        cases h
        exact mx_reti .boolean dX4_readDish_49 ⟨rfl, by decide⟩
      · rw [if_neg c9] at h
        refine ex_aload_n dX4_readDish_32 rfl ?_
        refine mx_getr 4 136 dX4_readDish_33 fl_X4_9 oc_at_141 (rf_4_0 oc_at_141) ?_
        refine ex_bipush 59 dX4_readDish_36 kB_59 ?_
        obtain ⟨M10, x11, qx11, h⟩ := b2E h
        refine mx_cVi [.int 59] [] 136 9 x11 dX4_readDish_38 cl_X4_53 im_X9_takes cy_X9_takes (oc_4_0 oc_at_141) rfl (Nat.le_of_ble_eq_true rfl) (by decide) (t_X9_takes l E 59 M7 qx11) ?_
        refine ex_if_eq 48 dX4_readDish_41 (by decide) (fun c12 => ?_) (fun c12 => ?_)
        · rw [if_pos c12] at h
          refine ex_iconst 0 dX4_readDish_48 kI_0 ?_
          cases h
          exact mx_reti .boolean dX4_readDish_49 ⟨rfl, by decide⟩
        · rw [if_neg c12] at h
          refine ex_iconst 1 dX4_readDish_44 kI_1 ?_
          refine ex_goto 49 dX4_readDish_45 (by decide) ?_
          cases h
          exact mx_reti .boolean dX4_readDish_49 ⟨rfl, by decide⟩
def f_X4_readLine (a1 : Int32) (a2 : Nat) (a3 : Int32) (M : Mem) : Option (Mem × Int32) :=
  if a1.toInt < 0 ∨ 3 < a1.toInt then (b2 (f_X4_readDish a2 a3 M) fun M2 x3 => b1 (gz x3) fun x4 => some (M2, x4)) else if a1 = 0 then (b2 (f_X4_readKind a2 M) fun M5 x6 => b1 (gz x6) fun x7 => some (M5, x7)) else if a1 = 1 then (b2 (f_X4_readDish a2 a3 M) fun M9 x10 => b1 (gz x10) fun x11 => some (M9, x11)) else if a1 = 2 then (b2 (f_X4_readFeast a2 a3 M) fun M13 x14 => b1 (gz x14) fun x15 => some (M13, x15)) else if a1 = 3 then (b2 (f_X4_readWant a2 a3 M) fun M17 x18 => b1 (gz x18) fun x19 => some (M17, x19)) else none
set_option maxRecDepth 100000 in
set_option maxHeartbeats 4000000 in
theorem t_X4_readLine (l : Launch) (E : EV) (a1 : Int32) (a2 : Nat) (a3 : Int32) (ha2 : oc a2 = some 8) (M : Mem) {M' : Mem} {r : Int32} (h : f_X4_readLine a1 a2 a3 M = some (M', r)) : RunM l E yX4_readLine cX4_readLine 4 (some .boolean) 5 [.ref 141, .int a1, .ref a2, .int a3] M M' (some (.int r)) := by
  refine RunM.of (by decide) (Nat.le_of_ble_eq_true rfl) ?_
  show XM l E (RX4, "readLine", cX4_readLine, 4) (some .boolean) 5 0 [some (.ref 141), some (.int a1), some (.ref a2), some (.int a3)] [] M M' (some (.int r))
  unfold f_X4_readLine at h
  refine ex_iload_n dX4_readLine_0 rfl ?_
  by_cases c1 : a1.toInt < 0 ∨ 3 < a1.toInt
  · rw [if_pos c1] at h
    refine ex_tswO 52 dX4_readLine_1 c1 (by decide) ?_
    refine ex_aload_n dX4_readLine_52 rfl ?_
    refine ex_aload_n dX4_readLine_53 rfl ?_
    refine ex_iload_n dX4_readLine_54 rfl ?_
    obtain ⟨M2, x3, qx3, h⟩ := b2E h
    refine mx_cVi [.ref a2, .int a3] [] 141 4 x3 dX4_readLine_55 cl_X4_42 im_X4_readDish cy_X4_readDish oc_at_141 rfl (Nat.le_of_ble_eq_true rfl) (by decide) (t_X4_readDish l E a2 a3 ha2 M qx3) ?_
    obtain ⟨x4, qx4, h⟩ := b1E h
    obtain ⟨ex4, nx4⟩ := gzE qx4
    rw [← ex4] at h
    cases h
    exact mx_reti .boolean dX4_readLine_58 ⟨rfl, nx4⟩
  rw [if_neg c1] at h
  by_cases c8 : a1 = 0
  · rw [if_pos c8] at h
    refine ex_tswI 0 (31) 32 dX4_readLine_1 c8 (by decide) (by decide) ?_
    refine ex_aload_n dX4_readLine_32 rfl ?_
    refine ex_aload_n dX4_readLine_33 rfl ?_
    obtain ⟨M5, x6, qx6, h⟩ := b2E h
    refine mx_cVi [.ref a2] [] 141 4 x6 dX4_readLine_34 cl_X4_31 im_X4_readKind cy_X4_readKind oc_at_141 rfl (Nat.le_of_ble_eq_true rfl) (by decide) (t_X4_readKind l E a2 ha2 M qx6) ?_
    obtain ⟨x7, qx7, h⟩ := b1E h
    obtain ⟨ex7, nx7⟩ := gzE qx7
    rw [← ex7] at h
    cases h
    exact mx_reti .boolean dX4_readLine_37 ⟨rfl, nx7⟩
  rw [if_neg c8] at h
  by_cases c12 : a1 = 1
  · rw [if_pos c12] at h
    refine ex_tswI 1 (51) 52 dX4_readLine_1 c12 (by decide) (by decide) ?_
    refine ex_aload_n dX4_readLine_52 rfl ?_
    refine ex_aload_n dX4_readLine_53 rfl ?_
    refine ex_iload_n dX4_readLine_54 rfl ?_
    obtain ⟨M9, x10, qx10, h⟩ := b2E h
    refine mx_cVi [.ref a2, .int a3] [] 141 4 x10 dX4_readLine_55 cl_X4_42 im_X4_readDish cy_X4_readDish oc_at_141 rfl (Nat.le_of_ble_eq_true rfl) (by decide) (t_X4_readDish l E a2 a3 ha2 M qx10) ?_
    obtain ⟨x11, qx11, h⟩ := b1E h
    obtain ⟨ex11, nx11⟩ := gzE qx11
    rw [← ex11] at h
    cases h
    exact mx_reti .boolean dX4_readLine_58 ⟨rfl, nx11⟩
  rw [if_neg c12] at h
  by_cases c16 : a1 = 2
  · rw [if_pos c16] at h
    refine ex_tswI 2 (37) 38 dX4_readLine_1 c16 (by decide) (by decide) ?_
    refine ex_aload_n dX4_readLine_38 rfl ?_
    refine ex_aload_n dX4_readLine_39 rfl ?_
    refine ex_iload_n dX4_readLine_40 rfl ?_
    obtain ⟨M13, x14, qx14, h⟩ := b2E h
    refine mx_cVi [.ref a2, .int a3] [] 141 4 x14 dX4_readLine_41 cl_X4_35 im_X4_readFeast cy_X4_readFeast oc_at_141 rfl (Nat.le_of_ble_eq_true rfl) (by decide) (t_X4_readFeast l E a2 a3 ha2 M qx14) ?_
    obtain ⟨x15, qx15, h⟩ := b1E h
    obtain ⟨ex15, nx15⟩ := gzE qx15
    rw [← ex15] at h
    cases h
    exact mx_reti .boolean dX4_readLine_44 ⟨rfl, nx15⟩
  rw [if_neg c16] at h
  by_cases c20 : a1 = 3
  · rw [if_pos c20] at h
    refine ex_tswI 3 (44) 45 dX4_readLine_1 c20 (by decide) (by decide) ?_
    refine ex_aload_n dX4_readLine_45 rfl ?_
    refine ex_aload_n dX4_readLine_46 rfl ?_
    refine ex_iload_n dX4_readLine_47 rfl ?_
    obtain ⟨M17, x18, qx18, h⟩ := b2E h
    refine mx_cVi [.ref a2, .int a3] [] 141 4 x18 dX4_readLine_48 cl_X4_39 im_X4_readWant cy_X4_readWant oc_at_141 rfl (Nat.le_of_ble_eq_true rfl) (by decide) (t_X4_readWant l E a2 a3 ha2 M qx18) ?_
    obtain ⟨x19, qx19, h⟩ := b1E h
    obtain ⟨ex19, nx19⟩ := gzE qx19
    rw [← ex19] at h
    cases h
    exact mx_reti .boolean dX4_readLine_51 ⟨rfl, nx19⟩
  rw [if_neg c20] at h
  cases h
def w_X4_read_8 (a1 : Int32) (a2 : Nat) (a3 : Int32) (i2 : Int32) (M3 : Mem) : Option ((Int32 × Mem) ⊕ ((Mem) ⊕ (Mem))) :=
  if 12 < i2 then (some (.inr (.inr M3))) else (b1 (f_X9_atEnd M3) fun x5 => if x5 = 0 then (b2 (f_X4_readLine a1 a2 a3 M3) fun M7 x8 => if x8 = 0 then (some (.inr (.inl M7))) else (some (.inl ((i2 + 1), M7)))) else (some (.inr (.inr M3))))
def f_X4_read (a1 : Int32) (a2 : Nat) (a3 : Int32) (M : Mem) : Option (Mem × Int32) :=
  lt (f_X8_empty a2 M) fun p1 => b1 (lp (fun s => w_X4_read_8 a1 a2 a3 s.1 s.2) FU (0, p1.1)) fun q10 => match q10 with | .inl u11 => (some (u11, 0)) | .inr u12 => (some (u12, 1))
set_option maxRecDepth 100000 in
set_option maxHeartbeats 4000000 in
theorem t_X4_read (l : Launch) (E : EV) (a1 : Int32) (a2 : Nat) (a3 : Int32) (ha2 : oc a2 = some 8) (M : Mem) {M' : Mem} {r : Int32} (h : f_X4_read a1 a2 a3 M = some (M', r)) : RunM l E yX4_read cX4_read 5 (some .boolean) 6 [.ref 141, .int a1, .ref a2, .int a3] M M' (some (.int r)) := by
  refine RunM.of (by decide) (Nat.le_of_ble_eq_true rfl) ?_
  show XM l E (RX4, "read", cX4_read, 5) (some .boolean) 6 0 [some (.ref 141), some (.int a1), some (.ref a2), some (.int a3), none] [] M M' (some (.int r))
  unfold f_X4_read at h
  refine ex_aload_n dX4_read_0 rfl ?_
  obtain ⟨p1, ep1, h⟩ := ltE h
  refine mx_cVi [] [] a2 8 p1.2 dX4_read_1 cl_X4_15 im_X8_empty cy_X8_empty ha2 rfl (Nat.le_of_ble_eq_true rfl) (by decide) (t_X8_empty l E a2 ha2 M ep1.symm) ?_
  refine ex_pop dX4_read_4 rfl ?_
  refine ex_iconst 0 dX4_read_5 kI_0 ?_
  refine ex_istore (L2 := [some (.ref 141), some (.int a1), some (.ref a2), some (.int a3), some (.int 0)]) dX4_read_6 (by decide) rfl ?_
  refine ex_mskL [true, true, true, true, true] (L2 := [some (.ref 141), some (.int a1), some (.ref a2), some (.int a3), some (.int 0)]) rfl ?_
  obtain ⟨q10, hlq10, h⟩ := b1E h
  rcases q10 with u11 | u12
  · dsimp only at h
    have hx : XM l E (RX4, "read", cX4_read, 5) (some .boolean) 6 35 [none, none, none, none, none] [] u11 M' (some (.int r)) := by
      refine ex_iconst 0 dX4_read_35 kI_0 ?_
      cases h
      exact mx_reti .boolean dX4_read_36 ⟨rfl, by decide⟩
    clear h
    have key : ∀ (k : Nat) (s : Int32 × Mem), lp (fun s => w_X4_read_8 a1 a2 a3 s.1 s.2) k s = some (.inl u11) → XM l E (RX4, "read", cX4_read, 5) (some .boolean) 6 8 [some (.ref 141), some (.int a1), some (.ref a2), some (.int a3), some (.int s.1)] [] s.2 M' (some (.int r)) := lp_ind (P := fun (s : Int32 × Mem) => XM l E (RX4, "read", cX4_read, 5) (some .boolean) 6 8 [some (.ref 141), some (.int a1), some (.ref a2), some (.int a3), some (.int s.1)] [] s.2 M' (some (.int r))) (fun s t hb hk he => by
      obtain ⟨i2, M3⟩ := s
      show XM l E (RX4, "read", cX4_read, 5) (some .boolean) 6 8 [some (.ref 141), some (.int a1), some (.ref a2), some (.int a3), some (.int i2)] [] M3 M' (some (.int r))
      change w_X4_read_8 a1 a2 a3 i2 M3 = some t at hb
      unfold w_X4_read_8 at hb
      refine ex_iload dX4_read_8 rfl ?_
      refine ex_bipush 12 dX4_read_10 kB_12 ?_
      refine ex_icmp_gt 43 dX4_read_12 (by decide) (fun c4 => ?_) (fun c4 => ?_)
      · rw [if_pos c4] at hb
        refine ex_mskL [false, false, false, false, false] (L2 := [none, none, none, none, none]) rfl ?_
        cases hb
        cases (he _ rfl) <;> exact hx
      · rw [if_neg c4] at hb
        refine ex_aload_n dX4_read_15 rfl ?_
        refine mx_getr 4 136 dX4_read_16 fl_X4_9 oc_at_141 (rf_4_0 oc_at_141) ?_
        obtain ⟨x5, qx5, hb⟩ := b1E hb
        refine mx_cVi [] [] 136 9 x5 dX4_read_19 cl_X4_21 im_X9_atEnd cy_X9_atEnd (oc_4_0 oc_at_141) rfl (Nat.le_of_ble_eq_true rfl) (by decide) (t_X9_atEnd l E M3 qx5) ?_
        refine ex_if_ne 43 dX4_read_22 (by decide) (fun c6 => ?_) (fun c6 => ?_)
        · rw [if_neg c6] at hb
          refine ex_mskL [false, false, false, false, false] (L2 := [none, none, none, none, none]) rfl ?_
          cases hb
          cases (he _ rfl) <;> exact hx
        · rw [if_pos c6] at hb
          refine ex_aload_n dX4_read_25 rfl ?_
          refine ex_iload_n dX4_read_26 rfl ?_
          refine ex_aload_n dX4_read_27 rfl ?_
          refine ex_iload_n dX4_read_28 rfl ?_
          obtain ⟨M7, x8, qx8, hb⟩ := b2E hb
          refine mx_cVi [.int a1, .ref a2, .int a3] [] 141 4 x8 dX4_read_29 cl_X4_27 im_X4_readLine cy_X4_readLine oc_at_141 rfl (Nat.le_of_ble_eq_true rfl) (by decide) (t_X4_readLine l E a1 a2 a3 ha2 M3 qx8) ?_
          refine ex_if_ne 37 dX4_read_32 (by decide) (fun c9 => ?_) (fun c9 => ?_)
          · rw [if_neg c9] at hb
            refine ex_iinc 1 (L2 := [some (.ref 141), some (.int a1), some (.ref a2), some (.int a3), some (.int (i2 + 1))]) dX4_read_37 rfl kI_1 (by decide) rfl ?_
            refine ex_goto 8 dX4_read_40 (by decide) ?_
            refine ex_mskL [true, true, true, true, true] (L2 := [some (.ref 141), some (.int a1), some (.ref a2), some (.int a3), some (.int (i2 + 1))]) rfl ?_
            cases hb
            exact hk ((i2 + 1), M7) rfl
          · rw [if_pos c9] at hb
            refine ex_mskL [false, false, false, false, false] (L2 := [none, none, none, none, none]) rfl ?_
            cases hb
            cases (he _ rfl) <;> exact hx)
    exact key FU (0, p1.1) hlq10
  · dsimp only at h
    have hx : XM l E (RX4, "read", cX4_read, 5) (some .boolean) 6 43 [none, none, none, none, none] [] u12 M' (some (.int r)) := by
      refine ex_iconst 1 dX4_read_43 kI_1 ?_
      cases h
      exact mx_reti .boolean dX4_read_44 ⟨rfl, by decide⟩
    clear h
    have key : ∀ (k : Nat) (s : Int32 × Mem), lp (fun s => w_X4_read_8 a1 a2 a3 s.1 s.2) k s = some (.inr u12) → XM l E (RX4, "read", cX4_read, 5) (some .boolean) 6 8 [some (.ref 141), some (.int a1), some (.ref a2), some (.int a3), some (.int s.1)] [] s.2 M' (some (.int r)) := lp_ind (P := fun (s : Int32 × Mem) => XM l E (RX4, "read", cX4_read, 5) (some .boolean) 6 8 [some (.ref 141), some (.int a1), some (.ref a2), some (.int a3), some (.int s.1)] [] s.2 M' (some (.int r))) (fun s t hb hk he => by
      obtain ⟨i2, M3⟩ := s
      show XM l E (RX4, "read", cX4_read, 5) (some .boolean) 6 8 [some (.ref 141), some (.int a1), some (.ref a2), some (.int a3), some (.int i2)] [] M3 M' (some (.int r))
      change w_X4_read_8 a1 a2 a3 i2 M3 = some t at hb
      unfold w_X4_read_8 at hb
      refine ex_iload dX4_read_8 rfl ?_
      refine ex_bipush 12 dX4_read_10 kB_12 ?_
      refine ex_icmp_gt 43 dX4_read_12 (by decide) (fun c4 => ?_) (fun c4 => ?_)
      · rw [if_pos c4] at hb
        refine ex_mskL [false, false, false, false, false] (L2 := [none, none, none, none, none]) rfl ?_
        cases hb
        cases (he _ rfl) <;> exact hx
      · rw [if_neg c4] at hb
        refine ex_aload_n dX4_read_15 rfl ?_
        refine mx_getr 4 136 dX4_read_16 fl_X4_9 oc_at_141 (rf_4_0 oc_at_141) ?_
        obtain ⟨x5, qx5, hb⟩ := b1E hb
        refine mx_cVi [] [] 136 9 x5 dX4_read_19 cl_X4_21 im_X9_atEnd cy_X9_atEnd (oc_4_0 oc_at_141) rfl (Nat.le_of_ble_eq_true rfl) (by decide) (t_X9_atEnd l E M3 qx5) ?_
        refine ex_if_ne 43 dX4_read_22 (by decide) (fun c6 => ?_) (fun c6 => ?_)
        · rw [if_neg c6] at hb
          refine ex_mskL [false, false, false, false, false] (L2 := [none, none, none, none, none]) rfl ?_
          cases hb
          cases (he _ rfl) <;> exact hx
        · rw [if_pos c6] at hb
          refine ex_aload_n dX4_read_25 rfl ?_
          refine ex_iload_n dX4_read_26 rfl ?_
          refine ex_aload_n dX4_read_27 rfl ?_
          refine ex_iload_n dX4_read_28 rfl ?_
          obtain ⟨M7, x8, qx8, hb⟩ := b2E hb
          refine mx_cVi [.int a1, .ref a2, .int a3] [] 141 4 x8 dX4_read_29 cl_X4_27 im_X4_readLine cy_X4_readLine oc_at_141 rfl (Nat.le_of_ble_eq_true rfl) (by decide) (t_X4_readLine l E a1 a2 a3 ha2 M3 qx8) ?_
          refine ex_if_ne 37 dX4_read_32 (by decide) (fun c9 => ?_) (fun c9 => ?_)
          · rw [if_neg c9] at hb
            refine ex_iinc 1 (L2 := [some (.ref 141), some (.int a1), some (.ref a2), some (.int a3), some (.int (i2 + 1))]) dX4_read_37 rfl kI_1 (by decide) rfl ?_
            refine ex_goto 8 dX4_read_40 (by decide) ?_
            refine ex_mskL [true, true, true, true, true] (L2 := [some (.ref 141), some (.int a1), some (.ref a2), some (.int a3), some (.int (i2 + 1))]) rfl ?_
            cases hb
            exact hk ((i2 + 1), M7) rfl
          · rw [if_pos c9] at hb
            refine ex_mskL [false, false, false, false, false] (L2 := [none, none, none, none, none]) rfl ?_
            cases hb
            cases (he _ rfl) <;> exact hx)
    exact key FU (0, p1.1) hlq10
def f_X8_copyFrom (o : Nat) (a1 : Nat) (M : Mem) : Option (Mem) :=
  if (M a1 1) = (M o 1) then (b1 (ln (o + 1)) fun x2 => if x2 < ((M a1 3) * (M a1 1)) then (some M) else (b1 (ln (a1 + 1)) fun x4 => if ((M a1 3) * (M a1 1)) ≤ x4 then (b1 (cpy M (a1 + 1) 0 (o + 1) 0 ((M a1 3) * (M a1 1))) fun M6 => lt (up2 M6 o 3 (M6 a1 3)) fun M7 => some M7) else (some M))) else (some M)
set_option maxRecDepth 100000 in
set_option maxHeartbeats 4000000 in
theorem t_X8_copyFrom (l : Launch) (E : EV) (o : Nat) (a1 : Nat) (ho : oc o = some 8) (ha1 : oc a1 = some 8) (M : Mem) {M' : Mem} (h : f_X8_copyFrom o a1 M = some M') : RunM l E yX8_copyFrom cX8_copyFrom 3 none 1 [.ref o, .ref a1] M M' none := by
  refine RunM.of (by decide) (Nat.le_of_ble_eq_true rfl) ?_
  show XM l E (RX8, "copyFrom", cX8_copyFrom, 3) none 1 0 [some (.ref o), some (.ref a1), none] [] M M' none
  unfold f_X8_copyFrom at h
  refine ex_aload_n dX8_copyFrom_0 rfl ?_
  refine mx_geti 8 dX8_copyFrom_1 fl_X8_22 ha1 (isi_8_3 ha1) ?_
  refine ex_aload_n dX8_copyFrom_4 rfl ?_
  refine mx_geti 8 dX8_copyFrom_5 fl_X8_15 ha1 (isi_8_1 ha1) ?_
  refine ex_imul dX8_copyFrom_8 ?_
  refine ex_istore_n (L2 := [some (.ref o), some (.ref a1), some (.int ((M a1 3) * (M a1 1)))]) dX8_copyFrom_9 (by decide) rfl ?_
  refine ex_aload_n dX8_copyFrom_10 rfl ?_
  refine mx_geti 8 dX8_copyFrom_11 fl_X8_15 ha1 (isi_8_1 ha1) ?_
  refine ex_aload_n dX8_copyFrom_14 rfl ?_
  refine mx_geti 8 dX8_copyFrom_15 fl_X8_15 ho (isi_8_1 ho) ?_
  refine ex_icmp_ne 39 dX8_copyFrom_18 (by decide) (fun c1 => ?_) (fun c1 => ?_)
  · rw [if_neg c1] at h
    cases h
    exact mx_retv dX8_copyFrom_39 rfl
  · rw [if_pos c1] at h
    refine ex_iload_n dX8_copyFrom_21 rfl ?_
    refine ex_aload_n dX8_copyFrom_22 rfl ?_
    refine mx_getr 8 (o + 1) dX8_copyFrom_23 fl_X8_18 ho (rf_8_2 ho) ?_
    obtain ⟨x2, qx2, h⟩ := b1E h
    refine mx_alen x2 dX8_copyFrom_26 qx2 ?_
    refine ex_icmp_gt 39 dX8_copyFrom_27 (by decide) (fun c3 => ?_) (fun c3 => ?_)
    · rw [if_pos c3] at h
      cases h
      exact mx_retv dX8_copyFrom_39 rfl
    · rw [if_neg c3] at h
      refine ex_iload_n dX8_copyFrom_30 rfl ?_
      refine ex_aload_n dX8_copyFrom_31 rfl ?_
      refine mx_getr 8 (a1 + 1) dX8_copyFrom_32 fl_X8_18 ha1 (rf_8_2 ha1) ?_
      obtain ⟨x4, qx4, h⟩ := b1E h
      refine mx_alen x4 dX8_copyFrom_35 qx4 ?_
      refine ex_icmp_le 40 dX8_copyFrom_36 (by decide) (fun c5 => ?_) (fun c5 => ?_)
      · rw [if_pos c5] at h
        refine ex_aload_n dX8_copyFrom_40 rfl ?_
        refine mx_getr 8 (a1 + 1) dX8_copyFrom_41 fl_X8_18 ha1 (rf_8_2 ha1) ?_
        refine ex_iconst 0 dX8_copyFrom_44 kI_0 ?_
        refine ex_aload_n dX8_copyFrom_45 rfl ?_
        refine mx_getr 8 (o + 1) dX8_copyFrom_46 fl_X8_18 ho (rf_8_2 ho) ?_
        refine ex_iconst 0 dX8_copyFrom_49 kI_0 ?_
        refine ex_iload_n dX8_copyFrom_50 rfl ?_
        obtain ⟨M6, qM6, h⟩ := b1E h
        refine mx_copy M6 dX8_copyFrom_51 (tb (i := 538) (by decide +kernel)) ac_nat ac_sta ac_ini (by decide) (Nat.le_of_ble_eq_true rfl) qM6 ?_
        refine ex_aload_n dX8_copyFrom_54 rfl ?_
        refine ex_aload_n dX8_copyFrom_55 rfl ?_
        refine mx_geti 8 dX8_copyFrom_56 fl_X8_22 ha1 (isi_8_3 ha1) ?_
        obtain ⟨M7, eM7, h⟩ := ltE h
        refine mx_puti 8 dX8_copyFrom_59 fl_X8_22 rfl ⟨rfl, rfl⟩ ho (isi_8_3 ho) ?_
        rw [← eM7]
        cases h
        exact mx_retv dX8_copyFrom_62 rfl
      · rw [if_neg c5] at h
        cases h
        exact mx_retv dX8_copyFrom_39 rfl
def f_X5_copyFrom (o : Nat) (a1 : Nat) (M : Mem) : Option (Mem) :=
  b1 (f_X8_copyFrom (o + 1) (a1 + 1) M) fun M1 => b1 (f_X8_copyFrom (o + 3) (a1 + 3) M1) fun M2 => b1 (f_X8_copyFrom (o + 5) (a1 + 5) M2) fun M3 => b1 (f_X8_copyFrom (o + 7) (a1 + 7) M3) fun M4 => some M4
set_option maxRecDepth 100000 in
set_option maxHeartbeats 4000000 in
theorem t_X5_copyFrom (l : Launch) (E : EV) (o : Nat) (a1 : Nat) (ho : oc o = some 5) (ha1 : oc a1 = some 5) (M : Mem) {M' : Mem} (h : f_X5_copyFrom o a1 M = some M') : RunM l E yX5_copyFrom cX5_copyFrom 2 none 2 [.ref o, .ref a1] M M' none := by
  refine RunM.of (by decide) (Nat.le_of_ble_eq_true rfl) ?_
  show XM l E (RX5, "copyFrom", cX5_copyFrom, 2) none 2 0 [some (.ref o), some (.ref a1)] [] M M' none
  unfold f_X5_copyFrom at h
  refine ex_aload_n dX5_copyFrom_0 rfl ?_
  refine mx_getr 5 (o + 1) dX5_copyFrom_1 fl_X5_16 ho (rf_5_0 ho) ?_
  refine ex_aload_n dX5_copyFrom_4 rfl ?_
  refine mx_getr 5 (a1 + 1) dX5_copyFrom_5 fl_X5_16 ha1 (rf_5_0 ha1) ?_
  obtain ⟨M1, qM1, h⟩ := b1E h
  refine mx_cVv [.ref (a1 + 1)] [] (o + 1) 8 dX5_copyFrom_8 cl_X5_38 im_X8_copyFrom cy_X8_copyFrom (oc_5_0 ho) rfl (Nat.le_of_ble_eq_true rfl) (by decide) (t_X8_copyFrom l E (o + 1) (a1 + 1) (oc_5_0 ho) (oc_5_0 ha1) M qM1) ?_
  refine ex_aload_n dX5_copyFrom_11 rfl ?_
  refine mx_getr 5 (o + 3) dX5_copyFrom_12 fl_X5_20 ho (rf_5_1 ho) ?_
  refine ex_aload_n dX5_copyFrom_15 rfl ?_
  refine mx_getr 5 (a1 + 3) dX5_copyFrom_16 fl_X5_20 ha1 (rf_5_1 ha1) ?_
  obtain ⟨M2, qM2, h⟩ := b1E h
  refine mx_cVv [.ref (a1 + 3)] [] (o + 3) 8 dX5_copyFrom_19 cl_X5_38 im_X8_copyFrom cy_X8_copyFrom (oc_5_1 ho) rfl (Nat.le_of_ble_eq_true rfl) (by decide) (t_X8_copyFrom l E (o + 3) (a1 + 3) (oc_5_1 ho) (oc_5_1 ha1) M1 qM2) ?_
  refine ex_aload_n dX5_copyFrom_22 rfl ?_
  refine mx_getr 5 (o + 5) dX5_copyFrom_23 fl_X5_23 ho (rf_5_2 ho) ?_
  refine ex_aload_n dX5_copyFrom_26 rfl ?_
  refine mx_getr 5 (a1 + 5) dX5_copyFrom_27 fl_X5_23 ha1 (rf_5_2 ha1) ?_
  obtain ⟨M3, qM3, h⟩ := b1E h
  refine mx_cVv [.ref (a1 + 5)] [] (o + 5) 8 dX5_copyFrom_30 cl_X5_38 im_X8_copyFrom cy_X8_copyFrom (oc_5_2 ho) rfl (Nat.le_of_ble_eq_true rfl) (by decide) (t_X8_copyFrom l E (o + 5) (a1 + 5) (oc_5_2 ho) (oc_5_2 ha1) M2 qM3) ?_
  refine ex_aload_n dX5_copyFrom_33 rfl ?_
  refine mx_getr 5 (o + 7) dX5_copyFrom_34 fl_X5_26 ho (rf_5_3 ho) ?_
  refine ex_aload_n dX5_copyFrom_37 rfl ?_
  refine mx_getr 5 (a1 + 7) dX5_copyFrom_38 fl_X5_26 ha1 (rf_5_3 ha1) ?_
  obtain ⟨M4, qM4, h⟩ := b1E h
  refine mx_cVv [.ref (a1 + 7)] [] (o + 7) 8 dX5_copyFrom_41 cl_X5_38 im_X8_copyFrom cy_X8_copyFrom (oc_5_3 ho) rfl (Nat.le_of_ble_eq_true rfl) (by decide) (t_X8_copyFrom l E (o + 7) (a1 + 7) (oc_5_3 ho) (oc_5_3 ha1) M3 qM4) ?_
  cases h
  exact mx_retv dX5_copyFrom_44 rfl
def f_X5_worthWith (o : Nat) (a1 : Int32) (a2 : Int32) (M : Mem) : Option (Int32) :=
  b1 (f_X8_at (o + 1) a1 0 M) fun x1 => if (a1 < 0 ∨ (6 < a1 ∨ ((a2 - x1) < 0 ∨ ¬ ((a2 - x1) ≤ 99)))) then (some (-1)) else (b1 (f_X8_at (o + 1) a1 1 M) fun x7 => b1 (rr (o + 9) a1) fun r8 => b1 (rd M r8 (a2 - x1)) fun x9 => some (x7 + x9))
set_option maxRecDepth 100000 in
set_option maxHeartbeats 4000000 in
theorem t_X5_worthWith (l : Launch) (E : EV) (o : Nat) (a1 : Int32) (a2 : Int32) (ho : oc o = some 5) (M : Mem) {r : Int32} (h : f_X5_worthWith o a1 a2 M = some r) : RunM l E yX5_worthWith cX5_worthWith 4 (some .int) 2 [.ref o, .int a1, .int a2] M M (some (.int r)) := by
  refine RunM.of (by decide) (Nat.le_of_ble_eq_true rfl) ?_
  show XM l E (RX5, "worthWith", cX5_worthWith, 4) (some .int) 2 0 [some (.ref o), some (.int a1), some (.int a2), none] [] M M (some (.int r))
  unfold f_X5_worthWith at h
  refine ex_iload_n dX5_worthWith_0 rfl ?_
  refine ex_aload_n dX5_worthWith_1 rfl ?_
  refine mx_getr 5 (o + 1) dX5_worthWith_2 fl_X5_16 ho (rf_5_0 ho) ?_
  refine ex_iload_n dX5_worthWith_5 rfl ?_
  refine ex_iconst 0 dX5_worthWith_6 kI_0 ?_
  obtain ⟨x1, qx1, h⟩ := b1E h
  refine mx_cVi [.int a1, .int 0] [.int a2] (o + 1) 8 x1 dX5_worthWith_7 cl_X5_58 im_X8_at cy_X8_at (oc_5_0 ho) rfl (Nat.le_of_ble_eq_true rfl) (by decide) (t_X8_at l E (o + 1) a1 0 (oc_5_0 ho) M qx1) ?_
  refine ex_isub dX5_worthWith_10 ?_
  refine ex_istore_n (L2 := [some (.ref o), some (.int a1), some (.int a2), some (.int (a2 - x1))]) dX5_worthWith_11 (by decide) rfl ?_
  refine ex_iload_n dX5_worthWith_12 rfl ?_
  have JXC6 : (a1 < 0 ∨ (6 < a1 ∨ ((a2 - x1) < 0 ∨ ¬ ((a2 - x1) ≤ 99)))) → XM l E (RX5, "worthWith", cX5_worthWith, 4) (some .int) 2 32 [some (.ref o), some (.int a1), some (.int a2), some (.int (a2 - x1))] [] M M (some (.int r)) := fun C6 => by
    rw [if_pos C6] at h
    refine ex_iconst (-1) dX5_worthWith_32 kI_m1 ?_
    cases h
    exact mx_reti .int dX5_worthWith_33 ⟨rfl, rfl⟩
  have JYC6 : ¬ ((a1 < 0 ∨ (6 < a1 ∨ ((a2 - x1) < 0 ∨ ¬ ((a2 - x1) ≤ 99))))) → XM l E (RX5, "worthWith", cX5_worthWith, 4) (some .int) 2 40 [some (.ref o), some (.int a1), some (.int a2), some (.int (a2 - x1))] [.int 1, .int a1, .ref (o + 1)] M M (some (.int r)) := fun C6 => by
    rw [if_neg C6] at h
    obtain ⟨x7, qx7, h⟩ := b1E h
    refine mx_cVi [.int a1, .int 1] [] (o + 1) 8 x7 dX5_worthWith_40 cl_X5_58 im_X8_at cy_X8_at (oc_5_0 ho) rfl (Nat.le_of_ble_eq_true rfl) (by decide) (t_X8_at l E (o + 1) a1 1 (oc_5_0 ho) M qx7) ?_
    refine ex_aload_n dX5_worthWith_43 rfl ?_
    refine mx_getr 5 (o + 9) dX5_worthWith_44 fl_X5_31 ho (rf_5_4 ho) ?_
    refine ex_iload_n dX5_worthWith_47 rfl ?_
    obtain ⟨r8, qr8, h⟩ := b1E h
    refine mx_aald r8 dX5_worthWith_48 qr8 ?_
    refine ex_iload_n dX5_worthWith_49 rfl ?_
    obtain ⟨x9, qx9, h⟩ := b1E h
    refine mx_iald x9 dX5_worthWith_50 qx9 ?_
    refine ex_iadd dX5_worthWith_51 ?_
    cases h
    exact mx_reti .int dX5_worthWith_52 ⟨rfl, rfl⟩
  clear h
  refine ex_if_lt 32 dX5_worthWith_13 (by decide) (fun c2 => ?_) (fun c2 => ?_)
  · exact JXC6 (Or.inl c2)
  · refine ex_iload_n dX5_worthWith_16 rfl ?_
    refine ex_bipush 6 dX5_worthWith_17 kB_6 ?_
    refine ex_icmp_gt 32 dX5_worthWith_19 (by decide) (fun c3 => ?_) (fun c3 => ?_)
    · exact JXC6 (Or.inr (Or.inl c3))
    · refine ex_iload_n dX5_worthWith_22 rfl ?_
      refine ex_if_lt 32 dX5_worthWith_23 (by decide) (fun c4 => ?_) (fun c4 => ?_)
      · exact JXC6 (Or.inr (Or.inr (Or.inl c4)))
      · refine ex_iload_n dX5_worthWith_26 rfl ?_
        refine ex_bipush 99 dX5_worthWith_27 kB_99 ?_
        refine ex_icmp_le 34 dX5_worthWith_29 (by decide) (fun c5 => ?_) (fun c5 => ?_)
        · refine ex_aload_n dX5_worthWith_34 rfl ?_
          refine mx_getr 5 (o + 1) dX5_worthWith_35 fl_X5_16 ho (rf_5_0 ho) ?_
          refine ex_iload_n dX5_worthWith_38 rfl ?_
          refine ex_iconst 1 dX5_worthWith_39 kI_1 ?_
          exact JYC6 (fun z => z.elim c2 (fun z => z.elim c3 (fun z => z.elim c4 (fun z => z c5))))
        · exact JXC6 (Or.inr (Or.inr (Or.inr c5)))
def w_X5_weighBolt_40 (o : Nat) (i2 : Int32) (i9 : Int32) (M10 : Mem) : Option ((Int32 × Mem) ⊕ (Mem)) :=
  if i9 < 0 then (some (.inr M10)) else (b1 (rr (o + 9) (i9 + 1)) fun r12 => b1 (rd M10 r12 i2) fun x13 => b1 (rr (o + 9) i9) fun r14 => b1 (f_X5_worthWith o i9 i2 M10) fun x15 => b1 (wr M10 r14 i2 (f_J9_max_7cf53 x13 x15)) fun M16 => some (.inl ((i9 + (-1)), M16)))
def w_X5_weighBolt_15 (o : Nat) (a1 : Int32) (x1 : Int32) (i2 : Int32) (M3 : Mem) : Option ((Int32 × Mem) ⊕ (Mem)) :=
  if (a1 < i2 ∨ 99 < i2) then (some (.inr M3)) else (b1 (rr (o + 9) x1) fun r7 => b1 (wr M3 r7 i2 0) fun M8 => b1 (lp (fun s => w_X5_weighBolt_40 o i2 s.1 s.2) FU ((x1 - 1), M8)) fun q17 => some (.inl ((i2 + 1), q17)))
def f_X5_weighBolt (o : Nat) (a1 : Int32) (M : Mem) : Option (Mem) :=
  lt (f_J9_min_7cf53 (M (o + 1) 3) 6) fun x1 => b1 (lp (fun s => w_X5_weighBolt_15 o a1 x1 s.1 s.2) FU (0, M)) fun q18 => some q18
set_option maxRecDepth 100000 in
set_option maxHeartbeats 4000000 in
theorem t_X5_weighBolt (l : Launch) (E : EV) (o : Nat) (a1 : Int32) (ho : oc o = some 5) (M : Mem) {M' : Mem} (h : f_X5_weighBolt o a1 M = some M') : RunM l E yX5_weighBolt cX5_weighBolt 6 none 3 [.ref o, .int a1] M M' none := by
  refine RunM.of (by decide) (Nat.le_of_ble_eq_true rfl) ?_
  show XM l E (RX5, "weighBolt", cX5_weighBolt, 6) none 3 0 [some (.ref o), some (.int a1), none, none, none, none] [] M M' none
  unfold f_X5_weighBolt at h
  refine ex_aload_n dX5_weighBolt_0 rfl ?_
  refine mx_getr 5 (o + 1) dX5_weighBolt_1 fl_X5_16 ho (rf_5_0 ho) ?_
  refine mx_geti 8 dX5_weighBolt_4 fl_X5_42 (oc_5_0 ho) (isi_8_3 (oc_5_0 ho)) ?_
  refine ex_bipush 6 dX5_weighBolt_7 kB_6 ?_
  refine mx_min dX5_weighBolt_9 (tb (i := 1108) (by decide +kernel)) (by decide) (Nat.le_of_ble_eq_true rfl) ?_
  obtain ⟨x1, ex1, h⟩ := ltE h
  rw [← ex1]
  refine ex_istore_n (L2 := [some (.ref o), some (.int a1), some (.int x1), none, none, none]) dX5_weighBolt_12 (by decide) rfl ?_
  refine ex_iconst 0 dX5_weighBolt_13 kI_0 ?_
  refine ex_istore_n (L2 := [some (.ref o), some (.int a1), some (.int x1), some (.int 0), none, none]) dX5_weighBolt_14 (by decide) rfl ?_
  refine ex_mskL [true, true, true, true, false, false] (L2 := [some (.ref o), some (.int a1), some (.int x1), some (.int 0), none, none]) rfl ?_
  obtain ⟨q18, hlq18, h⟩ := b1E h
  have hx : XM l E (RX5, "weighBolt", cX5_weighBolt, 6) none 3 91 [none, none, none, none, none, none] [] q18 M' none := by
    cases h
    exact mx_retv dX5_weighBolt_91 rfl
  clear h
  have key : ∀ (k : Nat) (s : Int32 × Mem), lp (fun s => w_X5_weighBolt_15 o a1 x1 s.1 s.2) k s = some q18 → XM l E (RX5, "weighBolt", cX5_weighBolt, 6) none 3 15 [some (.ref o), some (.int a1), some (.int x1), some (.int s.1), none, none] [] s.2 M' none := lp_ind (P := fun (s : Int32 × Mem) => XM l E (RX5, "weighBolt", cX5_weighBolt, 6) none 3 15 [some (.ref o), some (.int a1), some (.int x1), some (.int s.1), none, none] [] s.2 M' none) (fun s t hb hk he => by
    obtain ⟨i2, M3⟩ := s
    show XM l E (RX5, "weighBolt", cX5_weighBolt, 6) none 3 15 [some (.ref o), some (.int a1), some (.int x1), some (.int i2), none, none] [] M3 M' none
    change w_X5_weighBolt_15 o a1 x1 i2 M3 = some t at hb
    unfold w_X5_weighBolt_15 at hb
    refine ex_iload_n dX5_weighBolt_15 rfl ?_
    refine ex_iload_n dX5_weighBolt_16 rfl ?_
    have JXC6 : (a1 < i2 ∨ 99 < i2) → XM l E (RX5, "weighBolt", cX5_weighBolt, 6) none 3 91 [some (.ref o), some (.int a1), some (.int x1), some (.int i2), none, none] [] M3 M' none := fun C6 => by
      rw [if_pos C6] at hb
      refine ex_mskL [false, false, false, false, false, false] (L2 := [none, none, none, none, none, none]) rfl ?_
      cases hb
      cases (he _ rfl) <;> exact hx
    have JYC6 : ¬ ((a1 < i2 ∨ 99 < i2)) → XM l E (RX5, "weighBolt", cX5_weighBolt, 6) none 3 31 [some (.ref o), some (.int a1), some (.int x1), some (.int i2), none, none] [.int x1, .ref (o + 9)] M3 M' none := fun C6 => by
      rw [if_neg C6] at hb
      obtain ⟨r7, qr7, hb⟩ := b1E hb
      refine mx_aald r7 dX5_weighBolt_31 qr7 ?_
      refine ex_iload_n dX5_weighBolt_32 rfl ?_
      refine ex_iconst 0 dX5_weighBolt_33 kI_0 ?_
      obtain ⟨M8, qM8, hb⟩ := b1E hb
      refine mx_iast M8 dX5_weighBolt_34 qM8 ?_
      refine ex_iload_n dX5_weighBolt_35 rfl ?_
      refine ex_iconst 1 dX5_weighBolt_36 kI_1 ?_
      refine ex_isub dX5_weighBolt_37 ?_
      refine ex_istore (L2 := [some (.ref o), some (.int a1), some (.int x1), some (.int i2), some (.int (x1 - 1)), none]) dX5_weighBolt_38 (by decide) rfl ?_
      refine ex_mskL [true, true, true, true, true, false] (L2 := [some (.ref o), some (.int a1), some (.int x1), some (.int i2), some (.int (x1 - 1)), none]) rfl ?_
      obtain ⟨q17, hlq17, hb⟩ := b1E hb
      have hx : XM l E (RX5, "weighBolt", cX5_weighBolt, 6) none 3 85 [some (.ref o), some (.int a1), some (.int x1), some (.int i2), none, none] [] q17 M' none := by
        refine ex_iinc 1 (L2 := [some (.ref o), some (.int a1), some (.int x1), some (.int (i2 + 1)), none, none]) dX5_weighBolt_85 rfl kI_1 (by decide) rfl ?_
        refine ex_goto 15 dX5_weighBolt_88 (by decide) ?_
        refine ex_mskL [true, true, true, true, false, false] (L2 := [some (.ref o), some (.int a1), some (.int x1), some (.int (i2 + 1)), none, none]) rfl ?_
        cases hb
        exact hk ((i2 + 1), q17) rfl
      clear hb
      have key : ∀ (k : Nat) (s : Int32 × Mem), lp (fun s => w_X5_weighBolt_40 o i2 s.1 s.2) k s = some q17 → XM l E (RX5, "weighBolt", cX5_weighBolt, 6) none 3 40 [some (.ref o), some (.int a1), some (.int x1), some (.int i2), some (.int s.1), none] [] s.2 M' none := lp_ind (P := fun (s : Int32 × Mem) => XM l E (RX5, "weighBolt", cX5_weighBolt, 6) none 3 40 [some (.ref o), some (.int a1), some (.int x1), some (.int i2), some (.int s.1), none] [] s.2 M' none) (fun s t hb hk he => by
        obtain ⟨i9, M10⟩ := s
        show XM l E (RX5, "weighBolt", cX5_weighBolt, 6) none 3 40 [some (.ref o), some (.int a1), some (.int x1), some (.int i2), some (.int i9), none] [] M10 M' none
        change w_X5_weighBolt_40 o i2 i9 M10 = some t at hb
        unfold w_X5_weighBolt_40 at hb
        refine ex_iload dX5_weighBolt_40 rfl ?_
        refine ex_if_lt 85 dX5_weighBolt_42 (by decide) (fun c11 => ?_) (fun c11 => ?_)
        · rw [if_pos c11] at hb
          refine ex_mskL [true, true, true, true, false, false] (L2 := [some (.ref o), some (.int a1), some (.int x1), some (.int i2), none, none]) rfl ?_
          cases hb
          cases (he _ rfl) <;> exact hx
        · rw [if_neg c11] at hb
          refine ex_aload_n dX5_weighBolt_45 rfl ?_
          refine mx_getr 5 (o + 9) dX5_weighBolt_46 fl_X5_31 ho (rf_5_4 ho) ?_
          refine ex_iload dX5_weighBolt_49 rfl ?_
          refine ex_iconst 1 dX5_weighBolt_51 kI_1 ?_
          refine ex_iadd dX5_weighBolt_52 ?_
          obtain ⟨r12, qr12, hb⟩ := b1E hb
          refine mx_aald r12 dX5_weighBolt_53 qr12 ?_
          refine ex_iload_n dX5_weighBolt_54 rfl ?_
          obtain ⟨x13, qx13, hb⟩ := b1E hb
          refine mx_iald x13 dX5_weighBolt_55 qx13 ?_
          refine ex_istore (L2 := [some (.ref o), some (.int a1), some (.int x1), some (.int i2), some (.int i9), some (.int x13)]) dX5_weighBolt_56 (by decide) rfl ?_
          refine ex_aload_n dX5_weighBolt_58 rfl ?_
          refine mx_getr 5 (o + 9) dX5_weighBolt_59 fl_X5_31 ho (rf_5_4 ho) ?_
          refine ex_iload dX5_weighBolt_62 rfl ?_
          obtain ⟨r14, qr14, hb⟩ := b1E hb
          refine mx_aald r14 dX5_weighBolt_64 qr14 ?_
          refine ex_iload_n dX5_weighBolt_65 rfl ?_
          refine ex_iload dX5_weighBolt_66 rfl ?_
          refine ex_aload_n dX5_weighBolt_68 rfl ?_
          refine ex_iload dX5_weighBolt_69 rfl ?_
          refine ex_iload_n dX5_weighBolt_71 rfl ?_
          obtain ⟨x15, qx15, hb⟩ := b1E hb
          refine mx_cVi [.int i9, .int i2] [.int x13, .int i2, .ref r14] o 5 x15 dX5_weighBolt_72 cl_X5_52 im_X5_worthWith cy_X5_worthWith ho rfl (Nat.le_of_ble_eq_true rfl) (by decide) (t_X5_worthWith l E o i9 i2 ho M10 qx15) ?_
          refine mx_max dX5_weighBolt_75 (tb (i := 1114) (by decide +kernel)) (by decide) (Nat.le_of_ble_eq_true rfl) ?_
          obtain ⟨M16, qM16, hb⟩ := b1E hb
          refine mx_iast M16 dX5_weighBolt_78 qM16 ?_
          refine ex_iinc (-1) (L2 := [some (.ref o), some (.int a1), some (.int x1), some (.int i2), some (.int (i9 + (-1))), some (.int x13)]) dX5_weighBolt_79 rfl kI_m1 (by decide) rfl ?_
          refine ex_goto 40 dX5_weighBolt_82 (by decide) ?_
          refine ex_mskL [true, true, true, true, true, false] (L2 := [some (.ref o), some (.int a1), some (.int x1), some (.int i2), some (.int (i9 + (-1))), none]) rfl ?_
          cases hb
          exact hk ((i9 + (-1)), M16) rfl)
      exact key FU ((x1 - 1), M8) hlq17
    clear hb
    refine ex_icmp_gt 91 dX5_weighBolt_17 (by decide) (fun c4 => ?_) (fun c4 => ?_)
    · exact JXC6 (Or.inl c4)
    · refine ex_iload_n dX5_weighBolt_20 rfl ?_
      refine ex_bipush 99 dX5_weighBolt_21 kB_99 ?_
      refine ex_icmp_gt 91 dX5_weighBolt_23 (by decide) (fun c5 => ?_) (fun c5 => ?_)
      · exact JXC6 (Or.inr c5)
      · refine ex_aload_n dX5_weighBolt_26 rfl ?_
        refine mx_getr 5 (o + 9) dX5_weighBolt_27 fl_X5_31 ho (rf_5_4 ho) ?_
        refine ex_iload_n dX5_weighBolt_30 rfl ?_
        exact JYC6 (fun z => z.elim c4 c5))
  exact key FU (0, M) hlq18
def f_X5_boltWorth (o : Nat) (a1 : Int32) (M : Mem) : Option (Int32) :=
  if (a1 < 0 ∨ 99 < a1) then (some (-1)) else (b1 (rr (o + 9) 0) fun r4 => b1 (rd M r4 a1) fun x5 => some x5)
set_option maxRecDepth 100000 in
set_option maxHeartbeats 4000000 in
theorem t_X5_boltWorth (l : Launch) (E : EV) (o : Nat) (a1 : Int32) (ho : oc o = some 5) (M : Mem) {r : Int32} (h : f_X5_boltWorth o a1 M = some r) : RunM l E yX5_boltWorth cX5_boltWorth 2 (some .int) 0 [.ref o, .int a1] M M (some (.int r)) := by
  refine RunM.of (by decide) (Nat.le_of_ble_eq_true rfl) ?_
  show XM l E (RX5, "boltWorth", cX5_boltWorth, 2) (some .int) 0 0 [some (.ref o), some (.int a1)] [] M M (some (.int r))
  unfold f_X5_boltWorth at h
  refine ex_iload_n dX5_boltWorth_0 rfl ?_
  have JXC3 : (a1 < 0 ∨ 99 < a1) → XM l E (RX5, "boltWorth", cX5_boltWorth, 2) (some .int) 0 21 [some (.ref o), some (.int a1)] [] M M (some (.int r)) := fun C3 => by
    rw [if_pos C3] at h
    refine ex_iconst (-1) dX5_boltWorth_21 kI_m1 ?_
    cases h
    exact mx_reti .int dX5_boltWorth_22 ⟨rfl, rfl⟩
  have JYC3 : ¬ ((a1 < 0 ∨ 99 < a1)) → XM l E (RX5, "boltWorth", cX5_boltWorth, 2) (some .int) 0 15 [some (.ref o), some (.int a1)] [.int 0, .ref (o + 9)] M M (some (.int r)) := fun C3 => by
    rw [if_neg C3] at h
    obtain ⟨r4, qr4, h⟩ := b1E h
    refine mx_aald r4 dX5_boltWorth_15 qr4 ?_
    refine ex_iload_n dX5_boltWorth_16 rfl ?_
    obtain ⟨x5, qx5, h⟩ := b1E h
    refine mx_iald x5 dX5_boltWorth_17 qx5 ?_
    refine ex_goto 22 dX5_boltWorth_18 (by decide) ?_
    cases h
    exact mx_reti .int dX5_boltWorth_22 ⟨rfl, rfl⟩
  clear h
  refine ex_if_lt 21 dX5_boltWorth_1 (by decide) (fun c1 => ?_) (fun c1 => ?_)
  · exact JXC3 (Or.inl c1)
  · refine ex_iload_n dX5_boltWorth_4 rfl ?_
    refine ex_bipush 99 dX5_boltWorth_5 kB_99 ?_
    refine ex_icmp_gt 21 dX5_boltWorth_7 (by decide) (fun c2 => ?_) (fun c2 => ?_)
    · exact JXC3 (Or.inr c2)
    · refine ex_aload_n dX5_boltWorth_10 rfl ?_
      refine mx_getr 5 (o + 9) dX5_boltWorth_11 fl_X5_31 ho (rf_5_4 ho) ?_
      refine ex_iconst 0 dX5_boltWorth_14 kI_0 ?_
      exact JYC3 (fun z => z.elim c1 c2)
def w_X5_piecesInBolt_24 (o : Nat) (M : Mem) (i3 : Int32) (i7 : Int32) (i8 : Int32) : Option ((Int32 × Int32) ⊕ (Int32 × Int32)) :=
  if (i7 < 0 ∨ 99 < i7) then (some (.inr (i7, i8))) else (b1 (f_X5_worthWith o i3 i7 M) fun x12 => b1 (rr (o + 9) i3) fun r13 => b1 (rd M r13 i7) fun x14 => if x12 = x14 then (b1 (f_X8_at (o + 1) i3 0 M) fun x16 => lt (i7 - (f_J9_max_7cf53 1 x16)) fun x17 => some (.inl (x17, (i8 + 1)))) else (some (.inr (i7, i8))))
def w_X5_piecesInBolt_8 (o : Nat) (a2 : Int32) (M : Mem) (i1 : Int32) (i2 : Int32) (i3 : Int32) : Option ((Int32 × Int32 × Int32) ⊕ (Int32)) :=
  if (a2 < i3 ∨ 6 < i3) then (some (.inr i2)) else (b1 (lp (fun s => w_X5_piecesInBolt_24 o M i3 s.1 s.2) FU (i1, 0)) fun q18 => some (.inl (q18.1, q18.2, (i3 + 1))))
def f_X5_piecesInBolt (o : Nat) (a1 : Int32) (a2 : Int32) (M : Mem) : Option (Int32) :=
  b1 (lp (fun s => w_X5_piecesInBolt_8 o a2 M s.1 s.2.1 s.2.2) FU (a1, 0, 0)) fun q21 => some q21
set_option maxRecDepth 100000 in
set_option maxHeartbeats 4000000 in
theorem t_X5_piecesInBolt (l : Launch) (E : EV) (o : Nat) (a1 : Int32) (a2 : Int32) (ho : oc o = some 5) (M : Mem) {r : Int32} (h : f_X5_piecesInBolt o a1 a2 M = some r) : RunM l E yX5_piecesInBolt cX5_piecesInBolt 6 (some .int) 3 [.ref o, .int a1, .int a2] M M (some (.int r)) := by
  refine RunM.of (by decide) (Nat.le_of_ble_eq_true rfl) ?_
  show XM l E (RX5, "piecesInBolt", cX5_piecesInBolt, 6) (some .int) 3 0 [some (.ref o), some (.int a1), some (.int a2), none, none, none] [] M M (some (.int r))
  unfold f_X5_piecesInBolt at h
  refine ex_iload_n dX5_piecesInBolt_0 rfl ?_
  refine ex_istore_n (L2 := [some (.ref o), some (.int a1), some (.int a2), some (.int a1), none, none]) dX5_piecesInBolt_1 (by decide) rfl ?_
  refine ex_iconst 0 dX5_piecesInBolt_2 kI_0 ?_
  refine ex_istore (L2 := [some (.ref o), some (.int a1), some (.int a2), some (.int a1), some (.int 0), none]) dX5_piecesInBolt_3 (by decide) rfl ?_
  refine ex_iconst 0 dX5_piecesInBolt_5 kI_0 ?_
  refine ex_istore (L2 := [some (.ref o), some (.int a1), some (.int a2), some (.int a1), some (.int 0), some (.int 0)]) dX5_piecesInBolt_6 (by decide) rfl ?_
  refine ex_mskL [true, false, true, true, true, true] (L2 := [some (.ref o), none, some (.int a2), some (.int a1), some (.int 0), some (.int 0)]) rfl ?_
  obtain ⟨q21, hlq21, h⟩ := b1E h
  have hx : XM l E (RX5, "piecesInBolt", cX5_piecesInBolt, 6) (some .int) 3 82 [none, none, none, none, some (.int q21), none] [] M M (some (.int r)) := by
    refine ex_iload dX5_piecesInBolt_82 rfl ?_
    cases h
    exact mx_reti .int dX5_piecesInBolt_84 ⟨rfl, rfl⟩
  clear h
  have key : ∀ (k : Nat) (s : Int32 × Int32 × Int32), lp (fun s => w_X5_piecesInBolt_8 o a2 M s.1 s.2.1 s.2.2) k s = some q21 → XM l E (RX5, "piecesInBolt", cX5_piecesInBolt, 6) (some .int) 3 8 [some (.ref o), none, some (.int a2), some (.int s.1), some (.int s.2.1), some (.int s.2.2)] [] M M (some (.int r)) := lp_ind (P := fun (s : Int32 × Int32 × Int32) => XM l E (RX5, "piecesInBolt", cX5_piecesInBolt, 6) (some .int) 3 8 [some (.ref o), none, some (.int a2), some (.int s.1), some (.int s.2.1), some (.int s.2.2)] [] M M (some (.int r))) (fun s t hb hk he => by
    obtain ⟨i1, i2, i3⟩ := s
    show XM l E (RX5, "piecesInBolt", cX5_piecesInBolt, 6) (some .int) 3 8 [some (.ref o), none, some (.int a2), some (.int i1), some (.int i2), some (.int i3)] [] M M (some (.int r))
    change w_X5_piecesInBolt_8 o a2 M i1 i2 i3 = some t at hb
    unfold w_X5_piecesInBolt_8 at hb
    refine ex_iload dX5_piecesInBolt_8 rfl ?_
    refine ex_iload_n dX5_piecesInBolt_10 rfl ?_
    have JXC6 : (a2 < i3 ∨ 6 < i3) → XM l E (RX5, "piecesInBolt", cX5_piecesInBolt, 6) (some .int) 3 82 [some (.ref o), none, some (.int a2), some (.int i1), some (.int i2), some (.int i3)] [] M M (some (.int r)) := fun C6 => by
      rw [if_pos C6] at hb
      refine ex_mskL [false, false, false, false, true, false] (L2 := [none, none, none, none, some (.int i2), none]) rfl ?_
      cases hb
      cases (he _ rfl) <;> exact hx
    have JYC6 : ¬ ((a2 < i3 ∨ 6 < i3)) → XM l E (RX5, "piecesInBolt", cX5_piecesInBolt, 6) (some .int) 3 22 [some (.ref o), none, some (.int a2), some (.int i1), some (.int i2), some (.int i3)] [.int 0] M M (some (.int r)) := fun C6 => by
      rw [if_neg C6] at hb
      refine ex_istore (L2 := [some (.ref o), none, some (.int a2), some (.int i1), some (.int 0), some (.int i3)]) dX5_piecesInBolt_22 (by decide) rfl ?_
      refine ex_mskL [true, false, true, true, true, true] (L2 := [some (.ref o), none, some (.int a2), some (.int i1), some (.int 0), some (.int i3)]) rfl ?_
      obtain ⟨q18, hlq18, hb⟩ := b1E hb
      obtain ⟨y19, y20⟩ := q18
      dsimp only at hb
      have hx : XM l E (RX5, "piecesInBolt", cX5_piecesInBolt, 6) (some .int) 3 76 [some (.ref o), none, some (.int a2), some (.int y19), some (.int y20), some (.int i3)] [] M M (some (.int r)) := by
        refine ex_iinc 1 (L2 := [some (.ref o), none, some (.int a2), some (.int y19), some (.int y20), some (.int (i3 + 1))]) dX5_piecesInBolt_76 rfl kI_1 (by decide) rfl ?_
        refine ex_goto 8 dX5_piecesInBolt_79 (by decide) ?_
        refine ex_mskL [true, false, true, true, true, true] (L2 := [some (.ref o), none, some (.int a2), some (.int y19), some (.int y20), some (.int (i3 + 1))]) rfl ?_
        cases hb
        exact hk (y19, y20, (i3 + 1)) rfl
      clear hb
      have key : ∀ (k : Nat) (s : Int32 × Int32), lp (fun s => w_X5_piecesInBolt_24 o M i3 s.1 s.2) k s = some (y19, y20) → XM l E (RX5, "piecesInBolt", cX5_piecesInBolt, 6) (some .int) 3 24 [some (.ref o), none, some (.int a2), some (.int s.1), some (.int s.2), some (.int i3)] [] M M (some (.int r)) := lp_ind (P := fun (s : Int32 × Int32) => XM l E (RX5, "piecesInBolt", cX5_piecesInBolt, 6) (some .int) 3 24 [some (.ref o), none, some (.int a2), some (.int s.1), some (.int s.2), some (.int i3)] [] M M (some (.int r))) (fun s t hb hk he => by
        obtain ⟨i7, i8⟩ := s
        show XM l E (RX5, "piecesInBolt", cX5_piecesInBolt, 6) (some .int) 3 24 [some (.ref o), none, some (.int a2), some (.int i7), some (.int i8), some (.int i3)] [] M M (some (.int r))
        change w_X5_piecesInBolt_24 o M i3 i7 i8 = some t at hb
        unfold w_X5_piecesInBolt_24 at hb
        refine ex_iload_n dX5_piecesInBolt_24 rfl ?_
        have JXC11 : (i7 < 0 ∨ 99 < i7) → XM l E (RX5, "piecesInBolt", cX5_piecesInBolt, 6) (some .int) 3 76 [some (.ref o), none, some (.int a2), some (.int i7), some (.int i8), some (.int i3)] [] M M (some (.int r)) := fun C11 => by
          rw [if_pos C11] at hb
          refine ex_mskL [true, false, true, true, true, true] (L2 := [some (.ref o), none, some (.int a2), some (.int i7), some (.int i8), some (.int i3)]) rfl ?_
          cases hb
          cases (he _ rfl) <;> exact hx
        have JYC11 : ¬ ((i7 < 0 ∨ 99 < i7)) → XM l E (RX5, "piecesInBolt", cX5_piecesInBolt, 6) (some .int) 3 38 [some (.ref o), none, some (.int a2), some (.int i7), some (.int i8), some (.int i3)] [.int i7, .int i3, .ref o] M M (some (.int r)) := fun C11 => by
          rw [if_neg C11] at hb
          obtain ⟨x12, qx12, hb⟩ := b1E hb
          refine mx_cVi [.int i3, .int i7] [] o 5 x12 dX5_piecesInBolt_38 cl_X5_52 im_X5_worthWith cy_X5_worthWith ho rfl (Nat.le_of_ble_eq_true rfl) (by decide) (t_X5_worthWith l E o i3 i7 ho M qx12) ?_
          refine ex_aload_n dX5_piecesInBolt_41 rfl ?_
          refine mx_getr 5 (o + 9) dX5_piecesInBolt_42 fl_X5_31 ho (rf_5_4 ho) ?_
          refine ex_iload dX5_piecesInBolt_45 rfl ?_
          obtain ⟨r13, qr13, hb⟩ := b1E hb
          refine mx_aald r13 dX5_piecesInBolt_47 qr13 ?_
          refine ex_iload_n dX5_piecesInBolt_48 rfl ?_
          obtain ⟨x14, qx14, hb⟩ := b1E hb
          refine mx_iald x14 dX5_piecesInBolt_49 qx14 ?_
          refine ex_icmp_ne 76 dX5_piecesInBolt_50 (by decide) (fun c15 => ?_) (fun c15 => ?_)
          · rw [if_neg c15] at hb
            refine ex_mskL [true, false, true, true, true, true] (L2 := [some (.ref o), none, some (.int a2), some (.int i7), some (.int i8), some (.int i3)]) rfl ?_
            cases hb
            cases (he _ rfl) <;> exact hx
          · rw [if_pos c15] at hb
            refine ex_iload_n dX5_piecesInBolt_53 rfl ?_
            refine ex_iconst 1 dX5_piecesInBolt_54 kI_1 ?_
            refine ex_aload_n dX5_piecesInBolt_55 rfl ?_
            refine mx_getr 5 (o + 1) dX5_piecesInBolt_56 fl_X5_16 ho (rf_5_0 ho) ?_
            refine ex_iload dX5_piecesInBolt_59 rfl ?_
            refine ex_iconst 0 dX5_piecesInBolt_61 kI_0 ?_
            obtain ⟨x16, qx16, hb⟩ := b1E hb
            refine mx_cVi [.int i3, .int 0] [.int 1, .int i7] (o + 1) 8 x16 dX5_piecesInBolt_62 cl_X5_58 im_X8_at cy_X8_at (oc_5_0 ho) rfl (Nat.le_of_ble_eq_true rfl) (by decide) (t_X8_at l E (o + 1) i3 0 (oc_5_0 ho) M qx16) ?_
            refine mx_max dX5_piecesInBolt_65 (tb (i := 1114) (by decide +kernel)) (by decide) (Nat.le_of_ble_eq_true rfl) ?_
            refine ex_isub dX5_piecesInBolt_68 ?_
            obtain ⟨x17, ex17, hb⟩ := ltE hb
            rw [← ex17]
            refine ex_istore_n (L2 := [some (.ref o), none, some (.int a2), some (.int x17), some (.int i8), some (.int i3)]) dX5_piecesInBolt_69 (by decide) rfl ?_
            refine ex_iinc 1 (L2 := [some (.ref o), none, some (.int a2), some (.int x17), some (.int (i8 + 1)), some (.int i3)]) dX5_piecesInBolt_70 rfl kI_1 (by decide) rfl ?_
            refine ex_goto 24 dX5_piecesInBolt_73 (by decide) ?_
            refine ex_mskL [true, false, true, true, true, true] (L2 := [some (.ref o), none, some (.int a2), some (.int x17), some (.int (i8 + 1)), some (.int i3)]) rfl ?_
            cases hb
            exact hk (x17, (i8 + 1)) rfl
        clear hb
        refine ex_if_lt 76 dX5_piecesInBolt_25 (by decide) (fun c9 => ?_) (fun c9 => ?_)
        · exact JXC11 (Or.inl c9)
        · refine ex_iload_n dX5_piecesInBolt_28 rfl ?_
          refine ex_bipush 99 dX5_piecesInBolt_29 kB_99 ?_
          refine ex_icmp_gt 76 dX5_piecesInBolt_31 (by decide) (fun c10 => ?_) (fun c10 => ?_)
          · exact JXC11 (Or.inr c10)
          · refine ex_aload_n dX5_piecesInBolt_34 rfl ?_
            refine ex_iload dX5_piecesInBolt_35 rfl ?_
            refine ex_iload_n dX5_piecesInBolt_37 rfl ?_
            exact JYC11 (fun z => z.elim c9 c10))
      exact key FU (i1, 0) hlq18
    clear hb
    refine ex_icmp_gt 82 dX5_piecesInBolt_11 (by decide) (fun c4 => ?_) (fun c4 => ?_)
    · exact JXC6 (Or.inl c4)
    · refine ex_iload dX5_piecesInBolt_14 rfl ?_
      refine ex_bipush 6 dX5_piecesInBolt_16 kB_6 ?_
      refine ex_icmp_gt 82 dX5_piecesInBolt_18 (by decide) (fun c5 => ?_) (fun c5 => ?_)
      · exact JXC6 (Or.inr c5)
      · refine ex_iconst 0 dX5_piecesInBolt_21 kI_0 ?_
        exact JYC6 (fun z => z.elim c4 c5))
  exact key FU (a1, 0, 0) hlq21
def f_X5_oddsBehind (a1 : Int64) (a2 : Int32) (a3 : Int32) : Option (Int64) :=
  lt ((a1 * a3.toInt64) + (((1000000 : Int64) - a1) * a2.toInt64)) fun x1 => if (lg_cmp x1 0) ≤ 0 then (some 0) else (if x1 = 0 then none else some (((1000000 : Int64) * (a1 * a3.toInt64)) / x1))
set_option maxRecDepth 100000 in
set_option maxHeartbeats 4000000 in
theorem t_X5_oddsBehind (l : Launch) (E : EV) (a1 : Int64) (a2 : Int32) (a3 : Int32) (M : Mem) {r : Int64} (h : f_X5_oddsBehind a1 a2 a3 = some r) : RunM l E yX5_oddsBehind cX5_oddsBehind 6 (some .long) 0 [.long a1, .int a2, .int a3] M M (some (.long r)) := by
  refine RunM.of (by decide) (Nat.le_of_ble_eq_true rfl) ?_
  show XM l E (RX5, "oddsBehind", cX5_oddsBehind, 6) (some .long) 0 0 [some (.long a1), none, some (.int a2), some (.int a3), none, none] [] M M (some (.long r))
  unfold f_X5_oddsBehind at h
  refine ex_lload_n dX5_oddsBehind_0 rfl ?_
  refine ex_iload_n dX5_oddsBehind_1 rfl ?_
  refine ex_i2l dX5_oddsBehind_2 ?_
  refine ex_lmul dX5_oddsBehind_3 ?_
  refine ex_ldc2 1000000 dX5_oddsBehind_4 (tb (i := 1156) (by decide +kernel)) ?_
  refine ex_lload_n dX5_oddsBehind_7 rfl ?_
  refine ex_lsub dX5_oddsBehind_8 ?_
  refine ex_iload_n dX5_oddsBehind_9 rfl ?_
  refine ex_i2l dX5_oddsBehind_10 ?_
  refine ex_lmul dX5_oddsBehind_11 ?_
  refine ex_ladd dX5_oddsBehind_12 ?_
  obtain ⟨x1, ex1, h⟩ := ltE h
  rw [← ex1]
  refine ex_lstore (L2 := [some (.long a1), none, some (.int a2), some (.int a3), some (.long x1), none]) dX5_oddsBehind_13 (by decide) rfl ?_
  refine ex_lload dX5_oddsBehind_15 rfl ?_
  refine ex_lconst 0 dX5_oddsBehind_17 (by decide) ?_
  refine ex_lcmp dX5_oddsBehind_18 ?_
  refine ex_if_le 36 dX5_oddsBehind_19 (by decide) (fun c2 => ?_) (fun c2 => ?_)
  · rw [if_pos c2] at h
    refine ex_lconst 0 dX5_oddsBehind_36 (by decide) ?_
    cases h
    exact mx_retl dX5_oddsBehind_37 rfl
  · rw [if_neg c2] at h
    refine ex_ldc2 1000000 dX5_oddsBehind_22 (tb (i := 1156) (by decide +kernel)) ?_
    refine ex_lload_n dX5_oddsBehind_25 rfl ?_
    refine ex_iload_n dX5_oddsBehind_26 rfl ?_
    refine ex_i2l dX5_oddsBehind_27 ?_
    refine ex_lmul dX5_oddsBehind_28 ?_
    refine ex_lmul dX5_oddsBehind_29 ?_
    refine ex_lload dX5_oddsBehind_30 rfl ?_
    by_cases c3 : x1 = 0
    · rw [if_pos c3] at h; cases h
    rw [if_neg c3] at h
    refine ex_ldiv dX5_oddsBehind_32 c3 ?_
    refine ex_goto 37 dX5_oddsBehind_33 (by decide) ?_
    cases h
    exact mx_retl dX5_oddsBehind_37 rfl
def w_X5_oddsForged_11 (o : Nat) (a2 : Int32) (a3 : Int32) (M : Mem) (i1 : Int64) (i2 : Int32) : Option ((Int64 × Int32) ⊕ (Int64)) :=
  if (M (o + 3) 3) ≤ i2 then (some (.inr i1)) else (if (f_X10_isIn a2 i2) = 0 then (if (f_X10_isIn a3 i2) = 0 then (some (.inl (i1, (i2 + 1)))) else (b1 (f_X8_at (o + 3) i2 0 M) fun x6 => b1 (f_X8_at (o + 3) i2 1 M) fun x7 => b1 (f_X5_oddsBehind i1 (1000 - x6) (1000 - x7)) fun x8 => some (.inl (x8, (i2 + 1))))) else (b1 (f_X8_at (o + 3) i2 0 M) fun x9 => b1 (f_X8_at (o + 3) i2 1 M) fun x10 => b1 (f_X5_oddsBehind i1 x9 x10) fun x11 => some (.inl (x11, (i2 + 1)))))
def f_X5_oddsForged (o : Nat) (a1 : Int32) (a2 : Int32) (a3 : Int32) (M : Mem) : Option (Int32) :=
  b1 (lp (fun s => w_X5_oddsForged_11 o a2 a3 M s.1 s.2) FU ((a1.toInt64 * 1000), 0)) fun q12 => some q12.toInt32
set_option maxRecDepth 100000 in
set_option maxHeartbeats 4000000 in
theorem t_X5_oddsForged (l : Launch) (E : EV) (o : Nat) (a1 : Int32) (a2 : Int32) (a3 : Int32) (ho : oc o = some 5) (M : Mem) {r : Int32} (h : f_X5_oddsForged o a1 a2 a3 M = some r) : RunM l E yX5_oddsForged cX5_oddsForged 7 (some .int) 2 [.ref o, .int a1, .int a2, .int a3] M M (some (.int r)) := by
  refine RunM.of (by decide) (Nat.le_of_ble_eq_true rfl) ?_
  show XM l E (RX5, "oddsForged", cX5_oddsForged, 7) (some .int) 2 0 [some (.ref o), some (.int a1), some (.int a2), some (.int a3), none, none, none] [] M M (some (.int r))
  unfold f_X5_oddsForged at h
  refine ex_iload_n dX5_oddsForged_0 rfl ?_
  refine ex_i2l dX5_oddsForged_1 ?_
  refine ex_ldc2 1000 dX5_oddsForged_2 (tb (i := 1151) (by decide +kernel)) ?_
  refine ex_lmul dX5_oddsForged_5 ?_
  refine ex_lstore (L2 := [some (.ref o), some (.int a1), some (.int a2), some (.int a3), some (.long (a1.toInt64 * 1000)), none, none]) dX5_oddsForged_6 (by decide) rfl ?_
  refine ex_iconst 0 dX5_oddsForged_8 kI_0 ?_
  refine ex_istore (L2 := [some (.ref o), some (.int a1), some (.int a2), some (.int a3), some (.long (a1.toInt64 * 1000)), none, some (.int 0)]) dX5_oddsForged_9 (by decide) rfl ?_
  refine ex_mskL [true, false, true, true, true, false, true] (L2 := [some (.ref o), none, some (.int a2), some (.int a3), some (.long (a1.toInt64 * 1000)), none, some (.int 0)]) rfl ?_
  obtain ⟨q12, hlq12, h⟩ := b1E h
  have hx : XM l E (RX5, "oddsForged", cX5_oddsForged, 7) (some .int) 2 112 [none, none, none, none, some (.long q12), none, none] [] M M (some (.int r)) := by
    refine ex_lload dX5_oddsForged_112 rfl ?_
    refine ex_l2i dX5_oddsForged_114 ?_
    cases h
    exact mx_reti .int dX5_oddsForged_115 ⟨rfl, rfl⟩
  clear h
  have key : ∀ (k : Nat) (s : Int64 × Int32), lp (fun s => w_X5_oddsForged_11 o a2 a3 M s.1 s.2) k s = some q12 → XM l E (RX5, "oddsForged", cX5_oddsForged, 7) (some .int) 2 11 [some (.ref o), none, some (.int a2), some (.int a3), some (.long s.1), none, some (.int s.2)] [] M M (some (.int r)) := lp_ind (P := fun (s : Int64 × Int32) => XM l E (RX5, "oddsForged", cX5_oddsForged, 7) (some .int) 2 11 [some (.ref o), none, some (.int a2), some (.int a3), some (.long s.1), none, some (.int s.2)] [] M M (some (.int r))) (fun s t hb hk he => by
    obtain ⟨i1, i2⟩ := s
    show XM l E (RX5, "oddsForged", cX5_oddsForged, 7) (some .int) 2 11 [some (.ref o), none, some (.int a2), some (.int a3), some (.long i1), none, some (.int i2)] [] M M (some (.int r))
    change w_X5_oddsForged_11 o a2 a3 M i1 i2 = some t at hb
    unfold w_X5_oddsForged_11 at hb
    refine ex_iload dX5_oddsForged_11 rfl ?_
    refine ex_aload_n dX5_oddsForged_13 rfl ?_
    refine mx_getr 5 (o + 3) dX5_oddsForged_14 fl_X5_20 ho (rf_5_1 ho) ?_
    refine mx_geti 8 dX5_oddsForged_17 fl_X5_42 (oc_5_1 ho) (isi_8_3 (oc_5_1 ho)) ?_
    refine ex_icmp_ge 112 dX5_oddsForged_20 (by decide) (fun c3 => ?_) (fun c3 => ?_)
    · rw [if_pos c3] at hb
      refine ex_mskL [false, false, false, false, true, false, false] (L2 := [none, none, none, none, some (.long i1), none, none]) rfl ?_
      cases hb
      cases (he _ rfl) <;> exact hx
    · rw [if_neg c3] at hb
      refine ex_iload_n dX5_oddsForged_23 rfl ?_
      refine ex_iload dX5_oddsForged_24 rfl ?_
      refine mx_cSi [.int a2, .int i2] [] (f_X10_isIn a2 i2) dX5_oddsForged_26 cl_X5_63 sm_X10_isIn rfl (Nat.le_of_ble_eq_true rfl) (by decide) (t_X10_isIn l E a2 i2 M rfl) ?_
      refine ex_if_eq 62 dX5_oddsForged_29 (by decide) (fun c4 => ?_) (fun c4 => ?_)
      · rw [if_pos c4] at hb
        refine ex_iload_n dX5_oddsForged_62 rfl ?_
        refine ex_iload dX5_oddsForged_63 rfl ?_
        refine mx_cSi [.int a3, .int i2] [] (f_X10_isIn a3 i2) dX5_oddsForged_65 cl_X5_63 sm_X10_isIn rfl (Nat.le_of_ble_eq_true rfl) (by decide) (t_X10_isIn l E a3 i2 M rfl) ?_
        refine ex_if_eq 106 dX5_oddsForged_68 (by decide) (fun c5 => ?_) (fun c5 => ?_)
        · rw [if_pos c5] at hb
          refine ex_iinc 1 (L2 := [some (.ref o), none, some (.int a2), some (.int a3), some (.long i1), none, some (.int (i2 + 1))]) dX5_oddsForged_106 rfl kI_1 (by decide) rfl ?_
          refine ex_goto 11 dX5_oddsForged_109 (by decide) ?_
          refine ex_mskL [true, false, true, true, true, false, true] (L2 := [some (.ref o), none, some (.int a2), some (.int a3), some (.long i1), none, some (.int (i2 + 1))]) rfl ?_
          cases hb
          exact hk (i1, (i2 + 1)) rfl
        · rw [if_neg c5] at hb
          refine ex_lload dX5_oddsForged_71 rfl ?_
          refine ex_sipush 1000 dX5_oddsForged_73 kS_1000 ?_
          refine ex_aload_n dX5_oddsForged_76 rfl ?_
          refine mx_getr 5 (o + 3) dX5_oddsForged_77 fl_X5_20 ho (rf_5_1 ho) ?_
          refine ex_iload dX5_oddsForged_80 rfl ?_
          refine ex_iconst 0 dX5_oddsForged_82 kI_0 ?_
          obtain ⟨x6, qx6, hb⟩ := b1E hb
          refine mx_cVi [.int i2, .int 0] [.int 1000, .long i1] (o + 3) 8 x6 dX5_oddsForged_83 cl_X5_58 im_X8_at cy_X8_at (oc_5_1 ho) rfl (Nat.le_of_ble_eq_true rfl) (by decide) (t_X8_at l E (o + 3) i2 0 (oc_5_1 ho) M qx6) ?_
          refine ex_isub dX5_oddsForged_86 ?_
          refine ex_sipush 1000 dX5_oddsForged_87 kS_1000 ?_
          refine ex_aload_n dX5_oddsForged_90 rfl ?_
          refine mx_getr 5 (o + 3) dX5_oddsForged_91 fl_X5_20 ho (rf_5_1 ho) ?_
          refine ex_iload dX5_oddsForged_94 rfl ?_
          refine ex_iconst 1 dX5_oddsForged_96 kI_1 ?_
          obtain ⟨x7, qx7, hb⟩ := b1E hb
          refine mx_cVi [.int i2, .int 1] [.int 1000, .int (1000 - x6), .long i1] (o + 3) 8 x7 dX5_oddsForged_97 cl_X5_58 im_X8_at cy_X8_at (oc_5_1 ho) rfl (Nat.le_of_ble_eq_true rfl) (by decide) (t_X8_at l E (o + 3) i2 1 (oc_5_1 ho) M qx7) ?_
          refine ex_isub dX5_oddsForged_100 ?_
          obtain ⟨x8, qx8, hb⟩ := b1E hb
          refine mx_cSl [.long i1, .int (1000 - x6), .int (1000 - x7)] [] x8 dX5_oddsForged_101 cl_X5_67 sm_X5_oddsBehind rfl (Nat.le_of_ble_eq_true rfl) (by decide) (t_X5_oddsBehind l E i1 (1000 - x6) (1000 - x7) M qx8) ?_
          refine ex_lstore (L2 := [some (.ref o), none, some (.int a2), some (.int a3), some (.long x8), none, some (.int i2)]) dX5_oddsForged_104 (by decide) rfl ?_
          refine ex_iinc 1 (L2 := [some (.ref o), none, some (.int a2), some (.int a3), some (.long x8), none, some (.int (i2 + 1))]) dX5_oddsForged_106 rfl kI_1 (by decide) rfl ?_
          refine ex_goto 11 dX5_oddsForged_109 (by decide) ?_
          refine ex_mskL [true, false, true, true, true, false, true] (L2 := [some (.ref o), none, some (.int a2), some (.int a3), some (.long x8), none, some (.int (i2 + 1))]) rfl ?_
          cases hb
          exact hk (x8, (i2 + 1)) rfl
      · rw [if_neg c4] at hb
        refine ex_lload dX5_oddsForged_32 rfl ?_
        refine ex_aload_n dX5_oddsForged_34 rfl ?_
        refine mx_getr 5 (o + 3) dX5_oddsForged_35 fl_X5_20 ho (rf_5_1 ho) ?_
        refine ex_iload dX5_oddsForged_38 rfl ?_
        refine ex_iconst 0 dX5_oddsForged_40 kI_0 ?_
        obtain ⟨x9, qx9, hb⟩ := b1E hb
        refine mx_cVi [.int i2, .int 0] [.long i1] (o + 3) 8 x9 dX5_oddsForged_41 cl_X5_58 im_X8_at cy_X8_at (oc_5_1 ho) rfl (Nat.le_of_ble_eq_true rfl) (by decide) (t_X8_at l E (o + 3) i2 0 (oc_5_1 ho) M qx9) ?_
        refine ex_aload_n dX5_oddsForged_44 rfl ?_
        refine mx_getr 5 (o + 3) dX5_oddsForged_45 fl_X5_20 ho (rf_5_1 ho) ?_
        refine ex_iload dX5_oddsForged_48 rfl ?_
        refine ex_iconst 1 dX5_oddsForged_50 kI_1 ?_
        obtain ⟨x10, qx10, hb⟩ := b1E hb
        refine mx_cVi [.int i2, .int 1] [.int x9, .long i1] (o + 3) 8 x10 dX5_oddsForged_51 cl_X5_58 im_X8_at cy_X8_at (oc_5_1 ho) rfl (Nat.le_of_ble_eq_true rfl) (by decide) (t_X8_at l E (o + 3) i2 1 (oc_5_1 ho) M qx10) ?_
        obtain ⟨x11, qx11, hb⟩ := b1E hb
        refine mx_cSl [.long i1, .int x9, .int x10] [] x11 dX5_oddsForged_54 cl_X5_67 sm_X5_oddsBehind rfl (Nat.le_of_ble_eq_true rfl) (by decide) (t_X5_oddsBehind l E i1 x9 x10 M qx11) ?_
        refine ex_lstore (L2 := [some (.ref o), none, some (.int a2), some (.int a3), some (.long x11), none, some (.int i2)]) dX5_oddsForged_57 (by decide) rfl ?_
        refine ex_goto 106 dX5_oddsForged_59 (by decide) ?_
        refine ex_iinc 1 (L2 := [some (.ref o), none, some (.int a2), some (.int a3), some (.long x11), none, some (.int (i2 + 1))]) dX5_oddsForged_106 rfl kI_1 (by decide) rfl ?_
        refine ex_goto 11 dX5_oddsForged_109 (by decide) ?_
        refine ex_mskL [true, false, true, true, true, false, true] (L2 := [some (.ref o), none, some (.int a2), some (.int a3), some (.long x11), none, some (.int (i2 + 1))]) rfl ?_
        cases hb
        exact hk (x11, (i2 + 1)) rfl)
  exact key FU ((a1.toInt64 * 1000), 0) hlq12
def w_X5_testToLookAt_7 (o : Nat) (a1 : Int32) (M : Mem) (i1 : Int32) (i2 : Int32) (i3 : Int32) : Option ((Int32 × Int32 × Int32) ⊕ (Int32)) :=
  if (M (o + 3) 3) ≤ i3 then (some (.inr i1)) else (b1 (f_X5_oddsForged o a1 (1 <<< (i3 &&& 31)) 0 M) fun x5 => b1 (f_X5_oddsForged o a1 0 (1 <<< (i3 &&& 31)) M) fun x6 => lt (f_J9_max_7cf53 x5 (1000000 - x6)) fun x7 => if x7 ≤ i2 then (some (.inl (i1, i2, (i3 + 1)))) else (some (.inl (i3, x7, (i3 + 1)))))
def f_X5_testToLookAt (o : Nat) (a1 : Int32) (M : Mem) : Option (Int32) :=
  b1 (lp (fun s => w_X5_testToLookAt_7 o a1 M s.1 s.2.1 s.2.2) FU ((-1), (-1), 0)) fun q9 => some q9
set_option maxRecDepth 100000 in
set_option maxHeartbeats 4000000 in
theorem t_X5_testToLookAt (l : Launch) (E : EV) (o : Nat) (a1 : Int32) (ho : oc o = some 5) (M : Mem) {r : Int32} (h : f_X5_testToLookAt o a1 M = some r) : RunM l E yX5_testToLookAt cX5_testToLookAt 6 (some .int) 3 [.ref o, .int a1] M M (some (.int r)) := by
  refine RunM.of (by decide) (Nat.le_of_ble_eq_true rfl) ?_
  show XM l E (RX5, "testToLookAt", cX5_testToLookAt, 6) (some .int) 3 0 [some (.ref o), some (.int a1), none, none, none, none] [] M M (some (.int r))
  unfold f_X5_testToLookAt at h
  refine ex_iconst (-1) dX5_testToLookAt_0 kI_m1 ?_
  refine ex_istore_n (L2 := [some (.ref o), some (.int a1), some (.int (-1)), none, none, none]) dX5_testToLookAt_1 (by decide) rfl ?_
  refine ex_iconst (-1) dX5_testToLookAt_2 kI_m1 ?_
  refine ex_istore_n (L2 := [some (.ref o), some (.int a1), some (.int (-1)), some (.int (-1)), none, none]) dX5_testToLookAt_3 (by decide) rfl ?_
  refine ex_iconst 0 dX5_testToLookAt_4 kI_0 ?_
  refine ex_istore (L2 := [some (.ref o), some (.int a1), some (.int (-1)), some (.int (-1)), some (.int 0), none]) dX5_testToLookAt_5 (by decide) rfl ?_
  refine ex_mskL [true, true, true, true, true, false] (L2 := [some (.ref o), some (.int a1), some (.int (-1)), some (.int (-1)), some (.int 0), none]) rfl ?_
  obtain ⟨q9, hlq9, h⟩ := b1E h
  have hx : XM l E (RX5, "testToLookAt", cX5_testToLookAt, 6) (some .int) 3 65 [none, none, some (.int q9), none, none, none] [] M M (some (.int r)) := by
    refine ex_iload_n dX5_testToLookAt_65 rfl ?_
    cases h
    exact mx_reti .int dX5_testToLookAt_66 ⟨rfl, rfl⟩
  clear h
  have key : ∀ (k : Nat) (s : Int32 × Int32 × Int32), lp (fun s => w_X5_testToLookAt_7 o a1 M s.1 s.2.1 s.2.2) k s = some q9 → XM l E (RX5, "testToLookAt", cX5_testToLookAt, 6) (some .int) 3 7 [some (.ref o), some (.int a1), some (.int s.1), some (.int s.2.1), some (.int s.2.2), none] [] M M (some (.int r)) := lp_ind (P := fun (s : Int32 × Int32 × Int32) => XM l E (RX5, "testToLookAt", cX5_testToLookAt, 6) (some .int) 3 7 [some (.ref o), some (.int a1), some (.int s.1), some (.int s.2.1), some (.int s.2.2), none] [] M M (some (.int r))) (fun s t hb hk he => by
    obtain ⟨i1, i2, i3⟩ := s
    show XM l E (RX5, "testToLookAt", cX5_testToLookAt, 6) (some .int) 3 7 [some (.ref o), some (.int a1), some (.int i1), some (.int i2), some (.int i3), none] [] M M (some (.int r))
    change w_X5_testToLookAt_7 o a1 M i1 i2 i3 = some t at hb
    unfold w_X5_testToLookAt_7 at hb
    refine ex_iload dX5_testToLookAt_7 rfl ?_
    refine ex_aload_n dX5_testToLookAt_9 rfl ?_
    refine mx_getr 5 (o + 3) dX5_testToLookAt_10 fl_X5_20 ho (rf_5_1 ho) ?_
    refine mx_geti 8 dX5_testToLookAt_13 fl_X5_42 (oc_5_1 ho) (isi_8_3 (oc_5_1 ho)) ?_
    refine ex_icmp_ge 65 dX5_testToLookAt_16 (by decide) (fun c4 => ?_) (fun c4 => ?_)
    · rw [if_pos c4] at hb
      refine ex_mskL [false, false, true, false, false, false] (L2 := [none, none, some (.int i1), none, none, none]) rfl ?_
      cases hb
      cases (he _ rfl) <;> exact hx
    · rw [if_neg c4] at hb
      refine ex_aload_n dX5_testToLookAt_19 rfl ?_
      refine ex_iload_n dX5_testToLookAt_20 rfl ?_
      refine ex_iconst 1 dX5_testToLookAt_21 kI_1 ?_
      refine ex_iload dX5_testToLookAt_22 rfl ?_
      refine ex_ishl dX5_testToLookAt_24 ?_
      refine ex_iconst 0 dX5_testToLookAt_25 kI_0 ?_
      obtain ⟨x5, qx5, hb⟩ := b1E hb
      refine mx_cVi [.int a1, .int (1 <<< (i3 &&& 31)), .int 0] [] o 5 x5 dX5_testToLookAt_26 cl_X5_73 im_X5_oddsForged cy_X5_oddsForged ho rfl (Nat.le_of_ble_eq_true rfl) (by decide) (t_X5_oddsForged l E o a1 (1 <<< (i3 &&& 31)) 0 ho M qx5) ?_
      refine ex_ldc 1000000 dX5_testToLookAt_29 (tb (i := 1166) (by decide +kernel)) ?_
      refine ex_aload_n dX5_testToLookAt_31 rfl ?_
      refine ex_iload_n dX5_testToLookAt_32 rfl ?_
      refine ex_iconst 0 dX5_testToLookAt_33 kI_0 ?_
      refine ex_iconst 1 dX5_testToLookAt_34 kI_1 ?_
      refine ex_iload dX5_testToLookAt_35 rfl ?_
      refine ex_ishl dX5_testToLookAt_37 ?_
      obtain ⟨x6, qx6, hb⟩ := b1E hb
      refine mx_cVi [.int a1, .int 0, .int (1 <<< (i3 &&& 31))] [.int 1000000, .int x5] o 5 x6 dX5_testToLookAt_38 cl_X5_73 im_X5_oddsForged cy_X5_oddsForged ho rfl (Nat.le_of_ble_eq_true rfl) (by decide) (t_X5_oddsForged l E o a1 0 (1 <<< (i3 &&& 31)) ho M qx6) ?_
      refine ex_isub dX5_testToLookAt_41 ?_
      refine mx_max dX5_testToLookAt_42 (tb (i := 1114) (by decide +kernel)) (by decide) (Nat.le_of_ble_eq_true rfl) ?_
      obtain ⟨x7, ex7, hb⟩ := ltE hb
      rw [← ex7]
      refine ex_istore (L2 := [some (.ref o), some (.int a1), some (.int i1), some (.int i2), some (.int i3), some (.int x7)]) dX5_testToLookAt_45 (by decide) rfl ?_
      refine ex_iload dX5_testToLookAt_47 rfl ?_
      refine ex_iload_n dX5_testToLookAt_49 rfl ?_
      refine ex_icmp_le 59 dX5_testToLookAt_50 (by decide) (fun c8 => ?_) (fun c8 => ?_)
      · rw [if_pos c8] at hb
        refine ex_iinc 1 (L2 := [some (.ref o), some (.int a1), some (.int i1), some (.int i2), some (.int (i3 + 1)), some (.int x7)]) dX5_testToLookAt_59 rfl kI_1 (by decide) rfl ?_
        refine ex_goto 7 dX5_testToLookAt_62 (by decide) ?_
        refine ex_mskL [true, true, true, true, true, false] (L2 := [some (.ref o), some (.int a1), some (.int i1), some (.int i2), some (.int (i3 + 1)), none]) rfl ?_
        cases hb
        exact hk (i1, i2, (i3 + 1)) rfl
      · rw [if_neg c8] at hb
        refine ex_iload dX5_testToLookAt_53 rfl ?_
        refine ex_istore_n (L2 := [some (.ref o), some (.int a1), some (.int i1), some (.int x7), some (.int i3), some (.int x7)]) dX5_testToLookAt_55 (by decide) rfl ?_
        refine ex_iload dX5_testToLookAt_56 rfl ?_
        refine ex_istore_n (L2 := [some (.ref o), some (.int a1), some (.int i3), some (.int x7), some (.int i3), some (.int x7)]) dX5_testToLookAt_58 (by decide) rfl ?_
        refine ex_iinc 1 (L2 := [some (.ref o), some (.int a1), some (.int i3), some (.int x7), some (.int (i3 + 1)), some (.int x7)]) dX5_testToLookAt_59 rfl kI_1 (by decide) rfl ?_
        refine ex_goto 7 dX5_testToLookAt_62 (by decide) ?_
        refine ex_mskL [true, true, true, true, true, false] (L2 := [some (.ref o), some (.int a1), some (.int i3), some (.int x7), some (.int (i3 + 1)), none]) rfl ?_
        cases hb
        exact hk (i3, x7, (i3 + 1)) rfl)
  exact key FU ((-1), (-1), 0) hlq9
def w_X5_firstLimitAtLeast_9 (o : Nat) (a1 : Int32) (M : Mem) (i2 : Int32) : Option ((Int32) ⊕ ((Int32) ⊕ (Unit))) :=
  if (M (o + 5) 3) ≤ i2 then (some (.inr (.inr ()))) else (b1 (f_X8_at (o + 5) i2 0 M) fun x4 => if x4 < a1 then (some (.inl (i2 + 1))) else (some (.inr (.inl i2))))
def f_X5_firstLimitAtLeast (o : Nat) (a1 : Int32) (M : Mem) : Option (Int32) :=
  if a1 = (-1) then (some (-1)) else (b1 (lp (fun s => w_X5_firstLimitAtLeast_9 o a1 M s) FU 0) fun q6 => match q6 with | .inl u7 => (some u7) | .inr u8 => (some (-1)))
set_option maxRecDepth 100000 in
set_option maxHeartbeats 4000000 in
theorem t_X5_firstLimitAtLeast (l : Launch) (E : EV) (o : Nat) (a1 : Int32) (ho : oc o = some 5) (M : Mem) {r : Int32} (h : f_X5_firstLimitAtLeast o a1 M = some r) : RunM l E yX5_firstLimitAtLeast cX5_firstLimitAtLeast 3 (some .int) 2 [.ref o, .int a1] M M (some (.int r)) := by
  refine RunM.of (by decide) (Nat.le_of_ble_eq_true rfl) ?_
  show XM l E (RX5, "firstLimitAtLeast", cX5_firstLimitAtLeast, 3) (some .int) 2 0 [some (.ref o), some (.int a1), none] [] M M (some (.int r))
  unfold f_X5_firstLimitAtLeast at h
  refine ex_iload_n dX5_firstLimitAtLeast_0 rfl ?_
  refine ex_iconst (-1) dX5_firstLimitAtLeast_1 kI_m1 ?_
  refine ex_icmp_ne 7 dX5_firstLimitAtLeast_2 (by decide) (fun c1 => ?_) (fun c1 => ?_)
  · rw [if_neg c1] at h
    refine ex_iconst 0 dX5_firstLimitAtLeast_7 kI_0 ?_
    refine ex_istore_n (L2 := [some (.ref o), some (.int a1), some (.int 0)]) dX5_firstLimitAtLeast_8 (by decide) rfl ?_
    refine ex_mskL [true, true, true] (L2 := [some (.ref o), some (.int a1), some (.int 0)]) rfl ?_
    obtain ⟨q6, hlq6, h⟩ := b1E h
    rcases q6 with u7 | ⟨⟩
    · dsimp only at h
      have hx : XM l E (RX5, "firstLimitAtLeast", cX5_firstLimitAtLeast, 3) (some .int) 2 33 [none, none, some (.int u7)] [] M M (some (.int r)) := by
        refine ex_iload_n dX5_firstLimitAtLeast_33 rfl ?_
        cases h
        exact mx_reti .int dX5_firstLimitAtLeast_34 ⟨rfl, rfl⟩
      clear h
      have key : ∀ (k : Nat) (s : Int32), lp (fun s => w_X5_firstLimitAtLeast_9 o a1 M s) k s = some (.inl u7) → XM l E (RX5, "firstLimitAtLeast", cX5_firstLimitAtLeast, 3) (some .int) 2 9 [some (.ref o), some (.int a1), some (.int s)] [] M M (some (.int r)) := lp_ind (P := fun (s : Int32) => XM l E (RX5, "firstLimitAtLeast", cX5_firstLimitAtLeast, 3) (some .int) 2 9 [some (.ref o), some (.int a1), some (.int s)] [] M M (some (.int r))) (fun s t hb hk he => by
        revert hb hk he; generalize s = i2; intro hb hk he
        show XM l E (RX5, "firstLimitAtLeast", cX5_firstLimitAtLeast, 3) (some .int) 2 9 [some (.ref o), some (.int a1), some (.int i2)] [] M M (some (.int r))
        change w_X5_firstLimitAtLeast_9 o a1 M i2 = some t at hb
        unfold w_X5_firstLimitAtLeast_9 at hb
        refine ex_iload_n dX5_firstLimitAtLeast_9 rfl ?_
        refine ex_aload_n dX5_firstLimitAtLeast_10 rfl ?_
        refine mx_getr 5 (o + 5) dX5_firstLimitAtLeast_11 fl_X5_23 ho (rf_5_2 ho) ?_
        refine mx_geti 8 dX5_firstLimitAtLeast_14 fl_X5_42 (oc_5_2 ho) (isi_8_3 (oc_5_2 ho)) ?_
        refine ex_icmp_ge 41 dX5_firstLimitAtLeast_17 (by decide) (fun c3 => ?_) (fun c3 => ?_)
        · rw [if_pos c3] at hb
          refine ex_mskL [false, false, false] (L2 := [none, none, none]) rfl ?_
          cases hb
          cases (he _ rfl) <;> exact hx
        · rw [if_neg c3] at hb
          refine ex_aload_n dX5_firstLimitAtLeast_20 rfl ?_
          refine mx_getr 5 (o + 5) dX5_firstLimitAtLeast_21 fl_X5_23 ho (rf_5_2 ho) ?_
          refine ex_iload_n dX5_firstLimitAtLeast_24 rfl ?_
          refine ex_iconst 0 dX5_firstLimitAtLeast_25 kI_0 ?_
          obtain ⟨x4, qx4, hb⟩ := b1E hb
          refine mx_cVi [.int i2, .int 0] [] (o + 5) 8 x4 dX5_firstLimitAtLeast_26 cl_X5_58 im_X8_at cy_X8_at (oc_5_2 ho) rfl (Nat.le_of_ble_eq_true rfl) (by decide) (t_X8_at l E (o + 5) i2 0 (oc_5_2 ho) M qx4) ?_
          refine ex_iload_n dX5_firstLimitAtLeast_29 rfl ?_
          refine ex_icmp_lt 35 dX5_firstLimitAtLeast_30 (by decide) (fun c5 => ?_) (fun c5 => ?_)
          · rw [if_pos c5] at hb
            refine ex_iinc 1 (L2 := [some (.ref o), some (.int a1), some (.int (i2 + 1))]) dX5_firstLimitAtLeast_35 rfl kI_1 (by decide) rfl ?_
            refine ex_goto 9 dX5_firstLimitAtLeast_38 (by decide) ?_
            refine ex_mskL [true, true, true] (L2 := [some (.ref o), some (.int a1), some (.int (i2 + 1))]) rfl ?_
            cases hb
            exact hk (i2 + 1) rfl
          · rw [if_neg c5] at hb
            refine ex_mskL [false, false, true] (L2 := [none, none, some (.int i2)]) rfl ?_
            cases hb
            cases (he _ rfl) <;> exact hx)
      exact key FU 0 hlq6
    · dsimp only at h
      have hx : XM l E (RX5, "firstLimitAtLeast", cX5_firstLimitAtLeast, 3) (some .int) 2 41 [none, none, none] [] M M (some (.int r)) := by
        refine ex_iconst (-1) dX5_firstLimitAtLeast_41 kI_m1 ?_
        cases h
        exact mx_reti .int dX5_firstLimitAtLeast_42 ⟨rfl, rfl⟩
      clear h
      have key : ∀ (k : Nat) (s : Int32), lp (fun s => w_X5_firstLimitAtLeast_9 o a1 M s) k s = some (.inr ()) → XM l E (RX5, "firstLimitAtLeast", cX5_firstLimitAtLeast, 3) (some .int) 2 9 [some (.ref o), some (.int a1), some (.int s)] [] M M (some (.int r)) := lp_ind (P := fun (s : Int32) => XM l E (RX5, "firstLimitAtLeast", cX5_firstLimitAtLeast, 3) (some .int) 2 9 [some (.ref o), some (.int a1), some (.int s)] [] M M (some (.int r))) (fun s t hb hk he => by
        revert hb hk he; generalize s = i2; intro hb hk he
        show XM l E (RX5, "firstLimitAtLeast", cX5_firstLimitAtLeast, 3) (some .int) 2 9 [some (.ref o), some (.int a1), some (.int i2)] [] M M (some (.int r))
        change w_X5_firstLimitAtLeast_9 o a1 M i2 = some t at hb
        unfold w_X5_firstLimitAtLeast_9 at hb
        refine ex_iload_n dX5_firstLimitAtLeast_9 rfl ?_
        refine ex_aload_n dX5_firstLimitAtLeast_10 rfl ?_
        refine mx_getr 5 (o + 5) dX5_firstLimitAtLeast_11 fl_X5_23 ho (rf_5_2 ho) ?_
        refine mx_geti 8 dX5_firstLimitAtLeast_14 fl_X5_42 (oc_5_2 ho) (isi_8_3 (oc_5_2 ho)) ?_
        refine ex_icmp_ge 41 dX5_firstLimitAtLeast_17 (by decide) (fun c3 => ?_) (fun c3 => ?_)
        · rw [if_pos c3] at hb
          refine ex_mskL [false, false, false] (L2 := [none, none, none]) rfl ?_
          cases hb
          cases (he _ rfl) <;> exact hx
        · rw [if_neg c3] at hb
          refine ex_aload_n dX5_firstLimitAtLeast_20 rfl ?_
          refine mx_getr 5 (o + 5) dX5_firstLimitAtLeast_21 fl_X5_23 ho (rf_5_2 ho) ?_
          refine ex_iload_n dX5_firstLimitAtLeast_24 rfl ?_
          refine ex_iconst 0 dX5_firstLimitAtLeast_25 kI_0 ?_
          obtain ⟨x4, qx4, hb⟩ := b1E hb
          refine mx_cVi [.int i2, .int 0] [] (o + 5) 8 x4 dX5_firstLimitAtLeast_26 cl_X5_58 im_X8_at cy_X8_at (oc_5_2 ho) rfl (Nat.le_of_ble_eq_true rfl) (by decide) (t_X8_at l E (o + 5) i2 0 (oc_5_2 ho) M qx4) ?_
          refine ex_iload_n dX5_firstLimitAtLeast_29 rfl ?_
          refine ex_icmp_lt 35 dX5_firstLimitAtLeast_30 (by decide) (fun c5 => ?_) (fun c5 => ?_)
          · rw [if_pos c5] at hb
            refine ex_iinc 1 (L2 := [some (.ref o), some (.int a1), some (.int (i2 + 1))]) dX5_firstLimitAtLeast_35 rfl kI_1 (by decide) rfl ?_
            refine ex_goto 9 dX5_firstLimitAtLeast_38 (by decide) ?_
            refine ex_mskL [true, true, true] (L2 := [some (.ref o), some (.int a1), some (.int (i2 + 1))]) rfl ?_
            cases hb
            exact hk (i2 + 1) rfl
          · rw [if_neg c5] at hb
            refine ex_mskL [false, false, true] (L2 := [none, none, some (.int i2)]) rfl ?_
            cases hb
            cases (he _ rfl) <;> exact hx)
      exact key FU 0 hlq6
  · rw [if_pos c1] at h
    refine ex_iconst (-1) dX5_firstLimitAtLeast_5 kI_m1 ?_
    cases h
    exact mx_reti .int dX5_firstLimitAtLeast_6 ⟨rfl, rfl⟩
def w_X5_priceTaken_2 (o : Nat) (a2 : Int32) (M : Mem) (i1 : Int32) : Option ((Int32) ⊕ ((Int32) ⊕ (Unit))) :=
  if i1 < 1 then (some (.inr (.inr ()))) else (b1 (f_X5_firstLimitAtLeast o i1 M) fun x3 => if x3 = (-1) then (lt (i1 - (f_J9_max_7cf53 1 a2)) fun x5 => some (.inl x5)) else (some (.inr (.inl i1))))
def f_X5_priceTaken (o : Nat) (a1 : Int32) (a2 : Int32) (M : Mem) : Option (Int32) :=
  b1 (lp (fun s => w_X5_priceTaken_2 o a2 M s) FU a1) fun q6 => match q6 with | .inl u7 => (some u7) | .inr u8 => (some (-1))
set_option maxRecDepth 100000 in
set_option maxHeartbeats 4000000 in
theorem t_X5_priceTaken (l : Launch) (E : EV) (o : Nat) (a1 : Int32) (a2 : Int32) (ho : oc o = some 5) (M : Mem) {r : Int32} (h : f_X5_priceTaken o a1 a2 M = some r) : RunM l E yX5_priceTaken cX5_priceTaken 4 (some .int) 3 [.ref o, .int a1, .int a2] M M (some (.int r)) := by
  refine RunM.of (by decide) (Nat.le_of_ble_eq_true rfl) ?_
  show XM l E (RX5, "priceTaken", cX5_priceTaken, 4) (some .int) 3 0 [some (.ref o), some (.int a1), some (.int a2), none] [] M M (some (.int r))
  unfold f_X5_priceTaken at h
  refine ex_iload_n dX5_priceTaken_0 rfl ?_
  refine ex_istore_n (L2 := [some (.ref o), some (.int a1), some (.int a2), some (.int a1)]) dX5_priceTaken_1 (by decide) rfl ?_
  refine ex_mskL [true, false, true, true] (L2 := [some (.ref o), none, some (.int a2), some (.int a1)]) rfl ?_
  obtain ⟨q6, hlq6, h⟩ := b1E h
  rcases q6 with u7 | ⟨⟩
  · dsimp only at h
    have hx : XM l E (RX5, "priceTaken", cX5_priceTaken, 4) (some .int) 3 16 [none, none, none, some (.int u7)] [] M M (some (.int r)) := by
      refine ex_iload_n dX5_priceTaken_16 rfl ?_
      cases h
      exact mx_reti .int dX5_priceTaken_17 ⟨rfl, rfl⟩
    clear h
    have key : ∀ (k : Nat) (s : Int32), lp (fun s => w_X5_priceTaken_2 o a2 M s) k s = some (.inl u7) → XM l E (RX5, "priceTaken", cX5_priceTaken, 4) (some .int) 3 2 [some (.ref o), none, some (.int a2), some (.int s)] [] M M (some (.int r)) := lp_ind (P := fun (s : Int32) => XM l E (RX5, "priceTaken", cX5_priceTaken, 4) (some .int) 3 2 [some (.ref o), none, some (.int a2), some (.int s)] [] M M (some (.int r))) (fun s t hb hk he => by
      revert hb hk he; generalize s = i1; intro hb hk he
      show XM l E (RX5, "priceTaken", cX5_priceTaken, 4) (some .int) 3 2 [some (.ref o), none, some (.int a2), some (.int i1)] [] M M (some (.int r))
      change w_X5_priceTaken_2 o a2 M i1 = some t at hb
      unfold w_X5_priceTaken_2 at hb
      refine ex_iload_n dX5_priceTaken_2 rfl ?_
      refine ex_iconst 1 dX5_priceTaken_3 kI_1 ?_
      refine ex_icmp_lt 29 dX5_priceTaken_4 (by decide) (fun c2 => ?_) (fun c2 => ?_)
      · rw [if_pos c2] at hb
        refine ex_mskL [false, false, false, false] (L2 := [none, none, none, none]) rfl ?_
        cases hb
        cases (he _ rfl) <;> exact hx
      · rw [if_neg c2] at hb
        refine ex_aload_n dX5_priceTaken_7 rfl ?_
        refine ex_iload_n dX5_priceTaken_8 rfl ?_
        obtain ⟨x3, qx3, hb⟩ := b1E hb
        refine mx_cVi [.int i1] [] o 5 x3 dX5_priceTaken_9 cl_X5_78 im_X5_firstLimitAtLeast cy_X5_firstLimitAtLeast ho rfl (Nat.le_of_ble_eq_true rfl) (by decide) (t_X5_firstLimitAtLeast l E o i1 ho M qx3) ?_
        refine ex_iconst (-1) dX5_priceTaken_12 kI_m1 ?_
        refine ex_icmp_eq 18 dX5_priceTaken_13 (by decide) (fun c4 => ?_) (fun c4 => ?_)
        · rw [if_pos c4] at hb
          refine ex_iload_n dX5_priceTaken_18 rfl ?_
          refine ex_iconst 1 dX5_priceTaken_19 kI_1 ?_
          refine ex_iload_n dX5_priceTaken_20 rfl ?_
          refine mx_max dX5_priceTaken_21 (tb (i := 1114) (by decide +kernel)) (by decide) (Nat.le_of_ble_eq_true rfl) ?_
          refine ex_isub dX5_priceTaken_24 ?_
          obtain ⟨x5, ex5, hb⟩ := ltE hb
          rw [← ex5]
          refine ex_istore_n (L2 := [some (.ref o), none, some (.int a2), some (.int x5)]) dX5_priceTaken_25 (by decide) rfl ?_
          refine ex_goto 2 dX5_priceTaken_26 (by decide) ?_
          refine ex_mskL [true, false, true, true] (L2 := [some (.ref o), none, some (.int a2), some (.int x5)]) rfl ?_
          cases hb
          exact hk x5 rfl
        · rw [if_neg c4] at hb
          refine ex_mskL [false, false, false, true] (L2 := [none, none, none, some (.int i1)]) rfl ?_
          cases hb
          cases (he _ rfl) <;> exact hx)
    exact key FU a1 hlq6
  · dsimp only at h
    have hx : XM l E (RX5, "priceTaken", cX5_priceTaken, 4) (some .int) 3 29 [none, none, none, none] [] M M (some (.int r)) := by
      refine ex_iconst (-1) dX5_priceTaken_29 kI_m1 ?_
      cases h
      exact mx_reti .int dX5_priceTaken_30 ⟨rfl, rfl⟩
    clear h
    have key : ∀ (k : Nat) (s : Int32), lp (fun s => w_X5_priceTaken_2 o a2 M s) k s = some (.inr ()) → XM l E (RX5, "priceTaken", cX5_priceTaken, 4) (some .int) 3 2 [some (.ref o), none, some (.int a2), some (.int s)] [] M M (some (.int r)) := lp_ind (P := fun (s : Int32) => XM l E (RX5, "priceTaken", cX5_priceTaken, 4) (some .int) 3 2 [some (.ref o), none, some (.int a2), some (.int s)] [] M M (some (.int r))) (fun s t hb hk he => by
      revert hb hk he; generalize s = i1; intro hb hk he
      show XM l E (RX5, "priceTaken", cX5_priceTaken, 4) (some .int) 3 2 [some (.ref o), none, some (.int a2), some (.int i1)] [] M M (some (.int r))
      change w_X5_priceTaken_2 o a2 M i1 = some t at hb
      unfold w_X5_priceTaken_2 at hb
      refine ex_iload_n dX5_priceTaken_2 rfl ?_
      refine ex_iconst 1 dX5_priceTaken_3 kI_1 ?_
      refine ex_icmp_lt 29 dX5_priceTaken_4 (by decide) (fun c2 => ?_) (fun c2 => ?_)
      · rw [if_pos c2] at hb
        refine ex_mskL [false, false, false, false] (L2 := [none, none, none, none]) rfl ?_
        cases hb
        cases (he _ rfl) <;> exact hx
      · rw [if_neg c2] at hb
        refine ex_aload_n dX5_priceTaken_7 rfl ?_
        refine ex_iload_n dX5_priceTaken_8 rfl ?_
        obtain ⟨x3, qx3, hb⟩ := b1E hb
        refine mx_cVi [.int i1] [] o 5 x3 dX5_priceTaken_9 cl_X5_78 im_X5_firstLimitAtLeast cy_X5_firstLimitAtLeast ho rfl (Nat.le_of_ble_eq_true rfl) (by decide) (t_X5_firstLimitAtLeast l E o i1 ho M qx3) ?_
        refine ex_iconst (-1) dX5_priceTaken_12 kI_m1 ?_
        refine ex_icmp_eq 18 dX5_priceTaken_13 (by decide) (fun c4 => ?_) (fun c4 => ?_)
        · rw [if_pos c4] at hb
          refine ex_iload_n dX5_priceTaken_18 rfl ?_
          refine ex_iconst 1 dX5_priceTaken_19 kI_1 ?_
          refine ex_iload_n dX5_priceTaken_20 rfl ?_
          refine mx_max dX5_priceTaken_21 (tb (i := 1114) (by decide +kernel)) (by decide) (Nat.le_of_ble_eq_true rfl) ?_
          refine ex_isub dX5_priceTaken_24 ?_
          obtain ⟨x5, ex5, hb⟩ := ltE hb
          rw [← ex5]
          refine ex_istore_n (L2 := [some (.ref o), none, some (.int a2), some (.int x5)]) dX5_priceTaken_25 (by decide) rfl ?_
          refine ex_goto 2 dX5_priceTaken_26 (by decide) ?_
          refine ex_mskL [true, false, true, true] (L2 := [some (.ref o), none, some (.int a2), some (.int x5)]) rfl ?_
          cases hb
          exact hk x5 rfl
        · rw [if_neg c4] at hb
          refine ex_mskL [false, false, false, true] (L2 := [none, none, none, some (.int i1)]) rfl ?_
          cases hb
          cases (he _ rfl) <;> exact hx)
    exact key FU a1 hlq6
def w_X5_kindsBehind_4 (o : Nat) (a1 : Int32) (M : Mem) (i1 : Int32) (i2 : Int32) : Option ((Int32 × Int32) ⊕ (Int32)) :=
  if (M (o + 7) 3) ≤ i2 then (some (.inr i1)) else (b1 (f_X8_at (o + 7) i2 0 M) fun x4 => if (f_X10_isIn a1 x4) = 0 then (some (.inl (i1, (i2 + 1)))) else (b1 (f_X8_at (o + 7) i2 1 M) fun x6 => lt (i1 ||| (1 <<< (x6 &&& 31))) fun x7 => some (.inl (x7, (i2 + 1)))))
def f_X5_kindsBehind (o : Nat) (a1 : Int32) (M : Mem) : Option (Int32) :=
  b1 (lp (fun s => w_X5_kindsBehind_4 o a1 M s.1 s.2) FU (0, 0)) fun q8 => some q8
set_option maxRecDepth 100000 in
set_option maxHeartbeats 4000000 in
theorem t_X5_kindsBehind (l : Launch) (E : EV) (o : Nat) (a1 : Int32) (ho : oc o = some 5) (M : Mem) {r : Int32} (h : f_X5_kindsBehind o a1 M = some r) : RunM l E yX5_kindsBehind cX5_kindsBehind 4 (some .int) 2 [.ref o, .int a1] M M (some (.int r)) := by
  refine RunM.of (by decide) (Nat.le_of_ble_eq_true rfl) ?_
  show XM l E (RX5, "kindsBehind", cX5_kindsBehind, 4) (some .int) 2 0 [some (.ref o), some (.int a1), none, none] [] M M (some (.int r))
  unfold f_X5_kindsBehind at h
  refine ex_iconst 0 dX5_kindsBehind_0 kI_0 ?_
  refine ex_istore_n (L2 := [some (.ref o), some (.int a1), some (.int 0), none]) dX5_kindsBehind_1 (by decide) rfl ?_
  refine ex_iconst 0 dX5_kindsBehind_2 kI_0 ?_
  refine ex_istore_n (L2 := [some (.ref o), some (.int a1), some (.int 0), some (.int 0)]) dX5_kindsBehind_3 (by decide) rfl ?_
  refine ex_mskL [true, true, true, true] (L2 := [some (.ref o), some (.int a1), some (.int 0), some (.int 0)]) rfl ?_
  obtain ⟨q8, hlq8, h⟩ := b1E h
  have hx : XM l E (RX5, "kindsBehind", cX5_kindsBehind, 4) (some .int) 2 51 [none, none, some (.int q8), none] [] M M (some (.int r)) := by
    refine ex_iload_n dX5_kindsBehind_51 rfl ?_
    cases h
    exact mx_reti .int dX5_kindsBehind_52 ⟨rfl, rfl⟩
  clear h
  have key : ∀ (k : Nat) (s : Int32 × Int32), lp (fun s => w_X5_kindsBehind_4 o a1 M s.1 s.2) k s = some q8 → XM l E (RX5, "kindsBehind", cX5_kindsBehind, 4) (some .int) 2 4 [some (.ref o), some (.int a1), some (.int s.1), some (.int s.2)] [] M M (some (.int r)) := lp_ind (P := fun (s : Int32 × Int32) => XM l E (RX5, "kindsBehind", cX5_kindsBehind, 4) (some .int) 2 4 [some (.ref o), some (.int a1), some (.int s.1), some (.int s.2)] [] M M (some (.int r))) (fun s t hb hk he => by
    obtain ⟨i1, i2⟩ := s
    show XM l E (RX5, "kindsBehind", cX5_kindsBehind, 4) (some .int) 2 4 [some (.ref o), some (.int a1), some (.int i1), some (.int i2)] [] M M (some (.int r))
    change w_X5_kindsBehind_4 o a1 M i1 i2 = some t at hb
    unfold w_X5_kindsBehind_4 at hb
    refine ex_iload_n dX5_kindsBehind_4 rfl ?_
    refine ex_aload_n dX5_kindsBehind_5 rfl ?_
    refine mx_getr 5 (o + 7) dX5_kindsBehind_6 fl_X5_26 ho (rf_5_3 ho) ?_
    refine mx_geti 8 dX5_kindsBehind_9 fl_X5_42 (oc_5_3 ho) (isi_8_3 (oc_5_3 ho)) ?_
    refine ex_icmp_ge 51 dX5_kindsBehind_12 (by decide) (fun c3 => ?_) (fun c3 => ?_)
    · rw [if_pos c3] at hb
      refine ex_mskL [false, false, true, false] (L2 := [none, none, some (.int i1), none]) rfl ?_
      cases hb
      cases (he _ rfl) <;> exact hx
    · rw [if_neg c3] at hb
      refine ex_iload_n dX5_kindsBehind_15 rfl ?_
      refine ex_aload_n dX5_kindsBehind_16 rfl ?_
      refine mx_getr 5 (o + 7) dX5_kindsBehind_17 fl_X5_26 ho (rf_5_3 ho) ?_
      refine ex_iload_n dX5_kindsBehind_20 rfl ?_
      refine ex_iconst 0 dX5_kindsBehind_21 kI_0 ?_
      obtain ⟨x4, qx4, hb⟩ := b1E hb
      refine mx_cVi [.int i2, .int 0] [.int a1] (o + 7) 8 x4 dX5_kindsBehind_22 cl_X5_58 im_X8_at cy_X8_at (oc_5_3 ho) rfl (Nat.le_of_ble_eq_true rfl) (by decide) (t_X8_at l E (o + 7) i2 0 (oc_5_3 ho) M qx4) ?_
      refine mx_cSi [.int a1, .int x4] [] (f_X10_isIn a1 x4) dX5_kindsBehind_25 cl_X5_63 sm_X10_isIn rfl (Nat.le_of_ble_eq_true rfl) (by decide) (t_X10_isIn l E a1 x4 M rfl) ?_
      refine ex_if_eq 45 dX5_kindsBehind_28 (by decide) (fun c5 => ?_) (fun c5 => ?_)
      · rw [if_pos c5] at hb
        refine ex_iinc 1 (L2 := [some (.ref o), some (.int a1), some (.int i1), some (.int (i2 + 1))]) dX5_kindsBehind_45 rfl kI_1 (by decide) rfl ?_
        refine ex_goto 4 dX5_kindsBehind_48 (by decide) ?_
        refine ex_mskL [true, true, true, true] (L2 := [some (.ref o), some (.int a1), some (.int i1), some (.int (i2 + 1))]) rfl ?_
        cases hb
        exact hk (i1, (i2 + 1)) rfl
      · rw [if_neg c5] at hb
        refine ex_iload_n dX5_kindsBehind_31 rfl ?_
        refine ex_iconst 1 dX5_kindsBehind_32 kI_1 ?_
        refine ex_aload_n dX5_kindsBehind_33 rfl ?_
        refine mx_getr 5 (o + 7) dX5_kindsBehind_34 fl_X5_26 ho (rf_5_3 ho) ?_
        refine ex_iload_n dX5_kindsBehind_37 rfl ?_
        refine ex_iconst 1 dX5_kindsBehind_38 kI_1 ?_
        obtain ⟨x6, qx6, hb⟩ := b1E hb
        refine mx_cVi [.int i2, .int 1] [.int 1, .int i1] (o + 7) 8 x6 dX5_kindsBehind_39 cl_X5_58 im_X8_at cy_X8_at (oc_5_3 ho) rfl (Nat.le_of_ble_eq_true rfl) (by decide) (t_X8_at l E (o + 7) i2 1 (oc_5_3 ho) M qx6) ?_
        refine ex_ishl dX5_kindsBehind_42 ?_
        refine ex_ior dX5_kindsBehind_43 ?_
        obtain ⟨x7, ex7, hb⟩ := ltE hb
        rw [← ex7]
        refine ex_istore_n (L2 := [some (.ref o), some (.int a1), some (.int x7), some (.int i2)]) dX5_kindsBehind_44 (by decide) rfl ?_
        refine ex_iinc 1 (L2 := [some (.ref o), some (.int a1), some (.int x7), some (.int (i2 + 1))]) dX5_kindsBehind_45 rfl kI_1 (by decide) rfl ?_
        refine ex_goto 4 dX5_kindsBehind_48 (by decide) ?_
        refine ex_mskL [true, true, true, true] (L2 := [some (.ref o), some (.int a1), some (.int x7), some (.int (i2 + 1))]) rfl ?_
        cases hb
        exact hk (x7, (i2 + 1)) rfl)
  exact key FU (0, 0) hlq8
def w_X5_fewestTradesTo_7 (o : Nat) (a2 : Int32) (M : Mem) (i1 : Int32) (i2 : Int32) : Option ((Int32 × Int32) ⊕ ((Int32) ⊕ (Unit))) :=
  if 6 ≤ i2 then (some (.inr (.inr ()))) else (if (f_X10_isIn i1 a2) = 0 then (b1 (f_X5_kindsBehind o i1 M) fun x5 => some (.inl ((i1 ||| x5), (i2 + 1)))) else (some (.inr (.inl i2))))
def f_X5_fewestTradesTo (o : Nat) (a1 : Int32) (a2 : Int32) (M : Mem) : Option (Int32) :=
  b1 (lp (fun s => w_X5_fewestTradesTo_7 o a2 M s.1 s.2) FU ((1 <<< (a1 &&& 31)), 0)) fun q6 => match q6 with | .inl u7 => (some u7) | .inr u8 => (some (-1))
set_option maxRecDepth 100000 in
set_option maxHeartbeats 4000000 in
theorem t_X5_fewestTradesTo (l : Launch) (E : EV) (o : Nat) (a1 : Int32) (a2 : Int32) (ho : oc o = some 5) (M : Mem) {r : Int32} (h : f_X5_fewestTradesTo o a1 a2 M = some r) : RunM l E yX5_fewestTradesTo cX5_fewestTradesTo 5 (some .int) 3 [.ref o, .int a1, .int a2] M M (some (.int r)) := by
  refine RunM.of (by decide) (Nat.le_of_ble_eq_true rfl) ?_
  show XM l E (RX5, "fewestTradesTo", cX5_fewestTradesTo, 5) (some .int) 3 0 [some (.ref o), some (.int a1), some (.int a2), none, none] [] M M (some (.int r))
  unfold f_X5_fewestTradesTo at h
  refine ex_iconst 1 dX5_fewestTradesTo_0 kI_1 ?_
  refine ex_iload_n dX5_fewestTradesTo_1 rfl ?_
  refine ex_ishl dX5_fewestTradesTo_2 ?_
  refine ex_istore_n (L2 := [some (.ref o), some (.int a1), some (.int a2), some (.int (1 <<< (a1 &&& 31))), none]) dX5_fewestTradesTo_3 (by decide) rfl ?_
  refine ex_iconst 0 dX5_fewestTradesTo_4 kI_0 ?_
  refine ex_istore (L2 := [some (.ref o), some (.int a1), some (.int a2), some (.int (1 <<< (a1 &&& 31))), some (.int 0)]) dX5_fewestTradesTo_5 (by decide) rfl ?_
  refine ex_mskL [true, false, true, true, true] (L2 := [some (.ref o), none, some (.int a2), some (.int (1 <<< (a1 &&& 31))), some (.int 0)]) rfl ?_
  obtain ⟨q6, hlq6, h⟩ := b1E h
  rcases q6 with u7 | ⟨⟩
  · dsimp only at h
    have hx : XM l E (RX5, "fewestTradesTo", cX5_fewestTradesTo, 5) (some .int) 3 22 [none, none, none, none, some (.int u7)] [] M M (some (.int r)) := by
      refine ex_iload dX5_fewestTradesTo_22 rfl ?_
      cases h
      exact mx_reti .int dX5_fewestTradesTo_24 ⟨rfl, rfl⟩
    clear h
    have key : ∀ (k : Nat) (s : Int32 × Int32), lp (fun s => w_X5_fewestTradesTo_7 o a2 M s.1 s.2) k s = some (.inl u7) → XM l E (RX5, "fewestTradesTo", cX5_fewestTradesTo, 5) (some .int) 3 7 [some (.ref o), none, some (.int a2), some (.int s.1), some (.int s.2)] [] M M (some (.int r)) := lp_ind (P := fun (s : Int32 × Int32) => XM l E (RX5, "fewestTradesTo", cX5_fewestTradesTo, 5) (some .int) 3 7 [some (.ref o), none, some (.int a2), some (.int s.1), some (.int s.2)] [] M M (some (.int r))) (fun s t hb hk he => by
      obtain ⟨i1, i2⟩ := s
      show XM l E (RX5, "fewestTradesTo", cX5_fewestTradesTo, 5) (some .int) 3 7 [some (.ref o), none, some (.int a2), some (.int i1), some (.int i2)] [] M M (some (.int r))
      change w_X5_fewestTradesTo_7 o a2 M i1 i2 = some t at hb
      unfold w_X5_fewestTradesTo_7 at hb
      refine ex_iload dX5_fewestTradesTo_7 rfl ?_
      refine ex_bipush 6 dX5_fewestTradesTo_9 kB_6 ?_
      refine ex_icmp_ge 39 dX5_fewestTradesTo_11 (by decide) (fun c3 => ?_) (fun c3 => ?_)
      · rw [if_pos c3] at hb
        refine ex_mskL [false, false, false, false, false] (L2 := [none, none, none, none, none]) rfl ?_
        cases hb
        cases (he _ rfl) <;> exact hx
      · rw [if_neg c3] at hb
        refine ex_iload_n dX5_fewestTradesTo_14 rfl ?_
        refine ex_iload_n dX5_fewestTradesTo_15 rfl ?_
        refine mx_cSi [.int i1, .int a2] [] (f_X10_isIn i1 a2) dX5_fewestTradesTo_16 cl_X5_63 sm_X10_isIn rfl (Nat.le_of_ble_eq_true rfl) (by decide) (t_X10_isIn l E i1 a2 M rfl) ?_
        refine ex_if_eq 25 dX5_fewestTradesTo_19 (by decide) (fun c4 => ?_) (fun c4 => ?_)
        · rw [if_pos c4] at hb
          refine ex_iload_n dX5_fewestTradesTo_25 rfl ?_
          refine ex_aload_n dX5_fewestTradesTo_26 rfl ?_
          refine ex_iload_n dX5_fewestTradesTo_27 rfl ?_
          obtain ⟨x5, qx5, hb⟩ := b1E hb
          refine mx_cVi [.int i1] [.int i1] o 5 x5 dX5_fewestTradesTo_28 cl_X5_82 im_X5_kindsBehind cy_X5_kindsBehind ho rfl (Nat.le_of_ble_eq_true rfl) (by decide) (t_X5_kindsBehind l E o i1 ho M qx5) ?_
          refine ex_ior dX5_fewestTradesTo_31 ?_
          refine ex_istore_n (L2 := [some (.ref o), none, some (.int a2), some (.int (i1 ||| x5)), some (.int i2)]) dX5_fewestTradesTo_32 (by decide) rfl ?_
          refine ex_iinc 1 (L2 := [some (.ref o), none, some (.int a2), some (.int (i1 ||| x5)), some (.int (i2 + 1))]) dX5_fewestTradesTo_33 rfl kI_1 (by decide) rfl ?_
          refine ex_goto 7 dX5_fewestTradesTo_36 (by decide) ?_
          refine ex_mskL [true, false, true, true, true] (L2 := [some (.ref o), none, some (.int a2), some (.int (i1 ||| x5)), some (.int (i2 + 1))]) rfl ?_
          cases hb
          exact hk ((i1 ||| x5), (i2 + 1)) rfl
        · rw [if_neg c4] at hb
          refine ex_mskL [false, false, false, false, true] (L2 := [none, none, none, none, some (.int i2)]) rfl ?_
          cases hb
          cases (he _ rfl) <;> exact hx)
    exact key FU ((1 <<< (a1 &&& 31)), 0) hlq6
  · dsimp only at h
    have hx : XM l E (RX5, "fewestTradesTo", cX5_fewestTradesTo, 5) (some .int) 3 39 [none, none, none, none, none] [] M M (some (.int r)) := by
      refine ex_iconst (-1) dX5_fewestTradesTo_39 kI_m1 ?_
      cases h
      exact mx_reti .int dX5_fewestTradesTo_40 ⟨rfl, rfl⟩
    clear h
    have key : ∀ (k : Nat) (s : Int32 × Int32), lp (fun s => w_X5_fewestTradesTo_7 o a2 M s.1 s.2) k s = some (.inr ()) → XM l E (RX5, "fewestTradesTo", cX5_fewestTradesTo, 5) (some .int) 3 7 [some (.ref o), none, some (.int a2), some (.int s.1), some (.int s.2)] [] M M (some (.int r)) := lp_ind (P := fun (s : Int32 × Int32) => XM l E (RX5, "fewestTradesTo", cX5_fewestTradesTo, 5) (some .int) 3 7 [some (.ref o), none, some (.int a2), some (.int s.1), some (.int s.2)] [] M M (some (.int r))) (fun s t hb hk he => by
      obtain ⟨i1, i2⟩ := s
      show XM l E (RX5, "fewestTradesTo", cX5_fewestTradesTo, 5) (some .int) 3 7 [some (.ref o), none, some (.int a2), some (.int i1), some (.int i2)] [] M M (some (.int r))
      change w_X5_fewestTradesTo_7 o a2 M i1 i2 = some t at hb
      unfold w_X5_fewestTradesTo_7 at hb
      refine ex_iload dX5_fewestTradesTo_7 rfl ?_
      refine ex_bipush 6 dX5_fewestTradesTo_9 kB_6 ?_
      refine ex_icmp_ge 39 dX5_fewestTradesTo_11 (by decide) (fun c3 => ?_) (fun c3 => ?_)
      · rw [if_pos c3] at hb
        refine ex_mskL [false, false, false, false, false] (L2 := [none, none, none, none, none]) rfl ?_
        cases hb
        cases (he _ rfl) <;> exact hx
      · rw [if_neg c3] at hb
        refine ex_iload_n dX5_fewestTradesTo_14 rfl ?_
        refine ex_iload_n dX5_fewestTradesTo_15 rfl ?_
        refine mx_cSi [.int i1, .int a2] [] (f_X10_isIn i1 a2) dX5_fewestTradesTo_16 cl_X5_63 sm_X10_isIn rfl (Nat.le_of_ble_eq_true rfl) (by decide) (t_X10_isIn l E i1 a2 M rfl) ?_
        refine ex_if_eq 25 dX5_fewestTradesTo_19 (by decide) (fun c4 => ?_) (fun c4 => ?_)
        · rw [if_pos c4] at hb
          refine ex_iload_n dX5_fewestTradesTo_25 rfl ?_
          refine ex_aload_n dX5_fewestTradesTo_26 rfl ?_
          refine ex_iload_n dX5_fewestTradesTo_27 rfl ?_
          obtain ⟨x5, qx5, hb⟩ := b1E hb
          refine mx_cVi [.int i1] [.int i1] o 5 x5 dX5_fewestTradesTo_28 cl_X5_82 im_X5_kindsBehind cy_X5_kindsBehind ho rfl (Nat.le_of_ble_eq_true rfl) (by decide) (t_X5_kindsBehind l E o i1 ho M qx5) ?_
          refine ex_ior dX5_fewestTradesTo_31 ?_
          refine ex_istore_n (L2 := [some (.ref o), none, some (.int a2), some (.int (i1 ||| x5)), some (.int i2)]) dX5_fewestTradesTo_32 (by decide) rfl ?_
          refine ex_iinc 1 (L2 := [some (.ref o), none, some (.int a2), some (.int (i1 ||| x5)), some (.int (i2 + 1))]) dX5_fewestTradesTo_33 rfl kI_1 (by decide) rfl ?_
          refine ex_goto 7 dX5_fewestTradesTo_36 (by decide) ?_
          refine ex_mskL [true, false, true, true, true] (L2 := [some (.ref o), none, some (.int a2), some (.int (i1 ||| x5)), some (.int (i2 + 1))]) rfl ?_
          cases hb
          exact hk ((i1 ||| x5), (i2 + 1)) rfl
        · rw [if_neg c4] at hb
          refine ex_mskL [false, false, false, false, true] (L2 := [none, none, none, none, some (.int i2)]) rfl ?_
          cases hb
          cases (he _ rfl) <;> exact hx)
    exact key FU ((1 <<< (a1 &&& 31)), 0) hlq6
def f_J6_bitCount_0f7a4 (a1 : Int32) : (Int32) :=
  lt (a1 - ((ush a1 1) &&& 1431655765)) fun x1 => lt ((x1 &&& 858993459) + ((ush x1 2) &&& 858993459)) fun x2 => lt ((x2 + (ush x2 4)) &&& 252645135) fun x3 => lt ((x3 + (ush x3 8)) + (ush (x3 + (ush x3 8)) 16)) fun x4 => (x4 &&& 63)
set_option maxRecDepth 100000 in
set_option maxHeartbeats 4000000 in
theorem t_J6_bitCount_0f7a4 (l : Launch) (E : EV) (a1 : Int32) (M : Mem) {r : Int32} (h : f_J6_bitCount_0f7a4 a1 = r) : RunM l E yJ6_bitCount_0f7a4 cJ6_bitCount_0f7a4 1 (some .int) 0 [.int a1] M M (some (.int r)) := by
  refine RunM.of (by decide) (Nat.le_of_ble_eq_true rfl) ?_
  show XM l E (RJ6, "bitCount", cJ6_bitCount_0f7a4, 1) (some .int) 0 0 [some (.int a1)] [] M M (some (.int r))
  unfold f_J6_bitCount_0f7a4 at h
  refine ex_iload_n dJ6_bitCount_0f7a4_0 rfl ?_
  refine ex_iload_n dJ6_bitCount_0f7a4_1 rfl ?_
  refine ex_iconst 1 dJ6_bitCount_0f7a4_2 kI_1 ?_
  refine ex_iushr dJ6_bitCount_0f7a4_3 ?_
  refine ex_ldcw 1431655765 dJ6_bitCount_0f7a4_4 (tb (i := 719) (by decide +kernel)) ?_
  refine ex_iand dJ6_bitCount_0f7a4_7 ?_
  refine ex_isub dJ6_bitCount_0f7a4_8 ?_
  obtain ⟨x1, ex1, h⟩ := ltE h
  rw [← ex1]
  refine ex_istore_n (L2 := [some (.int x1)]) dJ6_bitCount_0f7a4_9 (by decide) rfl ?_
  refine ex_iload_n dJ6_bitCount_0f7a4_10 rfl ?_
  refine ex_ldcw 858993459 dJ6_bitCount_0f7a4_11 (tb (i := 720) (by decide +kernel)) ?_
  refine ex_iand dJ6_bitCount_0f7a4_14 ?_
  refine ex_iload_n dJ6_bitCount_0f7a4_15 rfl ?_
  refine ex_iconst 2 dJ6_bitCount_0f7a4_16 kI_2 ?_
  refine ex_iushr dJ6_bitCount_0f7a4_17 ?_
  refine ex_ldcw 858993459 dJ6_bitCount_0f7a4_18 (tb (i := 720) (by decide +kernel)) ?_
  refine ex_iand dJ6_bitCount_0f7a4_21 ?_
  refine ex_iadd dJ6_bitCount_0f7a4_22 ?_
  obtain ⟨x2, ex2, h⟩ := ltE h
  rw [← ex2]
  refine ex_istore_n (L2 := [some (.int x2)]) dJ6_bitCount_0f7a4_23 (by decide) rfl ?_
  refine ex_iload_n dJ6_bitCount_0f7a4_24 rfl ?_
  refine ex_iload_n dJ6_bitCount_0f7a4_25 rfl ?_
  refine ex_iconst 4 dJ6_bitCount_0f7a4_26 kI_4 ?_
  refine ex_iushr dJ6_bitCount_0f7a4_27 ?_
  refine ex_iadd dJ6_bitCount_0f7a4_28 ?_
  refine ex_ldcw 252645135 dJ6_bitCount_0f7a4_29 (tb (i := 721) (by decide +kernel)) ?_
  refine ex_iand dJ6_bitCount_0f7a4_32 ?_
  obtain ⟨x3, ex3, h⟩ := ltE h
  rw [← ex3]
  refine ex_istore_n (L2 := [some (.int x3)]) dJ6_bitCount_0f7a4_33 (by decide) rfl ?_
  refine ex_iload_n dJ6_bitCount_0f7a4_34 rfl ?_
  refine ex_iload_n dJ6_bitCount_0f7a4_35 rfl ?_
  refine ex_bipush 8 dJ6_bitCount_0f7a4_36 kB_8 ?_
  refine ex_iushr dJ6_bitCount_0f7a4_38 ?_
  refine ex_iadd dJ6_bitCount_0f7a4_39 ?_
  refine ex_istore_n (L2 := [some (.int (x3 + (ush x3 8)))]) dJ6_bitCount_0f7a4_40 (by decide) rfl ?_
  refine ex_iload_n dJ6_bitCount_0f7a4_41 rfl ?_
  refine ex_iload_n dJ6_bitCount_0f7a4_42 rfl ?_
  refine ex_bipush 16 dJ6_bitCount_0f7a4_43 kB_16 ?_
  refine ex_iushr dJ6_bitCount_0f7a4_45 ?_
  refine ex_iadd dJ6_bitCount_0f7a4_46 ?_
  obtain ⟨x4, ex4, h⟩ := ltE h
  rw [← ex4]
  refine ex_istore_n (L2 := [some (.int x4)]) dJ6_bitCount_0f7a4_47 (by decide) rfl ?_
  refine ex_iload_n dJ6_bitCount_0f7a4_48 rfl ?_
  refine ex_bipush 63 dJ6_bitCount_0f7a4_49 kB_63 ?_
  refine ex_iand dJ6_bitCount_0f7a4_51 ?_
  subst h
  exact mx_reti .int dJ6_bitCount_0f7a4_52 ⟨rfl, rfl⟩
def w_X5_gains_7 (o : Nat) (a1 : Int32) (M : Mem) (i1 : Int32) (i2 : Int32) (i3 : Int32) : Option ((Int32 × Int32 × Int32) ⊕ (Int32 × Int32)) :=
  if (M (o + 7) 3) ≤ i3 then (some (.inr (i1, i2))) else (if (f_X10_isIn a1 i3) = 0 then (some (.inl (i1, i2, (i3 + 1)))) else (b1 (f_X8_at (o + 7) i3 2 M) fun x6 => b1 (f_X8_at (o + 7) i3 3 M) fun x7 => some (.inl ((i1 * x6), (i2 * x7), (i3 + 1)))))
def f_X5_gains (o : Nat) (a1 : Int32) (M : Mem) : Option (Int32) :=
  b1 (lp (fun s => w_X5_gains_7 o a1 M s.1 s.2.1 s.2.2) FU (1, 1, 0)) fun q8 => lt ((if q8.2 ≤ q8.1 then 0 else 1) : Int32) fun x12 => some x12
set_option maxRecDepth 100000 in
set_option maxHeartbeats 4000000 in
theorem t_X5_gains (l : Launch) (E : EV) (o : Nat) (a1 : Int32) (ho : oc o = some 5) (M : Mem) {r : Int32} (h : f_X5_gains o a1 M = some r) : RunM l E yX5_gains cX5_gains 5 (some .boolean) 2 [.ref o, .int a1] M M (some (.int r)) := by
  refine RunM.of (by decide) (Nat.le_of_ble_eq_true rfl) ?_
  show XM l E (RX5, "gains", cX5_gains, 5) (some .boolean) 2 0 [some (.ref o), some (.int a1), none, none, none] [] M M (some (.int r))
  unfold f_X5_gains at h
  refine ex_iconst 1 dX5_gains_0 kI_1 ?_
  refine ex_istore_n (L2 := [some (.ref o), some (.int a1), some (.int 1), none, none]) dX5_gains_1 (by decide) rfl ?_
  refine ex_iconst 1 dX5_gains_2 kI_1 ?_
  refine ex_istore_n (L2 := [some (.ref o), some (.int a1), some (.int 1), some (.int 1), none]) dX5_gains_3 (by decide) rfl ?_
  refine ex_iconst 0 dX5_gains_4 kI_0 ?_
  refine ex_istore (L2 := [some (.ref o), some (.int a1), some (.int 1), some (.int 1), some (.int 0)]) dX5_gains_5 (by decide) rfl ?_
  refine ex_mskL [true, true, true, true, true] (L2 := [some (.ref o), some (.int a1), some (.int 1), some (.int 1), some (.int 0)]) rfl ?_
  obtain ⟨q8, hlq8, h⟩ := b1E h
  obtain ⟨y9, y10⟩ := q8
  dsimp only at h
  have hx : XM l E (RX5, "gains", cX5_gains, 5) (some .boolean) 2 60 [none, none, some (.int y9), some (.int y10), none] [] M M (some (.int r)) := by
    refine ex_iload_n dX5_gains_60 rfl ?_
    refine ex_iload_n dX5_gains_61 rfl ?_
    obtain ⟨x12, ex12, h⟩ := ltE h
    have Jx12 : XM l E (RX5, "gains", cX5_gains, 5) (some .boolean) 2 70 [none, none, some (.int y9), some (.int y10), none] [.int x12] M M (some (.int r)) := by
      cases h
      exact mx_reti .boolean dX5_gains_70 ⟨rfl, nzB (by rw [ex12]; (repeat' split) <;> simp)⟩
    clear h
    refine ex_icmp_le 69 dX5_gains_62 (by decide) (fun c11 => ?_) (fun c11 => ?_)
    · rw [if_pos c11] at ex12
      refine ex_iconst 0 dX5_gains_69 kI_0 ?_
      subst ex12
      exact Jx12
    · rw [if_neg c11] at ex12
      refine ex_iconst 1 dX5_gains_65 kI_1 ?_
      refine ex_goto 70 dX5_gains_66 (by decide) ?_
      subst ex12
      exact Jx12
  clear h
  have key : ∀ (k : Nat) (s : Int32 × Int32 × Int32), lp (fun s => w_X5_gains_7 o a1 M s.1 s.2.1 s.2.2) k s = some (y9, y10) → XM l E (RX5, "gains", cX5_gains, 5) (some .boolean) 2 7 [some (.ref o), some (.int a1), some (.int s.1), some (.int s.2.1), some (.int s.2.2)] [] M M (some (.int r)) := lp_ind (P := fun (s : Int32 × Int32 × Int32) => XM l E (RX5, "gains", cX5_gains, 5) (some .boolean) 2 7 [some (.ref o), some (.int a1), some (.int s.1), some (.int s.2.1), some (.int s.2.2)] [] M M (some (.int r))) (fun s t hb hk he => by
    obtain ⟨i1, i2, i3⟩ := s
    show XM l E (RX5, "gains", cX5_gains, 5) (some .boolean) 2 7 [some (.ref o), some (.int a1), some (.int i1), some (.int i2), some (.int i3)] [] M M (some (.int r))
    change w_X5_gains_7 o a1 M i1 i2 i3 = some t at hb
    unfold w_X5_gains_7 at hb
    refine ex_iload dX5_gains_7 rfl ?_
    refine ex_aload_n dX5_gains_9 rfl ?_
    refine mx_getr 5 (o + 7) dX5_gains_10 fl_X5_26 ho (rf_5_3 ho) ?_
    refine mx_geti 8 dX5_gains_13 fl_X5_42 (oc_5_3 ho) (isi_8_3 (oc_5_3 ho)) ?_
    refine ex_icmp_ge 60 dX5_gains_16 (by decide) (fun c4 => ?_) (fun c4 => ?_)
    · rw [if_pos c4] at hb
      refine ex_mskL [false, false, true, true, false] (L2 := [none, none, some (.int i1), some (.int i2), none]) rfl ?_
      cases hb
      cases (he _ rfl) <;> exact hx
    · rw [if_neg c4] at hb
      refine ex_iload_n dX5_gains_19 rfl ?_
      refine ex_iload dX5_gains_20 rfl ?_
      refine mx_cSi [.int a1, .int i3] [] (f_X10_isIn a1 i3) dX5_gains_22 cl_X5_63 sm_X10_isIn rfl (Nat.le_of_ble_eq_true rfl) (by decide) (t_X10_isIn l E a1 i3 M rfl) ?_
      refine ex_if_eq 54 dX5_gains_25 (by decide) (fun c5 => ?_) (fun c5 => ?_)
      · rw [if_pos c5] at hb
        refine ex_iinc 1 (L2 := [some (.ref o), some (.int a1), some (.int i1), some (.int i2), some (.int (i3 + 1))]) dX5_gains_54 rfl kI_1 (by decide) rfl ?_
        refine ex_goto 7 dX5_gains_57 (by decide) ?_
        refine ex_mskL [true, true, true, true, true] (L2 := [some (.ref o), some (.int a1), some (.int i1), some (.int i2), some (.int (i3 + 1))]) rfl ?_
        cases hb
        exact hk (i1, i2, (i3 + 1)) rfl
      · rw [if_neg c5] at hb
        refine ex_iload_n dX5_gains_28 rfl ?_
        refine ex_aload_n dX5_gains_29 rfl ?_
        refine mx_getr 5 (o + 7) dX5_gains_30 fl_X5_26 ho (rf_5_3 ho) ?_
        refine ex_iload dX5_gains_33 rfl ?_
        refine ex_iconst 2 dX5_gains_35 kI_2 ?_
        obtain ⟨x6, qx6, hb⟩ := b1E hb
        refine mx_cVi [.int i3, .int 2] [.int i1] (o + 7) 8 x6 dX5_gains_36 cl_X5_58 im_X8_at cy_X8_at (oc_5_3 ho) rfl (Nat.le_of_ble_eq_true rfl) (by decide) (t_X8_at l E (o + 7) i3 2 (oc_5_3 ho) M qx6) ?_
        refine ex_imul dX5_gains_39 ?_
        refine ex_istore_n (L2 := [some (.ref o), some (.int a1), some (.int (i1 * x6)), some (.int i2), some (.int i3)]) dX5_gains_40 (by decide) rfl ?_
        refine ex_iload_n dX5_gains_41 rfl ?_
        refine ex_aload_n dX5_gains_42 rfl ?_
        refine mx_getr 5 (o + 7) dX5_gains_43 fl_X5_26 ho (rf_5_3 ho) ?_
        refine ex_iload dX5_gains_46 rfl ?_
        refine ex_iconst 3 dX5_gains_48 kI_3 ?_
        obtain ⟨x7, qx7, hb⟩ := b1E hb
        refine mx_cVi [.int i3, .int 3] [.int i2] (o + 7) 8 x7 dX5_gains_49 cl_X5_58 im_X8_at cy_X8_at (oc_5_3 ho) rfl (Nat.le_of_ble_eq_true rfl) (by decide) (t_X8_at l E (o + 7) i3 3 (oc_5_3 ho) M qx7) ?_
        refine ex_imul dX5_gains_52 ?_
        refine ex_istore_n (L2 := [some (.ref o), some (.int a1), some (.int (i1 * x6)), some (.int (i2 * x7)), some (.int i3)]) dX5_gains_53 (by decide) rfl ?_
        refine ex_iinc 1 (L2 := [some (.ref o), some (.int a1), some (.int (i1 * x6)), some (.int (i2 * x7)), some (.int (i3 + 1))]) dX5_gains_54 rfl kI_1 (by decide) rfl ?_
        refine ex_goto 7 dX5_gains_57 (by decide) ?_
        refine ex_mskL [true, true, true, true, true] (L2 := [some (.ref o), some (.int a1), some (.int (i1 * x6)), some (.int (i2 * x7)), some (.int (i3 + 1))]) rfl ?_
        cases hb
        exact hk ((i1 * x6), (i2 * x7), (i3 + 1)) rfl)
  exact key FU (1, 1, 0) hlq8
