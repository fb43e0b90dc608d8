def w_X11_meetsWants_70 (x10 : Int32) (i12 : Int32) (M13 : Mem) : Option ((Int32 × Mem) ⊕ (Mem)) :=
  if i12 < 0 then (some (.inr M13)) else (if ((x10 >>> (i12 &&& 31)) &&& 1) = 1 then (b1 (f_X11_goesAway i12 M13) fun M16 => some (.inl ((i12 + (-1)), M16))) else (some (.inl ((i12 + (-1)), M13))))
def w_X11_meetsWants_4 (i1 : Int32) (i2 : Int32) (M3 : Mem) : Option ((Int32 × Int32 × Mem) ⊕ (Int32 × Mem)) :=
  if (M3 156 85) ≤ i2 then (some (.inr (i1, M3))) else (if (f_X11_isMet i2 M3) = 0 then (b1 (f_X11_ofWant i2 2 M3) fun x6 => if (M3 156 0) ≤ x6 then (b1 (f_X11_ofWant i2 0 M3) fun x8 => b1 (f_X11_ofWant i2 1 M3) fun x9 => b1 (f_X11_joinsOf x8 x9 M3) fun x10 => if x10 = (-1) then (some (.inl (i1, (i2 + 1), M3))) else (b1 (lp (fun s => w_X11_meetsWants_70 x10 s.1 s.2) FU (13, M3)) fun q17 => lt (up2 q17 156 6 ((q17 156 6) ||| (1 <<< (i2 &&& 31)))) fun M18 => b1 (f_X11_ofWant i2 3 M18) fun x19 => lt (up2 M18 156 1 ((M18 156 1) + x19)) fun M20 => b1 (f_X11_count x10) fun x21 => b1 (f_X11_notes 5 i2 x21 M20) fun M22 => some (.inl ((i1 + 1), (i2 + 1), M22)))) else (some (.inl (i1, (i2 + 1), M3)))) else (some (.inl (i1, (i2 + 1), M3))))
def f_X11_meetsWants (M : Mem) : Option (Mem × Int32) :=
  b1 (lp (fun s => w_X11_meetsWants_4 s.1 s.2.1 s.2.2) FU (0, 0, M)) fun q23 => some (q23.2, q23.1)
set_option maxRecDepth 100000 in
set_option maxHeartbeats 4000000 in
theorem t_X11_meetsWants (l : Launch) (E : EV) (M : Mem) {M' : Mem} {r : Int32} (h : f_X11_meetsWants M = some (M', r)) : RunM l E yX11_meetsWants cX11_meetsWants 5 (some .int) 4 [.ref 155] M M' (some (.int r)) := by
  refine RunM.of (by decide) (Nat.le_of_ble_eq_true rfl) ?_
  show XM l E (RX11, "meetsWants", cX11_meetsWants, 5) (some .int) 4 0 [some (.ref 155), none, none, none, none] [] M M' (some (.int r))
  unfold f_X11_meetsWants at h
  refine ex_iconst 0 dX11_meetsWants_0 kI_0 ?_
  refine ex_istore_n (L2 := [some (.ref 155), some (.int 0), none, none, none]) dX11_meetsWants_1 (by decide) rfl ?_
  refine ex_iconst 0 dX11_meetsWants_2 kI_0 ?_
  refine ex_istore_n (L2 := [some (.ref 155), some (.int 0), some (.int 0), none, none]) dX11_meetsWants_3 (by decide) rfl ?_
  refine ex_mskL [true, true, true, false, false] (L2 := [some (.ref 155), some (.int 0), some (.int 0), none, none]) rfl ?_
  obtain ⟨q23, hlq23, h⟩ := b1E h
  obtain ⟨y24, M25⟩ := q23
  dsimp only at h
  have hx : XM l E (RX11, "meetsWants", cX11_meetsWants, 5) (some .int) 4 144 [none, some (.int y24), none, none, none] [] M25 M' (some (.int r)) := by
    refine ex_iload_n dX11_meetsWants_144 rfl ?_
    cases h
    exact mx_reti .int dX11_meetsWants_145 ⟨rfl, rfl⟩
  clear h
  have key : ∀ (k : Nat) (s : Int32 × Int32 × Mem), lp (fun s => w_X11_meetsWants_4 s.1 s.2.1 s.2.2) k s = some (y24, M25) → XM l E (RX11, "meetsWants", cX11_meetsWants, 5) (some .int) 4 4 [some (.ref 155), some (.int s.1), some (.int s.2.1), none, none] [] s.2.2 M' (some (.int r)) := lp_ind (P := fun (s : Int32 × Int32 × Mem) => XM l E (RX11, "meetsWants", cX11_meetsWants, 5) (some .int) 4 4 [some (.ref 155), some (.int s.1), some (.int s.2.1), none, none] [] s.2.2 M' (some (.int r))) (fun s t hb hk he => by
    obtain ⟨i1, i2, M3⟩ := s
    show XM l E (RX11, "meetsWants", cX11_meetsWants, 5) (some .int) 4 4 [some (.ref 155), some (.int i1), some (.int i2), none, none] [] M3 M' (some (.int r))
    change w_X11_meetsWants_4 i1 i2 M3 = some t at hb
    unfold w_X11_meetsWants_4 at hb
    refine ex_iload_n dX11_meetsWants_4 rfl ?_
    refine ex_aload_n dX11_meetsWants_5 rfl ?_
    refine mx_getr 11 156 dX11_meetsWants_6 fl_X11_7 oc_at_155 (rf_11_0 oc_at_155) ?_
    refine ex_bipush 85 dX11_meetsWants_9 kB_85 ?_
    refine mx_iald (M3 156 85) dX11_meetsWants_11 (rdc_156_85 _) ?_
    refine ex_icmp_ge 144 dX11_meetsWants_12 (by decide) (fun c4 => ?_) (fun c4 => ?_)
    · rw [if_pos c4] at hb
      refine ex_mskL [false, true, false, false, false] (L2 := [none, some (.int i1), none, none, none]) rfl ?_
      cases hb
      cases (he _ rfl) <;> exact hx
    · rw [if_neg c4] at hb
      refine ex_aload_n dX11_meetsWants_15 rfl ?_
      refine ex_iload_n dX11_meetsWants_16 rfl ?_
      refine mx_cVi [.int i2] [] 155 11 (f_X11_isMet i2 M3) dX11_meetsWants_17 cl_X11_361 im_X11_isMet cy_X11_isMet oc_at_155 rfl (Nat.le_of_ble_eq_true rfl) (by decide) (t_X11_isMet l E i2 M3 rfl) ?_
      refine ex_if_ne 138 dX11_meetsWants_20 (by decide) (fun c5 => ?_) (fun c5 => ?_)
      · rw [if_neg c5] at hb
        refine ex_iinc 1 (L2 := [some (.ref 155), some (.int i1), some (.int (i2 + 1)), none, none]) dX11_meetsWants_138 rfl kI_1 (by decide) rfl ?_
        refine ex_goto 4 dX11_meetsWants_141 (by decide) ?_
        refine ex_mskL [true, true, true, false, false] (L2 := [some (.ref 155), some (.int i1), some (.int (i2 + 1)), none, none]) rfl ?_
        cases hb
        exact hk (i1, (i2 + 1), M3) rfl
      · rw [if_pos c5] at hb
        refine ex_aload_n dX11_meetsWants_23 rfl ?_
        refine mx_getr 11 156 dX11_meetsWants_24 fl_X11_7 oc_at_155 (rf_11_0 oc_at_155) ?_
        refine ex_iconst 0 dX11_meetsWants_27 kI_0 ?_
        refine mx_iald (M3 156 0) dX11_meetsWants_28 (rdc_156_0 _) ?_
        refine ex_aload_n dX11_meetsWants_29 rfl ?_
        refine ex_iload_n dX11_meetsWants_30 rfl ?_
        refine ex_iconst 2 dX11_meetsWants_31 kI_2 ?_
        obtain ⟨x6, qx6, hb⟩ := b1E hb
        refine mx_cVi [.int i2, .int 2] [.int (M3 156 0)] 155 11 x6 dX11_meetsWants_32 cl_X11_364 im_X11_ofWant cy_X11_ofWant oc_at_155 rfl (Nat.le_of_ble_eq_true rfl) (by decide) (t_X11_ofWant l E i2 2 M3 qx6) ?_
        refine ex_icmp_le 41 dX11_meetsWants_35 (by decide) (fun c7 => ?_) (fun c7 => ?_)
        · rw [if_pos c7] at hb
          refine ex_aload_n dX11_meetsWants_41 rfl ?_
          refine ex_aload_n dX11_meetsWants_42 rfl ?_
          refine ex_iload_n dX11_meetsWants_43 rfl ?_
          refine ex_iconst 0 dX11_meetsWants_44 kI_0 ?_
          obtain ⟨x8, qx8, hb⟩ := b1E hb
          refine mx_cVi [.int i2, .int 0] [.ref 155] 155 11 x8 dX11_meetsWants_45 cl_X11_364 im_X11_ofWant cy_X11_ofWant oc_at_155 rfl (Nat.le_of_ble_eq_true rfl) (by decide) (t_X11_ofWant l E i2 0 M3 qx8) ?_
          refine ex_aload_n dX11_meetsWants_48 rfl ?_
          refine ex_iload_n dX11_meetsWants_49 rfl ?_
          refine ex_iconst 1 dX11_meetsWants_50 kI_1 ?_
          obtain ⟨x9, qx9, hb⟩ := b1E hb
          refine mx_cVi [.int i2, .int 1] [.int x8, .ref 155] 155 11 x9 dX11_meetsWants_51 cl_X11_364 im_X11_ofWant cy_X11_ofWant oc_at_155 rfl (Nat.le_of_ble_eq_true rfl) (by decide) (t_X11_ofWant l E i2 1 M3 qx9) ?_
          obtain ⟨x10, qx10, hb⟩ := b1E hb
          refine mx_cVi [.int x8, .int x9] [] 155 11 x10 dX11_meetsWants_54 cl_X11_358 im_X11_joinsOf cy_X11_joinsOf oc_at_155 rfl (Nat.le_of_ble_eq_true rfl) (by decide) (t_X11_joinsOf l E x8 x9 M3 qx10) ?_
          refine ex_istore_n (L2 := [some (.ref 155), some (.int i1), some (.int i2), some (.int x10), none]) dX11_meetsWants_57 (by decide) rfl ?_
          refine ex_iload_n dX11_meetsWants_58 rfl ?_
          refine ex_iconst (-1) dX11_meetsWants_59 kI_m1 ?_
          refine ex_icmp_ne 66 dX11_meetsWants_60 (by decide) (fun c11 => ?_) (fun c11 => ?_)
          · rw [if_neg c11] at hb
            refine ex_bipush 13 dX11_meetsWants_66 kB_13 ?_
            refine ex_istore (L2 := [some (.ref 155), some (.int i1), some (.int i2), some (.int x10), some (.int 13)]) dX11_meetsWants_68 (by decide) rfl ?_
            refine ex_mskL [true, true, true, true, true] (L2 := [some (.ref 155), some (.int i1), some (.int i2), some (.int x10), some (.int 13)]) rfl ?_
            obtain ⟨q17, hlq17, hb⟩ := b1E hb
            have hx : XM l E (RX11, "meetsWants", cX11_meetsWants, 5) (some .int) 4 97 [some (.ref 155), some (.int i1), some (.int i2), some (.int x10), none] [] q17 M' (some (.int r)) := by
              refine ex_aload_n dX11_meetsWants_97 rfl ?_
              refine mx_getr 11 156 dX11_meetsWants_98 fl_X11_7 oc_at_155 (rf_11_0 oc_at_155) ?_
              refine ex_bipush 6 dX11_meetsWants_101 kB_6 ?_
              refine ex_dup2 dX11_meetsWants_103 rfl rfl ?_
              refine mx_iald (q17 156 6) dX11_meetsWants_104 (rdc_156_6 _) ?_
              refine ex_iconst 1 dX11_meetsWants_105 kI_1 ?_
              refine ex_iload_n dX11_meetsWants_106 rfl ?_
              refine ex_ishl dX11_meetsWants_107 ?_
              refine ex_ior dX11_meetsWants_108 ?_
              obtain ⟨M18, eM18, hb⟩ := ltE hb
              refine mx_iast M18 dX11_meetsWants_109 ((wrc_156_6 _ _).trans (congrArg some eM18.symm)) ?_
              refine ex_aload_n dX11_meetsWants_110 rfl ?_
              refine mx_getr 11 156 dX11_meetsWants_111 fl_X11_7 oc_at_155 (rf_11_0 oc_at_155) ?_
              refine ex_iconst 1 dX11_meetsWants_114 kI_1 ?_
              refine ex_dup2 dX11_meetsWants_115 rfl rfl ?_
              refine mx_iald (M18 156 1) dX11_meetsWants_116 (rdc_156_1 _) ?_
              refine ex_aload_n dX11_meetsWants_117 rfl ?_
              refine ex_iload_n dX11_meetsWants_118 rfl ?_
              refine ex_iconst 3 dX11_meetsWants_119 kI_3 ?_
              obtain ⟨x19, qx19, hb⟩ := b1E hb
              refine mx_cVi [.int i2, .int 3] [.int (M18 156 1), .int 1, .ref 156] 155 11 x19 dX11_meetsWants_120 cl_X11_364 im_X11_ofWant cy_X11_ofWant oc_at_155 rfl (Nat.le_of_ble_eq_true rfl) (by decide) (t_X11_ofWant l E i2 3 M18 qx19) ?_
              refine ex_iadd dX11_meetsWants_123 ?_
              obtain ⟨M20, eM20, hb⟩ := ltE hb
              refine mx_iast M20 dX11_meetsWants_124 ((wrc_156_1 _ _).trans (congrArg some eM20.symm)) ?_
              refine ex_aload_n dX11_meetsWants_125 rfl ?_
              refine ex_iconst 5 dX11_meetsWants_126 kI_5 ?_
              refine ex_iload_n dX11_meetsWants_127 rfl ?_
              refine ex_iload_n dX11_meetsWants_128 rfl ?_
              obtain ⟨x21, qx21, hb⟩ := b1E hb
              refine mx_cSi [.int x10] [.int i2, .int 5, .ref 155] x21 dX11_meetsWants_129 cl_X11_345 sm_X11_count rfl (Nat.le_of_ble_eq_true rfl) (by decide) (t_X11_count l E x10 M20 qx21) ?_
              obtain ⟨M22, qM22, hb⟩ := b1E hb
              refine mx_cVv [.int 5, .int i2, .int x21] [] 155 11 dX11_meetsWants_132 cl_X11_323 im_X11_notes cy_X11_notes oc_at_155 rfl (Nat.le_of_ble_eq_true rfl) (by decide) (t_X11_notes l E 5 i2 x21 M20 qM22) ?_
              refine ex_iinc 1 (L2 := [some (.ref 155), some (.int (i1 + 1)), some (.int i2), some (.int x10), none]) dX11_meetsWants_135 rfl kI_1 (by decide) rfl ?_
              refine ex_iinc 1 (L2 := [some (.ref 155), some (.int (i1 + 1)), some (.int (i2 + 1)), some (.int x10), none]) dX11_meetsWants_138 rfl kI_1 (by decide) rfl ?_
              refine ex_goto 4 dX11_meetsWants_141 (by decide) ?_
              refine ex_mskL [true, true, true, false, false] (L2 := [some (.ref 155), some (.int (i1 + 1)), some (.int (i2 + 1)), none, none]) rfl ?_
              cases hb
              exact hk ((i1 + 1), (i2 + 1), M22) rfl
            clear hb
            have key : ∀ (k : Nat) (s : Int32 × Mem), lp (fun s => w_X11_meetsWants_70 x10 s.1 s.2) k s = some q17 → XM l E (RX11, "meetsWants", cX11_meetsWants, 5) (some .int) 4 70 [some (.ref 155), some (.int i1), some (.int i2), some (.int x10), some (.int s.1)] [] s.2 M' (some (.int r)) := lp_ind (P := fun (s : Int32 × Mem) => XM l E (RX11, "meetsWants", cX11_meetsWants, 5) (some .int) 4 70 [some (.ref 155), some (.int i1), some (.int i2), some (.int x10), some (.int s.1)] [] s.2 M' (some (.int r))) (fun s t hb hk he => by
              obtain ⟨i12, M13⟩ := s
              show XM l E (RX11, "meetsWants", cX11_meetsWants, 5) (some .int) 4 70 [some (.ref 155), some (.int i1), some (.int i2), some (.int x10), some (.int i12)] [] M13 M' (some (.int r))
              change w_X11_meetsWants_70 x10 i12 M13 = some t at hb
              unfold w_X11_meetsWants_70 at hb
              refine ex_iload dX11_meetsWants_70 rfl ?_
              refine ex_if_lt 97 dX11_meetsWants_72 (by decide) (fun c14 => ?_) (fun c14 => ?_)
              · rw [if_pos c14] at hb
                refine ex_mskL [true, true, true, true, false] (L2 := [some (.ref 155), some (.int i1), some (.int i2), some (.int x10), none]) rfl ?_
                cases hb
                cases (he _ rfl) <;> exact hx
              · rw [if_neg c14] at hb
                refine ex_iload_n dX11_meetsWants_75 rfl ?_
                refine ex_iload dX11_meetsWants_76 rfl ?_
                refine ex_ishr dX11_meetsWants_78 ?_
                refine ex_iconst 1 dX11_meetsWants_79 kI_1 ?_
                refine ex_iand dX11_meetsWants_80 ?_
                refine ex_iconst 1 dX11_meetsWants_81 kI_1 ?_
                refine ex_icmp_ne 91 dX11_meetsWants_82 (by decide) (fun c15 => ?_) (fun c15 => ?_)
                · rw [if_neg c15] at hb
                  refine ex_iinc (-1) (L2 := [some (.ref 155), some (.int i1), some (.int i2), some (.int x10), some (.int (i12 + (-1)))]) dX11_meetsWants_91 rfl kI_m1 (by decide) rfl ?_
                  refine ex_goto 70 dX11_meetsWants_94 (by decide) ?_
                  refine ex_mskL [true, true, true, true, true] (L2 := [some (.ref 155), some (.int i1), some (.int i2), some (.int x10), some (.int (i12 + (-1)))]) rfl ?_
                  cases hb
                  exact hk ((i12 + (-1)), M13) rfl
                · rw [if_pos c15] at hb
                  refine ex_aload_n dX11_meetsWants_85 rfl ?_
                  refine ex_iload dX11_meetsWants_86 rfl ?_
                  obtain ⟨M16, qM16, hb⟩ := b1E hb
                  refine mx_cVv [.int i12] [] 155 11 dX11_meetsWants_88 cl_X11_338 im_X11_goesAway cy_X11_goesAway oc_at_155 rfl (Nat.le_of_ble_eq_true rfl) (by decide) (t_X11_goesAway l E i12 M13 qM16) ?_
                  refine ex_iinc (-1) (L2 := [some (.ref 155), some (.int i1), some (.int i2), some (.int x10), some (.int (i12 + (-1)))]) dX11_meetsWants_91 rfl kI_m1 (by decide) rfl ?_
                  refine ex_goto 70 dX11_meetsWants_94 (by decide) ?_
                  refine ex_mskL [true, true, true, true, true] (L2 := [some (.ref 155), some (.int i1), some (.int i2), some (.int x10), some (.int (i12 + (-1)))]) rfl ?_
                  cases hb
                  exact hk ((i12 + (-1)), M16) rfl)
            exact key FU (13, M3) hlq17
          · rw [if_pos c11] at hb
            refine ex_goto 138 dX11_meetsWants_63 (by decide) ?_
            refine ex_iinc 1 (L2 := [some (.ref 155), some (.int i1), some (.int (i2 + 1)), some (.int x10), none]) dX11_meetsWants_138 rfl kI_1 (by decide) rfl ?_
            refine ex_goto 4 dX11_meetsWants_141 (by decide) ?_
            refine ex_mskL [true, true, true, false, false] (L2 := [some (.ref 155), some (.int i1), some (.int (i2 + 1)), none, none]) rfl ?_
            cases hb
            exact hk (i1, (i2 + 1), M3) rfl
        · rw [if_neg c7] at hb
          refine ex_goto 138 dX11_meetsWants_38 (by decide) ?_
          refine ex_iinc 1 (L2 := [some (.ref 155), some (.int i1), some (.int (i2 + 1)), none, none]) dX11_meetsWants_138 rfl kI_1 (by decide) rfl ?_
          refine ex_goto 4 dX11_meetsWants_141 (by decide) ?_
          refine ex_mskL [true, true, true, false, false] (L2 := [some (.ref 155), some (.int i1), some (.int (i2 + 1)), none, none]) rfl ?_
          cases hb
          exact hk (i1, (i2 + 1), M3) rfl)
  exact key FU (0, 0, M) hlq23
def f_X11_isSpoilt (a1 : Int32) (M : Mem) : Option (Mem × Int32) :=
  b1 (f_X11_ageOf a1 M) fun x1 => b1 (f_X11_ofRemain a1 0 M) fun x2 => b1 (f_X11_keepsOf x2 M) fun x3 => if x1 < x3 then (if (M 155 26) = 0 then (some (M, 0)) else (b2 (f_X11_spoilOf a1 M) fun M6 x7 => if x7 ≤ 0 then (some (M6, 0)) else (b2 (f_X11_draw 1000 M6) fun M9 x10 => if x7 ≤ x10 then (some (M9, 0)) else (some (M9, 1))))) else (some (M, 1))
set_option maxRecDepth 100000 in
set_option maxHeartbeats 4000000 in
theorem t_X11_isSpoilt (l : Launch) (E : EV) (a1 : Int32) (M : Mem) {M' : Mem} {r : Int32} (h : f_X11_isSpoilt a1 M = some (M', r)) : RunM l E yX11_isSpoilt cX11_isSpoilt 3 (some .boolean) 5 [.ref 155, .int a1] M M' (some (.int r)) := by
  refine RunM.of (by decide) (Nat.le_of_ble_eq_true rfl) ?_
  show XM l E (RX11, "isSpoilt", cX11_isSpoilt, 3) (some .boolean) 5 0 [some (.ref 155), some (.int a1), none] [] M M' (some (.int r))
  unfold f_X11_isSpoilt at h
  refine ex_aload_n dX11_isSpoilt_0 rfl ?_
  refine ex_iload_n dX11_isSpoilt_1 rfl ?_
  obtain ⟨x1, qx1, h⟩ := b1E h
  refine mx_cVi [.int a1] [] 155 11 x1 dX11_isSpoilt_2 cl_X11_303 im_X11_ageOf cy_X11_ageOf oc_at_155 rfl (Nat.le_of_ble_eq_true rfl) (by decide) (t_X11_ageOf l E a1 M qx1) ?_
  refine ex_aload_n dX11_isSpoilt_5 rfl ?_
  refine ex_aload_n dX11_isSpoilt_6 rfl ?_
  refine ex_iload_n dX11_isSpoilt_7 rfl ?_
  refine ex_iconst 0 dX11_isSpoilt_8 kI_0 ?_
  obtain ⟨x2, qx2, h⟩ := b1E h
  refine mx_cVi [.int a1, .int 0] [.ref 155, .int x1] 155 11 x2 dX11_isSpoilt_9 cl_X11_57 im_X11_ofRemain cy_X11_ofRemain oc_at_155 rfl (Nat.le_of_ble_eq_true rfl) (by decide) (t_X11_ofRemain l E a1 0 M qx2) ?_
  obtain ⟨x3, qx3, h⟩ := b1E h
  refine mx_cVi [.int x2] [.int x1] 155 11 x3 dX11_isSpoilt_12 cl_X11_367 im_X11_keepsOf cy_X11_keepsOf oc_at_155 rfl (Nat.le_of_ble_eq_true rfl) (by decide) (t_X11_keepsOf l E x2 M qx3) ?_
  refine ex_icmp_lt 20 dX11_isSpoilt_15 (by decide) (fun c4 => ?_) (fun c4 => ?_)
  · rw [if_pos c4] at h
    refine ex_aload_n dX11_isSpoilt_20 rfl ?_
    refine mx_geti 11 dX11_isSpoilt_21 fl_X11_309 oc_at_155 (isi_11_26 oc_at_155) ?_
    refine ex_if_eq 35 dX11_isSpoilt_24 (by decide) (fun c5 => ?_) (fun c5 => ?_)
    · rw [if_pos c5] at h
      refine ex_iconst 0 dX11_isSpoilt_35 kI_0 ?_
      refine ex_istore_n (L2 := [some (.ref 155), some (.int a1), some (.int 0)]) dX11_isSpoilt_36 (by decide) rfl ?_
      refine ex_iload_n dX11_isSpoilt_37 rfl ?_
      refine ex_if_le 56 dX11_isSpoilt_38 (by decide) (fun _ => ?_) (fun z => absurd (by decide) z)
      refine ex_iconst 0 dX11_isSpoilt_56 kI_0 ?_
      cases h
      exact mx_reti .boolean dX11_isSpoilt_57 ⟨rfl, by decide⟩
    · rw [if_neg c5] at h
      refine ex_aload_n dX11_isSpoilt_27 rfl ?_
      refine ex_iload_n dX11_isSpoilt_28 rfl ?_
      obtain ⟨M6, x7, qx7, h⟩ := b2E h
      refine mx_cVi [.int a1] [] 155 11 x7 dX11_isSpoilt_29 cl_X11_370 im_X11_spoilOf cy_X11_spoilOf oc_at_155 rfl (Nat.le_of_ble_eq_true rfl) (by decide) (t_X11_spoilOf l E a1 M qx7) ?_
      refine ex_goto 36 dX11_isSpoilt_32 (by decide) ?_
      refine ex_istore_n (L2 := [some (.ref 155), some (.int a1), some (.int x7)]) dX11_isSpoilt_36 (by decide) rfl ?_
      refine ex_iload_n dX11_isSpoilt_37 rfl ?_
      refine ex_if_le 56 dX11_isSpoilt_38 (by decide) (fun c8 => ?_) (fun c8 => ?_)
      · rw [if_pos c8] at h
        refine ex_iconst 0 dX11_isSpoilt_56 kI_0 ?_
        cases h
        exact mx_reti .boolean dX11_isSpoilt_57 ⟨rfl, by decide⟩
      · rw [if_neg c8] at h
        refine ex_aload_n dX11_isSpoilt_41 rfl ?_
        refine ex_sipush 1000 dX11_isSpoilt_42 kS_1000 ?_
        obtain ⟨M9, x10, qx10, h⟩ := b2E h
        refine mx_cVi [.int 1000] [] 155 11 x10 dX11_isSpoilt_45 cl_X11_373 im_X11_draw cy_X11_draw oc_at_155 rfl (Nat.le_of_ble_eq_true rfl) (by decide) (t_X11_draw l E 1000 M6 qx10) ?_
        refine ex_iload_n dX11_isSpoilt_48 rfl ?_
        refine ex_icmp_ge 56 dX11_isSpoilt_49 (by decide) (fun c11 => ?_) (fun c11 => ?_)
        · rw [if_pos c11] at h
          refine ex_iconst 0 dX11_isSpoilt_56 kI_0 ?_
          cases h
          exact mx_reti .boolean dX11_isSpoilt_57 ⟨rfl, by decide⟩
        · rw [if_neg c11] at h
          refine ex_iconst 1 dX11_isSpoilt_52 kI_1 ?_
          refine ex_goto 57 dX11_isSpoilt_53 (by decide) ?_
          cases h
          exact mx_reti .boolean dX11_isSpoilt_57 ⟨rfl, by decide⟩
  · rw [if_neg c4] at h
    refine ex_iconst 1 dX11_isSpoilt_18 kI_1 ?_
    cases h
    exact mx_reti .boolean dX11_isSpoilt_19 ⟨rfl, by decide⟩
def w_X11_spoils_2 (i1 : Int32) (M2 : Mem) : Option ((Int32 × Mem) ⊕ (Mem)) :=
  if (M2 156 7) ≤ i1 then (some (.inr M2)) else (b2 (f_X11_isSpoilt i1 M2) fun M4 x5 => if x5 = 0 then (some (.inl ((i1 + 1), M4))) else (b1 (f_X11_ofRemain i1 0 M4) fun x7 => b1 (f_X11_ofRemain i1 1 M4) fun x8 => b1 (f_X11_notes 6 x7 x8 M4) fun M9 => b1 (f_X11_goesAway i1 M9) fun M10 => some (.inl (i1, M10))))
def f_X11_spoils (M : Mem) : Option (Mem) :=
  b1 (lp (fun s => w_X11_spoils_2 s.1 s.2) FU (0, M)) fun q11 => some q11
set_option maxRecDepth 100000 in
set_option maxHeartbeats 4000000 in
theorem t_X11_spoils (l : Launch) (E : EV) (M : Mem) {M' : Mem} (h : f_X11_spoils M = some M') : RunM l E yX11_spoils cX11_spoils 2 none 6 [.ref 155] M M' none := by
  refine RunM.of (by decide) (Nat.le_of_ble_eq_true rfl) ?_
  show XM l E (RX11, "spoils", cX11_spoils, 2) none 6 0 [some (.ref 155), none] [] M M' none
  unfold f_X11_spoils at h
  refine ex_iconst 0 dX11_spoils_0 kI_0 ?_
  refine ex_istore_n (L2 := [some (.ref 155), some (.int 0)]) dX11_spoils_1 (by decide) rfl ?_
  refine ex_mskL [true, true] (L2 := [some (.ref 155), some (.int 0)]) rfl ?_
  obtain ⟨q11, hlq11, h⟩ := b1E h
  have hx : XM l E (RX11, "spoils", cX11_spoils, 2) none 6 53 [none, none] [] q11 M' none := by
    cases h
    exact mx_retv dX11_spoils_53 rfl
  clear h
  have key : ∀ (k : Nat) (s : Int32 × Mem), lp (fun s => w_X11_spoils_2 s.1 s.2) k s = some q11 → XM l E (RX11, "spoils", cX11_spoils, 2) none 6 2 [some (.ref 155), some (.int s.1)] [] s.2 M' none := lp_ind (P := fun (s : Int32 × Mem) => XM l E (RX11, "spoils", cX11_spoils, 2) none 6 2 [some (.ref 155), some (.int s.1)] [] s.2 M' none) (fun s t hb hk he => by
    obtain ⟨i1, M2⟩ := s
    show XM l E (RX11, "spoils", cX11_spoils, 2) none 6 2 [some (.ref 155), some (.int i1)] [] M2 M' none
    change w_X11_spoils_2 i1 M2 = some t at hb
    unfold w_X11_spoils_2 at hb
    refine ex_iload_n dX11_spoils_2 rfl ?_
    refine ex_aload_n dX11_spoils_3 rfl ?_
    refine mx_getr 11 156 dX11_spoils_4 fl_X11_7 oc_at_155 (rf_11_0 oc_at_155) ?_
    refine ex_bipush 7 dX11_spoils_7 kB_7 ?_
    refine mx_iald (M2 156 7) dX11_spoils_9 (rdc_156_7 _) ?_
    refine ex_icmp_ge 53 dX11_spoils_10 (by decide) (fun c3 => ?_) (fun c3 => ?_)
    · rw [if_pos c3] at hb
      refine ex_mskL [false, false] (L2 := [none, none]) rfl ?_
      cases hb
      cases (he _ rfl) <;> exact hx
    · rw [if_neg c3] at hb
      refine ex_aload_n dX11_spoils_13 rfl ?_
      refine ex_iload_n dX11_spoils_14 rfl ?_
      obtain ⟨M4, x5, qx5, hb⟩ := b2E hb
      refine mx_cVi [.int i1] [] 155 11 x5 dX11_spoils_15 cl_X11_376 im_X11_isSpoilt cy_X11_isSpoilt oc_at_155 rfl (Nat.le_of_ble_eq_true rfl) (by decide) (t_X11_isSpoilt l E i1 M2 qx5) ?_
      refine ex_if_eq 47 dX11_spoils_18 (by decide) (fun c6 => ?_) (fun c6 => ?_)
      · rw [if_pos c6] at hb
        refine ex_iinc 1 (L2 := [some (.ref 155), some (.int (i1 + 1))]) dX11_spoils_47 rfl kI_1 (by decide) rfl ?_
        refine ex_goto 2 dX11_spoils_50 (by decide) ?_
        refine ex_mskL [true, true] (L2 := [some (.ref 155), some (.int (i1 + 1))]) rfl ?_
        cases hb
        exact hk ((i1 + 1), M4) rfl
      · rw [if_neg c6] at hb
        refine ex_aload_n dX11_spoils_21 rfl ?_
        refine ex_bipush 6 dX11_spoils_22 kB_6 ?_
        refine ex_aload_n dX11_spoils_24 rfl ?_
        refine ex_iload_n dX11_spoils_25 rfl ?_
        refine ex_iconst 0 dX11_spoils_26 kI_0 ?_
        obtain ⟨x7, qx7, hb⟩ := b1E hb
        refine mx_cVi [.int i1, .int 0] [.int 6, .ref 155] 155 11 x7 dX11_spoils_27 cl_X11_57 im_X11_ofRemain cy_X11_ofRemain oc_at_155 rfl (Nat.le_of_ble_eq_true rfl) (by decide) (t_X11_ofRemain l E i1 0 M4 qx7) ?_
        refine ex_aload_n dX11_spoils_30 rfl ?_
        refine ex_iload_n dX11_spoils_31 rfl ?_
        refine ex_iconst 1 dX11_spoils_32 kI_1 ?_
        obtain ⟨x8, qx8, hb⟩ := b1E hb
        refine mx_cVi [.int i1, .int 1] [.int x7, .int 6, .ref 155] 155 11 x8 dX11_spoils_33 cl_X11_57 im_X11_ofRemain cy_X11_ofRemain oc_at_155 rfl (Nat.le_of_ble_eq_true rfl) (by decide) (t_X11_ofRemain l E i1 1 M4 qx8) ?_
        obtain ⟨M9, qM9, hb⟩ := b1E hb
        refine mx_cVv [.int 6, .int x7, .int x8] [] 155 11 dX11_spoils_36 cl_X11_323 im_X11_notes cy_X11_notes oc_at_155 rfl (Nat.le_of_ble_eq_true rfl) (by decide) (t_X11_notes l E 6 x7 x8 M4 qM9) ?_
        refine ex_aload_n dX11_spoils_39 rfl ?_
        refine ex_iload_n dX11_spoils_40 rfl ?_
        obtain ⟨M10, qM10, hb⟩ := b1E hb
        refine mx_cVv [.int i1] [] 155 11 dX11_spoils_41 cl_X11_338 im_X11_goesAway cy_X11_goesAway oc_at_155 rfl (Nat.le_of_ble_eq_true rfl) (by decide) (t_X11_goesAway l E i1 M9 qM10) ?_
        refine ex_goto 2 dX11_spoils_44 (by decide) ?_
        refine ex_mskL [true, true] (L2 := [some (.ref 155), some (.int i1)]) rfl ?_
        cases hb
        exact hk (i1, M10) rfl)
  exact key FU (0, M) hlq11
def w_X11_inspects_30 (M2 : Mem) (i5 : Int32) : Option ((Int32) ⊕ ((Int32) ⊕ (Unit))) :=
  if (M2 156 7) ≤ i5 then (some (.inr (.inr ()))) else (b1 (f_X11_ofRemain i5 4 M2) fun x7 => if x7 = 0 then (some (.inl (i5 + 1))) else (some (.inr (.inl i5))))
def f_X11_inspects (M : Mem) : Option (Mem) :=
  if (M 156 81) = 0 then (some M) else (b2 (f_X11_draw 1000 M) fun M2 x3 => if x3 < (M2 156 81) then (b1 (lp (fun s => w_X11_inspects_30 M2 s) FU 0) fun q9 => match q9 with | .inl u10 => (lt (up2 M2 156 2 ((M2 156 2) + 1)) fun M11 => lt (up2 M11 156 1 ((M11 156 1) - 50)) fun M12 => b1 (f_X11_ofRemain u10 0 M12) fun x13 => b1 (f_X11_ofRemain u10 1 M12) fun x14 => b1 (f_X11_notes 7 x13 x14 M12) fun M15 => b1 (f_X11_goesAway u10 M15) fun M16 => some M16) | .inr u17 => (some M2)) else (some M2))
set_option maxRecDepth 100000 in
set_option maxHeartbeats 4000000 in
theorem t_X11_inspects (l : Launch) (E : EV) (M : Mem) {M' : Mem} (h : f_X11_inspects M = some M') : RunM l E yX11_inspects cX11_inspects 2 none 1 [.ref 155] M M' none := by
  refine RunM.of (by decide) (Nat.le_of_ble_eq_true rfl) ?_
  show XM l E (RX11, "inspects", cX11_inspects, 2) none 1 0 [some (.ref 155), none] [] M M' none
  unfold f_X11_inspects at h
  refine ex_aload_n dX11_inspects_0 rfl ?_
  refine mx_getr 11 156 dX11_inspects_1 fl_X11_7 oc_at_155 (rf_11_0 oc_at_155) ?_
  refine ex_bipush 81 dX11_inspects_4 kB_81 ?_
  refine mx_iald (M 156 81) dX11_inspects_6 (rdc_156_81 _) ?_
  refine ex_if_eq 27 dX11_inspects_7 (by decide) (fun c1 => ?_) (fun c1 => ?_)
  · rw [if_pos c1] at h
    cases h
    exact mx_retv dX11_inspects_27 rfl
  · rw [if_neg c1] at h
    refine ex_aload_n dX11_inspects_10 rfl ?_
    refine ex_sipush 1000 dX11_inspects_11 kS_1000 ?_
    obtain ⟨M2, x3, qx3, h⟩ := b2E h
    refine mx_cVi [.int 1000] [] 155 11 x3 dX11_inspects_14 cl_X11_373 im_X11_draw cy_X11_draw oc_at_155 rfl (Nat.le_of_ble_eq_true rfl) (by decide) (t_X11_draw l E 1000 M qx3) ?_
    refine ex_aload_n dX11_inspects_17 rfl ?_
    refine mx_getr 11 156 dX11_inspects_18 fl_X11_7 oc_at_155 (rf_11_0 oc_at_155) ?_
    refine ex_bipush 81 dX11_inspects_21 kB_81 ?_
    refine mx_iald (M2 156 81) dX11_inspects_23 (rdc_156_81 _) ?_
    refine ex_icmp_lt 28 dX11_inspects_24 (by decide) (fun c4 => ?_) (fun c4 => ?_)
    · rw [if_pos c4] at h
      refine ex_iconst 0 dX11_inspects_28 kI_0 ?_
      refine ex_istore_n (L2 := [some (.ref 155), some (.int 0)]) dX11_inspects_29 (by decide) rfl ?_
      refine ex_mskL [true, true] (L2 := [some (.ref 155), some (.int 0)]) rfl ?_
      obtain ⟨q9, hlq9, h⟩ := b1E h
      rcases q9 with u10 | ⟨⟩
      · dsimp only at h
        have hx : XM l E (RX11, "inspects", cX11_inspects, 2) none 1 53 [some (.ref 155), some (.int u10)] [] M2 M' none := by
          refine ex_aload_n dX11_inspects_53 rfl ?_
          refine mx_getr 11 156 dX11_inspects_54 fl_X11_7 oc_at_155 (rf_11_0 oc_at_155) ?_
          refine ex_iconst 2 dX11_inspects_57 kI_2 ?_
          refine ex_dup2 dX11_inspects_58 rfl rfl ?_
          refine mx_iald (M2 156 2) dX11_inspects_59 (rdc_156_2 _) ?_
          refine ex_iconst 1 dX11_inspects_60 kI_1 ?_
          refine ex_iadd dX11_inspects_61 ?_
          obtain ⟨M11, eM11, h⟩ := ltE h
          refine mx_iast M11 dX11_inspects_62 ((wrc_156_2 _ _).trans (congrArg some eM11.symm)) ?_
          refine ex_aload_n dX11_inspects_63 rfl ?_
          refine mx_getr 11 156 dX11_inspects_64 fl_X11_7 oc_at_155 (rf_11_0 oc_at_155) ?_
          refine ex_iconst 1 dX11_inspects_67 kI_1 ?_
          refine ex_dup2 dX11_inspects_68 rfl rfl ?_
          refine mx_iald (M11 156 1) dX11_inspects_69 (rdc_156_1 _) ?_
          refine ex_bipush 50 dX11_inspects_70 kB_50 ?_
          refine ex_isub dX11_inspects_72 ?_
          obtain ⟨M12, eM12, h⟩ := ltE h
          refine mx_iast M12 dX11_inspects_73 ((wrc_156_1 _ _).trans (congrArg some eM12.symm)) ?_
          refine ex_aload_n dX11_inspects_74 rfl ?_
          refine ex_bipush 7 dX11_inspects_75 kB_7 ?_
          refine ex_aload_n dX11_inspects_77 rfl ?_
          refine ex_iload_n dX11_inspects_78 rfl ?_
          refine ex_iconst 0 dX11_inspects_79 kI_0 ?_
          obtain ⟨x13, qx13, h⟩ := b1E h
          refine mx_cVi [.int u10, .int 0] [.int 7, .ref 155] 155 11 x13 dX11_inspects_80 cl_X11_57 im_X11_ofRemain cy_X11_ofRemain oc_at_155 rfl (Nat.le_of_ble_eq_true rfl) (by decide) (t_X11_ofRemain l E u10 0 M12 qx13) ?_
          refine ex_aload_n dX11_inspects_83 rfl ?_
          refine ex_iload_n dX11_inspects_84 rfl ?_
          refine ex_iconst 1 dX11_inspects_85 kI_1 ?_
          obtain ⟨x14, qx14, h⟩ := b1E h
          refine mx_cVi [.int u10, .int 1] [.int x13, .int 7, .ref 155] 155 11 x14 dX11_inspects_86 cl_X11_57 im_X11_ofRemain cy_X11_ofRemain oc_at_155 rfl (Nat.le_of_ble_eq_true rfl) (by decide) (t_X11_ofRemain l E u10 1 M12 qx14) ?_
          obtain ⟨M15, qM15, h⟩ := b1E h
          refine mx_cVv [.int 7, .int x13, .int x14] [] 155 11 dX11_inspects_89 cl_X11_323 im_X11_notes cy_X11_notes oc_at_155 rfl (Nat.le_of_ble_eq_true rfl) (by decide) (t_X11_notes l E 7 x13 x14 M12 qM15) ?_
          refine ex_aload_n dX11_inspects_92 rfl ?_
          refine ex_iload_n dX11_inspects_93 rfl ?_
          obtain ⟨M16, qM16, h⟩ := b1E h
          refine mx_cVv [.int u10] [] 155 11 dX11_inspects_94 cl_X11_338 im_X11_goesAway cy_X11_goesAway oc_at_155 rfl (Nat.le_of_ble_eq_true rfl) (by decide) (t_X11_goesAway l E u10 M15 qM16) ?_
          cases h
          exact mx_retv dX11_inspects_97 rfl
        clear h
        have key : ∀ (k : Nat) (s : Int32), lp (fun s => w_X11_inspects_30 M2 s) k s = some (.inl u10) → XM l E (RX11, "inspects", cX11_inspects, 2) none 1 30 [some (.ref 155), some (.int s)] [] M2 M' none := lp_ind (P := fun (s : Int32) => XM l E (RX11, "inspects", cX11_inspects, 2) none 1 30 [some (.ref 155), some (.int s)] [] M2 M' none) (fun s t hb hk he => by
          revert hb hk he; generalize s = i5; intro hb hk he
          show XM l E (RX11, "inspects", cX11_inspects, 2) none 1 30 [some (.ref 155), some (.int i5)] [] M2 M' none
          change w_X11_inspects_30 M2 i5 = some t at hb
          unfold w_X11_inspects_30 at hb
          refine ex_iload_n dX11_inspects_30 rfl ?_
          refine ex_aload_n dX11_inspects_31 rfl ?_
          refine mx_getr 11 156 dX11_inspects_32 fl_X11_7 oc_at_155 (rf_11_0 oc_at_155) ?_
          refine ex_bipush 7 dX11_inspects_35 kB_7 ?_
          refine mx_iald (M2 156 7) dX11_inspects_37 (rdc_156_7 _) ?_
          refine ex_icmp_ge 104 dX11_inspects_38 (by decide) (fun c6 => ?_) (fun c6 => ?_)
          · rw [if_pos c6] at hb
            refine ex_mskL [false, false] (L2 := [none, none]) rfl ?_
            cases hb
            cases (he _ rfl) <;> exact hx
          · rw [if_neg c6] at hb
            refine ex_aload_n dX11_inspects_41 rfl ?_
            refine ex_iload_n dX11_inspects_42 rfl ?_
            refine ex_iconst 4 dX11_inspects_43 kI_4 ?_
            obtain ⟨x7, qx7, hb⟩ := b1E hb
            refine mx_cVi [.int i5, .int 4] [] 155 11 x7 dX11_inspects_44 cl_X11_57 im_X11_ofRemain cy_X11_ofRemain oc_at_155 rfl (Nat.le_of_ble_eq_true rfl) (by decide) (t_X11_ofRemain l E i5 4 M2 qx7) ?_
            refine ex_if_ne 53 dX11_inspects_47 (by decide) (fun c8 => ?_) (fun c8 => ?_)
            · rw [if_neg c8] at hb
              refine ex_mskL [true, true] (L2 := [some (.ref 155), some (.int i5)]) rfl ?_
              cases hb
              cases (he _ rfl) <;> exact hx
            · rw [if_pos c8] at hb
              refine ex_goto 98 dX11_inspects_50 (by decide) ?_
              refine ex_iinc 1 (L2 := [some (.ref 155), some (.int (i5 + 1))]) dX11_inspects_98 rfl kI_1 (by decide) rfl ?_
              refine ex_goto 30 dX11_inspects_101 (by decide) ?_
              refine ex_mskL [true, true] (L2 := [some (.ref 155), some (.int (i5 + 1))]) rfl ?_
              cases hb
              exact hk (i5 + 1) rfl)
        exact key FU 0 hlq9
      · dsimp only at h
        have hx : XM l E (RX11, "inspects", cX11_inspects, 2) none 1 104 [none, none] [] M2 M' none := by
          cases h
          exact mx_retv dX11_inspects_104 rfl
        clear h
        have key : ∀ (k : Nat) (s : Int32), lp (fun s => w_X11_inspects_30 M2 s) k s = some (.inr ()) → XM l E (RX11, "inspects", cX11_inspects, 2) none 1 30 [some (.ref 155), some (.int s)] [] M2 M' none := lp_ind (P := fun (s : Int32) => XM l E (RX11, "inspects", cX11_inspects, 2) none 1 30 [some (.ref 155), some (.int s)] [] M2 M' none) (fun s t hb hk he => by
          revert hb hk he; generalize s = i5; intro hb hk he
          show XM l E (RX11, "inspects", cX11_inspects, 2) none 1 30 [some (.ref 155), some (.int i5)] [] M2 M' none
          change w_X11_inspects_30 M2 i5 = some t at hb
          unfold w_X11_inspects_30 at hb
          refine ex_iload_n dX11_inspects_30 rfl ?_
          refine ex_aload_n dX11_inspects_31 rfl ?_
          refine mx_getr 11 156 dX11_inspects_32 fl_X11_7 oc_at_155 (rf_11_0 oc_at_155) ?_
          refine ex_bipush 7 dX11_inspects_35 kB_7 ?_
          refine mx_iald (M2 156 7) dX11_inspects_37 (rdc_156_7 _) ?_
          refine ex_icmp_ge 104 dX11_inspects_38 (by decide) (fun c6 => ?_) (fun c6 => ?_)
          · rw [if_pos c6] at hb
            refine ex_mskL [false, false] (L2 := [none, none]) rfl ?_
            cases hb
            cases (he _ rfl) <;> exact hx
          · rw [if_neg c6] at hb
            refine ex_aload_n dX11_inspects_41 rfl ?_
            refine ex_iload_n dX11_inspects_42 rfl ?_
            refine ex_iconst 4 dX11_inspects_43 kI_4 ?_
            obtain ⟨x7, qx7, hb⟩ := b1E hb
            refine mx_cVi [.int i5, .int 4] [] 155 11 x7 dX11_inspects_44 cl_X11_57 im_X11_ofRemain cy_X11_ofRemain oc_at_155 rfl (Nat.le_of_ble_eq_true rfl) (by decide) (t_X11_ofRemain l E i5 4 M2 qx7) ?_
            refine ex_if_ne 53 dX11_inspects_47 (by decide) (fun c8 => ?_) (fun c8 => ?_)
            · rw [if_neg c8] at hb
              refine ex_mskL [true, true] (L2 := [some (.ref 155), some (.int i5)]) rfl ?_
              cases hb
              cases (he _ rfl) <;> exact hx
            · rw [if_pos c8] at hb
              refine ex_goto 98 dX11_inspects_50 (by decide) ?_
              refine ex_iinc 1 (L2 := [some (.ref 155), some (.int (i5 + 1))]) dX11_inspects_98 rfl kI_1 (by decide) rfl ?_
              refine ex_goto 30 dX11_inspects_101 (by decide) ?_
              refine ex_mskL [true, true] (L2 := [some (.ref 155), some (.int (i5 + 1))]) rfl ?_
              cases hb
              exact hk (i5 + 1) rfl)
        exact key FU 0 hlq9
    · rw [if_neg c4] at h
      cases h
      exact mx_retv dX11_inspects_27 rfl
def f_X11_dogs (M : Mem) : Option (Mem) :=
  if ((M 156 82) = 0 ∨ (M 156 7) = 0) then (some M) else (b2 (f_X11_draw 1000 M) fun M4 x5 => if x5 < (M4 156 82) then (b2 (f_X11_draw (M4 156 7) M4) fun M7 x8 => b1 (f_X11_ofRemain x8 0 M7) fun x9 => b1 (f_X11_ofRemain x8 1 M7) fun x10 => b1 (f_X11_notes 8 x9 x10 M7) fun M11 => b1 (f_X11_goesAway x8 M11) fun M12 => some M12) else (some M4))
set_option maxRecDepth 100000 in
set_option maxHeartbeats 4000000 in
theorem t_X11_dogs (l : Launch) (E : EV) (M : Mem) {M' : Mem} (h : f_X11_dogs M = some M') : RunM l E yX11_dogs cX11_dogs 2 none 1 [.ref 155] M M' none := by
  refine RunM.of (by decide) (Nat.le_of_ble_eq_true rfl) ?_
  show XM l E (RX11, "dogs", cX11_dogs, 2) none 1 0 [some (.ref 155), none] [] M M' none
  unfold f_X11_dogs at h
  refine ex_aload_n dX11_dogs_0 rfl ?_
  refine mx_getr 11 156 dX11_dogs_1 fl_X11_7 oc_at_155 (rf_11_0 oc_at_155) ?_
  refine ex_bipush 82 dX11_dogs_4 kB_82 ?_
  refine mx_iald (M 156 82) dX11_dogs_6 (rdc_156_82 _) ?_
  have JXC3 : ((M 156 82) = 0 ∨ (M 156 7) = 0) → XM l E (RX11, "dogs", cX11_dogs, 2) none 1 37 [some (.ref 155), none] [] M M' none := fun C3 => by
    rw [if_pos C3] at h
    cases h
    exact mx_retv dX11_dogs_37 rfl
  have JYC3 : ¬ (((M 156 82) = 0 ∨ (M 156 7) = 0)) → XM l E (RX11, "dogs", cX11_dogs, 2) none 1 24 [some (.ref 155), none] [.int 1000, .ref 155] M M' none := fun C3 => by
    rw [if_neg C3] at h
    obtain ⟨M4, x5, qx5, h⟩ := b2E h
    refine mx_cVi [.int 1000] [] 155 11 x5 dX11_dogs_24 cl_X11_373 im_X11_draw cy_X11_draw oc_at_155 rfl (Nat.le_of_ble_eq_true rfl) (by decide) (t_X11_draw l E 1000 M qx5) ?_
    refine ex_aload_n dX11_dogs_27 rfl ?_
    refine mx_getr 11 156 dX11_dogs_28 fl_X11_7 oc_at_155 (rf_11_0 oc_at_155) ?_
    refine ex_bipush 82 dX11_dogs_31 kB_82 ?_
    refine mx_iald (M4 156 82) dX11_dogs_33 (rdc_156_82 _) ?_
    refine ex_icmp_lt 38 dX11_dogs_34 (by decide) (fun c6 => ?_) (fun c6 => ?_)
    · rw [if_pos c6] at h
      refine ex_aload_n dX11_dogs_38 rfl ?_
      refine ex_aload_n dX11_dogs_39 rfl ?_
      refine mx_getr 11 156 dX11_dogs_40 fl_X11_7 oc_at_155 (rf_11_0 oc_at_155) ?_
      refine ex_bipush 7 dX11_dogs_43 kB_7 ?_
      refine mx_iald (M4 156 7) dX11_dogs_45 (rdc_156_7 _) ?_
      obtain ⟨M7, x8, qx8, h⟩ := b2E h
      refine mx_cVi [.int (M4 156 7)] [] 155 11 x8 dX11_dogs_46 cl_X11_373 im_X11_draw cy_X11_draw oc_at_155 rfl (Nat.le_of_ble_eq_true rfl) (by decide) (t_X11_draw l E (M4 156 7) M4 qx8) ?_
      refine ex_istore_n (L2 := [some (.ref 155), some (.int x8)]) dX11_dogs_49 (by decide) rfl ?_
      refine ex_aload_n dX11_dogs_50 rfl ?_
      refine ex_bipush 8 dX11_dogs_51 kB_8 ?_
      refine ex_aload_n dX11_dogs_53 rfl ?_
      refine ex_iload_n dX11_dogs_54 rfl ?_
      refine ex_iconst 0 dX11_dogs_55 kI_0 ?_
      obtain ⟨x9, qx9, h⟩ := b1E h
      refine mx_cVi [.int x8, .int 0] [.int 8, .ref 155] 155 11 x9 dX11_dogs_56 cl_X11_57 im_X11_ofRemain cy_X11_ofRemain oc_at_155 rfl (Nat.le_of_ble_eq_true rfl) (by decide) (t_X11_ofRemain l E x8 0 M7 qx9) ?_
      refine ex_aload_n dX11_dogs_59 rfl ?_
      refine ex_iload_n dX11_dogs_60 rfl ?_
      refine ex_iconst 1 dX11_dogs_61 kI_1 ?_
      obtain ⟨x10, qx10, h⟩ := b1E h
      refine mx_cVi [.int x8, .int 1] [.int x9, .int 8, .ref 155] 155 11 x10 dX11_dogs_62 cl_X11_57 im_X11_ofRemain cy_X11_ofRemain oc_at_155 rfl (Nat.le_of_ble_eq_true rfl) (by decide) (t_X11_ofRemain l E x8 1 M7 qx10) ?_
      obtain ⟨M11, qM11, h⟩ := b1E h
      refine mx_cVv [.int 8, .int x9, .int x10] [] 155 11 dX11_dogs_65 cl_X11_323 im_X11_notes cy_X11_notes oc_at_155 rfl (Nat.le_of_ble_eq_true rfl) (by decide) (t_X11_notes l E 8 x9 x10 M7 qM11) ?_
      refine ex_aload_n dX11_dogs_68 rfl ?_
      refine ex_iload_n dX11_dogs_69 rfl ?_
      obtain ⟨M12, qM12, h⟩ := b1E h
      refine mx_cVv [.int x8] [] 155 11 dX11_dogs_70 cl_X11_338 im_X11_goesAway cy_X11_goesAway oc_at_155 rfl (Nat.le_of_ble_eq_true rfl) (by decide) (t_X11_goesAway l E x8 M11 qM12) ?_
      cases h
      exact mx_retv dX11_dogs_73 rfl
    · rw [if_neg c6] at h
      cases h
      exact mx_retv dX11_dogs_37 rfl
  clear h
  refine ex_if_eq 37 dX11_dogs_7 (by decide) (fun c1 => ?_) (fun c1 => ?_)
  · exact JXC3 (Or.inl c1)
  · refine ex_aload_n dX11_dogs_10 rfl ?_
    refine mx_getr 11 156 dX11_dogs_11 fl_X11_7 oc_at_155 (rf_11_0 oc_at_155) ?_
    refine ex_bipush 7 dX11_dogs_14 kB_7 ?_
    refine mx_iald (M 156 7) dX11_dogs_16 (rdc_156_7 _) ?_
    refine ex_if_eq 37 dX11_dogs_17 (by decide) (fun c2 => ?_) (fun c2 => ?_)
    · exact JXC3 (Or.inr c2)
    · refine ex_aload_n dX11_dogs_20 rfl ?_
      refine ex_sipush 1000 dX11_dogs_21 kS_1000 ?_
      exact JYC3 (fun z => z.elim c1 c2)
def w_X11_morning_2 (i1 : Int32) (M2 : Mem) : Option ((Int32 × Mem) ⊕ (Mem)) :=
  if (M2 156 84) ≤ i1 then (some (.inr M2)) else (b1 (rd M2 156 (103 + (3 * i1))) fun x4 => if x4 = (M2 156 0) then (b1 (rd M2 156 ((103 + (3 * i1)) + 1)) fun x6 => b1 (rd M2 156 ((103 + (3 * i1)) + 2)) fun x7 => b2 (f_X11_feasts x6 x7 M2) fun M8 x9 => some (.inl ((i1 + 1), M8))) else (some (.inl ((i1 + 1), M2))))
def f_X11_morning (M : Mem) : Option (Mem × Int32) :=
  b1 (lp (fun s => w_X11_morning_2 s.1 s.2) FU (0, M)) fun q10 => b2 (f_X11_meetsWants q10) fun M11 x12 => some (M11, x12)
set_option maxRecDepth 100000 in
set_option maxHeartbeats 4000000 in
theorem t_X11_morning (l : Launch) (E : EV) (M : Mem) {M' : Mem} {r : Int32} (h : f_X11_morning M = some (M', r)) : RunM l E yX11_morning cX11_morning 2 (some .int) 6 [.ref 155] M M' (some (.int r)) := by
  refine RunM.of (by decide) (Nat.le_of_ble_eq_true rfl) ?_
  show XM l E (RX11, "morning", cX11_morning, 2) (some .int) 6 0 [some (.ref 155), none] [] M M' (some (.int r))
  unfold f_X11_morning at h
  refine ex_iconst 0 dX11_morning_0 kI_0 ?_
  refine ex_istore_n (L2 := [some (.ref 155), some (.int 0)]) dX11_morning_1 (by decide) rfl ?_
  refine ex_mskL [true, true] (L2 := [some (.ref 155), some (.int 0)]) rfl ?_
  obtain ⟨q10, hlq10, h⟩ := b1E h
  have hx : XM l E (RX11, "morning", cX11_morning, 2) (some .int) 6 70 [some (.ref 155), none] [] q10 M' (some (.int r)) := by
    refine ex_aload_n dX11_morning_70 rfl ?_
    obtain ⟨M11, x12, qx12, h⟩ := b2E h
    refine mx_cVi [] [] 155 11 x12 dX11_morning_71 cl_X11_379 im_X11_meetsWants cy_X11_meetsWants oc_at_155 rfl (Nat.le_of_ble_eq_true rfl) (by decide) (t_X11_meetsWants l E q10 qx12) ?_
    cases h
    exact mx_reti .int dX11_morning_74 ⟨rfl, rfl⟩
  clear h
  have key : ∀ (k : Nat) (s : Int32 × Mem), lp (fun s => w_X11_morning_2 s.1 s.2) k s = some q10 → XM l E (RX11, "morning", cX11_morning, 2) (some .int) 6 2 [some (.ref 155), some (.int s.1)] [] s.2 M' (some (.int r)) := lp_ind (P := fun (s : Int32 × Mem) => XM l E (RX11, "morning", cX11_morning, 2) (some .int) 6 2 [some (.ref 155), some (.int s.1)] [] s.2 M' (some (.int r))) (fun s t hb hk he => by
    obtain ⟨i1, M2⟩ := s
    show XM l E (RX11, "morning", cX11_morning, 2) (some .int) 6 2 [some (.ref 155), some (.int i1)] [] M2 M' (some (.int r))
    change w_X11_morning_2 i1 M2 = some t at hb
    unfold w_X11_morning_2 at hb
    refine ex_iload_n dX11_morning_2 rfl ?_
    refine ex_aload_n dX11_morning_3 rfl ?_
    refine mx_getr 11 156 dX11_morning_4 fl_X11_7 oc_at_155 (rf_11_0 oc_at_155) ?_
    refine ex_bipush 84 dX11_morning_7 kB_84 ?_
    refine mx_iald (M2 156 84) dX11_morning_9 (rdc_156_84 _) ?_
    refine ex_icmp_ge 70 dX11_morning_10 (by decide) (fun c3 => ?_) (fun c3 => ?_)
    · rw [if_pos c3] at hb
      refine ex_mskL [true, false] (L2 := [some (.ref 155), none]) rfl ?_
      cases hb
      cases (he _ rfl) <;> exact hx
    · rw [if_neg c3] at hb
      refine ex_aload_n dX11_morning_13 rfl ?_
      refine mx_getr 11 156 dX11_morning_14 fl_X11_7 oc_at_155 (rf_11_0 oc_at_155) ?_
      refine ex_bipush 103 dX11_morning_17 kB_103 ?_
      refine ex_iconst 3 dX11_morning_19 kI_3 ?_
      refine ex_iload_n dX11_morning_20 rfl ?_
      refine ex_imul dX11_morning_21 ?_
      refine ex_iadd dX11_morning_22 ?_
      obtain ⟨x4, qx4, hb⟩ := b1E hb
      refine mx_iald x4 dX11_morning_23 qx4 ?_
      refine ex_aload_n dX11_morning_24 rfl ?_
      refine mx_getr 11 156 dX11_morning_25 fl_X11_7 oc_at_155 (rf_11_0 oc_at_155) ?_
      refine ex_iconst 0 dX11_morning_28 kI_0 ?_
      refine mx_iald (M2 156 0) dX11_morning_29 (rdc_156_0 _) ?_
      refine ex_icmp_ne 64 dX11_morning_30 (by decide) (fun c5 => ?_) (fun c5 => ?_)
      · rw [if_neg c5] at hb
        refine ex_iinc 1 (L2 := [some (.ref 155), some (.int (i1 + 1))]) dX11_morning_64 rfl kI_1 (by decide) rfl ?_
        refine ex_goto 2 dX11_morning_67 (by decide) ?_
        refine ex_mskL [true, true] (L2 := [some (.ref 155), some (.int (i1 + 1))]) rfl ?_
        cases hb
        exact hk ((i1 + 1), M2) rfl
      · rw [if_pos c5] at hb
        refine ex_aload_n dX11_morning_33 rfl ?_
        refine ex_aload_n dX11_morning_34 rfl ?_
        refine mx_getr 11 156 dX11_morning_35 fl_X11_7 oc_at_155 (rf_11_0 oc_at_155) ?_
        refine ex_bipush 103 dX11_morning_38 kB_103 ?_
        refine ex_iconst 3 dX11_morning_40 kI_3 ?_
        refine ex_iload_n dX11_morning_41 rfl ?_
        refine ex_imul dX11_morning_42 ?_
        refine ex_iadd dX11_morning_43 ?_
        refine ex_iconst 1 dX11_morning_44 kI_1 ?_
        refine ex_iadd dX11_morning_45 ?_
        obtain ⟨x6, qx6, hb⟩ := b1E hb
        refine mx_iald x6 dX11_morning_46 qx6 ?_
        refine ex_aload_n dX11_morning_47 rfl ?_
        refine mx_getr 11 156 dX11_morning_48 fl_X11_7 oc_at_155 (rf_11_0 oc_at_155) ?_
        refine ex_bipush 103 dX11_morning_51 kB_103 ?_
        refine ex_iconst 3 dX11_morning_53 kI_3 ?_
        refine ex_iload_n dX11_morning_54 rfl ?_
        refine ex_imul dX11_morning_55 ?_
        refine ex_iadd dX11_morning_56 ?_
        refine ex_iconst 2 dX11_morning_57 kI_2 ?_
        refine ex_iadd dX11_morning_58 ?_
        obtain ⟨x7, qx7, hb⟩ := b1E hb
        refine mx_iald x7 dX11_morning_59 qx7 ?_
        obtain ⟨M8, x9, qx9, hb⟩ := b2E hb
        refine mx_cVi [.int x6, .int x7] [] 155 11 x9 dX11_morning_60 cl_X11_329 im_X11_feasts cy_X11_feasts oc_at_155 rfl (Nat.le_of_ble_eq_true rfl) (by decide) (t_X11_feasts l E x6 x7 M2 qx9) ?_
        refine ex_pop dX11_morning_63 rfl ?_
        refine ex_iinc 1 (L2 := [some (.ref 155), some (.int (i1 + 1))]) dX11_morning_64 rfl kI_1 (by decide) rfl ?_
        refine ex_goto 2 dX11_morning_67 (by decide) ?_
        refine ex_mskL [true, true] (L2 := [some (.ref 155), some (.int (i1 + 1))]) rfl ?_
        cases hb
        exact hk ((i1 + 1), M8) rfl)
  exact key FU (0, M) hlq10
def f_X11_evening (M : Mem) : Option (Mem) :=
  b1 (f_X11_spoils M) fun M1 => if (M1 155 26) = 0 then (if (M1 155 26) = 0 then (lt (up2 M1 156 0 ((M1 156 0) + 1)) fun M4 => some M4) else (b1 (f_X11_dogs M1) fun M5 => lt (up2 M5 156 0 ((M5 156 0) + 1)) fun M6 => some M6)) else (b1 (f_X11_inspects M1) fun M7 => if (M7 155 26) = 0 then (lt (up2 M7 156 0 ((M7 156 0) + 1)) fun M9 => some M9) else (b1 (f_X11_dogs M7) fun M10 => lt (up2 M10 156 0 ((M10 156 0) + 1)) fun M11 => some M11))
set_option maxRecDepth 100000 in
set_option maxHeartbeats 4000000 in
theorem t_X11_evening (l : Launch) (E : EV) (M : Mem) {M' : Mem} (h : f_X11_evening M = some M') : RunM l E yX11_evening cX11_evening 1 none 7 [.ref 155] M M' none := by
  refine RunM.of (by decide) (Nat.le_of_ble_eq_true rfl) ?_
  show XM l E (RX11, "evening", cX11_evening, 1) none 7 0 [some (.ref 155)] [] M M' none
  unfold f_X11_evening at h
  refine ex_aload_n dX11_evening_0 rfl ?_
  obtain ⟨M1, qM1, h⟩ := b1E h
  refine mx_cVv [] [] 155 11 dX11_evening_1 cl_X11_382 im_X11_spoils cy_X11_spoils oc_at_155 rfl (Nat.le_of_ble_eq_true rfl) (by decide) (t_X11_spoils l E M qM1) ?_
  refine ex_aload_n dX11_evening_4 rfl ?_
  refine mx_geti 11 dX11_evening_5 fl_X11_309 oc_at_155 (isi_11_26 oc_at_155) ?_
  refine ex_if_eq 15 dX11_evening_8 (by decide) (fun c2 => ?_) (fun c2 => ?_)
  · rw [if_pos c2] at h
    refine ex_aload_n dX11_evening_15 rfl ?_
    refine mx_geti 11 dX11_evening_16 fl_X11_309 oc_at_155 (isi_11_26 oc_at_155) ?_
    refine ex_if_eq 26 dX11_evening_19 (by decide) (fun c3 => ?_) (fun c3 => ?_)
    · rw [if_pos c3] at h
      refine ex_aload_n dX11_evening_26 rfl ?_
      refine mx_getr 11 156 dX11_evening_27 fl_X11_7 oc_at_155 (rf_11_0 oc_at_155) ?_
      refine ex_iconst 0 dX11_evening_30 kI_0 ?_
      refine ex_dup2 dX11_evening_31 rfl rfl ?_
      refine mx_iald (M1 156 0) dX11_evening_32 (rdc_156_0 _) ?_
      refine ex_iconst 1 dX11_evening_33 kI_1 ?_
      refine ex_iadd dX11_evening_34 ?_
      obtain ⟨M4, eM4, h⟩ := ltE h
      refine mx_iast M4 dX11_evening_35 ((wrc_156_0 _ _).trans (congrArg some eM4.symm)) ?_
      cases h
      exact mx_retv dX11_evening_36 rfl
    · rw [if_neg c3] at h
      refine ex_aload_n dX11_evening_22 rfl ?_
      obtain ⟨M5, qM5, h⟩ := b1E h
      refine mx_cVv [] [] 155 11 dX11_evening_23 cl_X11_388 im_X11_dogs cy_X11_dogs oc_at_155 rfl (Nat.le_of_ble_eq_true rfl) (by decide) (t_X11_dogs l E M1 qM5) ?_
      refine ex_aload_n dX11_evening_26 rfl ?_
      refine mx_getr 11 156 dX11_evening_27 fl_X11_7 oc_at_155 (rf_11_0 oc_at_155) ?_
      refine ex_iconst 0 dX11_evening_30 kI_0 ?_
      refine ex_dup2 dX11_evening_31 rfl rfl ?_
      refine mx_iald (M5 156 0) dX11_evening_32 (rdc_156_0 _) ?_
      refine ex_iconst 1 dX11_evening_33 kI_1 ?_
      refine ex_iadd dX11_evening_34 ?_
      obtain ⟨M6, eM6, h⟩ := ltE h
      refine mx_iast M6 dX11_evening_35 ((wrc_156_0 _ _).trans (congrArg some eM6.symm)) ?_
      cases h
      exact mx_retv dX11_evening_36 rfl
  · rw [if_neg c2] at h
    refine ex_aload_n dX11_evening_11 rfl ?_
    obtain ⟨M7, qM7, h⟩ := b1E h
    refine mx_cVv [] [] 155 11 dX11_evening_12 cl_X11_385 im_X11_inspects cy_X11_inspects oc_at_155 rfl (Nat.le_of_ble_eq_true rfl) (by decide) (t_X11_inspects l E M1 qM7) ?_
    refine ex_aload_n dX11_evening_15 rfl ?_
    refine mx_geti 11 dX11_evening_16 fl_X11_309 oc_at_155 (isi_11_26 oc_at_155) ?_
    refine ex_if_eq 26 dX11_evening_19 (by decide) (fun c8 => ?_) (fun c8 => ?_)
    · rw [if_pos c8] at h
      refine ex_aload_n dX11_evening_26 rfl ?_
      refine mx_getr 11 156 dX11_evening_27 fl_X11_7 oc_at_155 (rf_11_0 oc_at_155) ?_
      refine ex_iconst 0 dX11_evening_30 kI_0 ?_
      refine ex_dup2 dX11_evening_31 rfl rfl ?_
      refine mx_iald (M7 156 0) dX11_evening_32 (rdc_156_0 _) ?_
      refine ex_iconst 1 dX11_evening_33 kI_1 ?_
      refine ex_iadd dX11_evening_34 ?_
      obtain ⟨M9, eM9, h⟩ := ltE h
      refine mx_iast M9 dX11_evening_35 ((wrc_156_0 _ _).trans (congrArg some eM9.symm)) ?_
      cases h
      exact mx_retv dX11_evening_36 rfl
    · rw [if_neg c8] at h
      refine ex_aload_n dX11_evening_22 rfl ?_
      obtain ⟨M10, qM10, h⟩ := b1E h
      refine mx_cVv [] [] 155 11 dX11_evening_23 cl_X11_388 im_X11_dogs cy_X11_dogs oc_at_155 rfl (Nat.le_of_ble_eq_true rfl) (by decide) (t_X11_dogs l E M7 qM10) ?_
      refine ex_aload_n dX11_evening_26 rfl ?_
      refine mx_getr 11 156 dX11_evening_27 fl_X11_7 oc_at_155 (rf_11_0 oc_at_155) ?_
      refine ex_iconst 0 dX11_evening_30 kI_0 ?_
      refine ex_dup2 dX11_evening_31 rfl rfl ?_
      refine mx_iald (M10 156 0) dX11_evening_32 (rdc_156_0 _) ?_
      refine ex_iconst 1 dX11_evening_33 kI_1 ?_
      refine ex_iadd dX11_evening_34 ?_
      obtain ⟨M11, eM11, h⟩ := ltE h
      refine mx_iast M11 dX11_evening_35 ((wrc_156_0 _ _).trans (congrArg some eM11.symm)) ?_
      cases h
      exact mx_retv dX11_evening_36 rfl
def w_X11_days_30 (a1 : Int32) (i4 : Int32) (i5 : Int32) (M6 : Mem) : Option ((Int32 × Int32 × Mem) ⊕ (Int32 × Mem)) :=
  if a1 ≤ i5 then (some (.inr (i4, M6))) else (b1 (f_X11_keeps M6) fun M8 => b2 (f_X11_morning M8) fun M9 x10 => b1 (f_X11_evening M9) fun M11 => some (.inl ((i4 + x10), (i5 + 1), M11)))
def f_X11_days (a1 : Int32) (M : Mem) : Option (Mem × Int32) :=
  if ((f_X11_isIn a1 1 60) = 0 ∨ ¬ (((M 156 0) + a1) ≤ 9999)) then (some (M, (-1))) else (b1 (lp (fun s => w_X11_days_30 a1 s.1 s.2.1 s.2.2) FU (0, 0, M)) fun q12 => some (q12.2, q12.1))
set_option maxRecDepth 100000 in
set_option maxHeartbeats 4000000 in
theorem t_X11_days (l : Launch) (E : EV) (a1 : Int32) (M : Mem) {M' : Mem} {r : Int32} (h : f_X11_days a1 M = some (M', r)) : RunM l E yX11_days cX11_days 4 (some .int) 8 [.ref 155, .int a1] M M' (some (.int r)) := by
  refine RunM.of (by decide) (Nat.le_of_ble_eq_true rfl) ?_
  show XM l E (RX11, "days", cX11_days, 4) (some .int) 8 0 [some (.ref 155), some (.int a1), none, none] [] M M' (some (.int r))
  unfold f_X11_days at h
  refine ex_iload_n dX11_days_0 rfl ?_
  refine ex_iconst 1 dX11_days_1 kI_1 ?_
  refine ex_bipush 60 dX11_days_2 kB_60 ?_
  refine mx_cSi [.int a1, .int 1, .int 60] [] (f_X11_isIn a1 1 60) dX11_days_4 cl_X11_53 sm_X11_isIn rfl (Nat.le_of_ble_eq_true rfl) (by decide) (t_X11_isIn l E a1 1 60 M rfl) ?_
  have JXC3 : ((f_X11_isIn a1 1 60) = 0 ∨ ¬ (((M 156 0) + a1) ≤ 9999)) → XM l E (RX11, "days", cX11_days, 4) (some .int) 8 24 [some (.ref 155), some (.int a1), none, none] [] M M' (some (.int r)) := fun C3 => by
    rw [if_pos C3] at h
    refine ex_iconst (-1) dX11_days_24 kI_m1 ?_
    cases h
    exact mx_reti .int dX11_days_25 ⟨rfl, rfl⟩
  have JYC3 : ¬ (((f_X11_isIn a1 1 60) = 0 ∨ ¬ (((M 156 0) + a1) ≤ 9999))) → XM l E (RX11, "days", cX11_days, 4) (some .int) 8 27 [some (.ref 155), some (.int a1), none, none] [.int 0] M M' (some (.int r)) := fun C3 => by
    rw [if_neg C3] at h
    refine ex_istore_n (L2 := [some (.ref 155), some (.int a1), some (.int 0), none]) dX11_days_27 (by decide) rfl ?_
    refine ex_iconst 0 dX11_days_28 kI_0 ?_
    refine ex_istore_n (L2 := [some (.ref 155), some (.int a1), some (.int 0), some (.int 0)]) dX11_days_29 (by decide) rfl ?_
    refine ex_mskL [true, true, true, true] (L2 := [some (.ref 155), some (.int a1), some (.int 0), some (.int 0)]) rfl ?_
    obtain ⟨q12, hlq12, h⟩ := b1E h
    obtain ⟨y13, M14⟩ := q12
    dsimp only at h
    have hx : XM l E (RX11, "days", cX11_days, 4) (some .int) 8 56 [none, none, some (.int y13), none] [] M14 M' (some (.int r)) := by
      refine ex_iload_n dX11_days_56 rfl ?_
      cases h
      exact mx_reti .int dX11_days_57 ⟨rfl, rfl⟩
    clear h
    have key : ∀ (k : Nat) (s : Int32 × Int32 × Mem), lp (fun s => w_X11_days_30 a1 s.1 s.2.1 s.2.2) k s = some (y13, M14) → XM l E (RX11, "days", cX11_days, 4) (some .int) 8 30 [some (.ref 155), some (.int a1), some (.int s.1), some (.int s.2.1)] [] s.2.2 M' (some (.int r)) := lp_ind (P := fun (s : Int32 × Int32 × Mem) => XM l E (RX11, "days", cX11_days, 4) (some .int) 8 30 [some (.ref 155), some (.int a1), some (.int s.1), some (.int s.2.1)] [] s.2.2 M' (some (.int r))) (fun s t hb hk he => by
      obtain ⟨i4, i5, M6⟩ := s
      show XM l E (RX11, "days", cX11_days, 4) (some .int) 8 30 [some (.ref 155), some (.int a1), some (.int i4), some (.int i5)] [] M6 M' (some (.int r))
      change w_X11_days_30 a1 i4 i5 M6 = some t at hb
      unfold w_X11_days_30 at hb
      refine ex_iload_n dX11_days_30 rfl ?_
      refine ex_iload_n dX11_days_31 rfl ?_
      refine ex_icmp_ge 56 dX11_days_32 (by decide) (fun c7 => ?_) (fun c7 => ?_)
      · rw [if_pos c7] at hb
        refine ex_mskL [false, false, true, false] (L2 := [none, none, some (.int i4), none]) rfl ?_
        cases hb
        cases (he _ rfl) <;> exact hx
      · rw [if_neg c7] at hb
        refine ex_aload_n dX11_days_35 rfl ?_
        obtain ⟨M8, qM8, hb⟩ := b1E hb
        refine mx_cVv [] [] 155 11 dX11_days_36 cl_X11_327 im_X11_keeps cy_X11_keeps oc_at_155 rfl (Nat.le_of_ble_eq_true rfl) (by decide) (t_X11_keeps l E M6 qM8) ?_
        refine ex_iload_n dX11_days_39 rfl ?_
        refine ex_aload_n dX11_days_40 rfl ?_
        obtain ⟨M9, x10, qx10, hb⟩ := b2E hb
        refine mx_cVi [] [.int i4] 155 11 x10 dX11_days_41 cl_X11_391 im_X11_morning cy_X11_morning oc_at_155 rfl (Nat.le_of_ble_eq_true rfl) (by decide) (t_X11_morning l E M8 qx10) ?_
        refine ex_iadd dX11_days_44 ?_
        refine ex_istore_n (L2 := [some (.ref 155), some (.int a1), some (.int (i4 + x10)), some (.int i5)]) dX11_days_45 (by decide) rfl ?_
        refine ex_aload_n dX11_days_46 rfl ?_
        obtain ⟨M11, qM11, hb⟩ := b1E hb
        refine mx_cVv [] [] 155 11 dX11_days_47 cl_X11_394 im_X11_evening cy_X11_evening oc_at_155 rfl (Nat.le_of_ble_eq_true rfl) (by decide) (t_X11_evening l E M9 qM11) ?_
        refine ex_iinc 1 (L2 := [some (.ref 155), some (.int a1), some (.int (i4 + x10)), some (.int (i5 + 1))]) dX11_days_50 rfl kI_1 (by decide) rfl ?_
        refine ex_goto 30 dX11_days_53 (by decide) ?_
        refine ex_mskL [true, true, true, true] (L2 := [some (.ref 155), some (.int a1), some (.int (i4 + x10)), some (.int (i5 + 1))]) rfl ?_
        cases hb
        exact hk ((i4 + x10), (i5 + 1), M11) rfl)
    exact key FU (0, 0, M) hlq12
  clear h
  refine ex_if_eq 24 dX11_days_7 (by decide) (fun c1 => ?_) (fun c1 => ?_)
  · exact JXC3 (Or.inl c1)
  · refine ex_aload_n dX11_days_10 rfl ?_
    refine mx_getr 11 156 dX11_days_11 fl_X11_7 oc_at_155 (rf_11_0 oc_at_155) ?_
    refine ex_iconst 0 dX11_days_14 kI_0 ?_
    refine mx_iald (M 156 0) dX11_days_15 (rdc_156_0 _) ?_
    refine ex_iload_n dX11_days_16 rfl ?_
    refine ex_iadd dX11_days_17 ?_
    refine ex_sipush 9999 dX11_days_18 kS_9999 ?_
    refine ex_icmp_le 26 dX11_days_21 (by decide) (fun c2 => ?_) (fun c2 => ?_)
    · refine ex_iconst 0 dX11_days_26 kI_0 ?_
      exact JYC3 (fun z => z.elim c1 (fun z => z c2))
    · exact JXC3 (Or.inr c2)
def f_X11_remain (a1 : Int32) (a2 : Int32) (M : Mem) : Option (Mem × Int32) :=
  if (f_X11_isRemain a1 M) = 0 then (some (M, (-1))) else (if a2.toInt = 5 then (b2 (f_X11_priceOf a1 0 M) fun M2 x3 => some (M2, x3)) else if a2.toInt = 6 then (b2 (f_X11_spoilOf a1 M) fun M5 x6 => some (M5, x6)) else if (f_X11_isIn a2 0 4) = 0 then (some (M, (-1))) else (b1 (f_X11_ofRemain a1 a2 M) fun x9 => some (M, x9)))
set_option maxRecDepth 100000 in
set_option maxHeartbeats 4000000 in
theorem t_X11_remain (l : Launch) (E : EV) (a1 : Int32) (a2 : Int32) (M : Mem) {M' : Mem} {r : Int32} (h : f_X11_remain a1 a2 M = some (M', r)) : RunM l E yX11_remain cX11_remain 3 (some .int) 5 [.ref 155, .int a1, .int a2] M M' (some (.int r)) := by
  refine RunM.of (by decide) (Nat.le_of_ble_eq_true rfl) ?_
  show XM l E (RX11, "remain", cX11_remain, 3) (some .int) 5 0 [some (.ref 155), some (.int a1), some (.int a2)] [] M M' (some (.int r))
  unfold f_X11_remain at h
  refine ex_aload_n dX11_remain_0 rfl ?_
  refine ex_iload_n dX11_remain_1 rfl ?_
  refine mx_cVi [.int a1] [] 155 11 (f_X11_isRemain a1 M) dX11_remain_2 cl_X11_332 im_X11_isRemain cy_X11_isRemain oc_at_155 rfl (Nat.le_of_ble_eq_true rfl) (by decide) (t_X11_isRemain l E a1 M rfl) ?_
  refine ex_if_ne 10 dX11_remain_5 (by decide) (fun c1 => ?_) (fun c1 => ?_)
  · rw [if_neg c1] at h
    refine ex_iload_n dX11_remain_10 rfl ?_
    by_cases c4 : a2.toInt = 5
    · rw [if_pos c4] at h
      refine ex_lsw (25) 36 dX11_remain_11 (by decide) (by rw [c4]; decide) (by decide) ?_
      refine ex_aload_n dX11_remain_36 rfl ?_
      refine ex_iload_n dX11_remain_37 rfl ?_
      refine ex_iconst 0 dX11_remain_38 kI_0 ?_
      obtain ⟨M2, x3, qx3, h⟩ := b2E h
      refine mx_cVi [.int a1, .int 0] [] 155 11 x3 dX11_remain_39 cl_X11_342 im_X11_priceOf cy_X11_priceOf oc_at_155 rfl (Nat.le_of_ble_eq_true rfl) (by decide) (t_X11_priceOf l E a1 0 M qx3) ?_
      cases h
      exact mx_reti .int dX11_remain_42 ⟨rfl, rfl⟩
    rw [if_neg c4] at h
    by_cases c7 : a2.toInt = 6
    · rw [if_pos c7] at h
      refine ex_lsw (32) 43 dX11_remain_11 (by decide) (by rw [c7]; decide) (by decide) ?_
      refine ex_aload_n dX11_remain_43 rfl ?_
      refine ex_iload_n dX11_remain_44 rfl ?_
      obtain ⟨M5, x6, qx6, h⟩ := b2E h
      refine mx_cVi [.int a1] [] 155 11 x6 dX11_remain_45 cl_X11_370 im_X11_spoilOf cy_X11_spoilOf oc_at_155 rfl (Nat.le_of_ble_eq_true rfl) (by decide) (t_X11_spoilOf l E a1 M qx6) ?_
      cases h
      exact mx_reti .int dX11_remain_48 ⟨rfl, rfl⟩
    rw [if_neg c7] at h
    refine ex_lsw (38) 49 dX11_remain_11 (by decide) (by simp [Op.lookupswitch.offset, Ne.symm c4, Ne.symm c7]) (by decide) ?_
    refine ex_iload_n dX11_remain_49 rfl ?_
    refine ex_iconst 0 dX11_remain_50 kI_0 ?_
    refine ex_iconst 4 dX11_remain_51 kI_4 ?_
    refine mx_cSi [.int a2, .int 0, .int 4] [] (f_X11_isIn a2 0 4) dX11_remain_52 cl_X11_53 sm_X11_isIn rfl (Nat.le_of_ble_eq_true rfl) (by decide) (t_X11_isIn l E a2 0 4 M rfl) ?_
    refine ex_if_eq 67 dX11_remain_55 (by decide) (fun c8 => ?_) (fun c8 => ?_)
    · rw [if_pos c8] at h
      refine ex_iconst (-1) dX11_remain_67 kI_m1 ?_
      cases h
      exact mx_reti .int dX11_remain_68 ⟨rfl, rfl⟩
    · rw [if_neg c8] at h
      refine ex_aload_n dX11_remain_58 rfl ?_
      refine ex_iload_n dX11_remain_59 rfl ?_
      refine ex_iload_n dX11_remain_60 rfl ?_
      obtain ⟨x9, qx9, h⟩ := b1E h
      refine mx_cVi [.int a1, .int a2] [] 155 11 x9 dX11_remain_61 cl_X11_57 im_X11_ofRemain cy_X11_ofRemain oc_at_155 rfl (Nat.le_of_ble_eq_true rfl) (by decide) (t_X11_ofRemain l E a1 a2 M qx9) ?_
      refine ex_goto 68 dX11_remain_64 (by decide) ?_
      cases h
      exact mx_reti .int dX11_remain_68 ⟨rfl, rfl⟩
  · rw [if_pos c1] at h
    refine ex_iconst (-1) dX11_remain_8 kI_m1 ?_
    cases h
    exact mx_reti .int dX11_remain_9 ⟨rfl, rfl⟩
def f_X11_kind (a1 : Int32) (a2 : Int32) (M : Mem) : Option (Int32) :=
  if (f_X11_isKind a1 M) = 0 then (some (-1)) else (if a2.toInt < 0 ∨ 3 < a2.toInt then (some (-1)) else if a2 = 0 then (b1 (f_X11_wholeOf a1 M) fun x3 => some x3) else if a2 = 1 then (b1 (f_X11_keepsOf a1 M) fun x5 => some x5) else if a2 = 2 then (b1 (f_X11_placesOf a1 M) fun x7 => b1 (f_X11_count x7) fun x8 => some x8) else if a2 = 3 then (b1 (f_X11_placesOf a1 M) fun x10 => b1 (f_X11_sumOf x10 M) fun x11 => some x11) else none)
set_option maxRecDepth 100000 in
set_option maxHeartbeats 4000000 in
theorem t_X11_kind (l : Launch) (E : EV) (a1 : Int32) (a2 : Int32) (M : Mem) {r : Int32} (h : f_X11_kind a1 a2 M = some r) : RunM l E yX11_kind cX11_kind 3 (some .int) 2 [.ref 155, .int a1, .int a2] M M (some (.int r)) := by
  refine RunM.of (by decide) (Nat.le_of_ble_eq_true rfl) ?_
  show XM l E (RX11, "kind", cX11_kind, 3) (some .int) 2 0 [some (.ref 155), some (.int a1), some (.int a2)] [] M M (some (.int r))
  unfold f_X11_kind at h
  refine ex_aload_n dX11_kind_0 rfl ?_
  refine ex_iload_n dX11_kind_1 rfl ?_
  refine mx_cVi [.int a1] [] 155 11 (f_X11_isKind a1 M) dX11_kind_2 cl_X11_239 im_X11_isKind cy_X11_isKind oc_at_155 rfl (Nat.le_of_ble_eq_true rfl) (by decide) (t_X11_isKind l E a1 M rfl) ?_
  refine ex_if_ne 10 dX11_kind_5 (by decide) (fun c1 => ?_) (fun c1 => ?_)
  · rw [if_neg c1] at h
    refine ex_iload_n dX11_kind_10 rfl ?_
    by_cases c2 : a2.toInt < 0 ∨ 3 < a2.toInt
    · rw [if_pos c2] at h
      refine ex_tswO 71 dX11_kind_11 c2 (by decide) ?_
      refine ex_iconst (-1) dX11_kind_71 kI_m1 ?_
      cases h
      exact mx_reti .int dX11_kind_72 ⟨rfl, rfl⟩
    rw [if_neg c2] at h
    by_cases c4 : a2 = 0
    · rw [if_pos c4] at h
      refine ex_tswI 0 (29) 40 dX11_kind_11 c4 (by decide) (by decide) ?_
      refine ex_aload_n dX11_kind_40 rfl ?_
      refine ex_iload_n dX11_kind_41 rfl ?_
      obtain ⟨x3, qx3, h⟩ := b1E h
      refine mx_cVi [.int a1] [] 155 11 x3 dX11_kind_42 cl_X11_294 im_X11_wholeOf cy_X11_wholeOf oc_at_155 rfl (Nat.le_of_ble_eq_true rfl) (by decide) (t_X11_wholeOf l E a1 M qx3) ?_
      cases h
      exact mx_reti .int dX11_kind_45 ⟨rfl, rfl⟩
    rw [if_neg c4] at h
    by_cases c6 : a2 = 1
    · rw [if_pos c6] at h
      refine ex_tswI 1 (35) 46 dX11_kind_11 c6 (by decide) (by decide) ?_
      refine ex_aload_n dX11_kind_46 rfl ?_
      refine ex_iload_n dX11_kind_47 rfl ?_
      obtain ⟨x5, qx5, h⟩ := b1E h
      refine mx_cVi [.int a1] [] 155 11 x5 dX11_kind_48 cl_X11_367 im_X11_keepsOf cy_X11_keepsOf oc_at_155 rfl (Nat.le_of_ble_eq_true rfl) (by decide) (t_X11_keepsOf l E a1 M qx5) ?_
      cases h
      exact mx_reti .int dX11_kind_51 ⟨rfl, rfl⟩
    rw [if_neg c6] at h
    by_cases c9 : a2 = 2
    · rw [if_pos c9] at h
      refine ex_tswI 2 (41) 52 dX11_kind_11 c9 (by decide) (by decide) ?_
      refine ex_aload_n dX11_kind_52 rfl ?_
      refine ex_iload_n dX11_kind_53 rfl ?_
      obtain ⟨x7, qx7, h⟩ := b1E h
      refine mx_cVi [.int a1] [] 155 11 x7 dX11_kind_54 cl_X11_351 im_X11_placesOf cy_X11_placesOf oc_at_155 rfl (Nat.le_of_ble_eq_true rfl) (by decide) (t_X11_placesOf l E a1 M qx7) ?_
      obtain ⟨x8, qx8, h⟩ := b1E h
      refine mx_cSi [.int x7] [] x8 dX11_kind_57 cl_X11_345 sm_X11_count rfl (Nat.le_of_ble_eq_true rfl) (by decide) (t_X11_count l E x7 M qx8) ?_
      cases h
      exact mx_reti .int dX11_kind_60 ⟨rfl, rfl⟩
    rw [if_neg c9] at h
    by_cases c12 : a2 = 3
    · rw [if_pos c12] at h
      refine ex_tswI 3 (50) 61 dX11_kind_11 c12 (by decide) (by decide) ?_
      refine ex_aload_n dX11_kind_61 rfl ?_
      refine ex_aload_n dX11_kind_62 rfl ?_
      refine ex_iload_n dX11_kind_63 rfl ?_
      obtain ⟨x10, qx10, h⟩ := b1E h
      refine mx_cVi [.int a1] [.ref 155] 155 11 x10 dX11_kind_64 cl_X11_351 im_X11_placesOf cy_X11_placesOf oc_at_155 rfl (Nat.le_of_ble_eq_true rfl) (by decide) (t_X11_placesOf l E a1 M qx10) ?_
      obtain ⟨x11, qx11, h⟩ := b1E h
      refine mx_cVi [.int x10] [] 155 11 x11 dX11_kind_67 cl_X11_348 im_X11_sumOf cy_X11_sumOf oc_at_155 rfl (Nat.le_of_ble_eq_true rfl) (by decide) (t_X11_sumOf l E x10 M qx11) ?_
      cases h
      exact mx_reti .int dX11_kind_70 ⟨rfl, rfl⟩
    rw [if_neg c12] at h
    cases h
  · rw [if_pos c1] at h
    refine ex_iconst (-1) dX11_kind_8 kI_m1 ?_
    cases h
    exact mx_reti .int dX11_kind_9 ⟨rfl, rfl⟩
def f_X11_left (a1 : Int32) (a2 : Int32) (a3 : Int32) (M : Mem) : Option (Mem × Int32) :=
  if (f_X11_isKind a1 M) = 0 then (some (M, (-1))) else (if (f_X11_isIn a2 1 20) = 0 then (some (M, (-1))) else (if a3 = 0 then (b2 (f_X11_leftOf a1 a2 M) fun M4 x5 => some (M4, x5)) else (b2 (f_X11_edgeOf a1 a2 M) fun M6 x7 => some (M6, x7))))
set_option maxRecDepth 100000 in
set_option maxHeartbeats 4000000 in
theorem t_X11_left (l : Launch) (E : EV) (a1 : Int32) (a2 : Int32) (a3 : Int32) (M : Mem) {M' : Mem} {r : Int32} (h : f_X11_left a1 a2 a3 M = some (M', r)) : RunM l E yX11_left cX11_left 4 (some .int) 5 [.ref 155, .int a1, .int a2, .int a3] M M' (some (.int r)) := by
  refine RunM.of (by decide) (Nat.le_of_ble_eq_true rfl) ?_
  show XM l E (RX11, "left", cX11_left, 4) (some .int) 5 0 [some (.ref 155), some (.int a1), some (.int a2), some (.int a3)] [] M M' (some (.int r))
  unfold f_X11_left at h
  refine ex_aload_n dX11_left_0 rfl ?_
  refine ex_iload_n dX11_left_1 rfl ?_
  refine mx_cVi [.int a1] [] 155 11 (f_X11_isKind a1 M) dX11_left_2 cl_X11_239 im_X11_isKind cy_X11_isKind oc_at_155 rfl (Nat.le_of_ble_eq_true rfl) (by decide) (t_X11_isKind l E a1 M rfl) ?_
  refine ex_if_eq 18 dX11_left_5 (by decide) (fun c1 => ?_) (fun c1 => ?_)
  · rw [if_pos c1] at h
    refine ex_iconst (-1) dX11_left_18 kI_m1 ?_
    cases h
    exact mx_reti .int dX11_left_19 ⟨rfl, rfl⟩
  · rw [if_neg c1] at h
    refine ex_iload_n dX11_left_8 rfl ?_
    refine ex_iconst 1 dX11_left_9 kI_1 ?_
    refine ex_bipush 20 dX11_left_10 kB_20 ?_
    refine mx_cSi [.int a2, .int 1, .int 20] [] (f_X11_isIn a2 1 20) dX11_left_12 cl_X11_53 sm_X11_isIn rfl (Nat.le_of_ble_eq_true rfl) (by decide) (t_X11_isIn l E a2 1 20 M rfl) ?_
    refine ex_if_ne 20 dX11_left_15 (by decide) (fun c2 => ?_) (fun c2 => ?_)
    · rw [if_neg c2] at h
      refine ex_iload_n dX11_left_20 rfl ?_
      refine ex_if_eq 33 dX11_left_21 (by decide) (fun c3 => ?_) (fun c3 => ?_)
      · rw [if_pos c3] at h
        refine ex_aload_n dX11_left_33 rfl ?_
        refine ex_iload_n dX11_left_34 rfl ?_
        refine ex_iload_n dX11_left_35 rfl ?_
        obtain ⟨M4, x5, qx5, h⟩ := b2E h
        refine mx_cVi [.int a1, .int a2] [] 155 11 x5 dX11_left_36 cl_X11_313 im_X11_leftOf cy_X11_leftOf oc_at_155 rfl (Nat.le_of_ble_eq_true rfl) (by decide) (t_X11_leftOf l E a1 a2 M qx5) ?_
        cases h
        exact mx_reti .int dX11_left_39 ⟨rfl, rfl⟩
      · rw [if_neg c3] at h
        refine ex_aload_n dX11_left_24 rfl ?_
        refine ex_iload_n dX11_left_25 rfl ?_
        refine ex_iload_n dX11_left_26 rfl ?_
        obtain ⟨M6, x7, qx7, h⟩ := b2E h
        refine mx_cVi [.int a1, .int a2] [] 155 11 x7 dX11_left_27 cl_X11_316 im_X11_edgeOf cy_X11_edgeOf oc_at_155 rfl (Nat.le_of_ble_eq_true rfl) (by decide) (t_X11_edgeOf l E a1 a2 M qx7) ?_
        refine ex_goto 39 dX11_left_30 (by decide) ?_
        cases h
        exact mx_reti .int dX11_left_39 ⟨rfl, rfl⟩
    · rw [if_pos c2] at h
      refine ex_iconst (-1) dX11_left_18 kI_m1 ?_
      cases h
      exact mx_reti .int dX11_left_19 ⟨rfl, rfl⟩
def f_X11_want (a1 : Int32) (a2 : Int32) (M : Mem) : Option (Int32) :=
  if (f_X11_isIn a1 0 ((M 156 85) - 1)) = 0 then (some (-1)) else (if (f_X11_isIn a2 0 4) = 0 then (some (-1)) else (if 4 ≤ a2 then (lt ((if (f_X11_isMet a1 M) = 0 then 0 else 1) : Int32) fun x5 => some x5) else (b1 (f_X11_ofWant a1 a2 M) fun x6 => some x6)))
set_option maxRecDepth 100000 in
set_option maxHeartbeats 4000000 in
theorem t_X11_want (l : Launch) (E : EV) (a1 : Int32) (a2 : Int32) (M : Mem) {r : Int32} (h : f_X11_want a1 a2 M = some r) : RunM l E yX11_want cX11_want 3 (some .int) 1 [.ref 155, .int a1, .int a2] M M (some (.int r)) := by
  refine RunM.of (by decide) (Nat.le_of_ble_eq_true rfl) ?_
  show XM l E (RX11, "want", cX11_want, 3) (some .int) 1 0 [some (.ref 155), some (.int a1), some (.int a2)] [] M M (some (.int r))
  unfold f_X11_want at h
  refine ex_iload_n dX11_want_0 rfl ?_
  refine ex_iconst 0 dX11_want_1 kI_0 ?_
  refine ex_aload_n dX11_want_2 rfl ?_
  refine mx_getr 11 156 dX11_want_3 fl_X11_7 oc_at_155 (rf_11_0 oc_at_155) ?_
  refine ex_bipush 85 dX11_want_6 kB_85 ?_
  refine mx_iald (M 156 85) dX11_want_8 (rdc_156_85 _) ?_
  refine ex_iconst 1 dX11_want_9 kI_1 ?_
  refine ex_isub dX11_want_10 ?_
  refine mx_cSi [.int a1, .int 0, .int ((M 156 85) - 1)] [] (f_X11_isIn a1 0 ((M 156 85) - 1)) dX11_want_11 cl_X11_53 sm_X11_isIn rfl (Nat.le_of_ble_eq_true rfl) (by decide) (t_X11_isIn l E a1 0 ((M 156 85) - 1) M rfl) ?_
  refine ex_if_eq 26 dX11_want_14 (by decide) (fun c1 => ?_) (fun c1 => ?_)
  · rw [if_pos c1] at h
    refine ex_iconst (-1) dX11_want_26 kI_m1 ?_
    cases h
    exact mx_reti .int dX11_want_27 ⟨rfl, rfl⟩
  · rw [if_neg c1] at h
    refine ex_iload_n dX11_want_17 rfl ?_
    refine ex_iconst 0 dX11_want_18 kI_0 ?_
    refine ex_iconst 4 dX11_want_19 kI_4 ?_
    refine mx_cSi [.int a2, .int 0, .int 4] [] (f_X11_isIn a2 0 4) dX11_want_20 cl_X11_53 sm_X11_isIn rfl (Nat.le_of_ble_eq_true rfl) (by decide) (t_X11_isIn l E a2 0 4 M rfl) ?_
    refine ex_if_ne 28 dX11_want_23 (by decide) (fun c2 => ?_) (fun c2 => ?_)
    · rw [if_neg c2] at h
      refine ex_iload_n dX11_want_28 rfl ?_
      refine ex_iconst 4 dX11_want_29 kI_4 ?_
      refine ex_icmp_ge 42 dX11_want_30 (by decide) (fun c3 => ?_) (fun c3 => ?_)
      · rw [if_pos c3] at h
        refine ex_aload_n dX11_want_42 rfl ?_
        refine ex_iload_n dX11_want_43 rfl ?_
        refine mx_cVi [.int a1] [] 155 11 (f_X11_isMet a1 M) dX11_want_44 cl_X11_361 im_X11_isMet cy_X11_isMet oc_at_155 rfl (Nat.le_of_ble_eq_true rfl) (by decide) (t_X11_isMet l E a1 M rfl) ?_
        obtain ⟨x5, ex5, h⟩ := ltE h
        have Jx5 : XM l E (RX11, "want", cX11_want, 3) (some .int) 1 55 [some (.ref 155), some (.int a1), some (.int a2)] [.int x5] M M (some (.int r)) := by
          cases h
          exact mx_reti .int dX11_want_55 ⟨rfl, rfl⟩
        clear h
        refine ex_if_eq 54 dX11_want_47 (by decide) (fun c4 => ?_) (fun c4 => ?_)
        · rw [if_pos c4] at ex5
          refine ex_iconst 0 dX11_want_54 kI_0 ?_
          subst ex5
          exact Jx5
        · rw [if_neg c4] at ex5
          refine ex_iconst 1 dX11_want_50 kI_1 ?_
          refine ex_goto 55 dX11_want_51 (by decide) ?_
          subst ex5
          exact Jx5
      · rw [if_neg c3] at h
        refine ex_aload_n dX11_want_33 rfl ?_
        refine ex_iload_n dX11_want_34 rfl ?_
        refine ex_iload_n dX11_want_35 rfl ?_
        obtain ⟨x6, qx6, h⟩ := b1E h
        refine mx_cVi [.int a1, .int a2] [] 155 11 x6 dX11_want_36 cl_X11_364 im_X11_ofWant cy_X11_ofWant oc_at_155 rfl (Nat.le_of_ble_eq_true rfl) (by decide) (t_X11_ofWant l E a1 a2 M qx6) ?_
        refine ex_goto 55 dX11_want_39 (by decide) ?_
        cases h
        exact mx_reti .int dX11_want_55 ⟨rfl, rfl⟩
    · rw [if_pos c2] at h
      refine ex_iconst (-1) dX11_want_26 kI_m1 ?_
      cases h
      exact mx_reti .int dX11_want_27 ⟨rfl, rfl⟩
def f_X11_book (a1 : Int32) (a2 : Int32) (M : Mem) : Option (Int32) :=
  if ((f_X11_isIn a1 0 ((M 156 5) - 1)) = 0 ∨ (f_X11_isIn a2 0 3) = 0) then (some (-1)) else (b1 (rd M 156 ((370 + (4 * a1)) + a2)) fun x4 => some x4)
set_option maxRecDepth 100000 in
set_option maxHeartbeats 4000000 in
theorem t_X11_book (l : Launch) (E : EV) (a1 : Int32) (a2 : Int32) (M : Mem) {r : Int32} (h : f_X11_book a1 a2 M = some r) : RunM l E yX11_book cX11_book 3 (some .int) 1 [.ref 155, .int a1, .int a2] M M (some (.int r)) := by
  refine RunM.of (by decide) (Nat.le_of_ble_eq_true rfl) ?_
  show XM l E (RX11, "book", cX11_book, 3) (some .int) 1 0 [some (.ref 155), some (.int a1), some (.int a2)] [] M M (some (.int r))
  unfold f_X11_book at h
  refine ex_iload_n dX11_book_0 rfl ?_
  refine ex_iconst 0 dX11_book_1 kI_0 ?_
  refine ex_aload_n dX11_book_2 rfl ?_
  refine mx_getr 11 156 dX11_book_3 fl_X11_7 oc_at_155 (rf_11_0 oc_at_155) ?_
  refine ex_iconst 5 dX11_book_6 kI_5 ?_
  refine mx_iald (M 156 5) dX11_book_7 (rdc_156_5 _) ?_
  refine ex_iconst 1 dX11_book_8 kI_1 ?_
  refine ex_isub dX11_book_9 ?_
  refine mx_cSi [.int a1, .int 0, .int ((M 156 5) - 1)] [] (f_X11_isIn a1 0 ((M 156 5) - 1)) dX11_book_10 cl_X11_53 sm_X11_isIn rfl (Nat.le_of_ble_eq_true rfl) (by decide) (t_X11_isIn l E a1 0 ((M 156 5) - 1) M rfl) ?_
  have JXC3 : ((f_X11_isIn a1 0 ((M 156 5) - 1)) = 0 ∨ (f_X11_isIn a2 0 3) = 0) → XM l E (RX11, "book", cX11_book, 3) (some .int) 1 42 [some (.ref 155), some (.int a1), some (.int a2)] [] M M (some (.int r)) := fun C3 => by
    rw [if_pos C3] at h
    refine ex_iconst (-1) dX11_book_42 kI_m1 ?_
    cases h
    exact mx_reti .int dX11_book_43 ⟨rfl, rfl⟩
  have JYC3 : ¬ (((f_X11_isIn a1 0 ((M 156 5) - 1)) = 0 ∨ (f_X11_isIn a2 0 3) = 0)) → XM l E (RX11, "book", cX11_book, 3) (some .int) 1 38 [some (.ref 155), some (.int a1), some (.int a2)] [.int ((370 + (4 * a1)) + a2), .ref 156] M M (some (.int r)) := fun C3 => by
    rw [if_neg C3] at h
    obtain ⟨x4, qx4, h⟩ := b1E h
    refine mx_iald x4 dX11_book_38 qx4 ?_
    refine ex_goto 43 dX11_book_39 (by decide) ?_
    cases h
    exact mx_reti .int dX11_book_43 ⟨rfl, rfl⟩
  clear h
  refine ex_if_eq 42 dX11_book_13 (by decide) (fun c1 => ?_) (fun c1 => ?_)
  · exact JXC3 (Or.inl c1)
  · refine ex_iload_n dX11_book_16 rfl ?_
    refine ex_iconst 0 dX11_book_17 kI_0 ?_
    refine ex_iconst 3 dX11_book_18 kI_3 ?_
    refine mx_cSi [.int a2, .int 0, .int 3] [] (f_X11_isIn a2 0 3) dX11_book_19 cl_X11_53 sm_X11_isIn rfl (Nat.le_of_ble_eq_true rfl) (by decide) (t_X11_isIn l E a2 0 3 M rfl) ?_
    refine ex_if_eq 42 dX11_book_22 (by decide) (fun c2 => ?_) (fun c2 => ?_)
    · exact JXC3 (Or.inr c2)
    · refine ex_aload_n dX11_book_25 rfl ?_
      refine mx_getr 11 156 dX11_book_26 fl_X11_7 oc_at_155 (rf_11_0 oc_at_155) ?_
      refine ex_sipush 370 dX11_book_29 kS_370 ?_
      refine ex_iconst 4 dX11_book_32 kI_4 ?_
      refine ex_iload_n dX11_book_33 rfl ?_
      refine ex_imul dX11_book_34 ?_
      refine ex_iadd dX11_book_35 ?_
      refine ex_iload_n dX11_book_36 rfl ?_
      refine ex_iadd dX11_book_37 ?_
      exact JYC3 (fun z => z.elim c1 c2)
def w_X11_firstMissed_2 (M : Mem) (i1 : Int32) : Option ((Int32) ⊕ ((Int32) ⊕ (Unit))) :=
  if (M 156 85) ≤ i1 then (some (.inr (.inr ()))) else (b1 (f_X11_ofWant i1 2 M) fun x3 => if (x3 = (M 156 0) ∧ (f_X11_isMet i1 M) = 0) then (some (.inr (.inl i1))) else (some (.inl (i1 + 1))))
def f_X11_firstMissed (M : Mem) : Option (Int32) :=
  b1 (lp (fun s => w_X11_firstMissed_2 M s) FU 0) fun q7 => match q7 with | .inl u8 => (some u8) | .inr u9 => (some (-1))
set_option maxRecDepth 100000 in
set_option maxHeartbeats 4000000 in
theorem t_X11_firstMissed (l : Launch) (E : EV) (M : Mem) {r : Int32} (h : f_X11_firstMissed M = some r) : RunM l E yX11_firstMissed cX11_firstMissed 2 (some .int) 1 [.ref 155] M M (some (.int r)) := by
  refine RunM.of (by decide) (Nat.le_of_ble_eq_true rfl) ?_
  show XM l E (RX11, "firstMissed", cX11_firstMissed, 2) (some .int) 1 0 [some (.ref 155), none] [] M M (some (.int r))
  unfold f_X11_firstMissed at h
  refine ex_iconst 0 dX11_firstMissed_0 kI_0 ?_
  refine ex_istore_n (L2 := [some (.ref 155), some (.int 0)]) dX11_firstMissed_1 (by decide) rfl ?_
  refine ex_mskL [true, true] (L2 := [some (.ref 155), some (.int 0)]) rfl ?_
  obtain ⟨q7, hlq7, h⟩ := b1E h
  rcases q7 with u8 | ⟨⟩
  · dsimp only at h
    have hx : XM l E (RX11, "firstMissed", cX11_firstMissed, 2) (some .int) 1 36 [none, some (.int u8)] [] M M (some (.int r)) := by
      refine ex_iload_n dX11_firstMissed_36 rfl ?_
      cases h
      exact mx_reti .int dX11_firstMissed_37 ⟨rfl, rfl⟩
    clear h
    have key : ∀ (k : Nat) (s : Int32), lp (fun s => w_X11_firstMissed_2 M s) k s = some (.inl u8) → XM l E (RX11, "firstMissed", cX11_firstMissed, 2) (some .int) 1 2 [some (.ref 155), some (.int s)] [] M M (some (.int r)) := lp_ind (P := fun (s : Int32) => XM l E (RX11, "firstMissed", cX11_firstMissed, 2) (some .int) 1 2 [some (.ref 155), some (.int s)] [] M M (some (.int r))) (fun s t hb hk he => by
      revert hb hk he; generalize s = i1; intro hb hk he
      show XM l E (RX11, "firstMissed", cX11_firstMissed, 2) (some .int) 1 2 [some (.ref 155), some (.int i1)] [] M M (some (.int r))
      change w_X11_firstMissed_2 M i1 = some t at hb
      unfold w_X11_firstMissed_2 at hb
      refine ex_iload_n dX11_firstMissed_2 rfl ?_
      refine ex_aload_n dX11_firstMissed_3 rfl ?_
      refine mx_getr 11 156 dX11_firstMissed_4 fl_X11_7 oc_at_155 (rf_11_0 oc_at_155) ?_
      refine ex_bipush 85 dX11_firstMissed_7 kB_85 ?_
      refine mx_iald (M 156 85) dX11_firstMissed_9 (rdc_156_85 _) ?_
      refine ex_icmp_ge 44 dX11_firstMissed_10 (by decide) (fun c2 => ?_) (fun c2 => ?_)
      · rw [if_pos c2] at hb
        refine ex_mskL [false, false] (L2 := [none, none]) rfl ?_
        cases hb
        cases (he _ rfl) <;> exact hx
      · rw [if_neg c2] at hb
        refine ex_aload_n dX11_firstMissed_13 rfl ?_
        refine ex_iload_n dX11_firstMissed_14 rfl ?_
        refine ex_iconst 2 dX11_firstMissed_15 kI_2 ?_
        obtain ⟨x3, qx3, hb⟩ := b1E hb
        refine mx_cVi [.int i1, .int 2] [] 155 11 x3 dX11_firstMissed_16 cl_X11_364 im_X11_ofWant cy_X11_ofWant oc_at_155 rfl (Nat.le_of_ble_eq_true rfl) (by decide) (t_X11_ofWant l E i1 2 M qx3) ?_
        refine ex_aload_n dX11_firstMissed_19 rfl ?_
        refine mx_getr 11 156 dX11_firstMissed_20 fl_X11_7 oc_at_155 (rf_11_0 oc_at_155) ?_
        refine ex_iconst 0 dX11_firstMissed_23 kI_0 ?_
        refine mx_iald (M 156 0) dX11_firstMissed_24 (rdc_156_0 _) ?_
        have JXC6 : (x3 = (M 156 0) ∧ (f_X11_isMet i1 M) = 0) → XM l E (RX11, "firstMissed", cX11_firstMissed, 2) (some .int) 1 36 [some (.ref 155), some (.int i1)] [] M M (some (.int r)) := fun C6 => by
          rw [if_pos C6] at hb
          refine ex_mskL [false, true] (L2 := [none, some (.int i1)]) rfl ?_
          cases hb
          cases (he _ rfl) <;> exact hx
        have JYC6 : ¬ ((x3 = (M 156 0) ∧ (f_X11_isMet i1 M) = 0)) → XM l E (RX11, "firstMissed", cX11_firstMissed, 2) (some .int) 1 38 [some (.ref 155), some (.int i1)] [] M M (some (.int r)) := fun C6 => by
          rw [if_neg C6] at hb
          refine ex_iinc 1 (L2 := [some (.ref 155), some (.int (i1 + 1))]) dX11_firstMissed_38 rfl kI_1 (by decide) rfl ?_
          refine ex_goto 2 dX11_firstMissed_41 (by decide) ?_
          refine ex_mskL [true, true] (L2 := [some (.ref 155), some (.int (i1 + 1))]) rfl ?_
          cases hb
          exact hk (i1 + 1) rfl
        clear hb
        refine ex_icmp_ne 38 dX11_firstMissed_25 (by decide) (fun c4 => ?_) (fun c4 => ?_)
        · exact JYC6 (fun z => c4 z.1)
        · refine ex_aload_n dX11_firstMissed_28 rfl ?_
          refine ex_iload_n dX11_firstMissed_29 rfl ?_
          refine mx_cVi [.int i1] [] 155 11 (f_X11_isMet i1 M) dX11_firstMissed_30 cl_X11_361 im_X11_isMet cy_X11_isMet oc_at_155 rfl (Nat.le_of_ble_eq_true rfl) (by decide) (t_X11_isMet l E i1 M rfl) ?_
          refine ex_if_ne 38 dX11_firstMissed_33 (by decide) (fun c5 => ?_) (fun c5 => ?_)
          · exact JYC6 (fun z => c5 z.2)
          · exact JXC6 ⟨c4, c5⟩)
    exact key FU 0 hlq7
  · dsimp only at h
    have hx : XM l E (RX11, "firstMissed", cX11_firstMissed, 2) (some .int) 1 44 [none, none] [] M M (some (.int r)) := by
      refine ex_iconst (-1) dX11_firstMissed_44 kI_m1 ?_
      cases h
      exact mx_reti .int dX11_firstMissed_45 ⟨rfl, rfl⟩
    clear h
    have key : ∀ (k : Nat) (s : Int32), lp (fun s => w_X11_firstMissed_2 M s) k s = some (.inr ()) → XM l E (RX11, "firstMissed", cX11_firstMissed, 2) (some .int) 1 2 [some (.ref 155), some (.int s)] [] M M (some (.int r)) := lp_ind (P := fun (s : Int32) => XM l E (RX11, "firstMissed", cX11_firstMissed, 2) (some .int) 1 2 [some (.ref 155), some (.int s)] [] M M (some (.int r))) (fun s t hb hk he => by
      revert hb hk he; generalize s = i1; intro hb hk he
      show XM l E (RX11, "firstMissed", cX11_firstMissed, 2) (some .int) 1 2 [some (.ref 155), some (.int i1)] [] M M (some (.int r))
      change w_X11_firstMissed_2 M i1 = some t at hb
      unfold w_X11_firstMissed_2 at hb
      refine ex_iload_n dX11_firstMissed_2 rfl ?_
      refine ex_aload_n dX11_firstMissed_3 rfl ?_
      refine mx_getr 11 156 dX11_firstMissed_4 fl_X11_7 oc_at_155 (rf_11_0 oc_at_155) ?_
      refine ex_bipush 85 dX11_firstMissed_7 kB_85 ?_
      refine mx_iald (M 156 85) dX11_firstMissed_9 (rdc_156_85 _) ?_
      refine ex_icmp_ge 44 dX11_firstMissed_10 (by decide) (fun c2 => ?_) (fun c2 => ?_)
      · rw [if_pos c2] at hb
        refine ex_mskL [false, false] (L2 := [none, none]) rfl ?_
        cases hb
        cases (he _ rfl) <;> exact hx
      · rw [if_neg c2] at hb
        refine ex_aload_n dX11_firstMissed_13 rfl ?_
        refine ex_iload_n dX11_firstMissed_14 rfl ?_
        refine ex_iconst 2 dX11_firstMissed_15 kI_2 ?_
        obtain ⟨x3, qx3, hb⟩ := b1E hb
        refine mx_cVi [.int i1, .int 2] [] 155 11 x3 dX11_firstMissed_16 cl_X11_364 im_X11_ofWant cy_X11_ofWant oc_at_155 rfl (Nat.le_of_ble_eq_true rfl) (by decide) (t_X11_ofWant l E i1 2 M qx3) ?_
        refine ex_aload_n dX11_firstMissed_19 rfl ?_
        refine mx_getr 11 156 dX11_firstMissed_20 fl_X11_7 oc_at_155 (rf_11_0 oc_at_155) ?_
        refine ex_iconst 0 dX11_firstMissed_23 kI_0 ?_
        refine mx_iald (M 156 0) dX11_firstMissed_24 (rdc_156_0 _) ?_
        have JXC6 : (x3 = (M 156 0) ∧ (f_X11_isMet i1 M) = 0) → XM l E (RX11, "firstMissed", cX11_firstMissed, 2) (some .int) 1 36 [some (.ref 155), some (.int i1)] [] M M (some (.int r)) := fun C6 => by
          rw [if_pos C6] at hb
          refine ex_mskL [false, true] (L2 := [none, some (.int i1)]) rfl ?_
          cases hb
          cases (he _ rfl) <;> exact hx
        have JYC6 : ¬ ((x3 = (M 156 0) ∧ (f_X11_isMet i1 M) = 0)) → XM l E (RX11, "firstMissed", cX11_firstMissed, 2) (some .int) 1 38 [some (.ref 155), some (.int i1)] [] M M (some (.int r)) := fun C6 => by
          rw [if_neg C6] at hb
          refine ex_iinc 1 (L2 := [some (.ref 155), some (.int (i1 + 1))]) dX11_firstMissed_38 rfl kI_1 (by decide) rfl ?_
          refine ex_goto 2 dX11_firstMissed_41 (by decide) ?_
          refine ex_mskL [true, true] (L2 := [some (.ref 155), some (.int (i1 + 1))]) rfl ?_
          cases hb
          exact hk (i1 + 1) rfl
        clear hb
        refine ex_icmp_ne 38 dX11_firstMissed_25 (by decide) (fun c4 => ?_) (fun c4 => ?_)
        · exact JYC6 (fun z => c4 z.1)
        · refine ex_aload_n dX11_firstMissed_28 rfl ?_
          refine ex_iload_n dX11_firstMissed_29 rfl ?_
          refine mx_cVi [.int i1] [] 155 11 (f_X11_isMet i1 M) dX11_firstMissed_30 cl_X11_361 im_X11_isMet cy_X11_isMet oc_at_155 rfl (Nat.le_of_ble_eq_true rfl) (by decide) (t_X11_isMet l E i1 M rfl) ?_
          refine ex_if_ne 38 dX11_firstMissed_33 (by decide) (fun c5 => ?_) (fun c5 => ?_)
          · exact JYC6 (fun z => c5 z.2)
          · exact JXC6 ⟨c4, c5⟩)
    exact key FU 0 hlq7
def w_X11_goes_25 (i4 : Int32) (M5 : Mem) : Option ((Int32 × Mem) ⊕ (Mem)) :=
  if 80 ≤ i4 then (some (.inr M5)) else (b1 (rd M5 156 i4) fun x7 => b1 (wr M5 159 i4 x7) fun M8 => some (.inl ((i4 + 1), M8)))
def w_X11_goes_59 (a1 : Int32) (i11 : Int32) (i12 : Int32) (M13 : Mem) : Option ((Int32 × Int32 × Mem) ⊕ (Int32 × Mem)) :=
  if a1 ≤ i12 then (some (.inr (i11, M13))) else (b2 (f_X11_morning M13) fun M15 x16 => if i11 = (-1) then (b1 (f_X11_firstMissed M15) fun x19 => b1 (f_X11_evening M15) fun M20 => some (.inl (x19, (i12 + 1), M20))) else (b1 (f_X11_evening M15) fun M18 => some (.inl (i11, (i12 + 1), M18))))
def w_X11_goes_146 (i28 : Int32) (M29 : Mem) : Option ((Int32 × Mem) ⊕ (Mem)) :=
  if 80 ≤ i28 then (some (.inr M29)) else (b1 (rd M29 159 i28) fun x31 => b1 (wr M29 156 i28 x31) fun M32 => some (.inl ((i28 + 1), M32)))
def w_X11_goes_146a (i35 : Int32) (M36 : Mem) : Option ((Int32 × Mem) ⊕ (Mem)) :=
  if 80 ≤ i35 then (some (.inr M36)) else (b1 (rd M36 159 i35) fun x38 => b1 (wr M36 156 i35 x38) fun M39 => some (.inl ((i35 + 1), M39)))
def w_X11_goes_146b (i41 : Int32) (M42 : Mem) : Option ((Int32 × Mem) ⊕ (Mem)) :=
  if 80 ≤ i41 then (some (.inr M42)) else (b1 (rd M42 159 i41) fun x44 => b1 (wr M42 156 i41 x44) fun M45 => some (.inl ((i41 + 1), M45)))
def f_X11_goes (a1 : Int32) (a2 : Int32) (M : Mem) : Option (Mem × Int32) :=
  if ((f_X11_isIn a1 1 60) = 0 ∨ (f_X11_isIn a2 0 3) = 0) then (some (M, (-100000))) else (b1 (lp (fun s => w_X11_goes_25 s.1 s.2) FU (0, M)) fun q9 => lt (up2 q9 155 26 0) fun M10 => b1 (lp (fun s => w_X11_goes_59 a1 s.1 s.2.1 s.2.2) FU ((-1), 0, M10)) fun q21 => if a2 = 0 then (b1 (lp (fun s => w_X11_goes_146b s.1 s.2) FU (0, q21.2)) fun q46 => some (q46, (q21.2 156 1))) else (if a2 = 1 then (b1 (f_X11_count (q21.2 156 6)) fun x34 => b1 (lp (fun s => w_X11_goes_146a s.1 s.2) FU (0, q21.2)) fun q40 => some (q40, x34)) else (lt ((if a2 = 2 then (q21.2 156 7) else q21.1) : Int32) fun x27 => b1 (lp (fun s => w_X11_goes_146 s.1 s.2) FU (0, q21.2)) fun q33 => some (q33, x27))))
set_option maxRecDepth 100000 in
set_option maxHeartbeats 4000000 in
theorem t_X11_goes (l : Launch) (E : EV) (a1 : Int32) (a2 : Int32) (M : Mem) {M' : Mem} {r : Int32} (h : f_X11_goes a1 a2 M = some (M', r)) : RunM l E yX11_goes cX11_goes 6 (some .int) 8 [.ref 155, .int a1, .int a2] M M' (some (.int r)) := by
  refine RunM.of (by decide) (Nat.le_of_ble_eq_true rfl) ?_
  show XM l E (RX11, "goes", cX11_goes, 6) (some .int) 8 0 [some (.ref 155), some (.int a1), some (.int a2), none, none, none] [] M M' (some (.int r))
  unfold f_X11_goes at h
  refine ex_iload_n dX11_goes_0 rfl ?_
  refine ex_iconst 1 dX11_goes_1 kI_1 ?_
  refine ex_bipush 60 dX11_goes_2 kB_60 ?_
  refine mx_cSi [.int a1, .int 1, .int 60] [] (f_X11_isIn a1 1 60) dX11_goes_4 cl_X11_53 sm_X11_isIn rfl (Nat.le_of_ble_eq_true rfl) (by decide) (t_X11_isIn l E a1 1 60 M rfl) ?_
  have JXC3 : ((f_X11_isIn a1 1 60) = 0 ∨ (f_X11_isIn a2 0 3) = 0) → XM l E (RX11, "goes", cX11_goes, 6) (some .int) 8 19 [some (.ref 155), some (.int a1), some (.int a2), none, none, none] [] M M' (some (.int r)) := fun C3 => by
    rw [if_pos C3] at h
    refine ex_ldcw (-100000) dX11_goes_19 (tb (i := 1800) (by decide +kernel)) ?_
    cases h
    exact mx_reti .int dX11_goes_22 ⟨rfl, rfl⟩
  have JYC3 : ¬ (((f_X11_isIn a1 1 60) = 0 ∨ (f_X11_isIn a2 0 3) = 0)) → XM l E (RX11, "goes", cX11_goes, 6) (some .int) 8 24 [some (.ref 155), some (.int a1), some (.int a2), none, none, none] [.int 0] M M' (some (.int r)) := fun C3 => by
    rw [if_neg C3] at h
    refine ex_istore_n (L2 := [some (.ref 155), some (.int a1), some (.int a2), some (.int 0), none, none]) dX11_goes_24 (by decide) rfl ?_
    refine ex_mskL [true, true, true, true, false, false] (L2 := [some (.ref 155), some (.int a1), some (.int a2), some (.int 0), none, none]) rfl ?_
    obtain ⟨q9, hlq9, h⟩ := b1E h
    have hx : XM l E (RX11, "goes", cX11_goes, 6) (some .int) 8 49 [some (.ref 155), some (.int a1), some (.int a2), none, none, none] [] q9 M' (some (.int r)) := by
      refine ex_aload_n dX11_goes_49 rfl ?_
      refine ex_iconst 0 dX11_goes_50 kI_0 ?_
      obtain ⟨M10, eM10, h⟩ := ltE h
      refine mx_puti 11 dX11_goes_51 fl_X11_309 rfl ⟨by decide, rfl⟩ oc_at_155 (isi_11_26 oc_at_155) ?_
      rw [← eM10]
      refine ex_iconst (-1) dX11_goes_54 kI_m1 ?_
      refine ex_istore_n (L2 := [some (.ref 155), some (.int a1), some (.int a2), some (.int (-1)), none, none]) dX11_goes_55 (by decide) rfl ?_
      refine ex_iconst 0 dX11_goes_56 kI_0 ?_
      refine ex_istore (L2 := [some (.ref 155), some (.int a1), some (.int a2), some (.int (-1)), some (.int 0), none]) dX11_goes_57 (by decide) rfl ?_
      refine ex_mskL [true, true, true, true, true, false] (L2 := [some (.ref 155), some (.int a1), some (.int a2), some (.int (-1)), some (.int 0), none]) rfl ?_
      obtain ⟨q21, hlq21, h⟩ := b1E h
      obtain ⟨y22, M23⟩ := q21
      dsimp only at h
      have hx : XM l E (RX11, "goes", cX11_goes, 6) (some .int) 8 94 [some (.ref 155), none, some (.int a2), some (.int y22), none, none] [] M23 M' (some (.int r)) := by
        refine ex_iload_n dX11_goes_94 rfl ?_
        refine ex_if_ne 107 dX11_goes_95 (by decide) (fun c24 => ?_) (fun c24 => ?_)
        · rw [if_neg c24] at h
          refine ex_iload_n dX11_goes_107 rfl ?_
          refine ex_iconst 1 dX11_goes_108 kI_1 ?_
          refine ex_icmp_ne 125 dX11_goes_109 (by decide) (fun c25 => ?_) (fun c25 => ?_)
          · rw [if_neg c25] at h
            refine ex_iload_n dX11_goes_125 rfl ?_
            refine ex_iconst 2 dX11_goes_126 kI_2 ?_
            obtain ⟨x27, ex27, h⟩ := ltE h
            have Jx27 : XM l E (RX11, "goes", cX11_goes, 6) (some .int) 8 141 [some (.ref 155), none, some (.int a2), some (.int y22), none, none] [.int x27] M23 M' (some (.int r)) := by
              refine ex_istore (L2 := [some (.ref 155), none, some (.int a2), some (.int y22), some (.int x27), none]) dX11_goes_141 (by decide) rfl ?_
              refine ex_iconst 0 dX11_goes_143 kI_0 ?_
              refine ex_istore (L2 := [some (.ref 155), none, some (.int a2), some (.int y22), some (.int x27), some (.int 0)]) dX11_goes_144 (by decide) rfl ?_
              refine ex_mskL [true, false, false, false, true, true] (L2 := [some (.ref 155), none, none, none, some (.int x27), some (.int 0)]) rfl ?_
              obtain ⟨q33, hlq33, h⟩ := b1E h
              have hx : XM l E (RX11, "goes", cX11_goes, 6) (some .int) 8 173 [none, none, none, none, some (.int x27), none] [] q33 M' (some (.int r)) := by
                refine ex_iload dX11_goes_173 rfl ?_
                cases h
                exact mx_reti .int dX11_goes_175 ⟨rfl, rfl⟩
              clear h
              have key : ∀ (k : Nat) (s : Int32 × Mem), lp (fun s => w_X11_goes_146 s.1 s.2) k s = some q33 → XM l E (RX11, "goes", cX11_goes, 6) (some .int) 8 146 [some (.ref 155), none, none, none, some (.int x27), some (.int s.1)] [] s.2 M' (some (.int r)) := lp_ind (P := fun (s : Int32 × Mem) => XM l E (RX11, "goes", cX11_goes, 6) (some .int) 8 146 [some (.ref 155), none, none, none, some (.int x27), some (.int s.1)] [] s.2 M' (some (.int r))) (fun s t hb hk he => by
                obtain ⟨i28, M29⟩ := s
                show XM l E (RX11, "goes", cX11_goes, 6) (some .int) 8 146 [some (.ref 155), none, none, none, some (.int x27), some (.int i28)] [] M29 M' (some (.int r))
                change w_X11_goes_146 i28 M29 = some t at hb
                unfold w_X11_goes_146 at hb
                refine ex_iload dX11_goes_146 rfl ?_
                refine ex_bipush 80 dX11_goes_148 kB_80 ?_
                refine ex_icmp_ge 173 dX11_goes_150 (by decide) (fun c30 => ?_) (fun c30 => ?_)
                · rw [if_pos c30] at hb
                  refine ex_mskL [false, false, false, false, true, false] (L2 := [none, none, none, none, some (.int x27), none]) rfl ?_
                  cases hb
                  cases (he _ rfl) <;> exact hx
                · rw [if_neg c30] at hb
                  refine ex_aload_n dX11_goes_153 rfl ?_
                  refine mx_getr 11 156 dX11_goes_154 fl_X11_7 oc_at_155 (rf_11_0 oc_at_155) ?_
                  refine ex_iload dX11_goes_157 rfl ?_
                  refine ex_aload_n dX11_goes_159 rfl ?_
                  refine mx_getr 11 159 dX11_goes_160 fl_X11_19 oc_at_155 (rf_11_3 oc_at_155) ?_
                  refine ex_iload dX11_goes_163 rfl ?_
                  obtain ⟨x31, qx31, hb⟩ := b1E hb
                  refine mx_iald x31 dX11_goes_165 qx31 ?_
                  obtain ⟨M32, qM32, hb⟩ := b1E hb
                  refine mx_iast M32 dX11_goes_166 qM32 ?_
                  refine ex_iinc 1 (L2 := [some (.ref 155), none, none, none, some (.int x27), some (.int (i28 + 1))]) dX11_goes_167 rfl kI_1 (by decide) rfl ?_
                  refine ex_goto 146 dX11_goes_170 (by decide) ?_
                  refine ex_mskL [true, false, false, false, true, true] (L2 := [some (.ref 155), none, none, none, some (.int x27), some (.int (i28 + 1))]) rfl ?_
                  cases hb
                  exact hk ((i28 + 1), M32) rfl)
              exact key FU (0, M23) hlq33
            clear h
            refine ex_icmp_ne 140 dX11_goes_127 (by decide) (fun c26 => ?_) (fun c26 => ?_)
            · rw [if_neg c26] at ex27
              refine ex_iload_n dX11_goes_140 rfl ?_
              subst ex27
              exact Jx27
            · rw [if_pos c26] at ex27
              refine ex_aload_n dX11_goes_130 rfl ?_
              refine mx_getr 11 156 dX11_goes_131 fl_X11_7 oc_at_155 (rf_11_0 oc_at_155) ?_
              refine ex_bipush 7 dX11_goes_134 kB_7 ?_
              refine mx_iald (M23 156 7) dX11_goes_136 (rdc_156_7 _) ?_
              refine ex_goto 141 dX11_goes_137 (by decide) ?_
              subst ex27
              exact Jx27
          · rw [if_pos c25] at h
            refine ex_aload_n dX11_goes_112 rfl ?_
            refine mx_getr 11 156 dX11_goes_113 fl_X11_7 oc_at_155 (rf_11_0 oc_at_155) ?_
            refine ex_bipush 6 dX11_goes_116 kB_6 ?_
            refine mx_iald (M23 156 6) dX11_goes_118 (rdc_156_6 _) ?_
            obtain ⟨x34, qx34, h⟩ := b1E h
            refine mx_cSi [.int (M23 156 6)] [] x34 dX11_goes_119 cl_X11_345 sm_X11_count rfl (Nat.le_of_ble_eq_true rfl) (by decide) (t_X11_count l E (M23 156 6) M23 qx34) ?_
            refine ex_goto 141 dX11_goes_122 (by decide) ?_
            refine ex_istore (L2 := [some (.ref 155), none, some (.int a2), some (.int y22), some (.int x34), none]) dX11_goes_141 (by decide) rfl ?_
            refine ex_iconst 0 dX11_goes_143 kI_0 ?_
            refine ex_istore (L2 := [some (.ref 155), none, some (.int a2), some (.int y22), some (.int x34), some (.int 0)]) dX11_goes_144 (by decide) rfl ?_
            refine ex_mskL [true, false, false, false, true, true] (L2 := [some (.ref 155), none, none, none, some (.int x34), some (.int 0)]) rfl ?_
            obtain ⟨q40, hlq40, h⟩ := b1E h
            have hx : XM l E (RX11, "goes", cX11_goes, 6) (some .int) 8 173 [none, none, none, none, some (.int x34), none] [] q40 M' (some (.int r)) := by
              refine ex_iload dX11_goes_173 rfl ?_
              cases h
              exact mx_reti .int dX11_goes_175 ⟨rfl, rfl⟩
            clear h
            have key : ∀ (k : Nat) (s : Int32 × Mem), lp (fun s => w_X11_goes_146a s.1 s.2) k s = some q40 → XM l E (RX11, "goes", cX11_goes, 6) (some .int) 8 146 [some (.ref 155), none, none, none, some (.int x34), some (.int s.1)] [] s.2 M' (some (.int r)) := lp_ind (P := fun (s : Int32 × Mem) => XM l E (RX11, "goes", cX11_goes, 6) (some .int) 8 146 [some (.ref 155), none, none, none, some (.int x34), some (.int s.1)] [] s.2 M' (some (.int r))) (fun s t hb hk he => by
              obtain ⟨i35, M36⟩ := s
              show XM l E (RX11, "goes", cX11_goes, 6) (some .int) 8 146 [some (.ref 155), none, none, none, some (.int x34), some (.int i35)] [] M36 M' (some (.int r))
              change w_X11_goes_146a i35 M36 = some t at hb
              unfold w_X11_goes_146a at hb
              refine ex_iload dX11_goes_146 rfl ?_
              refine ex_bipush 80 dX11_goes_148 kB_80 ?_
              refine ex_icmp_ge 173 dX11_goes_150 (by decide) (fun c37 => ?_) (fun c37 => ?_)
              · rw [if_pos c37] at hb
                refine ex_mskL [false, false, false, false, true, false] (L2 := [none, none, none, none, some (.int x34), none]) rfl ?_
                cases hb
                cases (he _ rfl) <;> exact hx
              · rw [if_neg c37] at hb
                refine ex_aload_n dX11_goes_153 rfl ?_
                refine mx_getr 11 156 dX11_goes_154 fl_X11_7 oc_at_155 (rf_11_0 oc_at_155) ?_
                refine ex_iload dX11_goes_157 rfl ?_
                refine ex_aload_n dX11_goes_159 rfl ?_
                refine mx_getr 11 159 dX11_goes_160 fl_X11_19 oc_at_155 (rf_11_3 oc_at_155) ?_
                refine ex_iload dX11_goes_163 rfl ?_
                obtain ⟨x38, qx38, hb⟩ := b1E hb
                refine mx_iald x38 dX11_goes_165 qx38 ?_
                obtain ⟨M39, qM39, hb⟩ := b1E hb
                refine mx_iast M39 dX11_goes_166 qM39 ?_
                refine ex_iinc 1 (L2 := [some (.ref 155), none, none, none, some (.int x34), some (.int (i35 + 1))]) dX11_goes_167 rfl kI_1 (by decide) rfl ?_
                refine ex_goto 146 dX11_goes_170 (by decide) ?_
                refine ex_mskL [true, false, false, false, true, true] (L2 := [some (.ref 155), none, none, none, some (.int x34), some (.int (i35 + 1))]) rfl ?_
                cases hb
                exact hk ((i35 + 1), M39) rfl)
            exact key FU (0, M23) hlq40
        · rw [if_pos c24] at h
          refine ex_aload_n dX11_goes_98 rfl ?_
          refine mx_getr 11 156 dX11_goes_99 fl_X11_7 oc_at_155 (rf_11_0 oc_at_155) ?_
          refine ex_iconst 1 dX11_goes_102 kI_1 ?_
          refine mx_iald (M23 156 1) dX11_goes_103 (rdc_156_1 _) ?_
          refine ex_goto 141 dX11_goes_104 (by decide) ?_
          refine ex_istore (L2 := [some (.ref 155), none, some (.int a2), some (.int y22), some (.int (M23 156 1)), none]) dX11_goes_141 (by decide) rfl ?_
          refine ex_iconst 0 dX11_goes_143 kI_0 ?_
          refine ex_istore (L2 := [some (.ref 155), none, some (.int a2), some (.int y22), some (.int (M23 156 1)), some (.int 0)]) dX11_goes_144 (by decide) rfl ?_
          refine ex_mskL [true, false, false, false, true, true] (L2 := [some (.ref 155), none, none, none, some (.int (M23 156 1)), some (.int 0)]) rfl ?_
          obtain ⟨q46, hlq46, h⟩ := b1E h
          have hx : XM l E (RX11, "goes", cX11_goes, 6) (some .int) 8 173 [none, none, none, none, some (.int (M23 156 1)), none] [] q46 M' (some (.int r)) := by
            refine ex_iload dX11_goes_173 rfl ?_
            cases h
            exact mx_reti .int dX11_goes_175 ⟨rfl, rfl⟩
          clear h
          have key : ∀ (k : Nat) (s : Int32 × Mem), lp (fun s => w_X11_goes_146b s.1 s.2) k s = some q46 → XM l E (RX11, "goes", cX11_goes, 6) (some .int) 8 146 [some (.ref 155), none, none, none, some (.int (M23 156 1)), some (.int s.1)] [] s.2 M' (some (.int r)) := lp_ind (P := fun (s : Int32 × Mem) => XM l E (RX11, "goes", cX11_goes, 6) (some .int) 8 146 [some (.ref 155), none, none, none, some (.int (M23 156 1)), some (.int s.1)] [] s.2 M' (some (.int r))) (fun s t hb hk he => by
            obtain ⟨i41, M42⟩ := s
            show XM l E (RX11, "goes", cX11_goes, 6) (some .int) 8 146 [some (.ref 155), none, none, none, some (.int (M23 156 1)), some (.int i41)] [] M42 M' (some (.int r))
            change w_X11_goes_146b i41 M42 = some t at hb
            unfold w_X11_goes_146b at hb
            refine ex_iload dX11_goes_146 rfl ?_
            refine ex_bipush 80 dX11_goes_148 kB_80 ?_
            refine ex_icmp_ge 173 dX11_goes_150 (by decide) (fun c43 => ?_) (fun c43 => ?_)
            · rw [if_pos c43] at hb
              refine ex_mskL [false, false, false, false, true, false] (L2 := [none, none, none, none, some (.int (M23 156 1)), none]) rfl ?_
              cases hb
              cases (he _ rfl) <;> exact hx
            · rw [if_neg c43] at hb
              refine ex_aload_n dX11_goes_153 rfl ?_
              refine mx_getr 11 156 dX11_goes_154 fl_X11_7 oc_at_155 (rf_11_0 oc_at_155) ?_
              refine ex_iload dX11_goes_157 rfl ?_
              refine ex_aload_n dX11_goes_159 rfl ?_
              refine mx_getr 11 159 dX11_goes_160 fl_X11_19 oc_at_155 (rf_11_3 oc_at_155) ?_
              refine ex_iload dX11_goes_163 rfl ?_
              obtain ⟨x44, qx44, hb⟩ := b1E hb
              refine mx_iald x44 dX11_goes_165 qx44 ?_
              obtain ⟨M45, qM45, hb⟩ := b1E hb
              refine mx_iast M45 dX11_goes_166 qM45 ?_
              refine ex_iinc 1 (L2 := [some (.ref 155), none, none, none, some (.int (M23 156 1)), some (.int (i41 + 1))]) dX11_goes_167 rfl kI_1 (by decide) rfl ?_
              refine ex_goto 146 dX11_goes_170 (by decide) ?_
              refine ex_mskL [true, false, false, false, true, true] (L2 := [some (.ref 155), none, none, none, some (.int (M23 156 1)), some (.int (i41 + 1))]) rfl ?_
              cases hb
              exact hk ((i41 + 1), M45) rfl)
          exact key FU (0, M23) hlq46
      clear h
      have key : ∀ (k : Nat) (s : Int32 × Int32 × Mem), lp (fun s => w_X11_goes_59 a1 s.1 s.2.1 s.2.2) k s = some (y22, M23) → XM l E (RX11, "goes", cX11_goes, 6) (some .int) 8 59 [some (.ref 155), some (.int a1), some (.int a2), some (.int s.1), some (.int s.2.1), none] [] s.2.2 M' (some (.int r)) := lp_ind (P := fun (s : Int32 × Int32 × Mem) => XM l E (RX11, "goes", cX11_goes, 6) (some .int) 8 59 [some (.ref 155), some (.int a1), some (.int a2), some (.int s.1), some (.int s.2.1), none] [] s.2.2 M' (some (.int r))) (fun s t hb hk he => by
        obtain ⟨i11, i12, M13⟩ := s
        show XM l E (RX11, "goes", cX11_goes, 6) (some .int) 8 59 [some (.ref 155), some (.int a1), some (.int a2), some (.int i11), some (.int i12), none] [] M13 M' (some (.int r))
        change w_X11_goes_59 a1 i11 i12 M13 = some t at hb
        unfold w_X11_goes_59 at hb
        refine ex_iload dX11_goes_59 rfl ?_
        refine ex_iload_n dX11_goes_61 rfl ?_
        refine ex_icmp_ge 94 dX11_goes_62 (by decide) (fun c14 => ?_) (fun c14 => ?_)
        · rw [if_pos c14] at hb
          refine ex_mskL [true, false, true, true, false, false] (L2 := [some (.ref 155), none, some (.int a2), some (.int i11), none, none]) rfl ?_
          cases hb
          cases (he _ rfl) <;> exact hx
        · rw [if_neg c14] at hb
          refine ex_aload_n dX11_goes_65 rfl ?_
          obtain ⟨M15, x16, qx16, hb⟩ := b2E hb
          refine mx_cVi [] [] 155 11 x16 dX11_goes_66 cl_X11_391 im_X11_morning cy_X11_morning oc_at_155 rfl (Nat.le_of_ble_eq_true rfl) (by decide) (t_X11_morning l E M13 qx16) ?_
          refine ex_pop dX11_goes_69 rfl ?_
          refine ex_iload_n dX11_goes_70 rfl ?_
          refine ex_iconst (-1) dX11_goes_71 kI_m1 ?_
          refine ex_icmp_ne 82 dX11_goes_72 (by decide) (fun c17 => ?_) (fun c17 => ?_)
          · rw [if_neg c17] at hb
            refine ex_iload_n dX11_goes_82 rfl ?_
            refine ex_istore_n (L2 := [some (.ref 155), some (.int a1), some (.int a2), some (.int i11), some (.int i12), none]) dX11_goes_83 (by decide) rfl ?_
            refine ex_aload_n dX11_goes_84 rfl ?_
            obtain ⟨M18, qM18, hb⟩ := b1E hb
            refine mx_cVv [] [] 155 11 dX11_goes_85 cl_X11_394 im_X11_evening cy_X11_evening oc_at_155 rfl (Nat.le_of_ble_eq_true rfl) (by decide) (t_X11_evening l E M15 qM18) ?_
            refine ex_iinc 1 (L2 := [some (.ref 155), some (.int a1), some (.int a2), some (.int i11), some (.int (i12 + 1)), none]) dX11_goes_88 rfl kI_1 (by decide) rfl ?_
            refine ex_goto 59 dX11_goes_91 (by decide) ?_
            refine ex_mskL [true, true, true, true, true, false] (L2 := [some (.ref 155), some (.int a1), some (.int a2), some (.int i11), some (.int (i12 + 1)), none]) rfl ?_
            cases hb
            exact hk (i11, (i12 + 1), M18) rfl
          · rw [if_pos c17] at hb
            refine ex_aload_n dX11_goes_75 rfl ?_
            obtain ⟨x19, qx19, hb⟩ := b1E hb
            refine mx_cVi [] [] 155 11 x19 dX11_goes_76 cl_X11_398 im_X11_firstMissed cy_X11_firstMissed oc_at_155 rfl (Nat.le_of_ble_eq_true rfl) (by decide) (t_X11_firstMissed l E M15 qx19) ?_
            refine ex_goto 83 dX11_goes_79 (by decide) ?_
            refine ex_istore_n (L2 := [some (.ref 155), some (.int a1), some (.int a2), some (.int x19), some (.int i12), none]) dX11_goes_83 (by decide) rfl ?_
            refine ex_aload_n dX11_goes_84 rfl ?_
            obtain ⟨M20, qM20, hb⟩ := b1E hb
            refine mx_cVv [] [] 155 11 dX11_goes_85 cl_X11_394 im_X11_evening cy_X11_evening oc_at_155 rfl (Nat.le_of_ble_eq_true rfl) (by decide) (t_X11_evening l E M15 qM20) ?_
            refine ex_iinc 1 (L2 := [some (.ref 155), some (.int a1), some (.int a2), some (.int x19), some (.int (i12 + 1)), none]) dX11_goes_88 rfl kI_1 (by decide) rfl ?_
            refine ex_goto 59 dX11_goes_91 (by decide) ?_
            refine ex_mskL [true, true, true, true, true, false] (L2 := [some (.ref 155), some (.int a1), some (.int a2), some (.int x19), some (.int (i12 + 1)), none]) rfl ?_
            cases hb
            exact hk (x19, (i12 + 1), M20) rfl)
      exact key FU ((-1), 0, M10) hlq21
    clear h
    have key : ∀ (k : Nat) (s : Int32 × Mem), lp (fun s => w_X11_goes_25 s.1 s.2) k s = some q9 → XM l E (RX11, "goes", cX11_goes, 6) (some .int) 8 25 [some (.ref 155), some (.int a1), some (.int a2), some (.int s.1), none, none] [] s.2 M' (some (.int r)) := lp_ind (P := fun (s : Int32 × Mem) => XM l E (RX11, "goes", cX11_goes, 6) (some .int) 8 25 [some (.ref 155), some (.int a1), some (.int a2), some (.int s.1), none, none] [] s.2 M' (some (.int r))) (fun s t hb hk he => by
      obtain ⟨i4, M5⟩ := s
      show XM l E (RX11, "goes", cX11_goes, 6) (some .int) 8 25 [some (.ref 155), some (.int a1), some (.int a2), some (.int i4), none, none] [] M5 M' (some (.int r))
      change w_X11_goes_25 i4 M5 = some t at hb
      unfold w_X11_goes_25 at hb
      refine ex_iload_n dX11_goes_25 rfl ?_
      refine ex_bipush 80 dX11_goes_26 kB_80 ?_
      refine ex_icmp_ge 49 dX11_goes_28 (by decide) (fun c6 => ?_) (fun c6 => ?_)
      · rw [if_pos c6] at hb
        refine ex_mskL [true, true, true, false, false, false] (L2 := [some (.ref 155), some (.int a1), some (.int a2), none, none, none]) rfl ?_
        cases hb
        cases (he _ rfl) <;> exact hx
      · rw [if_neg c6] at hb
        refine ex_aload_n dX11_goes_31 rfl ?_
        refine mx_getr 11 159 dX11_goes_32 fl_X11_19 oc_at_155 (rf_11_3 oc_at_155) ?_
        refine ex_iload_n dX11_goes_35 rfl ?_
        refine ex_aload_n dX11_goes_36 rfl ?_
        refine mx_getr 11 156 dX11_goes_37 fl_X11_7 oc_at_155 (rf_11_0 oc_at_155) ?_
        refine ex_iload_n dX11_goes_40 rfl ?_
        obtain ⟨x7, qx7, hb⟩ := b1E hb
        refine mx_iald x7 dX11_goes_41 qx7 ?_
        obtain ⟨M8, qM8, hb⟩ := b1E hb
        refine mx_iast M8 dX11_goes_42 qM8 ?_
        refine ex_iinc 1 (L2 := [some (.ref 155), some (.int a1), some (.int a2), some (.int (i4 + 1)), none, none]) dX11_goes_43 rfl kI_1 (by decide) rfl ?_
        refine ex_goto 25 dX11_goes_46 (by decide) ?_
        refine ex_mskL [true, true, true, true, false, false] (L2 := [some (.ref 155), some (.int a1), some (.int a2), some (.int (i4 + 1)), none, none]) rfl ?_
        cases hb
        exact hk ((i4 + 1), M8) rfl)
    exact key FU (0, M) hlq9
  clear h
  refine ex_if_eq 19 dX11_goes_7 (by decide) (fun c1 => ?_) (fun c1 => ?_)
  · exact JXC3 (Or.inl c1)
  · refine ex_iload_n dX11_goes_10 rfl ?_
    refine ex_iconst 0 dX11_goes_11 kI_0 ?_
    refine ex_iconst 3 dX11_goes_12 kI_3 ?_
    refine mx_cSi [.int a2, .int 0, .int 3] [] (f_X11_isIn a2 0 3) dX11_goes_13 cl_X11_53 sm_X11_isIn rfl (Nat.le_of_ble_eq_true rfl) (by decide) (t_X11_isIn l E a2 0 3 M rfl) ?_
    refine ex_if_ne 23 dX11_goes_16 (by decide) (fun c2 => ?_) (fun c2 => ?_)
    · refine ex_iconst 0 dX11_goes_23 kI_0 ?_
      exact JYC3 (fun z => z.elim c1 c2)
    · exact JXC3 (Or.inr c2)
def w_X11_mostGuests_4 (a1 : Int32) (i1 : Int32) (i2 : Int32) (M3 : Mem) : Option ((Int32 × Int32 × Mem) ⊕ (Int32 × Mem)) :=
  if 20 < i2 then (some (.inr (i1, M3))) else (b2 (f_X11_leftOf a1 i2 M3) fun M5 x6 => b2 (f_X11_leftOf a1 i1 M5) fun M7 x8 => if x6 ≤ x8 then (some (.inl (i1, (i2 + 1), M7))) else (some (.inl (i2, (i2 + 1), M7))))
def f_X11_mostGuests (a1 : Int32) (M : Mem) : Option (Mem × Int32) :=
  b1 (lp (fun s => w_X11_mostGuests_4 a1 s.1 s.2.1 s.2.2) FU (1, 2, M)) fun q10 => some (q10.2, q10.1)
set_option maxRecDepth 100000 in
set_option maxHeartbeats 4000000 in
theorem t_X11_mostGuests (l : Launch) (E : EV) (a1 : Int32) (M : Mem) {M' : Mem} {r : Int32} (h : f_X11_mostGuests a1 M = some (M', r)) : RunM l E yX11_mostGuests cX11_mostGuests 4 (some .int) 5 [.ref 155, .int a1] M M' (some (.int r)) := by
  refine RunM.of (by decide) (Nat.le_of_ble_eq_true rfl) ?_
  show XM l E (RX11, "mostGuests", cX11_mostGuests, 4) (some .int) 5 0 [some (.ref 155), some (.int a1), none, none] [] M M' (some (.int r))
  unfold f_X11_mostGuests at h
  refine ex_iconst 1 dX11_mostGuests_0 kI_1 ?_
  refine ex_istore_n (L2 := [some (.ref 155), some (.int a1), some (.int 1), none]) dX11_mostGuests_1 (by decide) rfl ?_
  refine ex_iconst 2 dX11_mostGuests_2 kI_2 ?_
  refine ex_istore_n (L2 := [some (.ref 155), some (.int a1), some (.int 1), some (.int 2)]) dX11_mostGuests_3 (by decide) rfl ?_
  refine ex_mskL [true, true, true, true] (L2 := [some (.ref 155), some (.int a1), some (.int 1), some (.int 2)]) rfl ?_
  obtain ⟨q10, hlq10, h⟩ := b1E h
  obtain ⟨y11, M12⟩ := q10
  dsimp only at h
  have hx : XM l E (RX11, "mostGuests", cX11_mostGuests, 4) (some .int) 5 33 [none, none, some (.int y11), none] [] M12 M' (some (.int r)) := by
    refine ex_iload_n dX11_mostGuests_33 rfl ?_
    cases h
    exact mx_reti .int dX11_mostGuests_34 ⟨rfl, rfl⟩
  clear h
  have key : ∀ (k : Nat) (s : Int32 × Int32 × Mem), lp (fun s => w_X11_mostGuests_4 a1 s.1 s.2.1 s.2.2) k s = some (y11, M12) → XM l E (RX11, "mostGuests", cX11_mostGuests, 4) (some .int) 5 4 [some (.ref 155), some (.int a1), some (.int s.1), some (.int s.2.1)] [] s.2.2 M' (some (.int r)) := lp_ind (P := fun (s : Int32 × Int32 × Mem) => XM l E (RX11, "mostGuests", cX11_mostGuests, 4) (some .int) 5 4 [some (.ref 155), some (.int a1), some (.int s.1), some (.int s.2.1)] [] s.2.2 M' (some (.int r))) (fun s t hb hk he => by
    obtain ⟨i1, i2, M3⟩ := s
    show XM l E (RX11, "mostGuests", cX11_mostGuests, 4) (some .int) 5 4 [some (.ref 155), some (.int a1), some (.int i1), some (.int i2)] [] M3 M' (some (.int r))
    change w_X11_mostGuests_4 a1 i1 i2 M3 = some t at hb
    unfold w_X11_mostGuests_4 at hb
    refine ex_iload_n dX11_mostGuests_4 rfl ?_
    refine ex_bipush 20 dX11_mostGuests_5 kB_20 ?_
    refine ex_icmp_gt 33 dX11_mostGuests_7 (by decide) (fun c4 => ?_) (fun c4 => ?_)
    · rw [if_pos c4] at hb
      refine ex_mskL [false, false, true, false] (L2 := [none, none, some (.int i1), none]) rfl ?_
      cases hb
      cases (he _ rfl) <;> exact hx
    · rw [if_neg c4] at hb
      refine ex_aload_n dX11_mostGuests_10 rfl ?_
      refine ex_iload_n dX11_mostGuests_11 rfl ?_
      refine ex_iload_n dX11_mostGuests_12 rfl ?_
      obtain ⟨M5, x6, qx6, hb⟩ := b2E hb
      refine mx_cVi [.int a1, .int i2] [] 155 11 x6 dX11_mostGuests_13 cl_X11_313 im_X11_leftOf cy_X11_leftOf oc_at_155 rfl (Nat.le_of_ble_eq_true rfl) (by decide) (t_X11_leftOf l E a1 i2 M3 qx6) ?_
      refine ex_aload_n dX11_mostGuests_16 rfl ?_
      refine ex_iload_n dX11_mostGuests_17 rfl ?_
      refine ex_iload_n dX11_mostGuests_18 rfl ?_
      obtain ⟨M7, x8, qx8, hb⟩ := b2E hb
      refine mx_cVi [.int a1, .int i1] [.int x6] 155 11 x8 dX11_mostGuests_19 cl_X11_313 im_X11_leftOf cy_X11_leftOf oc_at_155 rfl (Nat.le_of_ble_eq_true rfl) (by decide) (t_X11_leftOf l E a1 i1 M5 qx8) ?_
      refine ex_icmp_le 27 dX11_mostGuests_22 (by decide) (fun c9 => ?_) (fun c9 => ?_)
      · rw [if_pos c9] at hb
        refine ex_iinc 1 (L2 := [some (.ref 155), some (.int a1), some (.int i1), some (.int (i2 + 1))]) dX11_mostGuests_27 rfl kI_1 (by decide) rfl ?_
        refine ex_goto 4 dX11_mostGuests_30 (by decide) ?_
        refine ex_mskL [true, true, true, true] (L2 := [some (.ref 155), some (.int a1), some (.int i1), some (.int (i2 + 1))]) rfl ?_
        cases hb
        exact hk (i1, (i2 + 1), M7) rfl
      · rw [if_neg c9] at hb
        refine ex_iload_n dX11_mostGuests_25 rfl ?_
        refine ex_istore_n (L2 := [some (.ref 155), some (.int a1), some (.int i2), some (.int i2)]) dX11_mostGuests_26 (by decide) rfl ?_
        refine ex_iinc 1 (L2 := [some (.ref 155), some (.int a1), some (.int i2), some (.int (i2 + 1))]) dX11_mostGuests_27 rfl kI_1 (by decide) rfl ?_
        refine ex_goto 4 dX11_mostGuests_30 (by decide) ?_
        refine ex_mskL [true, true, true, true] (L2 := [some (.ref 155), some (.int a1), some (.int i2), some (.int (i2 + 1))]) rfl ?_
        cases hb
        exact hk (i2, (i2 + 1), M7) rfl)
  exact key FU (1, 2, M) hlq10
def w_X11_holds_2 (a1 : Int32) (a2 : Int32) (i1 : Int32) : Option ((Int32) ⊕ ((Int32) ⊕ (Unit))) :=
  if 20 < i1 then (some (.inr (.inr ()))) else (lt ((if i1 = 1 then a1 else (f_X11_joined (i1 * a1))) : Int32) fun x4 => if x4 < a2 then (some (.inl (i1 + 1))) else (some (.inr (.inl i1))))
def f_X11_holds (a1 : Int32) (a2 : Int32) : Option (Int32) :=
  b1 (lp (fun s => w_X11_holds_2 a1 a2 s) FU 1) fun q6 => match q6 with | .inl u7 => (some u7) | .inr u8 => (some (-1))
set_option maxRecDepth 100000 in
set_option maxHeartbeats 4000000 in
theorem t_X11_holds (l : Launch) (E : EV) (a1 : Int32) (a2 : Int32) (M : Mem) {r : Int32} (h : f_X11_holds a1 a2 = some r) : RunM l E yX11_holds cX11_holds 4 (some .int) 1 [.ref 155, .int a1, .int a2] M M (some (.int r)) := by
  refine RunM.of (by decide) (Nat.le_of_ble_eq_true rfl) ?_
  show XM l E (RX11, "holds", cX11_holds, 4) (some .int) 1 0 [some (.ref 155), some (.int a1), some (.int a2), none] [] M M (some (.int r))
  unfold f_X11_holds at h
  refine ex_iconst 1 dX11_holds_0 kI_1 ?_
  refine ex_istore_n (L2 := [some (.ref 155), some (.int a1), some (.int a2), some (.int 1)]) dX11_holds_1 (by decide) rfl ?_
  refine ex_mskL [false, true, true, true] (L2 := [none, some (.int a1), some (.int a2), some (.int 1)]) rfl ?_
  obtain ⟨q6, hlq6, h⟩ := b1E h
  rcases q6 with u7 | ⟨⟩
  · dsimp only at h
    have hx : XM l E (RX11, "holds", cX11_holds, 4) (some .int) 1 27 [none, none, none, some (.int u7)] [] M M (some (.int r)) := by
      refine ex_iload_n dX11_holds_27 rfl ?_
      cases h
      exact mx_reti .int dX11_holds_28 ⟨rfl, rfl⟩
    clear h
    have key : ∀ (k : Nat) (s : Int32), lp (fun s => w_X11_holds_2 a1 a2 s) k s = some (.inl u7) → XM l E (RX11, "holds", cX11_holds, 4) (some .int) 1 2 [none, some (.int a1), some (.int a2), some (.int s)] [] M M (some (.int r)) := lp_ind (P := fun (s : Int32) => XM l E (RX11, "holds", cX11_holds, 4) (some .int) 1 2 [none, some (.int a1), some (.int a2), some (.int s)] [] M M (some (.int r))) (fun s t hb hk he => by
      revert hb hk he; generalize s = i1; intro hb hk he
      show XM l E (RX11, "holds", cX11_holds, 4) (some .int) 1 2 [none, some (.int a1), some (.int a2), some (.int i1)] [] M M (some (.int r))
      change w_X11_holds_2 a1 a2 i1 = some t at hb
      unfold w_X11_holds_2 at hb
      refine ex_iload_n dX11_holds_2 rfl ?_
      refine ex_bipush 20 dX11_holds_3 kB_20 ?_
      refine ex_icmp_gt 35 dX11_holds_5 (by decide) (fun c2 => ?_) (fun c2 => ?_)
      · rw [if_pos c2] at hb
        refine ex_mskL [false, false, false, false] (L2 := [none, none, none, none]) rfl ?_
        cases hb
        cases (he _ rfl) <;> exact hx
      · rw [if_neg c2] at hb
        refine ex_iload_n dX11_holds_8 rfl ?_
        refine ex_iconst 1 dX11_holds_9 kI_1 ?_
        obtain ⟨x4, ex4, hb⟩ := ltE hb
        have Jx4 : XM l E (RX11, "holds", cX11_holds, 4) (some .int) 1 23 [none, some (.int a1), some (.int a2), some (.int i1)] [.int x4] M M (some (.int r)) := by
          refine ex_iload_n dX11_holds_23 rfl ?_
          refine ex_icmp_lt 29 dX11_holds_24 (by decide) (fun c5 => ?_) (fun c5 => ?_)
          · rw [if_pos c5] at hb
            refine ex_iinc 1 (L2 := [none, some (.int a1), some (.int a2), some (.int (i1 + 1))]) dX11_holds_29 rfl kI_1 (by decide) rfl ?_
            refine ex_goto 2 dX11_holds_32 (by decide) ?_
            refine ex_mskL [false, true, true, true] (L2 := [none, some (.int a1), some (.int a2), some (.int (i1 + 1))]) rfl ?_
            cases hb
            exact hk (i1 + 1) rfl
          · rw [if_neg c5] at hb
            refine ex_mskL [false, false, false, true] (L2 := [none, none, none, some (.int i1)]) rfl ?_
            cases hb
            cases (he _ rfl) <;> exact hx
        clear hb
        refine ex_icmp_ne 17 dX11_holds_10 (by decide) (fun c3 => ?_) (fun c3 => ?_)
        · rw [if_neg c3] at ex4
          refine ex_iload_n dX11_holds_17 rfl ?_
          refine ex_iload_n dX11_holds_18 rfl ?_
          refine ex_imul dX11_holds_19 ?_
          refine mx_cSi [.int (i1 * a1)] [] (f_X11_joined (i1 * a1)) dX11_holds_20 cl_X11_335 sm_X11_joined rfl (Nat.le_of_ble_eq_true rfl) (by decide) (t_X11_joined l E (i1 * a1) M rfl) ?_
          subst ex4
          exact Jx4
        · rw [if_pos c3] at ex4
          refine ex_iload_n dX11_holds_13 rfl ?_
          refine ex_goto 23 dX11_holds_14 (by decide) ?_
          subst ex4
          exact Jx4)
    exact key FU 1 hlq6
  · dsimp only at h
    have hx : XM l E (RX11, "holds", cX11_holds, 4) (some .int) 1 35 [none, none, none, none] [] M M (some (.int r)) := by
      refine ex_iconst (-1) dX11_holds_35 kI_m1 ?_
      cases h
      exact mx_reti .int dX11_holds_36 ⟨rfl, rfl⟩
    clear h
    have key : ∀ (k : Nat) (s : Int32), lp (fun s => w_X11_holds_2 a1 a2 s) k s = some (.inr ()) → XM l E (RX11, "holds", cX11_holds, 4) (some .int) 1 2 [none, some (.int a1), some (.int a2), some (.int s)] [] M M (some (.int r)) := lp_ind (P := fun (s : Int32) => XM l E (RX11, "holds", cX11_holds, 4) (some .int) 1 2 [none, some (.int a1), some (.int a2), some (.int s)] [] M M (some (.int r))) (fun s t hb hk he => by
      revert hb hk he; generalize s = i1; intro hb hk he
      show XM l E (RX11, "holds", cX11_holds, 4) (some .int) 1 2 [none, some (.int a1), some (.int a2), some (.int i1)] [] M M (some (.int r))
      change w_X11_holds_2 a1 a2 i1 = some t at hb
      unfold w_X11_holds_2 at hb
      refine ex_iload_n dX11_holds_2 rfl ?_
      refine ex_bipush 20 dX11_holds_3 kB_20 ?_
      refine ex_icmp_gt 35 dX11_holds_5 (by decide) (fun c2 => ?_) (fun c2 => ?_)
      · rw [if_pos c2] at hb
        refine ex_mskL [false, false, false, false] (L2 := [none, none, none, none]) rfl ?_
        cases hb
        cases (he _ rfl) <;> exact hx
      · rw [if_neg c2] at hb
        refine ex_iload_n dX11_holds_8 rfl ?_
        refine ex_iconst 1 dX11_holds_9 kI_1 ?_
        obtain ⟨x4, ex4, hb⟩ := ltE hb
        have Jx4 : XM l E (RX11, "holds", cX11_holds, 4) (some .int) 1 23 [none, some (.int a1), some (.int a2), some (.int i1)] [.int x4] M M (some (.int r)) := by
          refine ex_iload_n dX11_holds_23 rfl ?_
          refine ex_icmp_lt 29 dX11_holds_24 (by decide) (fun c5 => ?_) (fun c5 => ?_)
          · rw [if_pos c5] at hb
            refine ex_iinc 1 (L2 := [none, some (.int a1), some (.int a2), some (.int (i1 + 1))]) dX11_holds_29 rfl kI_1 (by decide) rfl ?_
            refine ex_goto 2 dX11_holds_32 (by decide) ?_
            refine ex_mskL [false, true, true, true] (L2 := [none, some (.int a1), some (.int a2), some (.int (i1 + 1))]) rfl ?_
            cases hb
            exact hk (i1 + 1) rfl
          · rw [if_neg c5] at hb
            refine ex_mskL [false, false, false, true] (L2 := [none, none, none, some (.int i1)]) rfl ?_
            cases hb
            cases (he _ rfl) <;> exact hx
        clear hb
        refine ex_icmp_ne 17 dX11_holds_10 (by decide) (fun c3 => ?_) (fun c3 => ?_)
        · rw [if_neg c3] at ex4
          refine ex_iload_n dX11_holds_17 rfl ?_
          refine ex_iload_n dX11_holds_18 rfl ?_
          refine ex_imul dX11_holds_19 ?_
          refine mx_cSi [.int (i1 * a1)] [] (f_X11_joined (i1 * a1)) dX11_holds_20 cl_X11_335 sm_X11_joined rfl (Nat.le_of_ble_eq_true rfl) (by decide) (t_X11_joined l E (i1 * a1) M rfl) ?_
          subst ex4
          exact Jx4
        · rw [if_pos c3] at ex4
          refine ex_iload_n dX11_holds_13 rfl ?_
          refine ex_goto 23 dX11_holds_14 (by decide) ?_
          subst ex4
          exact Jx4)
    exact key FU 1 hlq6
def f_X11_most (a1 : Int32) (a2 : Int32) (a3 : Int32) (M : Mem) : Option (Mem × Int32) :=
  if ((f_X11_isKind a1 M) = 0 ∨ ((f_X11_isIn a3 0 2) = 0 ∨ (a3 = 2 ∧ (f_X11_isIn a2 1 999) = 0))) then (some (M, (-1))) else (b2 (f_X11_mostGuests a1 M) fun M6 x7 => b2 (f_X11_leftOf a1 x7 M6) fun M8 x9 => if a3 = 0 then (some (M8, x7)) else (if a3 = 1 then (some (M8, x9)) else (b1 (f_X11_holds x9 a2) fun x12 => some (M8, x12))))
set_option maxRecDepth 100000 in
set_option maxHeartbeats 4000000 in
theorem t_X11_most (l : Launch) (E : EV) (a1 : Int32) (a2 : Int32) (a3 : Int32) (M : Mem) {M' : Mem} {r : Int32} (h : f_X11_most a1 a2 a3 M = some (M', r)) : RunM l E yX11_most cX11_most 6 (some .int) 6 [.ref 155, .int a1, .int a2, .int a3] M M' (some (.int r)) := by
  refine RunM.of (by decide) (Nat.le_of_ble_eq_true rfl) ?_
  show XM l E (RX11, "most", cX11_most, 6) (some .int) 6 0 [some (.ref 155), some (.int a1), some (.int a2), some (.int a3), none, none] [] M M' (some (.int r))
  unfold f_X11_most at h
  refine ex_aload_n dX11_most_0 rfl ?_
  refine ex_iload_n dX11_most_1 rfl ?_
  refine mx_cVi [.int a1] [] 155 11 (f_X11_isKind a1 M) dX11_most_2 cl_X11_239 im_X11_isKind cy_X11_isKind oc_at_155 rfl (Nat.le_of_ble_eq_true rfl) (by decide) (t_X11_isKind l E a1 M rfl) ?_
  have JXC5 : ((f_X11_isKind a1 M) = 0 ∨ ((f_X11_isIn a3 0 2) = 0 ∨ (a3 = 2 ∧ (f_X11_isIn a2 1 999) = 0))) → XM l E (RX11, "most", cX11_most, 6) (some .int) 6 33 [some (.ref 155), some (.int a1), some (.int a2), some (.int a3), none, none] [] M M' (some (.int r)) := fun C5 => by
    rw [if_pos C5] at h
    refine ex_iconst (-1) dX11_most_33 kI_m1 ?_
    cases h
    exact mx_reti .int dX11_most_34 ⟨rfl, rfl⟩
  have JYC5 : ¬ (((f_X11_isKind a1 M) = 0 ∨ ((f_X11_isIn a3 0 2) = 0 ∨ (a3 = 2 ∧ (f_X11_isIn a2 1 999) = 0)))) → XM l E (RX11, "most", cX11_most, 6) (some .int) 6 35 [some (.ref 155), some (.int a1), some (.int a2), some (.int a3), none, none] [] M M' (some (.int r)) := fun C5 => by
    rw [if_neg C5] at h
    refine ex_aload_n dX11_most_35 rfl ?_
    refine ex_iload_n dX11_most_36 rfl ?_
    obtain ⟨M6, x7, qx7, h⟩ := b2E h
    refine mx_cVi [.int a1] [] 155 11 x7 dX11_most_37 cl_X11_401 im_X11_mostGuests cy_X11_mostGuests oc_at_155 rfl (Nat.le_of_ble_eq_true rfl) (by decide) (t_X11_mostGuests l E a1 M qx7) ?_
    refine ex_istore (L2 := [some (.ref 155), some (.int a1), some (.int a2), some (.int a3), some (.int x7), none]) dX11_most_40 (by decide) rfl ?_
    refine ex_aload_n dX11_most_42 rfl ?_
    refine ex_iload_n dX11_most_43 rfl ?_
    refine ex_iload dX11_most_44 rfl ?_
    obtain ⟨M8, x9, qx9, h⟩ := b2E h
    refine mx_cVi [.int a1, .int x7] [] 155 11 x9 dX11_most_46 cl_X11_313 im_X11_leftOf cy_X11_leftOf oc_at_155 rfl (Nat.le_of_ble_eq_true rfl) (by decide) (t_X11_leftOf l E a1 x7 M6 qx9) ?_
    refine ex_istore (L2 := [some (.ref 155), some (.int a1), some (.int a2), some (.int a3), some (.int x7), some (.int x9)]) dX11_most_49 (by decide) rfl ?_
    refine ex_iload_n dX11_most_51 rfl ?_
    refine ex_if_ne 60 dX11_most_52 (by decide) (fun c10 => ?_) (fun c10 => ?_)
    · rw [if_neg c10] at h
      refine ex_iload_n dX11_most_60 rfl ?_
      refine ex_iconst 1 dX11_most_61 kI_1 ?_
      refine ex_icmp_ne 70 dX11_most_62 (by decide) (fun c11 => ?_) (fun c11 => ?_)
      · rw [if_neg c11] at h
        refine ex_aload_n dX11_most_70 rfl ?_
        refine ex_iload dX11_most_71 rfl ?_
        refine ex_iload_n dX11_most_73 rfl ?_
        obtain ⟨x12, qx12, h⟩ := b1E h
        refine mx_cVi [.int x9, .int a2] [] 155 11 x12 dX11_most_74 cl_X11_404 im_X11_holds cy_X11_holds oc_at_155 rfl (Nat.le_of_ble_eq_true rfl) (by decide) (t_X11_holds l E x9 a2 M8 qx12) ?_
        cases h
        exact mx_reti .int dX11_most_77 ⟨rfl, rfl⟩
      · rw [if_pos c11] at h
        refine ex_iload dX11_most_65 rfl ?_
        refine ex_goto 77 dX11_most_67 (by decide) ?_
        cases h
        exact mx_reti .int dX11_most_77 ⟨rfl, rfl⟩
    · rw [if_pos c10] at h
      refine ex_iload dX11_most_55 rfl ?_
      refine ex_goto 77 dX11_most_57 (by decide) ?_
      cases h
      exact mx_reti .int dX11_most_77 ⟨rfl, rfl⟩
  clear h
  refine ex_if_eq 33 dX11_most_5 (by decide) (fun c1 => ?_) (fun c1 => ?_)
  · exact JXC5 (Or.inl c1)
  · refine ex_iload_n dX11_most_8 rfl ?_
    refine ex_iconst 0 dX11_most_9 kI_0 ?_
    refine ex_iconst 2 dX11_most_10 kI_2 ?_
    refine mx_cSi [.int a3, .int 0, .int 2] [] (f_X11_isIn a3 0 2) dX11_most_11 cl_X11_53 sm_X11_isIn rfl (Nat.le_of_ble_eq_true rfl) (by decide) (t_X11_isIn l E a3 0 2 M rfl) ?_
    refine ex_if_eq 33 dX11_most_14 (by decide) (fun c2 => ?_) (fun c2 => ?_)
    · exact JXC5 (Or.inr (Or.inl c2))
    · refine ex_iload_n dX11_most_17 rfl ?_
      refine ex_iconst 2 dX11_most_18 kI_2 ?_
      refine ex_icmp_ne 35 dX11_most_19 (by decide) (fun c3 => ?_) (fun c3 => ?_)
      · exact JYC5 (fun z => z.elim c1 (fun z => z.elim c2 (fun z => c3 z.1)))
      · refine ex_iload_n dX11_most_22 rfl ?_
        refine ex_iconst 1 dX11_most_23 kI_1 ?_
        refine ex_sipush 999 dX11_most_24 kS_999 ?_
        refine mx_cSi [.int a2, .int 1, .int 999] [] (f_X11_isIn a2 1 999) dX11_most_27 cl_X11_53 sm_X11_isIn rfl (Nat.le_of_ble_eq_true rfl) (by decide) (t_X11_isIn l E a2 1 999 M rfl) ?_
        refine ex_if_ne 35 dX11_most_30 (by decide) (fun c4 => ?_) (fun c4 => ?_)
        · exact JYC5 (fun z => z.elim c1 (fun z => z.elim c2 (fun z => c4 z.2)))
        · exact JXC5 (Or.inr (Or.inr ⟨c3, c4⟩))
def f_X11_piece (a1 : Int32) (a2 : Int32) (M : Mem) : Option (Mem × Int32) :=
  if a1 = (-1) then (lt (up2 M 156 87 0) fun M9 => some (M9, 0)) else (if ((f_X11_isIn a1 1 30) = 0 ∨ ((f_X11_isIn a2 1 99) = 0 ∨ (M 156 87) = 6)) then (some (M, (-1))) else (b1 (wr M 156 (307 + (2 * (M 156 87))) a1) fun M6 => b1 (wr M6 156 ((307 + (2 * (M6 156 87))) + 1) a2) fun M7 => lt (up2 M7 156 87 ((M7 156 87) + 1)) fun M8 => some (M8, (M8 156 87))))
set_option maxRecDepth 100000 in
set_option maxHeartbeats 4000000 in
theorem t_X11_piece (l : Launch) (E : EV) (a1 : Int32) (a2 : Int32) (M : Mem) {M' : Mem} {r : Int32} (h : f_X11_piece a1 a2 M = some (M', r)) : RunM l E yX11_piece cX11_piece 3 (some .int) 1 [.ref 155, .int a1, .int a2] M M' (some (.int r)) := by
  refine RunM.of (by decide) (Nat.le_of_ble_eq_true rfl) ?_
  show XM l E (RX11, "piece", cX11_piece, 3) (some .int) 1 0 [some (.ref 155), some (.int a1), some (.int a2)] [] M M' (some (.int r))
  unfold f_X11_piece at h
  refine ex_iload_n dX11_piece_0 rfl ?_
  refine ex_iconst (-1) dX11_piece_1 kI_m1 ?_
  refine ex_icmp_ne 15 dX11_piece_2 (by decide) (fun c1 => ?_) (fun c1 => ?_)
  · rw [if_neg c1] at h
    refine ex_iload_n dX11_piece_15 rfl ?_
    refine ex_iconst 1 dX11_piece_16 kI_1 ?_
    refine ex_bipush 30 dX11_piece_17 kB_30 ?_
    refine mx_cSi [.int a1, .int 1, .int 30] [] (f_X11_isIn a1 1 30) dX11_piece_19 cl_X11_53 sm_X11_isIn rfl (Nat.le_of_ble_eq_true rfl) (by decide) (t_X11_isIn l E a1 1 30 M rfl) ?_
    have JXC5 : ((f_X11_isIn a1 1 30) = 0 ∨ ((f_X11_isIn a2 1 99) = 0 ∨ (M 156 87) = 6)) → XM l E (RX11, "piece", cX11_piece, 3) (some .int) 1 47 [some (.ref 155), some (.int a1), some (.int a2)] [] M M' (some (.int r)) := fun C5 => by
      rw [if_pos C5] at h
      refine ex_iconst (-1) dX11_piece_47 kI_m1 ?_
      cases h
      exact mx_reti .int dX11_piece_48 ⟨rfl, rfl⟩
    have JYC5 : ¬ (((f_X11_isIn a1 1 30) = 0 ∨ ((f_X11_isIn a2 1 99) = 0 ∨ (M 156 87) = 6))) → XM l E (RX11, "piece", cX11_piece, 3) (some .int) 1 67 [some (.ref 155), some (.int a1), some (.int a2)] [.int a1, .int (307 + (2 * (M 156 87))), .ref 156] M M' (some (.int r)) := fun C5 => by
      rw [if_neg C5] at h
      obtain ⟨M6, qM6, h⟩ := b1E h
      refine mx_iast M6 dX11_piece_67 qM6 ?_
      refine ex_aload_n dX11_piece_68 rfl ?_
      refine mx_getr 11 156 dX11_piece_69 fl_X11_7 oc_at_155 (rf_11_0 oc_at_155) ?_
      refine ex_sipush 307 dX11_piece_72 kS_307 ?_
      refine ex_iconst 2 dX11_piece_75 kI_2 ?_
      refine ex_aload_n dX11_piece_76 rfl ?_
      refine mx_getr 11 156 dX11_piece_77 fl_X11_7 oc_at_155 (rf_11_0 oc_at_155) ?_
      refine ex_bipush 87 dX11_piece_80 kB_87 ?_
      refine mx_iald (M6 156 87) dX11_piece_82 (rdc_156_87 _) ?_
      refine ex_imul dX11_piece_83 ?_
      refine ex_iadd dX11_piece_84 ?_
      refine ex_iconst 1 dX11_piece_85 kI_1 ?_
      refine ex_iadd dX11_piece_86 ?_
      refine ex_iload_n dX11_piece_87 rfl ?_
      obtain ⟨M7, qM7, h⟩ := b1E h
      refine mx_iast M7 dX11_piece_88 qM7 ?_
      refine ex_aload_n dX11_piece_89 rfl ?_
      refine mx_getr 11 156 dX11_piece_90 fl_X11_7 oc_at_155 (rf_11_0 oc_at_155) ?_
      refine ex_bipush 87 dX11_piece_93 kB_87 ?_
      refine ex_dup2 dX11_piece_95 rfl rfl ?_
      refine mx_iald (M7 156 87) dX11_piece_96 (rdc_156_87 _) ?_
      refine ex_iconst 1 dX11_piece_97 kI_1 ?_
      refine ex_iadd dX11_piece_98 ?_
      obtain ⟨M8, eM8, h⟩ := ltE h
      refine mx_iast M8 dX11_piece_99 ((wrc_156_87 _ _).trans (congrArg some eM8.symm)) ?_
      refine ex_aload_n dX11_piece_100 rfl ?_
      refine mx_getr 11 156 dX11_piece_101 fl_X11_7 oc_at_155 (rf_11_0 oc_at_155) ?_
      refine ex_bipush 87 dX11_piece_104 kB_87 ?_
      refine mx_iald (M8 156 87) dX11_piece_106 (rdc_156_87 _) ?_
      cases h
      exact mx_reti .int dX11_piece_107 ⟨rfl, rfl⟩
    clear h
    refine ex_if_eq 47 dX11_piece_22 (by decide) (fun c2 => ?_) (fun c2 => ?_)
    · exact JXC5 (Or.inl c2)
    · refine ex_iload_n dX11_piece_25 rfl ?_
      refine ex_iconst 1 dX11_piece_26 kI_1 ?_
      refine ex_bipush 99 dX11_piece_27 kB_99 ?_
      refine mx_cSi [.int a2, .int 1, .int 99] [] (f_X11_isIn a2 1 99) dX11_piece_29 cl_X11_53 sm_X11_isIn rfl (Nat.le_of_ble_eq_true rfl) (by decide) (t_X11_isIn l E a2 1 99 M rfl) ?_
      refine ex_if_eq 47 dX11_piece_32 (by decide) (fun c3 => ?_) (fun c3 => ?_)
      · exact JXC5 (Or.inr (Or.inl c3))
      · refine ex_aload_n dX11_piece_35 rfl ?_
        refine mx_getr 11 156 dX11_piece_36 fl_X11_7 oc_at_155 (rf_11_0 oc_at_155) ?_
        refine ex_bipush 87 dX11_piece_39 kB_87 ?_
        refine mx_iald (M 156 87) dX11_piece_41 (rdc_156_87 _) ?_
        refine ex_bipush 6 dX11_piece_42 kB_6 ?_
        refine ex_icmp_ne 49 dX11_piece_44 (by decide) (fun c4 => ?_) (fun c4 => ?_)
        · refine ex_aload_n dX11_piece_49 rfl ?_
          refine mx_getr 11 156 dX11_piece_50 fl_X11_7 oc_at_155 (rf_11_0 oc_at_155) ?_
          refine ex_sipush 307 dX11_piece_53 kS_307 ?_
          refine ex_iconst 2 dX11_piece_56 kI_2 ?_
          refine ex_aload_n dX11_piece_57 rfl ?_
          refine mx_getr 11 156 dX11_piece_58 fl_X11_7 oc_at_155 (rf_11_0 oc_at_155) ?_
          refine ex_bipush 87 dX11_piece_61 kB_87 ?_
          refine mx_iald (M 156 87) dX11_piece_63 (rdc_156_87 _) ?_
          refine ex_imul dX11_piece_64 ?_
          refine ex_iadd dX11_piece_65 ?_
          refine ex_iload_n dX11_piece_66 rfl ?_
          exact JYC5 (fun z => z.elim c2 (fun z => z.elim c3 c4))
        · exact JXC5 (Or.inr (Or.inr c4))
  · rw [if_pos c1] at h
    refine ex_aload_n dX11_piece_5 rfl ?_
    refine mx_getr 11 156 dX11_piece_6 fl_X11_7 oc_at_155 (rf_11_0 oc_at_155) ?_
    refine ex_bipush 87 dX11_piece_9 kB_87 ?_
    refine ex_iconst 0 dX11_piece_11 kI_0 ?_
    obtain ⟨M9, eM9, h⟩ := ltE h
    refine mx_iast M9 dX11_piece_12 ((wrc_156_87 _ _).trans (congrArg some eM9.symm)) ?_
    refine ex_iconst 0 dX11_piece_13 kI_0 ?_
    cases h
    exact mx_reti .int dX11_piece_14 ⟨rfl, rfl⟩
