def w_X11_laysCuts_14 (a1 : Int32) (i2 : Int32) (i5 : Int32) (M6 : Mem) : Option ((Int32 × Mem) ⊕ (Mem)) :=
  if a1 < i5 then (some (.inr M6)) else (b1 (rd M6 156 87) fun x8 => if i2 = x8 then (b1 (rd M6 156 87) fun x26 => if i2 = x26 then (if i5 < 100000 then (b1 (wr M6 166 ((100 * i2) + i5) 0) fun M36 => some (.inl ((i5 + 1), M36))) else (b1 (rd M6 156 ((307 + (2 * i2)) + 1)) fun x37 => b1 (rd M6 166 (((100 * i2) + i5) - 100000)) fun x38 => lt (f_X11_greater 0 (x37 + x38)) fun x39 => b1 (wr M6 166 ((100 * i2) + i5) x39) fun M40 => some (.inl ((i5 + 1), M40)))) else (b1 (rd M6 156 (307 + (2 * i2))) fun x28 => if i5 < x28 then (b1 (wr M6 166 ((100 * i2) + i5) 0) fun M30 => some (.inl ((i5 + 1), M30))) else (b1 (rd M6 156 ((307 + (2 * i2)) + 1)) fun x31 => b1 (rd M6 166 (((100 * i2) + i5) - x28)) fun x32 => lt (f_X11_greater 0 (x31 + x32)) fun x33 => b1 (wr M6 166 ((100 * i2) + i5) x33) fun M34 => some (.inl ((i5 + 1), M34))))) else (b1 (rd M6 166 ((100 * (i2 + 1)) + i5)) fun x10 => b1 (rd M6 156 87) fun x11 => if i2 = x11 then (if i5 < 100000 then (b1 (wr M6 166 ((100 * i2) + i5) x10) fun M21 => some (.inl ((i5 + 1), M21))) else (b1 (rd M6 156 ((307 + (2 * i2)) + 1)) fun x22 => b1 (rd M6 166 (((100 * i2) + i5) - 100000)) fun x23 => lt (f_X11_greater x10 (x22 + x23)) fun x24 => b1 (wr M6 166 ((100 * i2) + i5) x24) fun M25 => some (.inl ((i5 + 1), M25)))) else (b1 (rd M6 156 (307 + (2 * i2))) fun x13 => if i5 < x13 then (b1 (wr M6 166 ((100 * i2) + i5) x10) fun M15 => some (.inl ((i5 + 1), M15))) else (b1 (rd M6 156 ((307 + (2 * i2)) + 1)) fun x16 => b1 (rd M6 166 (((100 * i2) + i5) - x13)) fun x17 => lt (f_X11_greater x10 (x16 + x17)) fun x18 => b1 (wr M6 166 ((100 * i2) + i5) x18) fun M19 => some (.inl ((i5 + 1), M19))))))
def w_X11_laysCuts_8 (a1 : Int32) (i2 : Int32) (M3 : Mem) : Option ((Int32 × Mem) ⊕ (Mem)) :=
  if i2 < 0 then (some (.inr M3)) else (b1 (lp (fun s => w_X11_laysCuts_14 a1 i2 s.1 s.2) FU (0, M3)) fun q41 => some (.inl ((i2 + (-1)), q41)))
def f_X11_laysCuts (a1 : Int32) (M : Mem) : Option (Mem) :=
  b1 (rd M 156 87) fun x1 => b1 (lp (fun s => w_X11_laysCuts_8 a1 s.1 s.2) FU (x1, M)) fun q42 => some q42
set_option maxRecDepth 100000 in
set_option maxHeartbeats 4000000 in
theorem t_X11_laysCuts (l : Launch) (E : EV) (a1 : Int32) (M : Mem) {M' : Mem} (h : f_X11_laysCuts a1 M = some M') : RunM l E yX11_laysCuts cX11_laysCuts 6 none 1 [.ref 155, .int a1] M M' none := by
  refine RunM.of (by decide) (Nat.le_of_ble_eq_true rfl) ?_
  show XM l E (RX11, "laysCuts", cX11_laysCuts, 6) none 1 0 [some (.ref 155), some (.int a1), none, none, none, none] [] M M' none
  unfold f_X11_laysCuts at h
  refine ex_aload_n dX11_laysCuts_0 rfl ?_
  refine mx_getr 11 156 dX11_laysCuts_1 fl_X11_7 oc_at_155 (rf_11_0 oc_at_155) ?_
  refine ex_bipush 87 dX11_laysCuts_4 kB_87 ?_
  obtain ⟨x1, qx1, h⟩ := b1E h
  refine mx_iald x1 dX11_laysCuts_6 qx1 ?_
  refine ex_istore_n (L2 := [some (.ref 155), some (.int a1), some (.int x1), none, none, none]) dX11_laysCuts_7 (by decide) rfl ?_
  refine ex_mskL [true, true, true, false, false, false] (L2 := [some (.ref 155), some (.int a1), some (.int x1), none, none, none]) rfl ?_
  obtain ⟨q42, hlq42, h⟩ := b1E h
  have hx : XM l E (RX11, "laysCuts", cX11_laysCuts, 6) none 1 147 [none, none, none, none, none, none] [] q42 M' none := by
    cases h
    exact mx_retv dX11_laysCuts_147 rfl
  clear h
  have key : ∀ (k : Nat) (s : Int32 × Mem), lp (fun s => w_X11_laysCuts_8 a1 s.1 s.2) k s = some q42 → XM l E (RX11, "laysCuts", cX11_laysCuts, 6) none 1 8 [some (.ref 155), some (.int a1), some (.int s.1), none, none, none] [] s.2 M' none := lp_ind (P := fun (s : Int32 × Mem) => XM l E (RX11, "laysCuts", cX11_laysCuts, 6) none 1 8 [some (.ref 155), some (.int a1), some (.int s.1), none, none, none] [] s.2 M' none) (fun s t hb hk he => by
    obtain ⟨i2, M3⟩ := s
    show XM l E (RX11, "laysCuts", cX11_laysCuts, 6) none 1 8 [some (.ref 155), some (.int a1), some (.int i2), none, none, none] [] M3 M' none
    change w_X11_laysCuts_8 a1 i2 M3 = some t at hb
    unfold w_X11_laysCuts_8 at hb
    refine ex_iload_n dX11_laysCuts_8 rfl ?_
    refine ex_if_lt 147 dX11_laysCuts_9 (by decide) (fun c4 => ?_) (fun c4 => ?_)
    · rw [if_pos c4] at hb
      refine ex_mskL [false, false, false, false, false, false] (L2 := [none, none, none, none, none, none]) rfl ?_
      cases hb
      cases (he _ rfl) <;> exact hx
    · rw [if_neg c4] at hb
      refine ex_iconst 0 dX11_laysCuts_12 kI_0 ?_
      refine ex_istore_n (L2 := [some (.ref 155), some (.int a1), some (.int i2), some (.int 0), none, none]) dX11_laysCuts_13 (by decide) rfl ?_
      refine ex_mskL [true, true, true, true, false, false] (L2 := [some (.ref 155), some (.int a1), some (.int i2), some (.int 0), none, none]) rfl ?_
      obtain ⟨q41, hlq41, hb⟩ := b1E hb
      have hx : XM l E (RX11, "laysCuts", cX11_laysCuts, 6) none 1 141 [some (.ref 155), some (.int a1), some (.int i2), none, none, none] [] q41 M' none := by
        refine ex_iinc (-1) (L2 := [some (.ref 155), some (.int a1), some (.int (i2 + (-1))), none, none, none]) dX11_laysCuts_141 rfl kI_m1 (by decide) rfl ?_
        refine ex_goto 8 dX11_laysCuts_144 (by decide) ?_
        refine ex_mskL [true, true, true, false, false, false] (L2 := [some (.ref 155), some (.int a1), some (.int (i2 + (-1))), none, none, none]) rfl ?_
        cases hb
        exact hk ((i2 + (-1)), q41) rfl
      clear hb
      have key : ∀ (k : Nat) (s : Int32 × Mem), lp (fun s => w_X11_laysCuts_14 a1 i2 s.1 s.2) k s = some q41 → XM l E (RX11, "laysCuts", cX11_laysCuts, 6) none 1 14 [some (.ref 155), some (.int a1), some (.int i2), some (.int s.1), none, none] [] s.2 M' none := lp_ind (P := fun (s : Int32 × Mem) => XM l E (RX11, "laysCuts", cX11_laysCuts, 6) none 1 14 [some (.ref 155), some (.int a1), some (.int i2), some (.int s.1), none, none] [] s.2 M' none) (fun s t hb hk he => by
        obtain ⟨i5, M6⟩ := s
        show XM l E (RX11, "laysCuts", cX11_laysCuts, 6) none 1 14 [some (.ref 155), some (.int a1), some (.int i2), some (.int i5), none, none] [] M6 M' none
        change w_X11_laysCuts_14 a1 i2 i5 M6 = some t at hb
        unfold w_X11_laysCuts_14 at hb
        refine ex_iload_n dX11_laysCuts_14 rfl ?_
        refine ex_iload_n dX11_laysCuts_15 rfl ?_
        refine ex_icmp_gt 141 dX11_laysCuts_16 (by decide) (fun c7 => ?_) (fun c7 => ?_)
        · rw [if_pos c7] at hb
          refine ex_mskL [true, true, true, false, false, false] (L2 := [some (.ref 155), some (.int a1), some (.int i2), none, none, none]) rfl ?_
          cases hb
          cases (he _ rfl) <;> exact hx
        · rw [if_neg c7] at hb
          refine ex_iload_n dX11_laysCuts_19 rfl ?_
          refine ex_aload_n dX11_laysCuts_20 rfl ?_
          refine mx_getr 11 156 dX11_laysCuts_21 fl_X11_7 oc_at_155 (rf_11_0 oc_at_155) ?_
          refine ex_bipush 87 dX11_laysCuts_24 kB_87 ?_
          obtain ⟨x8, qx8, hb⟩ := b1E hb
          refine mx_iald x8 dX11_laysCuts_26 qx8 ?_
          refine ex_icmp_ne 34 dX11_laysCuts_27 (by decide) (fun c9 => ?_) (fun c9 => ?_)
          · rw [if_neg c9] at hb
            refine ex_aload_n dX11_laysCuts_34 rfl ?_
            refine mx_getr 11 166 dX11_laysCuts_35 fl_X11_44 oc_at_155 (rf_11_27 oc_at_155) ?_
            refine ex_bipush 100 dX11_laysCuts_38 kB_100 ?_
            refine ex_iload_n dX11_laysCuts_40 rfl ?_
            refine ex_iconst 1 dX11_laysCuts_41 kI_1 ?_
            refine ex_iadd dX11_laysCuts_42 ?_
            refine ex_imul dX11_laysCuts_43 ?_
            refine ex_iload_n dX11_laysCuts_44 rfl ?_
            refine ex_iadd dX11_laysCuts_45 ?_
            obtain ⟨x10, qx10, hb⟩ := b1E hb
            refine mx_iald x10 dX11_laysCuts_46 qx10 ?_
            refine ex_istore (L2 := [some (.ref 155), some (.int a1), some (.int i2), some (.int i5), some (.int x10), none]) dX11_laysCuts_47 (by decide) rfl ?_
            refine ex_iload_n dX11_laysCuts_49 rfl ?_
            refine ex_aload_n dX11_laysCuts_50 rfl ?_
            refine mx_getr 11 156 dX11_laysCuts_51 fl_X11_7 oc_at_155 (rf_11_0 oc_at_155) ?_
            refine ex_bipush 87 dX11_laysCuts_54 kB_87 ?_
            obtain ⟨x11, qx11, hb⟩ := b1E hb
            refine mx_iald x11 dX11_laysCuts_56 qx11 ?_
            refine ex_icmp_ne 66 dX11_laysCuts_57 (by decide) (fun c12 => ?_) (fun c12 => ?_)
            · rw [if_neg c12] at hb
              refine ex_aload_n dX11_laysCuts_66 rfl ?_
              refine mx_getr 11 156 dX11_laysCuts_67 fl_X11_7 oc_at_155 (rf_11_0 oc_at_155) ?_
              refine ex_sipush 307 dX11_laysCuts_70 kS_307 ?_
              refine ex_iconst 2 dX11_laysCuts_73 kI_2 ?_
              refine ex_iload_n dX11_laysCuts_74 rfl ?_
              refine ex_imul dX11_laysCuts_75 ?_
              refine ex_iadd dX11_laysCuts_76 ?_
              obtain ⟨x13, qx13, hb⟩ := b1E hb
              refine mx_iald x13 dX11_laysCuts_77 qx13 ?_
              refine ex_istore (L2 := [some (.ref 155), some (.int a1), some (.int i2), some (.int i5), some (.int x10), some (.int x13)]) dX11_laysCuts_78 (by decide) rfl ?_
              refine ex_iload dX11_laysCuts_80 rfl ?_
              refine ex_iload_n dX11_laysCuts_82 rfl ?_
              refine ex_icmp_gt 122 dX11_laysCuts_83 (by decide) (fun c14 => ?_) (fun c14 => ?_)
              · rw [if_pos c14] at hb
                refine ex_aload_n dX11_laysCuts_122 rfl ?_
                refine mx_getr 11 166 dX11_laysCuts_123 fl_X11_44 oc_at_155 (rf_11_27 oc_at_155) ?_
                refine ex_bipush 100 dX11_laysCuts_126 kB_100 ?_
                refine ex_iload_n dX11_laysCuts_128 rfl ?_
                refine ex_imul dX11_laysCuts_129 ?_
                refine ex_iload_n dX11_laysCuts_130 rfl ?_
                refine ex_iadd dX11_laysCuts_131 ?_
                refine ex_iload dX11_laysCuts_132 rfl ?_
                obtain ⟨M15, qM15, hb⟩ := b1E hb
                refine mx_iast M15 dX11_laysCuts_134 qM15 ?_
                refine ex_iinc 1 (L2 := [some (.ref 155), some (.int a1), some (.int i2), some (.int (i5 + 1)), some (.int x10), some (.int x13)]) dX11_laysCuts_135 rfl kI_1 (by decide) rfl ?_
                refine ex_goto 14 dX11_laysCuts_138 (by decide) ?_
                refine ex_mskL [true, true, true, true, false, false] (L2 := [some (.ref 155), some (.int a1), some (.int i2), some (.int (i5 + 1)), none, none]) rfl ?_
                cases hb
                exact hk ((i5 + 1), M15) rfl
              · rw [if_neg c14] at hb
                refine ex_iload dX11_laysCuts_86 rfl ?_
                refine ex_aload_n dX11_laysCuts_88 rfl ?_
                refine mx_getr 11 156 dX11_laysCuts_89 fl_X11_7 oc_at_155 (rf_11_0 oc_at_155) ?_
                refine ex_sipush 307 dX11_laysCuts_92 kS_307 ?_
                refine ex_iconst 2 dX11_laysCuts_95 kI_2 ?_
                refine ex_iload_n dX11_laysCuts_96 rfl ?_
                refine ex_imul dX11_laysCuts_97 ?_
                refine ex_iadd dX11_laysCuts_98 ?_
                refine ex_iconst 1 dX11_laysCuts_99 kI_1 ?_
                refine ex_iadd dX11_laysCuts_100 ?_
                obtain ⟨x16, qx16, hb⟩ := b1E hb
                refine mx_iald x16 dX11_laysCuts_101 qx16 ?_
                refine ex_aload_n dX11_laysCuts_102 rfl ?_
                refine mx_getr 11 166 dX11_laysCuts_103 fl_X11_44 oc_at_155 (rf_11_27 oc_at_155) ?_
                refine ex_bipush 100 dX11_laysCuts_106 kB_100 ?_
                refine ex_iload_n dX11_laysCuts_108 rfl ?_
                refine ex_imul dX11_laysCuts_109 ?_
                refine ex_iload_n dX11_laysCuts_110 rfl ?_
                refine ex_iadd dX11_laysCuts_111 ?_
                refine ex_iload dX11_laysCuts_112 rfl ?_
                refine ex_isub dX11_laysCuts_114 ?_
                obtain ⟨x17, qx17, hb⟩ := b1E hb
                refine mx_iald x17 dX11_laysCuts_115 qx17 ?_
                refine ex_iadd dX11_laysCuts_116 ?_
                refine mx_cSi [.int x10, .int (x16 + x17)] [] (f_X11_greater x10 (x16 + x17)) dX11_laysCuts_117 cl_X11_291 sm_X11_greater rfl (Nat.le_of_ble_eq_true rfl) (by decide) (t_X11_greater l E x10 (x16 + x17) M6 rfl) ?_
                obtain ⟨x18, ex18, hb⟩ := ltE hb
                rw [← ex18]
                refine ex_istore (L2 := [some (.ref 155), some (.int a1), some (.int i2), some (.int i5), some (.int x18), some (.int x13)]) dX11_laysCuts_120 (by decide) rfl ?_
                refine ex_aload_n dX11_laysCuts_122 rfl ?_
                refine mx_getr 11 166 dX11_laysCuts_123 fl_X11_44 oc_at_155 (rf_11_27 oc_at_155) ?_
                refine ex_bipush 100 dX11_laysCuts_126 kB_100 ?_
                refine ex_iload_n dX11_laysCuts_128 rfl ?_
                refine ex_imul dX11_laysCuts_129 ?_
                refine ex_iload_n dX11_laysCuts_130 rfl ?_
                refine ex_iadd dX11_laysCuts_131 ?_
                refine ex_iload dX11_laysCuts_132 rfl ?_
                obtain ⟨M19, qM19, hb⟩ := b1E hb
                refine mx_iast M19 dX11_laysCuts_134 qM19 ?_
                refine ex_iinc 1 (L2 := [some (.ref 155), some (.int a1), some (.int i2), some (.int (i5 + 1)), some (.int x18), some (.int x13)]) dX11_laysCuts_135 rfl kI_1 (by decide) rfl ?_
                refine ex_goto 14 dX11_laysCuts_138 (by decide) ?_
                refine ex_mskL [true, true, true, true, false, false] (L2 := [some (.ref 155), some (.int a1), some (.int i2), some (.int (i5 + 1)), none, none]) rfl ?_
                cases hb
                exact hk ((i5 + 1), M19) rfl
            · rw [if_pos c12] at hb
              refine ex_ldcw 100000 dX11_laysCuts_60 (tb (i := 1829) (by decide +kernel)) ?_
              refine ex_goto 78 dX11_laysCuts_63 (by decide) ?_
              refine ex_istore (L2 := [some (.ref 155), some (.int a1), some (.int i2), some (.int i5), some (.int x10), some (.int 100000)]) dX11_laysCuts_78 (by decide) rfl ?_
              refine ex_iload dX11_laysCuts_80 rfl ?_
              refine ex_iload_n dX11_laysCuts_82 rfl ?_
              refine ex_icmp_gt 122 dX11_laysCuts_83 (by decide) (fun c20 => ?_) (fun c20 => ?_)
              · rw [if_pos c20] at hb
                refine ex_aload_n dX11_laysCuts_122 rfl ?_
                refine mx_getr 11 166 dX11_laysCuts_123 fl_X11_44 oc_at_155 (rf_11_27 oc_at_155) ?_
                refine ex_bipush 100 dX11_laysCuts_126 kB_100 ?_
                refine ex_iload_n dX11_laysCuts_128 rfl ?_
                refine ex_imul dX11_laysCuts_129 ?_
                refine ex_iload_n dX11_laysCuts_130 rfl ?_
                refine ex_iadd dX11_laysCuts_131 ?_
                refine ex_iload dX11_laysCuts_132 rfl ?_
                obtain ⟨M21, qM21, hb⟩ := b1E hb
                refine mx_iast M21 dX11_laysCuts_134 qM21 ?_
                refine ex_iinc 1 (L2 := [some (.ref 155), some (.int a1), some (.int i2), some (.int (i5 + 1)), some (.int x10), some (.int 100000)]) dX11_laysCuts_135 rfl kI_1 (by decide) rfl ?_
                refine ex_goto 14 dX11_laysCuts_138 (by decide) ?_
                refine ex_mskL [true, true, true, true, false, false] (L2 := [some (.ref 155), some (.int a1), some (.int i2), some (.int (i5 + 1)), none, none]) rfl ?_
                cases hb
                exact hk ((i5 + 1), M21) rfl
              · rw [if_neg c20] at hb
                refine ex_iload dX11_laysCuts_86 rfl ?_
                refine ex_aload_n dX11_laysCuts_88 rfl ?_
                refine mx_getr 11 156 dX11_laysCuts_89 fl_X11_7 oc_at_155 (rf_11_0 oc_at_155) ?_
                refine ex_sipush 307 dX11_laysCuts_92 kS_307 ?_
                refine ex_iconst 2 dX11_laysCuts_95 kI_2 ?_
                refine ex_iload_n dX11_laysCuts_96 rfl ?_
                refine ex_imul dX11_laysCuts_97 ?_
                refine ex_iadd dX11_laysCuts_98 ?_
                refine ex_iconst 1 dX11_laysCuts_99 kI_1 ?_
                refine ex_iadd dX11_laysCuts_100 ?_
                obtain ⟨x22, qx22, hb⟩ := b1E hb
                refine mx_iald x22 dX11_laysCuts_101 qx22 ?_
                refine ex_aload_n dX11_laysCuts_102 rfl ?_
                refine mx_getr 11 166 dX11_laysCuts_103 fl_X11_44 oc_at_155 (rf_11_27 oc_at_155) ?_
                refine ex_bipush 100 dX11_laysCuts_106 kB_100 ?_
                refine ex_iload_n dX11_laysCuts_108 rfl ?_
                refine ex_imul dX11_laysCuts_109 ?_
                refine ex_iload_n dX11_laysCuts_110 rfl ?_
                refine ex_iadd dX11_laysCuts_111 ?_
                refine ex_iload dX11_laysCuts_112 rfl ?_
                refine ex_isub dX11_laysCuts_114 ?_
                obtain ⟨x23, qx23, hb⟩ := b1E hb
                refine mx_iald x23 dX11_laysCuts_115 qx23 ?_
                refine ex_iadd dX11_laysCuts_116 ?_
                refine mx_cSi [.int x10, .int (x22 + x23)] [] (f_X11_greater x10 (x22 + x23)) dX11_laysCuts_117 cl_X11_291 sm_X11_greater rfl (Nat.le_of_ble_eq_true rfl) (by decide) (t_X11_greater l E x10 (x22 + x23) M6 rfl) ?_
                obtain ⟨x24, ex24, hb⟩ := ltE hb
                rw [← ex24]
                refine ex_istore (L2 := [some (.ref 155), some (.int a1), some (.int i2), some (.int i5), some (.int x24), some (.int 100000)]) dX11_laysCuts_120 (by decide) rfl ?_
                refine ex_aload_n dX11_laysCuts_122 rfl ?_
                refine mx_getr 11 166 dX11_laysCuts_123 fl_X11_44 oc_at_155 (rf_11_27 oc_at_155) ?_
                refine ex_bipush 100 dX11_laysCuts_126 kB_100 ?_
                refine ex_iload_n dX11_laysCuts_128 rfl ?_
                refine ex_imul dX11_laysCuts_129 ?_
                refine ex_iload_n dX11_laysCuts_130 rfl ?_
                refine ex_iadd dX11_laysCuts_131 ?_
                refine ex_iload dX11_laysCuts_132 rfl ?_
                obtain ⟨M25, qM25, hb⟩ := b1E hb
                refine mx_iast M25 dX11_laysCuts_134 qM25 ?_
                refine ex_iinc 1 (L2 := [some (.ref 155), some (.int a1), some (.int i2), some (.int (i5 + 1)), some (.int x24), some (.int 100000)]) dX11_laysCuts_135 rfl kI_1 (by decide) rfl ?_
                refine ex_goto 14 dX11_laysCuts_138 (by decide) ?_
                refine ex_mskL [true, true, true, true, false, false] (L2 := [some (.ref 155), some (.int a1), some (.int i2), some (.int (i5 + 1)), none, none]) rfl ?_
                cases hb
                exact hk ((i5 + 1), M25) rfl
          · rw [if_pos c9] at hb
            refine ex_iconst 0 dX11_laysCuts_30 kI_0 ?_
            refine ex_goto 47 dX11_laysCuts_31 (by decide) ?_
            refine ex_istore (L2 := [some (.ref 155), some (.int a1), some (.int i2), some (.int i5), some (.int 0), none]) dX11_laysCuts_47 (by decide) rfl ?_
            refine ex_iload_n dX11_laysCuts_49 rfl ?_
            refine ex_aload_n dX11_laysCuts_50 rfl ?_
            refine mx_getr 11 156 dX11_laysCuts_51 fl_X11_7 oc_at_155 (rf_11_0 oc_at_155) ?_
            refine ex_bipush 87 dX11_laysCuts_54 kB_87 ?_
            obtain ⟨x26, qx26, hb⟩ := b1E hb
            refine mx_iald x26 dX11_laysCuts_56 qx26 ?_
            refine ex_icmp_ne 66 dX11_laysCuts_57 (by decide) (fun c27 => ?_) (fun c27 => ?_)
            · rw [if_neg c27] at hb
              refine ex_aload_n dX11_laysCuts_66 rfl ?_
              refine mx_getr 11 156 dX11_laysCuts_67 fl_X11_7 oc_at_155 (rf_11_0 oc_at_155) ?_
              refine ex_sipush 307 dX11_laysCuts_70 kS_307 ?_
              refine ex_iconst 2 dX11_laysCuts_73 kI_2 ?_
              refine ex_iload_n dX11_laysCuts_74 rfl ?_
              refine ex_imul dX11_laysCuts_75 ?_
              refine ex_iadd dX11_laysCuts_76 ?_
              obtain ⟨x28, qx28, hb⟩ := b1E hb
              refine mx_iald x28 dX11_laysCuts_77 qx28 ?_
              refine ex_istore (L2 := [some (.ref 155), some (.int a1), some (.int i2), some (.int i5), some (.int 0), some (.int x28)]) dX11_laysCuts_78 (by decide) rfl ?_
              refine ex_iload dX11_laysCuts_80 rfl ?_
              refine ex_iload_n dX11_laysCuts_82 rfl ?_
              refine ex_icmp_gt 122 dX11_laysCuts_83 (by decide) (fun c29 => ?_) (fun c29 => ?_)
              · rw [if_pos c29] at hb
                refine ex_aload_n dX11_laysCuts_122 rfl ?_
                refine mx_getr 11 166 dX11_laysCuts_123 fl_X11_44 oc_at_155 (rf_11_27 oc_at_155) ?_
                refine ex_bipush 100 dX11_laysCuts_126 kB_100 ?_
                refine ex_iload_n dX11_laysCuts_128 rfl ?_
                refine ex_imul dX11_laysCuts_129 ?_
                refine ex_iload_n dX11_laysCuts_130 rfl ?_
                refine ex_iadd dX11_laysCuts_131 ?_
                refine ex_iload dX11_laysCuts_132 rfl ?_
                obtain ⟨M30, qM30, hb⟩ := b1E hb
                refine mx_iast M30 dX11_laysCuts_134 qM30 ?_
                refine ex_iinc 1 (L2 := [some (.ref 155), some (.int a1), some (.int i2), some (.int (i5 + 1)), some (.int 0), some (.int x28)]) dX11_laysCuts_135 rfl kI_1 (by decide) rfl ?_
                refine ex_goto 14 dX11_laysCuts_138 (by decide) ?_
                refine ex_mskL [true, true, true, true, false, false] (L2 := [some (.ref 155), some (.int a1), some (.int i2), some (.int (i5 + 1)), none, none]) rfl ?_
                cases hb
                exact hk ((i5 + 1), M30) rfl
              · rw [if_neg c29] at hb
                refine ex_iload dX11_laysCuts_86 rfl ?_
                refine ex_aload_n dX11_laysCuts_88 rfl ?_
                refine mx_getr 11 156 dX11_laysCuts_89 fl_X11_7 oc_at_155 (rf_11_0 oc_at_155) ?_
                refine ex_sipush 307 dX11_laysCuts_92 kS_307 ?_
                refine ex_iconst 2 dX11_laysCuts_95 kI_2 ?_
                refine ex_iload_n dX11_laysCuts_96 rfl ?_
                refine ex_imul dX11_laysCuts_97 ?_
                refine ex_iadd dX11_laysCuts_98 ?_
                refine ex_iconst 1 dX11_laysCuts_99 kI_1 ?_
                refine ex_iadd dX11_laysCuts_100 ?_
                obtain ⟨x31, qx31, hb⟩ := b1E hb
                refine mx_iald x31 dX11_laysCuts_101 qx31 ?_
                refine ex_aload_n dX11_laysCuts_102 rfl ?_
                refine mx_getr 11 166 dX11_laysCuts_103 fl_X11_44 oc_at_155 (rf_11_27 oc_at_155) ?_
                refine ex_bipush 100 dX11_laysCuts_106 kB_100 ?_
                refine ex_iload_n dX11_laysCuts_108 rfl ?_
                refine ex_imul dX11_laysCuts_109 ?_
                refine ex_iload_n dX11_laysCuts_110 rfl ?_
                refine ex_iadd dX11_laysCuts_111 ?_
                refine ex_iload dX11_laysCuts_112 rfl ?_
                refine ex_isub dX11_laysCuts_114 ?_
                obtain ⟨x32, qx32, hb⟩ := b1E hb
                refine mx_iald x32 dX11_laysCuts_115 qx32 ?_
                refine ex_iadd dX11_laysCuts_116 ?_
                refine mx_cSi [.int 0, .int (x31 + x32)] [] (f_X11_greater 0 (x31 + x32)) dX11_laysCuts_117 cl_X11_291 sm_X11_greater rfl (Nat.le_of_ble_eq_true rfl) (by decide) (t_X11_greater l E 0 (x31 + x32) M6 rfl) ?_
                obtain ⟨x33, ex33, hb⟩ := ltE hb
                rw [← ex33]
                refine ex_istore (L2 := [some (.ref 155), some (.int a1), some (.int i2), some (.int i5), some (.int x33), some (.int x28)]) dX11_laysCuts_120 (by decide) rfl ?_
                refine ex_aload_n dX11_laysCuts_122 rfl ?_
                refine mx_getr 11 166 dX11_laysCuts_123 fl_X11_44 oc_at_155 (rf_11_27 oc_at_155) ?_
                refine ex_bipush 100 dX11_laysCuts_126 kB_100 ?_
                refine ex_iload_n dX11_laysCuts_128 rfl ?_
                refine ex_imul dX11_laysCuts_129 ?_
                refine ex_iload_n dX11_laysCuts_130 rfl ?_
                refine ex_iadd dX11_laysCuts_131 ?_
                refine ex_iload dX11_laysCuts_132 rfl ?_
                obtain ⟨M34, qM34, hb⟩ := b1E hb
                refine mx_iast M34 dX11_laysCuts_134 qM34 ?_
                refine ex_iinc 1 (L2 := [some (.ref 155), some (.int a1), some (.int i2), some (.int (i5 + 1)), some (.int x33), some (.int x28)]) dX11_laysCuts_135 rfl kI_1 (by decide) rfl ?_
                refine ex_goto 14 dX11_laysCuts_138 (by decide) ?_
                refine ex_mskL [true, true, true, true, false, false] (L2 := [some (.ref 155), some (.int a1), some (.int i2), some (.int (i5 + 1)), none, none]) rfl ?_
                cases hb
                exact hk ((i5 + 1), M34) rfl
            · rw [if_pos c27] at hb
              refine ex_ldcw 100000 dX11_laysCuts_60 (tb (i := 1829) (by decide +kernel)) ?_
              refine ex_goto 78 dX11_laysCuts_63 (by decide) ?_
              refine ex_istore (L2 := [some (.ref 155), some (.int a1), some (.int i2), some (.int i5), some (.int 0), some (.int 100000)]) dX11_laysCuts_78 (by decide) rfl ?_
              refine ex_iload dX11_laysCuts_80 rfl ?_
              refine ex_iload_n dX11_laysCuts_82 rfl ?_
              refine ex_icmp_gt 122 dX11_laysCuts_83 (by decide) (fun c35 => ?_) (fun c35 => ?_)
              · rw [if_pos c35] at hb
                refine ex_aload_n dX11_laysCuts_122 rfl ?_
                refine mx_getr 11 166 dX11_laysCuts_123 fl_X11_44 oc_at_155 (rf_11_27 oc_at_155) ?_
                refine ex_bipush 100 dX11_laysCuts_126 kB_100 ?_
                refine ex_iload_n dX11_laysCuts_128 rfl ?_
                refine ex_imul dX11_laysCuts_129 ?_
                refine ex_iload_n dX11_laysCuts_130 rfl ?_
                refine ex_iadd dX11_laysCuts_131 ?_
                refine ex_iload dX11_laysCuts_132 rfl ?_
                obtain ⟨M36, qM36, hb⟩ := b1E hb
                refine mx_iast M36 dX11_laysCuts_134 qM36 ?_
                refine ex_iinc 1 (L2 := [some (.ref 155), some (.int a1), some (.int i2), some (.int (i5 + 1)), some (.int 0), some (.int 100000)]) dX11_laysCuts_135 rfl kI_1 (by decide) rfl ?_
                refine ex_goto 14 dX11_laysCuts_138 (by decide) ?_
                refine ex_mskL [true, true, true, true, false, false] (L2 := [some (.ref 155), some (.int a1), some (.int i2), some (.int (i5 + 1)), none, none]) rfl ?_
                cases hb
                exact hk ((i5 + 1), M36) rfl
              · rw [if_neg c35] at hb
                refine ex_iload dX11_laysCuts_86 rfl ?_
                refine ex_aload_n dX11_laysCuts_88 rfl ?_
                refine mx_getr 11 156 dX11_laysCuts_89 fl_X11_7 oc_at_155 (rf_11_0 oc_at_155) ?_
                refine ex_sipush 307 dX11_laysCuts_92 kS_307 ?_
                refine ex_iconst 2 dX11_laysCuts_95 kI_2 ?_
                refine ex_iload_n dX11_laysCuts_96 rfl ?_
                refine ex_imul dX11_laysCuts_97 ?_
                refine ex_iadd dX11_laysCuts_98 ?_
                refine ex_iconst 1 dX11_laysCuts_99 kI_1 ?_
                refine ex_iadd dX11_laysCuts_100 ?_
                obtain ⟨x37, qx37, hb⟩ := b1E hb
                refine mx_iald x37 dX11_laysCuts_101 qx37 ?_
                refine ex_aload_n dX11_laysCuts_102 rfl ?_
                refine mx_getr 11 166 dX11_laysCuts_103 fl_X11_44 oc_at_155 (rf_11_27 oc_at_155) ?_
                refine ex_bipush 100 dX11_laysCuts_106 kB_100 ?_
                refine ex_iload_n dX11_laysCuts_108 rfl ?_
                refine ex_imul dX11_laysCuts_109 ?_
                refine ex_iload_n dX11_laysCuts_110 rfl ?_
                refine ex_iadd dX11_laysCuts_111 ?_
                refine ex_iload dX11_laysCuts_112 rfl ?_
                refine ex_isub dX11_laysCuts_114 ?_
                obtain ⟨x38, qx38, hb⟩ := b1E hb
                refine mx_iald x38 dX11_laysCuts_115 qx38 ?_
                refine ex_iadd dX11_laysCuts_116 ?_
                refine mx_cSi [.int 0, .int (x37 + x38)] [] (f_X11_greater 0 (x37 + x38)) dX11_laysCuts_117 cl_X11_291 sm_X11_greater rfl (Nat.le_of_ble_eq_true rfl) (by decide) (t_X11_greater l E 0 (x37 + x38) M6 rfl) ?_
                obtain ⟨x39, ex39, hb⟩ := ltE hb
                rw [← ex39]
                refine ex_istore (L2 := [some (.ref 155), some (.int a1), some (.int i2), some (.int i5), some (.int x39), some (.int 100000)]) dX11_laysCuts_120 (by decide) rfl ?_
                refine ex_aload_n dX11_laysCuts_122 rfl ?_
                refine mx_getr 11 166 dX11_laysCuts_123 fl_X11_44 oc_at_155 (rf_11_27 oc_at_155) ?_
                refine ex_bipush 100 dX11_laysCuts_126 kB_100 ?_
                refine ex_iload_n dX11_laysCuts_128 rfl ?_
                refine ex_imul dX11_laysCuts_129 ?_
                refine ex_iload_n dX11_laysCuts_130 rfl ?_
                refine ex_iadd dX11_laysCuts_131 ?_
                refine ex_iload dX11_laysCuts_132 rfl ?_
                obtain ⟨M40, qM40, hb⟩ := b1E hb
                refine mx_iast M40 dX11_laysCuts_134 qM40 ?_
                refine ex_iinc 1 (L2 := [some (.ref 155), some (.int a1), some (.int i2), some (.int (i5 + 1)), some (.int x39), some (.int 100000)]) dX11_laysCuts_135 rfl kI_1 (by decide) rfl ?_
                refine ex_goto 14 dX11_laysCuts_138 (by decide) ?_
                refine ex_mskL [true, true, true, true, false, false] (L2 := [some (.ref 155), some (.int a1), some (.int i2), some (.int (i5 + 1)), none, none]) rfl ?_
                cases hb
                exact hk ((i5 + 1), M40) rfl)
      exact key FU (0, M3) hlq41)
  exact key FU (x1, M) hlq42
def w_X11_cuts_86 (M3 : Mem) (i7 : Int32) (x9 : Int32) (i10 : Int32) (i11 : Int32) : Option ((Int32 × Int32) ⊕ (Int32 × Int32)) :=
  if i10 < x9 then (some (.inr (i10, i11))) else (b1 (rd M3 156 ((307 + (2 * i7)) + 1)) fun x13 => b1 (rd M3 166 (((100 * i7) + i10) - x9)) fun x14 => b1 (rd M3 166 ((100 * i7) + i10)) fun x15 => if (x13 + x14) = x15 then (some (.inl ((i10 - x9), (i11 + 1)))) else (some (.inr (i10, i11))))
def w_X11_cuts_59 (a2 : Int32) (M3 : Mem) (i5 : Int32) (i6 : Int32) (i7 : Int32) : Option ((Int32 × Int32 × Int32) ⊕ (Int32)) :=
  if (a2 - 10) < i7 then (some (.inr i6)) else (b1 (rd M3 156 (307 + (2 * i7))) fun x9 => b1 (lp (fun s => w_X11_cuts_86 M3 i7 x9 s.1 s.2) FU (i5, 0)) fun q17 => some (.inl (q17.1, q17.2, (i7 + 1))))
def w_X11_cuts_86a (M24 : Mem) (i28 : Int32) (x30 : Int32) (i31 : Int32) (i32 : Int32) : Option ((Int32 × Int32) ⊕ (Int32 × Int32)) :=
  if i31 < x30 then (some (.inr (i31, i32))) else (b1 (rd M24 156 ((307 + (2 * i28)) + 1)) fun x34 => b1 (rd M24 166 (((100 * i28) + i31) - x30)) fun x35 => b1 (rd M24 166 ((100 * i28) + i31)) fun x36 => if (x34 + x35) = x36 then (some (.inl ((i31 - x30), (i32 + 1)))) else (some (.inr (i31, i32))))
def w_X11_cuts_59a (a2 : Int32) (M24 : Mem) (i26 : Int32) (i27 : Int32) (i28 : Int32) : Option ((Int32 × Int32 × Int32) ⊕ (Int32)) :=
  if (a2 - 10) < i28 then (some (.inr i27)) else (b1 (rd M24 156 (307 + (2 * i28))) fun x30 => b1 (lp (fun s => w_X11_cuts_86a M24 i28 x30 s.1 s.2) FU (i26, 0)) fun q38 => some (.inl (q38.1, q38.2, (i28 + 1))))
def f_X11_cuts (a1 : Int32) (a2 : Int32) (M : Mem) : Option (Mem × Int32) :=
  if (f_X11_isIn a1 0 99) = 0 then (some (M, (-1))) else (if a2 = 0 then (b1 (f_X11_laysCuts a1 M) fun M3 => if a2 = 0 then (b1 (rd M3 166 a1) fun x21 => some (M3, x21)) else (b1 (lp (fun s => w_X11_cuts_59 a2 M3 s.1 s.2.1 s.2.2) FU (a1, 0, 0)) fun q20 => some (M3, q20))) else (b1 (rd M 156 87) fun x22 => if (f_X11_isIn a2 10 (9 + x22)) = 0 then (some (M, (-1))) else (b1 (f_X11_laysCuts a1 M) fun M24 => if a2 = 0 then (b1 (rd M24 166 a1) fun x42 => some (M24, x42)) else (b1 (lp (fun s => w_X11_cuts_59a a2 M24 s.1 s.2.1 s.2.2) FU (a1, 0, 0)) fun q41 => some (M24, q41)))))
set_option maxRecDepth 100000 in
set_option maxHeartbeats 4000000 in
theorem t_X11_cuts (l : Launch) (E : EV) (a1 : Int32) (a2 : Int32) (M : Mem) {M' : Mem} {r : Int32} (h : f_X11_cuts a1 a2 M = some (M', r)) : RunM l E yX11_cuts cX11_cuts 7 (some .int) 2 [.ref 155, .int a1, .int a2] M M' (some (.int r)) := by
  refine RunM.of (by decide) (Nat.le_of_ble_eq_true rfl) ?_
  show XM l E (RX11, "cuts", cX11_cuts, 7) (some .int) 2 0 [some (.ref 155), some (.int a1), some (.int a2), none, none, none, none] [] M M' (some (.int r))
  unfold f_X11_cuts at h
  refine ex_iload_n dX11_cuts_0 rfl ?_
  refine ex_iconst 0 dX11_cuts_1 kI_0 ?_
  refine ex_bipush 99 dX11_cuts_2 kB_99 ?_
  refine mx_cSi [.int a1, .int 0, .int 99] [] (f_X11_isIn a1 0 99) dX11_cuts_4 cl_X11_53 sm_X11_isIn rfl (Nat.le_of_ble_eq_true rfl) (by decide) (t_X11_isIn l E a1 0 99 M rfl) ?_
  refine ex_if_eq 33 dX11_cuts_7 (by decide) (fun c1 => ?_) (fun c1 => ?_)
  · rw [if_pos c1] at h
    refine ex_iconst (-1) dX11_cuts_33 kI_m1 ?_
    cases h
    exact mx_reti .int dX11_cuts_34 ⟨rfl, rfl⟩
  · rw [if_neg c1] at h
    refine ex_iload_n dX11_cuts_10 rfl ?_
    refine ex_if_eq 35 dX11_cuts_11 (by decide) (fun c2 => ?_) (fun c2 => ?_)
    · rw [if_pos c2] at h
      refine ex_aload_n dX11_cuts_35 rfl ?_
      refine ex_iload_n dX11_cuts_36 rfl ?_
      obtain ⟨M3, qM3, h⟩ := b1E h
      refine mx_cVv [.int a1] [] 155 11 dX11_cuts_37 cl_X11_408 im_X11_laysCuts cy_X11_laysCuts oc_at_155 rfl (Nat.le_of_ble_eq_true rfl) (by decide) (t_X11_laysCuts l E a1 M qM3) ?_
      refine ex_iload_n dX11_cuts_40 rfl ?_
      refine ex_if_ne 51 dX11_cuts_41 (by decide) (fun c4 => ?_) (fun c4 => ?_)
      · rw [if_neg c4] at h
        refine ex_iload_n dX11_cuts_51 rfl ?_
        refine ex_istore_n (L2 := [some (.ref 155), some (.int a1), some (.int a2), some (.int a1), none, none, none]) dX11_cuts_52 (by decide) rfl ?_
        refine ex_iconst 0 dX11_cuts_53 kI_0 ?_
        refine ex_istore (L2 := [some (.ref 155), some (.int a1), some (.int a2), some (.int a1), some (.int 0), none, none]) dX11_cuts_54 (by decide) rfl ?_
        refine ex_iconst 0 dX11_cuts_56 kI_0 ?_
        refine ex_istore (L2 := [some (.ref 155), some (.int a1), some (.int a2), some (.int a1), some (.int 0), some (.int 0), none]) dX11_cuts_57 (by decide) rfl ?_
        refine ex_mskL [true, false, true, true, true, true, false] (L2 := [some (.ref 155), none, some (.int a2), some (.int a1), some (.int 0), some (.int 0), none]) rfl ?_
        obtain ⟨q20, hlq20, h⟩ := b1E h
        have hx : XM l E (RX11, "cuts", cX11_cuts, 7) (some .int) 2 155 [none, none, none, none, some (.int q20), none, none] [] M3 M' (some (.int r)) := by
          refine ex_iload dX11_cuts_155 rfl ?_
          cases h
          exact mx_reti .int dX11_cuts_157 ⟨rfl, rfl⟩
        clear h
        have key : ∀ (k : Nat) (s : Int32 × Int32 × Int32), lp (fun s => w_X11_cuts_59 a2 M3 s.1 s.2.1 s.2.2) k s = some q20 → XM l E (RX11, "cuts", cX11_cuts, 7) (some .int) 2 59 [some (.ref 155), none, some (.int a2), some (.int s.1), some (.int s.2.1), some (.int s.2.2), none] [] M3 M' (some (.int r)) := lp_ind (P := fun (s : Int32 × Int32 × Int32) => XM l E (RX11, "cuts", cX11_cuts, 7) (some .int) 2 59 [some (.ref 155), none, some (.int a2), some (.int s.1), some (.int s.2.1), some (.int s.2.2), none] [] M3 M' (some (.int r))) (fun s t hb hk he => by
          obtain ⟨i5, i6, i7⟩ := s
          show XM l E (RX11, "cuts", cX11_cuts, 7) (some .int) 2 59 [some (.ref 155), none, some (.int a2), some (.int i5), some (.int i6), some (.int i7), none] [] M3 M' (some (.int r))
          change w_X11_cuts_59 a2 M3 i5 i6 i7 = some t at hb
          unfold w_X11_cuts_59 at hb
          refine ex_iload dX11_cuts_59 rfl ?_
          refine ex_iload_n dX11_cuts_61 rfl ?_
          refine ex_bipush 10 dX11_cuts_62 kB_10 ?_
          refine ex_isub dX11_cuts_64 ?_
          refine ex_icmp_gt 155 dX11_cuts_65 (by decide) (fun c8 => ?_) (fun c8 => ?_)
          · rw [if_pos c8] at hb
            refine ex_mskL [false, false, false, false, true, false, false] (L2 := [none, none, none, none, some (.int i6), none, none]) rfl ?_
            cases hb
            cases (he _ rfl) <;> exact hx
          · rw [if_neg c8] at hb
            refine ex_iconst 0 dX11_cuts_68 kI_0 ?_
            refine ex_istore (L2 := [some (.ref 155), none, some (.int a2), some (.int i5), some (.int 0), some (.int i7), none]) dX11_cuts_69 (by decide) rfl ?_
            refine ex_aload_n dX11_cuts_71 rfl ?_
            refine mx_getr 11 156 dX11_cuts_72 fl_X11_7 oc_at_155 (rf_11_0 oc_at_155) ?_
            refine ex_sipush 307 dX11_cuts_75 kS_307 ?_
            refine ex_iconst 2 dX11_cuts_78 kI_2 ?_
            refine ex_iload dX11_cuts_79 rfl ?_
            refine ex_imul dX11_cuts_81 ?_
            refine ex_iadd dX11_cuts_82 ?_
            obtain ⟨x9, qx9, hb⟩ := b1E hb
            refine mx_iald x9 dX11_cuts_83 qx9 ?_
            refine ex_istore (L2 := [some (.ref 155), none, some (.int a2), some (.int i5), some (.int 0), some (.int i7), some (.int x9)]) dX11_cuts_84 (by decide) rfl ?_
            refine ex_mskL [true, false, true, true, true, true, true] (L2 := [some (.ref 155), none, some (.int a2), some (.int i5), some (.int 0), some (.int i7), some (.int x9)]) rfl ?_
            obtain ⟨q17, hlq17, hb⟩ := b1E hb
            obtain ⟨y18, y19⟩ := q17
            dsimp only at hb
            have hx : XM l E (RX11, "cuts", cX11_cuts, 7) (some .int) 2 149 [some (.ref 155), none, some (.int a2), some (.int y18), some (.int y19), some (.int i7), none] [] M3 M' (some (.int r)) := by
              refine ex_iinc 1 (L2 := [some (.ref 155), none, some (.int a2), some (.int y18), some (.int y19), some (.int (i7 + 1)), none]) dX11_cuts_149 rfl kI_1 (by decide) rfl ?_
              refine ex_goto 59 dX11_cuts_152 (by decide) ?_
              refine ex_mskL [true, false, true, true, true, true, false] (L2 := [some (.ref 155), none, some (.int a2), some (.int y18), some (.int y19), some (.int (i7 + 1)), none]) rfl ?_
              cases hb
              exact hk (y18, y19, (i7 + 1)) rfl
            clear hb
            have key : ∀ (k : Nat) (s : Int32 × Int32), lp (fun s => w_X11_cuts_86 M3 i7 x9 s.1 s.2) k s = some (y18, y19) → XM l E (RX11, "cuts", cX11_cuts, 7) (some .int) 2 86 [some (.ref 155), none, some (.int a2), some (.int s.1), some (.int s.2), some (.int i7), some (.int x9)] [] M3 M' (some (.int r)) := lp_ind (P := fun (s : Int32 × Int32) => XM l E (RX11, "cuts", cX11_cuts, 7) (some .int) 2 86 [some (.ref 155), none, some (.int a2), some (.int s.1), some (.int s.2), some (.int i7), some (.int x9)] [] M3 M' (some (.int r))) (fun s t hb hk he => by
              obtain ⟨i10, i11⟩ := s
              show XM l E (RX11, "cuts", cX11_cuts, 7) (some .int) 2 86 [some (.ref 155), none, some (.int a2), some (.int i10), some (.int i11), some (.int i7), some (.int x9)] [] M3 M' (some (.int r))
              change w_X11_cuts_86 M3 i7 x9 i10 i11 = some t at hb
              unfold w_X11_cuts_86 at hb
              refine ex_iload dX11_cuts_86 rfl ?_
              refine ex_iload_n dX11_cuts_88 rfl ?_
              refine ex_icmp_gt 149 dX11_cuts_89 (by decide) (fun c12 => ?_) (fun c12 => ?_)
              · rw [if_pos c12] at hb
                refine ex_mskL [true, false, true, true, true, true, false] (L2 := [some (.ref 155), none, some (.int a2), some (.int i10), some (.int i11), some (.int i7), none]) rfl ?_
                cases hb
                cases (he _ rfl) <;> exact hx
              · rw [if_neg c12] at hb
                refine ex_aload_n dX11_cuts_92 rfl ?_
                refine mx_getr 11 156 dX11_cuts_93 fl_X11_7 oc_at_155 (rf_11_0 oc_at_155) ?_
                refine ex_sipush 307 dX11_cuts_96 kS_307 ?_
                refine ex_iconst 2 dX11_cuts_99 kI_2 ?_
                refine ex_iload dX11_cuts_100 rfl ?_
                refine ex_imul dX11_cuts_102 ?_
                refine ex_iadd dX11_cuts_103 ?_
                refine ex_iconst 1 dX11_cuts_104 kI_1 ?_
                refine ex_iadd dX11_cuts_105 ?_
                obtain ⟨x13, qx13, hb⟩ := b1E hb
                refine mx_iald x13 dX11_cuts_106 qx13 ?_
                refine ex_aload_n dX11_cuts_107 rfl ?_
                refine mx_getr 11 166 dX11_cuts_108 fl_X11_44 oc_at_155 (rf_11_27 oc_at_155) ?_
                refine ex_bipush 100 dX11_cuts_111 kB_100 ?_
                refine ex_iload dX11_cuts_113 rfl ?_
                refine ex_imul dX11_cuts_115 ?_
                refine ex_iload_n dX11_cuts_116 rfl ?_
                refine ex_iadd dX11_cuts_117 ?_
                refine ex_iload dX11_cuts_118 rfl ?_
                refine ex_isub dX11_cuts_120 ?_
                obtain ⟨x14, qx14, hb⟩ := b1E hb
                refine mx_iald x14 dX11_cuts_121 qx14 ?_
                refine ex_iadd dX11_cuts_122 ?_
                refine ex_aload_n dX11_cuts_123 rfl ?_
                refine mx_getr 11 166 dX11_cuts_124 fl_X11_44 oc_at_155 (rf_11_27 oc_at_155) ?_
                refine ex_bipush 100 dX11_cuts_127 kB_100 ?_
                refine ex_iload dX11_cuts_129 rfl ?_
                refine ex_imul dX11_cuts_131 ?_
                refine ex_iload_n dX11_cuts_132 rfl ?_
                refine ex_iadd dX11_cuts_133 ?_
                obtain ⟨x15, qx15, hb⟩ := b1E hb
                refine mx_iald x15 dX11_cuts_134 qx15 ?_
                refine ex_icmp_ne 149 dX11_cuts_135 (by decide) (fun c16 => ?_) (fun c16 => ?_)
                · rw [if_neg c16] at hb
                  refine ex_mskL [true, false, true, true, true, true, false] (L2 := [some (.ref 155), none, some (.int a2), some (.int i10), some (.int i11), some (.int i7), none]) rfl ?_
                  cases hb
                  cases (he _ rfl) <;> exact hx
                · rw [if_pos c16] at hb
                  refine ex_iload_n dX11_cuts_138 rfl ?_
                  refine ex_iload dX11_cuts_139 rfl ?_
                  refine ex_isub dX11_cuts_141 ?_
                  refine ex_istore_n (L2 := [some (.ref 155), none, some (.int a2), some (.int (i10 - x9)), some (.int i11), some (.int i7), some (.int x9)]) dX11_cuts_142 (by decide) rfl ?_
                  refine ex_iinc 1 (L2 := [some (.ref 155), none, some (.int a2), some (.int (i10 - x9)), some (.int (i11 + 1)), some (.int i7), some (.int x9)]) dX11_cuts_143 rfl kI_1 (by decide) rfl ?_
                  refine ex_goto 86 dX11_cuts_146 (by decide) ?_
                  refine ex_mskL [true, false, true, true, true, true, true] (L2 := [some (.ref 155), none, some (.int a2), some (.int (i10 - x9)), some (.int (i11 + 1)), some (.int i7), some (.int x9)]) rfl ?_
                  cases hb
                  exact hk ((i10 - x9), (i11 + 1)) rfl)
            exact key FU (i5, 0) hlq17)
        exact key FU (a1, 0, 0) hlq20
      · rw [if_pos c4] at h
        refine ex_aload_n dX11_cuts_44 rfl ?_
        refine mx_getr 11 166 dX11_cuts_45 fl_X11_44 oc_at_155 (rf_11_27 oc_at_155) ?_
        refine ex_iload_n dX11_cuts_48 rfl ?_
        obtain ⟨x21, qx21, h⟩ := b1E h
        refine mx_iald x21 dX11_cuts_49 qx21 ?_
        cases h
        exact mx_reti .int dX11_cuts_50 ⟨rfl, rfl⟩
    · rw [if_neg c2] at h
      refine ex_iload_n dX11_cuts_14 rfl ?_
      refine ex_bipush 10 dX11_cuts_15 kB_10 ?_
      refine ex_bipush 9 dX11_cuts_17 kB_9 ?_
      refine ex_aload_n dX11_cuts_19 rfl ?_
      refine mx_getr 11 156 dX11_cuts_20 fl_X11_7 oc_at_155 (rf_11_0 oc_at_155) ?_
      refine ex_bipush 87 dX11_cuts_23 kB_87 ?_
      obtain ⟨x22, qx22, h⟩ := b1E h
      refine mx_iald x22 dX11_cuts_25 qx22 ?_
      refine ex_iadd dX11_cuts_26 ?_
      refine mx_cSi [.int a2, .int 10, .int (9 + x22)] [] (f_X11_isIn a2 10 (9 + x22)) dX11_cuts_27 cl_X11_53 sm_X11_isIn rfl (Nat.le_of_ble_eq_true rfl) (by decide) (t_X11_isIn l E a2 10 (9 + x22) M rfl) ?_
      refine ex_if_ne 35 dX11_cuts_30 (by decide) (fun c23 => ?_) (fun c23 => ?_)
      · rw [if_neg c23] at h
        refine ex_aload_n dX11_cuts_35 rfl ?_
        refine ex_iload_n dX11_cuts_36 rfl ?_
        obtain ⟨M24, qM24, h⟩ := b1E h
        refine mx_cVv [.int a1] [] 155 11 dX11_cuts_37 cl_X11_408 im_X11_laysCuts cy_X11_laysCuts oc_at_155 rfl (Nat.le_of_ble_eq_true rfl) (by decide) (t_X11_laysCuts l E a1 M qM24) ?_
        refine ex_iload_n dX11_cuts_40 rfl ?_
        refine ex_if_ne 51 dX11_cuts_41 (by decide) (fun c25 => ?_) (fun c25 => ?_)
        · rw [if_neg c25] at h
          refine ex_iload_n dX11_cuts_51 rfl ?_
          refine ex_istore_n (L2 := [some (.ref 155), some (.int a1), some (.int a2), some (.int a1), none, none, none]) dX11_cuts_52 (by decide) rfl ?_
          refine ex_iconst 0 dX11_cuts_53 kI_0 ?_
          refine ex_istore (L2 := [some (.ref 155), some (.int a1), some (.int a2), some (.int a1), some (.int 0), none, none]) dX11_cuts_54 (by decide) rfl ?_
          refine ex_iconst 0 dX11_cuts_56 kI_0 ?_
          refine ex_istore (L2 := [some (.ref 155), some (.int a1), some (.int a2), some (.int a1), some (.int 0), some (.int 0), none]) dX11_cuts_57 (by decide) rfl ?_
          refine ex_mskL [true, false, true, true, true, true, false] (L2 := [some (.ref 155), none, some (.int a2), some (.int a1), some (.int 0), some (.int 0), none]) rfl ?_
          obtain ⟨q41, hlq41, h⟩ := b1E h
          have hx : XM l E (RX11, "cuts", cX11_cuts, 7) (some .int) 2 155 [none, none, none, none, some (.int q41), none, none] [] M24 M' (some (.int r)) := by
            refine ex_iload dX11_cuts_155 rfl ?_
            cases h
            exact mx_reti .int dX11_cuts_157 ⟨rfl, rfl⟩
          clear h
          have key : ∀ (k : Nat) (s : Int32 × Int32 × Int32), lp (fun s => w_X11_cuts_59a a2 M24 s.1 s.2.1 s.2.2) k s = some q41 → XM l E (RX11, "cuts", cX11_cuts, 7) (some .int) 2 59 [some (.ref 155), none, some (.int a2), some (.int s.1), some (.int s.2.1), some (.int s.2.2), none] [] M24 M' (some (.int r)) := lp_ind (P := fun (s : Int32 × Int32 × Int32) => XM l E (RX11, "cuts", cX11_cuts, 7) (some .int) 2 59 [some (.ref 155), none, some (.int a2), some (.int s.1), some (.int s.2.1), some (.int s.2.2), none] [] M24 M' (some (.int r))) (fun s t hb hk he => by
            obtain ⟨i26, i27, i28⟩ := s
            show XM l E (RX11, "cuts", cX11_cuts, 7) (some .int) 2 59 [some (.ref 155), none, some (.int a2), some (.int i26), some (.int i27), some (.int i28), none] [] M24 M' (some (.int r))
            change w_X11_cuts_59a a2 M24 i26 i27 i28 = some t at hb
            unfold w_X11_cuts_59a at hb
            refine ex_iload dX11_cuts_59 rfl ?_
            refine ex_iload_n dX11_cuts_61 rfl ?_
            refine ex_bipush 10 dX11_cuts_62 kB_10 ?_
            refine ex_isub dX11_cuts_64 ?_
            refine ex_icmp_gt 155 dX11_cuts_65 (by decide) (fun c29 => ?_) (fun c29 => ?_)
            · rw [if_pos c29] at hb
              refine ex_mskL [false, false, false, false, true, false, false] (L2 := [none, none, none, none, some (.int i27), none, none]) rfl ?_
              cases hb
              cases (he _ rfl) <;> exact hx
            · rw [if_neg c29] at hb
              refine ex_iconst 0 dX11_cuts_68 kI_0 ?_
              refine ex_istore (L2 := [some (.ref 155), none, some (.int a2), some (.int i26), some (.int 0), some (.int i28), none]) dX11_cuts_69 (by decide) rfl ?_
              refine ex_aload_n dX11_cuts_71 rfl ?_
              refine mx_getr 11 156 dX11_cuts_72 fl_X11_7 oc_at_155 (rf_11_0 oc_at_155) ?_
              refine ex_sipush 307 dX11_cuts_75 kS_307 ?_
              refine ex_iconst 2 dX11_cuts_78 kI_2 ?_
              refine ex_iload dX11_cuts_79 rfl ?_
              refine ex_imul dX11_cuts_81 ?_
              refine ex_iadd dX11_cuts_82 ?_
              obtain ⟨x30, qx30, hb⟩ := b1E hb
              refine mx_iald x30 dX11_cuts_83 qx30 ?_
              refine ex_istore (L2 := [some (.ref 155), none, some (.int a2), some (.int i26), some (.int 0), some (.int i28), some (.int x30)]) dX11_cuts_84 (by decide) rfl ?_
              refine ex_mskL [true, false, true, true, true, true, true] (L2 := [some (.ref 155), none, some (.int a2), some (.int i26), some (.int 0), some (.int i28), some (.int x30)]) rfl ?_
              obtain ⟨q38, hlq38, hb⟩ := b1E hb
              obtain ⟨y39, y40⟩ := q38
              dsimp only at hb
              have hx : XM l E (RX11, "cuts", cX11_cuts, 7) (some .int) 2 149 [some (.ref 155), none, some (.int a2), some (.int y39), some (.int y40), some (.int i28), none] [] M24 M' (some (.int r)) := by
                refine ex_iinc 1 (L2 := [some (.ref 155), none, some (.int a2), some (.int y39), some (.int y40), some (.int (i28 + 1)), none]) dX11_cuts_149 rfl kI_1 (by decide) rfl ?_
                refine ex_goto 59 dX11_cuts_152 (by decide) ?_
                refine ex_mskL [true, false, true, true, true, true, false] (L2 := [some (.ref 155), none, some (.int a2), some (.int y39), some (.int y40), some (.int (i28 + 1)), none]) rfl ?_
                cases hb
                exact hk (y39, y40, (i28 + 1)) rfl
              clear hb
              have key : ∀ (k : Nat) (s : Int32 × Int32), lp (fun s => w_X11_cuts_86a M24 i28 x30 s.1 s.2) k s = some (y39, y40) → XM l E (RX11, "cuts", cX11_cuts, 7) (some .int) 2 86 [some (.ref 155), none, some (.int a2), some (.int s.1), some (.int s.2), some (.int i28), some (.int x30)] [] M24 M' (some (.int r)) := lp_ind (P := fun (s : Int32 × Int32) => XM l E (RX11, "cuts", cX11_cuts, 7) (some .int) 2 86 [some (.ref 155), none, some (.int a2), some (.int s.1), some (.int s.2), some (.int i28), some (.int x30)] [] M24 M' (some (.int r))) (fun s t hb hk he => by
                obtain ⟨i31, i32⟩ := s
                show XM l E (RX11, "cuts", cX11_cuts, 7) (some .int) 2 86 [some (.ref 155), none, some (.int a2), some (.int i31), some (.int i32), some (.int i28), some (.int x30)] [] M24 M' (some (.int r))
                change w_X11_cuts_86a M24 i28 x30 i31 i32 = some t at hb
                unfold w_X11_cuts_86a at hb
                refine ex_iload dX11_cuts_86 rfl ?_
                refine ex_iload_n dX11_cuts_88 rfl ?_
                refine ex_icmp_gt 149 dX11_cuts_89 (by decide) (fun c33 => ?_) (fun c33 => ?_)
                · rw [if_pos c33] at hb
                  refine ex_mskL [true, false, true, true, true, true, false] (L2 := [some (.ref 155), none, some (.int a2), some (.int i31), some (.int i32), some (.int i28), none]) rfl ?_
                  cases hb
                  cases (he _ rfl) <;> exact hx
                · rw [if_neg c33] at hb
                  refine ex_aload_n dX11_cuts_92 rfl ?_
                  refine mx_getr 11 156 dX11_cuts_93 fl_X11_7 oc_at_155 (rf_11_0 oc_at_155) ?_
                  refine ex_sipush 307 dX11_cuts_96 kS_307 ?_
                  refine ex_iconst 2 dX11_cuts_99 kI_2 ?_
                  refine ex_iload dX11_cuts_100 rfl ?_
                  refine ex_imul dX11_cuts_102 ?_
                  refine ex_iadd dX11_cuts_103 ?_
                  refine ex_iconst 1 dX11_cuts_104 kI_1 ?_
                  refine ex_iadd dX11_cuts_105 ?_
                  obtain ⟨x34, qx34, hb⟩ := b1E hb
                  refine mx_iald x34 dX11_cuts_106 qx34 ?_
                  refine ex_aload_n dX11_cuts_107 rfl ?_
                  refine mx_getr 11 166 dX11_cuts_108 fl_X11_44 oc_at_155 (rf_11_27 oc_at_155) ?_
                  refine ex_bipush 100 dX11_cuts_111 kB_100 ?_
                  refine ex_iload dX11_cuts_113 rfl ?_
                  refine ex_imul dX11_cuts_115 ?_
                  refine ex_iload_n dX11_cuts_116 rfl ?_
                  refine ex_iadd dX11_cuts_117 ?_
                  refine ex_iload dX11_cuts_118 rfl ?_
                  refine ex_isub dX11_cuts_120 ?_
                  obtain ⟨x35, qx35, hb⟩ := b1E hb
                  refine mx_iald x35 dX11_cuts_121 qx35 ?_
                  refine ex_iadd dX11_cuts_122 ?_
                  refine ex_aload_n dX11_cuts_123 rfl ?_
                  refine mx_getr 11 166 dX11_cuts_124 fl_X11_44 oc_at_155 (rf_11_27 oc_at_155) ?_
                  refine ex_bipush 100 dX11_cuts_127 kB_100 ?_
                  refine ex_iload dX11_cuts_129 rfl ?_
                  refine ex_imul dX11_cuts_131 ?_
                  refine ex_iload_n dX11_cuts_132 rfl ?_
                  refine ex_iadd dX11_cuts_133 ?_
                  obtain ⟨x36, qx36, hb⟩ := b1E hb
                  refine mx_iald x36 dX11_cuts_134 qx36 ?_
                  refine ex_icmp_ne 149 dX11_cuts_135 (by decide) (fun c37 => ?_) (fun c37 => ?_)
                  · rw [if_neg c37] at hb
                    refine ex_mskL [true, false, true, true, true, true, false] (L2 := [some (.ref 155), none, some (.int a2), some (.int i31), some (.int i32), some (.int i28), none]) rfl ?_
                    cases hb
                    cases (he _ rfl) <;> exact hx
                  · rw [if_pos c37] at hb
                    refine ex_iload_n dX11_cuts_138 rfl ?_
                    refine ex_iload dX11_cuts_139 rfl ?_
                    refine ex_isub dX11_cuts_141 ?_
                    refine ex_istore_n (L2 := [some (.ref 155), none, some (.int a2), some (.int (i31 - x30)), some (.int i32), some (.int i28), some (.int x30)]) dX11_cuts_142 (by decide) rfl ?_
                    refine ex_iinc 1 (L2 := [some (.ref 155), none, some (.int a2), some (.int (i31 - x30)), some (.int (i32 + 1)), some (.int i28), some (.int x30)]) dX11_cuts_143 rfl kI_1 (by decide) rfl ?_
                    refine ex_goto 86 dX11_cuts_146 (by decide) ?_
                    refine ex_mskL [true, false, true, true, true, true, true] (L2 := [some (.ref 155), none, some (.int a2), some (.int (i31 - x30)), some (.int (i32 + 1)), some (.int i28), some (.int x30)]) rfl ?_
                    cases hb
                    exact hk ((i31 - x30), (i32 + 1)) rfl)
              exact key FU (i26, 0) hlq38)
          exact key FU (a1, 0, 0) hlq41
        · rw [if_pos c25] at h
          refine ex_aload_n dX11_cuts_44 rfl ?_
          refine mx_getr 11 166 dX11_cuts_45 fl_X11_44 oc_at_155 (rf_11_27 oc_at_155) ?_
          refine ex_iload_n dX11_cuts_48 rfl ?_
          obtain ⟨x42, qx42, h⟩ := b1E h
          refine mx_iald x42 dX11_cuts_49 qx42 ?_
          cases h
          exact mx_reti .int dX11_cuts_50 ⟨rfl, rfl⟩
      · rw [if_pos c23] at h
        refine ex_iconst (-1) dX11_cuts_33 kI_m1 ?_
        cases h
        exact mx_reti .int dX11_cuts_34 ⟨rfl, rfl⟩
def w_X11_stalls_62 (a1 : Int32) (i7 : Int32) (i11 : Int32) (M12 : Mem) : Option ((Int32 × Mem) ⊕ (Mem)) :=
  if i11 ≤ 0 then (some (.inr M12)) else (b1 (f_X11_sumOf i11 M12) fun x14 => if a1 < x14 then (some (.inl (((i11 - 1) &&& i7), M12))) else (b1 (rd M12 167 i7) fun x16 => b1 (rd M12 167 (i7 &&& (i11 ^^^ (-1)))) fun x17 => b1 (wr M12 167 i7 (f_X11_lesser x16 (1 + x17))) fun M18 => some (.inl (((i11 - 1) &&& i7), M18))))
def w_X11_stalls_45 (a1 : Int32) (x5 : Int32) (i7 : Int32) (M8 : Mem) : Option ((Int32 × Mem) ⊕ (Mem)) :=
  if x5 < i7 then (some (.inr M8)) else (b1 (wr M8 167 i7 100000) fun M10 => b1 (lp (fun s => w_X11_stalls_62 a1 i7 s.1 s.2) FU (i7, M10)) fun q19 => some (.inl ((i7 + 1), q19)))
def f_X11_stalls (a1 : Int32) (M : Mem) : Option (Mem × Int32) :=
  if (f_X11_isIn a1 1 99) = 0 then (some (M, (-1))) else (b1 (rd M 156 7) fun x2 => if x2 ≤ 10 then (b1 (rd M 156 7) fun x4 => lt ((1 <<< (x4 &&& 31)) - 1) fun x5 => b1 (wr M 167 0 0) fun M6 => b1 (lp (fun s => w_X11_stalls_45 a1 x5 s.1 s.2) FU (1, M6)) fun q20 => b1 (rd q20 167 x5) fun x21 => if x21 < 100000 then (b1 (rd q20 167 x5) fun x23 => some (q20, x23)) else (some (q20, (-1)))) else (some (M, (-1))))
set_option maxRecDepth 100000 in
set_option maxHeartbeats 4000000 in
theorem t_X11_stalls (l : Launch) (E : EV) (a1 : Int32) (M : Mem) {M' : Mem} {r : Int32} (h : f_X11_stalls a1 M = some (M', r)) : RunM l E yX11_stalls cX11_stalls 5 (some .int) 2 [.ref 155, .int a1] M M' (some (.int r)) := by
  refine RunM.of (by decide) (Nat.le_of_ble_eq_true rfl) ?_
  show XM l E (RX11, "stalls", cX11_stalls, 5) (some .int) 2 0 [some (.ref 155), some (.int a1), none, none, none] [] M M' (some (.int r))
  unfold f_X11_stalls at h
  refine ex_iload_n dX11_stalls_0 rfl ?_
  refine ex_iconst 1 dX11_stalls_1 kI_1 ?_
  refine ex_bipush 99 dX11_stalls_2 kB_99 ?_
  refine mx_cSi [.int a1, .int 1, .int 99] [] (f_X11_isIn a1 1 99) dX11_stalls_4 cl_X11_53 sm_X11_isIn rfl (Nat.le_of_ble_eq_true rfl) (by decide) (t_X11_isIn l E a1 1 99 M rfl) ?_
  refine ex_if_eq 22 dX11_stalls_7 (by decide) (fun c1 => ?_) (fun c1 => ?_)
  · rw [if_pos c1] at h
    refine ex_iconst (-1) dX11_stalls_22 kI_m1 ?_
    cases h
    exact mx_reti .int dX11_stalls_23 ⟨rfl, rfl⟩
  · rw [if_neg c1] at h
    refine ex_aload_n dX11_stalls_10 rfl ?_
    refine mx_getr 11 156 dX11_stalls_11 fl_X11_7 oc_at_155 (rf_11_0 oc_at_155) ?_
    refine ex_bipush 7 dX11_stalls_14 kB_7 ?_
    obtain ⟨x2, qx2, h⟩ := b1E h
    refine mx_iald x2 dX11_stalls_16 qx2 ?_
    refine ex_bipush 10 dX11_stalls_17 kB_10 ?_
    refine ex_icmp_le 24 dX11_stalls_19 (by decide) (fun c3 => ?_) (fun c3 => ?_)
    · rw [if_pos c3] at h
      refine ex_iconst 1 dX11_stalls_24 kI_1 ?_
      refine ex_aload_n dX11_stalls_25 rfl ?_
      refine mx_getr 11 156 dX11_stalls_26 fl_X11_7 oc_at_155 (rf_11_0 oc_at_155) ?_
      refine ex_bipush 7 dX11_stalls_29 kB_7 ?_
      obtain ⟨x4, qx4, h⟩ := b1E h
      refine mx_iald x4 dX11_stalls_31 qx4 ?_
      refine ex_ishl dX11_stalls_32 ?_
      refine ex_iconst 1 dX11_stalls_33 kI_1 ?_
      refine ex_isub dX11_stalls_34 ?_
      obtain ⟨x5, ex5, h⟩ := ltE h
      rw [← ex5]
      refine ex_istore_n (L2 := [some (.ref 155), some (.int a1), some (.int x5), none, none]) dX11_stalls_35 (by decide) rfl ?_
      refine ex_aload_n dX11_stalls_36 rfl ?_
      refine mx_getr 11 167 dX11_stalls_37 fl_X11_47 oc_at_155 (rf_11_28 oc_at_155) ?_
      refine ex_iconst 0 dX11_stalls_40 kI_0 ?_
      refine ex_iconst 0 dX11_stalls_41 kI_0 ?_
      obtain ⟨M6, qM6, h⟩ := b1E h
      refine mx_iast M6 dX11_stalls_42 qM6 ?_
      refine ex_iconst 1 dX11_stalls_43 kI_1 ?_
      refine ex_istore_n (L2 := [some (.ref 155), some (.int a1), some (.int x5), some (.int 1), none]) dX11_stalls_44 (by decide) rfl ?_
      refine ex_mskL [true, true, true, true, false] (L2 := [some (.ref 155), some (.int a1), some (.int x5), some (.int 1), none]) rfl ?_
      obtain ⟨q20, hlq20, h⟩ := b1E h
      have hx : XM l E (RX11, "stalls", cX11_stalls, 5) (some .int) 2 122 [some (.ref 155), none, some (.int x5), none, none] [] q20 M' (some (.int r)) := by
        refine ex_aload_n dX11_stalls_122 rfl ?_
        refine mx_getr 11 167 dX11_stalls_123 fl_X11_47 oc_at_155 (rf_11_28 oc_at_155) ?_
        refine ex_iload_n dX11_stalls_126 rfl ?_
        obtain ⟨x21, qx21, h⟩ := b1E h
        refine mx_iald x21 dX11_stalls_127 qx21 ?_
        refine ex_ldcw 100000 dX11_stalls_128 (tb (i := 1829) (by decide +kernel)) ?_
        refine ex_icmp_lt 138 dX11_stalls_131 (by decide) (fun c22 => ?_) (fun c22 => ?_)
        · rw [if_pos c22] at h
          refine ex_aload_n dX11_stalls_138 rfl ?_
          refine mx_getr 11 167 dX11_stalls_139 fl_X11_47 oc_at_155 (rf_11_28 oc_at_155) ?_
          refine ex_iload_n dX11_stalls_142 rfl ?_
          obtain ⟨x23, qx23, h⟩ := b1E h
          refine mx_iald x23 dX11_stalls_143 qx23 ?_
          cases h
          exact mx_reti .int dX11_stalls_144 ⟨rfl, rfl⟩
        · rw [if_neg c22] at h
          refine ex_iconst (-1) dX11_stalls_134 kI_m1 ?_
          refine ex_goto 144 dX11_stalls_135 (by decide) ?_
          cases h
          exact mx_reti .int dX11_stalls_144 ⟨rfl, rfl⟩
      clear h
      have key : ∀ (k : Nat) (s : Int32 × Mem), lp (fun s => w_X11_stalls_45 a1 x5 s.1 s.2) k s = some q20 → XM l E (RX11, "stalls", cX11_stalls, 5) (some .int) 2 45 [some (.ref 155), some (.int a1), some (.int x5), some (.int s.1), none] [] s.2 M' (some (.int r)) := lp_ind (P := fun (s : Int32 × Mem) => XM l E (RX11, "stalls", cX11_stalls, 5) (some .int) 2 45 [some (.ref 155), some (.int a1), some (.int x5), some (.int s.1), none] [] s.2 M' (some (.int r))) (fun s t hb hk he => by
        obtain ⟨i7, M8⟩ := s
        show XM l E (RX11, "stalls", cX11_stalls, 5) (some .int) 2 45 [some (.ref 155), some (.int a1), some (.int x5), some (.int i7), none] [] M8 M' (some (.int r))
        change w_X11_stalls_45 a1 x5 i7 M8 = some t at hb
        unfold w_X11_stalls_45 at hb
        refine ex_iload_n dX11_stalls_45 rfl ?_
        refine ex_iload_n dX11_stalls_46 rfl ?_
        refine ex_icmp_gt 122 dX11_stalls_47 (by decide) (fun c9 => ?_) (fun c9 => ?_)
        · rw [if_pos c9] at hb
          refine ex_mskL [true, false, true, false, false] (L2 := [some (.ref 155), none, some (.int x5), none, none]) rfl ?_
          cases hb
          cases (he _ rfl) <;> exact hx
        · rw [if_neg c9] at hb
          refine ex_aload_n dX11_stalls_50 rfl ?_
          refine mx_getr 11 167 dX11_stalls_51 fl_X11_47 oc_at_155 (rf_11_28 oc_at_155) ?_
          refine ex_iload_n dX11_stalls_54 rfl ?_
          refine ex_ldcw 100000 dX11_stalls_55 (tb (i := 1829) (by decide +kernel)) ?_
          obtain ⟨M10, qM10, hb⟩ := b1E hb
          refine mx_iast M10 dX11_stalls_58 qM10 ?_
          refine ex_iload_n dX11_stalls_59 rfl ?_
          refine ex_istore (L2 := [some (.ref 155), some (.int a1), some (.int x5), some (.int i7), some (.int i7)]) dX11_stalls_60 (by decide) rfl ?_
          refine ex_mskL [true, true, true, true, true] (L2 := [some (.ref 155), some (.int a1), some (.int x5), some (.int i7), some (.int i7)]) rfl ?_
          obtain ⟨q19, hlq19, hb⟩ := b1E hb
          have hx : XM l E (RX11, "stalls", cX11_stalls, 5) (some .int) 2 116 [some (.ref 155), some (.int a1), some (.int x5), some (.int i7), none] [] q19 M' (some (.int r)) := by
            refine ex_iinc 1 (L2 := [some (.ref 155), some (.int a1), some (.int x5), some (.int (i7 + 1)), none]) dX11_stalls_116 rfl kI_1 (by decide) rfl ?_
            refine ex_goto 45 dX11_stalls_119 (by decide) ?_
            refine ex_mskL [true, true, true, true, false] (L2 := [some (.ref 155), some (.int a1), some (.int x5), some (.int (i7 + 1)), none]) rfl ?_
            cases hb
            exact hk ((i7 + 1), q19) rfl
          clear hb
          have key : ∀ (k : Nat) (s : Int32 × Mem), lp (fun s => w_X11_stalls_62 a1 i7 s.1 s.2) k s = some q19 → XM l E (RX11, "stalls", cX11_stalls, 5) (some .int) 2 62 [some (.ref 155), some (.int a1), some (.int x5), some (.int i7), some (.int s.1)] [] s.2 M' (some (.int r)) := lp_ind (P := fun (s : Int32 × Mem) => XM l E (RX11, "stalls", cX11_stalls, 5) (some .int) 2 62 [some (.ref 155), some (.int a1), some (.int x5), some (.int i7), some (.int s.1)] [] s.2 M' (some (.int r))) (fun s t hb hk he => by
            obtain ⟨i11, M12⟩ := s
            show XM l E (RX11, "stalls", cX11_stalls, 5) (some .int) 2 62 [some (.ref 155), some (.int a1), some (.int x5), some (.int i7), some (.int i11)] [] M12 M' (some (.int r))
            change w_X11_stalls_62 a1 i7 i11 M12 = some t at hb
            unfold w_X11_stalls_62 at hb
            refine ex_iload dX11_stalls_62 rfl ?_
            refine ex_if_le 116 dX11_stalls_64 (by decide) (fun c13 => ?_) (fun c13 => ?_)
            · rw [if_pos c13] at hb
              refine ex_mskL [true, true, true, true, false] (L2 := [some (.ref 155), some (.int a1), some (.int x5), some (.int i7), none]) rfl ?_
              cases hb
              cases (he _ rfl) <;> exact hx
            · rw [if_neg c13] at hb
              refine ex_aload_n dX11_stalls_67 rfl ?_
              refine ex_iload dX11_stalls_68 rfl ?_
              obtain ⟨x14, qx14, hb⟩ := b1E hb
              refine mx_cVi [.int i11] [] 155 11 x14 dX11_stalls_70 cl_X11_348 im_X11_sumOf cy_X11_sumOf oc_at_155 rfl (Nat.le_of_ble_eq_true rfl) (by decide) (t_X11_sumOf l E i11 M12 qx14) ?_
              refine ex_iload_n dX11_stalls_73 rfl ?_
              refine ex_icmp_gt 105 dX11_stalls_74 (by decide) (fun c15 => ?_) (fun c15 => ?_)
              · rw [if_pos c15] at hb
                refine ex_iload dX11_stalls_105 rfl ?_
                refine ex_iconst 1 dX11_stalls_107 kI_1 ?_
                refine ex_isub dX11_stalls_108 ?_
                refine ex_iload_n dX11_stalls_109 rfl ?_
                refine ex_iand dX11_stalls_110 ?_
                refine ex_istore (L2 := [some (.ref 155), some (.int a1), some (.int x5), some (.int i7), some (.int ((i11 - 1) &&& i7))]) dX11_stalls_111 (by decide) rfl ?_
                refine ex_goto 62 dX11_stalls_113 (by decide) ?_
                refine ex_mskL [true, true, true, true, true] (L2 := [some (.ref 155), some (.int a1), some (.int x5), some (.int i7), some (.int ((i11 - 1) &&& i7))]) rfl ?_
                cases hb
                exact hk (((i11 - 1) &&& i7), M12) rfl
              · rw [if_neg c15] at hb
                refine ex_aload_n dX11_stalls_77 rfl ?_
                refine mx_getr 11 167 dX11_stalls_78 fl_X11_47 oc_at_155 (rf_11_28 oc_at_155) ?_
                refine ex_iload_n dX11_stalls_81 rfl ?_
                refine ex_aload_n dX11_stalls_82 rfl ?_
                refine mx_getr 11 167 dX11_stalls_83 fl_X11_47 oc_at_155 (rf_11_28 oc_at_155) ?_
                refine ex_iload_n dX11_stalls_86 rfl ?_
                obtain ⟨x16, qx16, hb⟩ := b1E hb
                refine mx_iald x16 dX11_stalls_87 qx16 ?_
                refine ex_iconst 1 dX11_stalls_88 kI_1 ?_
                refine ex_aload_n dX11_stalls_89 rfl ?_
                refine mx_getr 11 167 dX11_stalls_90 fl_X11_47 oc_at_155 (rf_11_28 oc_at_155) ?_
                refine ex_iload_n dX11_stalls_93 rfl ?_
                refine ex_iload dX11_stalls_94 rfl ?_
                refine ex_iconst (-1) dX11_stalls_96 kI_m1 ?_
                refine ex_ixor dX11_stalls_97 ?_
                refine ex_iand dX11_stalls_98 ?_
                obtain ⟨x17, qx17, hb⟩ := b1E hb
                refine mx_iald x17 dX11_stalls_99 qx17 ?_
                refine ex_iadd dX11_stalls_100 ?_
                refine mx_cSi [.int x16, .int (1 + x17)] [.int i7, .ref 167] (f_X11_lesser x16 (1 + x17)) dX11_stalls_101 cl_X11_288 sm_X11_lesser rfl (Nat.le_of_ble_eq_true rfl) (by decide) (t_X11_lesser l E x16 (1 + x17) M12 rfl) ?_
                obtain ⟨M18, qM18, hb⟩ := b1E hb
                refine mx_iast M18 dX11_stalls_104 qM18 ?_
                refine ex_iload dX11_stalls_105 rfl ?_
                refine ex_iconst 1 dX11_stalls_107 kI_1 ?_
                refine ex_isub dX11_stalls_108 ?_
                refine ex_iload_n dX11_stalls_109 rfl ?_
                refine ex_iand dX11_stalls_110 ?_
                refine ex_istore (L2 := [some (.ref 155), some (.int a1), some (.int x5), some (.int i7), some (.int ((i11 - 1) &&& i7))]) dX11_stalls_111 (by decide) rfl ?_
                refine ex_goto 62 dX11_stalls_113 (by decide) ?_
                refine ex_mskL [true, true, true, true, true] (L2 := [some (.ref 155), some (.int a1), some (.int x5), some (.int i7), some (.int ((i11 - 1) &&& i7))]) rfl ?_
                cases hb
                exact hk (((i11 - 1) &&& i7), M18) rfl)
          exact key FU (i7, M10) hlq19)
      exact key FU (1, M6) hlq20
    · rw [if_neg c3] at h
      refine ex_iconst (-1) dX11_stalls_22 kI_m1 ?_
      cases h
      exact mx_reti .int dX11_stalls_23 ⟨rfl, rfl⟩
def f_X11_test (a1 : Int32) (a2 : Int32) (M : Mem) : Option (Mem × Int32) :=
  if a1 = (-1) then (b1 (wr M 156 88 0) fun M14 => some (M14, 0)) else (if ((f_X11_isIn a1 1 999) = 0 ∨ (f_X11_isIn a2 1 999) = 0) then (some (M, (-1))) else (b1 (rd M 156 88) fun x5 => if x5 = 6 then (some (M, (-1))) else (b1 (rd M 156 88) fun x7 => b1 (wr M 156 (319 + (2 * x7)) a1) fun M8 => b1 (rd M8 156 88) fun x9 => b1 (wr M8 156 ((319 + (2 * x9)) + 1) a2) fun M10 => b1 (rd M10 156 88) fun x11 => b1 (wr M10 156 88 (x11 + 1)) fun M12 => b1 (rd M12 156 88) fun x13 => some (M12, x13))))
set_option maxRecDepth 100000 in
set_option maxHeartbeats 4000000 in
theorem t_X11_test (l : Launch) (E : EV) (a1 : Int32) (a2 : Int32) (M : Mem) {M' : Mem} {r : Int32} (h : f_X11_test a1 a2 M = some (M', r)) : RunM l E yX11_test cX11_test 3 (some .int) 1 [.ref 155, .int a1, .int a2] M M' (some (.int r)) := by
  refine RunM.of (by decide) (Nat.le_of_ble_eq_true rfl) ?_
  show XM l E (RX11, "test", cX11_test, 3) (some .int) 1 0 [some (.ref 155), some (.int a1), some (.int a2)] [] M M' (some (.int r))
  unfold f_X11_test at h
  refine ex_iload_n dX11_test_0 rfl ?_
  refine ex_iconst (-1) dX11_test_1 kI_m1 ?_
  refine ex_icmp_ne 15 dX11_test_2 (by decide) (fun c1 => ?_) (fun c1 => ?_)
  · rw [if_neg c1] at h
    refine ex_iload_n dX11_test_15 rfl ?_
    refine ex_iconst 1 dX11_test_16 kI_1 ?_
    refine ex_sipush 999 dX11_test_17 kS_999 ?_
    refine mx_cSi [.int a1, .int 1, .int 999] [] (f_X11_isIn a1 1 999) dX11_test_20 cl_X11_53 sm_X11_isIn rfl (Nat.le_of_ble_eq_true rfl) (by decide) (t_X11_isIn l E a1 1 999 M rfl) ?_
    have JXC4 : ((f_X11_isIn a1 1 999) = 0 ∨ (f_X11_isIn a2 1 999) = 0) → XM l E (RX11, "test", cX11_test, 3) (some .int) 1 49 [some (.ref 155), some (.int a1), some (.int a2)] [] M M' (some (.int r)) := fun C4 => by
      rw [if_pos C4] at h
      refine ex_iconst (-1) dX11_test_49 kI_m1 ?_
      cases h
      exact mx_reti .int dX11_test_50 ⟨rfl, rfl⟩
    have JYC4 : ¬ (((f_X11_isIn a1 1 999) = 0 ∨ (f_X11_isIn a2 1 999) = 0)) → XM l E (RX11, "test", cX11_test, 3) (some .int) 1 43 [some (.ref 155), some (.int a1), some (.int a2)] [.int 88, .ref 156] M M' (some (.int r)) := fun C4 => by
      rw [if_neg C4] at h
      obtain ⟨x5, qx5, h⟩ := b1E h
      refine mx_iald x5 dX11_test_43 qx5 ?_
      refine ex_bipush 6 dX11_test_44 kB_6 ?_
      refine ex_icmp_ne 51 dX11_test_46 (by decide) (fun c6 => ?_) (fun c6 => ?_)
      · rw [if_neg c6] at h
        refine ex_aload_n dX11_test_51 rfl ?_
        refine mx_getr 11 156 dX11_test_52 fl_X11_7 oc_at_155 (rf_11_0 oc_at_155) ?_
        refine ex_sipush 319 dX11_test_55 kS_319 ?_
        refine ex_iconst 2 dX11_test_58 kI_2 ?_
        refine ex_aload_n dX11_test_59 rfl ?_
        refine mx_getr 11 156 dX11_test_60 fl_X11_7 oc_at_155 (rf_11_0 oc_at_155) ?_
        refine ex_bipush 88 dX11_test_63 kB_88 ?_
        obtain ⟨x7, qx7, h⟩ := b1E h
        refine mx_iald x7 dX11_test_65 qx7 ?_
        refine ex_imul dX11_test_66 ?_
        refine ex_iadd dX11_test_67 ?_
        refine ex_iload_n dX11_test_68 rfl ?_
        obtain ⟨M8, qM8, h⟩ := b1E h
        refine mx_iast M8 dX11_test_69 qM8 ?_
        refine ex_aload_n dX11_test_70 rfl ?_
        refine mx_getr 11 156 dX11_test_71 fl_X11_7 oc_at_155 (rf_11_0 oc_at_155) ?_
        refine ex_sipush 319 dX11_test_74 kS_319 ?_
        refine ex_iconst 2 dX11_test_77 kI_2 ?_
        refine ex_aload_n dX11_test_78 rfl ?_
        refine mx_getr 11 156 dX11_test_79 fl_X11_7 oc_at_155 (rf_11_0 oc_at_155) ?_
        refine ex_bipush 88 dX11_test_82 kB_88 ?_
        obtain ⟨x9, qx9, h⟩ := b1E h
        refine mx_iald x9 dX11_test_84 qx9 ?_
        refine ex_imul dX11_test_85 ?_
        refine ex_iadd dX11_test_86 ?_
        refine ex_iconst 1 dX11_test_87 kI_1 ?_
        refine ex_iadd dX11_test_88 ?_
        refine ex_iload_n dX11_test_89 rfl ?_
        obtain ⟨M10, qM10, h⟩ := b1E h
        refine mx_iast M10 dX11_test_90 qM10 ?_
        refine ex_aload_n dX11_test_91 rfl ?_
        refine mx_getr 11 156 dX11_test_92 fl_X11_7 oc_at_155 (rf_11_0 oc_at_155) ?_
        refine ex_bipush 88 dX11_test_95 kB_88 ?_
        refine ex_dup2 dX11_test_97 rfl rfl ?_
        obtain ⟨x11, qx11, h⟩ := b1E h
        refine mx_iald x11 dX11_test_98 qx11 ?_
        refine ex_iconst 1 dX11_test_99 kI_1 ?_
        refine ex_iadd dX11_test_100 ?_
        obtain ⟨M12, qM12, h⟩ := b1E h
        refine mx_iast M12 dX11_test_101 qM12 ?_
        refine ex_aload_n dX11_test_102 rfl ?_
        refine mx_getr 11 156 dX11_test_103 fl_X11_7 oc_at_155 (rf_11_0 oc_at_155) ?_
        refine ex_bipush 88 dX11_test_106 kB_88 ?_
        obtain ⟨x13, qx13, h⟩ := b1E h
        refine mx_iald x13 dX11_test_108 qx13 ?_
        cases h
        exact mx_reti .int dX11_test_109 ⟨rfl, rfl⟩
      · rw [if_pos c6] at h
        refine ex_iconst (-1) dX11_test_49 kI_m1 ?_
        cases h
        exact mx_reti .int dX11_test_50 ⟨rfl, rfl⟩
    clear h
    refine ex_if_eq 49 dX11_test_23 (by decide) (fun c2 => ?_) (fun c2 => ?_)
    · exact JXC4 (Or.inl c2)
    · refine ex_iload_n dX11_test_26 rfl ?_
      refine ex_iconst 1 dX11_test_27 kI_1 ?_
      refine ex_sipush 999 dX11_test_28 kS_999 ?_
      refine mx_cSi [.int a2, .int 1, .int 999] [] (f_X11_isIn a2 1 999) dX11_test_31 cl_X11_53 sm_X11_isIn rfl (Nat.le_of_ble_eq_true rfl) (by decide) (t_X11_isIn l E a2 1 999 M rfl) ?_
      refine ex_if_eq 49 dX11_test_34 (by decide) (fun c3 => ?_) (fun c3 => ?_)
      · exact JXC4 (Or.inr c3)
      · refine ex_aload_n dX11_test_37 rfl ?_
        refine mx_getr 11 156 dX11_test_38 fl_X11_7 oc_at_155 (rf_11_0 oc_at_155) ?_
        refine ex_bipush 88 dX11_test_41 kB_88 ?_
        exact JYC4 (fun z => z.elim c2 c3)
  · rw [if_pos c1] at h
    refine ex_aload_n dX11_test_5 rfl ?_
    refine mx_getr 11 156 dX11_test_6 fl_X11_7 oc_at_155 (rf_11_0 oc_at_155) ?_
    refine ex_bipush 88 dX11_test_9 kB_88 ?_
    refine ex_iconst 0 dX11_test_11 kI_0 ?_
    obtain ⟨M14, qM14, h⟩ := b1E h
    refine mx_iast M14 dX11_test_12 qM14 ?_
    refine ex_iconst 0 dX11_test_13 kI_0 ?_
    cases h
    exact mx_reti .int dX11_test_14 ⟨rfl, rfl⟩
def f_X11_byTest (a1 : Int64) (a2 : Int32) (a3 : Int32) (M : Mem) : Option (Int64) :=
  if a3 = 0 then (b1 (rd M 156 (319 + (2 * a2))) fun x2 => if a3 = 0 then (b1 (rd M 156 ((319 + (2 * a2)) + 1)) fun x4 => if ((a1 * (1000 - x4).toInt64) + (((1000000 : Int64) - a1) * (1000 - x2).toInt64)) = 0 then none else some (((1000000 : Int64) * (a1 * (1000 - x4).toInt64)) / ((a1 * (1000 - x4).toInt64) + (((1000000 : Int64) - a1) * (1000 - x2).toInt64)))) else (b1 (rd M 156 ((319 + (2 * a2)) + 1)) fun x6 => if ((a1 * x6.toInt64) + (((1000000 : Int64) - a1) * (1000 - x2).toInt64)) = 0 then none else some (((1000000 : Int64) * (a1 * x6.toInt64)) / ((a1 * x6.toInt64) + (((1000000 : Int64) - a1) * (1000 - x2).toInt64))))) else (b1 (rd M 156 (319 + (2 * a2))) fun x8 => if a3 = 0 then (b1 (rd M 156 ((319 + (2 * a2)) + 1)) fun x10 => if ((a1 * (1000 - x10).toInt64) + (((1000000 : Int64) - a1) * x8.toInt64)) = 0 then none else some (((1000000 : Int64) * (a1 * (1000 - x10).toInt64)) / ((a1 * (1000 - x10).toInt64) + (((1000000 : Int64) - a1) * x8.toInt64)))) else (b1 (rd M 156 ((319 + (2 * a2)) + 1)) fun x12 => if ((a1 * x12.toInt64) + (((1000000 : Int64) - a1) * x8.toInt64)) = 0 then none else some (((1000000 : Int64) * (a1 * x12.toInt64)) / ((a1 * x12.toInt64) + (((1000000 : Int64) - a1) * x8.toInt64)))))
set_option maxRecDepth 100000 in
set_option maxHeartbeats 4000000 in
theorem t_X11_byTest (l : Launch) (E : EV) (a1 : Int64) (a2 : Int32) (a3 : Int32) (M : Mem) {r : Int64} (h : f_X11_byTest a1 a2 a3 M = some r) : RunM l E yX11_byTest cX11_byTest 9 (some .long) 0 [.ref 155, .long a1, .int a2, .int a3] M M (some (.long r)) := by
  refine RunM.of (by decide) (Nat.le_of_ble_eq_true rfl) ?_
  show XM l E (RX11, "byTest", cX11_byTest, 9) (some .long) 0 0 [some (.ref 155), some (.long a1), none, some (.int a2), some (.int a3), none, none, none, none] [] M M (some (.long r))
  unfold f_X11_byTest at h
  refine ex_iload dX11_byTest_0 rfl ?_
  refine ex_if_eq 21 dX11_byTest_2 (by decide) (fun c1 => ?_) (fun c1 => ?_)
  · rw [if_pos c1] at h
    refine ex_sipush 1000 dX11_byTest_21 kS_1000 ?_
    refine ex_aload_n dX11_byTest_24 rfl ?_
    refine mx_getr 11 156 dX11_byTest_25 fl_X11_7 oc_at_155 (rf_11_0 oc_at_155) ?_
    refine ex_sipush 319 dX11_byTest_28 kS_319 ?_
    refine ex_iconst 2 dX11_byTest_31 kI_2 ?_
    refine ex_iload_n dX11_byTest_32 rfl ?_
    refine ex_imul dX11_byTest_33 ?_
    refine ex_iadd dX11_byTest_34 ?_
    obtain ⟨x2, qx2, h⟩ := b1E h
    refine mx_iald x2 dX11_byTest_35 qx2 ?_
    refine ex_isub dX11_byTest_36 ?_
    refine ex_i2l dX11_byTest_37 ?_
    refine ex_lstore (L2 := [some (.ref 155), some (.long a1), none, some (.int a2), some (.int a3), some (.long (1000 - x2).toInt64), none, none, none]) dX11_byTest_38 (by decide) rfl ?_
    refine ex_iload dX11_byTest_40 rfl ?_
    refine ex_if_eq 63 dX11_byTest_42 (by decide) (fun c3 => ?_) (fun c3 => ?_)
    · rw [if_pos c3] at h
      refine ex_sipush 1000 dX11_byTest_63 kS_1000 ?_
      refine ex_aload_n dX11_byTest_66 rfl ?_
      refine mx_getr 11 156 dX11_byTest_67 fl_X11_7 oc_at_155 (rf_11_0 oc_at_155) ?_
      refine ex_sipush 319 dX11_byTest_70 kS_319 ?_
      refine ex_iconst 2 dX11_byTest_73 kI_2 ?_
      refine ex_iload_n dX11_byTest_74 rfl ?_
      refine ex_imul dX11_byTest_75 ?_
      refine ex_iadd dX11_byTest_76 ?_
      refine ex_iconst 1 dX11_byTest_77 kI_1 ?_
      refine ex_iadd dX11_byTest_78 ?_
      obtain ⟨x4, qx4, h⟩ := b1E h
      refine mx_iald x4 dX11_byTest_79 qx4 ?_
      refine ex_isub dX11_byTest_80 ?_
      refine ex_i2l dX11_byTest_81 ?_
      refine ex_lstore (L2 := [some (.ref 155), some (.long a1), none, some (.int a2), some (.int a3), some (.long (1000 - x2).toInt64), none, some (.long (1000 - x4).toInt64), none]) dX11_byTest_82 (by decide) rfl ?_
      refine ex_ldc2 1000000 dX11_byTest_84 (tb (i := 1851) (by decide +kernel)) ?_
      refine ex_lload_n dX11_byTest_87 rfl ?_
      refine ex_lload dX11_byTest_88 rfl ?_
      refine ex_lmul dX11_byTest_90 ?_
      refine ex_lmul dX11_byTest_91 ?_
      refine ex_lload_n dX11_byTest_92 rfl ?_
      refine ex_lload dX11_byTest_93 rfl ?_
      refine ex_lmul dX11_byTest_95 ?_
      refine ex_ldc2 1000000 dX11_byTest_96 (tb (i := 1851) (by decide +kernel)) ?_
      refine ex_lload_n dX11_byTest_99 rfl ?_
      refine ex_lsub dX11_byTest_100 ?_
      refine ex_lload dX11_byTest_101 rfl ?_
      refine ex_lmul dX11_byTest_103 ?_
      refine ex_ladd dX11_byTest_104 ?_
      by_cases c5 : ((a1 * (1000 - x4).toInt64) + (((1000000 : Int64) - a1) * (1000 - x2).toInt64)) = 0
      · rw [if_pos c5] at h; cases h
      rw [if_neg c5] at h
      refine ex_ldiv dX11_byTest_105 c5 ?_
      cases h
      exact mx_retl dX11_byTest_106 rfl
    · rw [if_neg c3] at h
      refine ex_aload_n dX11_byTest_45 rfl ?_
      refine mx_getr 11 156 dX11_byTest_46 fl_X11_7 oc_at_155 (rf_11_0 oc_at_155) ?_
      refine ex_sipush 319 dX11_byTest_49 kS_319 ?_
      refine ex_iconst 2 dX11_byTest_52 kI_2 ?_
      refine ex_iload_n dX11_byTest_53 rfl ?_
      refine ex_imul dX11_byTest_54 ?_
      refine ex_iadd dX11_byTest_55 ?_
      refine ex_iconst 1 dX11_byTest_56 kI_1 ?_
      refine ex_iadd dX11_byTest_57 ?_
      obtain ⟨x6, qx6, h⟩ := b1E h
      refine mx_iald x6 dX11_byTest_58 qx6 ?_
      refine ex_i2l dX11_byTest_59 ?_
      refine ex_goto 82 dX11_byTest_60 (by decide) ?_
      refine ex_lstore (L2 := [some (.ref 155), some (.long a1), none, some (.int a2), some (.int a3), some (.long (1000 - x2).toInt64), none, some (.long x6.toInt64), none]) dX11_byTest_82 (by decide) rfl ?_
      refine ex_ldc2 1000000 dX11_byTest_84 (tb (i := 1851) (by decide +kernel)) ?_
      refine ex_lload_n dX11_byTest_87 rfl ?_
      refine ex_lload dX11_byTest_88 rfl ?_
      refine ex_lmul dX11_byTest_90 ?_
      refine ex_lmul dX11_byTest_91 ?_
      refine ex_lload_n dX11_byTest_92 rfl ?_
      refine ex_lload dX11_byTest_93 rfl ?_
      refine ex_lmul dX11_byTest_95 ?_
      refine ex_ldc2 1000000 dX11_byTest_96 (tb (i := 1851) (by decide +kernel)) ?_
      refine ex_lload_n dX11_byTest_99 rfl ?_
      refine ex_lsub dX11_byTest_100 ?_
      refine ex_lload dX11_byTest_101 rfl ?_
      refine ex_lmul dX11_byTest_103 ?_
      refine ex_ladd dX11_byTest_104 ?_
      by_cases c7 : ((a1 * x6.toInt64) + (((1000000 : Int64) - a1) * (1000 - x2).toInt64)) = 0
      · rw [if_pos c7] at h; cases h
      rw [if_neg c7] at h
      refine ex_ldiv dX11_byTest_105 c7 ?_
      cases h
      exact mx_retl dX11_byTest_106 rfl
  · rw [if_neg c1] at h
    refine ex_aload_n dX11_byTest_5 rfl ?_
    refine mx_getr 11 156 dX11_byTest_6 fl_X11_7 oc_at_155 (rf_11_0 oc_at_155) ?_
    refine ex_sipush 319 dX11_byTest_9 kS_319 ?_
    refine ex_iconst 2 dX11_byTest_12 kI_2 ?_
    refine ex_iload_n dX11_byTest_13 rfl ?_
    refine ex_imul dX11_byTest_14 ?_
    refine ex_iadd dX11_byTest_15 ?_
    obtain ⟨x8, qx8, h⟩ := b1E h
    refine mx_iald x8 dX11_byTest_16 qx8 ?_
    refine ex_i2l dX11_byTest_17 ?_
    refine ex_goto 38 dX11_byTest_18 (by decide) ?_
    refine ex_lstore (L2 := [some (.ref 155), some (.long a1), none, some (.int a2), some (.int a3), some (.long x8.toInt64), none, none, none]) dX11_byTest_38 (by decide) rfl ?_
    refine ex_iload dX11_byTest_40 rfl ?_
    refine ex_if_eq 63 dX11_byTest_42 (by decide) (fun c9 => ?_) (fun c9 => ?_)
    · rw [if_pos c9] at h
      refine ex_sipush 1000 dX11_byTest_63 kS_1000 ?_
      refine ex_aload_n dX11_byTest_66 rfl ?_
      refine mx_getr 11 156 dX11_byTest_67 fl_X11_7 oc_at_155 (rf_11_0 oc_at_155) ?_
      refine ex_sipush 319 dX11_byTest_70 kS_319 ?_
      refine ex_iconst 2 dX11_byTest_73 kI_2 ?_
      refine ex_iload_n dX11_byTest_74 rfl ?_
      refine ex_imul dX11_byTest_75 ?_
      refine ex_iadd dX11_byTest_76 ?_
      refine ex_iconst 1 dX11_byTest_77 kI_1 ?_
      refine ex_iadd dX11_byTest_78 ?_
      obtain ⟨x10, qx10, h⟩ := b1E h
      refine mx_iald x10 dX11_byTest_79 qx10 ?_
      refine ex_isub dX11_byTest_80 ?_
      refine ex_i2l dX11_byTest_81 ?_
      refine ex_lstore (L2 := [some (.ref 155), some (.long a1), none, some (.int a2), some (.int a3), some (.long x8.toInt64), none, some (.long (1000 - x10).toInt64), none]) dX11_byTest_82 (by decide) rfl ?_
      refine ex_ldc2 1000000 dX11_byTest_84 (tb (i := 1851) (by decide +kernel)) ?_
      refine ex_lload_n dX11_byTest_87 rfl ?_
      refine ex_lload dX11_byTest_88 rfl ?_
      refine ex_lmul dX11_byTest_90 ?_
      refine ex_lmul dX11_byTest_91 ?_
      refine ex_lload_n dX11_byTest_92 rfl ?_
      refine ex_lload dX11_byTest_93 rfl ?_
      refine ex_lmul dX11_byTest_95 ?_
      refine ex_ldc2 1000000 dX11_byTest_96 (tb (i := 1851) (by decide +kernel)) ?_
      refine ex_lload_n dX11_byTest_99 rfl ?_
      refine ex_lsub dX11_byTest_100 ?_
      refine ex_lload dX11_byTest_101 rfl ?_
      refine ex_lmul dX11_byTest_103 ?_
      refine ex_ladd dX11_byTest_104 ?_
      by_cases c11 : ((a1 * (1000 - x10).toInt64) + (((1000000 : Int64) - a1) * x8.toInt64)) = 0
      · rw [if_pos c11] at h; cases h
      rw [if_neg c11] at h
      refine ex_ldiv dX11_byTest_105 c11 ?_
      cases h
      exact mx_retl dX11_byTest_106 rfl
    · rw [if_neg c9] at h
      refine ex_aload_n dX11_byTest_45 rfl ?_
      refine mx_getr 11 156 dX11_byTest_46 fl_X11_7 oc_at_155 (rf_11_0 oc_at_155) ?_
      refine ex_sipush 319 dX11_byTest_49 kS_319 ?_
      refine ex_iconst 2 dX11_byTest_52 kI_2 ?_
      refine ex_iload_n dX11_byTest_53 rfl ?_
      refine ex_imul dX11_byTest_54 ?_
      refine ex_iadd dX11_byTest_55 ?_
      refine ex_iconst 1 dX11_byTest_56 kI_1 ?_
      refine ex_iadd dX11_byTest_57 ?_
      obtain ⟨x12, qx12, h⟩ := b1E h
      refine mx_iald x12 dX11_byTest_58 qx12 ?_
      refine ex_i2l dX11_byTest_59 ?_
      refine ex_goto 82 dX11_byTest_60 (by decide) ?_
      refine ex_lstore (L2 := [some (.ref 155), some (.long a1), none, some (.int a2), some (.int a3), some (.long x8.toInt64), none, some (.long x12.toInt64), none]) dX11_byTest_82 (by decide) rfl ?_
      refine ex_ldc2 1000000 dX11_byTest_84 (tb (i := 1851) (by decide +kernel)) ?_
      refine ex_lload_n dX11_byTest_87 rfl ?_
      refine ex_lload dX11_byTest_88 rfl ?_
      refine ex_lmul dX11_byTest_90 ?_
      refine ex_lmul dX11_byTest_91 ?_
      refine ex_lload_n dX11_byTest_92 rfl ?_
      refine ex_lload dX11_byTest_93 rfl ?_
      refine ex_lmul dX11_byTest_95 ?_
      refine ex_ldc2 1000000 dX11_byTest_96 (tb (i := 1851) (by decide +kernel)) ?_
      refine ex_lload_n dX11_byTest_99 rfl ?_
      refine ex_lsub dX11_byTest_100 ?_
      refine ex_lload dX11_byTest_101 rfl ?_
      refine ex_lmul dX11_byTest_103 ?_
      refine ex_ladd dX11_byTest_104 ?_
      by_cases c13 : ((a1 * x12.toInt64) + (((1000000 : Int64) - a1) * x8.toInt64)) = 0
      · rw [if_pos c13] at h; cases h
      rw [if_neg c13] at h
      refine ex_ldiv dX11_byTest_105 c13 ?_
      cases h
      exact mx_retl dX11_byTest_106 rfl
def f_X11_areTests (a1 : Int32) (M : Mem) : Option (Int32) :=
  b1 (rd M 156 88) fun x1 => b1 (gz (f_X11_isIn a1 0 ((1 <<< (x1 &&& 31)) - 1))) fun x2 => some x2
set_option maxRecDepth 100000 in
set_option maxHeartbeats 4000000 in
theorem t_X11_areTests (l : Launch) (E : EV) (a1 : Int32) (M : Mem) {r : Int32} (h : f_X11_areTests a1 M = some r) : RunM l E yX11_areTests cX11_areTests 2 (some .boolean) 1 [.ref 155, .int a1] M M (some (.int r)) := by
  refine RunM.of (by decide) (Nat.le_of_ble_eq_true rfl) ?_
  show XM l E (RX11, "areTests", cX11_areTests, 2) (some .boolean) 1 0 [some (.ref 155), some (.int a1)] [] M M (some (.int r))
  unfold f_X11_areTests at h
  refine ex_iload_n dX11_areTests_0 rfl ?_
  refine ex_iconst 0 dX11_areTests_1 kI_0 ?_
  refine ex_iconst 1 dX11_areTests_2 kI_1 ?_
  refine ex_aload_n dX11_areTests_3 rfl ?_
  refine mx_getr 11 156 dX11_areTests_4 fl_X11_7 oc_at_155 (rf_11_0 oc_at_155) ?_
  refine ex_bipush 88 dX11_areTests_7 kB_88 ?_
  obtain ⟨x1, qx1, h⟩ := b1E h
  refine mx_iald x1 dX11_areTests_9 qx1 ?_
  refine ex_ishl dX11_areTests_10 ?_
  refine ex_iconst 1 dX11_areTests_11 kI_1 ?_
  refine ex_isub dX11_areTests_12 ?_
  refine mx_cSi [.int a1, .int 0, .int ((1 <<< (x1 &&& 31)) - 1)] [] (f_X11_isIn a1 0 ((1 <<< (x1 &&& 31)) - 1)) dX11_areTests_13 cl_X11_53 sm_X11_isIn rfl (Nat.le_of_ble_eq_true rfl) (by decide) (t_X11_isIn l E a1 0 ((1 <<< (x1 &&& 31)) - 1) M rfl) ?_
  obtain ⟨x2, qx2, h⟩ := b1E h
  obtain ⟨ex2, nx2⟩ := gzE qx2
  rw [← ex2] at h
  cases h
  exact mx_reti .boolean dX11_areTests_16 ⟨rfl, nx2⟩
def w_X11_forged_46 (a2 : Int32) (a3 : Int32) (M : Mem) (i9 : Int64) (i10 : Int32) : Option ((Int64 × Int32) ⊕ (Int64)) :=
  b1 (rd M 156 88) fun x11 => if x11 ≤ i10 then (some (.inr i9)) else (if (((a2 ||| a3) >>> (i10 &&& 31)) &&& 1) = 1 then (lt ((if ((a2 >>> (i10 &&& 31)) &&& 1) = 1 then 1 else 0) : Int32) fun x15 => b1 (f_X11_byTest i9 i10 x15 M) fun x16 => some (.inl (x16, (i10 + 1)))) else (some (.inl (i9, (i10 + 1)))))
def f_X11_forged (a1 : Int32) (a2 : Int32) (a3 : Int32) (M : Mem) : Option (Int32) :=
  if (f_X11_isIn a1 0 1000) = 0 then (some (-1)) else (b1 (f_X11_areTests a2 M) fun x2 => if x2 = 0 then (some (-1)) else (b1 (f_X11_areTests a3 M) fun x4 => if (x4 = 0 ∨ ¬ ((a2 &&& a3) = 0)) then (some (-1)) else (lt ((1000 : Int64) * a1.toInt64) fun x8 => b1 (lp (fun s => w_X11_forged_46 a2 a3 M s.1 s.2) FU (x8, 0)) fun q17 => some q17.toInt32)))
set_option maxRecDepth 100000 in
set_option maxHeartbeats 4000000 in
theorem t_X11_forged (l : Launch) (E : EV) (a1 : Int32) (a2 : Int32) (a3 : Int32) (M : Mem) {r : Int32} (h : f_X11_forged a1 a2 a3 M = some r) : RunM l E yX11_forged cX11_forged 7 (some .int) 2 [.ref 155, .int a1, .int a2, .int a3] M M (some (.int r)) := by
  refine RunM.of (by decide) (Nat.le_of_ble_eq_true rfl) ?_
  show XM l E (RX11, "forged", cX11_forged, 7) (some .int) 2 0 [some (.ref 155), some (.int a1), some (.int a2), some (.int a3), none, none, none] [] M M (some (.int r))
  unfold f_X11_forged at h
  refine ex_iload_n dX11_forged_0 rfl ?_
  refine ex_iconst 0 dX11_forged_1 kI_0 ?_
  refine ex_sipush 1000 dX11_forged_2 kS_1000 ?_
  refine mx_cSi [.int a1, .int 0, .int 1000] [] (f_X11_isIn a1 0 1000) dX11_forged_5 cl_X11_53 sm_X11_isIn rfl (Nat.le_of_ble_eq_true rfl) (by decide) (t_X11_isIn l E a1 0 1000 M rfl) ?_
  refine ex_if_eq 33 dX11_forged_8 (by decide) (fun c1 => ?_) (fun c1 => ?_)
  · rw [if_pos c1] at h
    refine ex_iconst (-1) dX11_forged_33 kI_m1 ?_
    cases h
    exact mx_reti .int dX11_forged_34 ⟨rfl, rfl⟩
  · rw [if_neg c1] at h
    refine ex_aload_n dX11_forged_11 rfl ?_
    refine ex_iload_n dX11_forged_12 rfl ?_
    obtain ⟨x2, qx2, h⟩ := b1E h
    refine mx_cVi [.int a2] [] 155 11 x2 dX11_forged_13 cl_X11_413 im_X11_areTests cy_X11_areTests oc_at_155 rfl (Nat.le_of_ble_eq_true rfl) (by decide) (t_X11_areTests l E a2 M qx2) ?_
    refine ex_if_eq 33 dX11_forged_16 (by decide) (fun c3 => ?_) (fun c3 => ?_)
    · rw [if_pos c3] at h
      refine ex_iconst (-1) dX11_forged_33 kI_m1 ?_
      cases h
      exact mx_reti .int dX11_forged_34 ⟨rfl, rfl⟩
    · rw [if_neg c3] at h
      refine ex_aload_n dX11_forged_19 rfl ?_
      refine ex_iload_n dX11_forged_20 rfl ?_
      obtain ⟨x4, qx4, h⟩ := b1E h
      refine mx_cVi [.int a3] [] 155 11 x4 dX11_forged_21 cl_X11_413 im_X11_areTests cy_X11_areTests oc_at_155 rfl (Nat.le_of_ble_eq_true rfl) (by decide) (t_X11_areTests l E a3 M qx4) ?_
      have JXC7 : (x4 = 0 ∨ ¬ ((a2 &&& a3) = 0)) → XM l E (RX11, "forged", cX11_forged, 7) (some .int) 2 33 [some (.ref 155), some (.int a1), some (.int a2), some (.int a3), none, none, none] [] M M (some (.int r)) := fun C7 => by
        rw [if_pos C7] at h
        refine ex_iconst (-1) dX11_forged_33 kI_m1 ?_
        cases h
        exact mx_reti .int dX11_forged_34 ⟨rfl, rfl⟩
      have JYC7 : ¬ ((x4 = 0 ∨ ¬ ((a2 &&& a3) = 0))) → XM l E (RX11, "forged", cX11_forged, 7) (some .int) 2 41 [some (.ref 155), some (.int a1), some (.int a2), some (.int a3), none, none, none] [.long ((1000 : Int64) * a1.toInt64)] M M (some (.int r)) := fun C7 => by
        rw [if_neg C7] at h
        obtain ⟨x8, ex8, h⟩ := ltE h
        rw [← ex8]
        refine ex_lstore (L2 := [some (.ref 155), some (.int a1), some (.int a2), some (.int a3), some (.long x8), none, none]) dX11_forged_41 (by decide) rfl ?_
        refine ex_iconst 0 dX11_forged_43 kI_0 ?_
        refine ex_istore (L2 := [some (.ref 155), some (.int a1), some (.int a2), some (.int a3), some (.long x8), none, some (.int 0)]) dX11_forged_44 (by decide) rfl ?_
        refine ex_mskL [true, false, true, true, true, false, true] (L2 := [some (.ref 155), none, some (.int a2), some (.int a3), some (.long x8), none, some (.int 0)]) rfl ?_
        obtain ⟨q17, hlq17, h⟩ := b1E h
        have hx : XM l E (RX11, "forged", cX11_forged, 7) (some .int) 2 101 [none, none, none, none, some (.long q17), none, none] [] M M (some (.int r)) := by
          refine ex_lload dX11_forged_101 rfl ?_
          refine ex_l2i dX11_forged_103 ?_
          cases h
          exact mx_reti .int dX11_forged_104 ⟨rfl, rfl⟩
        clear h
        have key : ∀ (k : Nat) (s : Int64 × Int32), lp (fun s => w_X11_forged_46 a2 a3 M s.1 s.2) k s = some q17 → XM l E (RX11, "forged", cX11_forged, 7) (some .int) 2 46 [some (.ref 155), none, some (.int a2), some (.int a3), some (.long s.1), none, some (.int s.2)] [] M M (some (.int r)) := lp_ind (P := fun (s : Int64 × Int32) => XM l E (RX11, "forged", cX11_forged, 7) (some .int) 2 46 [some (.ref 155), none, some (.int a2), some (.int a3), some (.long s.1), none, some (.int s.2)] [] M M (some (.int r))) (fun s t hb hk he => by
          obtain ⟨i9, i10⟩ := s
          show XM l E (RX11, "forged", cX11_forged, 7) (some .int) 2 46 [some (.ref 155), none, some (.int a2), some (.int a3), some (.long i9), none, some (.int i10)] [] M M (some (.int r))
          change w_X11_forged_46 a2 a3 M i9 i10 = some t at hb
          unfold w_X11_forged_46 at hb
          refine ex_iload dX11_forged_46 rfl ?_
          refine ex_aload_n dX11_forged_48 rfl ?_
          refine mx_getr 11 156 dX11_forged_49 fl_X11_7 oc_at_155 (rf_11_0 oc_at_155) ?_
          refine ex_bipush 88 dX11_forged_52 kB_88 ?_
          obtain ⟨x11, qx11, hb⟩ := b1E hb
          refine mx_iald x11 dX11_forged_54 qx11 ?_
          refine ex_icmp_ge 101 dX11_forged_55 (by decide) (fun c12 => ?_) (fun c12 => ?_)
          · rw [if_pos c12] at hb
            refine ex_mskL [false, false, false, false, true, false, false] (L2 := [none, none, none, none, some (.long i9), none, none]) rfl ?_
            cases hb
            cases (he _ rfl) <;> exact hx
          · rw [if_neg c12] at hb
            refine ex_iload_n dX11_forged_58 rfl ?_
            refine ex_iload_n dX11_forged_59 rfl ?_
            refine ex_ior dX11_forged_60 ?_
            refine ex_iload dX11_forged_61 rfl ?_
            refine ex_ishr dX11_forged_63 ?_
            refine ex_iconst 1 dX11_forged_64 kI_1 ?_
            refine ex_iand dX11_forged_65 ?_
            refine ex_iconst 1 dX11_forged_66 kI_1 ?_
            refine ex_icmp_ne 95 dX11_forged_67 (by decide) (fun c13 => ?_) (fun c13 => ?_)
            · rw [if_neg c13] at hb
              refine ex_iinc 1 (L2 := [some (.ref 155), none, some (.int a2), some (.int a3), some (.long i9), none, some (.int (i10 + 1))]) dX11_forged_95 rfl kI_1 (by decide) rfl ?_
              refine ex_goto 46 dX11_forged_98 (by decide) ?_
              refine ex_mskL [true, false, true, true, true, false, true] (L2 := [some (.ref 155), none, some (.int a2), some (.int a3), some (.long i9), none, some (.int (i10 + 1))]) rfl ?_
              cases hb
              exact hk (i9, (i10 + 1)) rfl
            · rw [if_pos c13] at hb
              refine ex_aload_n dX11_forged_70 rfl ?_
              refine ex_lload dX11_forged_71 rfl ?_
              refine ex_iload dX11_forged_73 rfl ?_
              refine ex_iload_n dX11_forged_75 rfl ?_
              refine ex_iload dX11_forged_76 rfl ?_
              refine ex_ishr dX11_forged_78 ?_
              refine ex_iconst 1 dX11_forged_79 kI_1 ?_
              refine ex_iand dX11_forged_80 ?_
              refine ex_iconst 1 dX11_forged_81 kI_1 ?_
              obtain ⟨x15, ex15, hb⟩ := ltE hb
              have Jx15 : XM l E (RX11, "forged", cX11_forged, 7) (some .int) 2 90 [some (.ref 155), none, some (.int a2), some (.int a3), some (.long i9), none, some (.int i10)] [.int x15, .int i10, .long i9, .ref 155] M M (some (.int r)) := by
                obtain ⟨x16, qx16, hb⟩ := b1E hb
                refine mx_cVl [.long i9, .int i10, .int x15] [] 155 11 x16 dX11_forged_90 cl_X11_418 im_X11_byTest cy_X11_byTest oc_at_155 rfl (Nat.le_of_ble_eq_true rfl) (by decide) (t_X11_byTest l E i9 i10 x15 M qx16) ?_
                refine ex_lstore (L2 := [some (.ref 155), none, some (.int a2), some (.int a3), some (.long x16), none, some (.int i10)]) dX11_forged_93 (by decide) rfl ?_
                refine ex_iinc 1 (L2 := [some (.ref 155), none, some (.int a2), some (.int a3), some (.long x16), none, some (.int (i10 + 1))]) dX11_forged_95 rfl kI_1 (by decide) rfl ?_
                refine ex_goto 46 dX11_forged_98 (by decide) ?_
                refine ex_mskL [true, false, true, true, true, false, true] (L2 := [some (.ref 155), none, some (.int a2), some (.int a3), some (.long x16), none, some (.int (i10 + 1))]) rfl ?_
                cases hb
                exact hk (x16, (i10 + 1)) rfl
              clear hb
              refine ex_icmp_ne 89 dX11_forged_82 (by decide) (fun c14 => ?_) (fun c14 => ?_)
              · rw [if_neg c14] at ex15
                refine ex_iconst 0 dX11_forged_89 kI_0 ?_
                subst ex15
                exact Jx15
              · rw [if_pos c14] at ex15
                refine ex_iconst 1 dX11_forged_85 kI_1 ?_
                refine ex_goto 90 dX11_forged_86 (by decide) ?_
                subst ex15
                exact Jx15)
        exact key FU (x8, 0) hlq17
      clear h
      refine ex_if_eq 33 dX11_forged_24 (by decide) (fun c5 => ?_) (fun c5 => ?_)
      · exact JXC7 (Or.inl c5)
      · refine ex_iload_n dX11_forged_27 rfl ?_
        refine ex_iload_n dX11_forged_28 rfl ?_
        refine ex_iand dX11_forged_29 ?_
        refine ex_if_eq 35 dX11_forged_30 (by decide) (fun c6 => ?_) (fun c6 => ?_)
        · refine ex_ldc2 1000 dX11_forged_35 (tb (i := 1846) (by decide +kernel)) ?_
          refine ex_iload_n dX11_forged_38 rfl ?_
          refine ex_i2l dX11_forged_39 ?_
          refine ex_lmul dX11_forged_40 ?_
          exact JYC7 (fun z => z.elim c5 (fun z => z c6))
        · exact JXC7 (Or.inr c6)
def w_X11_lookAt_22 (a1 : Int32) (M : Mem) (i2 : Int32) (i3 : Int64) (i4 : Int32) : Option ((Int32 × Int64 × Int32) ⊕ (Int32)) :=
  b1 (rd M 156 88) fun x5 => if x5 ≤ i4 then (some (.inr i2)) else (b1 (f_X11_byTest ((1000 : Int64) * a1.toInt64) i4 1 M) fun x7 => b1 (f_X11_byTest ((1000 : Int64) * a1.toInt64) i4 0 M) fun x8 => if (lg_cmp x7 ((1000000 : Int64) - x8)) ≤ 0 then (if 0 < (lg_cmp ((1000000 : Int64) - x8) i3) then (some (.inl (i4, ((1000000 : Int64) - x8), (i4 + 1)))) else (some (.inl (i2, i3, (i4 + 1))))) else (if 0 < (lg_cmp x7 i3) then (some (.inl (i4, x7, (i4 + 1)))) else (some (.inl (i2, i3, (i4 + 1))))))
def f_X11_lookAt (a1 : Int32) (M : Mem) : Option (Int32) :=
  if (f_X11_isIn a1 0 1000) = 0 then (some (-1)) else (b1 (lp (fun s => w_X11_lookAt_22 a1 M s.1 s.2.1 s.2.2) FU ((-1), (-1), 0)) fun q12 => some q12)
set_option maxRecDepth 100000 in
set_option maxHeartbeats 4000000 in
theorem t_X11_lookAt (l : Launch) (E : EV) (a1 : Int32) (M : Mem) {r : Int32} (h : f_X11_lookAt a1 M = some r) : RunM l E yX11_lookAt cX11_lookAt 12 (some .int) 1 [.ref 155, .int a1] M M (some (.int r)) := by
  refine RunM.of (by decide) (Nat.le_of_ble_eq_true rfl) ?_
  show XM l E (RX11, "lookAt", cX11_lookAt, 12) (some .int) 1 0 [some (.ref 155), some (.int a1), none, none, none, none, none, none, none, none, none, none] [] M M (some (.int r))
  unfold f_X11_lookAt at h
  refine ex_iload_n dX11_lookAt_0 rfl ?_
  refine ex_iconst 0 dX11_lookAt_1 kI_0 ?_
  refine ex_sipush 1000 dX11_lookAt_2 kS_1000 ?_
  refine mx_cSi [.int a1, .int 0, .int 1000] [] (f_X11_isIn a1 0 1000) dX11_lookAt_5 cl_X11_53 sm_X11_isIn rfl (Nat.le_of_ble_eq_true rfl) (by decide) (t_X11_isIn l E a1 0 1000 M rfl) ?_
  refine ex_if_ne 13 dX11_lookAt_8 (by decide) (fun c1 => ?_) (fun c1 => ?_)
  · rw [if_neg c1] at h
    refine ex_iconst (-1) dX11_lookAt_13 kI_m1 ?_
    refine ex_istore_n (L2 := [some (.ref 155), some (.int a1), some (.int (-1)), none, none, none, none, none, none, none, none, none]) dX11_lookAt_14 (by decide) rfl ?_
    refine ex_ldc2 (-1) dX11_lookAt_15 (tb (i := 1856) (by decide +kernel)) ?_
    refine ex_lstore_n (L2 := [some (.ref 155), some (.int a1), some (.int (-1)), some (.long (-1)), none, none, none, none, none, none, none, none]) dX11_lookAt_18 (by decide) rfl ?_
    refine ex_iconst 0 dX11_lookAt_19 kI_0 ?_
    refine ex_istore (L2 := [some (.ref 155), some (.int a1), some (.int (-1)), some (.long (-1)), none, some (.int 0), none, none, none, none, none, none]) dX11_lookAt_20 (by decide) rfl ?_
    refine ex_mskL [true, true, true, true, false, true, false, false, false, false, false, false] (L2 := [some (.ref 155), some (.int a1), some (.int (-1)), some (.long (-1)), none, some (.int 0), none, none, none, none, none, none]) rfl ?_
    obtain ⟨q12, hlq12, h⟩ := b1E h
    have hx : XM l E (RX11, "lookAt", cX11_lookAt, 12) (some .int) 1 107 [none, none, some (.int q12), none, none, none, none, none, none, none, none, none] [] M M (some (.int r)) := by
      refine ex_iload_n dX11_lookAt_107 rfl ?_
      cases h
      exact mx_reti .int dX11_lookAt_108 ⟨rfl, rfl⟩
    clear h
    have key : ∀ (k : Nat) (s : Int32 × Int64 × Int32), lp (fun s => w_X11_lookAt_22 a1 M s.1 s.2.1 s.2.2) k s = some q12 → XM l E (RX11, "lookAt", cX11_lookAt, 12) (some .int) 1 22 [some (.ref 155), some (.int a1), some (.int s.1), some (.long s.2.1), none, some (.int s.2.2), none, none, none, none, none, none] [] M M (some (.int r)) := lp_ind (P := fun (s : Int32 × Int64 × Int32) => XM l E (RX11, "lookAt", cX11_lookAt, 12) (some .int) 1 22 [some (.ref 155), some (.int a1), some (.int s.1), some (.long s.2.1), none, some (.int s.2.2), none, none, none, none, none, none] [] M M (some (.int r))) (fun s t hb hk he => by
      obtain ⟨i2, i3, i4⟩ := s
      show XM l E (RX11, "lookAt", cX11_lookAt, 12) (some .int) 1 22 [some (.ref 155), some (.int a1), some (.int i2), some (.long i3), none, some (.int i4), none, none, none, none, none, none] [] M M (some (.int r))
      change w_X11_lookAt_22 a1 M i2 i3 i4 = some t at hb
      unfold w_X11_lookAt_22 at hb
      refine ex_iload dX11_lookAt_22 rfl ?_
      refine ex_aload_n dX11_lookAt_24 rfl ?_
      refine mx_getr 11 156 dX11_lookAt_25 fl_X11_7 oc_at_155 (rf_11_0 oc_at_155) ?_
      refine ex_bipush 88 dX11_lookAt_28 kB_88 ?_
      obtain ⟨x5, qx5, hb⟩ := b1E hb
      refine mx_iald x5 dX11_lookAt_30 qx5 ?_
      refine ex_icmp_ge 107 dX11_lookAt_31 (by decide) (fun c6 => ?_) (fun c6 => ?_)
      · rw [if_pos c6] at hb
        refine ex_mskL [false, false, true, false, false, false, false, false, false, false, false, false] (L2 := [none, none, some (.int i2), none, none, none, none, none, none, none, none, none]) rfl ?_
        cases hb
        cases (he _ rfl) <;> exact hx
      · rw [if_neg c6] at hb
        refine ex_aload_n dX11_lookAt_34 rfl ?_
        refine ex_ldc2 1000 dX11_lookAt_35 (tb (i := 1846) (by decide +kernel)) ?_
        refine ex_iload_n dX11_lookAt_38 rfl ?_
        refine ex_i2l dX11_lookAt_39 ?_
        refine ex_lmul dX11_lookAt_40 ?_
        refine ex_iload dX11_lookAt_41 rfl ?_
        refine ex_iconst 1 dX11_lookAt_43 kI_1 ?_
        obtain ⟨x7, qx7, hb⟩ := b1E hb
        refine mx_cVl [.long ((1000 : Int64) * a1.toInt64), .int i4, .int 1] [] 155 11 x7 dX11_lookAt_44 cl_X11_418 im_X11_byTest cy_X11_byTest oc_at_155 rfl (Nat.le_of_ble_eq_true rfl) (by decide) (t_X11_byTest l E ((1000 : Int64) * a1.toInt64) i4 1 M qx7) ?_
        refine ex_lstore (L2 := [some (.ref 155), some (.int a1), some (.int i2), some (.long i3), none, some (.int i4), some (.long x7), none, none, none, none, none]) dX11_lookAt_47 (by decide) rfl ?_
        refine ex_ldc2 1000000 dX11_lookAt_49 (tb (i := 1851) (by decide +kernel)) ?_
        refine ex_aload_n dX11_lookAt_52 rfl ?_
        refine ex_ldc2 1000 dX11_lookAt_53 (tb (i := 1846) (by decide +kernel)) ?_
        refine ex_iload_n dX11_lookAt_56 rfl ?_
        refine ex_i2l dX11_lookAt_57 ?_
        refine ex_lmul dX11_lookAt_58 ?_
        refine ex_iload dX11_lookAt_59 rfl ?_
        refine ex_iconst 0 dX11_lookAt_61 kI_0 ?_
        obtain ⟨x8, qx8, hb⟩ := b1E hb
        refine mx_cVl [.long ((1000 : Int64) * a1.toInt64), .int i4, .int 0] [.long 1000000] 155 11 x8 dX11_lookAt_62 cl_X11_418 im_X11_byTest cy_X11_byTest oc_at_155 rfl (Nat.le_of_ble_eq_true rfl) (by decide) (t_X11_byTest l E ((1000 : Int64) * a1.toInt64) i4 0 M qx8) ?_
        refine ex_lsub dX11_lookAt_65 ?_
        refine ex_lstore (L2 := [some (.ref 155), some (.int a1), some (.int i2), some (.long i3), none, some (.int i4), some (.long x7), none, some (.long ((1000000 : Int64) - x8)), none, none, none]) dX11_lookAt_66 (by decide) rfl ?_
        refine ex_lload dX11_lookAt_68 rfl ?_
        refine ex_lload dX11_lookAt_70 rfl ?_
        refine ex_lcmp dX11_lookAt_72 ?_
        refine ex_if_le 81 dX11_lookAt_73 (by decide) (fun c9 => ?_) (fun c9 => ?_)
        · rw [if_pos c9] at hb
          refine ex_lload dX11_lookAt_81 rfl ?_
          refine ex_lstore (L2 := [some (.ref 155), some (.int a1), some (.int i2), some (.long i3), none, some (.int i4), some (.long x7), none, some (.long ((1000000 : Int64) - x8)), none, some (.long ((1000000 : Int64) - x8)), none]) dX11_lookAt_83 (by decide) rfl ?_
          refine ex_lload dX11_lookAt_85 rfl ?_
          refine ex_lload_n dX11_lookAt_87 rfl ?_
          refine ex_lcmp dX11_lookAt_88 ?_
          refine ex_if_gt 95 dX11_lookAt_89 (by decide) (fun c10 => ?_) (fun c10 => ?_)
          · rw [if_pos c10] at hb
            refine ex_lload dX11_lookAt_95 rfl ?_
            refine ex_lstore_n (L2 := [some (.ref 155), some (.int a1), some (.int i2), some (.long ((1000000 : Int64) - x8)), none, some (.int i4), some (.long x7), none, some (.long ((1000000 : Int64) - x8)), none, some (.long ((1000000 : Int64) - x8)), none]) dX11_lookAt_97 (by decide) rfl ?_
            refine ex_iload dX11_lookAt_98 rfl ?_
            refine ex_istore_n (L2 := [some (.ref 155), some (.int a1), some (.int i4), some (.long ((1000000 : Int64) - x8)), none, some (.int i4), some (.long x7), none, some (.long ((1000000 : Int64) - x8)), none, some (.long ((1000000 : Int64) - x8)), none]) dX11_lookAt_100 (by decide) rfl ?_
            refine ex_iinc 1 (L2 := [some (.ref 155), some (.int a1), some (.int i4), some (.long ((1000000 : Int64) - x8)), none, some (.int (i4 + 1)), some (.long x7), none, some (.long ((1000000 : Int64) - x8)), none, some (.long ((1000000 : Int64) - x8)), none]) dX11_lookAt_101 rfl kI_1 (by decide) rfl ?_
            refine ex_goto 22 dX11_lookAt_104 (by decide) ?_
            refine ex_mskL [true, true, true, true, false, true, false, false, false, false, false, false] (L2 := [some (.ref 155), some (.int a1), some (.int i4), some (.long ((1000000 : Int64) - x8)), none, some (.int (i4 + 1)), none, none, none, none, none, none]) rfl ?_
            cases hb
            exact hk (i4, ((1000000 : Int64) - x8), (i4 + 1)) rfl
          · rw [if_neg c10] at hb
            refine ex_goto 101 dX11_lookAt_92 (by decide) ?_
            refine ex_iinc 1 (L2 := [some (.ref 155), some (.int a1), some (.int i2), some (.long i3), none, some (.int (i4 + 1)), some (.long x7), none, some (.long ((1000000 : Int64) - x8)), none, some (.long ((1000000 : Int64) - x8)), none]) dX11_lookAt_101 rfl kI_1 (by decide) rfl ?_
            refine ex_goto 22 dX11_lookAt_104 (by decide) ?_
            refine ex_mskL [true, true, true, true, false, true, false, false, false, false, false, false] (L2 := [some (.ref 155), some (.int a1), some (.int i2), some (.long i3), none, some (.int (i4 + 1)), none, none, none, none, none, none]) rfl ?_
            cases hb
            exact hk (i2, i3, (i4 + 1)) rfl
        · rw [if_neg c9] at hb
          refine ex_lload dX11_lookAt_76 rfl ?_
          refine ex_goto 83 dX11_lookAt_78 (by decide) ?_
          refine ex_lstore (L2 := [some (.ref 155), some (.int a1), some (.int i2), some (.long i3), none, some (.int i4), some (.long x7), none, some (.long ((1000000 : Int64) - x8)), none, some (.long x7), none]) dX11_lookAt_83 (by decide) rfl ?_
          refine ex_lload dX11_lookAt_85 rfl ?_
          refine ex_lload_n dX11_lookAt_87 rfl ?_
          refine ex_lcmp dX11_lookAt_88 ?_
          refine ex_if_gt 95 dX11_lookAt_89 (by decide) (fun c11 => ?_) (fun c11 => ?_)
          · rw [if_pos c11] at hb
            refine ex_lload dX11_lookAt_95 rfl ?_
            refine ex_lstore_n (L2 := [some (.ref 155), some (.int a1), some (.int i2), some (.long x7), none, some (.int i4), some (.long x7), none, some (.long ((1000000 : Int64) - x8)), none, some (.long x7), none]) dX11_lookAt_97 (by decide) rfl ?_
            refine ex_iload dX11_lookAt_98 rfl ?_
            refine ex_istore_n (L2 := [some (.ref 155), some (.int a1), some (.int i4), some (.long x7), none, some (.int i4), some (.long x7), none, some (.long ((1000000 : Int64) - x8)), none, some (.long x7), none]) dX11_lookAt_100 (by decide) rfl ?_
            refine ex_iinc 1 (L2 := [some (.ref 155), some (.int a1), some (.int i4), some (.long x7), none, some (.int (i4 + 1)), some (.long x7), none, some (.long ((1000000 : Int64) - x8)), none, some (.long x7), none]) dX11_lookAt_101 rfl kI_1 (by decide) rfl ?_
            refine ex_goto 22 dX11_lookAt_104 (by decide) ?_
            refine ex_mskL [true, true, true, true, false, true, false, false, false, false, false, false] (L2 := [some (.ref 155), some (.int a1), some (.int i4), some (.long x7), none, some (.int (i4 + 1)), none, none, none, none, none, none]) rfl ?_
            cases hb
            exact hk (i4, x7, (i4 + 1)) rfl
          · rw [if_neg c11] at hb
            refine ex_goto 101 dX11_lookAt_92 (by decide) ?_
            refine ex_iinc 1 (L2 := [some (.ref 155), some (.int a1), some (.int i2), some (.long i3), none, some (.int (i4 + 1)), some (.long x7), none, some (.long ((1000000 : Int64) - x8)), none, some (.long x7), none]) dX11_lookAt_101 rfl kI_1 (by decide) rfl ?_
            refine ex_goto 22 dX11_lookAt_104 (by decide) ?_
            refine ex_mskL [true, true, true, true, false, true, false, false, false, false, false, false] (L2 := [some (.ref 155), some (.int a1), some (.int i2), some (.long i3), none, some (.int (i4 + 1)), none, none, none, none, none, none]) rfl ?_
            cases hb
            exact hk (i2, i3, (i4 + 1)) rfl)
    exact key FU ((-1), (-1), 0) hlq12
  · rw [if_pos c1] at h
    refine ex_iconst (-1) dX11_lookAt_11 kI_m1 ?_
    cases h
    exact mx_reti .int dX11_lookAt_12 ⟨rfl, rfl⟩
def w_X11_linesLeaving_4 (a1 : Int32) (i1 : Int32) (i2 : Int32) (M3 : Mem) : Option ((Int32 × Int32 × Mem) ⊕ (Int32 × Mem)) :=
  b1 (rd M3 156 84) fun x4 => if x4 ≤ i2 then (some (.inr (i1, M3))) else (b1 (rd M3 156 ((103 + (3 * i2)) + 1)) fun x6 => b1 (rd M3 156 ((103 + (3 * i2)) + 2)) fun x7 => b2 (f_X11_leftOf x6 x7 M3) fun M8 x9 => lt ((if x9 = a1 then (1 <<< (i2 &&& 31)) else 0) : Int32) fun x11 => some (.inl ((i1 ||| x11), (i2 + 1), M8)))
def f_X11_linesLeaving (a1 : Int32) (M : Mem) : Option (Mem × Int32) :=
  b1 (lp (fun s => w_X11_linesLeaving_4 a1 s.1 s.2.1 s.2.2) FU (0, 0, M)) fun q12 => some (q12.2, q12.1)
set_option maxRecDepth 100000 in
set_option maxHeartbeats 4000000 in
theorem t_X11_linesLeaving (l : Launch) (E : EV) (a1 : Int32) (M : Mem) {M' : Mem} {r : Int32} (h : f_X11_linesLeaving a1 M = some (M', r)) : RunM l E yX11_linesLeaving cX11_linesLeaving 4 (some .int) 5 [.ref 155, .int a1] M M' (some (.int r)) := by
  refine RunM.of (by decide) (Nat.le_of_ble_eq_true rfl) ?_
  show XM l E (RX11, "linesLeaving", cX11_linesLeaving, 4) (some .int) 5 0 [some (.ref 155), some (.int a1), none, none] [] M M' (some (.int r))
  unfold f_X11_linesLeaving at h
  refine ex_iconst 0 dX11_linesLeaving_0 kI_0 ?_
  refine ex_istore_n (L2 := [some (.ref 155), some (.int a1), some (.int 0), none]) dX11_linesLeaving_1 (by decide) rfl ?_
  refine ex_iconst 0 dX11_linesLeaving_2 kI_0 ?_
  refine ex_istore_n (L2 := [some (.ref 155), some (.int a1), some (.int 0), some (.int 0)]) dX11_linesLeaving_3 (by decide) rfl ?_
  refine ex_mskL [true, true, true, true] (L2 := [some (.ref 155), some (.int a1), some (.int 0), some (.int 0)]) rfl ?_
  obtain ⟨q12, hlq12, h⟩ := b1E h
  obtain ⟨y13, M14⟩ := q12
  dsimp only at h
  have hx : XM l E (RX11, "linesLeaving", cX11_linesLeaving, 4) (some .int) 5 65 [none, none, some (.int y13), none] [] M14 M' (some (.int r)) := by
    refine ex_iload_n dX11_linesLeaving_65 rfl ?_
    cases h
    exact mx_reti .int dX11_linesLeaving_66 ⟨rfl, rfl⟩
  clear h
  have key : ∀ (k : Nat) (s : Int32 × Int32 × Mem), lp (fun s => w_X11_linesLeaving_4 a1 s.1 s.2.1 s.2.2) k s = some (y13, M14) → XM l E (RX11, "linesLeaving", cX11_linesLeaving, 4) (some .int) 5 4 [some (.ref 155), some (.int a1), some (.int s.1), some (.int s.2.1)] [] s.2.2 M' (some (.int r)) := lp_ind (P := fun (s : Int32 × Int32 × Mem) => XM l E (RX11, "linesLeaving", cX11_linesLeaving, 4) (some .int) 5 4 [some (.ref 155), some (.int a1), some (.int s.1), some (.int s.2.1)] [] s.2.2 M' (some (.int r))) (fun s t hb hk he => by
    obtain ⟨i1, i2, M3⟩ := s
    show XM l E (RX11, "linesLeaving", cX11_linesLeaving, 4) (some .int) 5 4 [some (.ref 155), some (.int a1), some (.int i1), some (.int i2)] [] M3 M' (some (.int r))
    change w_X11_linesLeaving_4 a1 i1 i2 M3 = some t at hb
    unfold w_X11_linesLeaving_4 at hb
    refine ex_iload_n dX11_linesLeaving_4 rfl ?_
    refine ex_aload_n dX11_linesLeaving_5 rfl ?_
    refine mx_getr 11 156 dX11_linesLeaving_6 fl_X11_7 oc_at_155 (rf_11_0 oc_at_155) ?_
    refine ex_bipush 84 dX11_linesLeaving_9 kB_84 ?_
    obtain ⟨x4, qx4, hb⟩ := b1E hb
    refine mx_iald x4 dX11_linesLeaving_11 qx4 ?_
    refine ex_icmp_ge 65 dX11_linesLeaving_12 (by decide) (fun c5 => ?_) (fun c5 => ?_)
    · rw [if_pos c5] at hb
      refine ex_mskL [false, false, true, false] (L2 := [none, none, some (.int i1), none]) rfl ?_
      cases hb
      cases (he _ rfl) <;> exact hx
    · rw [if_neg c5] at hb
      refine ex_iload_n dX11_linesLeaving_15 rfl ?_
      refine ex_aload_n dX11_linesLeaving_16 rfl ?_
      refine ex_aload_n dX11_linesLeaving_17 rfl ?_
      refine mx_getr 11 156 dX11_linesLeaving_18 fl_X11_7 oc_at_155 (rf_11_0 oc_at_155) ?_
      refine ex_bipush 103 dX11_linesLeaving_21 kB_103 ?_
      refine ex_iconst 3 dX11_linesLeaving_23 kI_3 ?_
      refine ex_iload_n dX11_linesLeaving_24 rfl ?_
      refine ex_imul dX11_linesLeaving_25 ?_
      refine ex_iadd dX11_linesLeaving_26 ?_
      refine ex_iconst 1 dX11_linesLeaving_27 kI_1 ?_
      refine ex_iadd dX11_linesLeaving_28 ?_
      obtain ⟨x6, qx6, hb⟩ := b1E hb
      refine mx_iald x6 dX11_linesLeaving_29 qx6 ?_
      refine ex_aload_n dX11_linesLeaving_30 rfl ?_
      refine mx_getr 11 156 dX11_linesLeaving_31 fl_X11_7 oc_at_155 (rf_11_0 oc_at_155) ?_
      refine ex_bipush 103 dX11_linesLeaving_34 kB_103 ?_
      refine ex_iconst 3 dX11_linesLeaving_36 kI_3 ?_
      refine ex_iload_n dX11_linesLeaving_37 rfl ?_
      refine ex_imul dX11_linesLeaving_38 ?_
      refine ex_iadd dX11_linesLeaving_39 ?_
      refine ex_iconst 2 dX11_linesLeaving_40 kI_2 ?_
      refine ex_iadd dX11_linesLeaving_41 ?_
      obtain ⟨x7, qx7, hb⟩ := b1E hb
      refine mx_iald x7 dX11_linesLeaving_42 qx7 ?_
      obtain ⟨M8, x9, qx9, hb⟩ := b2E hb
      refine mx_cVi [.int x6, .int x7] [.int i1] 155 11 x9 dX11_linesLeaving_43 cl_X11_313 im_X11_leftOf cy_X11_leftOf oc_at_155 rfl (Nat.le_of_ble_eq_true rfl) (by decide) (t_X11_leftOf l E x6 x7 M3 qx9) ?_
      refine ex_iload_n dX11_linesLeaving_46 rfl ?_
      obtain ⟨x11, ex11, hb⟩ := ltE hb
      have Jx11 : XM l E (RX11, "linesLeaving", cX11_linesLeaving, 4) (some .int) 5 57 [some (.ref 155), some (.int a1), some (.int i1), some (.int i2)] [.int x11, .int i1] M8 M' (some (.int r)) := by
        refine ex_ior dX11_linesLeaving_57 ?_
        refine ex_istore_n (L2 := [some (.ref 155), some (.int a1), some (.int (i1 ||| x11)), some (.int i2)]) dX11_linesLeaving_58 (by decide) rfl ?_
        refine ex_iinc 1 (L2 := [some (.ref 155), some (.int a1), some (.int (i1 ||| x11)), some (.int (i2 + 1))]) dX11_linesLeaving_59 rfl kI_1 (by decide) rfl ?_
        refine ex_goto 4 dX11_linesLeaving_62 (by decide) ?_
        refine ex_mskL [true, true, true, true] (L2 := [some (.ref 155), some (.int a1), some (.int (i1 ||| x11)), some (.int (i2 + 1))]) rfl ?_
        cases hb
        exact hk ((i1 ||| x11), (i2 + 1), M8) rfl
      clear hb
      refine ex_icmp_ne 56 dX11_linesLeaving_47 (by decide) (fun c10 => ?_) (fun c10 => ?_)
      · rw [if_neg c10] at ex11
        refine ex_iconst 0 dX11_linesLeaving_56 kI_0 ?_
        subst ex11
        exact Jx11
      · rw [if_pos c10] at ex11
        refine ex_iconst 1 dX11_linesLeaving_50 kI_1 ?_
        refine ex_iload_n dX11_linesLeaving_51 rfl ?_
        refine ex_ishl dX11_linesLeaving_52 ?_
        refine ex_goto 57 dX11_linesLeaving_53 (by decide) ?_
        subst ex11
        exact Jx11)
  exact key FU (0, 0, M) hlq12
def w_X11_greaterPart_5 (a1 : Int32) (a2 : Int32) (M : Mem) (i1 : Int32) (i2 : Int32) : Option ((Int32 × Int32) ⊕ (Int32)) :=
  b1 (rd M 156 84) fun x3 => if x3 ≤ i2 then (some (.inr i1)) else (if ((a1 >>> (i2 &&& 31)) &&& 1) = 1 then (b1 (rd M 156 ((103 + (3 * i2)) + 1)) fun x6 => if x6 = a2 then (some (.inl ((i1 + 1), (i2 + 1)))) else (some (.inl ((i1 + 0), (i2 + 1))))) else (some (.inl ((i1 + 0), (i2 + 1)))))
def f_X11_greaterPart (a1 : Int32) (a2 : Int32) (M : Mem) : Option (Int32) :=
  b1 (lp (fun s => w_X11_greaterPart_5 a1 a2 M s.1 s.2) FU (0, 0)) fun q8 => b1 (f_X11_count a1) fun x9 => some (f_X11_greater q8 (x9 - q8))
set_option maxRecDepth 100000 in
set_option maxHeartbeats 4000000 in
theorem t_X11_greaterPart (l : Launch) (E : EV) (a1 : Int32) (a2 : Int32) (M : Mem) {r : Int32} (h : f_X11_greaterPart a1 a2 M = some r) : RunM l E yX11_greaterPart cX11_greaterPart 5 (some .int) 1 [.ref 155, .int a1, .int a2] M M (some (.int r)) := by
  refine RunM.of (by decide) (Nat.le_of_ble_eq_true rfl) ?_
  show XM l E (RX11, "greaterPart", cX11_greaterPart, 5) (some .int) 1 0 [some (.ref 155), some (.int a1), some (.int a2), none, none] [] M M (some (.int r))
  unfold f_X11_greaterPart at h
  refine ex_iconst 0 dX11_greaterPart_0 kI_0 ?_
  refine ex_istore_n (L2 := [some (.ref 155), some (.int a1), some (.int a2), some (.int 0), none]) dX11_greaterPart_1 (by decide) rfl ?_
  refine ex_iconst 0 dX11_greaterPart_2 kI_0 ?_
  refine ex_istore (L2 := [some (.ref 155), some (.int a1), some (.int a2), some (.int 0), some (.int 0)]) dX11_greaterPart_3 (by decide) rfl ?_
  refine ex_mskL [true, true, true, true, true] (L2 := [some (.ref 155), some (.int a1), some (.int a2), some (.int 0), some (.int 0)]) rfl ?_
  obtain ⟨q8, hlq8, h⟩ := b1E h
  have hx : XM l E (RX11, "greaterPart", cX11_greaterPart, 5) (some .int) 1 59 [none, some (.int a1), none, some (.int q8), none] [] M M (some (.int r)) := by
    refine ex_iload_n dX11_greaterPart_59 rfl ?_
    refine ex_iload_n dX11_greaterPart_60 rfl ?_
    obtain ⟨x9, qx9, h⟩ := b1E h
    refine mx_cSi [.int a1] [.int q8] x9 dX11_greaterPart_61 cl_X11_345 sm_X11_count rfl (Nat.le_of_ble_eq_true rfl) (by decide) (t_X11_count l E a1 M qx9) ?_
    refine ex_iload_n dX11_greaterPart_64 rfl ?_
    refine ex_isub dX11_greaterPart_65 ?_
    refine mx_cSi [.int q8, .int (x9 - q8)] [] (f_X11_greater q8 (x9 - q8)) dX11_greaterPart_66 cl_X11_291 sm_X11_greater rfl (Nat.le_of_ble_eq_true rfl) (by decide) (t_X11_greater l E q8 (x9 - q8) M rfl) ?_
    cases h
    exact mx_reti .int dX11_greaterPart_69 ⟨rfl, rfl⟩
  clear h
  have key : ∀ (k : Nat) (s : Int32 × Int32), lp (fun s => w_X11_greaterPart_5 a1 a2 M s.1 s.2) k s = some q8 → XM l E (RX11, "greaterPart", cX11_greaterPart, 5) (some .int) 1 5 [some (.ref 155), some (.int a1), some (.int a2), some (.int s.1), some (.int s.2)] [] M M (some (.int r)) := lp_ind (P := fun (s : Int32 × Int32) => XM l E (RX11, "greaterPart", cX11_greaterPart, 5) (some .int) 1 5 [some (.ref 155), some (.int a1), some (.int a2), some (.int s.1), some (.int s.2)] [] M M (some (.int r))) (fun s t hb hk he => by
    obtain ⟨i1, i2⟩ := s
    show XM l E (RX11, "greaterPart", cX11_greaterPart, 5) (some .int) 1 5 [some (.ref 155), some (.int a1), some (.int a2), some (.int i1), some (.int i2)] [] M M (some (.int r))
    change w_X11_greaterPart_5 a1 a2 M i1 i2 = some t at hb
    unfold w_X11_greaterPart_5 at hb
    refine ex_iload dX11_greaterPart_5 rfl ?_
    refine ex_aload_n dX11_greaterPart_7 rfl ?_
    refine mx_getr 11 156 dX11_greaterPart_8 fl_X11_7 oc_at_155 (rf_11_0 oc_at_155) ?_
    refine ex_bipush 84 dX11_greaterPart_11 kB_84 ?_
    obtain ⟨x3, qx3, hb⟩ := b1E hb
    refine mx_iald x3 dX11_greaterPart_13 qx3 ?_
    refine ex_icmp_ge 59 dX11_greaterPart_14 (by decide) (fun c4 => ?_) (fun c4 => ?_)
    · rw [if_pos c4] at hb
      refine ex_mskL [false, true, false, true, false] (L2 := [none, some (.int a1), none, some (.int i1), none]) rfl ?_
      cases hb
      cases (he _ rfl) <;> exact hx
    · rw [if_neg c4] at hb
      refine ex_iload_n dX11_greaterPart_17 rfl ?_
      refine ex_iload_n dX11_greaterPart_18 rfl ?_
      refine ex_iload dX11_greaterPart_19 rfl ?_
      refine ex_ishr dX11_greaterPart_21 ?_
      refine ex_iconst 1 dX11_greaterPart_22 kI_1 ?_
      refine ex_iand dX11_greaterPart_23 ?_
      refine ex_iconst 1 dX11_greaterPart_24 kI_1 ?_
      refine ex_icmp_ne 50 dX11_greaterPart_25 (by decide) (fun c5 => ?_) (fun c5 => ?_)
      · rw [if_neg c5] at hb
        refine ex_iconst 0 dX11_greaterPart_50 kI_0 ?_
        refine ex_iadd dX11_greaterPart_51 ?_
        refine ex_istore_n (L2 := [some (.ref 155), some (.int a1), some (.int a2), some (.int (i1 + 0)), some (.int i2)]) dX11_greaterPart_52 (by decide) rfl ?_
        refine ex_iinc 1 (L2 := [some (.ref 155), some (.int a1), some (.int a2), some (.int (i1 + 0)), some (.int (i2 + 1))]) dX11_greaterPart_53 rfl kI_1 (by decide) rfl ?_
        refine ex_goto 5 dX11_greaterPart_56 (by decide) ?_
        refine ex_mskL [true, true, true, true, true] (L2 := [some (.ref 155), some (.int a1), some (.int a2), some (.int (i1 + 0)), some (.int (i2 + 1))]) rfl ?_
        cases hb
        exact hk ((i1 + 0), (i2 + 1)) rfl
      · rw [if_pos c5] at hb
        refine ex_aload_n dX11_greaterPart_28 rfl ?_
        refine mx_getr 11 156 dX11_greaterPart_29 fl_X11_7 oc_at_155 (rf_11_0 oc_at_155) ?_
        refine ex_bipush 103 dX11_greaterPart_32 kB_103 ?_
        refine ex_iconst 3 dX11_greaterPart_34 kI_3 ?_
        refine ex_iload dX11_greaterPart_35 rfl ?_
        refine ex_imul dX11_greaterPart_37 ?_
        refine ex_iadd dX11_greaterPart_38 ?_
        refine ex_iconst 1 dX11_greaterPart_39 kI_1 ?_
        refine ex_iadd dX11_greaterPart_40 ?_
        obtain ⟨x6, qx6, hb⟩ := b1E hb
        refine mx_iald x6 dX11_greaterPart_41 qx6 ?_
        refine ex_iload_n dX11_greaterPart_42 rfl ?_
        refine ex_icmp_ne 50 dX11_greaterPart_43 (by decide) (fun c7 => ?_) (fun c7 => ?_)
        · rw [if_neg c7] at hb
          refine ex_iconst 0 dX11_greaterPart_50 kI_0 ?_
          refine ex_iadd dX11_greaterPart_51 ?_
          refine ex_istore_n (L2 := [some (.ref 155), some (.int a1), some (.int a2), some (.int (i1 + 0)), some (.int i2)]) dX11_greaterPart_52 (by decide) rfl ?_
          refine ex_iinc 1 (L2 := [some (.ref 155), some (.int a1), some (.int a2), some (.int (i1 + 0)), some (.int (i2 + 1))]) dX11_greaterPart_53 rfl kI_1 (by decide) rfl ?_
          refine ex_goto 5 dX11_greaterPart_56 (by decide) ?_
          refine ex_mskL [true, true, true, true, true] (L2 := [some (.ref 155), some (.int a1), some (.int a2), some (.int (i1 + 0)), some (.int (i2 + 1))]) rfl ?_
          cases hb
          exact hk ((i1 + 0), (i2 + 1)) rfl
        · rw [if_pos c7] at hb
          refine ex_iconst 1 dX11_greaterPart_46 kI_1 ?_
          refine ex_goto 51 dX11_greaterPart_47 (by decide) ?_
          refine ex_iadd dX11_greaterPart_51 ?_
          refine ex_istore_n (L2 := [some (.ref 155), some (.int a1), some (.int a2), some (.int (i1 + 1)), some (.int i2)]) dX11_greaterPart_52 (by decide) rfl ?_
          refine ex_iinc 1 (L2 := [some (.ref 155), some (.int a1), some (.int a2), some (.int (i1 + 1)), some (.int (i2 + 1))]) dX11_greaterPart_53 rfl kI_1 (by decide) rfl ?_
          refine ex_goto 5 dX11_greaterPart_56 (by decide) ?_
          refine ex_mskL [true, true, true, true, true] (L2 := [some (.ref 155), some (.int a1), some (.int a2), some (.int (i1 + 1)), some (.int (i2 + 1))]) rfl ?_
          cases hb
          exact hk ((i1 + 1), (i2 + 1)) rfl)
  exact key FU (0, 0) hlq8
def w_X11_crumbs_39 (M4 : Mem) (x5 : Int32) (i7 : Int32) (i8 : Int32) : Option ((Int32 × Int32) ⊕ (Int32)) :=
  b1 (rd M4 156 80) fun x9 => if x9 ≤ i8 then (some (.inr i7)) else (b1 (f_X11_greaterPart x5 i8 M4) fun x11 => b1 (f_X11_greaterPart x5 i7 M4) fun x12 => if x12 ≤ x11 then (some (.inl (i7, (i8 + 1)))) else (some (.inl (i8, (i8 + 1)))))
def f_X11_crumbs (a1 : Int32) (a2 : Int32) (M : Mem) : Option (Mem × Int32) :=
  if ((f_X11_isIn a1 0 99) = 0 ∨ (f_X11_isIn a2 0 1) = 0) then (some (M, (-1))) else (b2 (f_X11_linesLeaving a1 M) fun M4 x5 => if a2 = 0 then (some (M4, x5)) else (b1 (lp (fun s => w_X11_crumbs_39 M4 x5 s.1 s.2) FU (0, 1)) fun q14 => b1 (f_X11_count x5) fun x15 => lt ((if 2 ≤ x15 then q14 else (-1)) : Int32) fun x17 => some (M4, x17)))
set_option maxRecDepth 100000 in
set_option maxHeartbeats 4000000 in
theorem t_X11_crumbs (l : Launch) (E : EV) (a1 : Int32) (a2 : Int32) (M : Mem) {M' : Mem} {r : Int32} (h : f_X11_crumbs a1 a2 M = some (M', r)) : RunM l E yX11_crumbs cX11_crumbs 6 (some .int) 6 [.ref 155, .int a1, .int a2] M M' (some (.int r)) := by
  refine RunM.of (by decide) (Nat.le_of_ble_eq_true rfl) ?_
  show XM l E (RX11, "crumbs", cX11_crumbs, 6) (some .int) 6 0 [some (.ref 155), some (.int a1), some (.int a2), none, none, none] [] M M' (some (.int r))
  unfold f_X11_crumbs at h
  refine ex_iload_n dX11_crumbs_0 rfl ?_
  refine ex_iconst 0 dX11_crumbs_1 kI_0 ?_
  refine ex_bipush 99 dX11_crumbs_2 kB_99 ?_
  refine mx_cSi [.int a1, .int 0, .int 99] [] (f_X11_isIn a1 0 99) dX11_crumbs_4 cl_X11_53 sm_X11_isIn rfl (Nat.le_of_ble_eq_true rfl) (by decide) (t_X11_isIn l E a1 0 99 M rfl) ?_
  have JXC3 : ((f_X11_isIn a1 0 99) = 0 ∨ (f_X11_isIn a2 0 1) = 0) → XM l E (RX11, "crumbs", cX11_crumbs, 6) (some .int) 6 19 [some (.ref 155), some (.int a1), some (.int a2), none, none, none] [] M M' (some (.int r)) := fun C3 => by
    rw [if_pos C3] at h
    refine ex_iconst (-1) dX11_crumbs_19 kI_m1 ?_
    cases h
    exact mx_reti .int dX11_crumbs_20 ⟨rfl, rfl⟩
  have JYC3 : ¬ (((f_X11_isIn a1 0 99) = 0 ∨ (f_X11_isIn a2 0 1) = 0)) → XM l E (RX11, "crumbs", cX11_crumbs, 6) (some .int) 6 23 [some (.ref 155), some (.int a1), some (.int a2), none, none, none] [.int a1, .ref 155] M M' (some (.int r)) := fun C3 => by
    rw [if_neg C3] at h
    obtain ⟨M4, x5, qx5, h⟩ := b2E h
    refine mx_cVi [.int a1] [] 155 11 x5 dX11_crumbs_23 cl_X11_424 im_X11_linesLeaving cy_X11_linesLeaving oc_at_155 rfl (Nat.le_of_ble_eq_true rfl) (by decide) (t_X11_linesLeaving l E a1 M qx5) ?_
    refine ex_istore_n (L2 := [some (.ref 155), some (.int a1), some (.int a2), some (.int x5), none, none]) dX11_crumbs_26 (by decide) rfl ?_
    refine ex_iload_n dX11_crumbs_27 rfl ?_
    refine ex_if_ne 33 dX11_crumbs_28 (by decide) (fun c6 => ?_) (fun c6 => ?_)
    · rw [if_neg c6] at h
      refine ex_iconst 0 dX11_crumbs_33 kI_0 ?_
      refine ex_istore (L2 := [some (.ref 155), some (.int a1), some (.int a2), some (.int x5), some (.int 0), none]) dX11_crumbs_34 (by decide) rfl ?_
      refine ex_iconst 1 dX11_crumbs_36 kI_1 ?_
      refine ex_istore (L2 := [some (.ref 155), some (.int a1), some (.int a2), some (.int x5), some (.int 0), some (.int 1)]) dX11_crumbs_37 (by decide) rfl ?_
      refine ex_mskL [true, false, false, true, true, true] (L2 := [some (.ref 155), none, none, some (.int x5), some (.int 0), some (.int 1)]) rfl ?_
      obtain ⟨q14, hlq14, h⟩ := b1E h
      have hx : XM l E (RX11, "crumbs", cX11_crumbs, 6) (some .int) 6 78 [none, none, none, some (.int x5), some (.int q14), none] [] M4 M' (some (.int r)) := by
        refine ex_iload_n dX11_crumbs_78 rfl ?_
        obtain ⟨x15, qx15, h⟩ := b1E h
        refine mx_cSi [.int x5] [] x15 dX11_crumbs_79 cl_X11_345 sm_X11_count rfl (Nat.le_of_ble_eq_true rfl) (by decide) (t_X11_count l E x5 M4 qx15) ?_
        refine ex_iconst 2 dX11_crumbs_82 kI_2 ?_
        obtain ⟨x17, ex17, h⟩ := ltE h
        have Jx17 : XM l E (RX11, "crumbs", cX11_crumbs, 6) (some .int) 6 92 [none, none, none, some (.int x5), some (.int q14), none] [.int x17] M4 M' (some (.int r)) := by
          cases h
          exact mx_reti .int dX11_crumbs_92 ⟨rfl, rfl⟩
        clear h
        refine ex_icmp_ge 90 dX11_crumbs_83 (by decide) (fun c16 => ?_) (fun c16 => ?_)
        · rw [if_pos c16] at ex17
          refine ex_iload dX11_crumbs_90 rfl ?_
          subst ex17
          exact Jx17
        · rw [if_neg c16] at ex17
          refine ex_iconst (-1) dX11_crumbs_86 kI_m1 ?_
          refine ex_goto 92 dX11_crumbs_87 (by decide) ?_
          subst ex17
          exact Jx17
      clear h
      have key : ∀ (k : Nat) (s : Int32 × Int32), lp (fun s => w_X11_crumbs_39 M4 x5 s.1 s.2) k s = some q14 → XM l E (RX11, "crumbs", cX11_crumbs, 6) (some .int) 6 39 [some (.ref 155), none, none, some (.int x5), some (.int s.1), some (.int s.2)] [] M4 M' (some (.int r)) := lp_ind (P := fun (s : Int32 × Int32) => XM l E (RX11, "crumbs", cX11_crumbs, 6) (some .int) 6 39 [some (.ref 155), none, none, some (.int x5), some (.int s.1), some (.int s.2)] [] M4 M' (some (.int r))) (fun s t hb hk he => by
        obtain ⟨i7, i8⟩ := s
        show XM l E (RX11, "crumbs", cX11_crumbs, 6) (some .int) 6 39 [some (.ref 155), none, none, some (.int x5), some (.int i7), some (.int i8)] [] M4 M' (some (.int r))
        change w_X11_crumbs_39 M4 x5 i7 i8 = some t at hb
        unfold w_X11_crumbs_39 at hb
        refine ex_iload dX11_crumbs_39 rfl ?_
        refine ex_aload_n dX11_crumbs_41 rfl ?_
        refine mx_getr 11 156 dX11_crumbs_42 fl_X11_7 oc_at_155 (rf_11_0 oc_at_155) ?_
        refine ex_bipush 80 dX11_crumbs_45 kB_80 ?_
        obtain ⟨x9, qx9, hb⟩ := b1E hb
        refine mx_iald x9 dX11_crumbs_47 qx9 ?_
        refine ex_icmp_ge 78 dX11_crumbs_48 (by decide) (fun c10 => ?_) (fun c10 => ?_)
        · rw [if_pos c10] at hb
          refine ex_mskL [false, false, false, true, true, false] (L2 := [none, none, none, some (.int x5), some (.int i7), none]) rfl ?_
          cases hb
          cases (he _ rfl) <;> exact hx
        · rw [if_neg c10] at hb
          refine ex_aload_n dX11_crumbs_51 rfl ?_
          refine ex_iload_n dX11_crumbs_52 rfl ?_
          refine ex_iload dX11_crumbs_53 rfl ?_
          obtain ⟨x11, qx11, hb⟩ := b1E hb
          refine mx_cVi [.int x5, .int i8] [] 155 11 x11 dX11_crumbs_55 cl_X11_427 im_X11_greaterPart cy_X11_greaterPart oc_at_155 rfl (Nat.le_of_ble_eq_true rfl) (by decide) (t_X11_greaterPart l E x5 i8 M4 qx11) ?_
          refine ex_aload_n dX11_crumbs_58 rfl ?_
          refine ex_iload_n dX11_crumbs_59 rfl ?_
          refine ex_iload dX11_crumbs_60 rfl ?_
          obtain ⟨x12, qx12, hb⟩ := b1E hb
          refine mx_cVi [.int x5, .int i7] [.int x11] 155 11 x12 dX11_crumbs_62 cl_X11_427 im_X11_greaterPart cy_X11_greaterPart oc_at_155 rfl (Nat.le_of_ble_eq_true rfl) (by decide) (t_X11_greaterPart l E x5 i7 M4 qx12) ?_
          refine ex_icmp_ge 72 dX11_crumbs_65 (by decide) (fun c13 => ?_) (fun c13 => ?_)
          · rw [if_pos c13] at hb
            refine ex_iinc 1 (L2 := [some (.ref 155), none, none, some (.int x5), some (.int i7), some (.int (i8 + 1))]) dX11_crumbs_72 rfl kI_1 (by decide) rfl ?_
            refine ex_goto 39 dX11_crumbs_75 (by decide) ?_
            refine ex_mskL [true, false, false, true, true, true] (L2 := [some (.ref 155), none, none, some (.int x5), some (.int i7), some (.int (i8 + 1))]) rfl ?_
            cases hb
            exact hk (i7, (i8 + 1)) rfl
          · rw [if_neg c13] at hb
            refine ex_iload dX11_crumbs_68 rfl ?_
            refine ex_istore (L2 := [some (.ref 155), none, none, some (.int x5), some (.int i8), some (.int i8)]) dX11_crumbs_70 (by decide) rfl ?_
            refine ex_iinc 1 (L2 := [some (.ref 155), none, none, some (.int x5), some (.int i8), some (.int (i8 + 1))]) dX11_crumbs_72 rfl kI_1 (by decide) rfl ?_
            refine ex_goto 39 dX11_crumbs_75 (by decide) ?_
            refine ex_mskL [true, false, false, true, true, true] (L2 := [some (.ref 155), none, none, some (.int x5), some (.int i8), some (.int (i8 + 1))]) rfl ?_
            cases hb
            exact hk (i8, (i8 + 1)) rfl)
      exact key FU (0, 1) hlq14
    · rw [if_pos c6] at h
      refine ex_iload_n dX11_crumbs_31 rfl ?_
      cases h
      exact mx_reti .int dX11_crumbs_32 ⟨rfl, rfl⟩
  clear h
  refine ex_if_eq 19 dX11_crumbs_7 (by decide) (fun c1 => ?_) (fun c1 => ?_)
  · exact JXC3 (Or.inl c1)
  · refine ex_iload_n dX11_crumbs_10 rfl ?_
    refine ex_iconst 0 dX11_crumbs_11 kI_0 ?_
    refine ex_iconst 1 dX11_crumbs_12 kI_1 ?_
    refine mx_cSi [.int a2, .int 0, .int 1] [] (f_X11_isIn a2 0 1) dX11_crumbs_13 cl_X11_53 sm_X11_isIn rfl (Nat.le_of_ble_eq_true rfl) (by decide) (t_X11_isIn l E a2 0 1 M rfl) ?_
    refine ex_if_ne 21 dX11_crumbs_16 (by decide) (fun c2 => ?_) (fun c2 => ?_)
    · refine ex_aload_n dX11_crumbs_21 rfl ?_
      refine ex_iload_n dX11_crumbs_22 rfl ?_
      exact JYC3 (fun z => z.elim c1 c2)
    · exact JXC3 (Or.inr c2)
