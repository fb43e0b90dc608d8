def w_X11_laysCuts_14 (a1 : Int32) (i1 : Int32) (i4 : Int32) (M5 : Mem) : Option ((Int32 × Mem) ⊕ (Mem)) :=
  if a1 < i4 then (some (.inr M5)) else (if i1 = (M5 156 87) then (if i1 = (M5 156 87) then (if i4 < 100000 then (b1 (wr M5 166 ((100 * i1) + i4) 0) fun M32 => some (.inl ((i4 + 1), M32))) else (b1 (rd M5 156 ((307 + (2 * i1)) + 1)) fun x33 => b1 (rd M5 166 (((100 * i1) + i4) - 100000)) fun x34 => lt (f_X11_greater 0 (x33 + x34)) fun x35 => b1 (wr M5 166 ((100 * i1) + i4) x35) fun M36 => some (.inl ((i4 + 1), M36)))) else (b1 (rd M5 156 (307 + (2 * i1))) fun x24 => if i4 < x24 then (b1 (wr M5 166 ((100 * i1) + i4) 0) fun M26 => some (.inl ((i4 + 1), M26))) else (b1 (rd M5 156 ((307 + (2 * i1)) + 1)) fun x27 => b1 (rd M5 166 (((100 * i1) + i4) - x24)) fun x28 => lt (f_X11_greater 0 (x27 + x28)) fun x29 => b1 (wr M5 166 ((100 * i1) + i4) x29) fun M30 => some (.inl ((i4 + 1), M30))))) else (b1 (rd M5 166 ((100 * (i1 + 1)) + i4)) fun x8 => if i1 = (M5 156 87) then (if i4 < 100000 then (b1 (wr M5 166 ((100 * i1) + i4) x8) fun M18 => some (.inl ((i4 + 1), M18))) else (b1 (rd M5 156 ((307 + (2 * i1)) + 1)) fun x19 => b1 (rd M5 166 (((100 * i1) + i4) - 100000)) fun x20 => lt (f_X11_greater x8 (x19 + x20)) fun x21 => b1 (wr M5 166 ((100 * i1) + i4) x21) fun M22 => some (.inl ((i4 + 1), M22)))) else (b1 (rd M5 156 (307 + (2 * i1))) fun x10 => if i4 < x10 then (b1 (wr M5 166 ((100 * i1) + i4) x8) fun M12 => some (.inl ((i4 + 1), M12))) else (b1 (rd M5 156 ((307 + (2 * i1)) + 1)) fun x13 => b1 (rd M5 166 (((100 * i1) + i4) - x10)) fun x14 => lt (f_X11_greater x8 (x13 + x14)) fun x15 => b1 (wr M5 166 ((100 * i1) + i4) x15) fun M16 => some (.inl ((i4 + 1), M16))))))
def w_X11_laysCuts_8 (a1 : Int32) (i1 : Int32) (M2 : Mem) : Option ((Int32 × Mem) ⊕ (Mem)) :=
  if i1 < 0 then (some (.inr M2)) else (b1 (lp (fun s => w_X11_laysCuts_14 a1 i1 s.1 s.2) FU (0, M2)) fun q37 => some (.inl ((i1 + (-1)), q37)))
def f_X11_laysCuts (a1 : Int32) (M : Mem) : Option (Mem) :=
  b1 (lp (fun s => w_X11_laysCuts_8 a1 s.1 s.2) FU ((M 156 87), M)) fun q38 => some q38
set_option maxRecDepth 100000 in
set_option maxHeartbeats 4000000 in
theorem t_X11_laysCuts (l : Launch) (E : EV) (a1 : Int32) (M : Mem) {M' : Mem} (h : f_X11_laysCuts a1 M = some M') : RunM l E yX11_laysCuts cX11_laysCuts 6 none 1 [.ref 155, .int a1] M M' none := by
  refine RunM.of (by decide) (Nat.le_of_ble_eq_true rfl) ?_
  show XM l E (RX11, "laysCuts", cX11_laysCuts, 6) none 1 0 [some (.ref 155), some (.int a1), none, none, none, none] [] M M' none
  unfold f_X11_laysCuts at h
  refine ex_aload_n dX11_laysCuts_0 rfl ?_
  refine mx_getr 11 156 dX11_laysCuts_1 fl_X11_7 oc_at_155 (rf_11_0 oc_at_155) ?_
  refine ex_bipush 87 dX11_laysCuts_4 kB_87 ?_
  refine mx_iald (M 156 87) dX11_laysCuts_6 (rdc_156_87 _) ?_
  refine ex_istore_n (L2 := [some (.ref 155), some (.int a1), some (.int (M 156 87)), none, none, none]) dX11_laysCuts_7 (by decide) rfl ?_
  refine ex_mskL [true, true, true, false, false, false] (L2 := [some (.ref 155), some (.int a1), some (.int (M 156 87)), none, none, none]) rfl ?_
  obtain ⟨q38, hlq38, h⟩ := b1E h
  have hx : XM l E (RX11, "laysCuts", cX11_laysCuts, 6) none 1 147 [none, none, none, none, none, none] [] q38 M' none := by
    cases h
    exact mx_retv dX11_laysCuts_147 rfl
  clear h
  have key : ∀ (k : Nat) (s : Int32 × Mem), lp (fun s => w_X11_laysCuts_8 a1 s.1 s.2) k s = some q38 → XM l E (RX11, "laysCuts", cX11_laysCuts, 6) none 1 8 [some (.ref 155), some (.int a1), some (.int s.1), none, none, none] [] s.2 M' none := lp_ind (P := fun (s : Int32 × Mem) => XM l E (RX11, "laysCuts", cX11_laysCuts, 6) none 1 8 [some (.ref 155), some (.int a1), some (.int s.1), none, none, none] [] s.2 M' none) (fun s t hb hk he => by
    obtain ⟨i1, M2⟩ := s
    show XM l E (RX11, "laysCuts", cX11_laysCuts, 6) none 1 8 [some (.ref 155), some (.int a1), some (.int i1), none, none, none] [] M2 M' none
    change w_X11_laysCuts_8 a1 i1 M2 = some t at hb
    unfold w_X11_laysCuts_8 at hb
    refine ex_iload_n dX11_laysCuts_8 rfl ?_
    refine ex_if_lt 147 dX11_laysCuts_9 (by decide) (fun c3 => ?_) (fun c3 => ?_)
    · rw [if_pos c3] at hb
      refine ex_mskL [false, false, false, false, false, false] (L2 := [none, none, none, none, none, none]) rfl ?_
      cases hb
      cases (he _ rfl) <;> exact hx
    · rw [if_neg c3] at hb
      refine ex_iconst 0 dX11_laysCuts_12 kI_0 ?_
      refine ex_istore_n (L2 := [some (.ref 155), some (.int a1), some (.int i1), some (.int 0), none, none]) dX11_laysCuts_13 (by decide) rfl ?_
      refine ex_mskL [true, true, true, true, false, false] (L2 := [some (.ref 155), some (.int a1), some (.int i1), some (.int 0), none, none]) rfl ?_
      obtain ⟨q37, hlq37, hb⟩ := b1E hb
      have hx : XM l E (RX11, "laysCuts", cX11_laysCuts, 6) none 1 141 [some (.ref 155), some (.int a1), some (.int i1), none, none, none] [] q37 M' none := by
        refine ex_iinc (-1) (L2 := [some (.ref 155), some (.int a1), some (.int (i1 + (-1))), none, none, none]) dX11_laysCuts_141 rfl kI_m1 (by decide) rfl ?_
        refine ex_goto 8 dX11_laysCuts_144 (by decide) ?_
        refine ex_mskL [true, true, true, false, false, false] (L2 := [some (.ref 155), some (.int a1), some (.int (i1 + (-1))), none, none, none]) rfl ?_
        cases hb
        exact hk ((i1 + (-1)), q37) rfl
      clear hb
      have key : ∀ (k : Nat) (s : Int32 × Mem), lp (fun s => w_X11_laysCuts_14 a1 i1 s.1 s.2) k s = some q37 → XM l E (RX11, "laysCuts", cX11_laysCuts, 6) none 1 14 [some (.ref 155), some (.int a1), some (.int i1), some (.int s.1), none, none] [] s.2 M' none := lp_ind (P := fun (s : Int32 × Mem) => XM l E (RX11, "laysCuts", cX11_laysCuts, 6) none 1 14 [some (.ref 155), some (.int a1), some (.int i1), some (.int s.1), none, none] [] s.2 M' none) (fun s t hb hk he => by
        obtain ⟨i4, M5⟩ := s
        show XM l E (RX11, "laysCuts", cX11_laysCuts, 6) none 1 14 [some (.ref 155), some (.int a1), some (.int i1), some (.int i4), none, none] [] M5 M' none
        change w_X11_laysCuts_14 a1 i1 i4 M5 = some t at hb
        unfold w_X11_laysCuts_14 at hb
        refine ex_iload_n dX11_laysCuts_14 rfl ?_
        refine ex_iload_n dX11_laysCuts_15 rfl ?_
        refine ex_icmp_gt 141 dX11_laysCuts_16 (by decide) (fun c6 => ?_) (fun c6 => ?_)
        · rw [if_pos c6] at hb
          refine ex_mskL [true, true, true, false, false, false] (L2 := [some (.ref 155), some (.int a1), some (.int i1), none, none, none]) rfl ?_
          cases hb
          cases (he _ rfl) <;> exact hx
        · rw [if_neg c6] at hb
          refine ex_iload_n dX11_laysCuts_19 rfl ?_
          refine ex_aload_n dX11_laysCuts_20 rfl ?_
          refine mx_getr 11 156 dX11_laysCuts_21 fl_X11_7 oc_at_155 (rf_11_0 oc_at_155) ?_
          refine ex_bipush 87 dX11_laysCuts_24 kB_87 ?_
          refine mx_iald (M5 156 87) dX11_laysCuts_26 (rdc_156_87 _) ?_
          refine ex_icmp_ne 34 dX11_laysCuts_27 (by decide) (fun c7 => ?_) (fun c7 => ?_)
          · rw [if_neg c7] at hb
            refine ex_aload_n dX11_laysCuts_34 rfl ?_
            refine mx_getr 11 166 dX11_laysCuts_35 fl_X11_44 oc_at_155 (rf_11_27 oc_at_155) ?_
            refine ex_bipush 100 dX11_laysCuts_38 kB_100 ?_
            refine ex_iload_n dX11_laysCuts_40 rfl ?_
            refine ex_iconst 1 dX11_laysCuts_41 kI_1 ?_
            refine ex_iadd dX11_laysCuts_42 ?_
            refine ex_imul dX11_laysCuts_43 ?_
            refine ex_iload_n dX11_laysCuts_44 rfl ?_
            refine ex_iadd dX11_laysCuts_45 ?_
            obtain ⟨x8, qx8, hb⟩ := b1E hb
            refine mx_iald x8 dX11_laysCuts_46 qx8 ?_
            refine ex_istore (L2 := [some (.ref 155), some (.int a1), some (.int i1), some (.int i4), some (.int x8), none]) dX11_laysCuts_47 (by decide) rfl ?_
            refine ex_iload_n dX11_laysCuts_49 rfl ?_
            refine ex_aload_n dX11_laysCuts_50 rfl ?_
            refine mx_getr 11 156 dX11_laysCuts_51 fl_X11_7 oc_at_155 (rf_11_0 oc_at_155) ?_
            refine ex_bipush 87 dX11_laysCuts_54 kB_87 ?_
            refine mx_iald (M5 156 87) dX11_laysCuts_56 (rdc_156_87 _) ?_
            refine ex_icmp_ne 66 dX11_laysCuts_57 (by decide) (fun c9 => ?_) (fun c9 => ?_)
            · rw [if_neg c9] at hb
              refine ex_aload_n dX11_laysCuts_66 rfl ?_
              refine mx_getr 11 156 dX11_laysCuts_67 fl_X11_7 oc_at_155 (rf_11_0 oc_at_155) ?_
              refine ex_sipush 307 dX11_laysCuts_70 kS_307 ?_
              refine ex_iconst 2 dX11_laysCuts_73 kI_2 ?_
              refine ex_iload_n dX11_laysCuts_74 rfl ?_
              refine ex_imul dX11_laysCuts_75 ?_
              refine ex_iadd dX11_laysCuts_76 ?_
              obtain ⟨x10, qx10, hb⟩ := b1E hb
              refine mx_iald x10 dX11_laysCuts_77 qx10 ?_
              refine ex_istore (L2 := [some (.ref 155), some (.int a1), some (.int i1), some (.int i4), some (.int x8), some (.int x10)]) dX11_laysCuts_78 (by decide) rfl ?_
              refine ex_iload dX11_laysCuts_80 rfl ?_
              refine ex_iload_n dX11_laysCuts_82 rfl ?_
              refine ex_icmp_gt 122 dX11_laysCuts_83 (by decide) (fun c11 => ?_) (fun c11 => ?_)
              · rw [if_pos c11] at hb
                refine ex_aload_n dX11_laysCuts_122 rfl ?_
                refine mx_getr 11 166 dX11_laysCuts_123 fl_X11_44 oc_at_155 (rf_11_27 oc_at_155) ?_
                refine ex_bipush 100 dX11_laysCuts_126 kB_100 ?_
                refine ex_iload_n dX11_laysCuts_128 rfl ?_
                refine ex_imul dX11_laysCuts_129 ?_
                refine ex_iload_n dX11_laysCuts_130 rfl ?_
                refine ex_iadd dX11_laysCuts_131 ?_
                refine ex_iload dX11_laysCuts_132 rfl ?_
                obtain ⟨M12, qM12, hb⟩ := b1E hb
                refine mx_iast M12 dX11_laysCuts_134 qM12 ?_
                refine ex_iinc 1 (L2 := [some (.ref 155), some (.int a1), some (.int i1), some (.int (i4 + 1)), some (.int x8), some (.int x10)]) dX11_laysCuts_135 rfl kI_1 (by decide) rfl ?_
                refine ex_goto 14 dX11_laysCuts_138 (by decide) ?_
                refine ex_mskL [true, true, true, true, false, false] (L2 := [some (.ref 155), some (.int a1), some (.int i1), some (.int (i4 + 1)), none, none]) rfl ?_
                cases hb
                exact hk ((i4 + 1), M12) rfl
              · rw [if_neg c11] at hb
                refine ex_iload dX11_laysCuts_86 rfl ?_
                refine ex_aload_n dX11_laysCuts_88 rfl ?_
                refine mx_getr 11 156 dX11_laysCuts_89 fl_X11_7 oc_at_155 (rf_11_0 oc_at_155) ?_
                refine ex_sipush 307 dX11_laysCuts_92 kS_307 ?_
                refine ex_iconst 2 dX11_laysCuts_95 kI_2 ?_
                refine ex_iload_n dX11_laysCuts_96 rfl ?_
                refine ex_imul dX11_laysCuts_97 ?_
                refine ex_iadd dX11_laysCuts_98 ?_
                refine ex_iconst 1 dX11_laysCuts_99 kI_1 ?_
                refine ex_iadd dX11_laysCuts_100 ?_
                obtain ⟨x13, qx13, hb⟩ := b1E hb
                refine mx_iald x13 dX11_laysCuts_101 qx13 ?_
                refine ex_aload_n dX11_laysCuts_102 rfl ?_
                refine mx_getr 11 166 dX11_laysCuts_103 fl_X11_44 oc_at_155 (rf_11_27 oc_at_155) ?_
                refine ex_bipush 100 dX11_laysCuts_106 kB_100 ?_
                refine ex_iload_n dX11_laysCuts_108 rfl ?_
                refine ex_imul dX11_laysCuts_109 ?_
                refine ex_iload_n dX11_laysCuts_110 rfl ?_
                refine ex_iadd dX11_laysCuts_111 ?_
                refine ex_iload dX11_laysCuts_112 rfl ?_
                refine ex_isub dX11_laysCuts_114 ?_
                obtain ⟨x14, qx14, hb⟩ := b1E hb
                refine mx_iald x14 dX11_laysCuts_115 qx14 ?_
                refine ex_iadd dX11_laysCuts_116 ?_
                refine mx_cSi [.int x8, .int (x13 + x14)] [] (f_X11_greater x8 (x13 + x14)) dX11_laysCuts_117 cl_X11_291 sm_X11_greater rfl (Nat.le_of_ble_eq_true rfl) (by decide) (t_X11_greater l E x8 (x13 + x14) M5 rfl) ?_
                obtain ⟨x15, ex15, hb⟩ := ltE hb
                rw [← ex15]
                refine ex_istore (L2 := [some (.ref 155), some (.int a1), some (.int i1), some (.int i4), some (.int x15), some (.int x10)]) dX11_laysCuts_120 (by decide) rfl ?_
                refine ex_aload_n dX11_laysCuts_122 rfl ?_
                refine mx_getr 11 166 dX11_laysCuts_123 fl_X11_44 oc_at_155 (rf_11_27 oc_at_155) ?_
                refine ex_bipush 100 dX11_laysCuts_126 kB_100 ?_
                refine ex_iload_n dX11_laysCuts_128 rfl ?_
                refine ex_imul dX11_laysCuts_129 ?_
                refine ex_iload_n dX11_laysCuts_130 rfl ?_
                refine ex_iadd dX11_laysCuts_131 ?_
                refine ex_iload dX11_laysCuts_132 rfl ?_
                obtain ⟨M16, qM16, hb⟩ := b1E hb
                refine mx_iast M16 dX11_laysCuts_134 qM16 ?_
                refine ex_iinc 1 (L2 := [some (.ref 155), some (.int a1), some (.int i1), some (.int (i4 + 1)), some (.int x15), some (.int x10)]) dX11_laysCuts_135 rfl kI_1 (by decide) rfl ?_
                refine ex_goto 14 dX11_laysCuts_138 (by decide) ?_
                refine ex_mskL [true, true, true, true, false, false] (L2 := [some (.ref 155), some (.int a1), some (.int i1), some (.int (i4 + 1)), none, none]) rfl ?_
                cases hb
                exact hk ((i4 + 1), M16) rfl
            · rw [if_pos c9] at hb
              refine ex_ldcw 100000 dX11_laysCuts_60 (tb (i := 1829) (by decide +kernel)) ?_
              refine ex_goto 78 dX11_laysCuts_63 (by decide) ?_
              refine ex_istore (L2 := [some (.ref 155), some (.int a1), some (.int i1), some (.int i4), some (.int x8), some (.int 100000)]) dX11_laysCuts_78 (by decide) rfl ?_
              refine ex_iload dX11_laysCuts_80 rfl ?_
              refine ex_iload_n dX11_laysCuts_82 rfl ?_
              refine ex_icmp_gt 122 dX11_laysCuts_83 (by decide) (fun c17 => ?_) (fun c17 => ?_)
              · rw [if_pos c17] at hb
                refine ex_aload_n dX11_laysCuts_122 rfl ?_
                refine mx_getr 11 166 dX11_laysCuts_123 fl_X11_44 oc_at_155 (rf_11_27 oc_at_155) ?_
                refine ex_bipush 100 dX11_laysCuts_126 kB_100 ?_
                refine ex_iload_n dX11_laysCuts_128 rfl ?_
                refine ex_imul dX11_laysCuts_129 ?_
                refine ex_iload_n dX11_laysCuts_130 rfl ?_
                refine ex_iadd dX11_laysCuts_131 ?_
                refine ex_iload dX11_laysCuts_132 rfl ?_
                obtain ⟨M18, qM18, hb⟩ := b1E hb
                refine mx_iast M18 dX11_laysCuts_134 qM18 ?_
                refine ex_iinc 1 (L2 := [some (.ref 155), some (.int a1), some (.int i1), some (.int (i4 + 1)), some (.int x8), some (.int 100000)]) dX11_laysCuts_135 rfl kI_1 (by decide) rfl ?_
                refine ex_goto 14 dX11_laysCuts_138 (by decide) ?_
                refine ex_mskL [true, true, true, true, false, false] (L2 := [some (.ref 155), some (.int a1), some (.int i1), some (.int (i4 + 1)), none, none]) rfl ?_
                cases hb
                exact hk ((i4 + 1), M18) rfl
              · rw [if_neg c17] at hb
                refine ex_iload dX11_laysCuts_86 rfl ?_
                refine ex_aload_n dX11_laysCuts_88 rfl ?_
                refine mx_getr 11 156 dX11_laysCuts_89 fl_X11_7 oc_at_155 (rf_11_0 oc_at_155) ?_
                refine ex_sipush 307 dX11_laysCuts_92 kS_307 ?_
                refine ex_iconst 2 dX11_laysCuts_95 kI_2 ?_
                refine ex_iload_n dX11_laysCuts_96 rfl ?_
                refine ex_imul dX11_laysCuts_97 ?_
                refine ex_iadd dX11_laysCuts_98 ?_
                refine ex_iconst 1 dX11_laysCuts_99 kI_1 ?_
                refine ex_iadd dX11_laysCuts_100 ?_
                obtain ⟨x19, qx19, hb⟩ := b1E hb
                refine mx_iald x19 dX11_laysCuts_101 qx19 ?_
                refine ex_aload_n dX11_laysCuts_102 rfl ?_
                refine mx_getr 11 166 dX11_laysCuts_103 fl_X11_44 oc_at_155 (rf_11_27 oc_at_155) ?_
                refine ex_bipush 100 dX11_laysCuts_106 kB_100 ?_
                refine ex_iload_n dX11_laysCuts_108 rfl ?_
                refine ex_imul dX11_laysCuts_109 ?_
                refine ex_iload_n dX11_laysCuts_110 rfl ?_
                refine ex_iadd dX11_laysCuts_111 ?_
                refine ex_iload dX11_laysCuts_112 rfl ?_
                refine ex_isub dX11_laysCuts_114 ?_
                obtain ⟨x20, qx20, hb⟩ := b1E hb
                refine mx_iald x20 dX11_laysCuts_115 qx20 ?_
                refine ex_iadd dX11_laysCuts_116 ?_
                refine mx_cSi [.int x8, .int (x19 + x20)] [] (f_X11_greater x8 (x19 + x20)) dX11_laysCuts_117 cl_X11_291 sm_X11_greater rfl (Nat.le_of_ble_eq_true rfl) (by decide) (t_X11_greater l E x8 (x19 + x20) M5 rfl) ?_
                obtain ⟨x21, ex21, hb⟩ := ltE hb
                rw [← ex21]
                refine ex_istore (L2 := [some (.ref 155), some (.int a1), some (.int i1), some (.int i4), some (.int x21), some (.int 100000)]) dX11_laysCuts_120 (by decide) rfl ?_
                refine ex_aload_n dX11_laysCuts_122 rfl ?_
                refine mx_getr 11 166 dX11_laysCuts_123 fl_X11_44 oc_at_155 (rf_11_27 oc_at_155) ?_
                refine ex_bipush 100 dX11_laysCuts_126 kB_100 ?_
                refine ex_iload_n dX11_laysCuts_128 rfl ?_
                refine ex_imul dX11_laysCuts_129 ?_
                refine ex_iload_n dX11_laysCuts_130 rfl ?_
                refine ex_iadd dX11_laysCuts_131 ?_
                refine ex_iload dX11_laysCuts_132 rfl ?_
                obtain ⟨M22, qM22, hb⟩ := b1E hb
                refine mx_iast M22 dX11_laysCuts_134 qM22 ?_
                refine ex_iinc 1 (L2 := [some (.ref 155), some (.int a1), some (.int i1), some (.int (i4 + 1)), some (.int x21), some (.int 100000)]) dX11_laysCuts_135 rfl kI_1 (by decide) rfl ?_
                refine ex_goto 14 dX11_laysCuts_138 (by decide) ?_
                refine ex_mskL [true, true, true, true, false, false] (L2 := [some (.ref 155), some (.int a1), some (.int i1), some (.int (i4 + 1)), none, none]) rfl ?_
                cases hb
                exact hk ((i4 + 1), M22) rfl
          · rw [if_pos c7] at hb
            refine ex_iconst 0 dX11_laysCuts_30 kI_0 ?_
            refine ex_goto 47 dX11_laysCuts_31 (by decide) ?_
            refine ex_istore (L2 := [some (.ref 155), some (.int a1), some (.int i1), some (.int i4), some (.int 0), none]) dX11_laysCuts_47 (by decide) rfl ?_
            refine ex_iload_n dX11_laysCuts_49 rfl ?_
            refine ex_aload_n dX11_laysCuts_50 rfl ?_
            refine mx_getr 11 156 dX11_laysCuts_51 fl_X11_7 oc_at_155 (rf_11_0 oc_at_155) ?_
            refine ex_bipush 87 dX11_laysCuts_54 kB_87 ?_
            refine mx_iald (M5 156 87) dX11_laysCuts_56 (rdc_156_87 _) ?_
            refine ex_icmp_ne 66 dX11_laysCuts_57 (by decide) (fun c23 => ?_) (fun c23 => ?_)
            · rw [if_neg c23] at hb
              refine ex_aload_n dX11_laysCuts_66 rfl ?_
              refine mx_getr 11 156 dX11_laysCuts_67 fl_X11_7 oc_at_155 (rf_11_0 oc_at_155) ?_
              refine ex_sipush 307 dX11_laysCuts_70 kS_307 ?_
              refine ex_iconst 2 dX11_laysCuts_73 kI_2 ?_
              refine ex_iload_n dX11_laysCuts_74 rfl ?_
              refine ex_imul dX11_laysCuts_75 ?_
              refine ex_iadd dX11_laysCuts_76 ?_
              obtain ⟨x24, qx24, hb⟩ := b1E hb
              refine mx_iald x24 dX11_laysCuts_77 qx24 ?_
              refine ex_istore (L2 := [some (.ref 155), some (.int a1), some (.int i1), some (.int i4), some (.int 0), some (.int x24)]) dX11_laysCuts_78 (by decide) rfl ?_
              refine ex_iload dX11_laysCuts_80 rfl ?_
              refine ex_iload_n dX11_laysCuts_82 rfl ?_
              refine ex_icmp_gt 122 dX11_laysCuts_83 (by decide) (fun c25 => ?_) (fun c25 => ?_)
              · rw [if_pos c25] at hb
                refine ex_aload_n dX11_laysCuts_122 rfl ?_
                refine mx_getr 11 166 dX11_laysCuts_123 fl_X11_44 oc_at_155 (rf_11_27 oc_at_155) ?_
                refine ex_bipush 100 dX11_laysCuts_126 kB_100 ?_
                refine ex_iload_n dX11_laysCuts_128 rfl ?_
                refine ex_imul dX11_laysCuts_129 ?_
                refine ex_iload_n dX11_laysCuts_130 rfl ?_
                refine ex_iadd dX11_laysCuts_131 ?_
                refine ex_iload dX11_laysCuts_132 rfl ?_
                obtain ⟨M26, qM26, hb⟩ := b1E hb
                refine mx_iast M26 dX11_laysCuts_134 qM26 ?_
                refine ex_iinc 1 (L2 := [some (.ref 155), some (.int a1), some (.int i1), some (.int (i4 + 1)), some (.int 0), some (.int x24)]) dX11_laysCuts_135 rfl kI_1 (by decide) rfl ?_
                refine ex_goto 14 dX11_laysCuts_138 (by decide) ?_
                refine ex_mskL [true, true, true, true, false, false] (L2 := [some (.ref 155), some (.int a1), some (.int i1), some (.int (i4 + 1)), none, none]) rfl ?_
                cases hb
                exact hk ((i4 + 1), M26) rfl
              · rw [if_neg c25] at hb
                refine ex_iload dX11_laysCuts_86 rfl ?_
                refine ex_aload_n dX11_laysCuts_88 rfl ?_
                refine mx_getr 11 156 dX11_laysCuts_89 fl_X11_7 oc_at_155 (rf_11_0 oc_at_155) ?_
                refine ex_sipush 307 dX11_laysCuts_92 kS_307 ?_
                refine ex_iconst 2 dX11_laysCuts_95 kI_2 ?_
                refine ex_iload_n dX11_laysCuts_96 rfl ?_
                refine ex_imul dX11_laysCuts_97 ?_
                refine ex_iadd dX11_laysCuts_98 ?_
                refine ex_iconst 1 dX11_laysCuts_99 kI_1 ?_
                refine ex_iadd dX11_laysCuts_100 ?_
                obtain ⟨x27, qx27, hb⟩ := b1E hb
                refine mx_iald x27 dX11_laysCuts_101 qx27 ?_
                refine ex_aload_n dX11_laysCuts_102 rfl ?_
                refine mx_getr 11 166 dX11_laysCuts_103 fl_X11_44 oc_at_155 (rf_11_27 oc_at_155) ?_
                refine ex_bipush 100 dX11_laysCuts_106 kB_100 ?_
                refine ex_iload_n dX11_laysCuts_108 rfl ?_
                refine ex_imul dX11_laysCuts_109 ?_
                refine ex_iload_n dX11_laysCuts_110 rfl ?_
                refine ex_iadd dX11_laysCuts_111 ?_
                refine ex_iload dX11_laysCuts_112 rfl ?_
                refine ex_isub dX11_laysCuts_114 ?_
                obtain ⟨x28, qx28, hb⟩ := b1E hb
                refine mx_iald x28 dX11_laysCuts_115 qx28 ?_
                refine ex_iadd dX11_laysCuts_116 ?_
                refine mx_cSi [.int 0, .int (x27 + x28)] [] (f_X11_greater 0 (x27 + x28)) dX11_laysCuts_117 cl_X11_291 sm_X11_greater rfl (Nat.le_of_ble_eq_true rfl) (by decide) (t_X11_greater l E 0 (x27 + x28) M5 rfl) ?_
                obtain ⟨x29, ex29, hb⟩ := ltE hb
                rw [← ex29]
                refine ex_istore (L2 := [some (.ref 155), some (.int a1), some (.int i1), some (.int i4), some (.int x29), some (.int x24)]) dX11_laysCuts_120 (by decide) rfl ?_
                refine ex_aload_n dX11_laysCuts_122 rfl ?_
                refine mx_getr 11 166 dX11_laysCuts_123 fl_X11_44 oc_at_155 (rf_11_27 oc_at_155) ?_
                refine ex_bipush 100 dX11_laysCuts_126 kB_100 ?_
                refine ex_iload_n dX11_laysCuts_128 rfl ?_
                refine ex_imul dX11_laysCuts_129 ?_
                refine ex_iload_n dX11_laysCuts_130 rfl ?_
                refine ex_iadd dX11_laysCuts_131 ?_
                refine ex_iload dX11_laysCuts_132 rfl ?_
                obtain ⟨M30, qM30, hb⟩ := b1E hb
                refine mx_iast M30 dX11_laysCuts_134 qM30 ?_
                refine ex_iinc 1 (L2 := [some (.ref 155), some (.int a1), some (.int i1), some (.int (i4 + 1)), some (.int x29), some (.int x24)]) dX11_laysCuts_135 rfl kI_1 (by decide) rfl ?_
                refine ex_goto 14 dX11_laysCuts_138 (by decide) ?_
                refine ex_mskL [true, true, true, true, false, false] (L2 := [some (.ref 155), some (.int a1), some (.int i1), some (.int (i4 + 1)), none, none]) rfl ?_
                cases hb
                exact hk ((i4 + 1), M30) rfl
            · rw [if_pos c23] at hb
              refine ex_ldcw 100000 dX11_laysCuts_60 (tb (i := 1829) (by decide +kernel)) ?_
              refine ex_goto 78 dX11_laysCuts_63 (by decide) ?_
              refine ex_istore (L2 := [some (.ref 155), some (.int a1), some (.int i1), some (.int i4), some (.int 0), some (.int 100000)]) dX11_laysCuts_78 (by decide) rfl ?_
              refine ex_iload dX11_laysCuts_80 rfl ?_
              refine ex_iload_n dX11_laysCuts_82 rfl ?_
              refine ex_icmp_gt 122 dX11_laysCuts_83 (by decide) (fun c31 => ?_) (fun c31 => ?_)
              · rw [if_pos c31] at hb
                refine ex_aload_n dX11_laysCuts_122 rfl ?_
                refine mx_getr 11 166 dX11_laysCuts_123 fl_X11_44 oc_at_155 (rf_11_27 oc_at_155) ?_
                refine ex_bipush 100 dX11_laysCuts_126 kB_100 ?_
                refine ex_iload_n dX11_laysCuts_128 rfl ?_
                refine ex_imul dX11_laysCuts_129 ?_
                refine ex_iload_n dX11_laysCuts_130 rfl ?_
                refine ex_iadd dX11_laysCuts_131 ?_
                refine ex_iload dX11_laysCuts_132 rfl ?_
                obtain ⟨M32, qM32, hb⟩ := b1E hb
                refine mx_iast M32 dX11_laysCuts_134 qM32 ?_
                refine ex_iinc 1 (L2 := [some (.ref 155), some (.int a1), some (.int i1), some (.int (i4 + 1)), some (.int 0), some (.int 100000)]) dX11_laysCuts_135 rfl kI_1 (by decide) rfl ?_
                refine ex_goto 14 dX11_laysCuts_138 (by decide) ?_
                refine ex_mskL [true, true, true, true, false, false] (L2 := [some (.ref 155), some (.int a1), some (.int i1), some (.int (i4 + 1)), none, none]) rfl ?_
                cases hb
                exact hk ((i4 + 1), M32) rfl
              · rw [if_neg c31] at hb
                refine ex_iload dX11_laysCuts_86 rfl ?_
                refine ex_aload_n dX11_laysCuts_88 rfl ?_
                refine mx_getr 11 156 dX11_laysCuts_89 fl_X11_7 oc_at_155 (rf_11_0 oc_at_155) ?_
                refine ex_sipush 307 dX11_laysCuts_92 kS_307 ?_
                refine ex_iconst 2 dX11_laysCuts_95 kI_2 ?_
                refine ex_iload_n dX11_laysCuts_96 rfl ?_
                refine ex_imul dX11_laysCuts_97 ?_
                refine ex_iadd dX11_laysCuts_98 ?_
                refine ex_iconst 1 dX11_laysCuts_99 kI_1 ?_
                refine ex_iadd dX11_laysCuts_100 ?_
                obtain ⟨x33, qx33, hb⟩ := b1E hb
                refine mx_iald x33 dX11_laysCuts_101 qx33 ?_
                refine ex_aload_n dX11_laysCuts_102 rfl ?_
                refine mx_getr 11 166 dX11_laysCuts_103 fl_X11_44 oc_at_155 (rf_11_27 oc_at_155) ?_
                refine ex_bipush 100 dX11_laysCuts_106 kB_100 ?_
                refine ex_iload_n dX11_laysCuts_108 rfl ?_
                refine ex_imul dX11_laysCuts_109 ?_
                refine ex_iload_n dX11_laysCuts_110 rfl ?_
                refine ex_iadd dX11_laysCuts_111 ?_
                refine ex_iload dX11_laysCuts_112 rfl ?_
                refine ex_isub dX11_laysCuts_114 ?_
                obtain ⟨x34, qx34, hb⟩ := b1E hb
                refine mx_iald x34 dX11_laysCuts_115 qx34 ?_
                refine ex_iadd dX11_laysCuts_116 ?_
                refine mx_cSi [.int 0, .int (x33 + x34)] [] (f_X11_greater 0 (x33 + x34)) dX11_laysCuts_117 cl_X11_291 sm_X11_greater rfl (Nat.le_of_ble_eq_true rfl) (by decide) (t_X11_greater l E 0 (x33 + x34) M5 rfl) ?_
                obtain ⟨x35, ex35, hb⟩ := ltE hb
                rw [← ex35]
                refine ex_istore (L2 := [some (.ref 155), some (.int a1), some (.int i1), some (.int i4), some (.int x35), some (.int 100000)]) dX11_laysCuts_120 (by decide) rfl ?_
                refine ex_aload_n dX11_laysCuts_122 rfl ?_
                refine mx_getr 11 166 dX11_laysCuts_123 fl_X11_44 oc_at_155 (rf_11_27 oc_at_155) ?_
                refine ex_bipush 100 dX11_laysCuts_126 kB_100 ?_
                refine ex_iload_n dX11_laysCuts_128 rfl ?_
                refine ex_imul dX11_laysCuts_129 ?_
                refine ex_iload_n dX11_laysCuts_130 rfl ?_
                refine ex_iadd dX11_laysCuts_131 ?_
                refine ex_iload dX11_laysCuts_132 rfl ?_
                obtain ⟨M36, qM36, hb⟩ := b1E hb
                refine mx_iast M36 dX11_laysCuts_134 qM36 ?_
                refine ex_iinc 1 (L2 := [some (.ref 155), some (.int a1), some (.int i1), some (.int (i4 + 1)), some (.int x35), some (.int 100000)]) dX11_laysCuts_135 rfl kI_1 (by decide) rfl ?_
                refine ex_goto 14 dX11_laysCuts_138 (by decide) ?_
                refine ex_mskL [true, true, true, true, false, false] (L2 := [some (.ref 155), some (.int a1), some (.int i1), some (.int (i4 + 1)), none, none]) rfl ?_
                cases hb
                exact hk ((i4 + 1), M36) rfl)
      exact key FU (0, M2) hlq37)
  exact key FU ((M 156 87), M) hlq38
def w_X11_cuts_86 (M5 : Mem) (i9 : Int32) (x11 : Int32) (i12 : Int32) (i13 : Int32) : Option ((Int32 × Int32) ⊕ (Int32 × Int32)) :=
  if i12 < x11 then (some (.inr (i12, i13))) else (b1 (rd M5 156 ((307 + (2 * i9)) + 1)) fun x15 => b1 (rd M5 166 (((100 * i9) + i12) - x11)) fun x16 => b1 (rd M5 166 ((100 * i9) + i12)) fun x17 => if (x15 + x16) = x17 then (some (.inl ((i12 - x11), (i13 + 1)))) else (some (.inr (i12, i13))))
def w_X11_cuts_59 (a2 : Int32) (M5 : Mem) (i7 : Int32) (i8 : Int32) (i9 : Int32) : Option ((Int32 × Int32 × Int32) ⊕ (Int32)) :=
  if (a2 - 10) < i9 then (some (.inr i8)) else (b1 (rd M5 156 (307 + (2 * i9))) fun x11 => b1 (lp (fun s => w_X11_cuts_86 M5 i9 x11 s.1 s.2) FU (i7, 0)) fun q19 => some (.inl (q19.1, q19.2, (i9 + 1))))
def f_X11_cuts (a1 : Int32) (a2 : Int32) (M : Mem) : Option (Mem × Int32) :=
  if ((f_X11_isIn a1 0 99) = 0 ∨ (¬ (a2 = 0) ∧ (f_X11_isIn a2 10 (9 + (M 156 87))) = 0)) then (some (M, (-1))) else (b1 (f_X11_laysCuts a1 M) fun M5 => if a2 = 0 then (b1 (rd M5 166 a1) fun x23 => some (M5, x23)) else (b1 (lp (fun s => w_X11_cuts_59 a2 M5 s.1 s.2.1 s.2.2) FU (a1, 0, 0)) fun q22 => some (M5, q22)))
set_option maxRecDepth 100000 in
set_option maxHeartbeats 4000000 in
theorem t_X11_cuts (l : Launch) (E : EV) (a1 : Int32) (a2 : Int32) (M : Mem) {M' : Mem} {r : Int32} (h : f_X11_cuts a1 a2 M = some (M', r)) : RunM l E yX11_cuts cX11_cuts 7 (some .int) 2 [.ref 155, .int a1, .int a2] M M' (some (.int r)) := by
  refine RunM.of (by decide) (Nat.le_of_ble_eq_true rfl) ?_
  show XM l E (RX11, "cuts", cX11_cuts, 7) (some .int) 2 0 [some (.ref 155), some (.int a1), some (.int a2), none, none, none, none] [] M M' (some (.int r))
  unfold f_X11_cuts at h
  refine ex_iload_n dX11_cuts_0 rfl ?_
  refine ex_iconst 0 dX11_cuts_1 kI_0 ?_
  refine ex_bipush 99 dX11_cuts_2 kB_99 ?_
  refine mx_cSi [.int a1, .int 0, .int 99] [] (f_X11_isIn a1 0 99) dX11_cuts_4 cl_X11_53 sm_X11_isIn rfl (Nat.le_of_ble_eq_true rfl) (by decide) (t_X11_isIn l E a1 0 99 M rfl) ?_
  have JXC4 : ((f_X11_isIn a1 0 99) = 0 ∨ (¬ (a2 = 0) ∧ (f_X11_isIn a2 10 (9 + (M 156 87))) = 0)) → XM l E (RX11, "cuts", cX11_cuts, 7) (some .int) 2 33 [some (.ref 155), some (.int a1), some (.int a2), none, none, none, none] [] M M' (some (.int r)) := fun C4 => by
    rw [if_pos C4] at h
    refine ex_iconst (-1) dX11_cuts_33 kI_m1 ?_
    cases h
    exact mx_reti .int dX11_cuts_34 ⟨rfl, rfl⟩
  have JYC4 : ¬ (((f_X11_isIn a1 0 99) = 0 ∨ (¬ (a2 = 0) ∧ (f_X11_isIn a2 10 (9 + (M 156 87))) = 0))) → XM l E (RX11, "cuts", cX11_cuts, 7) (some .int) 2 35 [some (.ref 155), some (.int a1), some (.int a2), none, none, none, none] [] M M' (some (.int r)) := fun C4 => by
    rw [if_neg C4] at h
    refine ex_aload_n dX11_cuts_35 rfl ?_
    refine ex_iload_n dX11_cuts_36 rfl ?_
    obtain ⟨M5, qM5, h⟩ := b1E h
    refine mx_cVv [.int a1] [] 155 11 dX11_cuts_37 cl_X11_408 im_X11_laysCuts cy_X11_laysCuts oc_at_155 rfl (Nat.le_of_ble_eq_true rfl) (by decide) (t_X11_laysCuts l E a1 M qM5) ?_
    refine ex_iload_n dX11_cuts_40 rfl ?_
    refine ex_if_ne 51 dX11_cuts_41 (by decide) (fun c6 => ?_) (fun c6 => ?_)
    · rw [if_neg c6] at h
      refine ex_iload_n dX11_cuts_51 rfl ?_
      refine ex_istore_n (L2 := [some (.ref 155), some (.int a1), some (.int a2), some (.int a1), none, none, none]) dX11_cuts_52 (by decide) rfl ?_
      refine ex_iconst 0 dX11_cuts_53 kI_0 ?_
      refine ex_istore (L2 := [some (.ref 155), some (.int a1), some (.int a2), some (.int a1), some (.int 0), none, none]) dX11_cuts_54 (by decide) rfl ?_
      refine ex_iconst 0 dX11_cuts_56 kI_0 ?_
      refine ex_istore (L2 := [some (.ref 155), some (.int a1), some (.int a2), some (.int a1), some (.int 0), some (.int 0), none]) dX11_cuts_57 (by decide) rfl ?_
      refine ex_mskL [true, false, true, true, true, true, false] (L2 := [some (.ref 155), none, some (.int a2), some (.int a1), some (.int 0), some (.int 0), none]) rfl ?_
      obtain ⟨q22, hlq22, h⟩ := b1E h
      have hx : XM l E (RX11, "cuts", cX11_cuts, 7) (some .int) 2 155 [none, none, none, none, some (.int q22), none, none] [] M5 M' (some (.int r)) := by
        refine ex_iload dX11_cuts_155 rfl ?_
        cases h
        exact mx_reti .int dX11_cuts_157 ⟨rfl, rfl⟩
      clear h
      have key : ∀ (k : Nat) (s : Int32 × Int32 × Int32), lp (fun s => w_X11_cuts_59 a2 M5 s.1 s.2.1 s.2.2) k s = some q22 → XM l E (RX11, "cuts", cX11_cuts, 7) (some .int) 2 59 [some (.ref 155), none, some (.int a2), some (.int s.1), some (.int s.2.1), some (.int s.2.2), none] [] M5 M' (some (.int r)) := lp_ind (P := fun (s : Int32 × Int32 × Int32) => XM l E (RX11, "cuts", cX11_cuts, 7) (some .int) 2 59 [some (.ref 155), none, some (.int a2), some (.int s.1), some (.int s.2.1), some (.int s.2.2), none] [] M5 M' (some (.int r))) (fun s t hb hk he => by
        obtain ⟨i7, i8, i9⟩ := s
        show XM l E (RX11, "cuts", cX11_cuts, 7) (some .int) 2 59 [some (.ref 155), none, some (.int a2), some (.int i7), some (.int i8), some (.int i9), none] [] M5 M' (some (.int r))
        change w_X11_cuts_59 a2 M5 i7 i8 i9 = some t at hb
        unfold w_X11_cuts_59 at hb
        refine ex_iload dX11_cuts_59 rfl ?_
        refine ex_iload_n dX11_cuts_61 rfl ?_
        refine ex_bipush 10 dX11_cuts_62 kB_10 ?_
        refine ex_isub dX11_cuts_64 ?_
        refine ex_icmp_gt 155 dX11_cuts_65 (by decide) (fun c10 => ?_) (fun c10 => ?_)
        · rw [if_pos c10] at hb
          refine ex_mskL [false, false, false, false, true, false, false] (L2 := [none, none, none, none, some (.int i8), none, none]) rfl ?_
          cases hb
          cases (he _ rfl) <;> exact hx
        · rw [if_neg c10] at hb
          refine ex_iconst 0 dX11_cuts_68 kI_0 ?_
          refine ex_istore (L2 := [some (.ref 155), none, some (.int a2), some (.int i7), some (.int 0), some (.int i9), none]) dX11_cuts_69 (by decide) rfl ?_
          refine ex_aload_n dX11_cuts_71 rfl ?_
          refine mx_getr 11 156 dX11_cuts_72 fl_X11_7 oc_at_155 (rf_11_0 oc_at_155) ?_
          refine ex_sipush 307 dX11_cuts_75 kS_307 ?_
          refine ex_iconst 2 dX11_cuts_78 kI_2 ?_
          refine ex_iload dX11_cuts_79 rfl ?_
          refine ex_imul dX11_cuts_81 ?_
          refine ex_iadd dX11_cuts_82 ?_
          obtain ⟨x11, qx11, hb⟩ := b1E hb
          refine mx_iald x11 dX11_cuts_83 qx11 ?_
          refine ex_istore (L2 := [some (.ref 155), none, some (.int a2), some (.int i7), some (.int 0), some (.int i9), some (.int x11)]) dX11_cuts_84 (by decide) rfl ?_
          refine ex_mskL [true, false, true, true, true, true, true] (L2 := [some (.ref 155), none, some (.int a2), some (.int i7), some (.int 0), some (.int i9), some (.int x11)]) rfl ?_
          obtain ⟨q19, hlq19, hb⟩ := b1E hb
          obtain ⟨y20, y21⟩ := q19
          dsimp only at hb
          have hx : XM l E (RX11, "cuts", cX11_cuts, 7) (some .int) 2 149 [some (.ref 155), none, some (.int a2), some (.int y20), some (.int y21), some (.int i9), none] [] M5 M' (some (.int r)) := by
            refine ex_iinc 1 (L2 := [some (.ref 155), none, some (.int a2), some (.int y20), some (.int y21), some (.int (i9 + 1)), none]) dX11_cuts_149 rfl kI_1 (by decide) rfl ?_
            refine ex_goto 59 dX11_cuts_152 (by decide) ?_
            refine ex_mskL [true, false, true, true, true, true, false] (L2 := [some (.ref 155), none, some (.int a2), some (.int y20), some (.int y21), some (.int (i9 + 1)), none]) rfl ?_
            cases hb
            exact hk (y20, y21, (i9 + 1)) rfl
          clear hb
          have key : ∀ (k : Nat) (s : Int32 × Int32), lp (fun s => w_X11_cuts_86 M5 i9 x11 s.1 s.2) k s = some (y20, y21) → XM l E (RX11, "cuts", cX11_cuts, 7) (some .int) 2 86 [some (.ref 155), none, some (.int a2), some (.int s.1), some (.int s.2), some (.int i9), some (.int x11)] [] M5 M' (some (.int r)) := lp_ind (P := fun (s : Int32 × Int32) => XM l E (RX11, "cuts", cX11_cuts, 7) (some .int) 2 86 [some (.ref 155), none, some (.int a2), some (.int s.1), some (.int s.2), some (.int i9), some (.int x11)] [] M5 M' (some (.int r))) (fun s t hb hk he => by
            obtain ⟨i12, i13⟩ := s
            show XM l E (RX11, "cuts", cX11_cuts, 7) (some .int) 2 86 [some (.ref 155), none, some (.int a2), some (.int i12), some (.int i13), some (.int i9), some (.int x11)] [] M5 M' (some (.int r))
            change w_X11_cuts_86 M5 i9 x11 i12 i13 = some t at hb
            unfold w_X11_cuts_86 at hb
            refine ex_iload dX11_cuts_86 rfl ?_
            refine ex_iload_n dX11_cuts_88 rfl ?_
            refine ex_icmp_gt 149 dX11_cuts_89 (by decide) (fun c14 => ?_) (fun c14 => ?_)
            · rw [if_pos c14] at hb
              refine ex_mskL [true, false, true, true, true, true, false] (L2 := [some (.ref 155), none, some (.int a2), some (.int i12), some (.int i13), some (.int i9), none]) rfl ?_
              cases hb
              cases (he _ rfl) <;> exact hx
            · rw [if_neg c14] at hb
              refine ex_aload_n dX11_cuts_92 rfl ?_
              refine mx_getr 11 156 dX11_cuts_93 fl_X11_7 oc_at_155 (rf_11_0 oc_at_155) ?_
              refine ex_sipush 307 dX11_cuts_96 kS_307 ?_
              refine ex_iconst 2 dX11_cuts_99 kI_2 ?_
              refine ex_iload dX11_cuts_100 rfl ?_
              refine ex_imul dX11_cuts_102 ?_
              refine ex_iadd dX11_cuts_103 ?_
              refine ex_iconst 1 dX11_cuts_104 kI_1 ?_
              refine ex_iadd dX11_cuts_105 ?_
              obtain ⟨x15, qx15, hb⟩ := b1E hb
              refine mx_iald x15 dX11_cuts_106 qx15 ?_
              refine ex_aload_n dX11_cuts_107 rfl ?_
              refine mx_getr 11 166 dX11_cuts_108 fl_X11_44 oc_at_155 (rf_11_27 oc_at_155) ?_
              refine ex_bipush 100 dX11_cuts_111 kB_100 ?_
              refine ex_iload dX11_cuts_113 rfl ?_
              refine ex_imul dX11_cuts_115 ?_
              refine ex_iload_n dX11_cuts_116 rfl ?_
              refine ex_iadd dX11_cuts_117 ?_
              refine ex_iload dX11_cuts_118 rfl ?_
              refine ex_isub dX11_cuts_120 ?_
              obtain ⟨x16, qx16, hb⟩ := b1E hb
              refine mx_iald x16 dX11_cuts_121 qx16 ?_
              refine ex_iadd dX11_cuts_122 ?_
              refine ex_aload_n dX11_cuts_123 rfl ?_
              refine mx_getr 11 166 dX11_cuts_124 fl_X11_44 oc_at_155 (rf_11_27 oc_at_155) ?_
              refine ex_bipush 100 dX11_cuts_127 kB_100 ?_
              refine ex_iload dX11_cuts_129 rfl ?_
              refine ex_imul dX11_cuts_131 ?_
              refine ex_iload_n dX11_cuts_132 rfl ?_
              refine ex_iadd dX11_cuts_133 ?_
              obtain ⟨x17, qx17, hb⟩ := b1E hb
              refine mx_iald x17 dX11_cuts_134 qx17 ?_
              refine ex_icmp_ne 149 dX11_cuts_135 (by decide) (fun c18 => ?_) (fun c18 => ?_)
              · rw [if_neg c18] at hb
                refine ex_mskL [true, false, true, true, true, true, false] (L2 := [some (.ref 155), none, some (.int a2), some (.int i12), some (.int i13), some (.int i9), none]) rfl ?_
                cases hb
                cases (he _ rfl) <;> exact hx
              · rw [if_pos c18] at hb
                refine ex_iload_n dX11_cuts_138 rfl ?_
                refine ex_iload dX11_cuts_139 rfl ?_
                refine ex_isub dX11_cuts_141 ?_
                refine ex_istore_n (L2 := [some (.ref 155), none, some (.int a2), some (.int (i12 - x11)), some (.int i13), some (.int i9), some (.int x11)]) dX11_cuts_142 (by decide) rfl ?_
                refine ex_iinc 1 (L2 := [some (.ref 155), none, some (.int a2), some (.int (i12 - x11)), some (.int (i13 + 1)), some (.int i9), some (.int x11)]) dX11_cuts_143 rfl kI_1 (by decide) rfl ?_
                refine ex_goto 86 dX11_cuts_146 (by decide) ?_
                refine ex_mskL [true, false, true, true, true, true, true] (L2 := [some (.ref 155), none, some (.int a2), some (.int (i12 - x11)), some (.int (i13 + 1)), some (.int i9), some (.int x11)]) rfl ?_
                cases hb
                exact hk ((i12 - x11), (i13 + 1)) rfl)
          exact key FU (i7, 0) hlq19)
      exact key FU (a1, 0, 0) hlq22
    · rw [if_pos c6] at h
      refine ex_aload_n dX11_cuts_44 rfl ?_
      refine mx_getr 11 166 dX11_cuts_45 fl_X11_44 oc_at_155 (rf_11_27 oc_at_155) ?_
      refine ex_iload_n dX11_cuts_48 rfl ?_
      obtain ⟨x23, qx23, h⟩ := b1E h
      refine mx_iald x23 dX11_cuts_49 qx23 ?_
      cases h
      exact mx_reti .int dX11_cuts_50 ⟨rfl, rfl⟩
  clear h
  refine ex_if_eq 33 dX11_cuts_7 (by decide) (fun c1 => ?_) (fun c1 => ?_)
  · exact JXC4 (Or.inl c1)
  · refine ex_iload_n dX11_cuts_10 rfl ?_
    refine ex_if_eq 35 dX11_cuts_11 (by decide) (fun c2 => ?_) (fun c2 => ?_)
    · exact JYC4 (fun z => z.elim c1 (fun z => z.1 c2))
    · refine ex_iload_n dX11_cuts_14 rfl ?_
      refine ex_bipush 10 dX11_cuts_15 kB_10 ?_
      refine ex_bipush 9 dX11_cuts_17 kB_9 ?_
      refine ex_aload_n dX11_cuts_19 rfl ?_
      refine mx_getr 11 156 dX11_cuts_20 fl_X11_7 oc_at_155 (rf_11_0 oc_at_155) ?_
      refine ex_bipush 87 dX11_cuts_23 kB_87 ?_
      refine mx_iald (M 156 87) dX11_cuts_25 (rdc_156_87 _) ?_
      refine ex_iadd dX11_cuts_26 ?_
      refine mx_cSi [.int a2, .int 10, .int (9 + (M 156 87))] [] (f_X11_isIn a2 10 (9 + (M 156 87))) dX11_cuts_27 cl_X11_53 sm_X11_isIn rfl (Nat.le_of_ble_eq_true rfl) (by decide) (t_X11_isIn l E a2 10 (9 + (M 156 87)) M rfl) ?_
      refine ex_if_ne 35 dX11_cuts_30 (by decide) (fun c3 => ?_) (fun c3 => ?_)
      · exact JYC4 (fun z => z.elim c1 (fun z => c3 z.2))
      · exact JXC4 (Or.inr ⟨c2, c3⟩)
def w_X11_stalls_62 (a1 : Int32) (i6 : Int32) (i10 : Int32) (M11 : Mem) : Option ((Int32 × Mem) ⊕ (Mem)) :=
  if i10 ≤ 0 then (some (.inr M11)) else (b1 (f_X11_sumOf i10 M11) fun x13 => if a1 < x13 then (some (.inl (((i10 - 1) &&& i6), M11))) else (b1 (rd M11 167 i6) fun x15 => b1 (rd M11 167 (i6 &&& (i10 ^^^ (-1)))) fun x16 => b1 (wr M11 167 i6 (f_X11_lesser x15 (1 + x16))) fun M17 => some (.inl (((i10 - 1) &&& i6), M17))))
def w_X11_stalls_45 (a1 : Int32) (x4 : Int32) (i6 : Int32) (M7 : Mem) : Option ((Int32 × Mem) ⊕ (Mem)) :=
  if x4 < i6 then (some (.inr M7)) else (b1 (wr M7 167 i6 100000) fun M9 => b1 (lp (fun s => w_X11_stalls_62 a1 i6 s.1 s.2) FU (i6, M9)) fun q18 => some (.inl ((i6 + 1), q18)))
def f_X11_stalls (a1 : Int32) (M : Mem) : Option (Mem × Int32) :=
  if ((f_X11_isIn a1 1 99) = 0 ∨ ¬ ((M 156 7) ≤ 10)) then (some (M, (-1))) else (lt ((1 <<< ((M 156 7) &&& 31)) - 1) fun x4 => lt (up2 M 167 0 0) fun M5 => b1 (lp (fun s => w_X11_stalls_45 a1 x4 s.1 s.2) FU (1, M5)) fun q19 => b1 (rd q19 167 x4) fun x20 => if x20 < 100000 then (b1 (rd q19 167 x4) fun x22 => some (q19, x22)) else (some (q19, (-1))))
set_option maxRecDepth 100000 in
set_option maxHeartbeats 4000000 in
theorem t_X11_stalls (l : Launch) (E : EV) (a1 : Int32) (M : Mem) {M' : Mem} {r : Int32} (h : f_X11_stalls a1 M = some (M', r)) : RunM l E yX11_stalls cX11_stalls 5 (some .int) 2 [.ref 155, .int a1] M M' (some (.int r)) := by
  refine RunM.of (by decide) (Nat.le_of_ble_eq_true rfl) ?_
  show XM l E (RX11, "stalls", cX11_stalls, 5) (some .int) 2 0 [some (.ref 155), some (.int a1), none, none, none] [] M M' (some (.int r))
  unfold f_X11_stalls at h
  refine ex_iload_n dX11_stalls_0 rfl ?_
  refine ex_iconst 1 dX11_stalls_1 kI_1 ?_
  refine ex_bipush 99 dX11_stalls_2 kB_99 ?_
  refine mx_cSi [.int a1, .int 1, .int 99] [] (f_X11_isIn a1 1 99) dX11_stalls_4 cl_X11_53 sm_X11_isIn rfl (Nat.le_of_ble_eq_true rfl) (by decide) (t_X11_isIn l E a1 1 99 M rfl) ?_
  have JXC3 : ((f_X11_isIn a1 1 99) = 0 ∨ ¬ ((M 156 7) ≤ 10)) → XM l E (RX11, "stalls", cX11_stalls, 5) (some .int) 2 22 [some (.ref 155), some (.int a1), none, none, none] [] M M' (some (.int r)) := fun C3 => by
    rw [if_pos C3] at h
    refine ex_iconst (-1) dX11_stalls_22 kI_m1 ?_
    cases h
    exact mx_reti .int dX11_stalls_23 ⟨rfl, rfl⟩
  have JYC3 : ¬ (((f_X11_isIn a1 1 99) = 0 ∨ ¬ ((M 156 7) ≤ 10))) → XM l E (RX11, "stalls", cX11_stalls, 5) (some .int) 2 35 [some (.ref 155), some (.int a1), none, none, none] [.int ((1 <<< ((M 156 7) &&& 31)) - 1)] M M' (some (.int r)) := fun C3 => by
    rw [if_neg C3] at h
    obtain ⟨x4, ex4, h⟩ := ltE h
    rw [← ex4]
    refine ex_istore_n (L2 := [some (.ref 155), some (.int a1), some (.int x4), none, none]) dX11_stalls_35 (by decide) rfl ?_
    refine ex_aload_n dX11_stalls_36 rfl ?_
    refine mx_getr 11 167 dX11_stalls_37 fl_X11_47 oc_at_155 (rf_11_28 oc_at_155) ?_
    refine ex_iconst 0 dX11_stalls_40 kI_0 ?_
    refine ex_iconst 0 dX11_stalls_41 kI_0 ?_
    obtain ⟨M5, eM5, h⟩ := ltE h
    refine mx_iast M5 dX11_stalls_42 ((wrc_167_0 _ _).trans (congrArg some eM5.symm)) ?_
    refine ex_iconst 1 dX11_stalls_43 kI_1 ?_
    refine ex_istore_n (L2 := [some (.ref 155), some (.int a1), some (.int x4), some (.int 1), none]) dX11_stalls_44 (by decide) rfl ?_
    refine ex_mskL [true, true, true, true, false] (L2 := [some (.ref 155), some (.int a1), some (.int x4), some (.int 1), none]) rfl ?_
    obtain ⟨q19, hlq19, h⟩ := b1E h
    have hx : XM l E (RX11, "stalls", cX11_stalls, 5) (some .int) 2 122 [some (.ref 155), none, some (.int x4), none, none] [] q19 M' (some (.int r)) := by
      refine ex_aload_n dX11_stalls_122 rfl ?_
      refine mx_getr 11 167 dX11_stalls_123 fl_X11_47 oc_at_155 (rf_11_28 oc_at_155) ?_
      refine ex_iload_n dX11_stalls_126 rfl ?_
      obtain ⟨x20, qx20, h⟩ := b1E h
      refine mx_iald x20 dX11_stalls_127 qx20 ?_
      refine ex_ldcw 100000 dX11_stalls_128 (tb (i := 1829) (by decide +kernel)) ?_
      refine ex_icmp_lt 138 dX11_stalls_131 (by decide) (fun c21 => ?_) (fun c21 => ?_)
      · rw [if_pos c21] at h
        refine ex_aload_n dX11_stalls_138 rfl ?_
        refine mx_getr 11 167 dX11_stalls_139 fl_X11_47 oc_at_155 (rf_11_28 oc_at_155) ?_
        refine ex_iload_n dX11_stalls_142 rfl ?_
        obtain ⟨x22, qx22, h⟩ := b1E h
        refine mx_iald x22 dX11_stalls_143 qx22 ?_
        cases h
        exact mx_reti .int dX11_stalls_144 ⟨rfl, rfl⟩
      · rw [if_neg c21] at h
        refine ex_iconst (-1) dX11_stalls_134 kI_m1 ?_
        refine ex_goto 144 dX11_stalls_135 (by decide) ?_
        cases h
        exact mx_reti .int dX11_stalls_144 ⟨rfl, rfl⟩
    clear h
    have key : ∀ (k : Nat) (s : Int32 × Mem), lp (fun s => w_X11_stalls_45 a1 x4 s.1 s.2) k s = some q19 → XM l E (RX11, "stalls", cX11_stalls, 5) (some .int) 2 45 [some (.ref 155), some (.int a1), some (.int x4), some (.int s.1), none] [] s.2 M' (some (.int r)) := lp_ind (P := fun (s : Int32 × Mem) => XM l E (RX11, "stalls", cX11_stalls, 5) (some .int) 2 45 [some (.ref 155), some (.int a1), some (.int x4), some (.int s.1), none] [] s.2 M' (some (.int r))) (fun s t hb hk he => by
      obtain ⟨i6, M7⟩ := s
      show XM l E (RX11, "stalls", cX11_stalls, 5) (some .int) 2 45 [some (.ref 155), some (.int a1), some (.int x4), some (.int i6), none] [] M7 M' (some (.int r))
      change w_X11_stalls_45 a1 x4 i6 M7 = some t at hb
      unfold w_X11_stalls_45 at hb
      refine ex_iload_n dX11_stalls_45 rfl ?_
      refine ex_iload_n dX11_stalls_46 rfl ?_
      refine ex_icmp_gt 122 dX11_stalls_47 (by decide) (fun c8 => ?_) (fun c8 => ?_)
      · rw [if_pos c8] at hb
        refine ex_mskL [true, false, true, false, false] (L2 := [some (.ref 155), none, some (.int x4), none, none]) rfl ?_
        cases hb
        cases (he _ rfl) <;> exact hx
      · rw [if_neg c8] at hb
        refine ex_aload_n dX11_stalls_50 rfl ?_
        refine mx_getr 11 167 dX11_stalls_51 fl_X11_47 oc_at_155 (rf_11_28 oc_at_155) ?_
        refine ex_iload_n dX11_stalls_54 rfl ?_
        refine ex_ldcw 100000 dX11_stalls_55 (tb (i := 1829) (by decide +kernel)) ?_
        obtain ⟨M9, qM9, hb⟩ := b1E hb
        refine mx_iast M9 dX11_stalls_58 qM9 ?_
        refine ex_iload_n dX11_stalls_59 rfl ?_
        refine ex_istore (L2 := [some (.ref 155), some (.int a1), some (.int x4), some (.int i6), some (.int i6)]) dX11_stalls_60 (by decide) rfl ?_
        refine ex_mskL [true, true, true, true, true] (L2 := [some (.ref 155), some (.int a1), some (.int x4), some (.int i6), some (.int i6)]) rfl ?_
        obtain ⟨q18, hlq18, hb⟩ := b1E hb
        have hx : XM l E (RX11, "stalls", cX11_stalls, 5) (some .int) 2 116 [some (.ref 155), some (.int a1), some (.int x4), some (.int i6), none] [] q18 M' (some (.int r)) := by
          refine ex_iinc 1 (L2 := [some (.ref 155), some (.int a1), some (.int x4), some (.int (i6 + 1)), none]) dX11_stalls_116 rfl kI_1 (by decide) rfl ?_
          refine ex_goto 45 dX11_stalls_119 (by decide) ?_
          refine ex_mskL [true, true, true, true, false] (L2 := [some (.ref 155), some (.int a1), some (.int x4), some (.int (i6 + 1)), none]) rfl ?_
          cases hb
          exact hk ((i6 + 1), q18) rfl
        clear hb
        have key : ∀ (k : Nat) (s : Int32 × Mem), lp (fun s => w_X11_stalls_62 a1 i6 s.1 s.2) k s = some q18 → XM l E (RX11, "stalls", cX11_stalls, 5) (some .int) 2 62 [some (.ref 155), some (.int a1), some (.int x4), some (.int i6), some (.int s.1)] [] s.2 M' (some (.int r)) := lp_ind (P := fun (s : Int32 × Mem) => XM l E (RX11, "stalls", cX11_stalls, 5) (some .int) 2 62 [some (.ref 155), some (.int a1), some (.int x4), some (.int i6), some (.int s.1)] [] s.2 M' (some (.int r))) (fun s t hb hk he => by
          obtain ⟨i10, M11⟩ := s
          show XM l E (RX11, "stalls", cX11_stalls, 5) (some .int) 2 62 [some (.ref 155), some (.int a1), some (.int x4), some (.int i6), some (.int i10)] [] M11 M' (some (.int r))
          change w_X11_stalls_62 a1 i6 i10 M11 = some t at hb
          unfold w_X11_stalls_62 at hb
          refine ex_iload dX11_stalls_62 rfl ?_
          refine ex_if_le 116 dX11_stalls_64 (by decide) (fun c12 => ?_) (fun c12 => ?_)
          · rw [if_pos c12] at hb
            refine ex_mskL [true, true, true, true, false] (L2 := [some (.ref 155), some (.int a1), some (.int x4), some (.int i6), none]) rfl ?_
            cases hb
            cases (he _ rfl) <;> exact hx
          · rw [if_neg c12] at hb
            refine ex_aload_n dX11_stalls_67 rfl ?_
            refine ex_iload dX11_stalls_68 rfl ?_
            obtain ⟨x13, qx13, hb⟩ := b1E hb
            refine mx_cVi [.int i10] [] 155 11 x13 dX11_stalls_70 cl_X11_348 im_X11_sumOf cy_X11_sumOf oc_at_155 rfl (Nat.le_of_ble_eq_true rfl) (by decide) (t_X11_sumOf l E i10 M11 qx13) ?_
            refine ex_iload_n dX11_stalls_73 rfl ?_
            refine ex_icmp_gt 105 dX11_stalls_74 (by decide) (fun c14 => ?_) (fun c14 => ?_)
            · rw [if_pos c14] at hb
              refine ex_iload dX11_stalls_105 rfl ?_
              refine ex_iconst 1 dX11_stalls_107 kI_1 ?_
              refine ex_isub dX11_stalls_108 ?_
              refine ex_iload_n dX11_stalls_109 rfl ?_
              refine ex_iand dX11_stalls_110 ?_
              refine ex_istore (L2 := [some (.ref 155), some (.int a1), some (.int x4), some (.int i6), some (.int ((i10 - 1) &&& i6))]) dX11_stalls_111 (by decide) rfl ?_
              refine ex_goto 62 dX11_stalls_113 (by decide) ?_
              refine ex_mskL [true, true, true, true, true] (L2 := [some (.ref 155), some (.int a1), some (.int x4), some (.int i6), some (.int ((i10 - 1) &&& i6))]) rfl ?_
              cases hb
              exact hk (((i10 - 1) &&& i6), M11) rfl
            · rw [if_neg c14] at hb
              refine ex_aload_n dX11_stalls_77 rfl ?_
              refine mx_getr 11 167 dX11_stalls_78 fl_X11_47 oc_at_155 (rf_11_28 oc_at_155) ?_
              refine ex_iload_n dX11_stalls_81 rfl ?_
              refine ex_aload_n dX11_stalls_82 rfl ?_
              refine mx_getr 11 167 dX11_stalls_83 fl_X11_47 oc_at_155 (rf_11_28 oc_at_155) ?_
              refine ex_iload_n dX11_stalls_86 rfl ?_
              obtain ⟨x15, qx15, hb⟩ := b1E hb
              refine mx_iald x15 dX11_stalls_87 qx15 ?_
              refine ex_iconst 1 dX11_stalls_88 kI_1 ?_
              refine ex_aload_n dX11_stalls_89 rfl ?_
              refine mx_getr 11 167 dX11_stalls_90 fl_X11_47 oc_at_155 (rf_11_28 oc_at_155) ?_
              refine ex_iload_n dX11_stalls_93 rfl ?_
              refine ex_iload dX11_stalls_94 rfl ?_
              refine ex_iconst (-1) dX11_stalls_96 kI_m1 ?_
              refine ex_ixor dX11_stalls_97 ?_
              refine ex_iand dX11_stalls_98 ?_
              obtain ⟨x16, qx16, hb⟩ := b1E hb
              refine mx_iald x16 dX11_stalls_99 qx16 ?_
              refine ex_iadd dX11_stalls_100 ?_
              refine mx_cSi [.int x15, .int (1 + x16)] [.int i6, .ref 167] (f_X11_lesser x15 (1 + x16)) dX11_stalls_101 cl_X11_288 sm_X11_lesser rfl (Nat.le_of_ble_eq_true rfl) (by decide) (t_X11_lesser l E x15 (1 + x16) M11 rfl) ?_
              obtain ⟨M17, qM17, hb⟩ := b1E hb
              refine mx_iast M17 dX11_stalls_104 qM17 ?_
              refine ex_iload dX11_stalls_105 rfl ?_
              refine ex_iconst 1 dX11_stalls_107 kI_1 ?_
              refine ex_isub dX11_stalls_108 ?_
              refine ex_iload_n dX11_stalls_109 rfl ?_
              refine ex_iand dX11_stalls_110 ?_
              refine ex_istore (L2 := [some (.ref 155), some (.int a1), some (.int x4), some (.int i6), some (.int ((i10 - 1) &&& i6))]) dX11_stalls_111 (by decide) rfl ?_
              refine ex_goto 62 dX11_stalls_113 (by decide) ?_
              refine ex_mskL [true, true, true, true, true] (L2 := [some (.ref 155), some (.int a1), some (.int x4), some (.int i6), some (.int ((i10 - 1) &&& i6))]) rfl ?_
              cases hb
              exact hk (((i10 - 1) &&& i6), M17) rfl)
        exact key FU (i6, M9) hlq18)
    exact key FU (1, M5) hlq19
  clear h
  refine ex_if_eq 22 dX11_stalls_7 (by decide) (fun c1 => ?_) (fun c1 => ?_)
  · exact JXC3 (Or.inl c1)
  · refine ex_aload_n dX11_stalls_10 rfl ?_
    refine mx_getr 11 156 dX11_stalls_11 fl_X11_7 oc_at_155 (rf_11_0 oc_at_155) ?_
    refine ex_bipush 7 dX11_stalls_14 kB_7 ?_
    refine mx_iald (M 156 7) dX11_stalls_16 (rdc_156_7 _) ?_
    refine ex_bipush 10 dX11_stalls_17 kB_10 ?_
    refine ex_icmp_le 24 dX11_stalls_19 (by decide) (fun c2 => ?_) (fun c2 => ?_)
    · refine ex_iconst 1 dX11_stalls_24 kI_1 ?_
      refine ex_aload_n dX11_stalls_25 rfl ?_
      refine mx_getr 11 156 dX11_stalls_26 fl_X11_7 oc_at_155 (rf_11_0 oc_at_155) ?_
      refine ex_bipush 7 dX11_stalls_29 kB_7 ?_
      refine mx_iald (M 156 7) dX11_stalls_31 (rdc_156_7 _) ?_
      refine ex_ishl dX11_stalls_32 ?_
      refine ex_iconst 1 dX11_stalls_33 kI_1 ?_
      refine ex_isub dX11_stalls_34 ?_
      exact JYC3 (fun z => z.elim c1 (fun z => z c2))
    · exact JXC3 (Or.inr c2)
def f_X11_test (a1 : Int32) (a2 : Int32) (M : Mem) : Option (Mem × Int32) :=
  if a1 = (-1) then (lt (up2 M 156 88 0) fun M9 => some (M9, 0)) else (if ((f_X11_isIn a1 1 999) = 0 ∨ ((f_X11_isIn a2 1 999) = 0 ∨ (M 156 88) = 6)) then (some (M, (-1))) else (b1 (wr M 156 (319 + (2 * (M 156 88))) a1) fun M6 => b1 (wr M6 156 ((319 + (2 * (M6 156 88))) + 1) a2) fun M7 => lt (up2 M7 156 88 ((M7 156 88) + 1)) fun M8 => some (M8, (M8 156 88))))
set_option maxRecDepth 100000 in
set_option maxHeartbeats 4000000 in
theorem t_X11_test (l : Launch) (E : EV) (a1 : Int32) (a2 : Int32) (M : Mem) {M' : Mem} {r : Int32} (h : f_X11_test a1 a2 M = some (M', r)) : RunM l E yX11_test cX11_test 3 (some .int) 1 [.ref 155, .int a1, .int a2] M M' (some (.int r)) := by
  refine RunM.of (by decide) (Nat.le_of_ble_eq_true rfl) ?_
  show XM l E (RX11, "test", cX11_test, 3) (some .int) 1 0 [some (.ref 155), some (.int a1), some (.int a2)] [] M M' (some (.int r))
  unfold f_X11_test at h
  refine ex_iload_n dX11_test_0 rfl ?_
  refine ex_iconst (-1) dX11_test_1 kI_m1 ?_
  refine ex_icmp_ne 15 dX11_test_2 (by decide) (fun c1 => ?_) (fun c1 => ?_)
  · rw [if_neg c1] at h
    refine ex_iload_n dX11_test_15 rfl ?_
    refine ex_iconst 1 dX11_test_16 kI_1 ?_
    refine ex_sipush 999 dX11_test_17 kS_999 ?_
    refine mx_cSi [.int a1, .int 1, .int 999] [] (f_X11_isIn a1 1 999) dX11_test_20 cl_X11_53 sm_X11_isIn rfl (Nat.le_of_ble_eq_true rfl) (by decide) (t_X11_isIn l E a1 1 999 M rfl) ?_
    have JXC5 : ((f_X11_isIn a1 1 999) = 0 ∨ ((f_X11_isIn a2 1 999) = 0 ∨ (M 156 88) = 6)) → XM l E (RX11, "test", cX11_test, 3) (some .int) 1 49 [some (.ref 155), some (.int a1), some (.int a2)] [] M M' (some (.int r)) := fun C5 => by
      rw [if_pos C5] at h
      refine ex_iconst (-1) dX11_test_49 kI_m1 ?_
      cases h
      exact mx_reti .int dX11_test_50 ⟨rfl, rfl⟩
    have JYC5 : ¬ (((f_X11_isIn a1 1 999) = 0 ∨ ((f_X11_isIn a2 1 999) = 0 ∨ (M 156 88) = 6))) → XM l E (RX11, "test", cX11_test, 3) (some .int) 1 69 [some (.ref 155), some (.int a1), some (.int a2)] [.int a1, .int (319 + (2 * (M 156 88))), .ref 156] M M' (some (.int r)) := fun C5 => by
      rw [if_neg C5] at h
      obtain ⟨M6, qM6, h⟩ := b1E h
      refine mx_iast M6 dX11_test_69 qM6 ?_
      refine ex_aload_n dX11_test_70 rfl ?_
      refine mx_getr 11 156 dX11_test_71 fl_X11_7 oc_at_155 (rf_11_0 oc_at_155) ?_
      refine ex_sipush 319 dX11_test_74 kS_319 ?_
      refine ex_iconst 2 dX11_test_77 kI_2 ?_
      refine ex_aload_n dX11_test_78 rfl ?_
      refine mx_getr 11 156 dX11_test_79 fl_X11_7 oc_at_155 (rf_11_0 oc_at_155) ?_
      refine ex_bipush 88 dX11_test_82 kB_88 ?_
      refine mx_iald (M6 156 88) dX11_test_84 (rdc_156_88 _) ?_
      refine ex_imul dX11_test_85 ?_
      refine ex_iadd dX11_test_86 ?_
      refine ex_iconst 1 dX11_test_87 kI_1 ?_
      refine ex_iadd dX11_test_88 ?_
      refine ex_iload_n dX11_test_89 rfl ?_
      obtain ⟨M7, qM7, h⟩ := b1E h
      refine mx_iast M7 dX11_test_90 qM7 ?_
      refine ex_aload_n dX11_test_91 rfl ?_
      refine mx_getr 11 156 dX11_test_92 fl_X11_7 oc_at_155 (rf_11_0 oc_at_155) ?_
      refine ex_bipush 88 dX11_test_95 kB_88 ?_
      refine ex_dup2 dX11_test_97 rfl rfl ?_
      refine mx_iald (M7 156 88) dX11_test_98 (rdc_156_88 _) ?_
      refine ex_iconst 1 dX11_test_99 kI_1 ?_
      refine ex_iadd dX11_test_100 ?_
      obtain ⟨M8, eM8, h⟩ := ltE h
      refine mx_iast M8 dX11_test_101 ((wrc_156_88 _ _).trans (congrArg some eM8.symm)) ?_
      refine ex_aload_n dX11_test_102 rfl ?_
      refine mx_getr 11 156 dX11_test_103 fl_X11_7 oc_at_155 (rf_11_0 oc_at_155) ?_
      refine ex_bipush 88 dX11_test_106 kB_88 ?_
      refine mx_iald (M8 156 88) dX11_test_108 (rdc_156_88 _) ?_
      cases h
      exact mx_reti .int dX11_test_109 ⟨rfl, rfl⟩
    clear h
    refine ex_if_eq 49 dX11_test_23 (by decide) (fun c2 => ?_) (fun c2 => ?_)
    · exact JXC5 (Or.inl c2)
    · refine ex_iload_n dX11_test_26 rfl ?_
      refine ex_iconst 1 dX11_test_27 kI_1 ?_
      refine ex_sipush 999 dX11_test_28 kS_999 ?_
      refine mx_cSi [.int a2, .int 1, .int 999] [] (f_X11_isIn a2 1 999) dX11_test_31 cl_X11_53 sm_X11_isIn rfl (Nat.le_of_ble_eq_true rfl) (by decide) (t_X11_isIn l E a2 1 999 M rfl) ?_
      refine ex_if_eq 49 dX11_test_34 (by decide) (fun c3 => ?_) (fun c3 => ?_)
      · exact JXC5 (Or.inr (Or.inl c3))
      · refine ex_aload_n dX11_test_37 rfl ?_
        refine mx_getr 11 156 dX11_test_38 fl_X11_7 oc_at_155 (rf_11_0 oc_at_155) ?_
        refine ex_bipush 88 dX11_test_41 kB_88 ?_
        refine mx_iald (M 156 88) dX11_test_43 (rdc_156_88 _) ?_
        refine ex_bipush 6 dX11_test_44 kB_6 ?_
        refine ex_icmp_ne 51 dX11_test_46 (by decide) (fun c4 => ?_) (fun c4 => ?_)
        · refine ex_aload_n dX11_test_51 rfl ?_
          refine mx_getr 11 156 dX11_test_52 fl_X11_7 oc_at_155 (rf_11_0 oc_at_155) ?_
          refine ex_sipush 319 dX11_test_55 kS_319 ?_
          refine ex_iconst 2 dX11_test_58 kI_2 ?_
          refine ex_aload_n dX11_test_59 rfl ?_
          refine mx_getr 11 156 dX11_test_60 fl_X11_7 oc_at_155 (rf_11_0 oc_at_155) ?_
          refine ex_bipush 88 dX11_test_63 kB_88 ?_
          refine mx_iald (M 156 88) dX11_test_65 (rdc_156_88 _) ?_
          refine ex_imul dX11_test_66 ?_
          refine ex_iadd dX11_test_67 ?_
          refine ex_iload_n dX11_test_68 rfl ?_
          exact JYC5 (fun z => z.elim c2 (fun z => z.elim c3 c4))
        · exact JXC5 (Or.inr (Or.inr c4))
  · rw [if_pos c1] at h
    refine ex_aload_n dX11_test_5 rfl ?_
    refine mx_getr 11 156 dX11_test_6 fl_X11_7 oc_at_155 (rf_11_0 oc_at_155) ?_
    refine ex_bipush 88 dX11_test_9 kB_88 ?_
    refine ex_iconst 0 dX11_test_11 kI_0 ?_
    obtain ⟨M9, eM9, h⟩ := ltE h
    refine mx_iast M9 dX11_test_12 ((wrc_156_88 _ _).trans (congrArg some eM9.symm)) ?_
    refine ex_iconst 0 dX11_test_13 kI_0 ?_
    cases h
    exact mx_reti .int dX11_test_14 ⟨rfl, rfl⟩
def f_X11_byTest (a1 : Int64) (a2 : Int32) (a3 : Int32) (M : Mem) : Option (Int64) :=
  if a3 = 0 then (b1 (rd M 156 (319 + (2 * a2))) fun x2 => if a3 = 0 then (b1 (rd M 156 ((319 + (2 * a2)) + 1)) fun x4 => if ((a1 * (1000 - x4).toInt64) + (((1000000 : Int64) - a1) * (1000 - x2).toInt64)) = 0 then none else some (((1000000 : Int64) * (a1 * (1000 - x4).toInt64)) / ((a1 * (1000 - x4).toInt64) + (((1000000 : Int64) - a1) * (1000 - x2).toInt64)))) else (b1 (rd M 156 ((319 + (2 * a2)) + 1)) fun x6 => if ((a1 * x6.toInt64) + (((1000000 : Int64) - a1) * (1000 - x2).toInt64)) = 0 then none else some (((1000000 : Int64) * (a1 * x6.toInt64)) / ((a1 * x6.toInt64) + (((1000000 : Int64) - a1) * (1000 - x2).toInt64))))) else (b1 (rd M 156 (319 + (2 * a2))) fun x8 => if a3 = 0 then (b1 (rd M 156 ((319 + (2 * a2)) + 1)) fun x10 => if ((a1 * (1000 - x10).toInt64) + (((1000000 : Int64) - a1) * x8.toInt64)) = 0 then none else some (((1000000 : Int64) * (a1 * (1000 - x10).toInt64)) / ((a1 * (1000 - x10).toInt64) + (((1000000 : Int64) - a1) * x8.toInt64)))) else (b1 (rd M 156 ((319 + (2 * a2)) + 1)) fun x12 => if ((a1 * x12.toInt64) + (((1000000 : Int64) - a1) * x8.toInt64)) = 0 then none else some (((1000000 : Int64) * (a1 * x12.toInt64)) / ((a1 * x12.toInt64) + (((1000000 : Int64) - a1) * x8.toInt64)))))
set_option maxRecDepth 100000 in
set_option maxHeartbeats 4000000 in
theorem t_X11_byTest (l : Launch) (E : EV) (a1 : Int64) (a2 : Int32) (a3 : Int32) (M : Mem) {r : Int64} (h : f_X11_byTest a1 a2 a3 M = some r) : RunM l E yX11_byTest cX11_byTest 9 (some .long) 0 [.ref 155, .long a1, .int a2, .int a3] M M (some (.long r)) := by
  refine RunM.of (by decide) (Nat.le_of_ble_eq_true rfl) ?_
  show XM l E (RX11, "byTest", cX11_byTest, 9) (some .long) 0 0 [some (.ref 155), some (.long a1), none, some (.int a2), some (.int a3), none, none, none, none] [] M M (some (.long r))
  unfold f_X11_byTest at h
  refine ex_iload dX11_byTest_0 rfl ?_
  refine ex_if_eq 21 dX11_byTest_2 (by decide) (fun c1 => ?_) (fun c1 => ?_)
  · rw [if_pos c1] at h
    refine ex_sipush 1000 dX11_byTest_21 kS_1000 ?_
    refine ex_aload_n dX11_byTest_24 rfl ?_
    refine mx_getr 11 156 dX11_byTest_25 fl_X11_7 oc_at_155 (rf_11_0 oc_at_155) ?_
    refine ex_sipush 319 dX11_byTest_28 kS_319 ?_
    refine ex_iconst 2 dX11_byTest_31 kI_2 ?_
    refine ex_iload_n dX11_byTest_32 rfl ?_
    refine ex_imul dX11_byTest_33 ?_
    refine ex_iadd dX11_byTest_34 ?_
    obtain ⟨x2, qx2, h⟩ := b1E h
    refine mx_iald x2 dX11_byTest_35 qx2 ?_
    refine ex_isub dX11_byTest_36 ?_
    refine ex_i2l dX11_byTest_37 ?_
    refine ex_lstore (L2 := [some (.ref 155), some (.long a1), none, some (.int a2), some (.int a3), some (.long (1000 - x2).toInt64), none, none, none]) dX11_byTest_38 (by decide) rfl ?_
    refine ex_iload dX11_byTest_40 rfl ?_
    refine ex_if_eq 63 dX11_byTest_42 (by decide) (fun c3 => ?_) (fun c3 => ?_)
    · rw [if_pos c3] at h
      refine ex_sipush 1000 dX11_byTest_63 kS_1000 ?_
      refine ex_aload_n dX11_byTest_66 rfl ?_
      refine mx_getr 11 156 dX11_byTest_67 fl_X11_7 oc_at_155 (rf_11_0 oc_at_155) ?_
      refine ex_sipush 319 dX11_byTest_70 kS_319 ?_
      refine ex_iconst 2 dX11_byTest_73 kI_2 ?_
      refine ex_iload_n dX11_byTest_74 rfl ?_
      refine ex_imul dX11_byTest_75 ?_
      refine ex_iadd dX11_byTest_76 ?_
      refine ex_iconst 1 dX11_byTest_77 kI_1 ?_
      refine ex_iadd dX11_byTest_78 ?_
      obtain ⟨x4, qx4, h⟩ := b1E h
      refine mx_iald x4 dX11_byTest_79 qx4 ?_
      refine ex_isub dX11_byTest_80 ?_
      refine ex_i2l dX11_byTest_81 ?_
      refine ex_lstore (L2 := [some (.ref 155), some (.long a1), none, some (.int a2), some (.int a3), some (.long (1000 - x2).toInt64), none, some (.long (1000 - x4).toInt64), none]) dX11_byTest_82 (by decide) rfl ?_
      refine ex_ldc2 1000000 dX11_byTest_84 (tb (i := 1851) (by decide +kernel)) ?_
      refine ex_lload_n dX11_byTest_87 rfl ?_
      refine ex_lload dX11_byTest_88 rfl ?_
      refine ex_lmul dX11_byTest_90 ?_
      refine ex_lmul dX11_byTest_91 ?_
      refine ex_lload_n dX11_byTest_92 rfl ?_
      refine ex_lload dX11_byTest_93 rfl ?_
      refine ex_lmul dX11_byTest_95 ?_
      refine ex_ldc2 1000000 dX11_byTest_96 (tb (i := 1851) (by decide +kernel)) ?_
      refine ex_lload_n dX11_byTest_99 rfl ?_
      refine ex_lsub dX11_byTest_100 ?_
      refine ex_lload dX11_byTest_101 rfl ?_
      refine ex_lmul dX11_byTest_103 ?_
      refine ex_ladd dX11_byTest_104 ?_
      by_cases c5 : ((a1 * (1000 - x4).toInt64) + (((1000000 : Int64) - a1) * (1000 - x2).toInt64)) = 0
      · rw [if_pos c5] at h; cases h
      rw [if_neg c5] at h
      refine ex_ldiv dX11_byTest_105 c5 ?_
      cases h
      exact mx_retl dX11_byTest_106 rfl
    · rw [if_neg c3] at h
      refine ex_aload_n dX11_byTest_45 rfl ?_
      refine mx_getr 11 156 dX11_byTest_46 fl_X11_7 oc_at_155 (rf_11_0 oc_at_155) ?_
      refine ex_sipush 319 dX11_byTest_49 kS_319 ?_
      refine ex_iconst 2 dX11_byTest_52 kI_2 ?_
      refine ex_iload_n dX11_byTest_53 rfl ?_
      refine ex_imul dX11_byTest_54 ?_
      refine ex_iadd dX11_byTest_55 ?_
      refine ex_iconst 1 dX11_byTest_56 kI_1 ?_
      refine ex_iadd dX11_byTest_57 ?_
      obtain ⟨x6, qx6, h⟩ := b1E h
      refine mx_iald x6 dX11_byTest_58 qx6 ?_
      refine ex_i2l dX11_byTest_59 ?_
      refine ex_goto 82 dX11_byTest_60 (by decide) ?_
      refine ex_lstore (L2 := [some (.ref 155), some (.long a1), none, some (.int a2), some (.int a3), some (.long (1000 - x2).toInt64), none, some (.long x6.toInt64), none]) dX11_byTest_82 (by decide) rfl ?_
      refine ex_ldc2 1000000 dX11_byTest_84 (tb (i := 1851) (by decide +kernel)) ?_
      refine ex_lload_n dX11_byTest_87 rfl ?_
      refine ex_lload dX11_byTest_88 rfl ?_
      refine ex_lmul dX11_byTest_90 ?_
      refine ex_lmul dX11_byTest_91 ?_
      refine ex_lload_n dX11_byTest_92 rfl ?_
      refine ex_lload dX11_byTest_93 rfl ?_
      refine ex_lmul dX11_byTest_95 ?_
      refine ex_ldc2 1000000 dX11_byTest_96 (tb (i := 1851) (by decide +kernel)) ?_
      refine ex_lload_n dX11_byTest_99 rfl ?_
      refine ex_lsub dX11_byTest_100 ?_
      refine ex_lload dX11_byTest_101 rfl ?_
      refine ex_lmul dX11_byTest_103 ?_
      refine ex_ladd dX11_byTest_104 ?_
      by_cases c7 : ((a1 * x6.toInt64) + (((1000000 : Int64) - a1) * (1000 - x2).toInt64)) = 0
      · rw [if_pos c7] at h; cases h
      rw [if_neg c7] at h
      refine ex_ldiv dX11_byTest_105 c7 ?_
      cases h
      exact mx_retl dX11_byTest_106 rfl
  · rw [if_neg c1] at h
    refine ex_aload_n dX11_byTest_5 rfl ?_
    refine mx_getr 11 156 dX11_byTest_6 fl_X11_7 oc_at_155 (rf_11_0 oc_at_155) ?_
    refine ex_sipush 319 dX11_byTest_9 kS_319 ?_
    refine ex_iconst 2 dX11_byTest_12 kI_2 ?_
    refine ex_iload_n dX11_byTest_13 rfl ?_
    refine ex_imul dX11_byTest_14 ?_
    refine ex_iadd dX11_byTest_15 ?_
    obtain ⟨x8, qx8, h⟩ := b1E h
    refine mx_iald x8 dX11_byTest_16 qx8 ?_
    refine ex_i2l dX11_byTest_17 ?_
    refine ex_goto 38 dX11_byTest_18 (by decide) ?_
    refine ex_lstore (L2 := [some (.ref 155), some (.long a1), none, some (.int a2), some (.int a3), some (.long x8.toInt64), none, none, none]) dX11_byTest_38 (by decide) rfl ?_
    refine ex_iload dX11_byTest_40 rfl ?_
    refine ex_if_eq 63 dX11_byTest_42 (by decide) (fun c9 => ?_) (fun c9 => ?_)
    · rw [if_pos c9] at h
      refine ex_sipush 1000 dX11_byTest_63 kS_1000 ?_
      refine ex_aload_n dX11_byTest_66 rfl ?_
      refine mx_getr 11 156 dX11_byTest_67 fl_X11_7 oc_at_155 (rf_11_0 oc_at_155) ?_
      refine ex_sipush 319 dX11_byTest_70 kS_319 ?_
      refine ex_iconst 2 dX11_byTest_73 kI_2 ?_
      refine ex_iload_n dX11_byTest_74 rfl ?_
      refine ex_imul dX11_byTest_75 ?_
      refine ex_iadd dX11_byTest_76 ?_
      refine ex_iconst 1 dX11_byTest_77 kI_1 ?_
      refine ex_iadd dX11_byTest_78 ?_
      obtain ⟨x10, qx10, h⟩ := b1E h
      refine mx_iald x10 dX11_byTest_79 qx10 ?_
      refine ex_isub dX11_byTest_80 ?_
      refine ex_i2l dX11_byTest_81 ?_
      refine ex_lstore (L2 := [some (.ref 155), some (.long a1), none, some (.int a2), some (.int a3), some (.long x8.toInt64), none, some (.long (1000 - x10).toInt64), none]) dX11_byTest_82 (by decide) rfl ?_
      refine ex_ldc2 1000000 dX11_byTest_84 (tb (i := 1851) (by decide +kernel)) ?_
      refine ex_lload_n dX11_byTest_87 rfl ?_
      refine ex_lload dX11_byTest_88 rfl ?_
      refine ex_lmul dX11_byTest_90 ?_
      refine ex_lmul dX11_byTest_91 ?_
      refine ex_lload_n dX11_byTest_92 rfl ?_
      refine ex_lload dX11_byTest_93 rfl ?_
      refine ex_lmul dX11_byTest_95 ?_
      refine ex_ldc2 1000000 dX11_byTest_96 (tb (i := 1851) (by decide +kernel)) ?_
      refine ex_lload_n dX11_byTest_99 rfl ?_
      refine ex_lsub dX11_byTest_100 ?_
      refine ex_lload dX11_byTest_101 rfl ?_
      refine ex_lmul dX11_byTest_103 ?_
      refine ex_ladd dX11_byTest_104 ?_
      by_cases c11 : ((a1 * (1000 - x10).toInt64) + (((1000000 : Int64) - a1) * x8.toInt64)) = 0
      · rw [if_pos c11] at h; cases h
      rw [if_neg c11] at h
      refine ex_ldiv dX11_byTest_105 c11 ?_
      cases h
      exact mx_retl dX11_byTest_106 rfl
    · rw [if_neg c9] at h
      refine ex_aload_n dX11_byTest_45 rfl ?_
      refine mx_getr 11 156 dX11_byTest_46 fl_X11_7 oc_at_155 (rf_11_0 oc_at_155) ?_
      refine ex_sipush 319 dX11_byTest_49 kS_319 ?_
      refine ex_iconst 2 dX11_byTest_52 kI_2 ?_
      refine ex_iload_n dX11_byTest_53 rfl ?_
      refine ex_imul dX11_byTest_54 ?_
      refine ex_iadd dX11_byTest_55 ?_
      refine ex_iconst 1 dX11_byTest_56 kI_1 ?_
      refine ex_iadd dX11_byTest_57 ?_
      obtain ⟨x12, qx12, h⟩ := b1E h
      refine mx_iald x12 dX11_byTest_58 qx12 ?_
      refine ex_i2l dX11_byTest_59 ?_
      refine ex_goto 82 dX11_byTest_60 (by decide) ?_
      refine ex_lstore (L2 := [some (.ref 155), some (.long a1), none, some (.int a2), some (.int a3), some (.long x8.toInt64), none, some (.long x12.toInt64), none]) dX11_byTest_82 (by decide) rfl ?_
      refine ex_ldc2 1000000 dX11_byTest_84 (tb (i := 1851) (by decide +kernel)) ?_
      refine ex_lload_n dX11_byTest_87 rfl ?_
      refine ex_lload dX11_byTest_88 rfl ?_
      refine ex_lmul dX11_byTest_90 ?_
      refine ex_lmul dX11_byTest_91 ?_
      refine ex_lload_n dX11_byTest_92 rfl ?_
      refine ex_lload dX11_byTest_93 rfl ?_
      refine ex_lmul dX11_byTest_95 ?_
      refine ex_ldc2 1000000 dX11_byTest_96 (tb (i := 1851) (by decide +kernel)) ?_
      refine ex_lload_n dX11_byTest_99 rfl ?_
      refine ex_lsub dX11_byTest_100 ?_
      refine ex_lload dX11_byTest_101 rfl ?_
      refine ex_lmul dX11_byTest_103 ?_
      refine ex_ladd dX11_byTest_104 ?_
      by_cases c13 : ((a1 * x12.toInt64) + (((1000000 : Int64) - a1) * x8.toInt64)) = 0
      · rw [if_pos c13] at h; cases h
      rw [if_neg c13] at h
      refine ex_ldiv dX11_byTest_105 c13 ?_
      cases h
      exact mx_retl dX11_byTest_106 rfl
def f_X11_areTests (a1 : Int32) (M : Mem) : (Int32) :=
  (f_X11_isIn a1 0 ((1 <<< ((M 156 88) &&& 31)) - 1))
theorem z_X11_areTests (a1 : Int32) (M : Mem) : f_X11_areTests a1 M = 0 ∨ f_X11_areTests a1 M = 1 := by
  unfold f_X11_areTests
  (repeat' split) <;> first | exact Or.inl rfl | exact Or.inr rfl | exact z_X11_isIn _ _ _
set_option maxRecDepth 100000 in
set_option maxHeartbeats 4000000 in
theorem t_X11_areTests (l : Launch) (E : EV) (a1 : Int32) (M : Mem) {r : Int32} (h : f_X11_areTests a1 M = r) : RunM l E yX11_areTests cX11_areTests 2 (some .boolean) 1 [.ref 155, .int a1] M M (some (.int r)) := by
  refine RunM.of (by decide) (Nat.le_of_ble_eq_true rfl) ?_
  show XM l E (RX11, "areTests", cX11_areTests, 2) (some .boolean) 1 0 [some (.ref 155), some (.int a1)] [] M M (some (.int r))
  unfold f_X11_areTests at h
  refine ex_iload_n dX11_areTests_0 rfl ?_
  refine ex_iconst 0 dX11_areTests_1 kI_0 ?_
  refine ex_iconst 1 dX11_areTests_2 kI_1 ?_
  refine ex_aload_n dX11_areTests_3 rfl ?_
  refine mx_getr 11 156 dX11_areTests_4 fl_X11_7 oc_at_155 (rf_11_0 oc_at_155) ?_
  refine ex_bipush 88 dX11_areTests_7 kB_88 ?_
  refine mx_iald (M 156 88) dX11_areTests_9 (rdc_156_88 _) ?_
  refine ex_ishl dX11_areTests_10 ?_
  refine ex_iconst 1 dX11_areTests_11 kI_1 ?_
  refine ex_isub dX11_areTests_12 ?_
  refine mx_cSi [.int a1, .int 0, .int ((1 <<< ((M 156 88) &&& 31)) - 1)] [] (f_X11_isIn a1 0 ((1 <<< ((M 156 88) &&& 31)) - 1)) dX11_areTests_13 cl_X11_53 sm_X11_isIn rfl (Nat.le_of_ble_eq_true rfl) (by decide) (t_X11_isIn l E a1 0 ((1 <<< ((M 156 88) &&& 31)) - 1) M rfl) ?_
  subst h
  exact mx_reti .boolean dX11_areTests_16 ⟨rfl, nzB (z_X11_isIn _ _ _)⟩
def w_X11_forged_46 (a2 : Int32) (a3 : Int32) (M : Mem) (i7 : Int64) (i8 : Int32) : Option ((Int64 × Int32) ⊕ (Int64)) :=
  if (M 156 88) ≤ i8 then (some (.inr i7)) else (if (((a2 ||| a3) >>> (i8 &&& 31)) &&& 1) = 1 then (lt ((if ((a2 >>> (i8 &&& 31)) &&& 1) = 1 then 1 else 0) : Int32) fun x12 => b1 (f_X11_byTest i7 i8 x12 M) fun x13 => some (.inl (x13, (i8 + 1)))) else (some (.inl (i7, (i8 + 1)))))
def f_X11_forged (a1 : Int32) (a2 : Int32) (a3 : Int32) (M : Mem) : Option (Int32) :=
  if ((f_X11_isIn a1 0 1000) = 0 ∨ ((f_X11_areTests a2 M) = 0 ∨ ((f_X11_areTests a3 M) = 0 ∨ ¬ ((a2 &&& a3) = 0)))) then (some (-1)) else (lt ((1000 : Int64) * a1.toInt64) fun x6 => b1 (lp (fun s => w_X11_forged_46 a2 a3 M s.1 s.2) FU (x6, 0)) fun q14 => some q14.toInt32)
set_option maxRecDepth 100000 in
set_option maxHeartbeats 4000000 in
theorem t_X11_forged (l : Launch) (E : EV) (a1 : Int32) (a2 : Int32) (a3 : Int32) (M : Mem) {r : Int32} (h : f_X11_forged a1 a2 a3 M = some r) : RunM l E yX11_forged cX11_forged 7 (some .int) 2 [.ref 155, .int a1, .int a2, .int a3] M M (some (.int r)) := by
  refine RunM.of (by decide) (Nat.le_of_ble_eq_true rfl) ?_
  show XM l E (RX11, "forged", cX11_forged, 7) (some .int) 2 0 [some (.ref 155), some (.int a1), some (.int a2), some (.int a3), none, none, none] [] M M (some (.int r))
  unfold f_X11_forged at h
  refine ex_iload_n dX11_forged_0 rfl ?_
  refine ex_iconst 0 dX11_forged_1 kI_0 ?_
  refine ex_sipush 1000 dX11_forged_2 kS_1000 ?_
  refine mx_cSi [.int a1, .int 0, .int 1000] [] (f_X11_isIn a1 0 1000) dX11_forged_5 cl_X11_53 sm_X11_isIn rfl (Nat.le_of_ble_eq_true rfl) (by decide) (t_X11_isIn l E a1 0 1000 M rfl) ?_
  have JXC5 : ((f_X11_isIn a1 0 1000) = 0 ∨ ((f_X11_areTests a2 M) = 0 ∨ ((f_X11_areTests a3 M) = 0 ∨ ¬ ((a2 &&& a3) = 0)))) → XM l E (RX11, "forged", cX11_forged, 7) (some .int) 2 33 [some (.ref 155), some (.int a1), some (.int a2), some (.int a3), none, none, none] [] M M (some (.int r)) := fun C5 => by
    rw [if_pos C5] at h
    refine ex_iconst (-1) dX11_forged_33 kI_m1 ?_
    cases h
    exact mx_reti .int dX11_forged_34 ⟨rfl, rfl⟩
  have JYC5 : ¬ (((f_X11_isIn a1 0 1000) = 0 ∨ ((f_X11_areTests a2 M) = 0 ∨ ((f_X11_areTests a3 M) = 0 ∨ ¬ ((a2 &&& a3) = 0))))) → XM l E (RX11, "forged", cX11_forged, 7) (some .int) 2 41 [some (.ref 155), some (.int a1), some (.int a2), some (.int a3), none, none, none] [.long ((1000 : Int64) * a1.toInt64)] M M (some (.int r)) := fun C5 => by
    rw [if_neg C5] at h
    obtain ⟨x6, ex6, h⟩ := ltE h
    rw [← ex6]
    refine ex_lstore (L2 := [some (.ref 155), some (.int a1), some (.int a2), some (.int a3), some (.long x6), none, none]) dX11_forged_41 (by decide) rfl ?_
    refine ex_iconst 0 dX11_forged_43 kI_0 ?_
    refine ex_istore (L2 := [some (.ref 155), some (.int a1), some (.int a2), some (.int a3), some (.long x6), none, some (.int 0)]) dX11_forged_44 (by decide) rfl ?_
    refine ex_mskL [true, false, true, true, true, false, true] (L2 := [some (.ref 155), none, some (.int a2), some (.int a3), some (.long x6), none, some (.int 0)]) rfl ?_
    obtain ⟨q14, hlq14, h⟩ := b1E h
    have hx : XM l E (RX11, "forged", cX11_forged, 7) (some .int) 2 101 [none, none, none, none, some (.long q14), none, none] [] M M (some (.int r)) := by
      refine ex_lload dX11_forged_101 rfl ?_
      refine ex_l2i dX11_forged_103 ?_
      cases h
      exact mx_reti .int dX11_forged_104 ⟨rfl, rfl⟩
    clear h
    have key : ∀ (k : Nat) (s : Int64 × Int32), lp (fun s => w_X11_forged_46 a2 a3 M s.1 s.2) k s = some q14 → XM l E (RX11, "forged", cX11_forged, 7) (some .int) 2 46 [some (.ref 155), none, some (.int a2), some (.int a3), some (.long s.1), none, some (.int s.2)] [] M M (some (.int r)) := lp_ind (P := fun (s : Int64 × Int32) => XM l E (RX11, "forged", cX11_forged, 7) (some .int) 2 46 [some (.ref 155), none, some (.int a2), some (.int a3), some (.long s.1), none, some (.int s.2)] [] M M (some (.int r))) (fun s t hb hk he => by
      obtain ⟨i7, i8⟩ := s
      show XM l E (RX11, "forged", cX11_forged, 7) (some .int) 2 46 [some (.ref 155), none, some (.int a2), some (.int a3), some (.long i7), none, some (.int i8)] [] M M (some (.int r))
      change w_X11_forged_46 a2 a3 M i7 i8 = some t at hb
      unfold w_X11_forged_46 at hb
      refine ex_iload dX11_forged_46 rfl ?_
      refine ex_aload_n dX11_forged_48 rfl ?_
      refine mx_getr 11 156 dX11_forged_49 fl_X11_7 oc_at_155 (rf_11_0 oc_at_155) ?_
      refine ex_bipush 88 dX11_forged_52 kB_88 ?_
      refine mx_iald (M 156 88) dX11_forged_54 (rdc_156_88 _) ?_
      refine ex_icmp_ge 101 dX11_forged_55 (by decide) (fun c9 => ?_) (fun c9 => ?_)
      · rw [if_pos c9] at hb
        refine ex_mskL [false, false, false, false, true, false, false] (L2 := [none, none, none, none, some (.long i7), none, none]) rfl ?_
        cases hb
        cases (he _ rfl) <;> exact hx
      · rw [if_neg c9] at hb
        refine ex_iload_n dX11_forged_58 rfl ?_
        refine ex_iload_n dX11_forged_59 rfl ?_
        refine ex_ior dX11_forged_60 ?_
        refine ex_iload dX11_forged_61 rfl ?_
        refine ex_ishr dX11_forged_63 ?_
        refine ex_iconst 1 dX11_forged_64 kI_1 ?_
        refine ex_iand dX11_forged_65 ?_
        refine ex_iconst 1 dX11_forged_66 kI_1 ?_
        refine ex_icmp_ne 95 dX11_forged_67 (by decide) (fun c10 => ?_) (fun c10 => ?_)
        · rw [if_neg c10] at hb
          refine ex_iinc 1 (L2 := [some (.ref 155), none, some (.int a2), some (.int a3), some (.long i7), none, some (.int (i8 + 1))]) dX11_forged_95 rfl kI_1 (by decide) rfl ?_
          refine ex_goto 46 dX11_forged_98 (by decide) ?_
          refine ex_mskL [true, false, true, true, true, false, true] (L2 := [some (.ref 155), none, some (.int a2), some (.int a3), some (.long i7), none, some (.int (i8 + 1))]) rfl ?_
          cases hb
          exact hk (i7, (i8 + 1)) rfl
        · rw [if_pos c10] at hb
          refine ex_aload_n dX11_forged_70 rfl ?_
          refine ex_lload dX11_forged_71 rfl ?_
          refine ex_iload dX11_forged_73 rfl ?_
          refine ex_iload_n dX11_forged_75 rfl ?_
          refine ex_iload dX11_forged_76 rfl ?_
          refine ex_ishr dX11_forged_78 ?_
          refine ex_iconst 1 dX11_forged_79 kI_1 ?_
          refine ex_iand dX11_forged_80 ?_
          refine ex_iconst 1 dX11_forged_81 kI_1 ?_
          obtain ⟨x12, ex12, hb⟩ := ltE hb
          have Jx12 : XM l E (RX11, "forged", cX11_forged, 7) (some .int) 2 90 [some (.ref 155), none, some (.int a2), some (.int a3), some (.long i7), none, some (.int i8)] [.int x12, .int i8, .long i7, .ref 155] M M (some (.int r)) := by
            obtain ⟨x13, qx13, hb⟩ := b1E hb
            refine mx_cVl [.long i7, .int i8, .int x12] [] 155 11 x13 dX11_forged_90 cl_X11_418 im_X11_byTest cy_X11_byTest oc_at_155 rfl (Nat.le_of_ble_eq_true rfl) (by decide) (t_X11_byTest l E i7 i8 x12 M qx13) ?_
            refine ex_lstore (L2 := [some (.ref 155), none, some (.int a2), some (.int a3), some (.long x13), none, some (.int i8)]) dX11_forged_93 (by decide) rfl ?_
            refine ex_iinc 1 (L2 := [some (.ref 155), none, some (.int a2), some (.int a3), some (.long x13), none, some (.int (i8 + 1))]) dX11_forged_95 rfl kI_1 (by decide) rfl ?_
            refine ex_goto 46 dX11_forged_98 (by decide) ?_
            refine ex_mskL [true, false, true, true, true, false, true] (L2 := [some (.ref 155), none, some (.int a2), some (.int a3), some (.long x13), none, some (.int (i8 + 1))]) rfl ?_
            cases hb
            exact hk (x13, (i8 + 1)) rfl
          clear hb
          refine ex_icmp_ne 89 dX11_forged_82 (by decide) (fun c11 => ?_) (fun c11 => ?_)
          · rw [if_neg c11] at ex12
            refine ex_iconst 0 dX11_forged_89 kI_0 ?_
            subst ex12
            exact Jx12
          · rw [if_pos c11] at ex12
            refine ex_iconst 1 dX11_forged_85 kI_1 ?_
            refine ex_goto 90 dX11_forged_86 (by decide) ?_
            subst ex12
            exact Jx12)
    exact key FU (x6, 0) hlq14
  clear h
  refine ex_if_eq 33 dX11_forged_8 (by decide) (fun c1 => ?_) (fun c1 => ?_)
  · exact JXC5 (Or.inl c1)
  · refine ex_aload_n dX11_forged_11 rfl ?_
    refine ex_iload_n dX11_forged_12 rfl ?_
    refine mx_cVi [.int a2] [] 155 11 (f_X11_areTests a2 M) dX11_forged_13 cl_X11_413 im_X11_areTests cy_X11_areTests oc_at_155 rfl (Nat.le_of_ble_eq_true rfl) (by decide) (t_X11_areTests l E a2 M rfl) ?_
    refine ex_if_eq 33 dX11_forged_16 (by decide) (fun c2 => ?_) (fun c2 => ?_)
    · exact JXC5 (Or.inr (Or.inl c2))
    · refine ex_aload_n dX11_forged_19 rfl ?_
      refine ex_iload_n dX11_forged_20 rfl ?_
      refine mx_cVi [.int a3] [] 155 11 (f_X11_areTests a3 M) dX11_forged_21 cl_X11_413 im_X11_areTests cy_X11_areTests oc_at_155 rfl (Nat.le_of_ble_eq_true rfl) (by decide) (t_X11_areTests l E a3 M rfl) ?_
      refine ex_if_eq 33 dX11_forged_24 (by decide) (fun c3 => ?_) (fun c3 => ?_)
      · exact JXC5 (Or.inr (Or.inr (Or.inl c3)))
      · refine ex_iload_n dX11_forged_27 rfl ?_
        refine ex_iload_n dX11_forged_28 rfl ?_
        refine ex_iand dX11_forged_29 ?_
        refine ex_if_eq 35 dX11_forged_30 (by decide) (fun c4 => ?_) (fun c4 => ?_)
        · refine ex_ldc2 1000 dX11_forged_35 (tb (i := 1846) (by decide +kernel)) ?_
          refine ex_iload_n dX11_forged_38 rfl ?_
          refine ex_i2l dX11_forged_39 ?_
          refine ex_lmul dX11_forged_40 ?_
          exact JYC5 (fun z => z.elim c1 (fun z => z.elim c2 (fun z => z.elim c3 (fun z => z c4))))
        · exact JXC5 (Or.inr (Or.inr (Or.inr c4)))
def w_X11_lookAt_22 (a1 : Int32) (M : Mem) (i2 : Int32) (i3 : Int64) (i4 : Int32) : Option ((Int32 × Int64 × Int32) ⊕ (Int32)) :=
  if (M 156 88) ≤ i4 then (some (.inr i2)) else (b1 (f_X11_byTest ((1000 : Int64) * a1.toInt64) i4 1 M) fun x6 => b1 (f_X11_byTest ((1000 : Int64) * a1.toInt64) i4 0 M) fun x7 => if (lg_cmp x6 ((1000000 : Int64) - x7)) ≤ 0 then (if 0 < (lg_cmp ((1000000 : Int64) - x7) i3) then (some (.inl (i4, ((1000000 : Int64) - x7), (i4 + 1)))) else (some (.inl (i2, i3, (i4 + 1))))) else (if 0 < (lg_cmp x6 i3) then (some (.inl (i4, x6, (i4 + 1)))) else (some (.inl (i2, i3, (i4 + 1))))))
def f_X11_lookAt (a1 : Int32) (M : Mem) : Option (Int32) :=
  if (f_X11_isIn a1 0 1000) = 0 then (some (-1)) else (b1 (lp (fun s => w_X11_lookAt_22 a1 M s.1 s.2.1 s.2.2) FU ((-1), (-1), 0)) fun q11 => some q11)
set_option maxRecDepth 100000 in
set_option maxHeartbeats 4000000 in
theorem t_X11_lookAt (l : Launch) (E : EV) (a1 : Int32) (M : Mem) {r : Int32} (h : f_X11_lookAt a1 M = some r) : RunM l E yX11_lookAt cX11_lookAt 12 (some .int) 1 [.ref 155, .int a1] M M (some (.int r)) := by
  refine RunM.of (by decide) (Nat.le_of_ble_eq_true rfl) ?_
  show XM l E (RX11, "lookAt", cX11_lookAt, 12) (some .int) 1 0 [some (.ref 155), some (.int a1), none, none, none, none, none, none, none, none, none, none] [] M M (some (.int r))
  unfold f_X11_lookAt at h
  refine ex_iload_n dX11_lookAt_0 rfl ?_
  refine ex_iconst 0 dX11_lookAt_1 kI_0 ?_
  refine ex_sipush 1000 dX11_lookAt_2 kS_1000 ?_
  refine mx_cSi [.int a1, .int 0, .int 1000] [] (f_X11_isIn a1 0 1000) dX11_lookAt_5 cl_X11_53 sm_X11_isIn rfl (Nat.le_of_ble_eq_true rfl) (by decide) (t_X11_isIn l E a1 0 1000 M rfl) ?_
  refine ex_if_ne 13 dX11_lookAt_8 (by decide) (fun c1 => ?_) (fun c1 => ?_)
  · rw [if_neg c1] at h
    refine ex_iconst (-1) dX11_lookAt_13 kI_m1 ?_
    refine ex_istore_n (L2 := [some (.ref 155), some (.int a1), some (.int (-1)), none, none, none, none, none, none, none, none, none]) dX11_lookAt_14 (by decide) rfl ?_
    refine ex_ldc2 (-1) dX11_lookAt_15 (tb (i := 1856) (by decide +kernel)) ?_
    refine ex_lstore_n (L2 := [some (.ref 155), some (.int a1), some (.int (-1)), some (.long (-1)), none, none, none, none, none, none, none, none]) dX11_lookAt_18 (by decide) rfl ?_
    refine ex_iconst 0 dX11_lookAt_19 kI_0 ?_
    refine ex_istore (L2 := [some (.ref 155), some (.int a1), some (.int (-1)), some (.long (-1)), none, some (.int 0), none, none, none, none, none, none]) dX11_lookAt_20 (by decide) rfl ?_
    refine ex_mskL [true, true, true, true, false, true, false, false, false, false, false, false] (L2 := [some (.ref 155), some (.int a1), some (.int (-1)), some (.long (-1)), none, some (.int 0), none, none, none, none, none, none]) rfl ?_
    obtain ⟨q11, hlq11, h⟩ := b1E h
    have hx : XM l E (RX11, "lookAt", cX11_lookAt, 12) (some .int) 1 107 [none, none, some (.int q11), none, none, none, none, none, none, none, none, none] [] M M (some (.int r)) := by
      refine ex_iload_n dX11_lookAt_107 rfl ?_
      cases h
      exact mx_reti .int dX11_lookAt_108 ⟨rfl, rfl⟩
    clear h
    have key : ∀ (k : Nat) (s : Int32 × Int64 × Int32), lp (fun s => w_X11_lookAt_22 a1 M s.1 s.2.1 s.2.2) k s = some q11 → XM l E (RX11, "lookAt", cX11_lookAt, 12) (some .int) 1 22 [some (.ref 155), some (.int a1), some (.int s.1), some (.long s.2.1), none, some (.int s.2.2), none, none, none, none, none, none] [] M M (some (.int r)) := lp_ind (P := fun (s : Int32 × Int64 × Int32) => XM l E (RX11, "lookAt", cX11_lookAt, 12) (some .int) 1 22 [some (.ref 155), some (.int a1), some (.int s.1), some (.long s.2.1), none, some (.int s.2.2), none, none, none, none, none, none] [] M M (some (.int r))) (fun s t hb hk he => by
      obtain ⟨i2, i3, i4⟩ := s
      show XM l E (RX11, "lookAt", cX11_lookAt, 12) (some .int) 1 22 [some (.ref 155), some (.int a1), some (.int i2), some (.long i3), none, some (.int i4), none, none, none, none, none, none] [] M M (some (.int r))
      change w_X11_lookAt_22 a1 M i2 i3 i4 = some t at hb
      unfold w_X11_lookAt_22 at hb
      refine ex_iload dX11_lookAt_22 rfl ?_
      refine ex_aload_n dX11_lookAt_24 rfl ?_
      refine mx_getr 11 156 dX11_lookAt_25 fl_X11_7 oc_at_155 (rf_11_0 oc_at_155) ?_
      refine ex_bipush 88 dX11_lookAt_28 kB_88 ?_
      refine mx_iald (M 156 88) dX11_lookAt_30 (rdc_156_88 _) ?_
      refine ex_icmp_ge 107 dX11_lookAt_31 (by decide) (fun c5 => ?_) (fun c5 => ?_)
      · rw [if_pos c5] at hb
        refine ex_mskL [false, false, true, false, false, false, false, false, false, false, false, false] (L2 := [none, none, some (.int i2), none, none, none, none, none, none, none, none, none]) rfl ?_
        cases hb
        cases (he _ rfl) <;> exact hx
      · rw [if_neg c5] at hb
        refine ex_aload_n dX11_lookAt_34 rfl ?_
        refine ex_ldc2 1000 dX11_lookAt_35 (tb (i := 1846) (by decide +kernel)) ?_
        refine ex_iload_n dX11_lookAt_38 rfl ?_
        refine ex_i2l dX11_lookAt_39 ?_
        refine ex_lmul dX11_lookAt_40 ?_
        refine ex_iload dX11_lookAt_41 rfl ?_
        refine ex_iconst 1 dX11_lookAt_43 kI_1 ?_
        obtain ⟨x6, qx6, hb⟩ := b1E hb
        refine mx_cVl [.long ((1000 : Int64) * a1.toInt64), .int i4, .int 1] [] 155 11 x6 dX11_lookAt_44 cl_X11_418 im_X11_byTest cy_X11_byTest oc_at_155 rfl (Nat.le_of_ble_eq_true rfl) (by decide) (t_X11_byTest l E ((1000 : Int64) * a1.toInt64) i4 1 M qx6) ?_
        refine ex_lstore (L2 := [some (.ref 155), some (.int a1), some (.int i2), some (.long i3), none, some (.int i4), some (.long x6), none, none, none, none, none]) dX11_lookAt_47 (by decide) rfl ?_
        refine ex_ldc2 1000000 dX11_lookAt_49 (tb (i := 1851) (by decide +kernel)) ?_
        refine ex_aload_n dX11_lookAt_52 rfl ?_
        refine ex_ldc2 1000 dX11_lookAt_53 (tb (i := 1846) (by decide +kernel)) ?_
        refine ex_iload_n dX11_lookAt_56 rfl ?_
        refine ex_i2l dX11_lookAt_57 ?_
        refine ex_lmul dX11_lookAt_58 ?_
        refine ex_iload dX11_lookAt_59 rfl ?_
        refine ex_iconst 0 dX11_lookAt_61 kI_0 ?_
        obtain ⟨x7, qx7, hb⟩ := b1E hb
        refine mx_cVl [.long ((1000 : Int64) * a1.toInt64), .int i4, .int 0] [.long 1000000] 155 11 x7 dX11_lookAt_62 cl_X11_418 im_X11_byTest cy_X11_byTest oc_at_155 rfl (Nat.le_of_ble_eq_true rfl) (by decide) (t_X11_byTest l E ((1000 : Int64) * a1.toInt64) i4 0 M qx7) ?_
        refine ex_lsub dX11_lookAt_65 ?_
        refine ex_lstore (L2 := [some (.ref 155), some (.int a1), some (.int i2), some (.long i3), none, some (.int i4), some (.long x6), none, some (.long ((1000000 : Int64) - x7)), none, none, none]) dX11_lookAt_66 (by decide) rfl ?_
        refine ex_lload dX11_lookAt_68 rfl ?_
        refine ex_lload dX11_lookAt_70 rfl ?_
        refine ex_lcmp dX11_lookAt_72 ?_
        refine ex_if_le 81 dX11_lookAt_73 (by decide) (fun c8 => ?_) (fun c8 => ?_)
        · rw [if_pos c8] at hb
          refine ex_lload dX11_lookAt_81 rfl ?_
          refine ex_lstore (L2 := [some (.ref 155), some (.int a1), some (.int i2), some (.long i3), none, some (.int i4), some (.long x6), none, some (.long ((1000000 : Int64) - x7)), none, some (.long ((1000000 : Int64) - x7)), none]) dX11_lookAt_83 (by decide) rfl ?_
          refine ex_lload dX11_lookAt_85 rfl ?_
          refine ex_lload_n dX11_lookAt_87 rfl ?_
          refine ex_lcmp dX11_lookAt_88 ?_
          refine ex_if_gt 95 dX11_lookAt_89 (by decide) (fun c9 => ?_) (fun c9 => ?_)
          · rw [if_pos c9] at hb
            refine ex_lload dX11_lookAt_95 rfl ?_
            refine ex_lstore_n (L2 := [some (.ref 155), some (.int a1), some (.int i2), some (.long ((1000000 : Int64) - x7)), none, some (.int i4), some (.long x6), none, some (.long ((1000000 : Int64) - x7)), none, some (.long ((1000000 : Int64) - x7)), none]) dX11_lookAt_97 (by decide) rfl ?_
            refine ex_iload dX11_lookAt_98 rfl ?_
            refine ex_istore_n (L2 := [some (.ref 155), some (.int a1), some (.int i4), some (.long ((1000000 : Int64) - x7)), none, some (.int i4), some (.long x6), none, some (.long ((1000000 : Int64) - x7)), none, some (.long ((1000000 : Int64) - x7)), none]) dX11_lookAt_100 (by decide) rfl ?_
            refine ex_iinc 1 (L2 := [some (.ref 155), some (.int a1), some (.int i4), some (.long ((1000000 : Int64) - x7)), none, some (.int (i4 + 1)), some (.long x6), none, some (.long ((1000000 : Int64) - x7)), none, some (.long ((1000000 : Int64) - x7)), none]) dX11_lookAt_101 rfl kI_1 (by decide) rfl ?_
            refine ex_goto 22 dX11_lookAt_104 (by decide) ?_
            refine ex_mskL [true, true, true, true, false, true, false, false, false, false, false, false] (L2 := [some (.ref 155), some (.int a1), some (.int i4), some (.long ((1000000 : Int64) - x7)), none, some (.int (i4 + 1)), none, none, none, none, none, none]) rfl ?_
            cases hb
            exact hk (i4, ((1000000 : Int64) - x7), (i4 + 1)) rfl
          · rw [if_neg c9] at hb
            refine ex_goto 101 dX11_lookAt_92 (by decide) ?_
            refine ex_iinc 1 (L2 := [some (.ref 155), some (.int a1), some (.int i2), some (.long i3), none, some (.int (i4 + 1)), some (.long x6), none, some (.long ((1000000 : Int64) - x7)), none, some (.long ((1000000 : Int64) - x7)), none]) dX11_lookAt_101 rfl kI_1 (by decide) rfl ?_
            refine ex_goto 22 dX11_lookAt_104 (by decide) ?_
            refine ex_mskL [true, true, true, true, false, true, false, false, false, false, false, false] (L2 := [some (.ref 155), some (.int a1), some (.int i2), some (.long i3), none, some (.int (i4 + 1)), none, none, none, none, none, none]) rfl ?_
            cases hb
            exact hk (i2, i3, (i4 + 1)) rfl
        · rw [if_neg c8] at hb
          refine ex_lload dX11_lookAt_76 rfl ?_
          refine ex_goto 83 dX11_lookAt_78 (by decide) ?_
          refine ex_lstore (L2 := [some (.ref 155), some (.int a1), some (.int i2), some (.long i3), none, some (.int i4), some (.long x6), none, some (.long ((1000000 : Int64) - x7)), none, some (.long x6), none]) dX11_lookAt_83 (by decide) rfl ?_
          refine ex_lload dX11_lookAt_85 rfl ?_
          refine ex_lload_n dX11_lookAt_87 rfl ?_
          refine ex_lcmp dX11_lookAt_88 ?_
          refine ex_if_gt 95 dX11_lookAt_89 (by decide) (fun c10 => ?_) (fun c10 => ?_)
          · rw [if_pos c10] at hb
            refine ex_lload dX11_lookAt_95 rfl ?_
            refine ex_lstore_n (L2 := [some (.ref 155), some (.int a1), some (.int i2), some (.long x6), none, some (.int i4), some (.long x6), none, some (.long ((1000000 : Int64) - x7)), none, some (.long x6), none]) dX11_lookAt_97 (by decide) rfl ?_
            refine ex_iload dX11_lookAt_98 rfl ?_
            refine ex_istore_n (L2 := [some (.ref 155), some (.int a1), some (.int i4), some (.long x6), none, some (.int i4), some (.long x6), none, some (.long ((1000000 : Int64) - x7)), none, some (.long x6), none]) dX11_lookAt_100 (by decide) rfl ?_
            refine ex_iinc 1 (L2 := [some (.ref 155), some (.int a1), some (.int i4), some (.long x6), none, some (.int (i4 + 1)), some (.long x6), none, some (.long ((1000000 : Int64) - x7)), none, some (.long x6), none]) dX11_lookAt_101 rfl kI_1 (by decide) rfl ?_
            refine ex_goto 22 dX11_lookAt_104 (by decide) ?_
            refine ex_mskL [true, true, true, true, false, true, false, false, false, false, false, false] (L2 := [some (.ref 155), some (.int a1), some (.int i4), some (.long x6), none, some (.int (i4 + 1)), none, none, none, none, none, none]) rfl ?_
            cases hb
            exact hk (i4, x6, (i4 + 1)) rfl
          · rw [if_neg c10] at hb
            refine ex_goto 101 dX11_lookAt_92 (by decide) ?_
            refine ex_iinc 1 (L2 := [some (.ref 155), some (.int a1), some (.int i2), some (.long i3), none, some (.int (i4 + 1)), some (.long x6), none, some (.long ((1000000 : Int64) - x7)), none, some (.long x6), none]) dX11_lookAt_101 rfl kI_1 (by decide) rfl ?_
            refine ex_goto 22 dX11_lookAt_104 (by decide) ?_
            refine ex_mskL [true, true, true, true, false, true, false, false, false, false, false, false] (L2 := [some (.ref 155), some (.int a1), some (.int i2), some (.long i3), none, some (.int (i4 + 1)), none, none, none, none, none, none]) rfl ?_
            cases hb
            exact hk (i2, i3, (i4 + 1)) rfl)
    exact key FU ((-1), (-1), 0) hlq11
  · rw [if_pos c1] at h
    refine ex_iconst (-1) dX11_lookAt_11 kI_m1 ?_
    cases h
    exact mx_reti .int dX11_lookAt_12 ⟨rfl, rfl⟩
def w_X11_linesLeaving_4 (a1 : Int32) (i1 : Int32) (i2 : Int32) (M3 : Mem) : Option ((Int32 × Int32 × Mem) ⊕ (Int32 × Mem)) :=
  if (M3 156 84) ≤ i2 then (some (.inr (i1, M3))) else (b1 (rd M3 156 ((103 + (3 * i2)) + 1)) fun x5 => b1 (rd M3 156 ((103 + (3 * i2)) + 2)) fun x6 => b2 (f_X11_leftOf x5 x6 M3) fun M7 x8 => lt ((if x8 = a1 then (1 <<< (i2 &&& 31)) else 0) : Int32) fun x10 => some (.inl ((i1 ||| x10), (i2 + 1), M7)))
def f_X11_linesLeaving (a1 : Int32) (M : Mem) : Option (Mem × Int32) :=
  b1 (lp (fun s => w_X11_linesLeaving_4 a1 s.1 s.2.1 s.2.2) FU (0, 0, M)) fun q11 => some (q11.2, q11.1)
set_option maxRecDepth 100000 in
set_option maxHeartbeats 4000000 in
theorem t_X11_linesLeaving (l : Launch) (E : EV) (a1 : Int32) (M : Mem) {M' : Mem} {r : Int32} (h : f_X11_linesLeaving a1 M = some (M', r)) : RunM l E yX11_linesLeaving cX11_linesLeaving 4 (some .int) 5 [.ref 155, .int a1] M M' (some (.int r)) := by
  refine RunM.of (by decide) (Nat.le_of_ble_eq_true rfl) ?_
  show XM l E (RX11, "linesLeaving", cX11_linesLeaving, 4) (some .int) 5 0 [some (.ref 155), some (.int a1), none, none] [] M M' (some (.int r))
  unfold f_X11_linesLeaving at h
  refine ex_iconst 0 dX11_linesLeaving_0 kI_0 ?_
  refine ex_istore_n (L2 := [some (.ref 155), some (.int a1), some (.int 0), none]) dX11_linesLeaving_1 (by decide) rfl ?_
  refine ex_iconst 0 dX11_linesLeaving_2 kI_0 ?_
  refine ex_istore_n (L2 := [some (.ref 155), some (.int a1), some (.int 0), some (.int 0)]) dX11_linesLeaving_3 (by decide) rfl ?_
  refine ex_mskL [true, true, true, true] (L2 := [some (.ref 155), some (.int a1), some (.int 0), some (.int 0)]) rfl ?_
  obtain ⟨q11, hlq11, h⟩ := b1E h
  obtain ⟨y12, M13⟩ := q11
  dsimp only at h
  have hx : XM l E (RX11, "linesLeaving", cX11_linesLeaving, 4) (some .int) 5 65 [none, none, some (.int y12), none] [] M13 M' (some (.int r)) := by
    refine ex_iload_n dX11_linesLeaving_65 rfl ?_
    cases h
    exact mx_reti .int dX11_linesLeaving_66 ⟨rfl, rfl⟩
  clear h
  have key : ∀ (k : Nat) (s : Int32 × Int32 × Mem), lp (fun s => w_X11_linesLeaving_4 a1 s.1 s.2.1 s.2.2) k s = some (y12, M13) → XM l E (RX11, "linesLeaving", cX11_linesLeaving, 4) (some .int) 5 4 [some (.ref 155), some (.int a1), some (.int s.1), some (.int s.2.1)] [] s.2.2 M' (some (.int r)) := lp_ind (P := fun (s : Int32 × Int32 × Mem) => XM l E (RX11, "linesLeaving", cX11_linesLeaving, 4) (some .int) 5 4 [some (.ref 155), some (.int a1), some (.int s.1), some (.int s.2.1)] [] s.2.2 M' (some (.int r))) (fun s t hb hk he => by
    obtain ⟨i1, i2, M3⟩ := s
    show XM l E (RX11, "linesLeaving", cX11_linesLeaving, 4) (some .int) 5 4 [some (.ref 155), some (.int a1), some (.int i1), some (.int i2)] [] M3 M' (some (.int r))
    change w_X11_linesLeaving_4 a1 i1 i2 M3 = some t at hb
    unfold w_X11_linesLeaving_4 at hb
    refine ex_iload_n dX11_linesLeaving_4 rfl ?_
    refine ex_aload_n dX11_linesLeaving_5 rfl ?_
    refine mx_getr 11 156 dX11_linesLeaving_6 fl_X11_7 oc_at_155 (rf_11_0 oc_at_155) ?_
    refine ex_bipush 84 dX11_linesLeaving_9 kB_84 ?_
    refine mx_iald (M3 156 84) dX11_linesLeaving_11 (rdc_156_84 _) ?_
    refine ex_icmp_ge 65 dX11_linesLeaving_12 (by decide) (fun c4 => ?_) (fun c4 => ?_)
    · rw [if_pos c4] at hb
      refine ex_mskL [false, false, true, false] (L2 := [none, none, some (.int i1), none]) rfl ?_
      cases hb
      cases (he _ rfl) <;> exact hx
    · rw [if_neg c4] at hb
      refine ex_iload_n dX11_linesLeaving_15 rfl ?_
      refine ex_aload_n dX11_linesLeaving_16 rfl ?_
      refine ex_aload_n dX11_linesLeaving_17 rfl ?_
      refine mx_getr 11 156 dX11_linesLeaving_18 fl_X11_7 oc_at_155 (rf_11_0 oc_at_155) ?_
      refine ex_bipush 103 dX11_linesLeaving_21 kB_103 ?_
      refine ex_iconst 3 dX11_linesLeaving_23 kI_3 ?_
      refine ex_iload_n dX11_linesLeaving_24 rfl ?_
      refine ex_imul dX11_linesLeaving_25 ?_
      refine ex_iadd dX11_linesLeaving_26 ?_
      refine ex_iconst 1 dX11_linesLeaving_27 kI_1 ?_
      refine ex_iadd dX11_linesLeaving_28 ?_
      obtain ⟨x5, qx5, hb⟩ := b1E hb
      refine mx_iald x5 dX11_linesLeaving_29 qx5 ?_
      refine ex_aload_n dX11_linesLeaving_30 rfl ?_
      refine mx_getr 11 156 dX11_linesLeaving_31 fl_X11_7 oc_at_155 (rf_11_0 oc_at_155) ?_
      refine ex_bipush 103 dX11_linesLeaving_34 kB_103 ?_
      refine ex_iconst 3 dX11_linesLeaving_36 kI_3 ?_
      refine ex_iload_n dX11_linesLeaving_37 rfl ?_
      refine ex_imul dX11_linesLeaving_38 ?_
      refine ex_iadd dX11_linesLeaving_39 ?_
      refine ex_iconst 2 dX11_linesLeaving_40 kI_2 ?_
      refine ex_iadd dX11_linesLeaving_41 ?_
      obtain ⟨x6, qx6, hb⟩ := b1E hb
      refine mx_iald x6 dX11_linesLeaving_42 qx6 ?_
      obtain ⟨M7, x8, qx8, hb⟩ := b2E hb
      refine mx_cVi [.int x5, .int x6] [.int i1] 155 11 x8 dX11_linesLeaving_43 cl_X11_313 im_X11_leftOf cy_X11_leftOf oc_at_155 rfl (Nat.le_of_ble_eq_true rfl) (by decide) (t_X11_leftOf l E x5 x6 M3 qx8) ?_
      refine ex_iload_n dX11_linesLeaving_46 rfl ?_
      obtain ⟨x10, ex10, hb⟩ := ltE hb
      have Jx10 : XM l E (RX11, "linesLeaving", cX11_linesLeaving, 4) (some .int) 5 57 [some (.ref 155), some (.int a1), some (.int i1), some (.int i2)] [.int x10, .int i1] M7 M' (some (.int r)) := by
        refine ex_ior dX11_linesLeaving_57 ?_
        refine ex_istore_n (L2 := [some (.ref 155), some (.int a1), some (.int (i1 ||| x10)), some (.int i2)]) dX11_linesLeaving_58 (by decide) rfl ?_
        refine ex_iinc 1 (L2 := [some (.ref 155), some (.int a1), some (.int (i1 ||| x10)), some (.int (i2 + 1))]) dX11_linesLeaving_59 rfl kI_1 (by decide) rfl ?_
        refine ex_goto 4 dX11_linesLeaving_62 (by decide) ?_
        refine ex_mskL [true, true, true, true] (L2 := [some (.ref 155), some (.int a1), some (.int (i1 ||| x10)), some (.int (i2 + 1))]) rfl ?_
        cases hb
        exact hk ((i1 ||| x10), (i2 + 1), M7) rfl
      clear hb
      refine ex_icmp_ne 56 dX11_linesLeaving_47 (by decide) (fun c9 => ?_) (fun c9 => ?_)
      · rw [if_neg c9] at ex10
        refine ex_iconst 0 dX11_linesLeaving_56 kI_0 ?_
        subst ex10
        exact Jx10
      · rw [if_pos c9] at ex10
        refine ex_iconst 1 dX11_linesLeaving_50 kI_1 ?_
        refine ex_iload_n dX11_linesLeaving_51 rfl ?_
        refine ex_ishl dX11_linesLeaving_52 ?_
        refine ex_goto 57 dX11_linesLeaving_53 (by decide) ?_
        subst ex10
        exact Jx10)
  exact key FU (0, 0, M) hlq11
def w_X11_greaterPart_5 (a1 : Int32) (a2 : Int32) (M : Mem) (i1 : Int32) (i2 : Int32) : Option ((Int32 × Int32) ⊕ (Int32)) :=
  if (M 156 84) ≤ i2 then (some (.inr i1)) else (if ((a1 >>> (i2 &&& 31)) &&& 1) = 1 then (b1 (rd M 156 ((103 + (3 * i2)) + 1)) fun x5 => if x5 = a2 then (some (.inl ((i1 + 1), (i2 + 1)))) else (some (.inl ((i1 + 0), (i2 + 1))))) else (some (.inl ((i1 + 0), (i2 + 1)))))
def f_X11_greaterPart (a1 : Int32) (a2 : Int32) (M : Mem) : Option (Int32) :=
  b1 (lp (fun s => w_X11_greaterPart_5 a1 a2 M s.1 s.2) FU (0, 0)) fun q7 => b1 (f_X11_count a1) fun x8 => some (f_X11_greater q7 (x8 - q7))
set_option maxRecDepth 100000 in
set_option maxHeartbeats 4000000 in
theorem t_X11_greaterPart (l : Launch) (E : EV) (a1 : Int32) (a2 : Int32) (M : Mem) {r : Int32} (h : f_X11_greaterPart a1 a2 M = some r) : RunM l E yX11_greaterPart cX11_greaterPart 5 (some .int) 1 [.ref 155, .int a1, .int a2] M M (some (.int r)) := by
  refine RunM.of (by decide) (Nat.le_of_ble_eq_true rfl) ?_
  show XM l E (RX11, "greaterPart", cX11_greaterPart, 5) (some .int) 1 0 [some (.ref 155), some (.int a1), some (.int a2), none, none] [] M M (some (.int r))
  unfold f_X11_greaterPart at h
  refine ex_iconst 0 dX11_greaterPart_0 kI_0 ?_
  refine ex_istore_n (L2 := [some (.ref 155), some (.int a1), some (.int a2), some (.int 0), none]) dX11_greaterPart_1 (by decide) rfl ?_
  refine ex_iconst 0 dX11_greaterPart_2 kI_0 ?_
  refine ex_istore (L2 := [some (.ref 155), some (.int a1), some (.int a2), some (.int 0), some (.int 0)]) dX11_greaterPart_3 (by decide) rfl ?_
  refine ex_mskL [true, true, true, true, true] (L2 := [some (.ref 155), some (.int a1), some (.int a2), some (.int 0), some (.int 0)]) rfl ?_
  obtain ⟨q7, hlq7, h⟩ := b1E h
  have hx : XM l E (RX11, "greaterPart", cX11_greaterPart, 5) (some .int) 1 59 [none, some (.int a1), none, some (.int q7), none] [] M M (some (.int r)) := by
    refine ex_iload_n dX11_greaterPart_59 rfl ?_
    refine ex_iload_n dX11_greaterPart_60 rfl ?_
    obtain ⟨x8, qx8, h⟩ := b1E h
    refine mx_cSi [.int a1] [.int q7] x8 dX11_greaterPart_61 cl_X11_345 sm_X11_count rfl (Nat.le_of_ble_eq_true rfl) (by decide) (t_X11_count l E a1 M qx8) ?_
    refine ex_iload_n dX11_greaterPart_64 rfl ?_
    refine ex_isub dX11_greaterPart_65 ?_
    refine mx_cSi [.int q7, .int (x8 - q7)] [] (f_X11_greater q7 (x8 - q7)) dX11_greaterPart_66 cl_X11_291 sm_X11_greater rfl (Nat.le_of_ble_eq_true rfl) (by decide) (t_X11_greater l E q7 (x8 - q7) M rfl) ?_
    cases h
    exact mx_reti .int dX11_greaterPart_69 ⟨rfl, rfl⟩
  clear h
  have key : ∀ (k : Nat) (s : Int32 × Int32), lp (fun s => w_X11_greaterPart_5 a1 a2 M s.1 s.2) k s = some q7 → XM l E (RX11, "greaterPart", cX11_greaterPart, 5) (some .int) 1 5 [some (.ref 155), some (.int a1), some (.int a2), some (.int s.1), some (.int s.2)] [] M M (some (.int r)) := lp_ind (P := fun (s : Int32 × Int32) => XM l E (RX11, "greaterPart", cX11_greaterPart, 5) (some .int) 1 5 [some (.ref 155), some (.int a1), some (.int a2), some (.int s.1), some (.int s.2)] [] M M (some (.int r))) (fun s t hb hk he => by
    obtain ⟨i1, i2⟩ := s
    show XM l E (RX11, "greaterPart", cX11_greaterPart, 5) (some .int) 1 5 [some (.ref 155), some (.int a1), some (.int a2), some (.int i1), some (.int i2)] [] M M (some (.int r))
    change w_X11_greaterPart_5 a1 a2 M i1 i2 = some t at hb
    unfold w_X11_greaterPart_5 at hb
    refine ex_iload dX11_greaterPart_5 rfl ?_
    refine ex_aload_n dX11_greaterPart_7 rfl ?_
    refine mx_getr 11 156 dX11_greaterPart_8 fl_X11_7 oc_at_155 (rf_11_0 oc_at_155) ?_
    refine ex_bipush 84 dX11_greaterPart_11 kB_84 ?_
    refine mx_iald (M 156 84) dX11_greaterPart_13 (rdc_156_84 _) ?_
    refine ex_icmp_ge 59 dX11_greaterPart_14 (by decide) (fun c3 => ?_) (fun c3 => ?_)
    · rw [if_pos c3] at hb
      refine ex_mskL [false, true, false, true, false] (L2 := [none, some (.int a1), none, some (.int i1), none]) rfl ?_
      cases hb
      cases (he _ rfl) <;> exact hx
    · rw [if_neg c3] at hb
      refine ex_iload_n dX11_greaterPart_17 rfl ?_
      refine ex_iload_n dX11_greaterPart_18 rfl ?_
      refine ex_iload dX11_greaterPart_19 rfl ?_
      refine ex_ishr dX11_greaterPart_21 ?_
      refine ex_iconst 1 dX11_greaterPart_22 kI_1 ?_
      refine ex_iand dX11_greaterPart_23 ?_
      refine ex_iconst 1 dX11_greaterPart_24 kI_1 ?_
      refine ex_icmp_ne 50 dX11_greaterPart_25 (by decide) (fun c4 => ?_) (fun c4 => ?_)
      · rw [if_neg c4] at hb
        refine ex_iconst 0 dX11_greaterPart_50 kI_0 ?_
        refine ex_iadd dX11_greaterPart_51 ?_
        refine ex_istore_n (L2 := [some (.ref 155), some (.int a1), some (.int a2), some (.int (i1 + 0)), some (.int i2)]) dX11_greaterPart_52 (by decide) rfl ?_
        refine ex_iinc 1 (L2 := [some (.ref 155), some (.int a1), some (.int a2), some (.int (i1 + 0)), some (.int (i2 + 1))]) dX11_greaterPart_53 rfl kI_1 (by decide) rfl ?_
        refine ex_goto 5 dX11_greaterPart_56 (by decide) ?_
        refine ex_mskL [true, true, true, true, true] (L2 := [some (.ref 155), some (.int a1), some (.int a2), some (.int (i1 + 0)), some (.int (i2 + 1))]) rfl ?_
        cases hb
        exact hk ((i1 + 0), (i2 + 1)) rfl
      · rw [if_pos c4] at hb
        refine ex_aload_n dX11_greaterPart_28 rfl ?_
        refine mx_getr 11 156 dX11_greaterPart_29 fl_X11_7 oc_at_155 (rf_11_0 oc_at_155) ?_
        refine ex_bipush 103 dX11_greaterPart_32 kB_103 ?_
        refine ex_iconst 3 dX11_greaterPart_34 kI_3 ?_
        refine ex_iload dX11_greaterPart_35 rfl ?_
        refine ex_imul dX11_greaterPart_37 ?_
        refine ex_iadd dX11_greaterPart_38 ?_
        refine ex_iconst 1 dX11_greaterPart_39 kI_1 ?_
        refine ex_iadd dX11_greaterPart_40 ?_
        obtain ⟨x5, qx5, hb⟩ := b1E hb
        refine mx_iald x5 dX11_greaterPart_41 qx5 ?_
        refine ex_iload_n dX11_greaterPart_42 rfl ?_
        refine ex_icmp_ne 50 dX11_greaterPart_43 (by decide) (fun c6 => ?_) (fun c6 => ?_)
        · rw [if_neg c6] at hb
          refine ex_iconst 0 dX11_greaterPart_50 kI_0 ?_
          refine ex_iadd dX11_greaterPart_51 ?_
          refine ex_istore_n (L2 := [some (.ref 155), some (.int a1), some (.int a2), some (.int (i1 + 0)), some (.int i2)]) dX11_greaterPart_52 (by decide) rfl ?_
          refine ex_iinc 1 (L2 := [some (.ref 155), some (.int a1), some (.int a2), some (.int (i1 + 0)), some (.int (i2 + 1))]) dX11_greaterPart_53 rfl kI_1 (by decide) rfl ?_
          refine ex_goto 5 dX11_greaterPart_56 (by decide) ?_
          refine ex_mskL [true, true, true, true, true] (L2 := [some (.ref 155), some (.int a1), some (.int a2), some (.int (i1 + 0)), some (.int (i2 + 1))]) rfl ?_
          cases hb
          exact hk ((i1 + 0), (i2 + 1)) rfl
        · rw [if_pos c6] at hb
          refine ex_iconst 1 dX11_greaterPart_46 kI_1 ?_
          refine ex_goto 51 dX11_greaterPart_47 (by decide) ?_
          refine ex_iadd dX11_greaterPart_51 ?_
          refine ex_istore_n (L2 := [some (.ref 155), some (.int a1), some (.int a2), some (.int (i1 + 1)), some (.int i2)]) dX11_greaterPart_52 (by decide) rfl ?_
          refine ex_iinc 1 (L2 := [some (.ref 155), some (.int a1), some (.int a2), some (.int (i1 + 1)), some (.int (i2 + 1))]) dX11_greaterPart_53 rfl kI_1 (by decide) rfl ?_
          refine ex_goto 5 dX11_greaterPart_56 (by decide) ?_
          refine ex_mskL [true, true, true, true, true] (L2 := [some (.ref 155), some (.int a1), some (.int a2), some (.int (i1 + 1)), some (.int (i2 + 1))]) rfl ?_
          cases hb
          exact hk ((i1 + 1), (i2 + 1)) rfl)
  exact key FU (0, 0) hlq7
def w_X11_crumbs_39 (M4 : Mem) (x5 : Int32) (i7 : Int32) (i8 : Int32) : Option ((Int32 × Int32) ⊕ (Int32)) :=
  if (M4 156 80) ≤ i8 then (some (.inr i7)) else (b1 (f_X11_greaterPart x5 i8 M4) fun x10 => b1 (f_X11_greaterPart x5 i7 M4) fun x11 => if x11 ≤ x10 then (some (.inl (i7, (i8 + 1)))) else (some (.inl (i8, (i8 + 1)))))
def f_X11_crumbs (a1 : Int32) (a2 : Int32) (M : Mem) : Option (Mem × Int32) :=
  if ((f_X11_isIn a1 0 99) = 0 ∨ (f_X11_isIn a2 0 1) = 0) then (some (M, (-1))) else (b2 (f_X11_linesLeaving a1 M) fun M4 x5 => if a2 = 0 then (some (M4, x5)) else (b1 (lp (fun s => w_X11_crumbs_39 M4 x5 s.1 s.2) FU (0, 1)) fun q13 => b1 (f_X11_count x5) fun x14 => lt ((if 2 ≤ x14 then q13 else (-1)) : Int32) fun x16 => some (M4, x16)))
set_option maxRecDepth 100000 in
set_option maxHeartbeats 4000000 in
theorem t_X11_crumbs (l : Launch) (E : EV) (a1 : Int32) (a2 : Int32) (M : Mem) {M' : Mem} {r : Int32} (h : f_X11_crumbs a1 a2 M = some (M', r)) : RunM l E yX11_crumbs cX11_crumbs 6 (some .int) 6 [.ref 155, .int a1, .int a2] M M' (some (.int r)) := by
  refine RunM.of (by decide) (Nat.le_of_ble_eq_true rfl) ?_
  show XM l E (RX11, "crumbs", cX11_crumbs, 6) (some .int) 6 0 [some (.ref 155), some (.int a1), some (.int a2), none, none, none] [] M M' (some (.int r))
  unfold f_X11_crumbs at h
  refine ex_iload_n dX11_crumbs_0 rfl ?_
  refine ex_iconst 0 dX11_crumbs_1 kI_0 ?_
  refine ex_bipush 99 dX11_crumbs_2 kB_99 ?_
  refine mx_cSi [.int a1, .int 0, .int 99] [] (f_X11_isIn a1 0 99) dX11_crumbs_4 cl_X11_53 sm_X11_isIn rfl (Nat.le_of_ble_eq_true rfl) (by decide) (t_X11_isIn l E a1 0 99 M rfl) ?_
  have JXC3 : ((f_X11_isIn a1 0 99) = 0 ∨ (f_X11_isIn a2 0 1) = 0) → XM l E (RX11, "crumbs", cX11_crumbs, 6) (some .int) 6 19 [some (.ref 155), some (.int a1), some (.int a2), none, none, none] [] M M' (some (.int r)) := fun C3 => by
    rw [if_pos C3] at h
    refine ex_iconst (-1) dX11_crumbs_19 kI_m1 ?_
    cases h
    exact mx_reti .int dX11_crumbs_20 ⟨rfl, rfl⟩
  have JYC3 : ¬ (((f_X11_isIn a1 0 99) = 0 ∨ (f_X11_isIn a2 0 1) = 0)) → XM l E (RX11, "crumbs", cX11_crumbs, 6) (some .int) 6 23 [some (.ref 155), some (.int a1), some (.int a2), none, none, none] [.int a1, .ref 155] M M' (some (.int r)) := fun C3 => by
    rw [if_neg C3] at h
    obtain ⟨M4, x5, qx5, h⟩ := b2E h
    refine mx_cVi [.int a1] [] 155 11 x5 dX11_crumbs_23 cl_X11_424 im_X11_linesLeaving cy_X11_linesLeaving oc_at_155 rfl (Nat.le_of_ble_eq_true rfl) (by decide) (t_X11_linesLeaving l E a1 M qx5) ?_
    refine ex_istore_n (L2 := [some (.ref 155), some (.int a1), some (.int a2), some (.int x5), none, none]) dX11_crumbs_26 (by decide) rfl ?_
    refine ex_iload_n dX11_crumbs_27 rfl ?_
    refine ex_if_ne 33 dX11_crumbs_28 (by decide) (fun c6 => ?_) (fun c6 => ?_)
    · rw [if_neg c6] at h
      refine ex_iconst 0 dX11_crumbs_33 kI_0 ?_
      refine ex_istore (L2 := [some (.ref 155), some (.int a1), some (.int a2), some (.int x5), some (.int 0), none]) dX11_crumbs_34 (by decide) rfl ?_
      refine ex_iconst 1 dX11_crumbs_36 kI_1 ?_
      refine ex_istore (L2 := [some (.ref 155), some (.int a1), some (.int a2), some (.int x5), some (.int 0), some (.int 1)]) dX11_crumbs_37 (by decide) rfl ?_
      refine ex_mskL [true, false, false, true, true, true] (L2 := [some (.ref 155), none, none, some (.int x5), some (.int 0), some (.int 1)]) rfl ?_
      obtain ⟨q13, hlq13, h⟩ := b1E h
      have hx : XM l E (RX11, "crumbs", cX11_crumbs, 6) (some .int) 6 78 [none, none, none, some (.int x5), some (.int q13), none] [] M4 M' (some (.int r)) := by
        refine ex_iload_n dX11_crumbs_78 rfl ?_
        obtain ⟨x14, qx14, h⟩ := b1E h
        refine mx_cSi [.int x5] [] x14 dX11_crumbs_79 cl_X11_345 sm_X11_count rfl (Nat.le_of_ble_eq_true rfl) (by decide) (t_X11_count l E x5 M4 qx14) ?_
        refine ex_iconst 2 dX11_crumbs_82 kI_2 ?_
        obtain ⟨x16, ex16, h⟩ := ltE h
        have Jx16 : XM l E (RX11, "crumbs", cX11_crumbs, 6) (some .int) 6 92 [none, none, none, some (.int x5), some (.int q13), none] [.int x16] M4 M' (some (.int r)) := by
          cases h
          exact mx_reti .int dX11_crumbs_92 ⟨rfl, rfl⟩
        clear h
        refine ex_icmp_ge 90 dX11_crumbs_83 (by decide) (fun c15 => ?_) (fun c15 => ?_)
        · rw [if_pos c15] at ex16
          refine ex_iload dX11_crumbs_90 rfl ?_
          subst ex16
          exact Jx16
        · rw [if_neg c15] at ex16
          refine ex_iconst (-1) dX11_crumbs_86 kI_m1 ?_
          refine ex_goto 92 dX11_crumbs_87 (by decide) ?_
          subst ex16
          exact Jx16
      clear h
      have key : ∀ (k : Nat) (s : Int32 × Int32), lp (fun s => w_X11_crumbs_39 M4 x5 s.1 s.2) k s = some q13 → XM l E (RX11, "crumbs", cX11_crumbs, 6) (some .int) 6 39 [some (.ref 155), none, none, some (.int x5), some (.int s.1), some (.int s.2)] [] M4 M' (some (.int r)) := lp_ind (P := fun (s : Int32 × Int32) => XM l E (RX11, "crumbs", cX11_crumbs, 6) (some .int) 6 39 [some (.ref 155), none, none, some (.int x5), some (.int s.1), some (.int s.2)] [] M4 M' (some (.int r))) (fun s t hb hk he => by
        obtain ⟨i7, i8⟩ := s
        show XM l E (RX11, "crumbs", cX11_crumbs, 6) (some .int) 6 39 [some (.ref 155), none, none, some (.int x5), some (.int i7), some (.int i8)] [] M4 M' (some (.int r))
        change w_X11_crumbs_39 M4 x5 i7 i8 = some t at hb
        unfold w_X11_crumbs_39 at hb
        refine ex_iload dX11_crumbs_39 rfl ?_
        refine ex_aload_n dX11_crumbs_41 rfl ?_
        refine mx_getr 11 156 dX11_crumbs_42 fl_X11_7 oc_at_155 (rf_11_0 oc_at_155) ?_
        refine ex_bipush 80 dX11_crumbs_45 kB_80 ?_
        refine mx_iald (M4 156 80) dX11_crumbs_47 (rdc_156_80 _) ?_
        refine ex_icmp_ge 78 dX11_crumbs_48 (by decide) (fun c9 => ?_) (fun c9 => ?_)
        · rw [if_pos c9] at hb
          refine ex_mskL [false, false, false, true, true, false] (L2 := [none, none, none, some (.int x5), some (.int i7), none]) rfl ?_
          cases hb
          cases (he _ rfl) <;> exact hx
        · rw [if_neg c9] at hb
          refine ex_aload_n dX11_crumbs_51 rfl ?_
          refine ex_iload_n dX11_crumbs_52 rfl ?_
          refine ex_iload dX11_crumbs_53 rfl ?_
          obtain ⟨x10, qx10, hb⟩ := b1E hb
          refine mx_cVi [.int x5, .int i8] [] 155 11 x10 dX11_crumbs_55 cl_X11_427 im_X11_greaterPart cy_X11_greaterPart oc_at_155 rfl (Nat.le_of_ble_eq_true rfl) (by decide) (t_X11_greaterPart l E x5 i8 M4 qx10) ?_
          refine ex_aload_n dX11_crumbs_58 rfl ?_
          refine ex_iload_n dX11_crumbs_59 rfl ?_
          refine ex_iload dX11_crumbs_60 rfl ?_
          obtain ⟨x11, qx11, hb⟩ := b1E hb
          refine mx_cVi [.int x5, .int i7] [.int x10] 155 11 x11 dX11_crumbs_62 cl_X11_427 im_X11_greaterPart cy_X11_greaterPart oc_at_155 rfl (Nat.le_of_ble_eq_true rfl) (by decide) (t_X11_greaterPart l E x5 i7 M4 qx11) ?_
          refine ex_icmp_ge 72 dX11_crumbs_65 (by decide) (fun c12 => ?_) (fun c12 => ?_)
          · rw [if_pos c12] at hb
            refine ex_iinc 1 (L2 := [some (.ref 155), none, none, some (.int x5), some (.int i7), some (.int (i8 + 1))]) dX11_crumbs_72 rfl kI_1 (by decide) rfl ?_
            refine ex_goto 39 dX11_crumbs_75 (by decide) ?_
            refine ex_mskL [true, false, false, true, true, true] (L2 := [some (.ref 155), none, none, some (.int x5), some (.int i7), some (.int (i8 + 1))]) rfl ?_
            cases hb
            exact hk (i7, (i8 + 1)) rfl
          · rw [if_neg c12] at hb
            refine ex_iload dX11_crumbs_68 rfl ?_
            refine ex_istore (L2 := [some (.ref 155), none, none, some (.int x5), some (.int i8), some (.int i8)]) dX11_crumbs_70 (by decide) rfl ?_
            refine ex_iinc 1 (L2 := [some (.ref 155), none, none, some (.int x5), some (.int i8), some (.int (i8 + 1))]) dX11_crumbs_72 rfl kI_1 (by decide) rfl ?_
            refine ex_goto 39 dX11_crumbs_75 (by decide) ?_
            refine ex_mskL [true, false, false, true, true, true] (L2 := [some (.ref 155), none, none, some (.int x5), some (.int i8), some (.int (i8 + 1))]) rfl ?_
            cases hb
            exact hk (i8, (i8 + 1)) rfl)
      exact key FU (0, 1) hlq13
    · rw [if_pos c6] at h
      refine ex_iload_n dX11_crumbs_31 rfl ?_
      cases h
      exact mx_reti .int dX11_crumbs_32 ⟨rfl, rfl⟩
  clear h
  refine ex_if_eq 19 dX11_crumbs_7 (by decide) (fun c1 => ?_) (fun c1 => ?_)
  · exact JXC3 (Or.inl c1)
  · refine ex_iload_n dX11_crumbs_10 rfl ?_
    refine ex_iconst 0 dX11_crumbs_11 kI_0 ?_
    refine ex_iconst 1 dX11_crumbs_12 kI_1 ?_
    refine mx_cSi [.int a2, .int 0, .int 1] [] (f_X11_isIn a2 0 1) dX11_crumbs_13 cl_X11_53 sm_X11_isIn rfl (Nat.le_of_ble_eq_true rfl) (by decide) (t_X11_isIn l E a2 0 1 M rfl) ?_
    refine ex_if_ne 21 dX11_crumbs_16 (by decide) (fun c2 => ?_) (fun c2 => ?_)
    · refine ex_aload_n dX11_crumbs_21 rfl ?_
      refine ex_iload_n dX11_crumbs_22 rfl ?_
      exact JYC3 (fun z => z.elim c1 c2)
    · exact JXC3 (Or.inr c2)
def w_X11_cookedOf_2 (i1 : Int32) (M2 : Mem) : Option ((Int32 × Mem) ⊕ (Mem)) :=
  if 6 ≤ i1 then (some (.inr M2)) else (b1 (wr M2 168 i1 0) fun M4 => some (.inl ((i1 + 1), M4)))
def w_X11_cookedOf_70 (i7 : Int32) (i12 : Int32) (M13 : Mem) : Option ((Int32 × Mem) ⊕ (Mem)) :=
  b1 (rd M13 156 ((187 + (10 * i7)) + 1)) fun x14 => if x14 ≤ i12 then (some (.inr M13)) else (b1 (rd M13 156 (((187 + (10 * i7)) + 2) + (2 * i12))) fun x16 => b1 (rd M13 168 x16) fun x17 => b1 (rd M13 156 (((187 + (10 * i7)) + 3) + (2 * i12))) fun x18 => b1 (wr M13 168 x16 (x17 + x18)) fun M19 => some (.inl ((i12 + 1), M19)))
def w_X11_cookedOf_25 (a1 : Int32) (i6 : Int32) (i7 : Int32) (M8 : Mem) : Option ((Int32 × Int32 × Mem) ⊕ (Int32 × Mem)) :=
  if (M8 156 86) ≤ i7 then (some (.inr (i6, M8))) else (if ((a1 >>> (i7 &&& 31)) &&& 1) = 0 then (some (.inl (i6, (i7 + 1), M8))) else (b1 (rd M8 156 (187 + (10 * i7))) fun x11 => b1 (lp (fun s => w_X11_cookedOf_70 i7 s.1 s.2) FU (0, M8)) fun q20 => some (.inl ((i6 + x11), (i7 + 1), q20))))
def w_X11_cookedOf_134 (M23 : Mem) (i24 : Int32) : Option ((Int32) ⊕ ((Unit) ⊕ (Unit))) :=
  if (M23 156 80) ≤ i24 then (some (.inr (.inr ()))) else (b1 (rd M23 168 i24) fun x26 => b1 (f_X11_placesOf i24 M23) fun x27 => b1 (f_X11_sumOf x27 M23) fun x28 => if x26 ≤ x28 then (some (.inl (i24 + 1))) else (some (.inr (.inl ()))))
def f_X11_cookedOf (a1 : Int32) (M : Mem) : Option (Mem × Int32) :=
  b1 (lp (fun s => w_X11_cookedOf_2 s.1 s.2) FU (0, M)) fun q5 => b1 (lp (fun s => w_X11_cookedOf_25 a1 s.1 s.2.1 s.2.2) FU (0, 0, q5)) fun q21 => b1 (lp (fun s => w_X11_cookedOf_134 q21.2 s) FU 0) fun q30 => match q30 with | .inl u31 => (some (q21.2, (-1))) | .inr u32 => (some (q21.2, q21.1))
set_option maxRecDepth 100000 in
set_option maxHeartbeats 4000000 in
theorem t_X11_cookedOf (l : Launch) (E : EV) (a1 : Int32) (M : Mem) {M' : Mem} {r : Int32} (h : f_X11_cookedOf a1 M = some (M', r)) : RunM l E yX11_cookedOf cX11_cookedOf 6 (some .int) 2 [.ref 155, .int a1] M M' (some (.int r)) := by
  refine RunM.of (by decide) (Nat.le_of_ble_eq_true rfl) ?_
  show XM l E (RX11, "cookedOf", cX11_cookedOf, 6) (some .int) 2 0 [some (.ref 155), some (.int a1), none, none, none, none] [] M M' (some (.int r))
  unfold f_X11_cookedOf at h
  refine ex_iconst 0 dX11_cookedOf_0 kI_0 ?_
  refine ex_istore_n (L2 := [some (.ref 155), some (.int a1), some (.int 0), none, none, none]) dX11_cookedOf_1 (by decide) rfl ?_
  refine ex_mskL [true, true, true, false, false, false] (L2 := [some (.ref 155), some (.int a1), some (.int 0), none, none, none]) rfl ?_
  obtain ⟨q5, hlq5, h⟩ := b1E h
  have hx : XM l E (RX11, "cookedOf", cX11_cookedOf, 6) (some .int) 2 21 [some (.ref 155), some (.int a1), none, none, none, none] [] q5 M' (some (.int r)) := by
    refine ex_iconst 0 dX11_cookedOf_21 kI_0 ?_
    refine ex_istore_n (L2 := [some (.ref 155), some (.int a1), some (.int 0), none, none, none]) dX11_cookedOf_22 (by decide) rfl ?_
    refine ex_iconst 0 dX11_cookedOf_23 kI_0 ?_
    refine ex_istore_n (L2 := [some (.ref 155), some (.int a1), some (.int 0), some (.int 0), none, none]) dX11_cookedOf_24 (by decide) rfl ?_
    refine ex_mskL [true, true, true, true, false, false] (L2 := [some (.ref 155), some (.int a1), some (.int 0), some (.int 0), none, none]) rfl ?_
    obtain ⟨q21, hlq21, h⟩ := b1E h
    obtain ⟨y22, M23⟩ := q21
    dsimp only at h
    have hx : XM l E (RX11, "cookedOf", cX11_cookedOf, 6) (some .int) 2 132 [some (.ref 155), none, some (.int y22), none, none, none] [] M23 M' (some (.int r)) := by
      refine ex_iconst 0 dX11_cookedOf_132 kI_0 ?_
      refine ex_istore_n (L2 := [some (.ref 155), none, some (.int y22), some (.int 0), none, none]) dX11_cookedOf_133 (by decide) rfl ?_
      refine ex_mskL [true, false, true, true, false, false] (L2 := [some (.ref 155), none, some (.int y22), some (.int 0), none, none]) rfl ?_
      obtain ⟨q30, hlq30, h⟩ := b1E h
      rcases q30 with ⟨⟩ | ⟨⟩
      · dsimp only at h
        have hx : XM l E (RX11, "cookedOf", cX11_cookedOf, 6) (some .int) 2 163 [none, none, none, none, none, none] [] M23 M' (some (.int r)) := by
          refine ex_iconst (-1) dX11_cookedOf_163 kI_m1 ?_
          cases h
          exact mx_reti .int dX11_cookedOf_164 ⟨rfl, rfl⟩
        clear h
        have key : ∀ (k : Nat) (s : Int32), lp (fun s => w_X11_cookedOf_134 M23 s) k s = some (.inl ()) → XM l E (RX11, "cookedOf", cX11_cookedOf, 6) (some .int) 2 134 [some (.ref 155), none, some (.int y22), some (.int s), none, none] [] M23 M' (some (.int r)) := lp_ind (P := fun (s : Int32) => XM l E (RX11, "cookedOf", cX11_cookedOf, 6) (some .int) 2 134 [some (.ref 155), none, some (.int y22), some (.int s), none, none] [] M23 M' (some (.int r))) (fun s t hb hk he => by
          revert hb hk he; generalize s = i24; intro hb hk he
          show XM l E (RX11, "cookedOf", cX11_cookedOf, 6) (some .int) 2 134 [some (.ref 155), none, some (.int y22), some (.int i24), none, none] [] M23 M' (some (.int r))
          change w_X11_cookedOf_134 M23 i24 = some t at hb
          unfold w_X11_cookedOf_134 at hb
          refine ex_iload_n dX11_cookedOf_134 rfl ?_
          refine ex_aload_n dX11_cookedOf_135 rfl ?_
          refine mx_getr 11 156 dX11_cookedOf_136 fl_X11_7 oc_at_155 (rf_11_0 oc_at_155) ?_
          refine ex_bipush 80 dX11_cookedOf_139 kB_80 ?_
          refine mx_iald (M23 156 80) dX11_cookedOf_141 (rdc_156_80 _) ?_
          refine ex_icmp_ge 171 dX11_cookedOf_142 (by decide) (fun c25 => ?_) (fun c25 => ?_)
          · rw [if_pos c25] at hb
            refine ex_mskL [false, false, true, false, false, false] (L2 := [none, none, some (.int y22), none, none, none]) rfl ?_
            cases hb
            cases (he _ rfl) <;> exact hx
          · rw [if_neg c25] at hb
            refine ex_aload_n dX11_cookedOf_145 rfl ?_
            refine mx_getr 11 168 dX11_cookedOf_146 fl_X11_50 oc_at_155 (rf_11_29 oc_at_155) ?_
            refine ex_iload_n dX11_cookedOf_149 rfl ?_
            obtain ⟨x26, qx26, hb⟩ := b1E hb
            refine mx_iald x26 dX11_cookedOf_150 qx26 ?_
            refine ex_aload_n dX11_cookedOf_151 rfl ?_
            refine ex_aload_n dX11_cookedOf_152 rfl ?_
            refine ex_iload_n dX11_cookedOf_153 rfl ?_
            obtain ⟨x27, qx27, hb⟩ := b1E hb
            refine mx_cVi [.int i24] [.ref 155, .int x26] 155 11 x27 dX11_cookedOf_154 cl_X11_351 im_X11_placesOf cy_X11_placesOf oc_at_155 rfl (Nat.le_of_ble_eq_true rfl) (by decide) (t_X11_placesOf l E i24 M23 qx27) ?_
            obtain ⟨x28, qx28, hb⟩ := b1E hb
            refine mx_cVi [.int x27] [.int x26] 155 11 x28 dX11_cookedOf_157 cl_X11_348 im_X11_sumOf cy_X11_sumOf oc_at_155 rfl (Nat.le_of_ble_eq_true rfl) (by decide) (t_X11_sumOf l E x27 M23 qx28) ?_
            refine ex_icmp_le 165 dX11_cookedOf_160 (by decide) (fun c29 => ?_) (fun c29 => ?_)
            · rw [if_pos c29] at hb
              refine ex_iinc 1 (L2 := [some (.ref 155), none, some (.int y22), some (.int (i24 + 1)), none, none]) dX11_cookedOf_165 rfl kI_1 (by decide) rfl ?_
              refine ex_goto 134 dX11_cookedOf_168 (by decide) ?_
              refine ex_mskL [true, false, true, true, false, false] (L2 := [some (.ref 155), none, some (.int y22), some (.int (i24 + 1)), none, none]) rfl ?_
              cases hb
              exact hk (i24 + 1) rfl
            · rw [if_neg c29] at hb
              refine ex_mskL [false, false, false, false, false, false] (L2 := [none, none, none, none, none, none]) rfl ?_
              cases hb
              cases (he _ rfl) <;> exact hx)
        exact key FU 0 hlq30
      · dsimp only at h
        have hx : XM l E (RX11, "cookedOf", cX11_cookedOf, 6) (some .int) 2 171 [none, none, some (.int y22), none, none, none] [] M23 M' (some (.int r)) := by
          refine ex_iload_n dX11_cookedOf_171 rfl ?_
          cases h
          exact mx_reti .int dX11_cookedOf_172 ⟨rfl, rfl⟩
        clear h
        have key : ∀ (k : Nat) (s : Int32), lp (fun s => w_X11_cookedOf_134 M23 s) k s = some (.inr ()) → XM l E (RX11, "cookedOf", cX11_cookedOf, 6) (some .int) 2 134 [some (.ref 155), none, some (.int y22), some (.int s), none, none] [] M23 M' (some (.int r)) := lp_ind (P := fun (s : Int32) => XM l E (RX11, "cookedOf", cX11_cookedOf, 6) (some .int) 2 134 [some (.ref 155), none, some (.int y22), some (.int s), none, none] [] M23 M' (some (.int r))) (fun s t hb hk he => by
          revert hb hk he; generalize s = i24; intro hb hk he
          show XM l E (RX11, "cookedOf", cX11_cookedOf, 6) (some .int) 2 134 [some (.ref 155), none, some (.int y22), some (.int i24), none, none] [] M23 M' (some (.int r))
          change w_X11_cookedOf_134 M23 i24 = some t at hb
          unfold w_X11_cookedOf_134 at hb
          refine ex_iload_n dX11_cookedOf_134 rfl ?_
          refine ex_aload_n dX11_cookedOf_135 rfl ?_
          refine mx_getr 11 156 dX11_cookedOf_136 fl_X11_7 oc_at_155 (rf_11_0 oc_at_155) ?_
          refine ex_bipush 80 dX11_cookedOf_139 kB_80 ?_
          refine mx_iald (M23 156 80) dX11_cookedOf_141 (rdc_156_80 _) ?_
          refine ex_icmp_ge 171 dX11_cookedOf_142 (by decide) (fun c25 => ?_) (fun c25 => ?_)
          · rw [if_pos c25] at hb
            refine ex_mskL [false, false, true, false, false, false] (L2 := [none, none, some (.int y22), none, none, none]) rfl ?_
            cases hb
            cases (he _ rfl) <;> exact hx
          · rw [if_neg c25] at hb
            refine ex_aload_n dX11_cookedOf_145 rfl ?_
            refine mx_getr 11 168 dX11_cookedOf_146 fl_X11_50 oc_at_155 (rf_11_29 oc_at_155) ?_
            refine ex_iload_n dX11_cookedOf_149 rfl ?_
            obtain ⟨x26, qx26, hb⟩ := b1E hb
            refine mx_iald x26 dX11_cookedOf_150 qx26 ?_
            refine ex_aload_n dX11_cookedOf_151 rfl ?_
            refine ex_aload_n dX11_cookedOf_152 rfl ?_
            refine ex_iload_n dX11_cookedOf_153 rfl ?_
            obtain ⟨x27, qx27, hb⟩ := b1E hb
            refine mx_cVi [.int i24] [.ref 155, .int x26] 155 11 x27 dX11_cookedOf_154 cl_X11_351 im_X11_placesOf cy_X11_placesOf oc_at_155 rfl (Nat.le_of_ble_eq_true rfl) (by decide) (t_X11_placesOf l E i24 M23 qx27) ?_
            obtain ⟨x28, qx28, hb⟩ := b1E hb
            refine mx_cVi [.int x27] [.int x26] 155 11 x28 dX11_cookedOf_157 cl_X11_348 im_X11_sumOf cy_X11_sumOf oc_at_155 rfl (Nat.le_of_ble_eq_true rfl) (by decide) (t_X11_sumOf l E x27 M23 qx28) ?_
            refine ex_icmp_le 165 dX11_cookedOf_160 (by decide) (fun c29 => ?_) (fun c29 => ?_)
            · rw [if_pos c29] at hb
              refine ex_iinc 1 (L2 := [some (.ref 155), none, some (.int y22), some (.int (i24 + 1)), none, none]) dX11_cookedOf_165 rfl kI_1 (by decide) rfl ?_
              refine ex_goto 134 dX11_cookedOf_168 (by decide) ?_
              refine ex_mskL [true, false, true, true, false, false] (L2 := [some (.ref 155), none, some (.int y22), some (.int (i24 + 1)), none, none]) rfl ?_
              cases hb
              exact hk (i24 + 1) rfl
            · rw [if_neg c29] at hb
              refine ex_mskL [false, false, false, false, false, false] (L2 := [none, none, none, none, none, none]) rfl ?_
              cases hb
              cases (he _ rfl) <;> exact hx)
        exact key FU 0 hlq30
    clear h
    have key : ∀ (k : Nat) (s : Int32 × Int32 × Mem), lp (fun s => w_X11_cookedOf_25 a1 s.1 s.2.1 s.2.2) k s = some (y22, M23) → XM l E (RX11, "cookedOf", cX11_cookedOf, 6) (some .int) 2 25 [some (.ref 155), some (.int a1), some (.int s.1), some (.int s.2.1), none, none] [] s.2.2 M' (some (.int r)) := lp_ind (P := fun (s : Int32 × Int32 × Mem) => XM l E (RX11, "cookedOf", cX11_cookedOf, 6) (some .int) 2 25 [some (.ref 155), some (.int a1), some (.int s.1), some (.int s.2.1), none, none] [] s.2.2 M' (some (.int r))) (fun s t hb hk he => by
      obtain ⟨i6, i7, M8⟩ := s
      show XM l E (RX11, "cookedOf", cX11_cookedOf, 6) (some .int) 2 25 [some (.ref 155), some (.int a1), some (.int i6), some (.int i7), none, none] [] M8 M' (some (.int r))
      change w_X11_cookedOf_25 a1 i6 i7 M8 = some t at hb
      unfold w_X11_cookedOf_25 at hb
      refine ex_iload_n dX11_cookedOf_25 rfl ?_
      refine ex_aload_n dX11_cookedOf_26 rfl ?_
      refine mx_getr 11 156 dX11_cookedOf_27 fl_X11_7 oc_at_155 (rf_11_0 oc_at_155) ?_
      refine ex_bipush 86 dX11_cookedOf_30 kB_86 ?_
      refine mx_iald (M8 156 86) dX11_cookedOf_32 (rdc_156_86 _) ?_
      refine ex_icmp_ge 132 dX11_cookedOf_33 (by decide) (fun c9 => ?_) (fun c9 => ?_)
      · rw [if_pos c9] at hb
        refine ex_mskL [true, false, true, false, false, false] (L2 := [some (.ref 155), none, some (.int i6), none, none, none]) rfl ?_
        cases hb
        cases (he _ rfl) <;> exact hx
      · rw [if_neg c9] at hb
        refine ex_iload_n dX11_cookedOf_36 rfl ?_
        refine ex_iload_n dX11_cookedOf_37 rfl ?_
        refine ex_ishr dX11_cookedOf_38 ?_
        refine ex_iconst 1 dX11_cookedOf_39 kI_1 ?_
        refine ex_iand dX11_cookedOf_40 ?_
        refine ex_if_ne 47 dX11_cookedOf_41 (by decide) (fun c10 => ?_) (fun c10 => ?_)
        · rw [if_neg c10] at hb
          refine ex_sipush 187 dX11_cookedOf_47 kS_187 ?_
          refine ex_bipush 10 dX11_cookedOf_50 kB_10 ?_
          refine ex_iload_n dX11_cookedOf_52 rfl ?_
          refine ex_imul dX11_cookedOf_53 ?_
          refine ex_iadd dX11_cookedOf_54 ?_
          refine ex_istore (L2 := [some (.ref 155), some (.int a1), some (.int i6), some (.int i7), some (.int (187 + (10 * i7))), none]) dX11_cookedOf_55 (by decide) rfl ?_
          refine ex_iload_n dX11_cookedOf_57 rfl ?_
          refine ex_aload_n dX11_cookedOf_58 rfl ?_
          refine mx_getr 11 156 dX11_cookedOf_59 fl_X11_7 oc_at_155 (rf_11_0 oc_at_155) ?_
          refine ex_iload dX11_cookedOf_62 rfl ?_
          obtain ⟨x11, qx11, hb⟩ := b1E hb
          refine mx_iald x11 dX11_cookedOf_64 qx11 ?_
          refine ex_iadd dX11_cookedOf_65 ?_
          refine ex_istore_n (L2 := [some (.ref 155), some (.int a1), some (.int (i6 + x11)), some (.int i7), some (.int (187 + (10 * i7))), none]) dX11_cookedOf_66 (by decide) rfl ?_
          refine ex_iconst 0 dX11_cookedOf_67 kI_0 ?_
          refine ex_istore (L2 := [some (.ref 155), some (.int a1), some (.int (i6 + x11)), some (.int i7), some (.int (187 + (10 * i7))), some (.int 0)]) dX11_cookedOf_68 (by decide) rfl ?_
          refine ex_mskL [true, true, true, true, true, true] (L2 := [some (.ref 155), some (.int a1), some (.int (i6 + x11)), some (.int i7), some (.int (187 + (10 * i7))), some (.int 0)]) rfl ?_
          obtain ⟨q20, hlq20, hb⟩ := b1E hb
          have hx : XM l E (RX11, "cookedOf", cX11_cookedOf, 6) (some .int) 2 126 [some (.ref 155), some (.int a1), some (.int (i6 + x11)), some (.int i7), none, none] [] q20 M' (some (.int r)) := by
            refine ex_iinc 1 (L2 := [some (.ref 155), some (.int a1), some (.int (i6 + x11)), some (.int (i7 + 1)), none, none]) dX11_cookedOf_126 rfl kI_1 (by decide) rfl ?_
            refine ex_goto 25 dX11_cookedOf_129 (by decide) ?_
            refine ex_mskL [true, true, true, true, false, false] (L2 := [some (.ref 155), some (.int a1), some (.int (i6 + x11)), some (.int (i7 + 1)), none, none]) rfl ?_
            cases hb
            exact hk ((i6 + x11), (i7 + 1), q20) rfl
          clear hb
          have key : ∀ (k : Nat) (s : Int32 × Mem), lp (fun s => w_X11_cookedOf_70 i7 s.1 s.2) k s = some q20 → XM l E (RX11, "cookedOf", cX11_cookedOf, 6) (some .int) 2 70 [some (.ref 155), some (.int a1), some (.int (i6 + x11)), some (.int i7), some (.int (187 + (10 * i7))), some (.int s.1)] [] s.2 M' (some (.int r)) := lp_ind (P := fun (s : Int32 × Mem) => XM l E (RX11, "cookedOf", cX11_cookedOf, 6) (some .int) 2 70 [some (.ref 155), some (.int a1), some (.int (i6 + x11)), some (.int i7), some (.int (187 + (10 * i7))), some (.int s.1)] [] s.2 M' (some (.int r))) (fun s t hb hk he => by
            obtain ⟨i12, M13⟩ := s
            show XM l E (RX11, "cookedOf", cX11_cookedOf, 6) (some .int) 2 70 [some (.ref 155), some (.int a1), some (.int (i6 + x11)), some (.int i7), some (.int (187 + (10 * i7))), some (.int i12)] [] M13 M' (some (.int r))
            change w_X11_cookedOf_70 i7 i12 M13 = some t at hb
            unfold w_X11_cookedOf_70 at hb
            refine ex_iload dX11_cookedOf_70 rfl ?_
            refine ex_aload_n dX11_cookedOf_72 rfl ?_
            refine mx_getr 11 156 dX11_cookedOf_73 fl_X11_7 oc_at_155 (rf_11_0 oc_at_155) ?_
            refine ex_iload dX11_cookedOf_76 rfl ?_
            refine ex_iconst 1 dX11_cookedOf_78 kI_1 ?_
            refine ex_iadd dX11_cookedOf_79 ?_
            obtain ⟨x14, qx14, hb⟩ := b1E hb
            refine mx_iald x14 dX11_cookedOf_80 qx14 ?_
            refine ex_icmp_ge 126 dX11_cookedOf_81 (by decide) (fun c15 => ?_) (fun c15 => ?_)
            · rw [if_pos c15] at hb
              refine ex_mskL [true, true, true, true, false, false] (L2 := [some (.ref 155), some (.int a1), some (.int (i6 + x11)), some (.int i7), none, none]) rfl ?_
              cases hb
              cases (he _ rfl) <;> exact hx
            · rw [if_neg c15] at hb
              refine ex_aload_n dX11_cookedOf_84 rfl ?_
              refine mx_getr 11 168 dX11_cookedOf_85 fl_X11_50 oc_at_155 (rf_11_29 oc_at_155) ?_
              refine ex_aload_n dX11_cookedOf_88 rfl ?_
              refine mx_getr 11 156 dX11_cookedOf_89 fl_X11_7 oc_at_155 (rf_11_0 oc_at_155) ?_
              refine ex_iload dX11_cookedOf_92 rfl ?_
              refine ex_iconst 2 dX11_cookedOf_94 kI_2 ?_
              refine ex_iadd dX11_cookedOf_95 ?_
              refine ex_iconst 2 dX11_cookedOf_96 kI_2 ?_
              refine ex_iload dX11_cookedOf_97 rfl ?_
              refine ex_imul dX11_cookedOf_99 ?_
              refine ex_iadd dX11_cookedOf_100 ?_
              obtain ⟨x16, qx16, hb⟩ := b1E hb
              refine mx_iald x16 dX11_cookedOf_101 qx16 ?_
              refine ex_dup2 dX11_cookedOf_102 rfl rfl ?_
              obtain ⟨x17, qx17, hb⟩ := b1E hb
              refine mx_iald x17 dX11_cookedOf_103 qx17 ?_
              refine ex_aload_n dX11_cookedOf_104 rfl ?_
              refine mx_getr 11 156 dX11_cookedOf_105 fl_X11_7 oc_at_155 (rf_11_0 oc_at_155) ?_
              refine ex_iload dX11_cookedOf_108 rfl ?_
              refine ex_iconst 3 dX11_cookedOf_110 kI_3 ?_
              refine ex_iadd dX11_cookedOf_111 ?_
              refine ex_iconst 2 dX11_cookedOf_112 kI_2 ?_
              refine ex_iload dX11_cookedOf_113 rfl ?_
              refine ex_imul dX11_cookedOf_115 ?_
              refine ex_iadd dX11_cookedOf_116 ?_
              obtain ⟨x18, qx18, hb⟩ := b1E hb
              refine mx_iald x18 dX11_cookedOf_117 qx18 ?_
              refine ex_iadd dX11_cookedOf_118 ?_
              obtain ⟨M19, qM19, hb⟩ := b1E hb
              refine mx_iast M19 dX11_cookedOf_119 qM19 ?_
              refine ex_iinc 1 (L2 := [some (.ref 155), some (.int a1), some (.int (i6 + x11)), some (.int i7), some (.int (187 + (10 * i7))), some (.int (i12 + 1))]) dX11_cookedOf_120 rfl kI_1 (by decide) rfl ?_
              refine ex_goto 70 dX11_cookedOf_123 (by decide) ?_
              refine ex_mskL [true, true, true, true, true, true] (L2 := [some (.ref 155), some (.int a1), some (.int (i6 + x11)), some (.int i7), some (.int (187 + (10 * i7))), some (.int (i12 + 1))]) rfl ?_
              cases hb
              exact hk ((i12 + 1), M19) rfl)
          exact key FU (0, M8) hlq20
        · rw [if_pos c10] at hb
          refine ex_goto 126 dX11_cookedOf_44 (by decide) ?_
          refine ex_iinc 1 (L2 := [some (.ref 155), some (.int a1), some (.int i6), some (.int (i7 + 1)), none, none]) dX11_cookedOf_126 rfl kI_1 (by decide) rfl ?_
          refine ex_goto 25 dX11_cookedOf_129 (by decide) ?_
          refine ex_mskL [true, true, true, true, false, false] (L2 := [some (.ref 155), some (.int a1), some (.int i6), some (.int (i7 + 1)), none, none]) rfl ?_
          cases hb
          exact hk (i6, (i7 + 1), M8) rfl)
    exact key FU (0, 0, q5) hlq21
  clear h
  have key : ∀ (k : Nat) (s : Int32 × Mem), lp (fun s => w_X11_cookedOf_2 s.1 s.2) k s = some q5 → XM l E (RX11, "cookedOf", cX11_cookedOf, 6) (some .int) 2 2 [some (.ref 155), some (.int a1), some (.int s.1), none, none, none] [] s.2 M' (some (.int r)) := lp_ind (P := fun (s : Int32 × Mem) => XM l E (RX11, "cookedOf", cX11_cookedOf, 6) (some .int) 2 2 [some (.ref 155), some (.int a1), some (.int s.1), none, none, none] [] s.2 M' (some (.int r))) (fun s t hb hk he => by
    obtain ⟨i1, M2⟩ := s
    show XM l E (RX11, "cookedOf", cX11_cookedOf, 6) (some .int) 2 2 [some (.ref 155), some (.int a1), some (.int i1), none, none, none] [] M2 M' (some (.int r))
    change w_X11_cookedOf_2 i1 M2 = some t at hb
    unfold w_X11_cookedOf_2 at hb
    refine ex_iload_n dX11_cookedOf_2 rfl ?_
    refine ex_bipush 6 dX11_cookedOf_3 kB_6 ?_
    refine ex_icmp_ge 21 dX11_cookedOf_5 (by decide) (fun c3 => ?_) (fun c3 => ?_)
    · rw [if_pos c3] at hb
      refine ex_mskL [true, true, false, false, false, false] (L2 := [some (.ref 155), some (.int a1), none, none, none, none]) rfl ?_
      cases hb
      cases (he _ rfl) <;> exact hx
    · rw [if_neg c3] at hb
      refine ex_aload_n dX11_cookedOf_8 rfl ?_
      refine mx_getr 11 168 dX11_cookedOf_9 fl_X11_50 oc_at_155 (rf_11_29 oc_at_155) ?_
      refine ex_iload_n dX11_cookedOf_12 rfl ?_
      refine ex_iconst 0 dX11_cookedOf_13 kI_0 ?_
      obtain ⟨M4, qM4, hb⟩ := b1E hb
      refine mx_iast M4 dX11_cookedOf_14 qM4 ?_
      refine ex_iinc 1 (L2 := [some (.ref 155), some (.int a1), some (.int (i1 + 1)), none, none, none]) dX11_cookedOf_15 rfl kI_1 (by decide) rfl ?_
      refine ex_goto 2 dX11_cookedOf_18 (by decide) ?_
      refine ex_mskL [true, true, true, false, false, false] (L2 := [some (.ref 155), some (.int a1), some (.int (i1 + 1)), none, none, none]) rfl ?_
      cases hb
      exact hk ((i1 + 1), M4) rfl)
  exact key FU (0, M) hlq5
def w_X11_cooks_18 (i2 : Int32) (i3 : Int32) (i4 : Int32) (M5 : Mem) : Option ((Int32 × Int32 × Int32 × Mem) ⊕ (Int32 × Int32 × Mem)) :=
  if (1 <<< ((M5 156 86) &&& 31)) ≤ i4 then (some (.inr (i2, i3, M5))) else (b2 (f_X11_cookedOf i4 M5) fun M7 x8 => if i3 < x8 then (some (.inl (i4, x8, (i4 + 1), M7))) else (some (.inl (i2, i3, (i4 + 1), M7))))
def f_X11_cooks (a1 : Int32) (M : Mem) : Option (Mem × Int32) :=
  if (f_X11_isIn a1 0 1) = 0 then (some (M, (-1))) else (b1 (lp (fun s => w_X11_cooks_18 s.1 s.2.1 s.2.2.1 s.2.2.2) FU (0, 0, 1, M)) fun q10 => lt ((if a1 = 0 then q10.2.1 else q10.1) : Int32) fun x15 => some (q10.2.2, x15))
set_option maxRecDepth 100000 in
set_option maxHeartbeats 4000000 in
theorem t_X11_cooks (l : Launch) (E : EV) (a1 : Int32) (M : Mem) {M' : Mem} {r : Int32} (h : f_X11_cooks a1 M = some (M', r)) : RunM l E yX11_cooks cX11_cooks 6 (some .int) 3 [.ref 155, .int a1] M M' (some (.int r)) := by
  refine RunM.of (by decide) (Nat.le_of_ble_eq_true rfl) ?_
  show XM l E (RX11, "cooks", cX11_cooks, 6) (some .int) 3 0 [some (.ref 155), some (.int a1), none, none, none, none] [] M M' (some (.int r))
  unfold f_X11_cooks at h
  refine ex_iload_n dX11_cooks_0 rfl ?_
  refine ex_iconst 0 dX11_cooks_1 kI_0 ?_
  refine ex_iconst 1 dX11_cooks_2 kI_1 ?_
  refine mx_cSi [.int a1, .int 0, .int 1] [] (f_X11_isIn a1 0 1) dX11_cooks_3 cl_X11_53 sm_X11_isIn rfl (Nat.le_of_ble_eq_true rfl) (by decide) (t_X11_isIn l E a1 0 1 M rfl) ?_
  refine ex_if_ne 11 dX11_cooks_6 (by decide) (fun c1 => ?_) (fun c1 => ?_)
  · rw [if_neg c1] at h
    refine ex_iconst 0 dX11_cooks_11 kI_0 ?_
    refine ex_istore_n (L2 := [some (.ref 155), some (.int a1), some (.int 0), none, none, none]) dX11_cooks_12 (by decide) rfl ?_
    refine ex_iconst 0 dX11_cooks_13 kI_0 ?_
    refine ex_istore_n (L2 := [some (.ref 155), some (.int a1), some (.int 0), some (.int 0), none, none]) dX11_cooks_14 (by decide) rfl ?_
    refine ex_iconst 1 dX11_cooks_15 kI_1 ?_
    refine ex_istore (L2 := [some (.ref 155), some (.int a1), some (.int 0), some (.int 0), some (.int 1), none]) dX11_cooks_16 (by decide) rfl ?_
    refine ex_mskL [true, true, true, true, true, false] (L2 := [some (.ref 155), some (.int a1), some (.int 0), some (.int 0), some (.int 1), none]) rfl ?_
    obtain ⟨q10, hlq10, h⟩ := b1E h
    obtain ⟨y11, y12, M13⟩ := q10
    dsimp only at h
    have hx : XM l E (RX11, "cooks", cX11_cooks, 6) (some .int) 3 61 [none, some (.int a1), some (.int y11), some (.int y12), none, none] [] M13 M' (some (.int r)) := by
      refine ex_iload_n dX11_cooks_61 rfl ?_
      obtain ⟨x15, ex15, h⟩ := ltE h
      have Jx15 : XM l E (RX11, "cooks", cX11_cooks, 6) (some .int) 3 70 [none, some (.int a1), some (.int y11), some (.int y12), none, none] [.int x15] M13 M' (some (.int r)) := by
        cases h
        exact mx_reti .int dX11_cooks_70 ⟨rfl, rfl⟩
      clear h
      refine ex_if_ne 69 dX11_cooks_62 (by decide) (fun c14 => ?_) (fun c14 => ?_)
      · rw [if_neg c14] at ex15
        refine ex_iload_n dX11_cooks_69 rfl ?_
        subst ex15
        exact Jx15
      · rw [if_pos c14] at ex15
        refine ex_iload_n dX11_cooks_65 rfl ?_
        refine ex_goto 70 dX11_cooks_66 (by decide) ?_
        subst ex15
        exact Jx15
    clear h
    have key : ∀ (k : Nat) (s : Int32 × Int32 × Int32 × Mem), lp (fun s => w_X11_cooks_18 s.1 s.2.1 s.2.2.1 s.2.2.2) k s = some (y11, y12, M13) → XM l E (RX11, "cooks", cX11_cooks, 6) (some .int) 3 18 [some (.ref 155), some (.int a1), some (.int s.1), some (.int s.2.1), some (.int s.2.2.1), none] [] s.2.2.2 M' (some (.int r)) := lp_ind (P := fun (s : Int32 × Int32 × Int32 × Mem) => XM l E (RX11, "cooks", cX11_cooks, 6) (some .int) 3 18 [some (.ref 155), some (.int a1), some (.int s.1), some (.int s.2.1), some (.int s.2.2.1), none] [] s.2.2.2 M' (some (.int r))) (fun s t hb hk he => by
      obtain ⟨i2, i3, i4, M5⟩ := s
      show XM l E (RX11, "cooks", cX11_cooks, 6) (some .int) 3 18 [some (.ref 155), some (.int a1), some (.int i2), some (.int i3), some (.int i4), none] [] M5 M' (some (.int r))
      change w_X11_cooks_18 i2 i3 i4 M5 = some t at hb
      unfold w_X11_cooks_18 at hb
      refine ex_iload dX11_cooks_18 rfl ?_
      refine ex_iconst 1 dX11_cooks_20 kI_1 ?_
      refine ex_aload_n dX11_cooks_21 rfl ?_
      refine mx_getr 11 156 dX11_cooks_22 fl_X11_7 oc_at_155 (rf_11_0 oc_at_155) ?_
      refine ex_bipush 86 dX11_cooks_25 kB_86 ?_
      refine mx_iald (M5 156 86) dX11_cooks_27 (rdc_156_86 _) ?_
      refine ex_ishl dX11_cooks_28 ?_
      refine ex_icmp_ge 61 dX11_cooks_29 (by decide) (fun c6 => ?_) (fun c6 => ?_)
      · rw [if_pos c6] at hb
        refine ex_mskL [false, true, true, true, false, false] (L2 := [none, some (.int a1), some (.int i2), some (.int i3), none, none]) rfl ?_
        cases hb
        cases (he _ rfl) <;> exact hx
      · rw [if_neg c6] at hb
        refine ex_aload_n dX11_cooks_32 rfl ?_
        refine ex_iload dX11_cooks_33 rfl ?_
        obtain ⟨M7, x8, qx8, hb⟩ := b2E hb
        refine mx_cVi [.int i4] [] 155 11 x8 dX11_cooks_35 cl_X11_430 im_X11_cookedOf cy_X11_cookedOf oc_at_155 rfl (Nat.le_of_ble_eq_true rfl) (by decide) (t_X11_cookedOf l E i4 M5 qx8) ?_
        refine ex_istore (L2 := [some (.ref 155), some (.int a1), some (.int i2), some (.int i3), some (.int i4), some (.int x8)]) dX11_cooks_38 (by decide) rfl ?_
        refine ex_iload dX11_cooks_40 rfl ?_
        refine ex_iload_n dX11_cooks_42 rfl ?_
        refine ex_icmp_gt 49 dX11_cooks_43 (by decide) (fun c9 => ?_) (fun c9 => ?_)
        · rw [if_pos c9] at hb
          refine ex_iload dX11_cooks_49 rfl ?_
          refine ex_istore_n (L2 := [some (.ref 155), some (.int a1), some (.int i2), some (.int x8), some (.int i4), some (.int x8)]) dX11_cooks_51 (by decide) rfl ?_
          refine ex_iload dX11_cooks_52 rfl ?_
          refine ex_istore_n (L2 := [some (.ref 155), some (.int a1), some (.int i4), some (.int x8), some (.int i4), some (.int x8)]) dX11_cooks_54 (by decide) rfl ?_
          refine ex_iinc 1 (L2 := [some (.ref 155), some (.int a1), some (.int i4), some (.int x8), some (.int (i4 + 1)), some (.int x8)]) dX11_cooks_55 rfl kI_1 (by decide) rfl ?_
          refine ex_goto 18 dX11_cooks_58 (by decide) ?_
          refine ex_mskL [true, true, true, true, true, false] (L2 := [some (.ref 155), some (.int a1), some (.int i4), some (.int x8), some (.int (i4 + 1)), none]) rfl ?_
          cases hb
          exact hk (i4, x8, (i4 + 1), M7) rfl
        · rw [if_neg c9] at hb
          refine ex_goto 55 dX11_cooks_46 (by decide) ?_
          refine ex_iinc 1 (L2 := [some (.ref 155), some (.int a1), some (.int i2), some (.int i3), some (.int (i4 + 1)), some (.int x8)]) dX11_cooks_55 rfl kI_1 (by decide) rfl ?_
          refine ex_goto 18 dX11_cooks_58 (by decide) ?_
          refine ex_mskL [true, true, true, true, true, false] (L2 := [some (.ref 155), some (.int a1), some (.int i2), some (.int i3), some (.int (i4 + 1)), none]) rfl ?_
          cases hb
          exact hk (i2, i3, (i4 + 1), M7) rfl)
    exact key FU (0, 0, 1, M) hlq10
  · rw [if_pos c1] at h
    refine ex_iconst (-1) dX11_cooks_9 kI_m1 ?_
    cases h
    exact mx_reti .int dX11_cooks_10 ⟨rfl, rfl⟩
