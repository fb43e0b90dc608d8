def w_X11_aDish_38 (M : Mem) (i4 : Int32) (M5 : Mem) (i7 : Int32) (i8 : Int32) : Option ((Int32 × Int32) ⊕ (Int32)) :=
  if i4 ≤ i8 then (some (.inr i7)) else (if i7 = 0 then (b1 (rd M5 162 (((10 * (M 155 15)) + 2) + (2 * i8))) fun x11 => if x11 = (M5 155 20) then (some (.inl (1, (i8 + 1)))) else (some (.inl (0, (i8 + 1))))) else (some (.inl (1, (i8 + 1)))))
def w_X11_aDish_25 (M : Mem) (i4 : Int32) (M5 : Mem) : Option ((Int32 × Mem) ⊕ ((Mem) ⊕ (Mem) ⊕ (Mem) ⊕ (Int32 × Mem))) :=
  if (M5 155 18) = 2 then (b1 (lp (fun s => w_X11_aDish_38 M i4 M5 s.1 s.2) FU (0, 0)) fun q13 => if (f_X11_isKind (M5 155 20) M5) = 0 then (some (.inr (.inl M5))) else (if q13 = 0 then (if i4 = 4 then (some (.inr (.inr (.inl M5)))) else (b2 (f_X11_number (((10 * (M 155 15)) + 2) + (2 * i4)) 0 6 M5) fun M17 x18 => if x18 = 0 then (some (.inr (.inr (.inr (.inl M17))))) else (b2 (f_X11_number (((10 * (M 155 15)) + 3) + (2 * i4)) 1 99 M17) fun M20 x21 => if x21 = 0 then (some (.inr (.inr (.inr (.inl M20))))) else (some (.inl ((i4 + 1), M20)))))) else (some (.inr (.inl M5))))) else (some (.inr (.inr (.inr (.inr (i4, M5))))))
def f_X11_aDish (M : Mem) : Option (Mem × Int32) :=
  b2 (f_X11_told (10 * (M 155 15)) 15 1 99 M) fun M1 x2 => if x2 = 0 then (some (M1, 0)) else (b1 (lp (fun s => w_X11_aDish_25 M s.1 s.2) FU (0, M1)) fun q23 => match q23 with | .inl u24 => (lt (f_X11_bad 2 u24) fun p25 => b1 (gz p25.2) fun x26 => some (p25.1, x26)) | .inr u35 => (match u35 with | .inl u27 => (lt (f_X11_bad 3 u27) fun p28 => b1 (gz p28.2) fun x29 => some (p28.1, x29)) | .inr u36 => (match u36 with | .inl u30 => (some (u30, 0)) | .inr u31 => (b1 (wr u31.2 162 ((10 * (M 155 15)) + 1) u31.1) fun M34 => some (M34, 1)))))
set_option maxRecDepth 100000 in
set_option maxHeartbeats 4000000 in
theorem t_X11_aDish (l : Launch) (E : EV) (M : Mem) {M' : Mem} {r : Int32} (h : f_X11_aDish M = some (M', r)) : RunM l E yX11_aDish cX11_aDish 5 (some .boolean) 13 [.ref 155] M M' (some (.int r)) := by
  refine RunM.of (by decide) (Nat.le_of_ble_eq_true rfl) ?_
  show XM l E (RX11, "aDish", cX11_aDish, 5) (some .boolean) 13 0 [some (.ref 155), none, none, none, none] [] M M' (some (.int r))
  unfold f_X11_aDish at h
  refine ex_bipush 10 dX11_aDish_0 kB_10 ?_
  refine ex_aload_n dX11_aDish_2 rfl ?_
  refine mx_geti 11 dX11_aDish_3 fl_X11_232 oc_at_155 (isi_11_15 oc_at_155) ?_
  refine ex_imul dX11_aDish_6 ?_
  refine ex_istore_n (L2 := [some (.ref 155), some (.int (10 * (M 155 15))), none, none, none]) dX11_aDish_7 (by decide) rfl ?_
  refine ex_aload_n dX11_aDish_8 rfl ?_
  refine ex_iload_n dX11_aDish_9 rfl ?_
  refine ex_bipush 15 dX11_aDish_10 kB_15 ?_
  refine ex_iconst 1 dX11_aDish_12 kI_1 ?_
  refine ex_bipush 99 dX11_aDish_13 kB_99 ?_
  obtain ⟨M1, x2, qx2, h⟩ := b2E h
  refine mx_cVi [.int (10 * (M 155 15)), .int 15, .int 1, .int 99] [] 155 11 x2 dX11_aDish_15 cl_X11_235 im_X11_told cy_X11_told oc_at_155 rfl (Nat.le_of_ble_eq_true rfl) (by decide) (t_X11_told l E (10 * (M 155 15)) 15 1 99 M qx2) ?_
  refine ex_if_ne 23 dX11_aDish_18 (by decide) (fun c3 => ?_) (fun c3 => ?_)
  · rw [if_neg c3] at h
    refine ex_iconst 0 dX11_aDish_23 kI_0 ?_
    refine ex_istore_n (L2 := [some (.ref 155), some (.int (10 * (M 155 15))), some (.int 0), none, none]) dX11_aDish_24 (by decide) rfl ?_
    refine ex_mskL [true, true, true, false, false] (L2 := [some (.ref 155), some (.int (10 * (M 155 15))), some (.int 0), none, none]) rfl ?_
    obtain ⟨q23, hlq23, h⟩ := b1E h
    rcases q23 with u24 | u27 | u30 | ⟨y32, M33⟩
    · dsimp only at h
      have hx : XM l E (RX11, "aDish", cX11_aDish, 5) (some .boolean) 13 95 [some (.ref 155), none, none, none, none] [] u24 M' (some (.int r)) := by
        refine ex_aload_n dX11_aDish_95 rfl ?_
        refine ex_iconst 2 dX11_aDish_96 kI_2 ?_
        obtain ⟨p25, ep25, h⟩ := ltE h
        refine mx_cVi [.int 2] [] 155 11 p25.2 dX11_aDish_97 cl_X11_182 im_X11_bad cy_X11_bad oc_at_155 rfl (Nat.le_of_ble_eq_true rfl) (by decide) (t_X11_bad l E 2 u24 ep25.symm) ?_
        obtain ⟨x26, qx26, h⟩ := b1E h
        obtain ⟨ex26, nx26⟩ := gzE qx26
        rw [← ex26] at h
        cases h
        exact mx_reti .boolean dX11_aDish_100 ⟨rfl, nx26⟩
      clear h
      have key : ∀ (k : Nat) (s : Int32 × Mem), lp (fun s => w_X11_aDish_25 M s.1 s.2) k s = some (.inl u24) → XM l E (RX11, "aDish", cX11_aDish, 5) (some .boolean) 13 25 [some (.ref 155), some (.int (10 * (M 155 15))), some (.int s.1), none, none] [] s.2 M' (some (.int r)) := lp_ind (P := fun (s : Int32 × Mem) => XM l E (RX11, "aDish", cX11_aDish, 5) (some .boolean) 13 25 [some (.ref 155), some (.int (10 * (M 155 15))), some (.int s.1), none, none] [] s.2 M' (some (.int r))) (fun s t hb hk he => by
        obtain ⟨i4, M5⟩ := s
        show XM l E (RX11, "aDish", cX11_aDish, 5) (some .boolean) 13 25 [some (.ref 155), some (.int (10 * (M 155 15))), some (.int i4), none, none] [] M5 M' (some (.int r))
        change w_X11_aDish_25 M i4 M5 = some t at hb
        unfold w_X11_aDish_25 at hb
        refine ex_aload_n dX11_aDish_25 rfl ?_
        refine mx_geti 11 dX11_aDish_26 fl_X11_160 oc_at_155 (isi_11_18 oc_at_155) ?_
        refine ex_iconst 2 dX11_aDish_29 kI_2 ?_
        refine ex_icmp_ne 154 dX11_aDish_30 (by decide) (fun c6 => ?_) (fun c6 => ?_)
        · rw [if_neg c6] at hb
          refine ex_mskL [true, true, true, false, false] (L2 := [some (.ref 155), some (.int (10 * (M 155 15))), some (.int i4), none, none]) rfl ?_
          cases hb
          cases (he _ rfl) <;> exact hx
        · rw [if_pos c6] at hb
          refine ex_iconst 0 dX11_aDish_33 kI_0 ?_
          refine ex_istore_n (L2 := [some (.ref 155), some (.int (10 * (M 155 15))), some (.int i4), some (.int 0), none]) dX11_aDish_34 (by decide) rfl ?_
          refine ex_iconst 0 dX11_aDish_35 kI_0 ?_
          refine ex_istore (L2 := [some (.ref 155), some (.int (10 * (M 155 15))), some (.int i4), some (.int 0), some (.int 0)]) dX11_aDish_36 (by decide) rfl ?_
          refine ex_mskL [true, true, true, true, true] (L2 := [some (.ref 155), some (.int (10 * (M 155 15))), some (.int i4), some (.int 0), some (.int 0)]) rfl ?_
          obtain ⟨q13, hlq13, hb⟩ := b1E hb
          have hx : XM l E (RX11, "aDish", cX11_aDish, 5) (some .boolean) 13 80 [some (.ref 155), some (.int (10 * (M 155 15))), some (.int i4), some (.int q13), none] [] M5 M' (some (.int r)) := by
            refine ex_aload_n dX11_aDish_80 rfl ?_
            refine ex_aload_n dX11_aDish_81 rfl ?_
            refine mx_geti 11 dX11_aDish_82 fl_X11_173 oc_at_155 (isi_11_20 oc_at_155) ?_
            refine mx_cVi [.int (M5 155 20)] [] 155 11 (f_X11_isKind (M5 155 20) M5) dX11_aDish_85 cl_X11_239 im_X11_isKind cy_X11_isKind oc_at_155 rfl (Nat.le_of_ble_eq_true rfl) (by decide) (t_X11_isKind l E (M5 155 20) M5 rfl) ?_
            refine ex_if_eq 95 dX11_aDish_88 (by decide) (fun c14 => ?_) (fun c14 => ?_)
            · rw [if_pos c14] at hb
              refine ex_mskL [true, false, false, false, false] (L2 := [some (.ref 155), none, none, none, none]) rfl ?_
              cases hb
              cases (he _ rfl) <;> exact hx
            · rw [if_neg c14] at hb
              refine ex_iload_n dX11_aDish_91 rfl ?_
              refine ex_if_eq 101 dX11_aDish_92 (by decide) (fun c15 => ?_) (fun c15 => ?_)
              · rw [if_pos c15] at hb
                refine ex_iload_n dX11_aDish_101 rfl ?_
                refine ex_iconst 4 dX11_aDish_102 kI_4 ?_
                refine ex_icmp_ne 112 dX11_aDish_103 (by decide) (fun c16 => ?_) (fun c16 => ?_)
                · rw [if_neg c16] at hb
                  refine ex_aload_n dX11_aDish_112 rfl ?_
                  refine ex_iload_n dX11_aDish_113 rfl ?_
                  refine ex_iconst 2 dX11_aDish_114 kI_2 ?_
                  refine ex_iadd dX11_aDish_115 ?_
                  refine ex_iconst 2 dX11_aDish_116 kI_2 ?_
                  refine ex_iload_n dX11_aDish_117 rfl ?_
                  refine ex_imul dX11_aDish_118 ?_
                  refine ex_iadd dX11_aDish_119 ?_
                  refine ex_iconst 0 dX11_aDish_120 kI_0 ?_
                  refine ex_bipush 6 dX11_aDish_121 kB_6 ?_
                  obtain ⟨M17, x18, qx18, hb⟩ := b2E hb
                  refine mx_cVi [.int (((10 * (M 155 15)) + 2) + (2 * i4)), .int 0, .int 6] [] 155 11 x18 dX11_aDish_123 cl_X11_229 im_X11_number cy_X11_number oc_at_155 rfl (Nat.le_of_ble_eq_true rfl) (by decide) (t_X11_number l E (((10 * (M 155 15)) + 2) + (2 * i4)) 0 6 M5 qx18) ?_
                  refine ex_if_eq 146 dX11_aDish_126 (by decide) (fun c19 => ?_) (fun c19 => ?_)
                  · rw [if_pos c19] at hb
                    refine ex_mskL [false, false, false, false, false] (L2 := [none, none, none, none, none]) rfl ?_
                    cases hb
                    cases (he _ rfl) <;> exact hx
                  · rw [if_neg c19] at hb
                    refine ex_aload_n dX11_aDish_129 rfl ?_
                    refine ex_iload_n dX11_aDish_130 rfl ?_
                    refine ex_iconst 3 dX11_aDish_131 kI_3 ?_
                    refine ex_iadd dX11_aDish_132 ?_
                    refine ex_iconst 2 dX11_aDish_133 kI_2 ?_
                    refine ex_iload_n dX11_aDish_134 rfl ?_
                    refine ex_imul dX11_aDish_135 ?_
                    refine ex_iadd dX11_aDish_136 ?_
                    refine ex_iconst 1 dX11_aDish_137 kI_1 ?_
                    refine ex_bipush 99 dX11_aDish_138 kB_99 ?_
                    obtain ⟨M20, x21, qx21, hb⟩ := b2E hb
                    refine mx_cVi [.int (((10 * (M 155 15)) + 3) + (2 * i4)), .int 1, .int 99] [] 155 11 x21 dX11_aDish_140 cl_X11_229 im_X11_number cy_X11_number oc_at_155 rfl (Nat.le_of_ble_eq_true rfl) (by decide) (t_X11_number l E (((10 * (M 155 15)) + 3) + (2 * i4)) 1 99 M17 qx21) ?_
                    refine ex_if_ne 148 dX11_aDish_143 (by decide) (fun c22 => ?_) (fun c22 => ?_)
                    · rw [if_neg c22] at hb
                      refine ex_iinc 1 (L2 := [some (.ref 155), some (.int (10 * (M 155 15))), some (.int (i4 + 1)), some (.int q13), none]) dX11_aDish_148 rfl kI_1 (by decide) rfl ?_
                      refine ex_goto 25 dX11_aDish_151 (by decide) ?_
                      refine ex_mskL [true, true, true, false, false] (L2 := [some (.ref 155), some (.int (10 * (M 155 15))), some (.int (i4 + 1)), none, none]) rfl ?_
                      cases hb
                      exact hk ((i4 + 1), M20) rfl
                    · rw [if_pos c22] at hb
                      refine ex_mskL [false, false, false, false, false] (L2 := [none, none, none, none, none]) rfl ?_
                      cases hb
                      cases (he _ rfl) <;> exact hx
                · rw [if_pos c16] at hb
                  refine ex_mskL [true, false, false, false, false] (L2 := [some (.ref 155), none, none, none, none]) rfl ?_
                  cases hb
                  cases (he _ rfl) <;> exact hx
              · rw [if_neg c15] at hb
                refine ex_mskL [true, false, false, false, false] (L2 := [some (.ref 155), none, none, none, none]) rfl ?_
                cases hb
                cases (he _ rfl) <;> exact hx
          clear hb
          have key : ∀ (k : Nat) (s : Int32 × Int32), lp (fun s => w_X11_aDish_38 M i4 M5 s.1 s.2) k s = some q13 → XM l E (RX11, "aDish", cX11_aDish, 5) (some .boolean) 13 38 [some (.ref 155), some (.int (10 * (M 155 15))), some (.int i4), some (.int s.1), some (.int s.2)] [] M5 M' (some (.int r)) := lp_ind (P := fun (s : Int32 × Int32) => XM l E (RX11, "aDish", cX11_aDish, 5) (some .boolean) 13 38 [some (.ref 155), some (.int (10 * (M 155 15))), some (.int i4), some (.int s.1), some (.int s.2)] [] M5 M' (some (.int r))) (fun s t hb hk he => by
            obtain ⟨i7, i8⟩ := s
            show XM l E (RX11, "aDish", cX11_aDish, 5) (some .boolean) 13 38 [some (.ref 155), some (.int (10 * (M 155 15))), some (.int i4), some (.int i7), some (.int i8)] [] M5 M' (some (.int r))
            change w_X11_aDish_38 M i4 M5 i7 i8 = some t at hb
            unfold w_X11_aDish_38 at hb
            refine ex_iload dX11_aDish_38 rfl ?_
            refine ex_iload_n dX11_aDish_40 rfl ?_
            refine ex_icmp_ge 80 dX11_aDish_41 (by decide) (fun c9 => ?_) (fun c9 => ?_)
            · rw [if_pos c9] at hb
              refine ex_mskL [true, true, true, true, false] (L2 := [some (.ref 155), some (.int (10 * (M 155 15))), some (.int i4), some (.int i7), none]) rfl ?_
              cases hb
              cases (he _ rfl) <;> exact hx
            · rw [if_neg c9] at hb
              refine ex_iload_n dX11_aDish_44 rfl ?_
              refine ex_if_ne 68 dX11_aDish_45 (by decide) (fun c10 => ?_) (fun c10 => ?_)
              · rw [if_neg c10] at hb
                refine ex_iconst 1 dX11_aDish_68 kI_1 ?_
                refine ex_goto 73 dX11_aDish_69 (by decide) ?_
                refine ex_istore_n (L2 := [some (.ref 155), some (.int (10 * (M 155 15))), some (.int i4), some (.int 1), some (.int i8)]) dX11_aDish_73 (by decide) rfl ?_
                refine ex_iinc 1 (L2 := [some (.ref 155), some (.int (10 * (M 155 15))), some (.int i4), some (.int 1), some (.int (i8 + 1))]) dX11_aDish_74 rfl kI_1 (by decide) rfl ?_
                refine ex_goto 38 dX11_aDish_77 (by decide) ?_
                refine ex_mskL [true, true, true, true, true] (L2 := [some (.ref 155), some (.int (10 * (M 155 15))), some (.int i4), some (.int 1), some (.int (i8 + 1))]) rfl ?_
                cases hb
                exact hk (1, (i8 + 1)) rfl
              · rw [if_pos c10] at hb
                refine ex_aload_n dX11_aDish_48 rfl ?_
                refine mx_getr 11 162 dX11_aDish_49 fl_X11_28 oc_at_155 (rf_11_8 oc_at_155) ?_
                refine ex_iload_n dX11_aDish_52 rfl ?_
                refine ex_iconst 2 dX11_aDish_53 kI_2 ?_
                refine ex_iadd dX11_aDish_54 ?_
                refine ex_iconst 2 dX11_aDish_55 kI_2 ?_
                refine ex_iload dX11_aDish_56 rfl ?_
                refine ex_imul dX11_aDish_58 ?_
                refine ex_iadd dX11_aDish_59 ?_
                obtain ⟨x11, qx11, hb⟩ := b1E hb
                refine mx_iald x11 dX11_aDish_60 qx11 ?_
                refine ex_aload_n dX11_aDish_61 rfl ?_
                refine mx_geti 11 dX11_aDish_62 fl_X11_173 oc_at_155 (isi_11_20 oc_at_155) ?_
                refine ex_icmp_ne 72 dX11_aDish_65 (by decide) (fun c12 => ?_) (fun c12 => ?_)
                · rw [if_neg c12] at hb
                  refine ex_iconst 0 dX11_aDish_72 kI_0 ?_
                  refine ex_istore_n (L2 := [some (.ref 155), some (.int (10 * (M 155 15))), some (.int i4), some (.int 0), some (.int i8)]) dX11_aDish_73 (by decide) rfl ?_
                  refine ex_iinc 1 (L2 := [some (.ref 155), some (.int (10 * (M 155 15))), some (.int i4), some (.int 0), some (.int (i8 + 1))]) dX11_aDish_74 rfl kI_1 (by decide) rfl ?_
                  refine ex_goto 38 dX11_aDish_77 (by decide) ?_
                  refine ex_mskL [true, true, true, true, true] (L2 := [some (.ref 155), some (.int (10 * (M 155 15))), some (.int i4), some (.int 0), some (.int (i8 + 1))]) rfl ?_
                  cases hb
                  exact hk (0, (i8 + 1)) rfl
                · rw [if_pos c12] at hb
                  refine ex_iconst 1 dX11_aDish_68 kI_1 ?_
                  refine ex_goto 73 dX11_aDish_69 (by decide) ?_
                  refine ex_istore_n (L2 := [some (.ref 155), some (.int (10 * (M 155 15))), some (.int i4), some (.int 1), some (.int i8)]) dX11_aDish_73 (by decide) rfl ?_
                  refine ex_iinc 1 (L2 := [some (.ref 155), some (.int (10 * (M 155 15))), some (.int i4), some (.int 1), some (.int (i8 + 1))]) dX11_aDish_74 rfl kI_1 (by decide) rfl ?_
                  refine ex_goto 38 dX11_aDish_77 (by decide) ?_
                  refine ex_mskL [true, true, true, true, true] (L2 := [some (.ref 155), some (.int (10 * (M 155 15))), some (.int i4), some (.int 1), some (.int (i8 + 1))]) rfl ?_
                  cases hb
                  exact hk (1, (i8 + 1)) rfl)
          exact key FU (0, 0) hlq13)
      exact key FU (0, M1) hlq23
    · dsimp only at h
      have hx : XM l E (RX11, "aDish", cX11_aDish, 5) (some .boolean) 13 106 [some (.ref 155), none, none, none, none] [] u27 M' (some (.int r)) := by
        refine ex_aload_n dX11_aDish_106 rfl ?_
        refine ex_iconst 3 dX11_aDish_107 kI_3 ?_
        obtain ⟨p28, ep28, h⟩ := ltE h
        refine mx_cVi [.int 3] [] 155 11 p28.2 dX11_aDish_108 cl_X11_182 im_X11_bad cy_X11_bad oc_at_155 rfl (Nat.le_of_ble_eq_true rfl) (by decide) (t_X11_bad l E 3 u27 ep28.symm) ?_
        obtain ⟨x29, qx29, h⟩ := b1E h
        obtain ⟨ex29, nx29⟩ := gzE qx29
        rw [← ex29] at h
        cases h
        exact mx_reti .boolean dX11_aDish_111 ⟨rfl, nx29⟩
      clear h
      have key : ∀ (k : Nat) (s : Int32 × Mem), lp (fun s => w_X11_aDish_25 M s.1 s.2) k s = some (.inr (.inl u27)) → XM l E (RX11, "aDish", cX11_aDish, 5) (some .boolean) 13 25 [some (.ref 155), some (.int (10 * (M 155 15))), some (.int s.1), none, none] [] s.2 M' (some (.int r)) := lp_ind (P := fun (s : Int32 × Mem) => XM l E (RX11, "aDish", cX11_aDish, 5) (some .boolean) 13 25 [some (.ref 155), some (.int (10 * (M 155 15))), some (.int s.1), none, none] [] s.2 M' (some (.int r))) (fun s t hb hk he => by
        obtain ⟨i4, M5⟩ := s
        show XM l E (RX11, "aDish", cX11_aDish, 5) (some .boolean) 13 25 [some (.ref 155), some (.int (10 * (M 155 15))), some (.int i4), none, none] [] M5 M' (some (.int r))
        change w_X11_aDish_25 M i4 M5 = some t at hb
        unfold w_X11_aDish_25 at hb
        refine ex_aload_n dX11_aDish_25 rfl ?_
        refine mx_geti 11 dX11_aDish_26 fl_X11_160 oc_at_155 (isi_11_18 oc_at_155) ?_
        refine ex_iconst 2 dX11_aDish_29 kI_2 ?_
        refine ex_icmp_ne 154 dX11_aDish_30 (by decide) (fun c6 => ?_) (fun c6 => ?_)
        · rw [if_neg c6] at hb
          refine ex_mskL [true, true, true, false, false] (L2 := [some (.ref 155), some (.int (10 * (M 155 15))), some (.int i4), none, none]) rfl ?_
          cases hb
          cases (he _ rfl) <;> exact hx
        · rw [if_pos c6] at hb
          refine ex_iconst 0 dX11_aDish_33 kI_0 ?_
          refine ex_istore_n (L2 := [some (.ref 155), some (.int (10 * (M 155 15))), some (.int i4), some (.int 0), none]) dX11_aDish_34 (by decide) rfl ?_
          refine ex_iconst 0 dX11_aDish_35 kI_0 ?_
          refine ex_istore (L2 := [some (.ref 155), some (.int (10 * (M 155 15))), some (.int i4), some (.int 0), some (.int 0)]) dX11_aDish_36 (by decide) rfl ?_
          refine ex_mskL [true, true, true, true, true] (L2 := [some (.ref 155), some (.int (10 * (M 155 15))), some (.int i4), some (.int 0), some (.int 0)]) rfl ?_
          obtain ⟨q13, hlq13, hb⟩ := b1E hb
          have hx : XM l E (RX11, "aDish", cX11_aDish, 5) (some .boolean) 13 80 [some (.ref 155), some (.int (10 * (M 155 15))), some (.int i4), some (.int q13), none] [] M5 M' (some (.int r)) := by
            refine ex_aload_n dX11_aDish_80 rfl ?_
            refine ex_aload_n dX11_aDish_81 rfl ?_
            refine mx_geti 11 dX11_aDish_82 fl_X11_173 oc_at_155 (isi_11_20 oc_at_155) ?_
            refine mx_cVi [.int (M5 155 20)] [] 155 11 (f_X11_isKind (M5 155 20) M5) dX11_aDish_85 cl_X11_239 im_X11_isKind cy_X11_isKind oc_at_155 rfl (Nat.le_of_ble_eq_true rfl) (by decide) (t_X11_isKind l E (M5 155 20) M5 rfl) ?_
            refine ex_if_eq 95 dX11_aDish_88 (by decide) (fun c14 => ?_) (fun c14 => ?_)
            · rw [if_pos c14] at hb
              refine ex_mskL [true, false, false, false, false] (L2 := [some (.ref 155), none, none, none, none]) rfl ?_
              cases hb
              cases (he _ rfl) <;> exact hx
            · rw [if_neg c14] at hb
              refine ex_iload_n dX11_aDish_91 rfl ?_
              refine ex_if_eq 101 dX11_aDish_92 (by decide) (fun c15 => ?_) (fun c15 => ?_)
              · rw [if_pos c15] at hb
                refine ex_iload_n dX11_aDish_101 rfl ?_
                refine ex_iconst 4 dX11_aDish_102 kI_4 ?_
                refine ex_icmp_ne 112 dX11_aDish_103 (by decide) (fun c16 => ?_) (fun c16 => ?_)
                · rw [if_neg c16] at hb
                  refine ex_aload_n dX11_aDish_112 rfl ?_
                  refine ex_iload_n dX11_aDish_113 rfl ?_
                  refine ex_iconst 2 dX11_aDish_114 kI_2 ?_
                  refine ex_iadd dX11_aDish_115 ?_
                  refine ex_iconst 2 dX11_aDish_116 kI_2 ?_
                  refine ex_iload_n dX11_aDish_117 rfl ?_
                  refine ex_imul dX11_aDish_118 ?_
                  refine ex_iadd dX11_aDish_119 ?_
                  refine ex_iconst 0 dX11_aDish_120 kI_0 ?_
                  refine ex_bipush 6 dX11_aDish_121 kB_6 ?_
                  obtain ⟨M17, x18, qx18, hb⟩ := b2E hb
                  refine mx_cVi [.int (((10 * (M 155 15)) + 2) + (2 * i4)), .int 0, .int 6] [] 155 11 x18 dX11_aDish_123 cl_X11_229 im_X11_number cy_X11_number oc_at_155 rfl (Nat.le_of_ble_eq_true rfl) (by decide) (t_X11_number l E (((10 * (M 155 15)) + 2) + (2 * i4)) 0 6 M5 qx18) ?_
                  refine ex_if_eq 146 dX11_aDish_126 (by decide) (fun c19 => ?_) (fun c19 => ?_)
                  · rw [if_pos c19] at hb
                    refine ex_mskL [false, false, false, false, false] (L2 := [none, none, none, none, none]) rfl ?_
                    cases hb
                    cases (he _ rfl) <;> exact hx
                  · rw [if_neg c19] at hb
                    refine ex_aload_n dX11_aDish_129 rfl ?_
                    refine ex_iload_n dX11_aDish_130 rfl ?_
                    refine ex_iconst 3 dX11_aDish_131 kI_3 ?_
                    refine ex_iadd dX11_aDish_132 ?_
                    refine ex_iconst 2 dX11_aDish_133 kI_2 ?_
                    refine ex_iload_n dX11_aDish_134 rfl ?_
                    refine ex_imul dX11_aDish_135 ?_
                    refine ex_iadd dX11_aDish_136 ?_
                    refine ex_iconst 1 dX11_aDish_137 kI_1 ?_
                    refine ex_bipush 99 dX11_aDish_138 kB_99 ?_
                    obtain ⟨M20, x21, qx21, hb⟩ := b2E hb
                    refine mx_cVi [.int (((10 * (M 155 15)) + 3) + (2 * i4)), .int 1, .int 99] [] 155 11 x21 dX11_aDish_140 cl_X11_229 im_X11_number cy_X11_number oc_at_155 rfl (Nat.le_of_ble_eq_true rfl) (by decide) (t_X11_number l E (((10 * (M 155 15)) + 3) + (2 * i4)) 1 99 M17 qx21) ?_
                    refine ex_if_ne 148 dX11_aDish_143 (by decide) (fun c22 => ?_) (fun c22 => ?_)
                    · rw [if_neg c22] at hb
                      refine ex_iinc 1 (L2 := [some (.ref 155), some (.int (10 * (M 155 15))), some (.int (i4 + 1)), some (.int q13), none]) dX11_aDish_148 rfl kI_1 (by decide) rfl ?_
                      refine ex_goto 25 dX11_aDish_151 (by decide) ?_
                      refine ex_mskL [true, true, true, false, false] (L2 := [some (.ref 155), some (.int (10 * (M 155 15))), some (.int (i4 + 1)), none, none]) rfl ?_
                      cases hb
                      exact hk ((i4 + 1), M20) rfl
                    · rw [if_pos c22] at hb
                      refine ex_mskL [false, false, false, false, false] (L2 := [none, none, none, none, none]) rfl ?_
                      cases hb
                      cases (he _ rfl) <;> exact hx
                · rw [if_pos c16] at hb
                  refine ex_mskL [true, false, false, false, false] (L2 := [some (.ref 155), none, none, none, none]) rfl ?_
                  cases hb
                  cases (he _ rfl) <;> exact hx
              · rw [if_neg c15] at hb
                refine ex_mskL [true, false, false, false, false] (L2 := [some (.ref 155), none, none, none, none]) rfl ?_
                cases hb
                cases (he _ rfl) <;> exact hx
          clear hb
          have key : ∀ (k : Nat) (s : Int32 × Int32), lp (fun s => w_X11_aDish_38 M i4 M5 s.1 s.2) k s = some q13 → XM l E (RX11, "aDish", cX11_aDish, 5) (some .boolean) 13 38 [some (.ref 155), some (.int (10 * (M 155 15))), some (.int i4), some (.int s.1), some (.int s.2)] [] M5 M' (some (.int r)) := lp_ind (P := fun (s : Int32 × Int32) => XM l E (RX11, "aDish", cX11_aDish, 5) (some .boolean) 13 38 [some (.ref 155), some (.int (10 * (M 155 15))), some (.int i4), some (.int s.1), some (.int s.2)] [] M5 M' (some (.int r))) (fun s t hb hk he => by
            obtain ⟨i7, i8⟩ := s
            show XM l E (RX11, "aDish", cX11_aDish, 5) (some .boolean) 13 38 [some (.ref 155), some (.int (10 * (M 155 15))), some (.int i4), some (.int i7), some (.int i8)] [] M5 M' (some (.int r))
            change w_X11_aDish_38 M i4 M5 i7 i8 = some t at hb
            unfold w_X11_aDish_38 at hb
            refine ex_iload dX11_aDish_38 rfl ?_
            refine ex_iload_n dX11_aDish_40 rfl ?_
            refine ex_icmp_ge 80 dX11_aDish_41 (by decide) (fun c9 => ?_) (fun c9 => ?_)
            · rw [if_pos c9] at hb
              refine ex_mskL [true, true, true, true, false] (L2 := [some (.ref 155), some (.int (10 * (M 155 15))), some (.int i4), some (.int i7), none]) rfl ?_
              cases hb
              cases (he _ rfl) <;> exact hx
            · rw [if_neg c9] at hb
              refine ex_iload_n dX11_aDish_44 rfl ?_
              refine ex_if_ne 68 dX11_aDish_45 (by decide) (fun c10 => ?_) (fun c10 => ?_)
              · rw [if_neg c10] at hb
                refine ex_iconst 1 dX11_aDish_68 kI_1 ?_
                refine ex_goto 73 dX11_aDish_69 (by decide) ?_
                refine ex_istore_n (L2 := [some (.ref 155), some (.int (10 * (M 155 15))), some (.int i4), some (.int 1), some (.int i8)]) dX11_aDish_73 (by decide) rfl ?_
                refine ex_iinc 1 (L2 := [some (.ref 155), some (.int (10 * (M 155 15))), some (.int i4), some (.int 1), some (.int (i8 + 1))]) dX11_aDish_74 rfl kI_1 (by decide) rfl ?_
                refine ex_goto 38 dX11_aDish_77 (by decide) ?_
                refine ex_mskL [true, true, true, true, true] (L2 := [some (.ref 155), some (.int (10 * (M 155 15))), some (.int i4), some (.int 1), some (.int (i8 + 1))]) rfl ?_
                cases hb
                exact hk (1, (i8 + 1)) rfl
              · rw [if_pos c10] at hb
                refine ex_aload_n dX11_aDish_48 rfl ?_
                refine mx_getr 11 162 dX11_aDish_49 fl_X11_28 oc_at_155 (rf_11_8 oc_at_155) ?_
                refine ex_iload_n dX11_aDish_52 rfl ?_
                refine ex_iconst 2 dX11_aDish_53 kI_2 ?_
                refine ex_iadd dX11_aDish_54 ?_
                refine ex_iconst 2 dX11_aDish_55 kI_2 ?_
                refine ex_iload dX11_aDish_56 rfl ?_
                refine ex_imul dX11_aDish_58 ?_
                refine ex_iadd dX11_aDish_59 ?_
                obtain ⟨x11, qx11, hb⟩ := b1E hb
                refine mx_iald x11 dX11_aDish_60 qx11 ?_
                refine ex_aload_n dX11_aDish_61 rfl ?_
                refine mx_geti 11 dX11_aDish_62 fl_X11_173 oc_at_155 (isi_11_20 oc_at_155) ?_
                refine ex_icmp_ne 72 dX11_aDish_65 (by decide) (fun c12 => ?_) (fun c12 => ?_)
                · rw [if_neg c12] at hb
                  refine ex_iconst 0 dX11_aDish_72 kI_0 ?_
                  refine ex_istore_n (L2 := [some (.ref 155), some (.int (10 * (M 155 15))), some (.int i4), some (.int 0), some (.int i8)]) dX11_aDish_73 (by decide) rfl ?_
                  refine ex_iinc 1 (L2 := [some (.ref 155), some (.int (10 * (M 155 15))), some (.int i4), some (.int 0), some (.int (i8 + 1))]) dX11_aDish_74 rfl kI_1 (by decide) rfl ?_
                  refine ex_goto 38 dX11_aDish_77 (by decide) ?_
                  refine ex_mskL [true, true, true, true, true] (L2 := [some (.ref 155), some (.int (10 * (M 155 15))), some (.int i4), some (.int 0), some (.int (i8 + 1))]) rfl ?_
                  cases hb
                  exact hk (0, (i8 + 1)) rfl
                · rw [if_pos c12] at hb
                  refine ex_iconst 1 dX11_aDish_68 kI_1 ?_
                  refine ex_goto 73 dX11_aDish_69 (by decide) ?_
                  refine ex_istore_n (L2 := [some (.ref 155), some (.int (10 * (M 155 15))), some (.int i4), some (.int 1), some (.int i8)]) dX11_aDish_73 (by decide) rfl ?_
                  refine ex_iinc 1 (L2 := [some (.ref 155), some (.int (10 * (M 155 15))), some (.int i4), some (.int 1), some (.int (i8 + 1))]) dX11_aDish_74 rfl kI_1 (by decide) rfl ?_
                  refine ex_goto 38 dX11_aDish_77 (by decide) ?_
                  refine ex_mskL [true, true, true, true, true] (L2 := [some (.ref 155), some (.int (10 * (M 155 15))), some (.int i4), some (.int 1), some (.int (i8 + 1))]) rfl ?_
                  cases hb
                  exact hk (1, (i8 + 1)) rfl)
          exact key FU (0, 0) hlq13)
      exact key FU (0, M1) hlq23
    · dsimp only at h
      have hx : XM l E (RX11, "aDish", cX11_aDish, 5) (some .boolean) 13 146 [none, none, none, none, none] [] u30 M' (some (.int r)) := by
        refine ex_iconst 0 dX11_aDish_146 kI_0 ?_
        cases h
        exact mx_reti .boolean dX11_aDish_147 ⟨rfl, by decide⟩
      clear h
      have key : ∀ (k : Nat) (s : Int32 × Mem), lp (fun s => w_X11_aDish_25 M s.1 s.2) k s = some (.inr (.inr (.inl u30))) → XM l E (RX11, "aDish", cX11_aDish, 5) (some .boolean) 13 25 [some (.ref 155), some (.int (10 * (M 155 15))), some (.int s.1), none, none] [] s.2 M' (some (.int r)) := lp_ind (P := fun (s : Int32 × Mem) => XM l E (RX11, "aDish", cX11_aDish, 5) (some .boolean) 13 25 [some (.ref 155), some (.int (10 * (M 155 15))), some (.int s.1), none, none] [] s.2 M' (some (.int r))) (fun s t hb hk he => by
        obtain ⟨i4, M5⟩ := s
        show XM l E (RX11, "aDish", cX11_aDish, 5) (some .boolean) 13 25 [some (.ref 155), some (.int (10 * (M 155 15))), some (.int i4), none, none] [] M5 M' (some (.int r))
        change w_X11_aDish_25 M i4 M5 = some t at hb
        unfold w_X11_aDish_25 at hb
        refine ex_aload_n dX11_aDish_25 rfl ?_
        refine mx_geti 11 dX11_aDish_26 fl_X11_160 oc_at_155 (isi_11_18 oc_at_155) ?_
        refine ex_iconst 2 dX11_aDish_29 kI_2 ?_
        refine ex_icmp_ne 154 dX11_aDish_30 (by decide) (fun c6 => ?_) (fun c6 => ?_)
        · rw [if_neg c6] at hb
          refine ex_mskL [true, true, true, false, false] (L2 := [some (.ref 155), some (.int (10 * (M 155 15))), some (.int i4), none, none]) rfl ?_
          cases hb
          cases (he _ rfl) <;> exact hx
        · rw [if_pos c6] at hb
          refine ex_iconst 0 dX11_aDish_33 kI_0 ?_
          refine ex_istore_n (L2 := [some (.ref 155), some (.int (10 * (M 155 15))), some (.int i4), some (.int 0), none]) dX11_aDish_34 (by decide) rfl ?_
          refine ex_iconst 0 dX11_aDish_35 kI_0 ?_
          refine ex_istore (L2 := [some (.ref 155), some (.int (10 * (M 155 15))), some (.int i4), some (.int 0), some (.int 0)]) dX11_aDish_36 (by decide) rfl ?_
          refine ex_mskL [true, true, true, true, true] (L2 := [some (.ref 155), some (.int (10 * (M 155 15))), some (.int i4), some (.int 0), some (.int 0)]) rfl ?_
          obtain ⟨q13, hlq13, hb⟩ := b1E hb
          have hx : XM l E (RX11, "aDish", cX11_aDish, 5) (some .boolean) 13 80 [some (.ref 155), some (.int (10 * (M 155 15))), some (.int i4), some (.int q13), none] [] M5 M' (some (.int r)) := by
            refine ex_aload_n dX11_aDish_80 rfl ?_
            refine ex_aload_n dX11_aDish_81 rfl ?_
            refine mx_geti 11 dX11_aDish_82 fl_X11_173 oc_at_155 (isi_11_20 oc_at_155) ?_
            refine mx_cVi [.int (M5 155 20)] [] 155 11 (f_X11_isKind (M5 155 20) M5) dX11_aDish_85 cl_X11_239 im_X11_isKind cy_X11_isKind oc_at_155 rfl (Nat.le_of_ble_eq_true rfl) (by decide) (t_X11_isKind l E (M5 155 20) M5 rfl) ?_
            refine ex_if_eq 95 dX11_aDish_88 (by decide) (fun c14 => ?_) (fun c14 => ?_)
            · rw [if_pos c14] at hb
              refine ex_mskL [true, false, false, false, false] (L2 := [some (.ref 155), none, none, none, none]) rfl ?_
              cases hb
              cases (he _ rfl) <;> exact hx
            · rw [if_neg c14] at hb
              refine ex_iload_n dX11_aDish_91 rfl ?_
              refine ex_if_eq 101 dX11_aDish_92 (by decide) (fun c15 => ?_) (fun c15 => ?_)
              · rw [if_pos c15] at hb
                refine ex_iload_n dX11_aDish_101 rfl ?_
                refine ex_iconst 4 dX11_aDish_102 kI_4 ?_
                refine ex_icmp_ne 112 dX11_aDish_103 (by decide) (fun c16 => ?_) (fun c16 => ?_)
                · rw [if_neg c16] at hb
                  refine ex_aload_n dX11_aDish_112 rfl ?_
                  refine ex_iload_n dX11_aDish_113 rfl ?_
                  refine ex_iconst 2 dX11_aDish_114 kI_2 ?_
                  refine ex_iadd dX11_aDish_115 ?_
                  refine ex_iconst 2 dX11_aDish_116 kI_2 ?_
                  refine ex_iload_n dX11_aDish_117 rfl ?_
                  refine ex_imul dX11_aDish_118 ?_
                  refine ex_iadd dX11_aDish_119 ?_
                  refine ex_iconst 0 dX11_aDish_120 kI_0 ?_
                  refine ex_bipush 6 dX11_aDish_121 kB_6 ?_
                  obtain ⟨M17, x18, qx18, hb⟩ := b2E hb
                  refine mx_cVi [.int (((10 * (M 155 15)) + 2) + (2 * i4)), .int 0, .int 6] [] 155 11 x18 dX11_aDish_123 cl_X11_229 im_X11_number cy_X11_number oc_at_155 rfl (Nat.le_of_ble_eq_true rfl) (by decide) (t_X11_number l E (((10 * (M 155 15)) + 2) + (2 * i4)) 0 6 M5 qx18) ?_
                  refine ex_if_eq 146 dX11_aDish_126 (by decide) (fun c19 => ?_) (fun c19 => ?_)
                  · rw [if_pos c19] at hb
                    refine ex_mskL [false, false, false, false, false] (L2 := [none, none, none, none, none]) rfl ?_
                    cases hb
                    cases (he _ rfl) <;> exact hx
                  · rw [if_neg c19] at hb
                    refine ex_aload_n dX11_aDish_129 rfl ?_
                    refine ex_iload_n dX11_aDish_130 rfl ?_
                    refine ex_iconst 3 dX11_aDish_131 kI_3 ?_
                    refine ex_iadd dX11_aDish_132 ?_
                    refine ex_iconst 2 dX11_aDish_133 kI_2 ?_
                    refine ex_iload_n dX11_aDish_134 rfl ?_
                    refine ex_imul dX11_aDish_135 ?_
                    refine ex_iadd dX11_aDish_136 ?_
                    refine ex_iconst 1 dX11_aDish_137 kI_1 ?_
                    refine ex_bipush 99 dX11_aDish_138 kB_99 ?_
                    obtain ⟨M20, x21, qx21, hb⟩ := b2E hb
                    refine mx_cVi [.int (((10 * (M 155 15)) + 3) + (2 * i4)), .int 1, .int 99] [] 155 11 x21 dX11_aDish_140 cl_X11_229 im_X11_number cy_X11_number oc_at_155 rfl (Nat.le_of_ble_eq_true rfl) (by decide) (t_X11_number l E (((10 * (M 155 15)) + 3) + (2 * i4)) 1 99 M17 qx21) ?_
                    refine ex_if_ne 148 dX11_aDish_143 (by decide) (fun c22 => ?_) (fun c22 => ?_)
                    · rw [if_neg c22] at hb
                      refine ex_iinc 1 (L2 := [some (.ref 155), some (.int (10 * (M 155 15))), some (.int (i4 + 1)), some (.int q13), none]) dX11_aDish_148 rfl kI_1 (by decide) rfl ?_
                      refine ex_goto 25 dX11_aDish_151 (by decide) ?_
                      refine ex_mskL [true, true, true, false, false] (L2 := [some (.ref 155), some (.int (10 * (M 155 15))), some (.int (i4 + 1)), none, none]) rfl ?_
                      cases hb
                      exact hk ((i4 + 1), M20) rfl
                    · rw [if_pos c22] at hb
                      refine ex_mskL [false, false, false, false, false] (L2 := [none, none, none, none, none]) rfl ?_
                      cases hb
                      cases (he _ rfl) <;> exact hx
                · rw [if_pos c16] at hb
                  refine ex_mskL [true, false, false, false, false] (L2 := [some (.ref 155), none, none, none, none]) rfl ?_
                  cases hb
                  cases (he _ rfl) <;> exact hx
              · rw [if_neg c15] at hb
                refine ex_mskL [true, false, false, false, false] (L2 := [some (.ref 155), none, none, none, none]) rfl ?_
                cases hb
                cases (he _ rfl) <;> exact hx
          clear hb
          have key : ∀ (k : Nat) (s : Int32 × Int32), lp (fun s => w_X11_aDish_38 M i4 M5 s.1 s.2) k s = some q13 → XM l E (RX11, "aDish", cX11_aDish, 5) (some .boolean) 13 38 [some (.ref 155), some (.int (10 * (M 155 15))), some (.int i4), some (.int s.1), some (.int s.2)] [] M5 M' (some (.int r)) := lp_ind (P := fun (s : Int32 × Int32) => XM l E (RX11, "aDish", cX11_aDish, 5) (some .boolean) 13 38 [some (.ref 155), some (.int (10 * (M 155 15))), some (.int i4), some (.int s.1), some (.int s.2)] [] M5 M' (some (.int r))) (fun s t hb hk he => by
            obtain ⟨i7, i8⟩ := s
            show XM l E (RX11, "aDish", cX11_aDish, 5) (some .boolean) 13 38 [some (.ref 155), some (.int (10 * (M 155 15))), some (.int i4), some (.int i7), some (.int i8)] [] M5 M' (some (.int r))
            change w_X11_aDish_38 M i4 M5 i7 i8 = some t at hb
            unfold w_X11_aDish_38 at hb
            refine ex_iload dX11_aDish_38 rfl ?_
            refine ex_iload_n dX11_aDish_40 rfl ?_
            refine ex_icmp_ge 80 dX11_aDish_41 (by decide) (fun c9 => ?_) (fun c9 => ?_)
            · rw [if_pos c9] at hb
              refine ex_mskL [true, true, true, true, false] (L2 := [some (.ref 155), some (.int (10 * (M 155 15))), some (.int i4), some (.int i7), none]) rfl ?_
              cases hb
              cases (he _ rfl) <;> exact hx
            · rw [if_neg c9] at hb
              refine ex_iload_n dX11_aDish_44 rfl ?_
              refine ex_if_ne 68 dX11_aDish_45 (by decide) (fun c10 => ?_) (fun c10 => ?_)
              · rw [if_neg c10] at hb
                refine ex_iconst 1 dX11_aDish_68 kI_1 ?_
                refine ex_goto 73 dX11_aDish_69 (by decide) ?_
                refine ex_istore_n (L2 := [some (.ref 155), some (.int (10 * (M 155 15))), some (.int i4), some (.int 1), some (.int i8)]) dX11_aDish_73 (by decide) rfl ?_
                refine ex_iinc 1 (L2 := [some (.ref 155), some (.int (10 * (M 155 15))), some (.int i4), some (.int 1), some (.int (i8 + 1))]) dX11_aDish_74 rfl kI_1 (by decide) rfl ?_
                refine ex_goto 38 dX11_aDish_77 (by decide) ?_
                refine ex_mskL [true, true, true, true, true] (L2 := [some (.ref 155), some (.int (10 * (M 155 15))), some (.int i4), some (.int 1), some (.int (i8 + 1))]) rfl ?_
                cases hb
                exact hk (1, (i8 + 1)) rfl
              · rw [if_pos c10] at hb
                refine ex_aload_n dX11_aDish_48 rfl ?_
                refine mx_getr 11 162 dX11_aDish_49 fl_X11_28 oc_at_155 (rf_11_8 oc_at_155) ?_
                refine ex_iload_n dX11_aDish_52 rfl ?_
                refine ex_iconst 2 dX11_aDish_53 kI_2 ?_
                refine ex_iadd dX11_aDish_54 ?_
                refine ex_iconst 2 dX11_aDish_55 kI_2 ?_
                refine ex_iload dX11_aDish_56 rfl ?_
                refine ex_imul dX11_aDish_58 ?_
                refine ex_iadd dX11_aDish_59 ?_
                obtain ⟨x11, qx11, hb⟩ := b1E hb
                refine mx_iald x11 dX11_aDish_60 qx11 ?_
                refine ex_aload_n dX11_aDish_61 rfl ?_
                refine mx_geti 11 dX11_aDish_62 fl_X11_173 oc_at_155 (isi_11_20 oc_at_155) ?_
                refine ex_icmp_ne 72 dX11_aDish_65 (by decide) (fun c12 => ?_) (fun c12 => ?_)
                · rw [if_neg c12] at hb
                  refine ex_iconst 0 dX11_aDish_72 kI_0 ?_
                  refine ex_istore_n (L2 := [some (.ref 155), some (.int (10 * (M 155 15))), some (.int i4), some (.int 0), some (.int i8)]) dX11_aDish_73 (by decide) rfl ?_
                  refine ex_iinc 1 (L2 := [some (.ref 155), some (.int (10 * (M 155 15))), some (.int i4), some (.int 0), some (.int (i8 + 1))]) dX11_aDish_74 rfl kI_1 (by decide) rfl ?_
                  refine ex_goto 38 dX11_aDish_77 (by decide) ?_
                  refine ex_mskL [true, true, true, true, true] (L2 := [some (.ref 155), some (.int (10 * (M 155 15))), some (.int i4), some (.int 0), some (.int (i8 + 1))]) rfl ?_
                  cases hb
                  exact hk (0, (i8 + 1)) rfl
                · rw [if_pos c12] at hb
                  refine ex_iconst 1 dX11_aDish_68 kI_1 ?_
                  refine ex_goto 73 dX11_aDish_69 (by decide) ?_
                  refine ex_istore_n (L2 := [some (.ref 155), some (.int (10 * (M 155 15))), some (.int i4), some (.int 1), some (.int i8)]) dX11_aDish_73 (by decide) rfl ?_
                  refine ex_iinc 1 (L2 := [some (.ref 155), some (.int (10 * (M 155 15))), some (.int i4), some (.int 1), some (.int (i8 + 1))]) dX11_aDish_74 rfl kI_1 (by decide) rfl ?_
                  refine ex_goto 38 dX11_aDish_77 (by decide) ?_
                  refine ex_mskL [true, true, true, true, true] (L2 := [some (.ref 155), some (.int (10 * (M 155 15))), some (.int i4), some (.int 1), some (.int (i8 + 1))]) rfl ?_
                  cases hb
                  exact hk (1, (i8 + 1)) rfl)
          exact key FU (0, 0) hlq13)
      exact key FU (0, M1) hlq23
    · dsimp only at h
      have hx : XM l E (RX11, "aDish", cX11_aDish, 5) (some .boolean) 13 154 [some (.ref 155), some (.int (10 * (M 155 15))), some (.int y32), none, none] [] M33 M' (some (.int r)) := by
        refine ex_aload_n dX11_aDish_154 rfl ?_
        refine mx_getr 11 162 dX11_aDish_155 fl_X11_28 oc_at_155 (rf_11_8 oc_at_155) ?_
        refine ex_iload_n dX11_aDish_158 rfl ?_
        refine ex_iconst 1 dX11_aDish_159 kI_1 ?_
        refine ex_iadd dX11_aDish_160 ?_
        refine ex_iload_n dX11_aDish_161 rfl ?_
        obtain ⟨M34, qM34, h⟩ := b1E h
        refine mx_iast M34 dX11_aDish_162 qM34 ?_
        refine ex_iconst 1 dX11_aDish_163 kI_1 ?_
        cases h
        exact mx_reti .boolean dX11_aDish_164 ⟨rfl, by decide⟩
      clear h
      have key : ∀ (k : Nat) (s : Int32 × Mem), lp (fun s => w_X11_aDish_25 M s.1 s.2) k s = some (.inr (.inr (.inr (y32, M33)))) → XM l E (RX11, "aDish", cX11_aDish, 5) (some .boolean) 13 25 [some (.ref 155), some (.int (10 * (M 155 15))), some (.int s.1), none, none] [] s.2 M' (some (.int r)) := lp_ind (P := fun (s : Int32 × Mem) => XM l E (RX11, "aDish", cX11_aDish, 5) (some .boolean) 13 25 [some (.ref 155), some (.int (10 * (M 155 15))), some (.int s.1), none, none] [] s.2 M' (some (.int r))) (fun s t hb hk he => by
        obtain ⟨i4, M5⟩ := s
        show XM l E (RX11, "aDish", cX11_aDish, 5) (some .boolean) 13 25 [some (.ref 155), some (.int (10 * (M 155 15))), some (.int i4), none, none] [] M5 M' (some (.int r))
        change w_X11_aDish_25 M i4 M5 = some t at hb
        unfold w_X11_aDish_25 at hb
        refine ex_aload_n dX11_aDish_25 rfl ?_
        refine mx_geti 11 dX11_aDish_26 fl_X11_160 oc_at_155 (isi_11_18 oc_at_155) ?_
        refine ex_iconst 2 dX11_aDish_29 kI_2 ?_
        refine ex_icmp_ne 154 dX11_aDish_30 (by decide) (fun c6 => ?_) (fun c6 => ?_)
        · rw [if_neg c6] at hb
          refine ex_mskL [true, true, true, false, false] (L2 := [some (.ref 155), some (.int (10 * (M 155 15))), some (.int i4), none, none]) rfl ?_
          cases hb
          cases (he _ rfl) <;> exact hx
        · rw [if_pos c6] at hb
          refine ex_iconst 0 dX11_aDish_33 kI_0 ?_
          refine ex_istore_n (L2 := [some (.ref 155), some (.int (10 * (M 155 15))), some (.int i4), some (.int 0), none]) dX11_aDish_34 (by decide) rfl ?_
          refine ex_iconst 0 dX11_aDish_35 kI_0 ?_
          refine ex_istore (L2 := [some (.ref 155), some (.int (10 * (M 155 15))), some (.int i4), some (.int 0), some (.int 0)]) dX11_aDish_36 (by decide) rfl ?_
          refine ex_mskL [true, true, true, true, true] (L2 := [some (.ref 155), some (.int (10 * (M 155 15))), some (.int i4), some (.int 0), some (.int 0)]) rfl ?_
          obtain ⟨q13, hlq13, hb⟩ := b1E hb
          have hx : XM l E (RX11, "aDish", cX11_aDish, 5) (some .boolean) 13 80 [some (.ref 155), some (.int (10 * (M 155 15))), some (.int i4), some (.int q13), none] [] M5 M' (some (.int r)) := by
            refine ex_aload_n dX11_aDish_80 rfl ?_
            refine ex_aload_n dX11_aDish_81 rfl ?_
            refine mx_geti 11 dX11_aDish_82 fl_X11_173 oc_at_155 (isi_11_20 oc_at_155) ?_
            refine mx_cVi [.int (M5 155 20)] [] 155 11 (f_X11_isKind (M5 155 20) M5) dX11_aDish_85 cl_X11_239 im_X11_isKind cy_X11_isKind oc_at_155 rfl (Nat.le_of_ble_eq_true rfl) (by decide) (t_X11_isKind l E (M5 155 20) M5 rfl) ?_
            refine ex_if_eq 95 dX11_aDish_88 (by decide) (fun c14 => ?_) (fun c14 => ?_)
            · rw [if_pos c14] at hb
              refine ex_mskL [true, false, false, false, false] (L2 := [some (.ref 155), none, none, none, none]) rfl ?_
              cases hb
              cases (he _ rfl) <;> exact hx
            · rw [if_neg c14] at hb
              refine ex_iload_n dX11_aDish_91 rfl ?_
              refine ex_if_eq 101 dX11_aDish_92 (by decide) (fun c15 => ?_) (fun c15 => ?_)
              · rw [if_pos c15] at hb
                refine ex_iload_n dX11_aDish_101 rfl ?_
                refine ex_iconst 4 dX11_aDish_102 kI_4 ?_
                refine ex_icmp_ne 112 dX11_aDish_103 (by decide) (fun c16 => ?_) (fun c16 => ?_)
                · rw [if_neg c16] at hb
                  refine ex_aload_n dX11_aDish_112 rfl ?_
                  refine ex_iload_n dX11_aDish_113 rfl ?_
                  refine ex_iconst 2 dX11_aDish_114 kI_2 ?_
                  refine ex_iadd dX11_aDish_115 ?_
                  refine ex_iconst 2 dX11_aDish_116 kI_2 ?_
                  refine ex_iload_n dX11_aDish_117 rfl ?_
                  refine ex_imul dX11_aDish_118 ?_
                  refine ex_iadd dX11_aDish_119 ?_
                  refine ex_iconst 0 dX11_aDish_120 kI_0 ?_
                  refine ex_bipush 6 dX11_aDish_121 kB_6 ?_
                  obtain ⟨M17, x18, qx18, hb⟩ := b2E hb
                  refine mx_cVi [.int (((10 * (M 155 15)) + 2) + (2 * i4)), .int 0, .int 6] [] 155 11 x18 dX11_aDish_123 cl_X11_229 im_X11_number cy_X11_number oc_at_155 rfl (Nat.le_of_ble_eq_true rfl) (by decide) (t_X11_number l E (((10 * (M 155 15)) + 2) + (2 * i4)) 0 6 M5 qx18) ?_
                  refine ex_if_eq 146 dX11_aDish_126 (by decide) (fun c19 => ?_) (fun c19 => ?_)
                  · rw [if_pos c19] at hb
                    refine ex_mskL [false, false, false, false, false] (L2 := [none, none, none, none, none]) rfl ?_
                    cases hb
                    cases (he _ rfl) <;> exact hx
                  · rw [if_neg c19] at hb
                    refine ex_aload_n dX11_aDish_129 rfl ?_
                    refine ex_iload_n dX11_aDish_130 rfl ?_
                    refine ex_iconst 3 dX11_aDish_131 kI_3 ?_
                    refine ex_iadd dX11_aDish_132 ?_
                    refine ex_iconst 2 dX11_aDish_133 kI_2 ?_
                    refine ex_iload_n dX11_aDish_134 rfl ?_
                    refine ex_imul dX11_aDish_135 ?_
                    refine ex_iadd dX11_aDish_136 ?_
                    refine ex_iconst 1 dX11_aDish_137 kI_1 ?_
                    refine ex_bipush 99 dX11_aDish_138 kB_99 ?_
                    obtain ⟨M20, x21, qx21, hb⟩ := b2E hb
                    refine mx_cVi [.int (((10 * (M 155 15)) + 3) + (2 * i4)), .int 1, .int 99] [] 155 11 x21 dX11_aDish_140 cl_X11_229 im_X11_number cy_X11_number oc_at_155 rfl (Nat.le_of_ble_eq_true rfl) (by decide) (t_X11_number l E (((10 * (M 155 15)) + 3) + (2 * i4)) 1 99 M17 qx21) ?_
                    refine ex_if_ne 148 dX11_aDish_143 (by decide) (fun c22 => ?_) (fun c22 => ?_)
                    · rw [if_neg c22] at hb
                      refine ex_iinc 1 (L2 := [some (.ref 155), some (.int (10 * (M 155 15))), some (.int (i4 + 1)), some (.int q13), none]) dX11_aDish_148 rfl kI_1 (by decide) rfl ?_
                      refine ex_goto 25 dX11_aDish_151 (by decide) ?_
                      refine ex_mskL [true, true, true, false, false] (L2 := [some (.ref 155), some (.int (10 * (M 155 15))), some (.int (i4 + 1)), none, none]) rfl ?_
                      cases hb
                      exact hk ((i4 + 1), M20) rfl
                    · rw [if_pos c22] at hb
                      refine ex_mskL [false, false, false, false, false] (L2 := [none, none, none, none, none]) rfl ?_
                      cases hb
                      cases (he _ rfl) <;> exact hx
                · rw [if_pos c16] at hb
                  refine ex_mskL [true, false, false, false, false] (L2 := [some (.ref 155), none, none, none, none]) rfl ?_
                  cases hb
                  cases (he _ rfl) <;> exact hx
              · rw [if_neg c15] at hb
                refine ex_mskL [true, false, false, false, false] (L2 := [some (.ref 155), none, none, none, none]) rfl ?_
                cases hb
                cases (he _ rfl) <;> exact hx
          clear hb
          have key : ∀ (k : Nat) (s : Int32 × Int32), lp (fun s => w_X11_aDish_38 M i4 M5 s.1 s.2) k s = some q13 → XM l E (RX11, "aDish", cX11_aDish, 5) (some .boolean) 13 38 [some (.ref 155), some (.int (10 * (M 155 15))), some (.int i4), some (.int s.1), some (.int s.2)] [] M5 M' (some (.int r)) := lp_ind (P := fun (s : Int32 × Int32) => XM l E (RX11, "aDish", cX11_aDish, 5) (some .boolean) 13 38 [some (.ref 155), some (.int (10 * (M 155 15))), some (.int i4), some (.int s.1), some (.int s.2)] [] M5 M' (some (.int r))) (fun s t hb hk he => by
            obtain ⟨i7, i8⟩ := s
            show XM l E (RX11, "aDish", cX11_aDish, 5) (some .boolean) 13 38 [some (.ref 155), some (.int (10 * (M 155 15))), some (.int i4), some (.int i7), some (.int i8)] [] M5 M' (some (.int r))
            change w_X11_aDish_38 M i4 M5 i7 i8 = some t at hb
            unfold w_X11_aDish_38 at hb
            refine ex_iload dX11_aDish_38 rfl ?_
            refine ex_iload_n dX11_aDish_40 rfl ?_
            refine ex_icmp_ge 80 dX11_aDish_41 (by decide) (fun c9 => ?_) (fun c9 => ?_)
            · rw [if_pos c9] at hb
              refine ex_mskL [true, true, true, true, false] (L2 := [some (.ref 155), some (.int (10 * (M 155 15))), some (.int i4), some (.int i7), none]) rfl ?_
              cases hb
              cases (he _ rfl) <;> exact hx
            · rw [if_neg c9] at hb
              refine ex_iload_n dX11_aDish_44 rfl ?_
              refine ex_if_ne 68 dX11_aDish_45 (by decide) (fun c10 => ?_) (fun c10 => ?_)
              · rw [if_neg c10] at hb
                refine ex_iconst 1 dX11_aDish_68 kI_1 ?_
                refine ex_goto 73 dX11_aDish_69 (by decide) ?_
                refine ex_istore_n (L2 := [some (.ref 155), some (.int (10 * (M 155 15))), some (.int i4), some (.int 1), some (.int i8)]) dX11_aDish_73 (by decide) rfl ?_
                refine ex_iinc 1 (L2 := [some (.ref 155), some (.int (10 * (M 155 15))), some (.int i4), some (.int 1), some (.int (i8 + 1))]) dX11_aDish_74 rfl kI_1 (by decide) rfl ?_
                refine ex_goto 38 dX11_aDish_77 (by decide) ?_
                refine ex_mskL [true, true, true, true, true] (L2 := [some (.ref 155), some (.int (10 * (M 155 15))), some (.int i4), some (.int 1), some (.int (i8 + 1))]) rfl ?_
                cases hb
                exact hk (1, (i8 + 1)) rfl
              · rw [if_pos c10] at hb
                refine ex_aload_n dX11_aDish_48 rfl ?_
                refine mx_getr 11 162 dX11_aDish_49 fl_X11_28 oc_at_155 (rf_11_8 oc_at_155) ?_
                refine ex_iload_n dX11_aDish_52 rfl ?_
                refine ex_iconst 2 dX11_aDish_53 kI_2 ?_
                refine ex_iadd dX11_aDish_54 ?_
                refine ex_iconst 2 dX11_aDish_55 kI_2 ?_
                refine ex_iload dX11_aDish_56 rfl ?_
                refine ex_imul dX11_aDish_58 ?_
                refine ex_iadd dX11_aDish_59 ?_
                obtain ⟨x11, qx11, hb⟩ := b1E hb
                refine mx_iald x11 dX11_aDish_60 qx11 ?_
                refine ex_aload_n dX11_aDish_61 rfl ?_
                refine mx_geti 11 dX11_aDish_62 fl_X11_173 oc_at_155 (isi_11_20 oc_at_155) ?_
                refine ex_icmp_ne 72 dX11_aDish_65 (by decide) (fun c12 => ?_) (fun c12 => ?_)
                · rw [if_neg c12] at hb
                  refine ex_iconst 0 dX11_aDish_72 kI_0 ?_
                  refine ex_istore_n (L2 := [some (.ref 155), some (.int (10 * (M 155 15))), some (.int i4), some (.int 0), some (.int i8)]) dX11_aDish_73 (by decide) rfl ?_
                  refine ex_iinc 1 (L2 := [some (.ref 155), some (.int (10 * (M 155 15))), some (.int i4), some (.int 0), some (.int (i8 + 1))]) dX11_aDish_74 rfl kI_1 (by decide) rfl ?_
                  refine ex_goto 38 dX11_aDish_77 (by decide) ?_
                  refine ex_mskL [true, true, true, true, true] (L2 := [some (.ref 155), some (.int (10 * (M 155 15))), some (.int i4), some (.int 0), some (.int (i8 + 1))]) rfl ?_
                  cases hb
                  exact hk (0, (i8 + 1)) rfl
                · rw [if_pos c12] at hb
                  refine ex_iconst 1 dX11_aDish_68 kI_1 ?_
                  refine ex_goto 73 dX11_aDish_69 (by decide) ?_
                  refine ex_istore_n (L2 := [some (.ref 155), some (.int (10 * (M 155 15))), some (.int i4), some (.int 1), some (.int i8)]) dX11_aDish_73 (by decide) rfl ?_
                  refine ex_iinc 1 (L2 := [some (.ref 155), some (.int (10 * (M 155 15))), some (.int i4), some (.int 1), some (.int (i8 + 1))]) dX11_aDish_74 rfl kI_1 (by decide) rfl ?_
                  refine ex_goto 38 dX11_aDish_77 (by decide) ?_
                  refine ex_mskL [true, true, true, true, true] (L2 := [some (.ref 155), some (.int (10 * (M 155 15))), some (.int i4), some (.int 1), some (.int (i8 + 1))]) rfl ?_
                  cases hb
                  exact hk (1, (i8 + 1)) rfl)
          exact key FU (0, 0) hlq13)
      exact key FU (0, M1) hlq23
  · rw [if_pos c3] at h
    refine ex_iconst 0 dX11_aDish_21 kI_0 ?_
    cases h
    exact mx_reti .boolean dX11_aDish_22 ⟨rfl, by decide⟩
def f_X11_aRow (M : Mem) : Option (Mem × Int32) :=
  if (M 155 12).toInt < 0 ∨ 3 < (M 155 12).toInt then (b2 (f_X11_aDish M) fun M2 x3 => b1 (gz x3) fun x4 => some (M2, x4)) else if (M 155 12) = 0 then (b2 (f_X11_aKind M) fun M5 x6 => b1 (gz x6) fun x7 => some (M5, x7)) else if (M 155 12) = 1 then (b2 (f_X11_aDish M) fun M9 x10 => b1 (gz x10) fun x11 => some (M9, x11)) else if (M 155 12) = 2 then (b2 (f_X11_aFeast M) fun M13 x14 => b1 (gz x14) fun x15 => some (M13, x15)) else if (M 155 12) = 3 then (b2 (f_X11_aWant M) fun M17 x18 => b1 (gz x18) fun x19 => some (M17, x19)) else none
set_option maxRecDepth 100000 in
set_option maxHeartbeats 4000000 in
theorem t_X11_aRow (l : Launch) (E : EV) (M : Mem) {M' : Mem} {r : Int32} (h : f_X11_aRow M = some (M', r)) : RunM l E yX11_aRow cX11_aRow 1 (some .boolean) 14 [.ref 155] M M' (some (.int r)) := by
  refine RunM.of (by decide) (Nat.le_of_ble_eq_true rfl) ?_
  show XM l E (RX11, "aRow", cX11_aRow, 1) (some .boolean) 14 0 [some (.ref 155)] [] M M' (some (.int r))
  unfold f_X11_aRow at h
  refine ex_aload_n dX11_aRow_0 rfl ?_
  refine mx_geti 11 dX11_aRow_1 fl_X11_139 oc_at_155 (isi_11_12 oc_at_155) ?_
  by_cases c1 : (M 155 12).toInt < 0 ∨ 3 < (M 155 12).toInt
  · rw [if_pos c1] at h
    refine ex_tswO 51 dX11_aRow_4 c1 (by decide) ?_
    refine ex_aload_n dX11_aRow_51 rfl ?_
    obtain ⟨M2, x3, qx3, h⟩ := b2E h
    refine mx_cVi [] [] 155 11 x3 dX11_aRow_52 cl_X11_251 im_X11_aDish cy_X11_aDish oc_at_155 rfl (Nat.le_of_ble_eq_true rfl) (by decide) (t_X11_aDish l E M qx3) ?_
    obtain ⟨x4, qx4, h⟩ := b1E h
    obtain ⟨ex4, nx4⟩ := gzE qx4
    rw [← ex4] at h
    cases h
    exact mx_reti .boolean dX11_aRow_55 ⟨rfl, nx4⟩
  rw [if_neg c1] at h
  by_cases c8 : (M 155 12) = 0
  · rw [if_pos c8] at h
    refine ex_tswI 0 (32) 36 dX11_aRow_4 c8 (by decide) (by decide) ?_
    refine ex_aload_n dX11_aRow_36 rfl ?_
    obtain ⟨M5, x6, qx6, h⟩ := b2E h
    refine mx_cVi [] [] 155 11 x6 dX11_aRow_37 cl_X11_242 im_X11_aKind cy_X11_aKind oc_at_155 rfl (Nat.le_of_ble_eq_true rfl) (by decide) (t_X11_aKind l E M qx6) ?_
    obtain ⟨x7, qx7, h⟩ := b1E h
    obtain ⟨ex7, nx7⟩ := gzE qx7
    rw [← ex7] at h
    cases h
    exact mx_reti .boolean dX11_aRow_40 ⟨rfl, nx7⟩
  rw [if_neg c8] at h
  by_cases c12 : (M 155 12) = 1
  · rw [if_pos c12] at h
    refine ex_tswI 1 (47) 51 dX11_aRow_4 c12 (by decide) (by decide) ?_
    refine ex_aload_n dX11_aRow_51 rfl ?_
    obtain ⟨M9, x10, qx10, h⟩ := b2E h
    refine mx_cVi [] [] 155 11 x10 dX11_aRow_52 cl_X11_251 im_X11_aDish cy_X11_aDish oc_at_155 rfl (Nat.le_of_ble_eq_true rfl) (by decide) (t_X11_aDish l E M qx10) ?_
    obtain ⟨x11, qx11, h⟩ := b1E h
    obtain ⟨ex11, nx11⟩ := gzE qx11
    rw [← ex11] at h
    cases h
    exact mx_reti .boolean dX11_aRow_55 ⟨rfl, nx11⟩
  rw [if_neg c12] at h
  by_cases c16 : (M 155 12) = 2
  · rw [if_pos c16] at h
    refine ex_tswI 2 (37) 41 dX11_aRow_4 c16 (by decide) (by decide) ?_
    refine ex_aload_n dX11_aRow_41 rfl ?_
    obtain ⟨M13, x14, qx14, h⟩ := b2E h
    refine mx_cVi [] [] 155 11 x14 dX11_aRow_42 cl_X11_245 im_X11_aFeast cy_X11_aFeast oc_at_155 rfl (Nat.le_of_ble_eq_true rfl) (by decide) (t_X11_aFeast l E M qx14) ?_
    obtain ⟨x15, qx15, h⟩ := b1E h
    obtain ⟨ex15, nx15⟩ := gzE qx15
    rw [← ex15] at h
    cases h
    exact mx_reti .boolean dX11_aRow_45 ⟨rfl, nx15⟩
  rw [if_neg c16] at h
  by_cases c20 : (M 155 12) = 3
  · rw [if_pos c20] at h
    refine ex_tswI 3 (42) 46 dX11_aRow_4 c20 (by decide) (by decide) ?_
    refine ex_aload_n dX11_aRow_46 rfl ?_
    obtain ⟨M17, x18, qx18, h⟩ := b2E h
    refine mx_cVi [] [] 155 11 x18 dX11_aRow_47 cl_X11_248 im_X11_aWant cy_X11_aWant oc_at_155 rfl (Nat.le_of_ble_eq_true rfl) (by decide) (t_X11_aWant l E M qx18) ?_
    obtain ⟨x19, qx19, h⟩ := b1E h
    obtain ⟨ex19, nx19⟩ := gzE qx19
    rw [← ex19] at h
    cases h
    exact mx_reti .boolean dX11_aRow_50 ⟨rfl, nx19⟩
  rw [if_neg c20] at h
  cases h
def w_X11_readsRows_48 (x5 : Int32) (i6 : Int32) (M7 : Mem) : Option ((Int32 × Mem) ⊕ ((Mem) ⊕ (Mem) ⊕ (Int32 × Mem))) :=
  if i6 = 0 then (some (.inr (.inr (.inr (i6, M7))))) else (if (M7 155 18) = 0 then (some (.inr (.inr (.inr (i6, M7))))) else (if (M7 155 18) = x5 then (lt ((if (M7 155 12) = 0 then 6 else 12) : Int32) fun x12 => if (M7 155 15) = x12 then (some (.inr (.inr (.inl M7)))) else (b2 (f_X11_aRow M7) fun M14 x15 => if x15 = 0 then (lt (up2 M14 155 15 ((M14 155 15) + 0)) fun M17 => some (.inl (0, M17))) else (b2 (f_X11_need 159 M14) fun M18 x19 => if x19 = 0 then (lt (up2 M18 155 15 ((M18 155 15) + 0)) fun M21 => some (.inl (0, M21))) else (lt (up2 M18 155 15 ((M18 155 15) + 1)) fun M22 => some (.inl (1, M22)))))) else (some (.inr (.inl M7)))))
def f_X11_readsRows (M : Mem) : Option (Mem × Int32) :=
  lt (up2 M 155 15 0) fun M1 => lt ((if (M1 155 12) = 0 then 7 else (if (M1 155 12) = 2 then 9 else (if (M1 155 12) = 3 then 12 else 15))) : Int32) fun x5 => b1 (lp (fun s => w_X11_readsRows_48 x5 s.1 s.2) FU (1, M1)) fun q23 => match q23 with | .inl u24 => (lt (f_X11_bad 1 u24) fun p25 => b1 (gz p25.2) fun x26 => some (p25.1, x26)) | .inr u34 => (match u34 with | .inl u27 => (lt (f_X11_bad 3 u27) fun p28 => b1 (gz p28.2) fun x29 => some (p28.1, x29)) | .inr u30 => (b1 (gz u30.1) fun x33 => some (u30.2, x33)))
set_option maxRecDepth 100000 in
set_option maxHeartbeats 4000000 in
theorem t_X11_readsRows (l : Launch) (E : EV) (M : Mem) {M' : Mem} {r : Int32} (h : f_X11_readsRows M = some (M', r)) : RunM l E yX11_readsRows cX11_readsRows 3 (some .boolean) 15 [.ref 155] M M' (some (.int r)) := by
  refine RunM.of (by decide) (Nat.le_of_ble_eq_true rfl) ?_
  show XM l E (RX11, "readsRows", cX11_readsRows, 3) (some .boolean) 15 0 [some (.ref 155), none, none] [] M M' (some (.int r))
  unfold f_X11_readsRows at h
  refine ex_aload_n dX11_readsRows_0 rfl ?_
  refine ex_iconst 0 dX11_readsRows_1 kI_0 ?_
  obtain ⟨M1, eM1, h⟩ := ltE h
  refine mx_puti 11 dX11_readsRows_2 fl_X11_232 rfl ⟨rfl, rfl⟩ oc_at_155 (isi_11_15 oc_at_155) ?_
  rw [← eM1]
  refine ex_aload_n dX11_readsRows_5 rfl ?_
  refine mx_geti 11 dX11_readsRows_6 fl_X11_139 oc_at_155 (isi_11_12 oc_at_155) ?_
  obtain ⟨x5, ex5, h⟩ := ltE h
  have Jx5 : XM l E (RX11, "readsRows", cX11_readsRows, 3) (some .boolean) 15 45 [some (.ref 155), none, none] [.int x5] M1 M' (some (.int r)) := by
    refine ex_istore_n (L2 := [some (.ref 155), some (.int x5), none]) dX11_readsRows_45 (by decide) rfl ?_
    refine ex_iconst 1 dX11_readsRows_46 kI_1 ?_
    refine ex_istore_n (L2 := [some (.ref 155), some (.int x5), some (.int 1)]) dX11_readsRows_47 (by decide) rfl ?_
    refine ex_mskL [true, true, true] (L2 := [some (.ref 155), some (.int x5), some (.int 1)]) rfl ?_
    obtain ⟨q23, hlq23, h⟩ := b1E h
    rcases q23 with u24 | u27 | ⟨y31, M32⟩
    · dsimp only at h
      have hx : XM l E (RX11, "readsRows", cX11_readsRows, 3) (some .boolean) 15 67 [some (.ref 155), none, none] [] u24 M' (some (.int r)) := by
        refine ex_aload_n dX11_readsRows_67 rfl ?_
        refine ex_iconst 1 dX11_readsRows_68 kI_1 ?_
        obtain ⟨p25, ep25, h⟩ := ltE h
        refine mx_cVi [.int 1] [] 155 11 p25.2 dX11_readsRows_69 cl_X11_182 im_X11_bad cy_X11_bad oc_at_155 rfl (Nat.le_of_ble_eq_true rfl) (by decide) (t_X11_bad l E 1 u24 ep25.symm) ?_
        obtain ⟨x26, qx26, h⟩ := b1E h
        obtain ⟨ex26, nx26⟩ := gzE qx26
        rw [← ex26] at h
        cases h
        exact mx_reti .boolean dX11_readsRows_72 ⟨rfl, nx26⟩
      clear h
      have key : ∀ (k : Nat) (s : Int32 × Mem), lp (fun s => w_X11_readsRows_48 x5 s.1 s.2) k s = some (.inl u24) → XM l E (RX11, "readsRows", cX11_readsRows, 3) (some .boolean) 15 48 [some (.ref 155), some (.int x5), some (.int s.1)] [] s.2 M' (some (.int r)) := lp_ind (P := fun (s : Int32 × Mem) => XM l E (RX11, "readsRows", cX11_readsRows, 3) (some .boolean) 15 48 [some (.ref 155), some (.int x5), some (.int s.1)] [] s.2 M' (some (.int r))) (fun s t hb hk he => by
        obtain ⟨i6, M7⟩ := s
        show XM l E (RX11, "readsRows", cX11_readsRows, 3) (some .boolean) 15 48 [some (.ref 155), some (.int x5), some (.int i6)] [] M7 M' (some (.int r))
        change w_X11_readsRows_48 x5 i6 M7 = some t at hb
        unfold w_X11_readsRows_48 at hb
        refine ex_iload_n dX11_readsRows_48 rfl ?_
        refine ex_if_eq 144 dX11_readsRows_49 (by decide) (fun c8 => ?_) (fun c8 => ?_)
        · rw [if_pos c8] at hb
          refine ex_mskL [false, false, true] (L2 := [none, none, some (.int i6)]) rfl ?_
          cases hb
          cases (he _ rfl) <;> exact hx
        · rw [if_neg c8] at hb
          refine ex_aload_n dX11_readsRows_52 rfl ?_
          refine mx_geti 11 dX11_readsRows_53 fl_X11_160 oc_at_155 (isi_11_18 oc_at_155) ?_
          refine ex_if_eq 144 dX11_readsRows_56 (by decide) (fun c9 => ?_) (fun c9 => ?_)
          · rw [if_pos c9] at hb
            refine ex_mskL [false, false, true] (L2 := [none, none, some (.int i6)]) rfl ?_
            cases hb
            cases (he _ rfl) <;> exact hx
          · rw [if_neg c9] at hb
            refine ex_aload_n dX11_readsRows_59 rfl ?_
            refine mx_geti 11 dX11_readsRows_60 fl_X11_160 oc_at_155 (isi_11_18 oc_at_155) ?_
            refine ex_iload_n dX11_readsRows_63 rfl ?_
            refine ex_icmp_eq 73 dX11_readsRows_64 (by decide) (fun c10 => ?_) (fun c10 => ?_)
            · rw [if_pos c10] at hb
              refine ex_aload_n dX11_readsRows_73 rfl ?_
              refine mx_geti 11 dX11_readsRows_74 fl_X11_232 oc_at_155 (isi_11_15 oc_at_155) ?_
              refine ex_aload_n dX11_readsRows_77 rfl ?_
              refine mx_geti 11 dX11_readsRows_78 fl_X11_139 oc_at_155 (isi_11_12 oc_at_155) ?_
              obtain ⟨x12, ex12, hb⟩ := ltE hb
              have Jx12 : XM l E (RX11, "readsRows", cX11_readsRows, 3) (some .boolean) 15 91 [some (.ref 155), some (.int x5), some (.int i6)] [.int x12, .int (M7 155 15)] M7 M' (some (.int r)) := by
                refine ex_icmp_ne 100 dX11_readsRows_91 (by decide) (fun c13 => ?_) (fun c13 => ?_)
                · rw [if_neg c13] at hb
                  refine ex_aload_n dX11_readsRows_100 rfl ?_
                  obtain ⟨M14, x15, qx15, hb⟩ := b2E hb
                  refine mx_cVi [] [] 155 11 x15 dX11_readsRows_101 cl_X11_254 im_X11_aRow cy_X11_aRow oc_at_155 rfl (Nat.le_of_ble_eq_true rfl) (by decide) (t_X11_aRow l E M7 qx15) ?_
                  refine ex_if_eq 121 dX11_readsRows_104 (by decide) (fun c16 => ?_) (fun c16 => ?_)
                  · rw [if_pos c16] at hb
                    refine ex_iconst 0 dX11_readsRows_121 kI_0 ?_
                    refine ex_istore_n (L2 := [some (.ref 155), some (.int x5), some (.int 0)]) dX11_readsRows_122 (by decide) rfl ?_
                    refine ex_aload_n dX11_readsRows_123 rfl ?_
                    refine ex_dup dX11_readsRows_124 rfl ?_
                    refine mx_geti 11 dX11_readsRows_125 fl_X11_232 oc_at_155 (isi_11_15 oc_at_155) ?_
                    refine ex_iload_n dX11_readsRows_128 rfl ?_
                    refine ex_if_eq 136 dX11_readsRows_129 (by decide) (fun _ => ?_) (fun z => absurd (by decide) z)
                    refine ex_iconst 0 dX11_readsRows_136 kI_0 ?_
                    refine ex_iadd dX11_readsRows_137 ?_
                    obtain ⟨M17, eM17, hb⟩ := ltE hb
                    refine mx_puti 11 dX11_readsRows_138 fl_X11_232 rfl ⟨rfl, rfl⟩ oc_at_155 (isi_11_15 oc_at_155) ?_
                    rw [← eM17]
                    refine ex_goto 48 dX11_readsRows_141 (by decide) ?_
                    refine ex_mskL [true, true, true] (L2 := [some (.ref 155), some (.int x5), some (.int 0)]) rfl ?_
                    cases hb
                    exact hk (0, M17) rfl
                  · rw [if_neg c16] at hb
                    refine ex_aload_n dX11_readsRows_107 rfl ?_
                    refine ex_sipush 159 dX11_readsRows_108 kS_159 ?_
                    obtain ⟨M18, x19, qx19, hb⟩ := b2E hb
                    refine mx_cVi [.int 159] [] 155 11 x19 dX11_readsRows_111 cl_X11_217 im_X11_need cy_X11_need oc_at_155 rfl (Nat.le_of_ble_eq_true rfl) (by decide) (t_X11_need l E 159 M14 qx19) ?_
                    refine ex_if_eq 121 dX11_readsRows_114 (by decide) (fun c20 => ?_) (fun c20 => ?_)
                    · rw [if_pos c20] at hb
                      refine ex_iconst 0 dX11_readsRows_121 kI_0 ?_
                      refine ex_istore_n (L2 := [some (.ref 155), some (.int x5), some (.int 0)]) dX11_readsRows_122 (by decide) rfl ?_
                      refine ex_aload_n dX11_readsRows_123 rfl ?_
                      refine ex_dup dX11_readsRows_124 rfl ?_
                      refine mx_geti 11 dX11_readsRows_125 fl_X11_232 oc_at_155 (isi_11_15 oc_at_155) ?_
                      refine ex_iload_n dX11_readsRows_128 rfl ?_
                      refine ex_if_eq 136 dX11_readsRows_129 (by decide) (fun _ => ?_) (fun z => absurd (by decide) z)
                      refine ex_iconst 0 dX11_readsRows_136 kI_0 ?_
                      refine ex_iadd dX11_readsRows_137 ?_
                      obtain ⟨M21, eM21, hb⟩ := ltE hb
                      refine mx_puti 11 dX11_readsRows_138 fl_X11_232 rfl ⟨rfl, rfl⟩ oc_at_155 (isi_11_15 oc_at_155) ?_
                      rw [← eM21]
                      refine ex_goto 48 dX11_readsRows_141 (by decide) ?_
                      refine ex_mskL [true, true, true] (L2 := [some (.ref 155), some (.int x5), some (.int 0)]) rfl ?_
                      cases hb
                      exact hk (0, M21) rfl
                    · rw [if_neg c20] at hb
                      refine ex_iconst 1 dX11_readsRows_117 kI_1 ?_
                      refine ex_goto 122 dX11_readsRows_118 (by decide) ?_
                      refine ex_istore_n (L2 := [some (.ref 155), some (.int x5), some (.int 1)]) dX11_readsRows_122 (by decide) rfl ?_
                      refine ex_aload_n dX11_readsRows_123 rfl ?_
                      refine ex_dup dX11_readsRows_124 rfl ?_
                      refine mx_geti 11 dX11_readsRows_125 fl_X11_232 oc_at_155 (isi_11_15 oc_at_155) ?_
                      refine ex_iload_n dX11_readsRows_128 rfl ?_
                      refine ex_if_eq 136 dX11_readsRows_129 (by decide) (fun z => absurd z (by decide)) (fun _ => ?_)
                      refine ex_iconst 1 dX11_readsRows_132 kI_1 ?_
                      refine ex_goto 137 dX11_readsRows_133 (by decide) ?_
                      refine ex_iadd dX11_readsRows_137 ?_
                      obtain ⟨M22, eM22, hb⟩ := ltE hb
                      refine mx_puti 11 dX11_readsRows_138 fl_X11_232 rfl ⟨rfl, rfl⟩ oc_at_155 (isi_11_15 oc_at_155) ?_
                      rw [← eM22]
                      refine ex_goto 48 dX11_readsRows_141 (by decide) ?_
                      refine ex_mskL [true, true, true] (L2 := [some (.ref 155), some (.int x5), some (.int 1)]) rfl ?_
                      cases hb
                      exact hk (1, M22) rfl
                · rw [if_pos c13] at hb
                  refine ex_mskL [true, false, false] (L2 := [some (.ref 155), none, none]) rfl ?_
                  cases hb
                  cases (he _ rfl) <;> exact hx
              clear hb
              refine ex_if_ne 89 dX11_readsRows_81 (by decide) (fun c11 => ?_) (fun c11 => ?_)
              · rw [if_neg c11] at ex12
                refine ex_bipush 12 dX11_readsRows_89 kB_12 ?_
                subst ex12
                exact Jx12
              · rw [if_pos c11] at ex12
                refine ex_bipush 6 dX11_readsRows_84 kB_6 ?_
                refine ex_goto 91 dX11_readsRows_86 (by decide) ?_
                subst ex12
                exact Jx12
            · rw [if_neg c10] at hb
              refine ex_mskL [true, false, false] (L2 := [some (.ref 155), none, none]) rfl ?_
              cases hb
              cases (he _ rfl) <;> exact hx)
      exact key FU (1, M1) hlq23
    · dsimp only at h
      have hx : XM l E (RX11, "readsRows", cX11_readsRows, 3) (some .boolean) 15 94 [some (.ref 155), none, none] [] u27 M' (some (.int r)) := by
        refine ex_aload_n dX11_readsRows_94 rfl ?_
        refine ex_iconst 3 dX11_readsRows_95 kI_3 ?_
        obtain ⟨p28, ep28, h⟩ := ltE h
        refine mx_cVi [.int 3] [] 155 11 p28.2 dX11_readsRows_96 cl_X11_182 im_X11_bad cy_X11_bad oc_at_155 rfl (Nat.le_of_ble_eq_true rfl) (by decide) (t_X11_bad l E 3 u27 ep28.symm) ?_
        obtain ⟨x29, qx29, h⟩ := b1E h
        obtain ⟨ex29, nx29⟩ := gzE qx29
        rw [← ex29] at h
        cases h
        exact mx_reti .boolean dX11_readsRows_99 ⟨rfl, nx29⟩
      clear h
      have key : ∀ (k : Nat) (s : Int32 × Mem), lp (fun s => w_X11_readsRows_48 x5 s.1 s.2) k s = some (.inr (.inl u27)) → XM l E (RX11, "readsRows", cX11_readsRows, 3) (some .boolean) 15 48 [some (.ref 155), some (.int x5), some (.int s.1)] [] s.2 M' (some (.int r)) := lp_ind (P := fun (s : Int32 × Mem) => XM l E (RX11, "readsRows", cX11_readsRows, 3) (some .boolean) 15 48 [some (.ref 155), some (.int x5), some (.int s.1)] [] s.2 M' (some (.int r))) (fun s t hb hk he => by
        obtain ⟨i6, M7⟩ := s
        show XM l E (RX11, "readsRows", cX11_readsRows, 3) (some .boolean) 15 48 [some (.ref 155), some (.int x5), some (.int i6)] [] M7 M' (some (.int r))
        change w_X11_readsRows_48 x5 i6 M7 = some t at hb
        unfold w_X11_readsRows_48 at hb
        refine ex_iload_n dX11_readsRows_48 rfl ?_
        refine ex_if_eq 144 dX11_readsRows_49 (by decide) (fun c8 => ?_) (fun c8 => ?_)
        · rw [if_pos c8] at hb
          refine ex_mskL [false, false, true] (L2 := [none, none, some (.int i6)]) rfl ?_
          cases hb
          cases (he _ rfl) <;> exact hx
        · rw [if_neg c8] at hb
          refine ex_aload_n dX11_readsRows_52 rfl ?_
          refine mx_geti 11 dX11_readsRows_53 fl_X11_160 oc_at_155 (isi_11_18 oc_at_155) ?_
          refine ex_if_eq 144 dX11_readsRows_56 (by decide) (fun c9 => ?_) (fun c9 => ?_)
          · rw [if_pos c9] at hb
            refine ex_mskL [false, false, true] (L2 := [none, none, some (.int i6)]) rfl ?_
            cases hb
            cases (he _ rfl) <;> exact hx
          · rw [if_neg c9] at hb
            refine ex_aload_n dX11_readsRows_59 rfl ?_
            refine mx_geti 11 dX11_readsRows_60 fl_X11_160 oc_at_155 (isi_11_18 oc_at_155) ?_
            refine ex_iload_n dX11_readsRows_63 rfl ?_
            refine ex_icmp_eq 73 dX11_readsRows_64 (by decide) (fun c10 => ?_) (fun c10 => ?_)
            · rw [if_pos c10] at hb
              refine ex_aload_n dX11_readsRows_73 rfl ?_
              refine mx_geti 11 dX11_readsRows_74 fl_X11_232 oc_at_155 (isi_11_15 oc_at_155) ?_
              refine ex_aload_n dX11_readsRows_77 rfl ?_
              refine mx_geti 11 dX11_readsRows_78 fl_X11_139 oc_at_155 (isi_11_12 oc_at_155) ?_
              obtain ⟨x12, ex12, hb⟩ := ltE hb
              have Jx12 : XM l E (RX11, "readsRows", cX11_readsRows, 3) (some .boolean) 15 91 [some (.ref 155), some (.int x5), some (.int i6)] [.int x12, .int (M7 155 15)] M7 M' (some (.int r)) := by
                refine ex_icmp_ne 100 dX11_readsRows_91 (by decide) (fun c13 => ?_) (fun c13 => ?_)
                · rw [if_neg c13] at hb
                  refine ex_aload_n dX11_readsRows_100 rfl ?_
                  obtain ⟨M14, x15, qx15, hb⟩ := b2E hb
                  refine mx_cVi [] [] 155 11 x15 dX11_readsRows_101 cl_X11_254 im_X11_aRow cy_X11_aRow oc_at_155 rfl (Nat.le_of_ble_eq_true rfl) (by decide) (t_X11_aRow l E M7 qx15) ?_
                  refine ex_if_eq 121 dX11_readsRows_104 (by decide) (fun c16 => ?_) (fun c16 => ?_)
                  · rw [if_pos c16] at hb
                    refine ex_iconst 0 dX11_readsRows_121 kI_0 ?_
                    refine ex_istore_n (L2 := [some (.ref 155), some (.int x5), some (.int 0)]) dX11_readsRows_122 (by decide) rfl ?_
                    refine ex_aload_n dX11_readsRows_123 rfl ?_
                    refine ex_dup dX11_readsRows_124 rfl ?_
                    refine mx_geti 11 dX11_readsRows_125 fl_X11_232 oc_at_155 (isi_11_15 oc_at_155) ?_
                    refine ex_iload_n dX11_readsRows_128 rfl ?_
                    refine ex_if_eq 136 dX11_readsRows_129 (by decide) (fun _ => ?_) (fun z => absurd (by decide) z)
                    refine ex_iconst 0 dX11_readsRows_136 kI_0 ?_
                    refine ex_iadd dX11_readsRows_137 ?_
                    obtain ⟨M17, eM17, hb⟩ := ltE hb
                    refine mx_puti 11 dX11_readsRows_138 fl_X11_232 rfl ⟨rfl, rfl⟩ oc_at_155 (isi_11_15 oc_at_155) ?_
                    rw [← eM17]
                    refine ex_goto 48 dX11_readsRows_141 (by decide) ?_
                    refine ex_mskL [true, true, true] (L2 := [some (.ref 155), some (.int x5), some (.int 0)]) rfl ?_
                    cases hb
                    exact hk (0, M17) rfl
                  · rw [if_neg c16] at hb
                    refine ex_aload_n dX11_readsRows_107 rfl ?_
                    refine ex_sipush 159 dX11_readsRows_108 kS_159 ?_
                    obtain ⟨M18, x19, qx19, hb⟩ := b2E hb
                    refine mx_cVi [.int 159] [] 155 11 x19 dX11_readsRows_111 cl_X11_217 im_X11_need cy_X11_need oc_at_155 rfl (Nat.le_of_ble_eq_true rfl) (by decide) (t_X11_need l E 159 M14 qx19) ?_
                    refine ex_if_eq 121 dX11_readsRows_114 (by decide) (fun c20 => ?_) (fun c20 => ?_)
                    · rw [if_pos c20] at hb
                      refine ex_iconst 0 dX11_readsRows_121 kI_0 ?_
                      refine ex_istore_n (L2 := [some (.ref 155), some (.int x5), some (.int 0)]) dX11_readsRows_122 (by decide) rfl ?_
                      refine ex_aload_n dX11_readsRows_123 rfl ?_
                      refine ex_dup dX11_readsRows_124 rfl ?_
                      refine mx_geti 11 dX11_readsRows_125 fl_X11_232 oc_at_155 (isi_11_15 oc_at_155) ?_
                      refine ex_iload_n dX11_readsRows_128 rfl ?_
                      refine ex_if_eq 136 dX11_readsRows_129 (by decide) (fun _ => ?_) (fun z => absurd (by decide) z)
                      refine ex_iconst 0 dX11_readsRows_136 kI_0 ?_
                      refine ex_iadd dX11_readsRows_137 ?_
                      obtain ⟨M21, eM21, hb⟩ := ltE hb
                      refine mx_puti 11 dX11_readsRows_138 fl_X11_232 rfl ⟨rfl, rfl⟩ oc_at_155 (isi_11_15 oc_at_155) ?_
                      rw [← eM21]
                      refine ex_goto 48 dX11_readsRows_141 (by decide) ?_
                      refine ex_mskL [true, true, true] (L2 := [some (.ref 155), some (.int x5), some (.int 0)]) rfl ?_
                      cases hb
                      exact hk (0, M21) rfl
                    · rw [if_neg c20] at hb
                      refine ex_iconst 1 dX11_readsRows_117 kI_1 ?_
                      refine ex_goto 122 dX11_readsRows_118 (by decide) ?_
                      refine ex_istore_n (L2 := [some (.ref 155), some (.int x5), some (.int 1)]) dX11_readsRows_122 (by decide) rfl ?_
                      refine ex_aload_n dX11_readsRows_123 rfl ?_
                      refine ex_dup dX11_readsRows_124 rfl ?_
                      refine mx_geti 11 dX11_readsRows_125 fl_X11_232 oc_at_155 (isi_11_15 oc_at_155) ?_
                      refine ex_iload_n dX11_readsRows_128 rfl ?_
                      refine ex_if_eq 136 dX11_readsRows_129 (by decide) (fun z => absurd z (by decide)) (fun _ => ?_)
                      refine ex_iconst 1 dX11_readsRows_132 kI_1 ?_
                      refine ex_goto 137 dX11_readsRows_133 (by decide) ?_
                      refine ex_iadd dX11_readsRows_137 ?_
                      obtain ⟨M22, eM22, hb⟩ := ltE hb
                      refine mx_puti 11 dX11_readsRows_138 fl_X11_232 rfl ⟨rfl, rfl⟩ oc_at_155 (isi_11_15 oc_at_155) ?_
                      rw [← eM22]
                      refine ex_goto 48 dX11_readsRows_141 (by decide) ?_
                      refine ex_mskL [true, true, true] (L2 := [some (.ref 155), some (.int x5), some (.int 1)]) rfl ?_
                      cases hb
                      exact hk (1, M22) rfl
                · rw [if_pos c13] at hb
                  refine ex_mskL [true, false, false] (L2 := [some (.ref 155), none, none]) rfl ?_
                  cases hb
                  cases (he _ rfl) <;> exact hx
              clear hb
              refine ex_if_ne 89 dX11_readsRows_81 (by decide) (fun c11 => ?_) (fun c11 => ?_)
              · rw [if_neg c11] at ex12
                refine ex_bipush 12 dX11_readsRows_89 kB_12 ?_
                subst ex12
                exact Jx12
              · rw [if_pos c11] at ex12
                refine ex_bipush 6 dX11_readsRows_84 kB_6 ?_
                refine ex_goto 91 dX11_readsRows_86 (by decide) ?_
                subst ex12
                exact Jx12
            · rw [if_neg c10] at hb
              refine ex_mskL [true, false, false] (L2 := [some (.ref 155), none, none]) rfl ?_
              cases hb
              cases (he _ rfl) <;> exact hx)
      exact key FU (1, M1) hlq23
    · dsimp only at h
      have hx : XM l E (RX11, "readsRows", cX11_readsRows, 3) (some .boolean) 15 144 [none, none, some (.int y31)] [] M32 M' (some (.int r)) := by
        refine ex_iload_n dX11_readsRows_144 rfl ?_
        obtain ⟨x33, qx33, h⟩ := b1E h
        obtain ⟨ex33, nx33⟩ := gzE qx33
        rw [← ex33] at h
        cases h
        exact mx_reti .boolean dX11_readsRows_145 ⟨rfl, nx33⟩
      clear h
      have key : ∀ (k : Nat) (s : Int32 × Mem), lp (fun s => w_X11_readsRows_48 x5 s.1 s.2) k s = some (.inr (.inr (y31, M32))) → XM l E (RX11, "readsRows", cX11_readsRows, 3) (some .boolean) 15 48 [some (.ref 155), some (.int x5), some (.int s.1)] [] s.2 M' (some (.int r)) := lp_ind (P := fun (s : Int32 × Mem) => XM l E (RX11, "readsRows", cX11_readsRows, 3) (some .boolean) 15 48 [some (.ref 155), some (.int x5), some (.int s.1)] [] s.2 M' (some (.int r))) (fun s t hb hk he => by
        obtain ⟨i6, M7⟩ := s
        show XM l E (RX11, "readsRows", cX11_readsRows, 3) (some .boolean) 15 48 [some (.ref 155), some (.int x5), some (.int i6)] [] M7 M' (some (.int r))
        change w_X11_readsRows_48 x5 i6 M7 = some t at hb
        unfold w_X11_readsRows_48 at hb
        refine ex_iload_n dX11_readsRows_48 rfl ?_
        refine ex_if_eq 144 dX11_readsRows_49 (by decide) (fun c8 => ?_) (fun c8 => ?_)
        · rw [if_pos c8] at hb
          refine ex_mskL [false, false, true] (L2 := [none, none, some (.int i6)]) rfl ?_
          cases hb
          cases (he _ rfl) <;> exact hx
        · rw [if_neg c8] at hb
          refine ex_aload_n dX11_readsRows_52 rfl ?_
          refine mx_geti 11 dX11_readsRows_53 fl_X11_160 oc_at_155 (isi_11_18 oc_at_155) ?_
          refine ex_if_eq 144 dX11_readsRows_56 (by decide) (fun c9 => ?_) (fun c9 => ?_)
          · rw [if_pos c9] at hb
            refine ex_mskL [false, false, true] (L2 := [none, none, some (.int i6)]) rfl ?_
            cases hb
            cases (he _ rfl) <;> exact hx
          · rw [if_neg c9] at hb
            refine ex_aload_n dX11_readsRows_59 rfl ?_
            refine mx_geti 11 dX11_readsRows_60 fl_X11_160 oc_at_155 (isi_11_18 oc_at_155) ?_
            refine ex_iload_n dX11_readsRows_63 rfl ?_
            refine ex_icmp_eq 73 dX11_readsRows_64 (by decide) (fun c10 => ?_) (fun c10 => ?_)
            · rw [if_pos c10] at hb
              refine ex_aload_n dX11_readsRows_73 rfl ?_
              refine mx_geti 11 dX11_readsRows_74 fl_X11_232 oc_at_155 (isi_11_15 oc_at_155) ?_
              refine ex_aload_n dX11_readsRows_77 rfl ?_
              refine mx_geti 11 dX11_readsRows_78 fl_X11_139 oc_at_155 (isi_11_12 oc_at_155) ?_
              obtain ⟨x12, ex12, hb⟩ := ltE hb
              have Jx12 : XM l E (RX11, "readsRows", cX11_readsRows, 3) (some .boolean) 15 91 [some (.ref 155), some (.int x5), some (.int i6)] [.int x12, .int (M7 155 15)] M7 M' (some (.int r)) := by
                refine ex_icmp_ne 100 dX11_readsRows_91 (by decide) (fun c13 => ?_) (fun c13 => ?_)
                · rw [if_neg c13] at hb
                  refine ex_aload_n dX11_readsRows_100 rfl ?_
                  obtain ⟨M14, x15, qx15, hb⟩ := b2E hb
                  refine mx_cVi [] [] 155 11 x15 dX11_readsRows_101 cl_X11_254 im_X11_aRow cy_X11_aRow oc_at_155 rfl (Nat.le_of_ble_eq_true rfl) (by decide) (t_X11_aRow l E M7 qx15) ?_
                  refine ex_if_eq 121 dX11_readsRows_104 (by decide) (fun c16 => ?_) (fun c16 => ?_)
                  · rw [if_pos c16] at hb
                    refine ex_iconst 0 dX11_readsRows_121 kI_0 ?_
                    refine ex_istore_n (L2 := [some (.ref 155), some (.int x5), some (.int 0)]) dX11_readsRows_122 (by decide) rfl ?_
                    refine ex_aload_n dX11_readsRows_123 rfl ?_
                    refine ex_dup dX11_readsRows_124 rfl ?_
                    refine mx_geti 11 dX11_readsRows_125 fl_X11_232 oc_at_155 (isi_11_15 oc_at_155) ?_
                    refine ex_iload_n dX11_readsRows_128 rfl ?_
                    refine ex_if_eq 136 dX11_readsRows_129 (by decide) (fun _ => ?_) (fun z => absurd (by decide) z)
                    refine ex_iconst 0 dX11_readsRows_136 kI_0 ?_
                    refine ex_iadd dX11_readsRows_137 ?_
                    obtain ⟨M17, eM17, hb⟩ := ltE hb
                    refine mx_puti 11 dX11_readsRows_138 fl_X11_232 rfl ⟨rfl, rfl⟩ oc_at_155 (isi_11_15 oc_at_155) ?_
                    rw [← eM17]
                    refine ex_goto 48 dX11_readsRows_141 (by decide) ?_
                    refine ex_mskL [true, true, true] (L2 := [some (.ref 155), some (.int x5), some (.int 0)]) rfl ?_
                    cases hb
                    exact hk (0, M17) rfl
                  · rw [if_neg c16] at hb
                    refine ex_aload_n dX11_readsRows_107 rfl ?_
                    refine ex_sipush 159 dX11_readsRows_108 kS_159 ?_
                    obtain ⟨M18, x19, qx19, hb⟩ := b2E hb
                    refine mx_cVi [.int 159] [] 155 11 x19 dX11_readsRows_111 cl_X11_217 im_X11_need cy_X11_need oc_at_155 rfl (Nat.le_of_ble_eq_true rfl) (by decide) (t_X11_need l E 159 M14 qx19) ?_
                    refine ex_if_eq 121 dX11_readsRows_114 (by decide) (fun c20 => ?_) (fun c20 => ?_)
                    · rw [if_pos c20] at hb
                      refine ex_iconst 0 dX11_readsRows_121 kI_0 ?_
                      refine ex_istore_n (L2 := [some (.ref 155), some (.int x5), some (.int 0)]) dX11_readsRows_122 (by decide) rfl ?_
                      refine ex_aload_n dX11_readsRows_123 rfl ?_
                      refine ex_dup dX11_readsRows_124 rfl ?_
                      refine mx_geti 11 dX11_readsRows_125 fl_X11_232 oc_at_155 (isi_11_15 oc_at_155) ?_
                      refine ex_iload_n dX11_readsRows_128 rfl ?_
                      refine ex_if_eq 136 dX11_readsRows_129 (by decide) (fun _ => ?_) (fun z => absurd (by decide) z)
                      refine ex_iconst 0 dX11_readsRows_136 kI_0 ?_
                      refine ex_iadd dX11_readsRows_137 ?_
                      obtain ⟨M21, eM21, hb⟩ := ltE hb
                      refine mx_puti 11 dX11_readsRows_138 fl_X11_232 rfl ⟨rfl, rfl⟩ oc_at_155 (isi_11_15 oc_at_155) ?_
                      rw [← eM21]
                      refine ex_goto 48 dX11_readsRows_141 (by decide) ?_
                      refine ex_mskL [true, true, true] (L2 := [some (.ref 155), some (.int x5), some (.int 0)]) rfl ?_
                      cases hb
                      exact hk (0, M21) rfl
                    · rw [if_neg c20] at hb
                      refine ex_iconst 1 dX11_readsRows_117 kI_1 ?_
                      refine ex_goto 122 dX11_readsRows_118 (by decide) ?_
                      refine ex_istore_n (L2 := [some (.ref 155), some (.int x5), some (.int 1)]) dX11_readsRows_122 (by decide) rfl ?_
                      refine ex_aload_n dX11_readsRows_123 rfl ?_
                      refine ex_dup dX11_readsRows_124 rfl ?_
                      refine mx_geti 11 dX11_readsRows_125 fl_X11_232 oc_at_155 (isi_11_15 oc_at_155) ?_
                      refine ex_iload_n dX11_readsRows_128 rfl ?_
                      refine ex_if_eq 136 dX11_readsRows_129 (by decide) (fun z => absurd z (by decide)) (fun _ => ?_)
                      refine ex_iconst 1 dX11_readsRows_132 kI_1 ?_
                      refine ex_goto 137 dX11_readsRows_133 (by decide) ?_
                      refine ex_iadd dX11_readsRows_137 ?_
                      obtain ⟨M22, eM22, hb⟩ := ltE hb
                      refine mx_puti 11 dX11_readsRows_138 fl_X11_232 rfl ⟨rfl, rfl⟩ oc_at_155 (isi_11_15 oc_at_155) ?_
                      rw [← eM22]
                      refine ex_goto 48 dX11_readsRows_141 (by decide) ?_
                      refine ex_mskL [true, true, true] (L2 := [some (.ref 155), some (.int x5), some (.int 1)]) rfl ?_
                      cases hb
                      exact hk (1, M22) rfl
                · rw [if_pos c13] at hb
                  refine ex_mskL [true, false, false] (L2 := [some (.ref 155), none, none]) rfl ?_
                  cases hb
                  cases (he _ rfl) <;> exact hx
              clear hb
              refine ex_if_ne 89 dX11_readsRows_81 (by decide) (fun c11 => ?_) (fun c11 => ?_)
              · rw [if_neg c11] at ex12
                refine ex_bipush 12 dX11_readsRows_89 kB_12 ?_
                subst ex12
                exact Jx12
              · rw [if_pos c11] at ex12
                refine ex_bipush 6 dX11_readsRows_84 kB_6 ?_
                refine ex_goto 91 dX11_readsRows_86 (by decide) ?_
                subst ex12
                exact Jx12
            · rw [if_neg c10] at hb
              refine ex_mskL [true, false, false] (L2 := [some (.ref 155), none, none]) rfl ?_
              cases hb
              cases (he _ rfl) <;> exact hx)
      exact key FU (1, M1) hlq23
  clear h
  refine ex_if_ne 17 dX11_readsRows_9 (by decide) (fun c2 => ?_) (fun c2 => ?_)
  · rw [if_neg c2] at ex5
    refine ex_aload_n dX11_readsRows_17 rfl ?_
    refine mx_geti 11 dX11_readsRows_18 fl_X11_139 oc_at_155 (isi_11_12 oc_at_155) ?_
    refine ex_iconst 2 dX11_readsRows_21 kI_2 ?_
    refine ex_icmp_ne 30 dX11_readsRows_22 (by decide) (fun c3 => ?_) (fun c3 => ?_)
    · rw [if_neg c3] at ex5
      refine ex_aload_n dX11_readsRows_30 rfl ?_
      refine mx_geti 11 dX11_readsRows_31 fl_X11_139 oc_at_155 (isi_11_12 oc_at_155) ?_
      refine ex_iconst 3 dX11_readsRows_34 kI_3 ?_
      refine ex_icmp_ne 43 dX11_readsRows_35 (by decide) (fun c4 => ?_) (fun c4 => ?_)
      · rw [if_neg c4] at ex5
        refine ex_bipush 15 dX11_readsRows_43 kB_15 ?_
        subst ex5
        exact Jx5
      · rw [if_pos c4] at ex5
        refine ex_bipush 12 dX11_readsRows_38 kB_12 ?_
        refine ex_goto 45 dX11_readsRows_40 (by decide) ?_
        subst ex5
        exact Jx5
    · rw [if_pos c3] at ex5
      refine ex_bipush 9 dX11_readsRows_25 kB_9 ?_
      refine ex_goto 45 dX11_readsRows_27 (by decide) ?_
      subst ex5
      exact Jx5
  · rw [if_pos c2] at ex5
    refine ex_bipush 7 dX11_readsRows_12 kB_7 ?_
    refine ex_goto 45 dX11_readsRows_14 (by decide) ?_
    subst ex5
    exact Jx5
def w_X11_putsLaw_13 (i2 : Int32) (M3 : Mem) : Option ((Int32 × Mem) ⊕ (Mem)) :=
  if (M3 155 13) ≤ i2 then (some (.inr M3)) else (b1 (rd M3 160 (4 * i2)) fun x5 => b1 (wr M3 156 (970 + i2) x5) fun M6 => b1 (rd M6 160 ((4 * i2) + 1)) fun x7 => b1 (wr M6 156 (986 + i2) x7) fun M8 => b1 (rd M8 160 ((4 * i2) + 2)) fun x9 => b1 (wr M8 156 (1002 + i2) x9) fun M10 => b1 (rd M10 160 ((4 * i2) + 3)) fun x11 => b1 (wr M10 156 (1018 + i2) x11) fun M12 => some (.inl ((i2 + 1), M12)))
def w_X11_putsLaw_107 (i14 : Int32) (M15 : Mem) : Option ((Int32 × Mem) ⊕ (Mem)) :=
  if (2 * (M15 155 14)) ≤ i14 then (some (.inr M15)) else (b1 (rd M15 161 i14) fun x17 => b1 (wr M15 156 (1036 + i14) x17) fun M18 => some (.inl ((i14 + 1), M18)))
def f_X11_putsLaw (M : Mem) : Option (Mem × Int32) :=
  lt (up2 M 156 83 (M 155 13)) fun M1 => b1 (lp (fun s => w_X11_putsLaw_13 s.1 s.2) FU (0, M1)) fun q13 => b1 (lp (fun s => w_X11_putsLaw_107 s.1 s.2) FU (0, q13)) fun q19 => some (q19, (q19 155 13))
set_option maxRecDepth 100000 in
set_option maxHeartbeats 4000000 in
theorem t_X11_putsLaw (l : Launch) (E : EV) (M : Mem) {M' : Mem} {r : Int32} (h : f_X11_putsLaw M = some (M', r)) : RunM l E yX11_putsLaw cX11_putsLaw 2 (some .int) 0 [.ref 155] M M' (some (.int r)) := by
  refine RunM.of (by decide) (Nat.le_of_ble_eq_true rfl) ?_
  show XM l E (RX11, "putsLaw", cX11_putsLaw, 2) (some .int) 0 0 [some (.ref 155), none] [] M M' (some (.int r))
  unfold f_X11_putsLaw at h
  refine ex_aload_n dX11_putsLaw_0 rfl ?_
  refine mx_getr 11 156 dX11_putsLaw_1 fl_X11_7 oc_at_155 (rf_11_0 oc_at_155) ?_
  refine ex_bipush 83 dX11_putsLaw_4 kB_83 ?_
  refine ex_aload_n dX11_putsLaw_6 rfl ?_
  refine mx_geti 11 dX11_putsLaw_7 fl_X11_223 oc_at_155 (isi_11_13 oc_at_155) ?_
  obtain ⟨M1, eM1, h⟩ := ltE h
  refine mx_iast M1 dX11_putsLaw_10 ((wrc_156_83 _ _).trans (congrArg some eM1.symm)) ?_
  refine ex_iconst 0 dX11_putsLaw_11 kI_0 ?_
  refine ex_istore_n (L2 := [some (.ref 155), some (.int 0)]) dX11_putsLaw_12 (by decide) rfl ?_
  refine ex_mskL [true, true] (L2 := [some (.ref 155), some (.int 0)]) rfl ?_
  obtain ⟨q13, hlq13, h⟩ := b1E h
  have hx : XM l E (RX11, "putsLaw", cX11_putsLaw, 2) (some .int) 0 105 [some (.ref 155), none] [] q13 M' (some (.int r)) := by
    refine ex_iconst 0 dX11_putsLaw_105 kI_0 ?_
    refine ex_istore_n (L2 := [some (.ref 155), some (.int 0)]) dX11_putsLaw_106 (by decide) rfl ?_
    refine ex_mskL [true, true] (L2 := [some (.ref 155), some (.int 0)]) rfl ?_
    obtain ⟨q19, hlq19, h⟩ := b1E h
    have hx : XM l E (RX11, "putsLaw", cX11_putsLaw, 2) (some .int) 0 139 [some (.ref 155), none] [] q19 M' (some (.int r)) := by
      refine ex_aload_n dX11_putsLaw_139 rfl ?_
      refine mx_geti 11 dX11_putsLaw_140 fl_X11_223 oc_at_155 (isi_11_13 oc_at_155) ?_
      cases h
      exact mx_reti .int dX11_putsLaw_143 ⟨rfl, rfl⟩
    clear h
    have key : ∀ (k : Nat) (s : Int32 × Mem), lp (fun s => w_X11_putsLaw_107 s.1 s.2) k s = some q19 → XM l E (RX11, "putsLaw", cX11_putsLaw, 2) (some .int) 0 107 [some (.ref 155), some (.int s.1)] [] s.2 M' (some (.int r)) := lp_ind (P := fun (s : Int32 × Mem) => XM l E (RX11, "putsLaw", cX11_putsLaw, 2) (some .int) 0 107 [some (.ref 155), some (.int s.1)] [] s.2 M' (some (.int r))) (fun s t hb hk he => by
      obtain ⟨i14, M15⟩ := s
      show XM l E (RX11, "putsLaw", cX11_putsLaw, 2) (some .int) 0 107 [some (.ref 155), some (.int i14)] [] M15 M' (some (.int r))
      change w_X11_putsLaw_107 i14 M15 = some t at hb
      unfold w_X11_putsLaw_107 at hb
      refine ex_iload_n dX11_putsLaw_107 rfl ?_
      refine ex_iconst 2 dX11_putsLaw_108 kI_2 ?_
      refine ex_aload_n dX11_putsLaw_109 rfl ?_
      refine mx_geti 11 dX11_putsLaw_110 fl_X11_188 oc_at_155 (isi_11_14 oc_at_155) ?_
      refine ex_imul dX11_putsLaw_113 ?_
      refine ex_icmp_ge 139 dX11_putsLaw_114 (by decide) (fun c16 => ?_) (fun c16 => ?_)
      · rw [if_pos c16] at hb
        refine ex_mskL [true, false] (L2 := [some (.ref 155), none]) rfl ?_
        cases hb
        cases (he _ rfl) <;> exact hx
      · rw [if_neg c16] at hb
        refine ex_aload_n dX11_putsLaw_117 rfl ?_
        refine mx_getr 11 156 dX11_putsLaw_118 fl_X11_7 oc_at_155 (rf_11_0 oc_at_155) ?_
        refine ex_sipush 1036 dX11_putsLaw_121 kS_1036 ?_
        refine ex_iload_n dX11_putsLaw_124 rfl ?_
        refine ex_iadd dX11_putsLaw_125 ?_
        refine ex_aload_n dX11_putsLaw_126 rfl ?_
        refine mx_getr 11 161 dX11_putsLaw_127 fl_X11_25 oc_at_155 (rf_11_7 oc_at_155) ?_
        refine ex_iload_n dX11_putsLaw_130 rfl ?_
        obtain ⟨x17, qx17, hb⟩ := b1E hb
        refine mx_iald x17 dX11_putsLaw_131 qx17 ?_
        obtain ⟨M18, qM18, hb⟩ := b1E hb
        refine mx_iast M18 dX11_putsLaw_132 qM18 ?_
        refine ex_iinc 1 (L2 := [some (.ref 155), some (.int (i14 + 1))]) dX11_putsLaw_133 rfl kI_1 (by decide) rfl ?_
        refine ex_goto 107 dX11_putsLaw_136 (by decide) ?_
        refine ex_mskL [true, true] (L2 := [some (.ref 155), some (.int (i14 + 1))]) rfl ?_
        cases hb
        exact hk ((i14 + 1), M18) rfl)
    exact key FU (0, q13) hlq19
  clear h
  have key : ∀ (k : Nat) (s : Int32 × Mem), lp (fun s => w_X11_putsLaw_13 s.1 s.2) k s = some q13 → XM l E (RX11, "putsLaw", cX11_putsLaw, 2) (some .int) 0 13 [some (.ref 155), some (.int s.1)] [] s.2 M' (some (.int r)) := lp_ind (P := fun (s : Int32 × Mem) => XM l E (RX11, "putsLaw", cX11_putsLaw, 2) (some .int) 0 13 [some (.ref 155), some (.int s.1)] [] s.2 M' (some (.int r))) (fun s t hb hk he => by
    obtain ⟨i2, M3⟩ := s
    show XM l E (RX11, "putsLaw", cX11_putsLaw, 2) (some .int) 0 13 [some (.ref 155), some (.int i2)] [] M3 M' (some (.int r))
    change w_X11_putsLaw_13 i2 M3 = some t at hb
    unfold w_X11_putsLaw_13 at hb
    refine ex_iload_n dX11_putsLaw_13 rfl ?_
    refine ex_aload_n dX11_putsLaw_14 rfl ?_
    refine mx_geti 11 dX11_putsLaw_15 fl_X11_223 oc_at_155 (isi_11_13 oc_at_155) ?_
    refine ex_icmp_ge 105 dX11_putsLaw_18 (by decide) (fun c4 => ?_) (fun c4 => ?_)
    · rw [if_pos c4] at hb
      refine ex_mskL [true, false] (L2 := [some (.ref 155), none]) rfl ?_
      cases hb
      cases (he _ rfl) <;> exact hx
    · rw [if_neg c4] at hb
      refine ex_aload_n dX11_putsLaw_21 rfl ?_
      refine mx_getr 11 156 dX11_putsLaw_22 fl_X11_7 oc_at_155 (rf_11_0 oc_at_155) ?_
      refine ex_sipush 970 dX11_putsLaw_25 kS_970 ?_
      refine ex_iload_n dX11_putsLaw_28 rfl ?_
      refine ex_iadd dX11_putsLaw_29 ?_
      refine ex_aload_n dX11_putsLaw_30 rfl ?_
      refine mx_getr 11 160 dX11_putsLaw_31 fl_X11_22 oc_at_155 (rf_11_6 oc_at_155) ?_
      refine ex_iconst 4 dX11_putsLaw_34 kI_4 ?_
      refine ex_iload_n dX11_putsLaw_35 rfl ?_
      refine ex_imul dX11_putsLaw_36 ?_
      obtain ⟨x5, qx5, hb⟩ := b1E hb
      refine mx_iald x5 dX11_putsLaw_37 qx5 ?_
      obtain ⟨M6, qM6, hb⟩ := b1E hb
      refine mx_iast M6 dX11_putsLaw_38 qM6 ?_
      refine ex_aload_n dX11_putsLaw_39 rfl ?_
      refine mx_getr 11 156 dX11_putsLaw_40 fl_X11_7 oc_at_155 (rf_11_0 oc_at_155) ?_
      refine ex_sipush 986 dX11_putsLaw_43 kS_986 ?_
      refine ex_iload_n dX11_putsLaw_46 rfl ?_
      refine ex_iadd dX11_putsLaw_47 ?_
      refine ex_aload_n dX11_putsLaw_48 rfl ?_
      refine mx_getr 11 160 dX11_putsLaw_49 fl_X11_22 oc_at_155 (rf_11_6 oc_at_155) ?_
      refine ex_iconst 4 dX11_putsLaw_52 kI_4 ?_
      refine ex_iload_n dX11_putsLaw_53 rfl ?_
      refine ex_imul dX11_putsLaw_54 ?_
      refine ex_iconst 1 dX11_putsLaw_55 kI_1 ?_
      refine ex_iadd dX11_putsLaw_56 ?_
      obtain ⟨x7, qx7, hb⟩ := b1E hb
      refine mx_iald x7 dX11_putsLaw_57 qx7 ?_
      obtain ⟨M8, qM8, hb⟩ := b1E hb
      refine mx_iast M8 dX11_putsLaw_58 qM8 ?_
      refine ex_aload_n dX11_putsLaw_59 rfl ?_
      refine mx_getr 11 156 dX11_putsLaw_60 fl_X11_7 oc_at_155 (rf_11_0 oc_at_155) ?_
      refine ex_sipush 1002 dX11_putsLaw_63 kS_1002 ?_
      refine ex_iload_n dX11_putsLaw_66 rfl ?_
      refine ex_iadd dX11_putsLaw_67 ?_
      refine ex_aload_n dX11_putsLaw_68 rfl ?_
      refine mx_getr 11 160 dX11_putsLaw_69 fl_X11_22 oc_at_155 (rf_11_6 oc_at_155) ?_
      refine ex_iconst 4 dX11_putsLaw_72 kI_4 ?_
      refine ex_iload_n dX11_putsLaw_73 rfl ?_
      refine ex_imul dX11_putsLaw_74 ?_
      refine ex_iconst 2 dX11_putsLaw_75 kI_2 ?_
      refine ex_iadd dX11_putsLaw_76 ?_
      obtain ⟨x9, qx9, hb⟩ := b1E hb
      refine mx_iald x9 dX11_putsLaw_77 qx9 ?_
      obtain ⟨M10, qM10, hb⟩ := b1E hb
      refine mx_iast M10 dX11_putsLaw_78 qM10 ?_
      refine ex_aload_n dX11_putsLaw_79 rfl ?_
      refine mx_getr 11 156 dX11_putsLaw_80 fl_X11_7 oc_at_155 (rf_11_0 oc_at_155) ?_
      refine ex_sipush 1018 dX11_putsLaw_83 kS_1018 ?_
      refine ex_iload_n dX11_putsLaw_86 rfl ?_
      refine ex_iadd dX11_putsLaw_87 ?_
      refine ex_aload_n dX11_putsLaw_88 rfl ?_
      refine mx_getr 11 160 dX11_putsLaw_89 fl_X11_22 oc_at_155 (rf_11_6 oc_at_155) ?_
      refine ex_iconst 4 dX11_putsLaw_92 kI_4 ?_
      refine ex_iload_n dX11_putsLaw_93 rfl ?_
      refine ex_imul dX11_putsLaw_94 ?_
      refine ex_iconst 3 dX11_putsLaw_95 kI_3 ?_
      refine ex_iadd dX11_putsLaw_96 ?_
      obtain ⟨x11, qx11, hb⟩ := b1E hb
      refine mx_iald x11 dX11_putsLaw_97 qx11 ?_
      obtain ⟨M12, qM12, hb⟩ := b1E hb
      refine mx_iast M12 dX11_putsLaw_98 qM12 ?_
      refine ex_iinc 1 (L2 := [some (.ref 155), some (.int (i2 + 1))]) dX11_putsLaw_99 rfl kI_1 (by decide) rfl ?_
      refine ex_goto 13 dX11_putsLaw_102 (by decide) ?_
      refine ex_mskL [true, true] (L2 := [some (.ref 155), some (.int (i2 + 1))]) rfl ?_
      cases hb
      exact hk ((i2 + 1), M12) rfl)
  exact key FU (0, M1) hlq13
def w_X11_puts_13 (a2 : Int32) (a3 : Int32) (i2 : Int32) (M3 : Mem) : Option ((Int32 × Mem) ⊕ (Mem)) :=
  if (a3 * (M3 155 15)) ≤ i2 then (some (.inr M3)) else (b1 (rd M3 162 i2) fun x5 => b1 (wr M3 156 (a2 + i2) x5) fun M6 => some (.inl ((i2 + 1), M6)))
def f_X11_puts (a1 : Int32) (a2 : Int32) (a3 : Int32) (M : Mem) : Option (Mem × Int32) :=
  b1 (wr M 156 a1 (M 155 15)) fun M1 => b1 (lp (fun s => w_X11_puts_13 a2 a3 s.1 s.2) FU (0, M1)) fun q7 => some (q7, (q7 155 15))
set_option maxRecDepth 100000 in
set_option maxHeartbeats 4000000 in
theorem t_X11_puts (l : Launch) (E : EV) (a1 : Int32) (a2 : Int32) (a3 : Int32) (M : Mem) {M' : Mem} {r : Int32} (h : f_X11_puts a1 a2 a3 M = some (M', r)) : RunM l E yX11_puts cX11_puts 5 (some .int) 0 [.ref 155, .int a1, .int a2, .int a3] M M' (some (.int r)) := by
  refine RunM.of (by decide) (Nat.le_of_ble_eq_true rfl) ?_
  show XM l E (RX11, "puts", cX11_puts, 5) (some .int) 0 0 [some (.ref 155), some (.int a1), some (.int a2), some (.int a3), none] [] M M' (some (.int r))
  unfold f_X11_puts at h
  refine ex_aload_n dX11_puts_0 rfl ?_
  refine mx_getr 11 156 dX11_puts_1 fl_X11_7 oc_at_155 (rf_11_0 oc_at_155) ?_
  refine ex_iload_n dX11_puts_4 rfl ?_
  refine ex_aload_n dX11_puts_5 rfl ?_
  refine mx_geti 11 dX11_puts_6 fl_X11_232 oc_at_155 (isi_11_15 oc_at_155) ?_
  obtain ⟨M1, qM1, h⟩ := b1E h
  refine mx_iast M1 dX11_puts_9 qM1 ?_
  refine ex_iconst 0 dX11_puts_10 kI_0 ?_
  refine ex_istore (L2 := [some (.ref 155), some (.int a1), some (.int a2), some (.int a3), some (.int 0)]) dX11_puts_11 (by decide) rfl ?_
  refine ex_mskL [true, false, true, true, true] (L2 := [some (.ref 155), none, some (.int a2), some (.int a3), some (.int 0)]) rfl ?_
  obtain ⟨q7, hlq7, h⟩ := b1E h
  have hx : XM l E (RX11, "puts", cX11_puts, 5) (some .int) 0 46 [some (.ref 155), none, none, none, none] [] q7 M' (some (.int r)) := by
    refine ex_aload_n dX11_puts_46 rfl ?_
    refine mx_geti 11 dX11_puts_47 fl_X11_232 oc_at_155 (isi_11_15 oc_at_155) ?_
    cases h
    exact mx_reti .int dX11_puts_50 ⟨rfl, rfl⟩
  clear h
  have key : ∀ (k : Nat) (s : Int32 × Mem), lp (fun s => w_X11_puts_13 a2 a3 s.1 s.2) k s = some q7 → XM l E (RX11, "puts", cX11_puts, 5) (some .int) 0 13 [some (.ref 155), none, some (.int a2), some (.int a3), some (.int s.1)] [] s.2 M' (some (.int r)) := lp_ind (P := fun (s : Int32 × Mem) => XM l E (RX11, "puts", cX11_puts, 5) (some .int) 0 13 [some (.ref 155), none, some (.int a2), some (.int a3), some (.int s.1)] [] s.2 M' (some (.int r))) (fun s t hb hk he => by
    obtain ⟨i2, M3⟩ := s
    show XM l E (RX11, "puts", cX11_puts, 5) (some .int) 0 13 [some (.ref 155), none, some (.int a2), some (.int a3), some (.int i2)] [] M3 M' (some (.int r))
    change w_X11_puts_13 a2 a3 i2 M3 = some t at hb
    unfold w_X11_puts_13 at hb
    refine ex_iload dX11_puts_13 rfl ?_
    refine ex_iload_n dX11_puts_15 rfl ?_
    refine ex_aload_n dX11_puts_16 rfl ?_
    refine mx_geti 11 dX11_puts_17 fl_X11_232 oc_at_155 (isi_11_15 oc_at_155) ?_
    refine ex_imul dX11_puts_20 ?_
    refine ex_icmp_ge 46 dX11_puts_21 (by decide) (fun c4 => ?_) (fun c4 => ?_)
    · rw [if_pos c4] at hb
      refine ex_mskL [true, false, false, false, false] (L2 := [some (.ref 155), none, none, none, none]) rfl ?_
      cases hb
      cases (he _ rfl) <;> exact hx
    · rw [if_neg c4] at hb
      refine ex_aload_n dX11_puts_24 rfl ?_
      refine mx_getr 11 156 dX11_puts_25 fl_X11_7 oc_at_155 (rf_11_0 oc_at_155) ?_
      refine ex_iload_n dX11_puts_28 rfl ?_
      refine ex_iload dX11_puts_29 rfl ?_
      refine ex_iadd dX11_puts_31 ?_
      refine ex_aload_n dX11_puts_32 rfl ?_
      refine mx_getr 11 162 dX11_puts_33 fl_X11_28 oc_at_155 (rf_11_8 oc_at_155) ?_
      refine ex_iload dX11_puts_36 rfl ?_
      obtain ⟨x5, qx5, hb⟩ := b1E hb
      refine mx_iald x5 dX11_puts_38 qx5 ?_
      obtain ⟨M6, qM6, hb⟩ := b1E hb
      refine mx_iast M6 dX11_puts_39 qM6 ?_
      refine ex_iinc 1 (L2 := [some (.ref 155), none, some (.int a2), some (.int a3), some (.int (i2 + 1))]) dX11_puts_40 rfl kI_1 (by decide) rfl ?_
      refine ex_goto 13 dX11_puts_43 (by decide) ?_
      refine ex_mskL [true, false, true, true, true] (L2 := [some (.ref 155), none, some (.int a2), some (.int a3), some (.int (i2 + 1))]) rfl ?_
      cases hb
      exact hk ((i2 + 1), M6) rfl)
  exact key FU (0, M1) hlq7
def f_X11_putsKinds (M : Mem) : Option (Mem × Int32) :=
  lt (up2 M 156 7 0) fun M1 => lt (up2 M1 156 84 0) fun M2 => lt (up2 M2 156 85 0) fun M3 => lt (up2 M3 156 86 0) fun M4 => lt (up2 M4 156 6 0) fun M5 => b2 (f_X11_puts 80 91 2 M5) fun M6 x7 => some (M6, x7)
set_option maxRecDepth 100000 in
set_option maxHeartbeats 4000000 in
theorem t_X11_putsKinds (l : Launch) (E : EV) (M : Mem) {M' : Mem} {r : Int32} (h : f_X11_putsKinds M = some (M', r)) : RunM l E yX11_putsKinds cX11_putsKinds 1 (some .int) 1 [.ref 155] M M' (some (.int r)) := by
  refine RunM.of (by decide) (Nat.le_of_ble_eq_true rfl) ?_
  show XM l E (RX11, "putsKinds", cX11_putsKinds, 1) (some .int) 1 0 [some (.ref 155)] [] M M' (some (.int r))
  unfold f_X11_putsKinds at h
  refine ex_aload_n dX11_putsKinds_0 rfl ?_
  refine mx_getr 11 156 dX11_putsKinds_1 fl_X11_7 oc_at_155 (rf_11_0 oc_at_155) ?_
  refine ex_bipush 7 dX11_putsKinds_4 kB_7 ?_
  refine ex_iconst 0 dX11_putsKinds_6 kI_0 ?_
  obtain ⟨M1, eM1, h⟩ := ltE h
  refine mx_iast M1 dX11_putsKinds_7 ((wrc_156_7 _ _).trans (congrArg some eM1.symm)) ?_
  refine ex_aload_n dX11_putsKinds_8 rfl ?_
  refine mx_getr 11 156 dX11_putsKinds_9 fl_X11_7 oc_at_155 (rf_11_0 oc_at_155) ?_
  refine ex_bipush 84 dX11_putsKinds_12 kB_84 ?_
  refine ex_iconst 0 dX11_putsKinds_14 kI_0 ?_
  obtain ⟨M2, eM2, h⟩ := ltE h
  refine mx_iast M2 dX11_putsKinds_15 ((wrc_156_84 _ _).trans (congrArg some eM2.symm)) ?_
  refine ex_aload_n dX11_putsKinds_16 rfl ?_
  refine mx_getr 11 156 dX11_putsKinds_17 fl_X11_7 oc_at_155 (rf_11_0 oc_at_155) ?_
  refine ex_bipush 85 dX11_putsKinds_20 kB_85 ?_
  refine ex_iconst 0 dX11_putsKinds_22 kI_0 ?_
  obtain ⟨M3, eM3, h⟩ := ltE h
  refine mx_iast M3 dX11_putsKinds_23 ((wrc_156_85 _ _).trans (congrArg some eM3.symm)) ?_
  refine ex_aload_n dX11_putsKinds_24 rfl ?_
  refine mx_getr 11 156 dX11_putsKinds_25 fl_X11_7 oc_at_155 (rf_11_0 oc_at_155) ?_
  refine ex_bipush 86 dX11_putsKinds_28 kB_86 ?_
  refine ex_iconst 0 dX11_putsKinds_30 kI_0 ?_
  obtain ⟨M4, eM4, h⟩ := ltE h
  refine mx_iast M4 dX11_putsKinds_31 ((wrc_156_86 _ _).trans (congrArg some eM4.symm)) ?_
  refine ex_aload_n dX11_putsKinds_32 rfl ?_
  refine mx_getr 11 156 dX11_putsKinds_33 fl_X11_7 oc_at_155 (rf_11_0 oc_at_155) ?_
  refine ex_bipush 6 dX11_putsKinds_36 kB_6 ?_
  refine ex_iconst 0 dX11_putsKinds_38 kI_0 ?_
  obtain ⟨M5, eM5, h⟩ := ltE h
  refine mx_iast M5 dX11_putsKinds_39 ((wrc_156_6 _ _).trans (congrArg some eM5.symm)) ?_
  refine ex_aload_n dX11_putsKinds_40 rfl ?_
  refine ex_bipush 80 dX11_putsKinds_41 kB_80 ?_
  refine ex_bipush 91 dX11_putsKinds_43 kB_91 ?_
  refine ex_iconst 2 dX11_putsKinds_45 kI_2 ?_
  obtain ⟨M6, x7, qx7, h⟩ := b2E h
  refine mx_cVi [.int 80, .int 91, .int 2] [] 155 11 x7 dX11_putsKinds_46 cl_X11_257 im_X11_puts cy_X11_puts oc_at_155 rfl (Nat.le_of_ble_eq_true rfl) (by decide) (t_X11_puts l E 80 91 2 M5 qx7) ?_
  cases h
  exact mx_reti .int dX11_putsKinds_49 ⟨rfl, rfl⟩
def f_X11_putsText (a1 : Int32) (M : Mem) : Option (Mem × Int32) :=
  if a1 = 1 then (b2 (f_X11_putsLaw M) fun M15 x16 => some (M15, x16)) else (if a1 = 4 then (b2 (f_X11_puts 86 187 10 M) fun M13 x14 => some (M13, x14)) else (lt (f_X11_forgets M) fun M3 => if a1 = 0 then (b2 (f_X11_putsKinds M3) fun M11 x12 => some (M11, x12)) else (if a1 = 2 then (b2 (f_X11_puts 84 103 3 M3) fun M9 x10 => some (M9, x10)) else (lt (up2 M3 156 6 0) fun M6 => b2 (f_X11_puts 85 139 4 M6) fun M7 x8 => some (M7, x8)))))
set_option maxRecDepth 100000 in
set_option maxHeartbeats 4000000 in
theorem t_X11_putsText (l : Launch) (E : EV) (a1 : Int32) (M : Mem) {M' : Mem} {r : Int32} (h : f_X11_putsText a1 M = some (M', r)) : RunM l E yX11_putsText cX11_putsText 2 (some .int) 2 [.ref 155, .int a1] M M' (some (.int r)) := by
  refine RunM.of (by decide) (Nat.le_of_ble_eq_true rfl) ?_
  show XM l E (RX11, "putsText", cX11_putsText, 2) (some .int) 2 0 [some (.ref 155), some (.int a1)] [] M M' (some (.int r))
  unfold f_X11_putsText at h
  refine ex_iload_n dX11_putsText_0 rfl ?_
  refine ex_iconst 1 dX11_putsText_1 kI_1 ?_
  refine ex_icmp_ne 10 dX11_putsText_2 (by decide) (fun c1 => ?_) (fun c1 => ?_)
  · rw [if_neg c1] at h
    refine ex_iload_n dX11_putsText_10 rfl ?_
    refine ex_iconst 4 dX11_putsText_11 kI_4 ?_
    refine ex_icmp_ne 27 dX11_putsText_12 (by decide) (fun c2 => ?_) (fun c2 => ?_)
    · rw [if_neg c2] at h
      refine ex_aload_n dX11_putsText_27 rfl ?_
      obtain ⟨M3, eM3, h⟩ := ltE h
      refine mx_cVv [] [] 155 11 dX11_putsText_28 cl_X11_64 im_X11_forgets cy_X11_forgets oc_at_155 rfl (Nat.le_of_ble_eq_true rfl) (by decide) (t_X11_forgets l E M eM3.symm) ?_
      refine ex_iload_n dX11_putsText_31 rfl ?_
      refine ex_if_ne 40 dX11_putsText_32 (by decide) (fun c4 => ?_) (fun c4 => ?_)
      · rw [if_neg c4] at h
        refine ex_iload_n dX11_putsText_40 rfl ?_
        refine ex_iconst 2 dX11_putsText_41 kI_2 ?_
        refine ex_icmp_ne 55 dX11_putsText_42 (by decide) (fun c5 => ?_) (fun c5 => ?_)
        · rw [if_neg c5] at h
          refine ex_aload_n dX11_putsText_55 rfl ?_
          refine mx_getr 11 156 dX11_putsText_56 fl_X11_7 oc_at_155 (rf_11_0 oc_at_155) ?_
          refine ex_bipush 6 dX11_putsText_59 kB_6 ?_
          refine ex_iconst 0 dX11_putsText_61 kI_0 ?_
          obtain ⟨M6, eM6, h⟩ := ltE h
          refine mx_iast M6 dX11_putsText_62 ((wrc_156_6 _ _).trans (congrArg some eM6.symm)) ?_
          refine ex_aload_n dX11_putsText_63 rfl ?_
          refine ex_bipush 85 dX11_putsText_64 kB_85 ?_
          refine ex_sipush 139 dX11_putsText_66 kS_139 ?_
          refine ex_iconst 4 dX11_putsText_69 kI_4 ?_
          obtain ⟨M7, x8, qx8, h⟩ := b2E h
          refine mx_cVi [.int 85, .int 139, .int 4] [] 155 11 x8 dX11_putsText_70 cl_X11_257 im_X11_puts cy_X11_puts oc_at_155 rfl (Nat.le_of_ble_eq_true rfl) (by decide) (t_X11_puts l E 85 139 4 M6 qx8) ?_
          cases h
          exact mx_reti .int dX11_putsText_73 ⟨rfl, rfl⟩
        · rw [if_pos c5] at h
          refine ex_aload_n dX11_putsText_45 rfl ?_
          refine ex_bipush 84 dX11_putsText_46 kB_84 ?_
          refine ex_bipush 103 dX11_putsText_48 kB_103 ?_
          refine ex_iconst 3 dX11_putsText_50 kI_3 ?_
          obtain ⟨M9, x10, qx10, h⟩ := b2E h
          refine mx_cVi [.int 84, .int 103, .int 3] [] 155 11 x10 dX11_putsText_51 cl_X11_257 im_X11_puts cy_X11_puts oc_at_155 rfl (Nat.le_of_ble_eq_true rfl) (by decide) (t_X11_puts l E 84 103 3 M3 qx10) ?_
          cases h
          exact mx_reti .int dX11_putsText_54 ⟨rfl, rfl⟩
      · rw [if_pos c4] at h
        refine ex_aload_n dX11_putsText_35 rfl ?_
        obtain ⟨M11, x12, qx12, h⟩ := b2E h
        refine mx_cVi [] [] 155 11 x12 dX11_putsText_36 cl_X11_264 im_X11_putsKinds cy_X11_putsKinds oc_at_155 rfl (Nat.le_of_ble_eq_true rfl) (by decide) (t_X11_putsKinds l E M3 qx12) ?_
        cases h
        exact mx_reti .int dX11_putsText_39 ⟨rfl, rfl⟩
    · rw [if_pos c2] at h
      refine ex_aload_n dX11_putsText_15 rfl ?_
      refine ex_bipush 86 dX11_putsText_16 kB_86 ?_
      refine ex_sipush 187 dX11_putsText_18 kS_187 ?_
      refine ex_bipush 10 dX11_putsText_21 kB_10 ?_
      obtain ⟨M13, x14, qx14, h⟩ := b2E h
      refine mx_cVi [.int 86, .int 187, .int 10] [] 155 11 x14 dX11_putsText_23 cl_X11_257 im_X11_puts cy_X11_puts oc_at_155 rfl (Nat.le_of_ble_eq_true rfl) (by decide) (t_X11_puts l E 86 187 10 M qx14) ?_
      cases h
      exact mx_reti .int dX11_putsText_26 ⟨rfl, rfl⟩
  · rw [if_pos c1] at h
    refine ex_aload_n dX11_putsText_5 rfl ?_
    obtain ⟨M15, x16, qx16, h⟩ := b2E h
    refine mx_cVi [] [] 155 11 x16 dX11_putsText_6 cl_X11_261 im_X11_putsLaw cy_X11_putsLaw oc_at_155 rfl (Nat.le_of_ble_eq_true rfl) (by decide) (t_X11_putsLaw l E M qx16) ?_
    cases h
    exact mx_reti .int dX11_putsText_9 ⟨rfl, rfl⟩
def f_X11_text (a1 : Int32) (M : Mem) : Option (Mem × Int32) :=
  lt (up2 M 155 23 0) fun M1 => lt (up2 M1 155 25 (-1)) fun M2 => if (f_X11_isIn a1 0 4) = 0 then (lt (up2 M2 155 16 0) fun M25 => some (M25, (-1))) else (lt (up2 M2 155 21 0) fun M4 => lt (up2 M4 155 17 0) fun M5 => lt (up2 M5 155 12 a1) fun M6 => b1 (f_X11_next0 M6) fun M7 => if a1 = 1 then (b2 (f_X11_readsLaw M7) fun M17 x18 => lt (up2 M17 155 16 0) fun M19 => if x18 = 0 then (lt (up2 M19 155 23 (M19 155 21)) fun M21 => lt (up2 M21 155 25 (M21 155 22)) fun M22 => some (M22, (-1))) else (b2 (f_X11_putsText a1 M19) fun M23 x24 => some (M23, x24))) else (b2 (f_X11_readsRows M7) fun M9 x10 => lt (up2 M9 155 16 0) fun M11 => if x10 = 0 then (lt (up2 M11 155 23 (M11 155 21)) fun M13 => lt (up2 M13 155 25 (M13 155 22)) fun M14 => some (M14, (-1))) else (b2 (f_X11_putsText a1 M11) fun M15 x16 => some (M15, x16))))
set_option maxRecDepth 100000 in
set_option maxHeartbeats 4000000 in
theorem t_X11_text (l : Launch) (E : EV) (a1 : Int32) (M : Mem) {M' : Mem} {r : Int32} (h : f_X11_text a1 M = some (M', r)) : RunM l E yX11_text cX11_text 3 (some .int) 57 [.ref 155, .int a1] M M' (some (.int r)) := by
  refine RunM.of (by decide) (Nat.le_of_ble_eq_true rfl) ?_
  show XM l E (RX11, "text", cX11_text, 3) (some .int) 57 0 [some (.ref 155), some (.int a1), none] [] M M' (some (.int r))
  unfold f_X11_text at h
  refine ex_aload_n dX11_text_0 rfl ?_
  refine ex_iconst 0 dX11_text_1 kI_0 ?_
  obtain ⟨M1, eM1, h⟩ := ltE h
  refine mx_puti 11 dX11_text_2 fl_X11_267 rfl ⟨rfl, rfl⟩ oc_at_155 (isi_11_23 oc_at_155) ?_
  rw [← eM1]
  refine ex_aload_n dX11_text_5 rfl ?_
  refine ex_iconst (-1) dX11_text_6 kI_m1 ?_
  obtain ⟨M2, eM2, h⟩ := ltE h
  refine mx_puti 11 dX11_text_7 fl_X11_40 rfl ⟨rfl, rfl⟩ oc_at_155 (isi_11_25 oc_at_155) ?_
  rw [← eM2]
  refine ex_iload_n dX11_text_10 rfl ?_
  refine ex_iconst 0 dX11_text_11 kI_0 ?_
  refine ex_iconst 4 dX11_text_12 kI_4 ?_
  refine mx_cSi [.int a1, .int 0, .int 4] [] (f_X11_isIn a1 0 4) dX11_text_13 cl_X11_53 sm_X11_isIn rfl (Nat.le_of_ble_eq_true rfl) (by decide) (t_X11_isIn l E a1 0 4 M2 rfl) ?_
  refine ex_if_ne 26 dX11_text_16 (by decide) (fun c3 => ?_) (fun c3 => ?_)
  · rw [if_neg c3] at h
    refine ex_aload_n dX11_text_26 rfl ?_
    refine ex_iconst 0 dX11_text_27 kI_0 ?_
    obtain ⟨M4, eM4, h⟩ := ltE h
    refine mx_puti 11 dX11_text_28 fl_X11_176 rfl ⟨rfl, rfl⟩ oc_at_155 (isi_11_21 oc_at_155) ?_
    rw [← eM4]
    refine ex_aload_n dX11_text_31 rfl ?_
    refine ex_iconst 0 dX11_text_32 kI_0 ?_
    obtain ⟨M5, eM5, h⟩ := ltE h
    refine mx_puti 11 dX11_text_33 fl_X11_72 rfl ⟨rfl, rfl⟩ oc_at_155 (isi_11_17 oc_at_155) ?_
    rw [← eM5]
    refine ex_aload_n dX11_text_36 rfl ?_
    refine ex_iload_n dX11_text_37 rfl ?_
    obtain ⟨M6, eM6, h⟩ := ltE h
    refine mx_puti 11 dX11_text_38 fl_X11_139 rfl ⟨rfl, rfl⟩ oc_at_155 (isi_11_12 oc_at_155) ?_
    rw [← eM6]
    refine ex_aload_n dX11_text_41 rfl ?_
    obtain ⟨M7, qM7, h⟩ := b1E h
    refine mx_cVv [] [] 155 11 dX11_text_42 cl_X11_185 im_X11_next0 cy_X11_next0 oc_at_155 rfl (Nat.le_of_ble_eq_true rfl) (by decide) (t_X11_next0 l E M6 qM7) ?_
    refine ex_iload_n dX11_text_45 rfl ?_
    refine ex_iconst 1 dX11_text_46 kI_1 ?_
    refine ex_icmp_ne 57 dX11_text_47 (by decide) (fun c8 => ?_) (fun c8 => ?_)
    · rw [if_neg c8] at h
      refine ex_aload_n dX11_text_57 rfl ?_
      obtain ⟨M9, x10, qx10, h⟩ := b2E h
      refine mx_cVi [] [] 155 11 x10 dX11_text_58 cl_X11_273 im_X11_readsRows cy_X11_readsRows oc_at_155 rfl (Nat.le_of_ble_eq_true rfl) (by decide) (t_X11_readsRows l E M7 qx10) ?_
      refine ex_istore_n (L2 := [some (.ref 155), some (.int a1), some (.int x10)]) dX11_text_61 (by decide) rfl ?_
      refine ex_aload_n dX11_text_62 rfl ?_
      refine ex_iconst 0 dX11_text_63 kI_0 ?_
      obtain ⟨M11, eM11, h⟩ := ltE h
      refine mx_puti 11 dX11_text_64 fl_X11_69 rfl ⟨rfl, rfl⟩ oc_at_155 (isi_11_16 oc_at_155) ?_
      rw [← eM11]
      refine ex_iload_n dX11_text_67 rfl ?_
      refine ex_if_eq 77 dX11_text_68 (by decide) (fun c12 => ?_) (fun c12 => ?_)
      · rw [if_pos c12] at h
        refine ex_aload_n dX11_text_77 rfl ?_
        refine ex_aload_n dX11_text_78 rfl ?_
        refine mx_geti 11 dX11_text_79 fl_X11_176 oc_at_155 (isi_11_21 oc_at_155) ?_
        obtain ⟨M13, eM13, h⟩ := ltE h
        refine mx_puti 11 dX11_text_82 fl_X11_267 rfl ⟨rfl, rfl⟩ oc_at_155 (isi_11_23 oc_at_155) ?_
        rw [← eM13]
        refine ex_aload_n dX11_text_85 rfl ?_
        refine ex_aload_n dX11_text_86 rfl ?_
        refine mx_geti 11 dX11_text_87 fl_X11_179 oc_at_155 (isi_11_22 oc_at_155) ?_
        obtain ⟨M14, eM14, h⟩ := ltE h
        refine mx_puti 11 dX11_text_90 fl_X11_40 rfl ⟨rfl, rfl⟩ oc_at_155 (isi_11_25 oc_at_155) ?_
        rw [← eM14]
        refine ex_iconst (-1) dX11_text_93 kI_m1 ?_
        cases h
        exact mx_reti .int dX11_text_94 ⟨rfl, rfl⟩
      · rw [if_neg c12] at h
        refine ex_aload_n dX11_text_71 rfl ?_
        refine ex_iload_n dX11_text_72 rfl ?_
        obtain ⟨M15, x16, qx16, h⟩ := b2E h
        refine mx_cVi [.int a1] [] 155 11 x16 dX11_text_73 cl_X11_276 im_X11_putsText cy_X11_putsText oc_at_155 rfl (Nat.le_of_ble_eq_true rfl) (by decide) (t_X11_putsText l E a1 M11 qx16) ?_
        cases h
        exact mx_reti .int dX11_text_76 ⟨rfl, rfl⟩
    · rw [if_pos c8] at h
      refine ex_aload_n dX11_text_50 rfl ?_
      obtain ⟨M17, x18, qx18, h⟩ := b2E h
      refine mx_cVi [] [] 155 11 x18 dX11_text_51 cl_X11_270 im_X11_readsLaw cy_X11_readsLaw oc_at_155 rfl (Nat.le_of_ble_eq_true rfl) (by decide) (t_X11_readsLaw l E M7 qx18) ?_
      refine ex_goto 61 dX11_text_54 (by decide) ?_
      refine ex_istore_n (L2 := [some (.ref 155), some (.int a1), some (.int x18)]) dX11_text_61 (by decide) rfl ?_
      refine ex_aload_n dX11_text_62 rfl ?_
      refine ex_iconst 0 dX11_text_63 kI_0 ?_
      obtain ⟨M19, eM19, h⟩ := ltE h
      refine mx_puti 11 dX11_text_64 fl_X11_69 rfl ⟨rfl, rfl⟩ oc_at_155 (isi_11_16 oc_at_155) ?_
      rw [← eM19]
      refine ex_iload_n dX11_text_67 rfl ?_
      refine ex_if_eq 77 dX11_text_68 (by decide) (fun c20 => ?_) (fun c20 => ?_)
      · rw [if_pos c20] at h
        refine ex_aload_n dX11_text_77 rfl ?_
        refine ex_aload_n dX11_text_78 rfl ?_
        refine mx_geti 11 dX11_text_79 fl_X11_176 oc_at_155 (isi_11_21 oc_at_155) ?_
        obtain ⟨M21, eM21, h⟩ := ltE h
        refine mx_puti 11 dX11_text_82 fl_X11_267 rfl ⟨rfl, rfl⟩ oc_at_155 (isi_11_23 oc_at_155) ?_
        rw [← eM21]
        refine ex_aload_n dX11_text_85 rfl ?_
        refine ex_aload_n dX11_text_86 rfl ?_
        refine mx_geti 11 dX11_text_87 fl_X11_179 oc_at_155 (isi_11_22 oc_at_155) ?_
        obtain ⟨M22, eM22, h⟩ := ltE h
        refine mx_puti 11 dX11_text_90 fl_X11_40 rfl ⟨rfl, rfl⟩ oc_at_155 (isi_11_25 oc_at_155) ?_
        rw [← eM22]
        refine ex_iconst (-1) dX11_text_93 kI_m1 ?_
        cases h
        exact mx_reti .int dX11_text_94 ⟨rfl, rfl⟩
      · rw [if_neg c20] at h
        refine ex_aload_n dX11_text_71 rfl ?_
        refine ex_iload_n dX11_text_72 rfl ?_
        obtain ⟨M23, x24, qx24, h⟩ := b2E h
        refine mx_cVi [.int a1] [] 155 11 x24 dX11_text_73 cl_X11_276 im_X11_putsText cy_X11_putsText oc_at_155 rfl (Nat.le_of_ble_eq_true rfl) (by decide) (t_X11_putsText l E a1 M19 qx24) ?_
        cases h
        exact mx_reti .int dX11_text_76 ⟨rfl, rfl⟩
  · rw [if_pos c3] at h
    refine ex_aload_n dX11_text_19 rfl ?_
    refine ex_iconst 0 dX11_text_20 kI_0 ?_
    obtain ⟨M25, eM25, h⟩ := ltE h
    refine mx_puti 11 dX11_text_21 fl_X11_69 rfl ⟨rfl, rfl⟩ oc_at_155 (isi_11_16 oc_at_155) ?_
    rw [← eM25]
    refine ex_iconst (-1) dX11_text_24 kI_m1 ?_
    cases h
    exact mx_reti .int dX11_text_25 ⟨rfl, rfl⟩
def f_X11_fault (a1 : Int32) (M : Mem) : (Int32) :=
  lt ((if a1 = 0 then (M 155 23) else (if a1 = 1 then (M 155 25) else (-1))) : Int32) fun x3 => x3
set_option maxRecDepth 100000 in
set_option maxHeartbeats 4000000 in
theorem t_X11_fault (l : Launch) (E : EV) (a1 : Int32) (M : Mem) {r : Int32} (h : f_X11_fault a1 M = r) : RunM l E yX11_fault cX11_fault 2 (some .int) 0 [.ref 155, .int a1] M M (some (.int r)) := by
  refine RunM.of (by decide) (Nat.le_of_ble_eq_true rfl) ?_
  show XM l E (RX11, "fault", cX11_fault, 2) (some .int) 0 0 [some (.ref 155), some (.int a1)] [] M M (some (.int r))
  unfold f_X11_fault at h
  refine ex_iload_n dX11_fault_0 rfl ?_
  obtain ⟨x3, ex3, h⟩ := ltE h
  have Jx3 : XM l E (RX11, "fault", cX11_fault, 2) (some .int) 0 24 [some (.ref 155), some (.int a1)] [.int x3] M M (some (.int r)) := by
    subst h
    exact mx_reti .int dX11_fault_24 ⟨rfl, rfl⟩
  clear h
  refine ex_if_ne 11 dX11_fault_1 (by decide) (fun c1 => ?_) (fun c1 => ?_)
  · rw [if_neg c1] at ex3
    refine ex_iload_n dX11_fault_11 rfl ?_
    refine ex_iconst 1 dX11_fault_12 kI_1 ?_
    refine ex_icmp_ne 23 dX11_fault_13 (by decide) (fun c2 => ?_) (fun c2 => ?_)
    · rw [if_neg c2] at ex3
      refine ex_iconst (-1) dX11_fault_23 kI_m1 ?_
      subst ex3
      exact Jx3
    · rw [if_pos c2] at ex3
      refine ex_aload_n dX11_fault_16 rfl ?_
      refine mx_geti 11 dX11_fault_17 fl_X11_40 oc_at_155 (isi_11_25 oc_at_155) ?_
      refine ex_goto 24 dX11_fault_20 (by decide) ?_
      subst ex3
      exact Jx3
  · rw [if_pos c1] at ex3
    refine ex_aload_n dX11_fault_4 rfl ?_
    refine mx_geti 11 dX11_fault_5 fl_X11_267 oc_at_155 (isi_11_23 oc_at_155) ?_
    refine ex_goto 24 dX11_fault_8 (by decide) ?_
    subst ex3
    exact Jx3
def f_X11_both (a1 : Int32) (a2 : Int32) (a3 : Int32) : Option (Int32) :=
  if a1.toInt < 23 ∨ 31 < a1.toInt then (some (a2 ||| a3)) else if a1 = 23 then (some (a2 + a3)) else if a1 = 24 then (some (a2 - a3)) else if a1 = 25 then (some (a2 * a3)) else if a1 = 26 then (some (a2 ||| a3)) else if a1 = 27 then (lt ((if a3 ≤ a2 then 0 else 1) : Int32) fun x7 => some x7) else if a1 = 28 then (lt ((if a2 = a3 then 1 else 0) : Int32) fun x10 => some x10) else if a1 = 29 then (lt ((if a2 ≤ a3 then 0 else 1) : Int32) fun x13 => some x13) else if a1 = 30 then (some (a2 ||| a3)) else if a1 = 31 then (some (a2 &&& a3)) else none
set_option maxRecDepth 100000 in
set_option maxHeartbeats 4000000 in
theorem t_X11_both (l : Launch) (E : EV) (a1 : Int32) (a2 : Int32) (a3 : Int32) (M : Mem) {r : Int32} (h : f_X11_both a1 a2 a3 = some r) : RunM l E yX11_both cX11_both 3 (some .int) 0 [.int a1, .int a2, .int a3] M M (some (.int r)) := by
  refine RunM.of (by decide) (Nat.le_of_ble_eq_true rfl) ?_
  show XM l E (RX11, "both", cX11_both, 3) (some .int) 0 0 [some (.int a1), some (.int a2), some (.int a3)] [] M M (some (.int r))
  unfold f_X11_both at h
  refine ex_iload_n dX11_both_0 rfl ?_
  by_cases c1 : a1.toInt < 23 ∨ 31 < a1.toInt
  · rw [if_pos c1] at h
    refine ex_tswO 101 dX11_both_1 c1 (by decide) ?_
    refine ex_iload_n dX11_both_101 rfl ?_
    refine ex_iload_n dX11_both_102 rfl ?_
    refine ex_ior dX11_both_103 ?_
    cases h
    exact mx_reti .int dX11_both_104 ⟨rfl, rfl⟩
  rw [if_neg c1] at h
  by_cases c2 : a1 = 23
  · rw [if_pos c2] at h
    refine ex_tswI 23 (51) 52 dX11_both_1 c2 (by decide) (by decide) ?_
    refine ex_iload_n dX11_both_52 rfl ?_
    refine ex_iload_n dX11_both_53 rfl ?_
    refine ex_iadd dX11_both_54 ?_
    cases h
    exact mx_reti .int dX11_both_55 ⟨rfl, rfl⟩
  rw [if_neg c2] at h
  by_cases c3 : a1 = 24
  · rw [if_pos c3] at h
    refine ex_tswI 24 (55) 56 dX11_both_1 c3 (by decide) (by decide) ?_
    refine ex_iload_n dX11_both_56 rfl ?_
    refine ex_iload_n dX11_both_57 rfl ?_
    refine ex_isub dX11_both_58 ?_
    cases h
    exact mx_reti .int dX11_both_59 ⟨rfl, rfl⟩
  rw [if_neg c3] at h
  by_cases c4 : a1 = 25
  · rw [if_pos c4] at h
    refine ex_tswI 25 (59) 60 dX11_both_1 c4 (by decide) (by decide) ?_
    refine ex_iload_n dX11_both_60 rfl ?_
    refine ex_iload_n dX11_both_61 rfl ?_
    refine ex_imul dX11_both_62 ?_
    cases h
    exact mx_reti .int dX11_both_63 ⟨rfl, rfl⟩
  rw [if_neg c4] at h
  by_cases c5 : a1 = 26
  · rw [if_pos c5] at h
    refine ex_tswI 26 (100) 101 dX11_both_1 c5 (by decide) (by decide) ?_
    refine ex_iload_n dX11_both_101 rfl ?_
    refine ex_iload_n dX11_both_102 rfl ?_
    refine ex_ior dX11_both_103 ?_
    cases h
    exact mx_reti .int dX11_both_104 ⟨rfl, rfl⟩
  rw [if_neg c5] at h
  by_cases c8 : a1 = 27
  · rw [if_pos c8] at h
    refine ex_tswI 27 (63) 64 dX11_both_1 c8 (by decide) (by decide) ?_
    refine ex_iload_n dX11_both_64 rfl ?_
    refine ex_iload_n dX11_both_65 rfl ?_
    obtain ⟨x7, ex7, h⟩ := ltE h
    have Jx7 : XM l E (RX11, "both", cX11_both, 3) (some .int) 0 74 [some (.int a1), some (.int a2), some (.int a3)] [.int x7] M M (some (.int r)) := by
      cases h
      exact mx_reti .int dX11_both_74 ⟨rfl, rfl⟩
    clear h
    refine ex_icmp_ge 73 dX11_both_66 (by decide) (fun c6 => ?_) (fun c6 => ?_)
    · rw [if_pos c6] at ex7
      refine ex_iconst 0 dX11_both_73 kI_0 ?_
      subst ex7
      exact Jx7
    · rw [if_neg c6] at ex7
      refine ex_iconst 1 dX11_both_69 kI_1 ?_
      refine ex_goto 74 dX11_both_70 (by decide) ?_
      subst ex7
      exact Jx7
  rw [if_neg c8] at h
  by_cases c11 : a1 = 28
  · rw [if_pos c11] at h
    refine ex_tswI 28 (74) 75 dX11_both_1 c11 (by decide) (by decide) ?_
    refine ex_iload_n dX11_both_75 rfl ?_
    refine ex_iload_n dX11_both_76 rfl ?_
    obtain ⟨x10, ex10, h⟩ := ltE h
    have Jx10 : XM l E (RX11, "both", cX11_both, 3) (some .int) 0 85 [some (.int a1), some (.int a2), some (.int a3)] [.int x10] M M (some (.int r)) := by
      cases h
      exact mx_reti .int dX11_both_85 ⟨rfl, rfl⟩
    clear h
    refine ex_icmp_ne 84 dX11_both_77 (by decide) (fun c9 => ?_) (fun c9 => ?_)
    · rw [if_neg c9] at ex10
      refine ex_iconst 0 dX11_both_84 kI_0 ?_
      subst ex10
      exact Jx10
    · rw [if_pos c9] at ex10
      refine ex_iconst 1 dX11_both_80 kI_1 ?_
      refine ex_goto 85 dX11_both_81 (by decide) ?_
      subst ex10
      exact Jx10
  rw [if_neg c11] at h
  by_cases c14 : a1 = 29
  · rw [if_pos c14] at h
    refine ex_tswI 29 (85) 86 dX11_both_1 c14 (by decide) (by decide) ?_
    refine ex_iload_n dX11_both_86 rfl ?_
    refine ex_iload_n dX11_both_87 rfl ?_
    obtain ⟨x13, ex13, h⟩ := ltE h
    have Jx13 : XM l E (RX11, "both", cX11_both, 3) (some .int) 0 96 [some (.int a1), some (.int a2), some (.int a3)] [.int x13] M M (some (.int r)) := by
      cases h
      exact mx_reti .int dX11_both_96 ⟨rfl, rfl⟩
    clear h
    refine ex_icmp_le 95 dX11_both_88 (by decide) (fun c12 => ?_) (fun c12 => ?_)
    · rw [if_pos c12] at ex13
      refine ex_iconst 0 dX11_both_95 kI_0 ?_
      subst ex13
      exact Jx13
    · rw [if_neg c12] at ex13
      refine ex_iconst 1 dX11_both_91 kI_1 ?_
      refine ex_goto 96 dX11_both_92 (by decide) ?_
      subst ex13
      exact Jx13
  rw [if_neg c14] at h
  by_cases c15 : a1 = 30
  · rw [if_pos c15] at h
    refine ex_tswI 30 (100) 101 dX11_both_1 c15 (by decide) (by decide) ?_
    refine ex_iload_n dX11_both_101 rfl ?_
    refine ex_iload_n dX11_both_102 rfl ?_
    refine ex_ior dX11_both_103 ?_
    cases h
    exact mx_reti .int dX11_both_104 ⟨rfl, rfl⟩
  rw [if_neg c15] at h
  by_cases c16 : a1 = 31
  · rw [if_pos c16] at h
    refine ex_tswI 31 (96) 97 dX11_both_1 c16 (by decide) (by decide) ?_
    refine ex_iload_n dX11_both_97 rfl ?_
    refine ex_iload_n dX11_both_98 rfl ?_
    refine ex_iand dX11_both_99 ?_
    cases h
    exact mx_reti .int dX11_both_100 ⟨rfl, rfl⟩
  rw [if_neg c16] at h
  cases h
def w_X11_comesTo_6 (a1 : Int32) (a3 : Int32) (i1 : Int32) (i2 : Int32) (M3 : Mem) : Option ((Int32 × Int32 × Mem) ⊕ (Mem)) :=
  if a3 ≤ i2 then (some (.inr M3)) else (b1 (rd M3 156 ((1036 + (820 * a1)) + (2 * i2))) fun x5 => b1 (rd M3 156 (((1036 + (820 * a1)) + (2 * i2)) + 1)) fun x6 => if 23 ≤ x5 then (if x5 = 26 then (b1 (rd M3 164 (i1 - 1)) fun x16 => if x6 = 0 then none else b1 (wr M3 164 (i1 - 1) (x16 / x6)) fun M18 => some (.inl (i1, (i2 + 1), M18))) else (if x5 = 30 then (b1 (rd M3 164 (i1 - 1)) fun x14 => b1 (wr M3 164 (i1 - 1) (1 - x14)) fun M15 => some (.inl (i1, (i2 + 1), M15))) else (b1 (rd M3 164 ((i1 + (-1)) - 1)) fun x10 => b1 (rd M3 164 (i1 + (-1))) fun x11 => b1 (f_X11_both x5 x10 x11) fun x12 => b1 (wr M3 164 ((i1 + (-1)) - 1) x12) fun M13 => some (.inl ((i1 + (-1)), (i2 + 1), M13))))) else (if x5 = 0 then (b1 (wr M3 164 i1 x6) fun M22 => some (.inl ((i1 + 1), (i2 + 1), M22))) else (b1 (rd M3 165 x5) fun x20 => b1 (wr M3 164 i1 x20) fun M21 => some (.inl ((i1 + 1), (i2 + 1), M21)))))
def f_X11_comesTo (a1 : Int32) (a2 : Int32) (a3 : Int32) (M : Mem) : Option (Mem × Int32) :=
  b1 (lp (fun s => w_X11_comesTo_6 a1 a3 s.1 s.2.1 s.2.2) FU (0, a2, M)) fun q23 => some (q23, (q23 164 0))
set_option maxRecDepth 100000 in
set_option maxHeartbeats 4000000 in
theorem t_X11_comesTo (l : Launch) (E : EV) (a1 : Int32) (a2 : Int32) (a3 : Int32) (M : Mem) {M' : Mem} {r : Int32} (h : f_X11_comesTo a1 a2 a3 M = some (M', r)) : RunM l E yX11_comesTo cX11_comesTo 8 (some .int) 1 [.ref 155, .int a1, .int a2, .int a3] M M' (some (.int r)) := by
  refine RunM.of (by decide) (Nat.le_of_ble_eq_true rfl) ?_
  show XM l E (RX11, "comesTo", cX11_comesTo, 8) (some .int) 1 0 [some (.ref 155), some (.int a1), some (.int a2), some (.int a3), none, none, none, none] [] M M' (some (.int r))
  unfold f_X11_comesTo at h
  refine ex_iconst 0 dX11_comesTo_0 kI_0 ?_
  refine ex_istore (L2 := [some (.ref 155), some (.int a1), some (.int a2), some (.int a3), some (.int 0), none, none, none]) dX11_comesTo_1 (by decide) rfl ?_
  refine ex_iload_n dX11_comesTo_3 rfl ?_
  refine ex_istore (L2 := [some (.ref 155), some (.int a1), some (.int a2), some (.int a3), some (.int 0), some (.int a2), none, none]) dX11_comesTo_4 (by decide) rfl ?_
  refine ex_mskL [true, true, false, true, true, true, false, false] (L2 := [some (.ref 155), some (.int a1), none, some (.int a3), some (.int 0), some (.int a2), none, none]) rfl ?_
  obtain ⟨q23, hlq23, h⟩ := b1E h
  have hx : XM l E (RX11, "comesTo", cX11_comesTo, 8) (some .int) 1 186 [some (.ref 155), none, none, none, none, none, none, none] [] q23 M' (some (.int r)) := by
    refine ex_aload_n dX11_comesTo_186 rfl ?_
    refine mx_getr 11 164 dX11_comesTo_187 fl_X11_34 oc_at_155 (rf_11_10 oc_at_155) ?_
    refine ex_iconst 0 dX11_comesTo_190 kI_0 ?_
    refine mx_iald (q23 164 0) dX11_comesTo_191 (rdc_164_0 _) ?_
    cases h
    exact mx_reti .int dX11_comesTo_192 ⟨rfl, rfl⟩
  clear h
  have key : ∀ (k : Nat) (s : Int32 × Int32 × Mem), lp (fun s => w_X11_comesTo_6 a1 a3 s.1 s.2.1 s.2.2) k s = some q23 → XM l E (RX11, "comesTo", cX11_comesTo, 8) (some .int) 1 6 [some (.ref 155), some (.int a1), none, some (.int a3), some (.int s.1), some (.int s.2.1), none, none] [] s.2.2 M' (some (.int r)) := lp_ind (P := fun (s : Int32 × Int32 × Mem) => XM l E (RX11, "comesTo", cX11_comesTo, 8) (some .int) 1 6 [some (.ref 155), some (.int a1), none, some (.int a3), some (.int s.1), some (.int s.2.1), none, none] [] s.2.2 M' (some (.int r))) (fun s t hb hk he => by
    obtain ⟨i1, i2, M3⟩ := s
    show XM l E (RX11, "comesTo", cX11_comesTo, 8) (some .int) 1 6 [some (.ref 155), some (.int a1), none, some (.int a3), some (.int i1), some (.int i2), none, none] [] M3 M' (some (.int r))
    change w_X11_comesTo_6 a1 a3 i1 i2 M3 = some t at hb
    unfold w_X11_comesTo_6 at hb
    refine ex_iload dX11_comesTo_6 rfl ?_
    refine ex_iload_n dX11_comesTo_8 rfl ?_
    refine ex_icmp_ge 186 dX11_comesTo_9 (by decide) (fun c4 => ?_) (fun c4 => ?_)
    · rw [if_pos c4] at hb
      refine ex_mskL [true, false, false, false, false, false, false, false] (L2 := [some (.ref 155), none, none, none, none, none, none, none]) rfl ?_
      cases hb
      cases (he _ rfl) <;> exact hx
    · rw [if_neg c4] at hb
      refine ex_aload_n dX11_comesTo_12 rfl ?_
      refine mx_getr 11 156 dX11_comesTo_13 fl_X11_7 oc_at_155 (rf_11_0 oc_at_155) ?_
      refine ex_sipush 1036 dX11_comesTo_16 kS_1036 ?_
      refine ex_sipush 820 dX11_comesTo_19 kS_820 ?_
      refine ex_iload_n dX11_comesTo_22 rfl ?_
      refine ex_imul dX11_comesTo_23 ?_
      refine ex_iadd dX11_comesTo_24 ?_
      refine ex_iconst 2 dX11_comesTo_25 kI_2 ?_
      refine ex_iload dX11_comesTo_26 rfl ?_
      refine ex_imul dX11_comesTo_28 ?_
      refine ex_iadd dX11_comesTo_29 ?_
      obtain ⟨x5, qx5, hb⟩ := b1E hb
      refine mx_iald x5 dX11_comesTo_30 qx5 ?_
      refine ex_istore (L2 := [some (.ref 155), some (.int a1), none, some (.int a3), some (.int i1), some (.int i2), some (.int x5), none]) dX11_comesTo_31 (by decide) rfl ?_
      refine ex_aload_n dX11_comesTo_33 rfl ?_
      refine mx_getr 11 156 dX11_comesTo_34 fl_X11_7 oc_at_155 (rf_11_0 oc_at_155) ?_
      refine ex_sipush 1036 dX11_comesTo_37 kS_1036 ?_
      refine ex_sipush 820 dX11_comesTo_40 kS_820 ?_
      refine ex_iload_n dX11_comesTo_43 rfl ?_
      refine ex_imul dX11_comesTo_44 ?_
      refine ex_iadd dX11_comesTo_45 ?_
      refine ex_iconst 2 dX11_comesTo_46 kI_2 ?_
      refine ex_iload dX11_comesTo_47 rfl ?_
      refine ex_imul dX11_comesTo_49 ?_
      refine ex_iadd dX11_comesTo_50 ?_
      refine ex_iconst 1 dX11_comesTo_51 kI_1 ?_
      refine ex_iadd dX11_comesTo_52 ?_
      obtain ⟨x6, qx6, hb⟩ := b1E hb
      refine mx_iald x6 dX11_comesTo_53 qx6 ?_
      refine ex_istore (L2 := [some (.ref 155), some (.int a1), none, some (.int a3), some (.int i1), some (.int i2), some (.int x5), some (.int x6)]) dX11_comesTo_54 (by decide) rfl ?_
      refine ex_iload dX11_comesTo_56 rfl ?_
      refine ex_bipush 23 dX11_comesTo_58 kB_23 ?_
      refine ex_icmp_ge 93 dX11_comesTo_60 (by decide) (fun c7 => ?_) (fun c7 => ?_)
      · rw [if_pos c7] at hb
        refine ex_iload dX11_comesTo_93 rfl ?_
        refine ex_bipush 26 dX11_comesTo_95 kB_26 ?_
        refine ex_icmp_ne 117 dX11_comesTo_97 (by decide) (fun c8 => ?_) (fun c8 => ?_)
        · rw [if_neg c8] at hb
          refine ex_iload dX11_comesTo_117 rfl ?_
          refine ex_bipush 30 dX11_comesTo_119 kB_30 ?_
          refine ex_icmp_ne 147 dX11_comesTo_121 (by decide) (fun c9 => ?_) (fun c9 => ?_)
          · rw [if_neg c9] at hb
            refine ex_iinc (-1) (L2 := [some (.ref 155), some (.int a1), none, some (.int a3), some (.int (i1 + (-1))), some (.int i2), some (.int x5), some (.int x6)]) dX11_comesTo_147 rfl kI_m1 (by decide) rfl ?_
            refine ex_aload_n dX11_comesTo_150 rfl ?_
            refine mx_getr 11 164 dX11_comesTo_151 fl_X11_34 oc_at_155 (rf_11_10 oc_at_155) ?_
            refine ex_iload dX11_comesTo_154 rfl ?_
            refine ex_iconst 1 dX11_comesTo_156 kI_1 ?_
            refine ex_isub dX11_comesTo_157 ?_
            refine ex_iload dX11_comesTo_158 rfl ?_
            refine ex_aload_n dX11_comesTo_160 rfl ?_
            refine mx_getr 11 164 dX11_comesTo_161 fl_X11_34 oc_at_155 (rf_11_10 oc_at_155) ?_
            refine ex_iload dX11_comesTo_164 rfl ?_
            refine ex_iconst 1 dX11_comesTo_166 kI_1 ?_
            refine ex_isub dX11_comesTo_167 ?_
            obtain ⟨x10, qx10, hb⟩ := b1E hb
            refine mx_iald x10 dX11_comesTo_168 qx10 ?_
            refine ex_aload_n dX11_comesTo_169 rfl ?_
            refine mx_getr 11 164 dX11_comesTo_170 fl_X11_34 oc_at_155 (rf_11_10 oc_at_155) ?_
            refine ex_iload dX11_comesTo_173 rfl ?_
            obtain ⟨x11, qx11, hb⟩ := b1E hb
            refine mx_iald x11 dX11_comesTo_175 qx11 ?_
            obtain ⟨x12, qx12, hb⟩ := b1E hb
            refine mx_cSi [.int x5, .int x10, .int x11] [.int ((i1 + (-1)) - 1), .ref 164] x12 dX11_comesTo_176 cl_X11_279 sm_X11_both rfl (Nat.le_of_ble_eq_true rfl) (by decide) (t_X11_both l E x5 x10 x11 M3 qx12) ?_
            obtain ⟨M13, qM13, hb⟩ := b1E hb
            refine mx_iast M13 dX11_comesTo_179 qM13 ?_
            refine ex_iinc 1 (L2 := [some (.ref 155), some (.int a1), none, some (.int a3), some (.int (i1 + (-1))), some (.int (i2 + 1)), some (.int x5), some (.int x6)]) dX11_comesTo_180 rfl kI_1 (by decide) rfl ?_
            refine ex_goto 6 dX11_comesTo_183 (by decide) ?_
            refine ex_mskL [true, true, false, true, true, true, false, false] (L2 := [some (.ref 155), some (.int a1), none, some (.int a3), some (.int (i1 + (-1))), some (.int (i2 + 1)), none, none]) rfl ?_
            cases hb
            exact hk ((i1 + (-1)), (i2 + 1), M13) rfl
          · rw [if_pos c9] at hb
            refine ex_aload_n dX11_comesTo_124 rfl ?_
            refine mx_getr 11 164 dX11_comesTo_125 fl_X11_34 oc_at_155 (rf_11_10 oc_at_155) ?_
            refine ex_iload dX11_comesTo_128 rfl ?_
            refine ex_iconst 1 dX11_comesTo_130 kI_1 ?_
            refine ex_isub dX11_comesTo_131 ?_
            refine ex_iconst 1 dX11_comesTo_132 kI_1 ?_
            refine ex_aload_n dX11_comesTo_133 rfl ?_
            refine mx_getr 11 164 dX11_comesTo_134 fl_X11_34 oc_at_155 (rf_11_10 oc_at_155) ?_
            refine ex_iload dX11_comesTo_137 rfl ?_
            refine ex_iconst 1 dX11_comesTo_139 kI_1 ?_
            refine ex_isub dX11_comesTo_140 ?_
            obtain ⟨x14, qx14, hb⟩ := b1E hb
            refine mx_iald x14 dX11_comesTo_141 qx14 ?_
            refine ex_isub dX11_comesTo_142 ?_
            obtain ⟨M15, qM15, hb⟩ := b1E hb
            refine mx_iast M15 dX11_comesTo_143 qM15 ?_
            refine ex_goto 180 dX11_comesTo_144 (by decide) ?_
            refine ex_iinc 1 (L2 := [some (.ref 155), some (.int a1), none, some (.int a3), some (.int i1), some (.int (i2 + 1)), some (.int x5), some (.int x6)]) dX11_comesTo_180 rfl kI_1 (by decide) rfl ?_
            refine ex_goto 6 dX11_comesTo_183 (by decide) ?_
            refine ex_mskL [true, true, false, true, true, true, false, false] (L2 := [some (.ref 155), some (.int a1), none, some (.int a3), some (.int i1), some (.int (i2 + 1)), none, none]) rfl ?_
            cases hb
            exact hk (i1, (i2 + 1), M15) rfl
        · rw [if_pos c8] at hb
          refine ex_aload_n dX11_comesTo_100 rfl ?_
          refine mx_getr 11 164 dX11_comesTo_101 fl_X11_34 oc_at_155 (rf_11_10 oc_at_155) ?_
          refine ex_iload dX11_comesTo_104 rfl ?_
          refine ex_iconst 1 dX11_comesTo_106 kI_1 ?_
          refine ex_isub dX11_comesTo_107 ?_
          refine ex_dup2 dX11_comesTo_108 rfl rfl ?_
          obtain ⟨x16, qx16, hb⟩ := b1E hb
          refine mx_iald x16 dX11_comesTo_109 qx16 ?_
          refine ex_iload dX11_comesTo_110 rfl ?_
          by_cases c17 : x6 = 0
          · rw [if_pos c17] at hb; cases hb
          rw [if_neg c17] at hb
          refine ex_idiv dX11_comesTo_112 c17 ?_
          obtain ⟨M18, qM18, hb⟩ := b1E hb
          refine mx_iast M18 dX11_comesTo_113 qM18 ?_
          refine ex_goto 180 dX11_comesTo_114 (by decide) ?_
          refine ex_iinc 1 (L2 := [some (.ref 155), some (.int a1), none, some (.int a3), some (.int i1), some (.int (i2 + 1)), some (.int x5), some (.int x6)]) dX11_comesTo_180 rfl kI_1 (by decide) rfl ?_
          refine ex_goto 6 dX11_comesTo_183 (by decide) ?_
          refine ex_mskL [true, true, false, true, true, true, false, false] (L2 := [some (.ref 155), some (.int a1), none, some (.int a3), some (.int i1), some (.int (i2 + 1)), none, none]) rfl ?_
          cases hb
          exact hk (i1, (i2 + 1), M18) rfl
      · rw [if_neg c7] at hb
        refine ex_aload_n dX11_comesTo_63 rfl ?_
        refine mx_getr 11 164 dX11_comesTo_64 fl_X11_34 oc_at_155 (rf_11_10 oc_at_155) ?_
        refine ex_iload dX11_comesTo_67 rfl ?_
        refine ex_iload dX11_comesTo_69 rfl ?_
        refine ex_if_ne 79 dX11_comesTo_71 (by decide) (fun c19 => ?_) (fun c19 => ?_)
        · rw [if_neg c19] at hb
          refine ex_aload_n dX11_comesTo_79 rfl ?_
          refine mx_getr 11 165 dX11_comesTo_80 fl_X11_37 oc_at_155 (rf_11_11 oc_at_155) ?_
          refine ex_iload dX11_comesTo_83 rfl ?_
          obtain ⟨x20, qx20, hb⟩ := b1E hb
          refine mx_iald x20 dX11_comesTo_85 qx20 ?_
          obtain ⟨M21, qM21, hb⟩ := b1E hb
          refine mx_iast M21 dX11_comesTo_86 qM21 ?_
          refine ex_iinc 1 (L2 := [some (.ref 155), some (.int a1), none, some (.int a3), some (.int (i1 + 1)), some (.int i2), some (.int x5), some (.int x6)]) dX11_comesTo_87 rfl kI_1 (by decide) rfl ?_
          refine ex_goto 180 dX11_comesTo_90 (by decide) ?_
          refine ex_iinc 1 (L2 := [some (.ref 155), some (.int a1), none, some (.int a3), some (.int (i1 + 1)), some (.int (i2 + 1)), some (.int x5), some (.int x6)]) dX11_comesTo_180 rfl kI_1 (by decide) rfl ?_
          refine ex_goto 6 dX11_comesTo_183 (by decide) ?_
          refine ex_mskL [true, true, false, true, true, true, false, false] (L2 := [some (.ref 155), some (.int a1), none, some (.int a3), some (.int (i1 + 1)), some (.int (i2 + 1)), none, none]) rfl ?_
          cases hb
          exact hk ((i1 + 1), (i2 + 1), M21) rfl
        · rw [if_pos c19] at hb
          refine ex_iload dX11_comesTo_74 rfl ?_
          refine ex_goto 86 dX11_comesTo_76 (by decide) ?_
          obtain ⟨M22, qM22, hb⟩ := b1E hb
          refine mx_iast M22 dX11_comesTo_86 qM22 ?_
          refine ex_iinc 1 (L2 := [some (.ref 155), some (.int a1), none, some (.int a3), some (.int (i1 + 1)), some (.int i2), some (.int x5), some (.int x6)]) dX11_comesTo_87 rfl kI_1 (by decide) rfl ?_
          refine ex_goto 180 dX11_comesTo_90 (by decide) ?_
          refine ex_iinc 1 (L2 := [some (.ref 155), some (.int a1), none, some (.int a3), some (.int (i1 + 1)), some (.int (i2 + 1)), some (.int x5), some (.int x6)]) dX11_comesTo_180 rfl kI_1 (by decide) rfl ?_
          refine ex_goto 6 dX11_comesTo_183 (by decide) ?_
          refine ex_mskL [true, true, false, true, true, true, false, false] (L2 := [some (.ref 155), some (.int a1), none, some (.int a3), some (.int (i1 + 1)), some (.int (i2 + 1)), none, none]) rfl ?_
          cases hb
          exact hk ((i1 + 1), (i2 + 1), M22) rfl)
  exact key FU (0, a2, M) hlq23
def f_X11_isSo (a1 : Int32) (M : Mem) : Option (Mem × Int32) :=
  b1 (rd M 156 (1002 + a1)) fun x1 => b1 (rd M 156 (986 + a1)) fun x2 => if x1 = x2 then (some (M, 1)) else (b1 (rd M 156 (986 + a1)) fun x4 => b1 (rd M 156 (1002 + a1)) fun x5 => b2 (f_X11_comesTo 0 x4 x5 M) fun M6 x7 => if x7 = 1 then (some (M6, 1)) else (some (M6, 0)))
set_option maxRecDepth 100000 in
set_option maxHeartbeats 4000000 in
theorem t_X11_isSo (l : Launch) (E : EV) (a1 : Int32) (M : Mem) {M' : Mem} {r : Int32} (h : f_X11_isSo a1 M = some (M', r)) : RunM l E yX11_isSo cX11_isSo 2 (some .boolean) 2 [.ref 155, .int a1] M M' (some (.int r)) := by
  refine RunM.of (by decide) (Nat.le_of_ble_eq_true rfl) ?_
  show XM l E (RX11, "isSo", cX11_isSo, 2) (some .boolean) 2 0 [some (.ref 155), some (.int a1)] [] M M' (some (.int r))
  unfold f_X11_isSo at h
  refine ex_aload_n dX11_isSo_0 rfl ?_
  refine mx_getr 11 156 dX11_isSo_1 fl_X11_7 oc_at_155 (rf_11_0 oc_at_155) ?_
  refine ex_sipush 1002 dX11_isSo_4 kS_1002 ?_
  refine ex_iload_n dX11_isSo_7 rfl ?_
  refine ex_iadd dX11_isSo_8 ?_
  obtain ⟨x1, qx1, h⟩ := b1E h
  refine mx_iald x1 dX11_isSo_9 qx1 ?_
  refine ex_aload_n dX11_isSo_10 rfl ?_
  refine mx_getr 11 156 dX11_isSo_11 fl_X11_7 oc_at_155 (rf_11_0 oc_at_155) ?_
  refine ex_sipush 986 dX11_isSo_14 kS_986 ?_
  refine ex_iload_n dX11_isSo_17 rfl ?_
  refine ex_iadd dX11_isSo_18 ?_
  obtain ⟨x2, qx2, h⟩ := b1E h
  refine mx_iald x2 dX11_isSo_19 qx2 ?_
  refine ex_icmp_eq 52 dX11_isSo_20 (by decide) (fun c3 => ?_) (fun c3 => ?_)
  · rw [if_pos c3] at h
    refine ex_iconst 1 dX11_isSo_52 kI_1 ?_
    refine ex_goto 57 dX11_isSo_53 (by decide) ?_
    cases h
    exact mx_reti .boolean dX11_isSo_57 ⟨rfl, by decide⟩
  · rw [if_neg c3] at h
    refine ex_aload_n dX11_isSo_23 rfl ?_
    refine ex_iconst 0 dX11_isSo_24 kI_0 ?_
    refine ex_aload_n dX11_isSo_25 rfl ?_
    refine mx_getr 11 156 dX11_isSo_26 fl_X11_7 oc_at_155 (rf_11_0 oc_at_155) ?_
    refine ex_sipush 986 dX11_isSo_29 kS_986 ?_
    refine ex_iload_n dX11_isSo_32 rfl ?_
    refine ex_iadd dX11_isSo_33 ?_
    obtain ⟨x4, qx4, h⟩ := b1E h
    refine mx_iald x4 dX11_isSo_34 qx4 ?_
    refine ex_aload_n dX11_isSo_35 rfl ?_
    refine mx_getr 11 156 dX11_isSo_36 fl_X11_7 oc_at_155 (rf_11_0 oc_at_155) ?_
    refine ex_sipush 1002 dX11_isSo_39 kS_1002 ?_
    refine ex_iload_n dX11_isSo_42 rfl ?_
    refine ex_iadd dX11_isSo_43 ?_
    obtain ⟨x5, qx5, h⟩ := b1E h
    refine mx_iald x5 dX11_isSo_44 qx5 ?_
    obtain ⟨M6, x7, qx7, h⟩ := b2E h
    refine mx_cVi [.int 0, .int x4, .int x5] [] 155 11 x7 dX11_isSo_45 cl_X11_282 im_X11_comesTo cy_X11_comesTo oc_at_155 rfl (Nat.le_of_ble_eq_true rfl) (by decide) (t_X11_comesTo l E 0 x4 x5 M qx7) ?_
    refine ex_iconst 1 dX11_isSo_48 kI_1 ?_
    refine ex_icmp_ne 56 dX11_isSo_49 (by decide) (fun c8 => ?_) (fun c8 => ?_)
    · rw [if_neg c8] at h
      refine ex_iconst 0 dX11_isSo_56 kI_0 ?_
      cases h
      exact mx_reti .boolean dX11_isSo_57 ⟨rfl, by decide⟩
    · rw [if_pos c8] at h
      refine ex_iconst 1 dX11_isSo_52 kI_1 ?_
      refine ex_goto 57 dX11_isSo_53 (by decide) ?_
      cases h
      exact mx_reti .boolean dX11_isSo_57 ⟨rfl, by decide⟩
