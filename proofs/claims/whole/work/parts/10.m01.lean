def w_X2_worked_10 (o : Nat) (a2 : Int32) (a3 : Nat) (i1 : Int32) (i2 : Int32) (M3 : Mem) : Option ((Int32 × Int32 × Mem) ⊕ (Int32 × Mem)) :=
  if (a2 ≤ i2 ∨ (400 ≤ i2 ∨ 32 ≤ i1)) then (some (.inr (i1, M3))) else (b1 (rd M3 (o + 5) i2) fun x8 => b1 (rd M3 (o + 6) i2) fun x9 => if x8 = 256 then (b1 (wr M3 (o + 7) i1 x9) fun M29 => some (.inl ((i1 + 1), (i2 + 1), M29))) else (if x8 = 259 then (if x9 < 0 then (b1 (wr M3 (o + 7) i1 0) fun M23 => some (.inl ((i1 + 1), (i2 + 1), M23))) else (b1 (ln a3) fun x24 => if x24 ≤ x9 then (b1 (wr M3 (o + 7) i1 0) fun M26 => some (.inl ((i1 + 1), (i2 + 1), M26))) else (b1 (rd M3 a3 x9) fun x27 => b1 (wr M3 (o + 7) i1 x27) fun M28 => some (.inl ((i1 + 1), (i2 + 1), M28))))) else (if (¬ (x8 = 314) ∨ i1 < 1) then (if i1 < 2 then (some (.inl (i1, (i2 + 1), M3))) else (b1 (rd M3 (o + 7) ((i1 + (-1)) - 1)) fun x16 => b1 (rd M3 (o + 7) (i1 + (-1))) fun x17 => b1 (f_X2_ofTwo x8 x16 x17) fun x18 => b1 (wr M3 (o + 7) ((i1 + (-1)) - 1) x18) fun M19 => some (.inl ((i1 + (-1)), (i2 + 1), M19)))) else (b1 (rd M3 (o + 7) (i1 - 1)) fun x20 => b1 (wr M3 (o + 7) (i1 - 1) (1 - x20)) fun M21 => some (.inl (i1, (i2 + 1), M21))))))
def f_X2_worked (o : Nat) (a1 : Int32) (a2 : Int32) (a3 : Nat) (M : Mem) : Option (Mem × Int32) :=
  b1 (lp (fun s => w_X2_worked_10 o a2 a3 s.1 s.2.1 s.2.2) FU (0, (f_J9_max_7cf53 a1 0), M)) fun q30 => if q30.1 ≤ 0 then (some (q30.2, 0)) else (b1 (rd q30.2 (o + 7) (q30.1 - 1)) fun x34 => some (q30.2, x34))
set_option maxRecDepth 100000 in
set_option maxHeartbeats 4000000 in
theorem t_X2_worked (l : Launch) (E : EV) (o : Nat) (a1 : Int32) (a2 : Int32) (a3 : Nat) (ho : oc o = some 2) (M : Mem) {M' : Mem} {r : Int32} (h : f_X2_worked o a1 a2 a3 M = some (M', r)) : RunM l E yX2_worked cX2_worked 8 (some .int) 1 [.ref o, .int a1, .int a2, .ref a3] M M' (some (.int r)) := by
  refine RunM.of (by decide) (Nat.le_of_ble_eq_true rfl) ?_
  show XM l E (RX2, "worked", cX2_worked, 8) (some .int) 1 0 [some (.ref o), some (.int a1), some (.int a2), some (.ref a3), none, none, none, none] [] M M' (some (.int r))
  unfold f_X2_worked at h
  refine ex_iconst 0 dX2_worked_0 kI_0 ?_
  refine ex_istore (L2 := [some (.ref o), some (.int a1), some (.int a2), some (.ref a3), some (.int 0), none, none, none]) dX2_worked_1 (by decide) rfl ?_
  refine ex_iload_n dX2_worked_3 rfl ?_
  refine ex_iconst 0 dX2_worked_4 kI_0 ?_
  refine mx_max dX2_worked_5 (tb (i := 580) (by decide +kernel)) (by decide) (Nat.le_of_ble_eq_true rfl) ?_
  refine ex_istore (L2 := [some (.ref o), some (.int a1), some (.int a2), some (.ref a3), some (.int 0), some (.int (f_J9_max_7cf53 a1 0)), none, none]) dX2_worked_8 (by decide) rfl ?_
  refine ex_mskL [true, false, true, true, true, true, false, false] (L2 := [some (.ref o), none, some (.int a2), some (.ref a3), some (.int 0), some (.int (f_J9_max_7cf53 a1 0)), none, none]) rfl ?_
  obtain ⟨q30, hlq30, h⟩ := b1E h
  obtain ⟨y31, M32⟩ := q30
  dsimp only at h
  have hx : XM l E (RX2, "worked", cX2_worked, 8) (some .int) 1 195 [some (.ref o), none, none, none, some (.int y31), none, none, none] [] M32 M' (some (.int r)) := by
    refine ex_iload dX2_worked_195 rfl ?_
    refine ex_if_le 212 dX2_worked_197 (by decide) (fun c33 => ?_) (fun c33 => ?_)
    · rw [if_pos c33] at h
      refine ex_iconst 0 dX2_worked_212 kI_0 ?_
      cases h
      exact mx_reti .int dX2_worked_213 ⟨rfl, rfl⟩
    · rw [if_neg c33] at h
      refine ex_aload_n dX2_worked_200 rfl ?_
      refine mx_getr 2 (o + 7) dX2_worked_201 fl_X2_30 ho (rf_2_6 ho) ?_
      refine ex_iload dX2_worked_204 rfl ?_
      refine ex_iconst 1 dX2_worked_206 kI_1 ?_
      refine ex_isub dX2_worked_207 ?_
      obtain ⟨x34, qx34, h⟩ := b1E h
      refine mx_iald x34 dX2_worked_208 qx34 ?_
      refine ex_goto 213 dX2_worked_209 (by decide) ?_
      cases h
      exact mx_reti .int dX2_worked_213 ⟨rfl, rfl⟩
  clear h
  have key : ∀ (k : Nat) (s : Int32 × Int32 × Mem), lp (fun s => w_X2_worked_10 o a2 a3 s.1 s.2.1 s.2.2) k s = some (y31, M32) → XM l E (RX2, "worked", cX2_worked, 8) (some .int) 1 10 [some (.ref o), none, some (.int a2), some (.ref a3), some (.int s.1), some (.int s.2.1), none, none] [] s.2.2 M' (some (.int r)) := lp_ind (P := fun (s : Int32 × Int32 × Mem) => XM l E (RX2, "worked", cX2_worked, 8) (some .int) 1 10 [some (.ref o), none, some (.int a2), some (.ref a3), some (.int s.1), some (.int s.2.1), none, none] [] s.2.2 M' (some (.int r))) (fun s t hb hk he => by
    obtain ⟨i1, i2, M3⟩ := s
    show XM l E (RX2, "worked", cX2_worked, 8) (some .int) 1 10 [some (.ref o), none, some (.int a2), some (.ref a3), some (.int i1), some (.int i2), none, none] [] M3 M' (some (.int r))
    change w_X2_worked_10 o a2 a3 i1 i2 M3 = some t at hb
    unfold w_X2_worked_10 at hb
    refine ex_iload dX2_worked_10 rfl ?_
    refine ex_iload_n dX2_worked_12 rfl ?_
    have JXC7 : (a2 ≤ i2 ∨ (400 ≤ i2 ∨ 32 ≤ i1)) → XM l E (RX2, "worked", cX2_worked, 8) (some .int) 1 195 [some (.ref o), none, some (.int a2), some (.ref a3), some (.int i1), some (.int i2), none, none] [] M3 M' (some (.int r)) := fun C7 => by
      rw [if_pos C7] at hb
      refine ex_mskL [true, false, false, false, true, false, false, false] (L2 := [some (.ref o), none, none, none, some (.int i1), none, none, none]) rfl ?_
      cases hb
      cases (he _ rfl) <;> exact hx
    have JYC7 : ¬ ((a2 ≤ i2 ∨ (400 ≤ i2 ∨ 32 ≤ i1))) → XM l E (RX2, "worked", cX2_worked, 8) (some .int) 1 37 [some (.ref o), none, some (.int a2), some (.ref a3), some (.int i1), some (.int i2), none, none] [.int i2, .ref (o + 5)] M3 M' (some (.int r)) := fun C7 => by
      rw [if_neg C7] at hb
      obtain ⟨x8, qx8, hb⟩ := b1E hb
      refine mx_iald x8 dX2_worked_37 qx8 ?_
      refine ex_istore (L2 := [some (.ref o), none, some (.int a2), some (.ref a3), some (.int i1), some (.int i2), some (.int x8), none]) dX2_worked_38 (by decide) rfl ?_
      refine ex_aload_n dX2_worked_40 rfl ?_
      refine mx_getr 2 (o + 6) dX2_worked_41 fl_X2_27 ho (rf_2_5 ho) ?_
      refine ex_iload dX2_worked_44 rfl ?_
      obtain ⟨x9, qx9, hb⟩ := b1E hb
      refine mx_iald x9 dX2_worked_46 qx9 ?_
      refine ex_istore (L2 := [some (.ref o), none, some (.int a2), some (.ref a3), some (.int i1), some (.int i2), some (.int x8), some (.int x9)]) dX2_worked_47 (by decide) rfl ?_
      refine ex_iload dX2_worked_49 rfl ?_
      refine ex_sipush 256 dX2_worked_51 kS_256 ?_
      refine ex_icmp_ne 72 dX2_worked_54 (by decide) (fun c10 => ?_) (fun c10 => ?_)
      · rw [if_neg c10] at hb
        refine ex_iload dX2_worked_72 rfl ?_
        refine ex_sipush 259 dX2_worked_74 kS_259 ?_
        refine ex_icmp_ne 113 dX2_worked_77 (by decide) (fun c11 => ?_) (fun c11 => ?_)
        · rw [if_neg c11] at hb
          refine ex_iload dX2_worked_113 rfl ?_
          refine ex_sipush 314 dX2_worked_115 kS_314 ?_
          have JXC14 : (¬ (x8 = 314) ∨ i1 < 1) → XM l E (RX2, "worked", cX2_worked, 8) (some .int) 1 150 [some (.ref o), none, some (.int a2), some (.ref a3), some (.int i1), some (.int i2), some (.int x8), some (.int x9)] [] M3 M' (some (.int r)) := fun C14 => by
            rw [if_pos C14] at hb
            refine ex_iload dX2_worked_150 rfl ?_
            refine ex_iconst 2 dX2_worked_152 kI_2 ?_
            refine ex_icmp_lt 189 dX2_worked_153 (by decide) (fun c15 => ?_) (fun c15 => ?_)
            · rw [if_pos c15] at hb
              refine ex_iinc 1 (L2 := [some (.ref o), none, some (.int a2), some (.ref a3), some (.int i1), some (.int (i2 + 1)), some (.int x8), some (.int x9)]) dX2_worked_189 rfl kI_1 (by decide) rfl ?_
              refine ex_goto 10 dX2_worked_192 (by decide) ?_
              refine ex_mskL [true, false, true, true, true, true, false, false] (L2 := [some (.ref o), none, some (.int a2), some (.ref a3), some (.int i1), some (.int (i2 + 1)), none, none]) rfl ?_
              cases hb
              exact hk (i1, (i2 + 1), M3) rfl
            · rw [if_neg c15] at hb
              refine ex_iinc (-1) (L2 := [some (.ref o), none, some (.int a2), some (.ref a3), some (.int (i1 + (-1))), some (.int i2), some (.int x8), some (.int x9)]) dX2_worked_156 rfl kI_m1 (by decide) rfl ?_
              refine ex_aload_n dX2_worked_159 rfl ?_
              refine mx_getr 2 (o + 7) dX2_worked_160 fl_X2_30 ho (rf_2_6 ho) ?_
              refine ex_iload dX2_worked_163 rfl ?_
              refine ex_iconst 1 dX2_worked_165 kI_1 ?_
              refine ex_isub dX2_worked_166 ?_
              refine ex_iload dX2_worked_167 rfl ?_
              refine ex_aload_n dX2_worked_169 rfl ?_
              refine mx_getr 2 (o + 7) dX2_worked_170 fl_X2_30 ho (rf_2_6 ho) ?_
              refine ex_iload dX2_worked_173 rfl ?_
              refine ex_iconst 1 dX2_worked_175 kI_1 ?_
              refine ex_isub dX2_worked_176 ?_
              obtain ⟨x16, qx16, hb⟩ := b1E hb
              refine mx_iald x16 dX2_worked_177 qx16 ?_
              refine ex_aload_n dX2_worked_178 rfl ?_
              refine mx_getr 2 (o + 7) dX2_worked_179 fl_X2_30 ho (rf_2_6 ho) ?_
              refine ex_iload dX2_worked_182 rfl ?_
              obtain ⟨x17, qx17, hb⟩ := b1E hb
              refine mx_iald x17 dX2_worked_184 qx17 ?_
              obtain ⟨x18, qx18, hb⟩ := b1E hb
              refine mx_cSi [.int x8, .int x16, .int x17] [.int ((i1 + (-1)) - 1), .ref (o + 7)] x18 dX2_worked_185 cl_X2_60 sm_X2_ofTwo rfl (Nat.le_of_ble_eq_true rfl) (by decide) (t_X2_ofTwo l E x8 x16 x17 M3 qx18) ?_
              obtain ⟨M19, qM19, hb⟩ := b1E hb
              refine mx_iast M19 dX2_worked_188 qM19 ?_
              refine ex_iinc 1 (L2 := [some (.ref o), none, some (.int a2), some (.ref a3), some (.int (i1 + (-1))), some (.int (i2 + 1)), some (.int x8), some (.int x9)]) dX2_worked_189 rfl kI_1 (by decide) rfl ?_
              refine ex_goto 10 dX2_worked_192 (by decide) ?_
              refine ex_mskL [true, false, true, true, true, true, false, false] (L2 := [some (.ref o), none, some (.int a2), some (.ref a3), some (.int (i1 + (-1))), some (.int (i2 + 1)), none, none]) rfl ?_
              cases hb
              exact hk ((i1 + (-1)), (i2 + 1), M19) rfl
          have JYC14 : ¬ ((¬ (x8 = 314) ∨ i1 < 1)) → XM l E (RX2, "worked", cX2_worked, 8) (some .int) 1 144 [some (.ref o), none, some (.int a2), some (.ref a3), some (.int i1), some (.int i2), some (.int x8), some (.int x9)] [.int (i1 - 1), .ref (o + 7), .int 1, .int (i1 - 1), .ref (o + 7)] M3 M' (some (.int r)) := fun C14 => by
            rw [if_neg C14] at hb
            obtain ⟨x20, qx20, hb⟩ := b1E hb
            refine mx_iald x20 dX2_worked_144 qx20 ?_
            refine ex_isub dX2_worked_145 ?_
            obtain ⟨M21, qM21, hb⟩ := b1E hb
            refine mx_iast M21 dX2_worked_146 qM21 ?_
            refine ex_goto 189 dX2_worked_147 (by decide) ?_
            refine ex_iinc 1 (L2 := [some (.ref o), none, some (.int a2), some (.ref a3), some (.int i1), some (.int (i2 + 1)), some (.int x8), some (.int x9)]) dX2_worked_189 rfl kI_1 (by decide) rfl ?_
            refine ex_goto 10 dX2_worked_192 (by decide) ?_
            refine ex_mskL [true, false, true, true, true, true, false, false] (L2 := [some (.ref o), none, some (.int a2), some (.ref a3), some (.int i1), some (.int (i2 + 1)), none, none]) rfl ?_
            cases hb
            exact hk (i1, (i2 + 1), M21) rfl
          clear hb
          refine ex_icmp_ne 150 dX2_worked_118 (by decide) (fun c12 => ?_) (fun c12 => ?_)
          · exact JXC14 (Or.inl c12)
          · refine ex_iload dX2_worked_121 rfl ?_
            refine ex_iconst 1 dX2_worked_123 kI_1 ?_
            refine ex_icmp_lt 150 dX2_worked_124 (by decide) (fun c13 => ?_) (fun c13 => ?_)
            · exact JXC14 (Or.inr c13)
            · refine ex_aload_n dX2_worked_127 rfl ?_
              refine mx_getr 2 (o + 7) dX2_worked_128 fl_X2_30 ho (rf_2_6 ho) ?_
              refine ex_iload dX2_worked_131 rfl ?_
              refine ex_iconst 1 dX2_worked_133 kI_1 ?_
              refine ex_isub dX2_worked_134 ?_
              refine ex_iconst 1 dX2_worked_135 kI_1 ?_
              refine ex_aload_n dX2_worked_136 rfl ?_
              refine mx_getr 2 (o + 7) dX2_worked_137 fl_X2_30 ho (rf_2_6 ho) ?_
              refine ex_iload dX2_worked_140 rfl ?_
              refine ex_iconst 1 dX2_worked_142 kI_1 ?_
              refine ex_isub dX2_worked_143 ?_
              exact JYC14 (fun z => z.elim (fun y => y c12) c13)
        · rw [if_pos c11] at hb
          refine ex_aload_n dX2_worked_80 rfl ?_
          refine mx_getr 2 (o + 7) dX2_worked_81 fl_X2_30 ho (rf_2_6 ho) ?_
          refine ex_iload dX2_worked_84 rfl ?_
          refine ex_iload dX2_worked_86 rfl ?_
          refine ex_if_lt 105 dX2_worked_88 (by decide) (fun c22 => ?_) (fun c22 => ?_)
          · rw [if_pos c22] at hb
            refine ex_iconst 0 dX2_worked_105 kI_0 ?_
            obtain ⟨M23, qM23, hb⟩ := b1E hb
            refine mx_iast M23 dX2_worked_106 qM23 ?_
            refine ex_iinc 1 (L2 := [some (.ref o), none, some (.int a2), some (.ref a3), some (.int (i1 + 1)), some (.int i2), some (.int x8), some (.int x9)]) dX2_worked_107 rfl kI_1 (by decide) rfl ?_
            refine ex_goto 189 dX2_worked_110 (by decide) ?_
            refine ex_iinc 1 (L2 := [some (.ref o), none, some (.int a2), some (.ref a3), some (.int (i1 + 1)), some (.int (i2 + 1)), some (.int x8), some (.int x9)]) dX2_worked_189 rfl kI_1 (by decide) rfl ?_
            refine ex_goto 10 dX2_worked_192 (by decide) ?_
            refine ex_mskL [true, false, true, true, true, true, false, false] (L2 := [some (.ref o), none, some (.int a2), some (.ref a3), some (.int (i1 + 1)), some (.int (i2 + 1)), none, none]) rfl ?_
            cases hb
            exact hk ((i1 + 1), (i2 + 1), M23) rfl
          · rw [if_neg c22] at hb
            refine ex_iload dX2_worked_91 rfl ?_
            refine ex_aload_n dX2_worked_93 rfl ?_
            obtain ⟨x24, qx24, hb⟩ := b1E hb
            refine mx_alen x24 dX2_worked_94 qx24 ?_
            refine ex_icmp_ge 105 dX2_worked_95 (by decide) (fun c25 => ?_) (fun c25 => ?_)
            · rw [if_pos c25] at hb
              refine ex_iconst 0 dX2_worked_105 kI_0 ?_
              obtain ⟨M26, qM26, hb⟩ := b1E hb
              refine mx_iast M26 dX2_worked_106 qM26 ?_
              refine ex_iinc 1 (L2 := [some (.ref o), none, some (.int a2), some (.ref a3), some (.int (i1 + 1)), some (.int i2), some (.int x8), some (.int x9)]) dX2_worked_107 rfl kI_1 (by decide) rfl ?_
              refine ex_goto 189 dX2_worked_110 (by decide) ?_
              refine ex_iinc 1 (L2 := [some (.ref o), none, some (.int a2), some (.ref a3), some (.int (i1 + 1)), some (.int (i2 + 1)), some (.int x8), some (.int x9)]) dX2_worked_189 rfl kI_1 (by decide) rfl ?_
              refine ex_goto 10 dX2_worked_192 (by decide) ?_
              refine ex_mskL [true, false, true, true, true, true, false, false] (L2 := [some (.ref o), none, some (.int a2), some (.ref a3), some (.int (i1 + 1)), some (.int (i2 + 1)), none, none]) rfl ?_
              cases hb
              exact hk ((i1 + 1), (i2 + 1), M26) rfl
            · rw [if_neg c25] at hb
              refine ex_aload_n dX2_worked_98 rfl ?_
              refine ex_iload dX2_worked_99 rfl ?_
              obtain ⟨x27, qx27, hb⟩ := b1E hb
              refine mx_iald x27 dX2_worked_101 qx27 ?_
              refine ex_goto 106 dX2_worked_102 (by decide) ?_
              obtain ⟨M28, qM28, hb⟩ := b1E hb
              refine mx_iast M28 dX2_worked_106 qM28 ?_
              refine ex_iinc 1 (L2 := [some (.ref o), none, some (.int a2), some (.ref a3), some (.int (i1 + 1)), some (.int i2), some (.int x8), some (.int x9)]) dX2_worked_107 rfl kI_1 (by decide) rfl ?_
              refine ex_goto 189 dX2_worked_110 (by decide) ?_
              refine ex_iinc 1 (L2 := [some (.ref o), none, some (.int a2), some (.ref a3), some (.int (i1 + 1)), some (.int (i2 + 1)), some (.int x8), some (.int x9)]) dX2_worked_189 rfl kI_1 (by decide) rfl ?_
              refine ex_goto 10 dX2_worked_192 (by decide) ?_
              refine ex_mskL [true, false, true, true, true, true, false, false] (L2 := [some (.ref o), none, some (.int a2), some (.ref a3), some (.int (i1 + 1)), some (.int (i2 + 1)), none, none]) rfl ?_
              cases hb
              exact hk ((i1 + 1), (i2 + 1), M28) rfl
      · rw [if_pos c10] at hb
        refine ex_aload_n dX2_worked_57 rfl ?_
        refine mx_getr 2 (o + 7) dX2_worked_58 fl_X2_30 ho (rf_2_6 ho) ?_
        refine ex_iload dX2_worked_61 rfl ?_
        refine ex_iload dX2_worked_63 rfl ?_
        obtain ⟨M29, qM29, hb⟩ := b1E hb
        refine mx_iast M29 dX2_worked_65 qM29 ?_
        refine ex_iinc 1 (L2 := [some (.ref o), none, some (.int a2), some (.ref a3), some (.int (i1 + 1)), some (.int i2), some (.int x8), some (.int x9)]) dX2_worked_66 rfl kI_1 (by decide) rfl ?_
        refine ex_goto 189 dX2_worked_69 (by decide) ?_
        refine ex_iinc 1 (L2 := [some (.ref o), none, some (.int a2), some (.ref a3), some (.int (i1 + 1)), some (.int (i2 + 1)), some (.int x8), some (.int x9)]) dX2_worked_189 rfl kI_1 (by decide) rfl ?_
        refine ex_goto 10 dX2_worked_192 (by decide) ?_
        refine ex_mskL [true, false, true, true, true, true, false, false] (L2 := [some (.ref o), none, some (.int a2), some (.ref a3), some (.int (i1 + 1)), some (.int (i2 + 1)), none, none]) rfl ?_
        cases hb
        exact hk ((i1 + 1), (i2 + 1), M29) rfl
    clear hb
    refine ex_icmp_ge 195 dX2_worked_13 (by decide) (fun c4 => ?_) (fun c4 => ?_)
    · exact JXC7 (Or.inl c4)
    · refine ex_iload dX2_worked_16 rfl ?_
      refine ex_sipush 400 dX2_worked_18 kS_400 ?_
      refine ex_icmp_ge 195 dX2_worked_21 (by decide) (fun c5 => ?_) (fun c5 => ?_)
      · exact JXC7 (Or.inr (Or.inl c5))
      · refine ex_iload dX2_worked_24 rfl ?_
        refine ex_bipush 32 dX2_worked_26 kB_32 ?_
        refine ex_icmp_ge 195 dX2_worked_28 (by decide) (fun c6 => ?_) (fun c6 => ?_)
        · exact JXC7 (Or.inr (Or.inr c6))
        · refine ex_aload_n dX2_worked_31 rfl ?_
          refine mx_getr 2 (o + 5) dX2_worked_32 fl_X2_24 ho (rf_2_4 ho) ?_
          refine ex_iload dX2_worked_35 rfl ?_
          exact JYC7 (fun z => z.elim c4 (fun z => z.elim c5 c6)))
  exact key FU (0, (f_J9_max_7cf53 a1 0), M) hlq30
def w_X2_tells_3 (o : Nat) (a1 : Int32) (a2 : Nat) (i1 : Int32) (M2 : Mem) : Option ((Int32 × Mem) ⊕ ((Int32 × Mem) ⊕ (Mem))) :=
  if ((M2 o 7) ≤ i1 ∨ 16 ≤ i1) then (some (.inr (.inr M2))) else (b1 (rd M2 (o + 3) i1) fun x6 => b1 (rd M2 (o + 4) i1) fun x7 => lt ((if x6 = x7 then 1 else 0) : Int32) fun x9 => b1 (rd M2 (o + 1) i1) fun x10 => if x10 = a1 then (if x9 = 0 then (b1 (rd M2 (o + 3) i1) fun x13 => b1 (rd M2 (o + 4) i1) fun x14 => b2 (f_X2_worked o x13 x14 a2 M2) fun M15 x16 => if x16 = 0 then (some (.inl ((i1 + 1), M15))) else (some (.inr (.inl (i1, M15))))) else (some (.inr (.inl (i1, M2))))) else (some (.inl ((i1 + 1), M2))))
def f_X2_tells (o : Nat) (a1 : Int32) (a2 : Nat) (a3 : Int32) (M : Mem) : Option (Mem × Int32) :=
  b1 (lp (fun s => w_X2_tells_3 o a1 a2 s.1 s.2) FU (0, M)) fun q18 => match q18 with | .inl u19 => (b1 (rd u19.2 (o + 2) u19.1) fun x22 => b1 (rd u19.2 (o + 3) u19.1) fun x23 => b2 (f_X2_worked o x22 x23 a2 u19.2) fun M24 x25 => some (M24, x25)) | .inr u26 => (some (u26, a3))
set_option maxRecDepth 100000 in
set_option maxHeartbeats 4000000 in
theorem t_X2_tells (l : Launch) (E : EV) (o : Nat) (a1 : Int32) (a2 : Nat) (a3 : Int32) (ho : oc o = some 2) (M : Mem) {M' : Mem} {r : Int32} (h : f_X2_tells o a1 a2 a3 M = some (M', r)) : RunM l E yX2_tells cX2_tells 6 (some .int) 2 [.ref o, .int a1, .ref a2, .int a3] M M' (some (.int r)) := by
  refine RunM.of (by decide) (Nat.le_of_ble_eq_true rfl) ?_
  show XM l E (RX2, "tells", cX2_tells, 6) (some .int) 2 0 [some (.ref o), some (.int a1), some (.ref a2), some (.int a3), none, none] [] M M' (some (.int r))
  unfold f_X2_tells at h
  refine ex_iconst 0 dX2_tells_0 kI_0 ?_
  refine ex_istore (L2 := [some (.ref o), some (.int a1), some (.ref a2), some (.int a3), some (.int 0), none]) dX2_tells_1 (by decide) rfl ?_
  refine ex_mskL [true, true, true, true, true, false] (L2 := [some (.ref o), some (.int a1), some (.ref a2), some (.int a3), some (.int 0), none]) rfl ?_
  obtain ⟨q18, hlq18, h⟩ := b1E h
  rcases q18 with ⟨y20, M21⟩ | u26
  · dsimp only at h
    have hx : XM l E (RX2, "tells", cX2_tells, 6) (some .int) 2 81 [some (.ref o), none, some (.ref a2), none, some (.int y20), none] [] M21 M' (some (.int r)) := by
      refine ex_aload_n dX2_tells_81 rfl ?_
      refine ex_aload_n dX2_tells_82 rfl ?_
      refine mx_getr 2 (o + 2) dX2_tells_83 fl_X2_15 ho (rf_2_1 ho) ?_
      refine ex_iload dX2_tells_86 rfl ?_
      obtain ⟨x22, qx22, h⟩ := b1E h
      refine mx_iald x22 dX2_tells_88 qx22 ?_
      refine ex_aload_n dX2_tells_89 rfl ?_
      refine mx_getr 2 (o + 3) dX2_tells_90 fl_X2_18 ho (rf_2_2 ho) ?_
      refine ex_iload dX2_tells_93 rfl ?_
      obtain ⟨x23, qx23, h⟩ := b1E h
      refine mx_iald x23 dX2_tells_95 qx23 ?_
      refine ex_aload_n dX2_tells_96 rfl ?_
      obtain ⟨M24, x25, qx25, h⟩ := b2E h
      refine mx_cVi [.int x22, .int x23, .ref a2] [] o 2 x25 dX2_tells_97 cl_X2_50 im_X2_worked cy_X2_worked ho rfl (Nat.le_of_ble_eq_true rfl) (by decide) (t_X2_worked l E o x22 x23 a2 ho M21 qx25) ?_
      cases h
      exact mx_reti .int dX2_tells_100 ⟨rfl, rfl⟩
    clear h
    have key : ∀ (k : Nat) (s : Int32 × Mem), lp (fun s => w_X2_tells_3 o a1 a2 s.1 s.2) k s = some (.inl (y20, M21)) → XM l E (RX2, "tells", cX2_tells, 6) (some .int) 2 3 [some (.ref o), some (.int a1), some (.ref a2), some (.int a3), some (.int s.1), none] [] s.2 M' (some (.int r)) := lp_ind (P := fun (s : Int32 × Mem) => XM l E (RX2, "tells", cX2_tells, 6) (some .int) 2 3 [some (.ref o), some (.int a1), some (.ref a2), some (.int a3), some (.int s.1), none] [] s.2 M' (some (.int r))) (fun s t hb hk he => by
      obtain ⟨i1, M2⟩ := s
      show XM l E (RX2, "tells", cX2_tells, 6) (some .int) 2 3 [some (.ref o), some (.int a1), some (.ref a2), some (.int a3), some (.int i1), none] [] M2 M' (some (.int r))
      change w_X2_tells_3 o a1 a2 i1 M2 = some t at hb
      unfold w_X2_tells_3 at hb
      refine ex_iload dX2_tells_3 rfl ?_
      refine ex_aload_n dX2_tells_5 rfl ?_
      refine mx_geti 2 dX2_tells_6 fl_X2_33 ho (isi_2_7 ho) ?_
      have JXC5 : ((M2 o 7) ≤ i1 ∨ 16 ≤ i1) → XM l E (RX2, "tells", cX2_tells, 6) (some .int) 2 107 [some (.ref o), some (.int a1), some (.ref a2), some (.int a3), some (.int i1), none] [] M2 M' (some (.int r)) := fun C5 => by
        rw [if_pos C5] at hb
        refine ex_mskL [false, false, false, true, false, false] (L2 := [none, none, none, some (.int a3), none, none]) rfl ?_
        cases hb
        cases (he _ rfl) <;> exact hx
      have JYC5 : ¬ (((M2 o 7) ≤ i1 ∨ 16 ≤ i1)) → XM l E (RX2, "tells", cX2_tells, 6) (some .int) 2 25 [some (.ref o), some (.int a1), some (.ref a2), some (.int a3), some (.int i1), none] [.int i1, .ref (o + 3)] M2 M' (some (.int r)) := fun C5 => by
        rw [if_neg C5] at hb
        obtain ⟨x6, qx6, hb⟩ := b1E hb
        refine mx_iald x6 dX2_tells_25 qx6 ?_
        refine ex_aload_n dX2_tells_26 rfl ?_
        refine mx_getr 2 (o + 4) dX2_tells_27 fl_X2_21 ho (rf_2_3 ho) ?_
        refine ex_iload dX2_tells_30 rfl ?_
        obtain ⟨x7, qx7, hb⟩ := b1E hb
        refine mx_iald x7 dX2_tells_32 qx7 ?_
        obtain ⟨x9, ex9, hb⟩ := ltE hb
        have Jx9 : XM l E (RX2, "tells", cX2_tells, 6) (some .int) 2 41 [some (.ref o), some (.int a1), some (.ref a2), some (.int a3), some (.int i1), none] [.int x9] M2 M' (some (.int r)) := by
          refine ex_istore (L2 := [some (.ref o), some (.int a1), some (.ref a2), some (.int a3), some (.int i1), some (.int x9)]) dX2_tells_41 (by decide) rfl ?_
          refine ex_aload_n dX2_tells_43 rfl ?_
          refine mx_getr 2 (o + 1) dX2_tells_44 fl_X2_11 ho (rf_2_0 ho) ?_
          refine ex_iload dX2_tells_47 rfl ?_
          obtain ⟨x10, qx10, hb⟩ := b1E hb
          refine mx_iald x10 dX2_tells_49 qx10 ?_
          refine ex_iload_n dX2_tells_50 rfl ?_
          refine ex_icmp_ne 101 dX2_tells_51 (by decide) (fun c11 => ?_) (fun c11 => ?_)
          · rw [if_neg c11] at hb
            refine ex_iinc 1 (L2 := [some (.ref o), some (.int a1), some (.ref a2), some (.int a3), some (.int (i1 + 1)), some (.int x9)]) dX2_tells_101 rfl kI_1 (by decide) rfl ?_
            refine ex_goto 3 dX2_tells_104 (by decide) ?_
            refine ex_mskL [true, true, true, true, true, false] (L2 := [some (.ref o), some (.int a1), some (.ref a2), some (.int a3), some (.int (i1 + 1)), none]) rfl ?_
            cases hb
            exact hk ((i1 + 1), M2) rfl
          · rw [if_pos c11] at hb
            refine ex_iload dX2_tells_54 rfl ?_
            refine ex_if_ne 81 dX2_tells_56 (by decide) (fun c12 => ?_) (fun c12 => ?_)
            · rw [if_neg c12] at hb
              refine ex_mskL [true, false, true, false, true, false] (L2 := [some (.ref o), none, some (.ref a2), none, some (.int i1), none]) rfl ?_
              cases hb
              cases (he _ rfl) <;> exact hx
            · rw [if_pos c12] at hb
              refine ex_aload_n dX2_tells_59 rfl ?_
              refine ex_aload_n dX2_tells_60 rfl ?_
              refine mx_getr 2 (o + 3) dX2_tells_61 fl_X2_18 ho (rf_2_2 ho) ?_
              refine ex_iload dX2_tells_64 rfl ?_
              obtain ⟨x13, qx13, hb⟩ := b1E hb
              refine mx_iald x13 dX2_tells_66 qx13 ?_
              refine ex_aload_n dX2_tells_67 rfl ?_
              refine mx_getr 2 (o + 4) dX2_tells_68 fl_X2_21 ho (rf_2_3 ho) ?_
              refine ex_iload dX2_tells_71 rfl ?_
              obtain ⟨x14, qx14, hb⟩ := b1E hb
              refine mx_iald x14 dX2_tells_73 qx14 ?_
              refine ex_aload_n dX2_tells_74 rfl ?_
              obtain ⟨M15, x16, qx16, hb⟩ := b2E hb
              refine mx_cVi [.int x13, .int x14, .ref a2] [] o 2 x16 dX2_tells_75 cl_X2_50 im_X2_worked cy_X2_worked ho rfl (Nat.le_of_ble_eq_true rfl) (by decide) (t_X2_worked l E o x13 x14 a2 ho M2 qx16) ?_
              refine ex_if_eq 101 dX2_tells_78 (by decide) (fun c17 => ?_) (fun c17 => ?_)
              · rw [if_pos c17] at hb
                refine ex_iinc 1 (L2 := [some (.ref o), some (.int a1), some (.ref a2), some (.int a3), some (.int (i1 + 1)), some (.int x9)]) dX2_tells_101 rfl kI_1 (by decide) rfl ?_
                refine ex_goto 3 dX2_tells_104 (by decide) ?_
                refine ex_mskL [true, true, true, true, true, false] (L2 := [some (.ref o), some (.int a1), some (.ref a2), some (.int a3), some (.int (i1 + 1)), none]) rfl ?_
                cases hb
                exact hk ((i1 + 1), M15) rfl
              · rw [if_neg c17] at hb
                refine ex_mskL [true, false, true, false, true, false] (L2 := [some (.ref o), none, some (.ref a2), none, some (.int i1), none]) rfl ?_
                cases hb
                cases (he _ rfl) <;> exact hx
        clear hb
        refine ex_icmp_ne 40 dX2_tells_33 (by decide) (fun c8 => ?_) (fun c8 => ?_)
        · rw [if_neg c8] at ex9
          refine ex_iconst 0 dX2_tells_40 kI_0 ?_
          subst ex9
          exact Jx9
        · rw [if_pos c8] at ex9
          refine ex_iconst 1 dX2_tells_36 kI_1 ?_
          refine ex_goto 41 dX2_tells_37 (by decide) ?_
          subst ex9
          exact Jx9
      clear hb
      refine ex_icmp_ge 107 dX2_tells_9 (by decide) (fun c3 => ?_) (fun c3 => ?_)
      · exact JXC5 (Or.inl c3)
      · refine ex_iload dX2_tells_12 rfl ?_
        refine ex_bipush 16 dX2_tells_14 kB_16 ?_
        refine ex_icmp_ge 107 dX2_tells_16 (by decide) (fun c4 => ?_) (fun c4 => ?_)
        · exact JXC5 (Or.inr c4)
        · refine ex_aload_n dX2_tells_19 rfl ?_
          refine mx_getr 2 (o + 3) dX2_tells_20 fl_X2_18 ho (rf_2_2 ho) ?_
          refine ex_iload dX2_tells_23 rfl ?_
          exact JYC5 (fun z => z.elim c3 c4))
    exact key FU (0, M) hlq18
  · dsimp only at h
    have hx : XM l E (RX2, "tells", cX2_tells, 6) (some .int) 2 107 [none, none, none, some (.int a3), none, none] [] u26 M' (some (.int r)) := by
      refine ex_iload_n dX2_tells_107 rfl ?_
      cases h
      exact mx_reti .int dX2_tells_108 ⟨rfl, rfl⟩
    clear h
    have key : ∀ (k : Nat) (s : Int32 × Mem), lp (fun s => w_X2_tells_3 o a1 a2 s.1 s.2) k s = some (.inr u26) → XM l E (RX2, "tells", cX2_tells, 6) (some .int) 2 3 [some (.ref o), some (.int a1), some (.ref a2), some (.int a3), some (.int s.1), none] [] s.2 M' (some (.int r)) := lp_ind (P := fun (s : Int32 × Mem) => XM l E (RX2, "tells", cX2_tells, 6) (some .int) 2 3 [some (.ref o), some (.int a1), some (.ref a2), some (.int a3), some (.int s.1), none] [] s.2 M' (some (.int r))) (fun s t hb hk he => by
      obtain ⟨i1, M2⟩ := s
      show XM l E (RX2, "tells", cX2_tells, 6) (some .int) 2 3 [some (.ref o), some (.int a1), some (.ref a2), some (.int a3), some (.int i1), none] [] M2 M' (some (.int r))
      change w_X2_tells_3 o a1 a2 i1 M2 = some t at hb
      unfold w_X2_tells_3 at hb
      refine ex_iload dX2_tells_3 rfl ?_
      refine ex_aload_n dX2_tells_5 rfl ?_
      refine mx_geti 2 dX2_tells_6 fl_X2_33 ho (isi_2_7 ho) ?_
      have JXC5 : ((M2 o 7) ≤ i1 ∨ 16 ≤ i1) → XM l E (RX2, "tells", cX2_tells, 6) (some .int) 2 107 [some (.ref o), some (.int a1), some (.ref a2), some (.int a3), some (.int i1), none] [] M2 M' (some (.int r)) := fun C5 => by
        rw [if_pos C5] at hb
        refine ex_mskL [false, false, false, true, false, false] (L2 := [none, none, none, some (.int a3), none, none]) rfl ?_
        cases hb
        cases (he _ rfl) <;> exact hx
      have JYC5 : ¬ (((M2 o 7) ≤ i1 ∨ 16 ≤ i1)) → XM l E (RX2, "tells", cX2_tells, 6) (some .int) 2 25 [some (.ref o), some (.int a1), some (.ref a2), some (.int a3), some (.int i1), none] [.int i1, .ref (o + 3)] M2 M' (some (.int r)) := fun C5 => by
        rw [if_neg C5] at hb
        obtain ⟨x6, qx6, hb⟩ := b1E hb
        refine mx_iald x6 dX2_tells_25 qx6 ?_
        refine ex_aload_n dX2_tells_26 rfl ?_
        refine mx_getr 2 (o + 4) dX2_tells_27 fl_X2_21 ho (rf_2_3 ho) ?_
        refine ex_iload dX2_tells_30 rfl ?_
        obtain ⟨x7, qx7, hb⟩ := b1E hb
        refine mx_iald x7 dX2_tells_32 qx7 ?_
        obtain ⟨x9, ex9, hb⟩ := ltE hb
        have Jx9 : XM l E (RX2, "tells", cX2_tells, 6) (some .int) 2 41 [some (.ref o), some (.int a1), some (.ref a2), some (.int a3), some (.int i1), none] [.int x9] M2 M' (some (.int r)) := by
          refine ex_istore (L2 := [some (.ref o), some (.int a1), some (.ref a2), some (.int a3), some (.int i1), some (.int x9)]) dX2_tells_41 (by decide) rfl ?_
          refine ex_aload_n dX2_tells_43 rfl ?_
          refine mx_getr 2 (o + 1) dX2_tells_44 fl_X2_11 ho (rf_2_0 ho) ?_
          refine ex_iload dX2_tells_47 rfl ?_
          obtain ⟨x10, qx10, hb⟩ := b1E hb
          refine mx_iald x10 dX2_tells_49 qx10 ?_
          refine ex_iload_n dX2_tells_50 rfl ?_
          refine ex_icmp_ne 101 dX2_tells_51 (by decide) (fun c11 => ?_) (fun c11 => ?_)
          · rw [if_neg c11] at hb
            refine ex_iinc 1 (L2 := [some (.ref o), some (.int a1), some (.ref a2), some (.int a3), some (.int (i1 + 1)), some (.int x9)]) dX2_tells_101 rfl kI_1 (by decide) rfl ?_
            refine ex_goto 3 dX2_tells_104 (by decide) ?_
            refine ex_mskL [true, true, true, true, true, false] (L2 := [some (.ref o), some (.int a1), some (.ref a2), some (.int a3), some (.int (i1 + 1)), none]) rfl ?_
            cases hb
            exact hk ((i1 + 1), M2) rfl
          · rw [if_pos c11] at hb
            refine ex_iload dX2_tells_54 rfl ?_
            refine ex_if_ne 81 dX2_tells_56 (by decide) (fun c12 => ?_) (fun c12 => ?_)
            · rw [if_neg c12] at hb
              refine ex_mskL [true, false, true, false, true, false] (L2 := [some (.ref o), none, some (.ref a2), none, some (.int i1), none]) rfl ?_
              cases hb
              cases (he _ rfl) <;> exact hx
            · rw [if_pos c12] at hb
              refine ex_aload_n dX2_tells_59 rfl ?_
              refine ex_aload_n dX2_tells_60 rfl ?_
              refine mx_getr 2 (o + 3) dX2_tells_61 fl_X2_18 ho (rf_2_2 ho) ?_
              refine ex_iload dX2_tells_64 rfl ?_
              obtain ⟨x13, qx13, hb⟩ := b1E hb
              refine mx_iald x13 dX2_tells_66 qx13 ?_
              refine ex_aload_n dX2_tells_67 rfl ?_
              refine mx_getr 2 (o + 4) dX2_tells_68 fl_X2_21 ho (rf_2_3 ho) ?_
              refine ex_iload dX2_tells_71 rfl ?_
              obtain ⟨x14, qx14, hb⟩ := b1E hb
              refine mx_iald x14 dX2_tells_73 qx14 ?_
              refine ex_aload_n dX2_tells_74 rfl ?_
              obtain ⟨M15, x16, qx16, hb⟩ := b2E hb
              refine mx_cVi [.int x13, .int x14, .ref a2] [] o 2 x16 dX2_tells_75 cl_X2_50 im_X2_worked cy_X2_worked ho rfl (Nat.le_of_ble_eq_true rfl) (by decide) (t_X2_worked l E o x13 x14 a2 ho M2 qx16) ?_
              refine ex_if_eq 101 dX2_tells_78 (by decide) (fun c17 => ?_) (fun c17 => ?_)
              · rw [if_pos c17] at hb
                refine ex_iinc 1 (L2 := [some (.ref o), some (.int a1), some (.ref a2), some (.int a3), some (.int (i1 + 1)), some (.int x9)]) dX2_tells_101 rfl kI_1 (by decide) rfl ?_
                refine ex_goto 3 dX2_tells_104 (by decide) ?_
                refine ex_mskL [true, true, true, true, true, false] (L2 := [some (.ref o), some (.int a1), some (.ref a2), some (.int a3), some (.int (i1 + 1)), none]) rfl ?_
                cases hb
                exact hk ((i1 + 1), M15) rfl
              · rw [if_neg c17] at hb
                refine ex_mskL [true, false, true, false, true, false] (L2 := [some (.ref o), none, some (.ref a2), none, some (.int i1), none]) rfl ?_
                cases hb
                cases (he _ rfl) <;> exact hx
        clear hb
        refine ex_icmp_ne 40 dX2_tells_33 (by decide) (fun c8 => ?_) (fun c8 => ?_)
        · rw [if_neg c8] at ex9
          refine ex_iconst 0 dX2_tells_40 kI_0 ?_
          subst ex9
          exact Jx9
        · rw [if_pos c8] at ex9
          refine ex_iconst 1 dX2_tells_36 kI_1 ?_
          refine ex_goto 41 dX2_tells_37 (by decide) ?_
          subst ex9
          exact Jx9
      clear hb
      refine ex_icmp_ge 107 dX2_tells_9 (by decide) (fun c3 => ?_) (fun c3 => ?_)
      · exact JXC5 (Or.inl c3)
      · refine ex_iload dX2_tells_12 rfl ?_
        refine ex_bipush 16 dX2_tells_14 kB_16 ?_
        refine ex_icmp_ge 107 dX2_tells_16 (by decide) (fun c4 => ?_) (fun c4 => ?_)
        · exact JXC5 (Or.inr c4)
        · refine ex_aload_n dX2_tells_19 rfl ?_
          refine mx_getr 2 (o + 3) dX2_tells_20 fl_X2_18 ho (rf_2_2 ho) ?_
          refine ex_iload dX2_tells_23 rfl ?_
          exact JYC5 (fun z => z.elim c3 c4))
    exact key FU (0, M) hlq18
def f_X9_type (M : Mem) : Option (Int32) :=
  if ((M 136 6) < 0 ∨ ((M 136 5) ≤ (M 136 6) ∨ 400 < (M 136 6))) then (some 258) else (b1 (rd M 138 (M 136 6)) fun x5 => some x5)
set_option maxRecDepth 100000 in
set_option maxHeartbeats 4000000 in
theorem t_X9_type (l : Launch) (E : EV) (M : Mem) {r : Int32} (h : f_X9_type M = some r) : RunM l E yX9_type cX9_type 1 (some .int) 0 [.ref 136] M M (some (.int r)) := by
  refine RunM.of (by decide) (Nat.le_of_ble_eq_true rfl) ?_
  show XM l E (RX9, "type", cX9_type, 1) (some .int) 0 0 [some (.ref 136)] [] M M (some (.int r))
  unfold f_X9_type at h
  refine ex_aload_n dX9_type_0 rfl ?_
  refine mx_geti 9 dX9_type_1 fl_X9_34 oc_at_136 (isi_9_6 oc_at_136) ?_
  have JXC4 : ((M 136 6) < 0 ∨ ((M 136 5) ≤ (M 136 6) ∨ 400 < (M 136 6))) → XM l E (RX9, "type", cX9_type, 1) (some .int) 0 40 [some (.ref 136)] [] M M (some (.int r)) := fun C4 => by
    rw [if_pos C4] at h
    refine ex_sipush 258 dX9_type_40 kS_258 ?_
    cases h
    exact mx_reti .int dX9_type_43 ⟨rfl, rfl⟩
  have JYC4 : ¬ (((M 136 6) < 0 ∨ ((M 136 5) ≤ (M 136 6) ∨ 400 < (M 136 6)))) → XM l E (RX9, "type", cX9_type, 1) (some .int) 0 36 [some (.ref 136)] [.int (M 136 6), .ref 138] M M (some (.int r)) := fun C4 => by
    rw [if_neg C4] at h
    obtain ⟨x5, qx5, h⟩ := b1E h
    refine mx_iald x5 dX9_type_36 qx5 ?_
    refine ex_goto 43 dX9_type_37 (by decide) ?_
    cases h
    exact mx_reti .int dX9_type_43 ⟨rfl, rfl⟩
  clear h
  refine ex_if_lt 40 dX9_type_4 (by decide) (fun c1 => ?_) (fun c1 => ?_)
  · exact JXC4 (Or.inl c1)
  · refine ex_aload_n dX9_type_7 rfl ?_
    refine mx_geti 9 dX9_type_8 fl_X9_34 oc_at_136 (isi_9_6 oc_at_136) ?_
    refine ex_aload_n dX9_type_11 rfl ?_
    refine mx_geti 9 dX9_type_12 fl_X9_31 oc_at_136 (isi_9_5 oc_at_136) ?_
    refine ex_icmp_ge 40 dX9_type_15 (by decide) (fun c2 => ?_) (fun c2 => ?_)
    · exact JXC4 (Or.inr (Or.inl c2))
    · refine ex_aload_n dX9_type_18 rfl ?_
      refine mx_geti 9 dX9_type_19 fl_X9_34 oc_at_136 (isi_9_6 oc_at_136) ?_
      refine ex_sipush 400 dX9_type_22 kS_400 ?_
      refine ex_icmp_gt 40 dX9_type_25 (by decide) (fun c3 => ?_) (fun c3 => ?_)
      · exact JXC4 (Or.inr (Or.inr c3))
      · refine ex_aload_n dX9_type_28 rfl ?_
        refine mx_getr 9 138 dX9_type_29 fl_X9_15 oc_at_136 (rf_9_1 oc_at_136) ?_
        refine ex_aload_n dX9_type_32 rfl ?_
        refine mx_geti 9 dX9_type_33 fl_X9_34 oc_at_136 (isi_9_6 oc_at_136) ?_
        exact JYC4 (fun z => z.elim c1 (fun z => z.elim c2 c3))
def f_X9_atEnd (M : Mem) : Option (Int32) :=
  b1 (f_X9_type M) fun x1 => lt ((if x1 = 258 then 1 else 0) : Int32) fun x3 => some x3
set_option maxRecDepth 100000 in
set_option maxHeartbeats 4000000 in
theorem t_X9_atEnd (l : Launch) (E : EV) (M : Mem) {r : Int32} (h : f_X9_atEnd M = some r) : RunM l E yX9_atEnd cX9_atEnd 1 (some .boolean) 1 [.ref 136] M M (some (.int r)) := by
  refine RunM.of (by decide) (Nat.le_of_ble_eq_true rfl) ?_
  show XM l E (RX9, "atEnd", cX9_atEnd, 1) (some .boolean) 1 0 [some (.ref 136)] [] M M (some (.int r))
  unfold f_X9_atEnd at h
  refine ex_aload_n dX9_atEnd_0 rfl ?_
  obtain ⟨x1, qx1, h⟩ := b1E h
  refine mx_cVi [] [] 136 9 x1 dX9_atEnd_1 cl_X9_92 im_X9_type cy_X9_type oc_at_136 rfl (Nat.le_of_ble_eq_true rfl) (by decide) (t_X9_type l E M qx1) ?_
  refine ex_sipush 258 dX9_atEnd_4 kS_258 ?_
  obtain ⟨x3, ex3, h⟩ := ltE h
  have Jx3 : XM l E (RX9, "atEnd", cX9_atEnd, 1) (some .boolean) 1 15 [some (.ref 136)] [.int x3] M M (some (.int r)) := by
    cases h
    exact mx_reti .boolean dX9_atEnd_15 ⟨rfl, nzB (by rw [ex3]; (repeat' split) <;> simp)⟩
  clear h
  refine ex_icmp_ne 14 dX9_atEnd_7 (by decide) (fun c2 => ?_) (fun c2 => ?_)
  · rw [if_neg c2] at ex3
    refine ex_iconst 0 dX9_atEnd_14 kI_0 ?_
    subst ex3
    exact Jx3
  · rw [if_pos c2] at ex3
    refine ex_iconst 1 dX9_atEnd_10 kI_1 ?_
    refine ex_goto 15 dX9_atEnd_11 (by decide) ?_
    subst ex3
    exact Jx3
def f_X10_within (a1 : Int32) (a2 : Int32) (a3 : Int32) : (Int32) :=
  if (a1 < a2 ∨ a3 < a1) then (0) else (1)
theorem z_X10_within (a1 : Int32) (a2 : Int32) (a3 : Int32) : f_X10_within a1 a2 a3 = 0 ∨ f_X10_within a1 a2 a3 = 1 := by
  unfold f_X10_within
  (repeat' split) <;> first | exact Or.inl rfl | exact Or.inr rfl
set_option maxRecDepth 100000 in
set_option maxHeartbeats 4000000 in
theorem t_X10_within (l : Launch) (E : EV) (a1 : Int32) (a2 : Int32) (a3 : Int32) (M : Mem) {r : Int32} (h : f_X10_within a1 a2 a3 = r) : RunM l E yX10_within cX10_within 3 (some .boolean) 0 [.int a1, .int a2, .int a3] M M (some (.int r)) := by
  refine RunM.of (by decide) (Nat.le_of_ble_eq_true rfl) ?_
  show XM l E (RX10, "within", cX10_within, 3) (some .boolean) 0 0 [some (.int a1), some (.int a2), some (.int a3)] [] M M (some (.int r))
  unfold f_X10_within at h
  refine ex_iload_n dX10_within_0 rfl ?_
  refine ex_iload_n dX10_within_1 rfl ?_
  have JXC3 : (a1 < a2 ∨ a3 < a1) → XM l E (RX10, "within", cX10_within, 3) (some .boolean) 0 14 [some (.int a1), some (.int a2), some (.int a3)] [] M M (some (.int r)) := fun C3 => by
    rw [if_pos C3] at h
    refine ex_iconst 0 dX10_within_14 kI_0 ?_
    subst h
    exact mx_reti .boolean dX10_within_15 ⟨rfl, by decide⟩
  have JYC3 : ¬ ((a1 < a2 ∨ a3 < a1)) → XM l E (RX10, "within", cX10_within, 3) (some .boolean) 0 15 [some (.int a1), some (.int a2), some (.int a3)] [.int 1] M M (some (.int r)) := fun C3 => by
    rw [if_neg C3] at h
    subst h
    exact mx_reti .boolean dX10_within_15 ⟨rfl, by decide⟩
  clear h
  refine ex_icmp_lt 14 dX10_within_2 (by decide) (fun c1 => ?_) (fun c1 => ?_)
  · exact JXC3 (Or.inl c1)
  · refine ex_iload_n dX10_within_5 rfl ?_
    refine ex_iload_n dX10_within_6 rfl ?_
    refine ex_icmp_gt 14 dX10_within_7 (by decide) (fun c2 => ?_) (fun c2 => ?_)
    · exact JXC3 (Or.inr c2)
    · refine ex_iconst 1 dX10_within_10 kI_1 ?_
      refine ex_goto 15 dX10_within_11 (by decide) ?_
      exact JYC3 (fun z => z.elim c1 c2)
def f_X9_fails (a1 : Int32) (M : Mem) : Option (Mem × Int32) :=
  lt (up2 M 136 7 a1) fun M1 => if ((M1 136 6) < 0 ∨ ((M1 136 5) ≤ (M1 136 6) ∨ 400 < (M1 136 6))) then (lt (up2 M1 136 8 (-1)) fun M6 => some (M6, 0)) else (b1 (rd M1 140 (M1 136 6)) fun x7 => lt (up2 M1 136 8 x7) fun M8 => some (M8, 0))
set_option maxRecDepth 100000 in
set_option maxHeartbeats 4000000 in
theorem t_X9_fails (l : Launch) (E : EV) (a1 : Int32) (M : Mem) {M' : Mem} {r : Int32} (h : f_X9_fails a1 M = some (M', r)) : RunM l E yX9_fails cX9_fails 2 (some .boolean) 0 [.ref 136, .int a1] M M' (some (.int r)) := by
  refine RunM.of (by decide) (Nat.le_of_ble_eq_true rfl) ?_
  show XM l E (RX9, "fails", cX9_fails, 2) (some .boolean) 0 0 [some (.ref 136), some (.int a1)] [] M M' (some (.int r))
  unfold f_X9_fails at h
  refine ex_aload_n dX9_fails_0 rfl ?_
  refine ex_iload_n dX9_fails_1 rfl ?_
  obtain ⟨M1, eM1, h⟩ := ltE h
  refine mx_puti 9 dX9_fails_2 fl_X9_37 rfl ⟨rfl, rfl⟩ oc_at_136 (isi_9_7 oc_at_136) ?_
  rw [← eM1]
  refine ex_aload_n dX9_fails_5 rfl ?_
  refine ex_aload_n dX9_fails_6 rfl ?_
  refine mx_geti 9 dX9_fails_7 fl_X9_34 oc_at_136 (isi_9_6 oc_at_136) ?_
  have JXC5 : ((M1 136 6) < 0 ∨ ((M1 136 5) ≤ (M1 136 6) ∨ 400 < (M1 136 6))) → XM l E (RX9, "fails", cX9_fails, 2) (some .boolean) 0 46 [some (.ref 136), some (.int a1)] [.ref 136] M1 M' (some (.int r)) := fun C5 => by
    rw [if_pos C5] at h
    refine ex_iconst (-1) dX9_fails_46 kI_m1 ?_
    obtain ⟨M6, eM6, h⟩ := ltE h
    refine mx_puti 9 dX9_fails_47 fl_X9_24 rfl ⟨rfl, rfl⟩ oc_at_136 (isi_9_8 oc_at_136) ?_
    rw [← eM6]
    refine ex_iconst 0 dX9_fails_50 kI_0 ?_
    cases h
    exact mx_reti .boolean dX9_fails_51 ⟨rfl, by decide⟩
  have JYC5 : ¬ (((M1 136 6) < 0 ∨ ((M1 136 5) ≤ (M1 136 6) ∨ 400 < (M1 136 6)))) → XM l E (RX9, "fails", cX9_fails, 2) (some .boolean) 0 42 [some (.ref 136), some (.int a1)] [.int (M1 136 6), .ref 140, .ref 136] M1 M' (some (.int r)) := fun C5 => by
    rw [if_neg C5] at h
    obtain ⟨x7, qx7, h⟩ := b1E h
    refine mx_iald x7 dX9_fails_42 qx7 ?_
    refine ex_goto 47 dX9_fails_43 (by decide) ?_
    obtain ⟨M8, eM8, h⟩ := ltE h
    refine mx_puti 9 dX9_fails_47 fl_X9_24 rfl ⟨rfl, rfl⟩ oc_at_136 (isi_9_8 oc_at_136) ?_
    rw [← eM8]
    refine ex_iconst 0 dX9_fails_50 kI_0 ?_
    cases h
    exact mx_reti .boolean dX9_fails_51 ⟨rfl, by decide⟩
  clear h
  refine ex_if_lt 46 dX9_fails_10 (by decide) (fun c2 => ?_) (fun c2 => ?_)
  · exact JXC5 (Or.inl c2)
  · refine ex_aload_n dX9_fails_13 rfl ?_
    refine mx_geti 9 dX9_fails_14 fl_X9_34 oc_at_136 (isi_9_6 oc_at_136) ?_
    refine ex_aload_n dX9_fails_17 rfl ?_
    refine mx_geti 9 dX9_fails_18 fl_X9_31 oc_at_136 (isi_9_5 oc_at_136) ?_
    refine ex_icmp_ge 46 dX9_fails_21 (by decide) (fun c3 => ?_) (fun c3 => ?_)
    · exact JXC5 (Or.inr (Or.inl c3))
    · refine ex_aload_n dX9_fails_24 rfl ?_
      refine mx_geti 9 dX9_fails_25 fl_X9_34 oc_at_136 (isi_9_6 oc_at_136) ?_
      refine ex_sipush 400 dX9_fails_28 kS_400 ?_
      refine ex_icmp_gt 46 dX9_fails_31 (by decide) (fun c4 => ?_) (fun c4 => ?_)
      · exact JXC5 (Or.inr (Or.inr c4))
      · refine ex_aload_n dX9_fails_34 rfl ?_
        refine mx_getr 9 140 dX9_fails_35 fl_X9_21 oc_at_136 (rf_9_3 oc_at_136) ?_
        refine ex_aload_n dX9_fails_38 rfl ?_
        refine mx_geti 9 dX9_fails_39 fl_X9_34 oc_at_136 (isi_9_6 oc_at_136) ?_
        exact JYC5 (fun z => z.elim c2 (fun z => z.elim c3 c4))
def f_X9_take (M : Mem) : (Mem) :=
  lt (up2 M 136 6 ((M 136 6) + 1)) fun M1 => M1
set_option maxRecDepth 100000 in
set_option maxHeartbeats 4000000 in
theorem t_X9_take (l : Launch) (E : EV) (M : Mem) {M' : Mem} (h : f_X9_take M = M') : RunM l E yX9_take cX9_take 1 none 0 [.ref 136] M M' none := by
  refine RunM.of (by decide) (Nat.le_of_ble_eq_true rfl) ?_
  show XM l E (RX9, "take", cX9_take, 1) none 0 0 [some (.ref 136)] [] M M' none
  unfold f_X9_take at h
  refine ex_aload_n dX9_take_0 rfl ?_
  refine ex_dup dX9_take_1 rfl ?_
  refine mx_geti 9 dX9_take_2 fl_X9_34 oc_at_136 (isi_9_6 oc_at_136) ?_
  refine ex_iconst 1 dX9_take_5 kI_1 ?_
  refine ex_iadd dX9_take_6 ?_
  obtain ⟨M1, eM1, h⟩ := ltE h
  refine mx_puti 9 dX9_take_7 fl_X9_34 rfl ⟨rfl, rfl⟩ oc_at_136 (isi_9_6 oc_at_136) ?_
  rw [← eM1]
  cases h
  exact mx_retv dX9_take_10 rfl
def f_X9_value (M : Mem) : Option (Int32) :=
  if ((M 136 6) < 0 ∨ ((M 136 5) ≤ (M 136 6) ∨ 400 < (M 136 6))) then (some 0) else (b1 (rd M 139 (M 136 6)) fun x5 => some x5)
set_option maxRecDepth 100000 in
set_option maxHeartbeats 4000000 in
theorem t_X9_value (l : Launch) (E : EV) (M : Mem) {r : Int32} (h : f_X9_value M = some r) : RunM l E yX9_value cX9_value 1 (some .int) 0 [.ref 136] M M (some (.int r)) := by
  refine RunM.of (by decide) (Nat.le_of_ble_eq_true rfl) ?_
  show XM l E (RX9, "value", cX9_value, 1) (some .int) 0 0 [some (.ref 136)] [] M M (some (.int r))
  unfold f_X9_value at h
  refine ex_aload_n dX9_value_0 rfl ?_
  refine mx_geti 9 dX9_value_1 fl_X9_34 oc_at_136 (isi_9_6 oc_at_136) ?_
  have JXC4 : ((M 136 6) < 0 ∨ ((M 136 5) ≤ (M 136 6) ∨ 400 < (M 136 6))) → XM l E (RX9, "value", cX9_value, 1) (some .int) 0 40 [some (.ref 136)] [] M M (some (.int r)) := fun C4 => by
    rw [if_pos C4] at h
    refine ex_iconst 0 dX9_value_40 kI_0 ?_
    cases h
    exact mx_reti .int dX9_value_41 ⟨rfl, rfl⟩
  have JYC4 : ¬ (((M 136 6) < 0 ∨ ((M 136 5) ≤ (M 136 6) ∨ 400 < (M 136 6)))) → XM l E (RX9, "value", cX9_value, 1) (some .int) 0 36 [some (.ref 136)] [.int (M 136 6), .ref 139] M M (some (.int r)) := fun C4 => by
    rw [if_neg C4] at h
    obtain ⟨x5, qx5, h⟩ := b1E h
    refine mx_iald x5 dX9_value_36 qx5 ?_
    refine ex_goto 41 dX9_value_37 (by decide) ?_
    cases h
    exact mx_reti .int dX9_value_41 ⟨rfl, rfl⟩
  clear h
  refine ex_if_lt 40 dX9_value_4 (by decide) (fun c1 => ?_) (fun c1 => ?_)
  · exact JXC4 (Or.inl c1)
  · refine ex_aload_n dX9_value_7 rfl ?_
    refine mx_geti 9 dX9_value_8 fl_X9_34 oc_at_136 (isi_9_6 oc_at_136) ?_
    refine ex_aload_n dX9_value_11 rfl ?_
    refine mx_geti 9 dX9_value_12 fl_X9_31 oc_at_136 (isi_9_5 oc_at_136) ?_
    refine ex_icmp_ge 40 dX9_value_15 (by decide) (fun c2 => ?_) (fun c2 => ?_)
    · exact JXC4 (Or.inr (Or.inl c2))
    · refine ex_aload_n dX9_value_18 rfl ?_
      refine mx_geti 9 dX9_value_19 fl_X9_34 oc_at_136 (isi_9_6 oc_at_136) ?_
      refine ex_sipush 400 dX9_value_22 kS_400 ?_
      refine ex_icmp_gt 40 dX9_value_25 (by decide) (fun c3 => ?_) (fun c3 => ?_)
      · exact JXC4 (Or.inr (Or.inr c3))
      · refine ex_aload_n dX9_value_28 rfl ?_
        refine mx_getr 9 139 dX9_value_29 fl_X9_18 oc_at_136 (rf_9_2 oc_at_136) ?_
        refine ex_aload_n dX9_value_32 rfl ?_
        refine mx_geti 9 dX9_value_33 fl_X9_34 oc_at_136 (isi_9_6 oc_at_136) ?_
        exact JYC4 (fun z => z.elim c1 (fun z => z.elim c2 c3))
def f_X3_readUnit (a1 : Int32) (M : Mem) : Option (Mem × Int32) :=
  b1 (f_X9_type M) fun x1 => b1 (f_X9_value M) fun x2 => if x1 = 256 then (if (a1 = 0 ∨ ¬ (x2 = 0)) then (b1 (f_X2_addStep 143 256 x2 M) fun M15 => lt (f_X9_take M15) fun M16 => some (M16, 1)) else (b2 (f_X9_fails 2 M) fun M17 x18 => b1 (gz x18) fun x19 => some (M17, x19))) else (if (¬ (a1 = 0) ∨ (f_X10_within x1 300 306) = 0) then (b2 (f_X9_fails 1 M) fun M7 x8 => b1 (gz x8) fun x9 => some (M7, x9)) else (b1 (f_X2_addStep 143 259 (x1 - 300) M) fun M10 => lt (f_X9_take M10) fun M11 => some (M11, 1)))
set_option maxRecDepth 100000 in
set_option maxHeartbeats 4000000 in
theorem t_X3_readUnit (l : Launch) (E : EV) (a1 : Int32) (M : Mem) {M' : Mem} {r : Int32} (h : f_X3_readUnit a1 M = some (M', r)) : RunM l E yX3_readUnit cX3_readUnit 4 (some .boolean) 1 [.ref 142, .int a1] M M' (some (.int r)) := by
  refine RunM.of (by decide) (Nat.le_of_ble_eq_true rfl) ?_
  show XM l E (RX3, "readUnit", cX3_readUnit, 4) (some .boolean) 1 0 [some (.ref 142), some (.int a1), none, none] [] M M' (some (.int r))
  unfold f_X3_readUnit at h
  refine ex_aload_n dX3_readUnit_0 rfl ?_
  refine mx_getr 3 136 dX3_readUnit_1 fl_X3_18 oc_at_142 (rf_3_0 oc_at_142) ?_
  obtain ⟨x1, qx1, h⟩ := b1E h
  refine mx_cVi [] [] 136 9 x1 dX3_readUnit_4 cl_X3_42 im_X9_type cy_X9_type (oc_3_0 oc_at_142) rfl (Nat.le_of_ble_eq_true rfl) (by decide) (t_X9_type l E M qx1) ?_
  refine ex_istore_n (L2 := [some (.ref 142), some (.int a1), some (.int x1), none]) dX3_readUnit_7 (by decide) rfl ?_
  refine ex_aload_n dX3_readUnit_8 rfl ?_
  refine mx_getr 3 136 dX3_readUnit_9 fl_X3_18 oc_at_142 (rf_3_0 oc_at_142) ?_
  obtain ⟨x2, qx2, h⟩ := b1E h
  refine mx_cVi [] [] 136 9 x2 dX3_readUnit_12 cl_X3_96 im_X9_value cy_X9_value (oc_3_0 oc_at_142) rfl (Nat.le_of_ble_eq_true rfl) (by decide) (t_X9_value l E M qx2) ?_
  refine ex_istore_n (L2 := [some (.ref 142), some (.int a1), some (.int x1), some (.int x2)]) dX3_readUnit_15 (by decide) rfl ?_
  refine ex_iload_n dX3_readUnit_16 rfl ?_
  refine ex_sipush 256 dX3_readUnit_17 kS_256 ?_
  refine ex_icmp_ne 54 dX3_readUnit_20 (by decide) (fun c3 => ?_) (fun c3 => ?_)
  · rw [if_neg c3] at h
    refine ex_iload_n dX3_readUnit_54 rfl ?_
    have JXC6 : (¬ (a1 = 0) ∨ (f_X10_within x1 300 306) = 0) → XM l E (RX3, "readUnit", cX3_readUnit, 4) (some .boolean) 1 89 [some (.ref 142), some (.int a1), some (.int x1), some (.int x2)] [] M M' (some (.int r)) := fun C6 => by
      rw [if_pos C6] at h
      refine ex_aload_n dX3_readUnit_89 rfl ?_
      refine mx_getr 3 136 dX3_readUnit_90 fl_X3_18 oc_at_142 (rf_3_0 oc_at_142) ?_
      refine ex_iconst 1 dX3_readUnit_93 kI_1 ?_
      obtain ⟨M7, x8, qx8, h⟩ := b2E h
      refine mx_cVi [.int 1] [] 136 9 x8 dX3_readUnit_94 cl_X3_50 im_X9_fails cy_X9_fails (oc_3_0 oc_at_142) rfl (Nat.le_of_ble_eq_true rfl) (by decide) (t_X9_fails l E 1 M qx8) ?_
      obtain ⟨x9, qx9, h⟩ := b1E h
      obtain ⟨ex9, nx9⟩ := gzE qx9
      rw [← ex9] at h
      cases h
      exact mx_reti .boolean dX3_readUnit_97 ⟨rfl, nx9⟩
    have JYC6 : ¬ ((¬ (a1 = 0) ∨ (f_X10_within x1 300 306) = 0)) → XM l E (RX3, "readUnit", cX3_readUnit, 4) (some .boolean) 1 83 [some (.ref 142), some (.int a1), some (.int x1), some (.int x2)] [.int (x1 - 300), .int 259, .ref 143] M M' (some (.int r)) := fun C6 => by
      rw [if_neg C6] at h
      obtain ⟨M10, qM10, h⟩ := b1E h
      refine mx_cVv [.int 259, .int (x1 - 300)] [] 143 2 dX3_readUnit_83 cl_X3_82 im_X2_addStep cy_X2_addStep (oc_3_1 oc_at_142) rfl (Nat.le_of_ble_eq_true rfl) (by decide) (t_X2_addStep l E 143 259 (x1 - 300) (oc_3_1 oc_at_142) M qM10) ?_
      refine ex_goto 98 dX3_readUnit_86 (by decide) ?_
      refine ex_aload_n dX3_readUnit_98 rfl ?_
      refine mx_getr 3 136 dX3_readUnit_99 fl_X3_18 oc_at_142 (rf_3_0 oc_at_142) ?_
      obtain ⟨M11, eM11, h⟩ := ltE h
      refine mx_cVv [] [] 136 9 dX3_readUnit_102 cl_X3_57 im_X9_take cy_X9_take (oc_3_0 oc_at_142) rfl (Nat.le_of_ble_eq_true rfl) (by decide) (t_X9_take l E M10 eM11.symm) ?_
      refine ex_iconst 1 dX3_readUnit_105 kI_1 ?_
      cases h
      exact mx_reti .boolean dX3_readUnit_106 ⟨rfl, by decide⟩
    clear h
    refine ex_if_ne 89 dX3_readUnit_55 (by decide) (fun c4 => ?_) (fun c4 => ?_)
    · exact JXC6 (Or.inl c4)
    · refine ex_iload_n dX3_readUnit_58 rfl ?_
      refine ex_sipush 300 dX3_readUnit_59 kS_300 ?_
      refine ex_sipush 306 dX3_readUnit_62 kS_306 ?_
      refine mx_cSi [.int x1, .int 300, .int 306] [] (f_X10_within x1 300 306) dX3_readUnit_65 cl_X3_46 sm_X10_within rfl (Nat.le_of_ble_eq_true rfl) (by decide) (t_X10_within l E x1 300 306 M rfl) ?_
      refine ex_if_eq 89 dX3_readUnit_68 (by decide) (fun c5 => ?_) (fun c5 => ?_)
      · exact JXC6 (Or.inr c5)
      · refine ex_aload_n dX3_readUnit_71 rfl ?_
        refine mx_getr 3 143 dX3_readUnit_72 fl_X3_12 oc_at_142 (rf_3_1 oc_at_142) ?_
        refine ex_sipush 259 dX3_readUnit_75 kS_259 ?_
        refine ex_iload_n dX3_readUnit_78 rfl ?_
        refine ex_sipush 300 dX3_readUnit_79 kS_300 ?_
        refine ex_isub dX3_readUnit_82 ?_
        exact JYC6 (fun z => z.elim (fun y => y c4) c5)
  · rw [if_pos c3] at h
    refine ex_iload_n dX3_readUnit_23 rfl ?_
    have JXC14 : (a1 = 0 ∨ ¬ (x2 = 0)) → XM l E (RX3, "readUnit", cX3_readUnit, 4) (some .boolean) 1 40 [some (.ref 142), some (.int a1), some (.int x1), some (.int x2)] [] M M' (some (.int r)) := fun C14 => by
      rw [if_pos C14] at h
      refine ex_aload_n dX3_readUnit_40 rfl ?_
      refine mx_getr 3 143 dX3_readUnit_41 fl_X3_12 oc_at_142 (rf_3_1 oc_at_142) ?_
      refine ex_sipush 256 dX3_readUnit_44 kS_256 ?_
      refine ex_iload_n dX3_readUnit_47 rfl ?_
      obtain ⟨M15, qM15, h⟩ := b1E h
      refine mx_cVv [.int 256, .int x2] [] 143 2 dX3_readUnit_48 cl_X3_82 im_X2_addStep cy_X2_addStep (oc_3_1 oc_at_142) rfl (Nat.le_of_ble_eq_true rfl) (by decide) (t_X2_addStep l E 143 256 x2 (oc_3_1 oc_at_142) M qM15) ?_
      refine ex_goto 98 dX3_readUnit_51 (by decide) ?_
      refine ex_aload_n dX3_readUnit_98 rfl ?_
      refine mx_getr 3 136 dX3_readUnit_99 fl_X3_18 oc_at_142 (rf_3_0 oc_at_142) ?_
      obtain ⟨M16, eM16, h⟩ := ltE h
      refine mx_cVv [] [] 136 9 dX3_readUnit_102 cl_X3_57 im_X9_take cy_X9_take (oc_3_0 oc_at_142) rfl (Nat.le_of_ble_eq_true rfl) (by decide) (t_X9_take l E M15 eM16.symm) ?_
      refine ex_iconst 1 dX3_readUnit_105 kI_1 ?_
      cases h
      exact mx_reti .boolean dX3_readUnit_106 ⟨rfl, by decide⟩
    have JYC14 : ¬ ((a1 = 0 ∨ ¬ (x2 = 0))) → XM l E (RX3, "readUnit", cX3_readUnit, 4) (some .boolean) 1 36 [some (.ref 142), some (.int a1), some (.int x1), some (.int x2)] [.int 2, .ref 136] M M' (some (.int r)) := fun C14 => by
      rw [if_neg C14] at h
      obtain ⟨M17, x18, qx18, h⟩ := b2E h
      refine mx_cVi [.int 2] [] 136 9 x18 dX3_readUnit_36 cl_X3_50 im_X9_fails cy_X9_fails (oc_3_0 oc_at_142) rfl (Nat.le_of_ble_eq_true rfl) (by decide) (t_X9_fails l E 2 M qx18) ?_
      obtain ⟨x19, qx19, h⟩ := b1E h
      obtain ⟨ex19, nx19⟩ := gzE qx19
      rw [← ex19] at h
      cases h
      exact mx_reti .boolean dX3_readUnit_39 ⟨rfl, nx19⟩
    clear h
    refine ex_if_eq 40 dX3_readUnit_24 (by decide) (fun c12 => ?_) (fun c12 => ?_)
    · exact JXC14 (Or.inl c12)
    · refine ex_iload_n dX3_readUnit_27 rfl ?_
      refine ex_if_ne 40 dX3_readUnit_28 (by decide) (fun c13 => ?_) (fun c13 => ?_)
      · exact JXC14 (Or.inr c13)
      · refine ex_aload_n dX3_readUnit_31 rfl ?_
        refine mx_getr 3 136 dX3_readUnit_32 fl_X3_18 oc_at_142 (rf_3_0 oc_at_142) ?_
        refine ex_iconst 2 dX3_readUnit_35 kI_2 ?_
        exact JYC14 (fun z => z.elim c12 (fun z => z c13))
def f_X3_isReckoning (a1 : Int32) : (Int32) :=
  if (a1 = 43 ∨ (a1 = 45 ∨ (a1 = 42 ∨ a1 = 47))) then (1) else (0)
theorem z_X3_isReckoning (a1 : Int32) : f_X3_isReckoning a1 = 0 ∨ f_X3_isReckoning a1 = 1 := by
  unfold f_X3_isReckoning
  (repeat' split) <;> first | exact Or.inl rfl | exact Or.inr rfl
set_option maxRecDepth 100000 in
set_option maxHeartbeats 4000000 in
theorem t_X3_isReckoning (l : Launch) (E : EV) (a1 : Int32) (M : Mem) {r : Int32} (h : f_X3_isReckoning a1 = r) : RunM l E yX3_isReckoning cX3_isReckoning 1 (some .boolean) 0 [.int a1] M M (some (.int r)) := by
  refine RunM.of (by decide) (Nat.le_of_ble_eq_true rfl) ?_
  show XM l E (RX3, "isReckoning", cX3_isReckoning, 1) (some .boolean) 0 0 [some (.int a1)] [] M M (some (.int r))
  unfold f_X3_isReckoning at h
  refine ex_iload_n dX3_isReckoning_0 rfl ?_
  refine ex_bipush 43 dX3_isReckoning_1 kB_43 ?_
  have JXC5 : (a1 = 43 ∨ (a1 = 45 ∨ (a1 = 42 ∨ a1 = 47))) → XM l E (RX3, "isReckoning", cX3_isReckoning, 1) (some .boolean) 0 24 [some (.int a1)] [] M M (some (.int r)) := fun C5 => by
    rw [if_pos C5] at h
    refine ex_iconst 1 dX3_isReckoning_24 kI_1 ?_
    refine ex_goto 29 dX3_isReckoning_25 (by decide) ?_
    subst h
    exact mx_reti .boolean dX3_isReckoning_29 ⟨rfl, by decide⟩
  have JYC5 : ¬ ((a1 = 43 ∨ (a1 = 45 ∨ (a1 = 42 ∨ a1 = 47)))) → XM l E (RX3, "isReckoning", cX3_isReckoning, 1) (some .boolean) 0 29 [some (.int a1)] [.int 0] M M (some (.int r)) := fun C5 => by
    rw [if_neg C5] at h
    subst h
    exact mx_reti .boolean dX3_isReckoning_29 ⟨rfl, by decide⟩
  clear h
  refine ex_icmp_eq 24 dX3_isReckoning_3 (by decide) (fun c1 => ?_) (fun c1 => ?_)
  · exact JXC5 (Or.inl c1)
  · refine ex_iload_n dX3_isReckoning_6 rfl ?_
    refine ex_bipush 45 dX3_isReckoning_7 kB_45 ?_
    refine ex_icmp_eq 24 dX3_isReckoning_9 (by decide) (fun c2 => ?_) (fun c2 => ?_)
    · exact JXC5 (Or.inr (Or.inl c2))
    · refine ex_iload_n dX3_isReckoning_12 rfl ?_
      refine ex_bipush 42 dX3_isReckoning_13 kB_42 ?_
      refine ex_icmp_eq 24 dX3_isReckoning_15 (by decide) (fun c3 => ?_) (fun c3 => ?_)
      · exact JXC5 (Or.inr (Or.inr (Or.inl c3)))
      · refine ex_iload_n dX3_isReckoning_18 rfl ?_
        refine ex_bipush 47 dX3_isReckoning_19 kB_47 ?_
        refine ex_icmp_ne 28 dX3_isReckoning_21 (by decide) (fun c4 => ?_) (fun c4 => ?_)
        · refine ex_iconst 0 dX3_isReckoning_28 kI_0 ?_
          exact JYC5 (fun z => z.elim c1 (fun z => z.elim c2 (fun z => z.elim c3 c4)))
        · exact JXC5 (Or.inr (Or.inr (Or.inr c4)))
def f_X3_addWaiting (a1 : Int32) (M : Mem) : Option (Mem) :=
  if a1 = (-1) then (some M) else (b1 (f_X2_addStep 143 a1 0 M) fun M2 => some M2)
set_option maxRecDepth 100000 in
set_option maxHeartbeats 4000000 in
theorem t_X3_addWaiting (l : Launch) (E : EV) (a1 : Int32) (M : Mem) {M' : Mem} (h : f_X3_addWaiting a1 M = some M') : RunM l E yX3_addWaiting cX3_addWaiting 2 none 1 [.ref 142, .int a1] M M' none := by
  refine RunM.of (by decide) (Nat.le_of_ble_eq_true rfl) ?_
  show XM l E (RX3, "addWaiting", cX3_addWaiting, 2) none 1 0 [some (.ref 142), some (.int a1)] [] M M' none
  unfold f_X3_addWaiting at h
  refine ex_iload_n dX3_addWaiting_0 rfl ?_
  refine ex_iconst (-1) dX3_addWaiting_1 kI_m1 ?_
  refine ex_icmp_eq 14 dX3_addWaiting_2 (by decide) (fun c1 => ?_) (fun c1 => ?_)
  · rw [if_pos c1] at h
    cases h
    exact mx_retv dX3_addWaiting_14 rfl
  · rw [if_neg c1] at h
    refine ex_aload_n dX3_addWaiting_5 rfl ?_
    refine mx_getr 3 143 dX3_addWaiting_6 fl_X3_12 oc_at_142 (rf_3_1 oc_at_142) ?_
    refine ex_iload_n dX3_addWaiting_9 rfl ?_
    refine ex_iconst 0 dX3_addWaiting_10 kI_0 ?_
    obtain ⟨M2, qM2, h⟩ := b1E h
    refine mx_cVv [.int a1, .int 0] [] 143 2 dX3_addWaiting_11 cl_X3_82 im_X2_addStep cy_X2_addStep (oc_3_1 oc_at_142) rfl (Nat.le_of_ble_eq_true rfl) (by decide) (t_X2_addStep l E 143 a1 0 (oc_3_1 oc_at_142) M qM2) ?_
    cases h
    exact mx_retv dX3_addWaiting_14 rfl
def w_X3_readSum_14 (i4 : Int32) (i5 : Int32) (M6 : Mem) : Option ((Int32 × Int32 × Mem) ⊕ ((Mem) ⊕ (Int32 × Mem))) :=
  if 400 ≤ i5 then (some (.inr (.inr (i4, M6)))) else (b1 (f_X9_type M6) fun x8 => if (f_X3_isReckoning x8) = 0 then (some (.inr (.inr (i4, M6)))) else (b1 (f_X9_type M6) fun x10 => if (x10 = 42 ∨ x10 = 47) then (lt (f_X9_take M6) fun M14 => lt ((if x10 = 47 then 1 else 0) : Int32) fun x16 => b2 (f_X3_readUnit x16 M14) fun M17 x18 => if x18 = 0 then (some (.inr (.inl M17))) else (b1 (f_X2_addStep 143 x10 0 M17) fun M20 => some (.inl (i4, (i5 + 1), M20)))) else (b1 (f_X3_addWaiting i4 M6) fun M21 => lt (f_X9_take M21) fun M22 => lt ((if x10 = 47 then 1 else 0) : Int32) fun x24 => b2 (f_X3_readUnit x24 M22) fun M25 x26 => if x26 = 0 then (some (.inr (.inl M25))) else (some (.inl (x10, (i5 + 1), M25))))))
def f_X3_readSum (M : Mem) : Option (Mem × Int32) :=
  b2 (f_X3_readUnit 0 M) fun M1 x2 => if x2 = 0 then (some (M1, 0)) else (b1 (lp (fun s => w_X3_readSum_14 s.1 s.2.1 s.2.2) FU ((-1), 0, M1)) fun q28 => match q28 with | .inl u29 => (some (u29, 0)) | .inr u30 => (b1 (f_X3_addWaiting u30.1 u30.2) fun M33 => some (M33, 1)))
set_option maxRecDepth 100000 in
set_option maxHeartbeats 4000000 in
theorem t_X3_readSum (l : Launch) (E : EV) (M : Mem) {M' : Mem} {r : Int32} (h : f_X3_readSum M = some (M', r)) : RunM l E yX3_readSum cX3_readSum 5 (some .boolean) 2 [.ref 142] M M' (some (.int r)) := by
  refine RunM.of (by decide) (Nat.le_of_ble_eq_true rfl) ?_
  show XM l E (RX3, "readSum", cX3_readSum, 5) (some .boolean) 2 0 [some (.ref 142), none, none, none, none] [] M M' (some (.int r))
  unfold f_X3_readSum at h
  refine ex_aload_n dX3_readSum_0 rfl ?_
  refine ex_iconst 0 dX3_readSum_1 kI_0 ?_
  obtain ⟨M1, x2, qx2, h⟩ := b2E h
  refine mx_cVi [.int 0] [] 142 3 x2 dX3_readSum_2 cl_X3_86 im_X3_readUnit cy_X3_readUnit oc_at_142 rfl (Nat.le_of_ble_eq_true rfl) (by decide) (t_X3_readUnit l E 0 M qx2) ?_
  refine ex_if_ne 10 dX3_readSum_5 (by decide) (fun c3 => ?_) (fun c3 => ?_)
  · rw [if_neg c3] at h
    refine ex_iconst (-1) dX3_readSum_10 kI_m1 ?_
    refine ex_istore_n (L2 := [some (.ref 142), some (.int (-1)), none, none, none]) dX3_readSum_11 (by decide) rfl ?_
    refine ex_iconst 0 dX3_readSum_12 kI_0 ?_
    refine ex_istore_n (L2 := [some (.ref 142), some (.int (-1)), some (.int 0), none, none]) dX3_readSum_13 (by decide) rfl ?_
    refine ex_mskL [true, true, true, false, false] (L2 := [some (.ref 142), some (.int (-1)), some (.int 0), none, none]) rfl ?_
    obtain ⟨q28, hlq28, h⟩ := b1E h
    rcases q28 with u29 | ⟨y31, M32⟩
    · dsimp only at h
      have hx : XM l E (RX3, "readSum", cX3_readSum, 5) (some .boolean) 2 98 [none, none, none, none, none] [] u29 M' (some (.int r)) := by
        refine ex_iconst 0 dX3_readSum_98 kI_0 ?_
        cases h
        exact mx_reti .boolean dX3_readSum_99 ⟨rfl, by decide⟩
      clear h
      have key : ∀ (k : Nat) (s : Int32 × Int32 × Mem), lp (fun s => w_X3_readSum_14 s.1 s.2.1 s.2.2) k s = some (.inl u29) → XM l E (RX3, "readSum", cX3_readSum, 5) (some .boolean) 2 14 [some (.ref 142), some (.int s.1), some (.int s.2.1), none, none] [] s.2.2 M' (some (.int r)) := lp_ind (P := fun (s : Int32 × Int32 × Mem) => XM l E (RX3, "readSum", cX3_readSum, 5) (some .boolean) 2 14 [some (.ref 142), some (.int s.1), some (.int s.2.1), none, none] [] s.2.2 M' (some (.int r))) (fun s t hb hk he => by
        obtain ⟨i4, i5, M6⟩ := s
        show XM l E (RX3, "readSum", cX3_readSum, 5) (some .boolean) 2 14 [some (.ref 142), some (.int i4), some (.int i5), none, none] [] M6 M' (some (.int r))
        change w_X3_readSum_14 i4 i5 M6 = some t at hb
        unfold w_X3_readSum_14 at hb
        refine ex_iload_n dX3_readSum_14 rfl ?_
        refine ex_sipush 400 dX3_readSum_15 kS_400 ?_
        refine ex_icmp_ge 120 dX3_readSum_18 (by decide) (fun c7 => ?_) (fun c7 => ?_)
        · rw [if_pos c7] at hb
          refine ex_mskL [true, true, false, false, false] (L2 := [some (.ref 142), some (.int i4), none, none, none]) rfl ?_
          cases hb
          cases (he _ rfl) <;> exact hx
        · rw [if_neg c7] at hb
          refine ex_aload_n dX3_readSum_21 rfl ?_
          refine mx_getr 3 136 dX3_readSum_22 fl_X3_18 oc_at_142 (rf_3_0 oc_at_142) ?_
          obtain ⟨x8, qx8, hb⟩ := b1E hb
          refine mx_cVi [] [] 136 9 x8 dX3_readSum_25 cl_X3_42 im_X9_type cy_X9_type (oc_3_0 oc_at_142) rfl (Nat.le_of_ble_eq_true rfl) (by decide) (t_X9_type l E M6 qx8) ?_
          refine mx_cSi [.int x8] [] (f_X3_isReckoning x8) dX3_readSum_28 cl_X3_90 sm_X3_isReckoning rfl (Nat.le_of_ble_eq_true rfl) (by decide) (t_X3_isReckoning l E x8 M6 rfl) ?_
          refine ex_if_eq 120 dX3_readSum_31 (by decide) (fun c9 => ?_) (fun c9 => ?_)
          · rw [if_pos c9] at hb
            refine ex_mskL [true, true, false, false, false] (L2 := [some (.ref 142), some (.int i4), none, none, none]) rfl ?_
            cases hb
            cases (he _ rfl) <;> exact hx
          · rw [if_neg c9] at hb
            refine ex_aload_n dX3_readSum_34 rfl ?_
            refine mx_getr 3 136 dX3_readSum_35 fl_X3_18 oc_at_142 (rf_3_0 oc_at_142) ?_
            obtain ⟨x10, qx10, hb⟩ := b1E hb
            refine mx_cVi [] [] 136 9 x10 dX3_readSum_38 cl_X3_42 im_X9_type cy_X9_type (oc_3_0 oc_at_142) rfl (Nat.le_of_ble_eq_true rfl) (by decide) (t_X9_type l E M6 qx10) ?_
            refine ex_istore_n (L2 := [some (.ref 142), some (.int i4), some (.int i5), some (.int x10), none]) dX3_readSum_41 (by decide) rfl ?_
            refine ex_iload_n dX3_readSum_42 rfl ?_
            refine ex_bipush 42 dX3_readSum_43 kB_42 ?_
            have JXC13 : (x10 = 42 ∨ x10 = 47) → XM l E (RX3, "readSum", cX3_readSum, 5) (some .boolean) 2 54 [some (.ref 142), some (.int i4), some (.int i5), some (.int x10), none] [] M6 M' (some (.int r)) := fun C13 => by
              rw [if_pos C13] at hb
              refine ex_iconst 1 dX3_readSum_54 kI_1 ?_
              refine ex_goto 59 dX3_readSum_55 (by decide) ?_
              refine ex_istore (L2 := [some (.ref 142), some (.int i4), some (.int i5), some (.int x10), some (.int 1)]) dX3_readSum_59 (by decide) rfl ?_
              refine ex_iload dX3_readSum_61 rfl ?_
              refine ex_if_ne 73 dX3_readSum_63 (by decide) (fun _ => ?_) (fun z => absurd z (by decide))
              refine ex_aload_n dX3_readSum_73 rfl ?_
              refine mx_getr 3 136 dX3_readSum_74 fl_X3_18 oc_at_142 (rf_3_0 oc_at_142) ?_
              obtain ⟨M14, eM14, hb⟩ := ltE hb
              refine mx_cVv [] [] 136 9 dX3_readSum_77 cl_X3_57 im_X9_take cy_X9_take (oc_3_0 oc_at_142) rfl (Nat.le_of_ble_eq_true rfl) (by decide) (t_X9_take l E M6 eM14.symm) ?_
              refine ex_aload_n dX3_readSum_80 rfl ?_
              refine ex_iload_n dX3_readSum_81 rfl ?_
              refine ex_bipush 47 dX3_readSum_82 kB_47 ?_
              obtain ⟨x16, ex16, hb⟩ := ltE hb
              have Jx16 : XM l E (RX3, "readSum", cX3_readSum, 5) (some .boolean) 2 92 [some (.ref 142), some (.int i4), some (.int i5), some (.int x10), some (.int 1)] [.int x16, .ref 142] M14 M' (some (.int r)) := by
                obtain ⟨M17, x18, qx18, hb⟩ := b2E hb
                refine mx_cVi [.int x16] [] 142 3 x18 dX3_readSum_92 cl_X3_86 im_X3_readUnit cy_X3_readUnit oc_at_142 rfl (Nat.le_of_ble_eq_true rfl) (by decide) (t_X3_readUnit l E x16 M14 qx18) ?_
                refine ex_if_ne 100 dX3_readSum_95 (by decide) (fun c19 => ?_) (fun c19 => ?_)
                · rw [if_neg c19] at hb
                  refine ex_iload dX3_readSum_100 rfl ?_
                  refine ex_if_eq 114 dX3_readSum_102 (by decide) (fun z => absurd z (by decide)) (fun _ => ?_)
                  refine ex_aload_n dX3_readSum_105 rfl ?_
                  refine mx_getr 3 143 dX3_readSum_106 fl_X3_12 oc_at_142 (rf_3_1 oc_at_142) ?_
                  refine ex_iload_n dX3_readSum_109 rfl ?_
                  refine ex_iconst 0 dX3_readSum_110 kI_0 ?_
                  obtain ⟨M20, qM20, hb⟩ := b1E hb
                  refine mx_cVv [.int x10, .int 0] [] 143 2 dX3_readSum_111 cl_X3_82 im_X2_addStep cy_X2_addStep (oc_3_1 oc_at_142) rfl (Nat.le_of_ble_eq_true rfl) (by decide) (t_X2_addStep l E 143 x10 0 (oc_3_1 oc_at_142) M17 qM20) ?_
                  refine ex_iinc 1 (L2 := [some (.ref 142), some (.int i4), some (.int (i5 + 1)), some (.int x10), some (.int 1)]) dX3_readSum_114 rfl kI_1 (by decide) rfl ?_
                  refine ex_goto 14 dX3_readSum_117 (by decide) ?_
                  refine ex_mskL [true, true, true, false, false] (L2 := [some (.ref 142), some (.int i4), some (.int (i5 + 1)), none, none]) rfl ?_
                  cases hb
                  exact hk (i4, (i5 + 1), M20) rfl
                · rw [if_pos c19] at hb
                  refine ex_mskL [false, false, false, false, false] (L2 := [none, none, none, none, none]) rfl ?_
                  cases hb
                  cases (he _ rfl) <;> exact hx
              clear hb
              refine ex_icmp_ne 91 dX3_readSum_84 (by decide) (fun c15 => ?_) (fun c15 => ?_)
              · rw [if_neg c15] at ex16
                refine ex_iconst 0 dX3_readSum_91 kI_0 ?_
                subst ex16
                exact Jx16
              · rw [if_pos c15] at ex16
                refine ex_iconst 1 dX3_readSum_87 kI_1 ?_
                refine ex_goto 92 dX3_readSum_88 (by decide) ?_
                subst ex16
                exact Jx16
            have JYC13 : ¬ ((x10 = 42 ∨ x10 = 47)) → XM l E (RX3, "readSum", cX3_readSum, 5) (some .boolean) 2 59 [some (.ref 142), some (.int i4), some (.int i5), some (.int x10), none] [.int 0] M6 M' (some (.int r)) := fun C13 => by
              rw [if_neg C13] at hb
              refine ex_istore (L2 := [some (.ref 142), some (.int i4), some (.int i5), some (.int x10), some (.int 0)]) dX3_readSum_59 (by decide) rfl ?_
              refine ex_iload dX3_readSum_61 rfl ?_
              refine ex_if_ne 73 dX3_readSum_63 (by decide) (fun z => absurd (by decide) z) (fun _ => ?_)
              refine ex_aload_n dX3_readSum_66 rfl ?_
              refine ex_iload_n dX3_readSum_67 rfl ?_
              obtain ⟨M21, qM21, hb⟩ := b1E hb
              refine mx_cVv [.int i4] [] 142 3 dX3_readSum_68 cl_X3_93 im_X3_addWaiting cy_X3_addWaiting oc_at_142 rfl (Nat.le_of_ble_eq_true rfl) (by decide) (t_X3_addWaiting l E i4 M6 qM21) ?_
              refine ex_iload_n dX3_readSum_71 rfl ?_
              refine ex_istore_n (L2 := [some (.ref 142), some (.int x10), some (.int i5), some (.int x10), some (.int 0)]) dX3_readSum_72 (by decide) rfl ?_
              refine ex_aload_n dX3_readSum_73 rfl ?_
              refine mx_getr 3 136 dX3_readSum_74 fl_X3_18 oc_at_142 (rf_3_0 oc_at_142) ?_
              obtain ⟨M22, eM22, hb⟩ := ltE hb
              refine mx_cVv [] [] 136 9 dX3_readSum_77 cl_X3_57 im_X9_take cy_X9_take (oc_3_0 oc_at_142) rfl (Nat.le_of_ble_eq_true rfl) (by decide) (t_X9_take l E M21 eM22.symm) ?_
              refine ex_aload_n dX3_readSum_80 rfl ?_
              refine ex_iload_n dX3_readSum_81 rfl ?_
              refine ex_bipush 47 dX3_readSum_82 kB_47 ?_
              obtain ⟨x24, ex24, hb⟩ := ltE hb
              have Jx24 : XM l E (RX3, "readSum", cX3_readSum, 5) (some .boolean) 2 92 [some (.ref 142), some (.int x10), some (.int i5), some (.int x10), some (.int 0)] [.int x24, .ref 142] M22 M' (some (.int r)) := by
                obtain ⟨M25, x26, qx26, hb⟩ := b2E hb
                refine mx_cVi [.int x24] [] 142 3 x26 dX3_readSum_92 cl_X3_86 im_X3_readUnit cy_X3_readUnit oc_at_142 rfl (Nat.le_of_ble_eq_true rfl) (by decide) (t_X3_readUnit l E x24 M22 qx26) ?_
                refine ex_if_ne 100 dX3_readSum_95 (by decide) (fun c27 => ?_) (fun c27 => ?_)
                · rw [if_neg c27] at hb
                  refine ex_iload dX3_readSum_100 rfl ?_
                  refine ex_if_eq 114 dX3_readSum_102 (by decide) (fun _ => ?_) (fun z => absurd (by decide) z)
                  refine ex_iinc 1 (L2 := [some (.ref 142), some (.int x10), some (.int (i5 + 1)), some (.int x10), some (.int 0)]) dX3_readSum_114 rfl kI_1 (by decide) rfl ?_
                  refine ex_goto 14 dX3_readSum_117 (by decide) ?_
                  refine ex_mskL [true, true, true, false, false] (L2 := [some (.ref 142), some (.int x10), some (.int (i5 + 1)), none, none]) rfl ?_
                  cases hb
                  exact hk (x10, (i5 + 1), M25) rfl
                · rw [if_pos c27] at hb
                  refine ex_mskL [false, false, false, false, false] (L2 := [none, none, none, none, none]) rfl ?_
                  cases hb
                  cases (he _ rfl) <;> exact hx
              clear hb
              refine ex_icmp_ne 91 dX3_readSum_84 (by decide) (fun c23 => ?_) (fun c23 => ?_)
              · rw [if_neg c23] at ex24
                refine ex_iconst 0 dX3_readSum_91 kI_0 ?_
                subst ex24
                exact Jx24
              · rw [if_pos c23] at ex24
                refine ex_iconst 1 dX3_readSum_87 kI_1 ?_
                refine ex_goto 92 dX3_readSum_88 (by decide) ?_
                subst ex24
                exact Jx24
            clear hb
            refine ex_icmp_eq 54 dX3_readSum_45 (by decide) (fun c11 => ?_) (fun c11 => ?_)
            · exact JXC13 (Or.inl c11)
            · refine ex_iload_n dX3_readSum_48 rfl ?_
              refine ex_bipush 47 dX3_readSum_49 kB_47 ?_
              refine ex_icmp_ne 58 dX3_readSum_51 (by decide) (fun c12 => ?_) (fun c12 => ?_)
              · refine ex_iconst 0 dX3_readSum_58 kI_0 ?_
                exact JYC13 (fun z => z.elim c11 c12)
              · exact JXC13 (Or.inr c12))
      exact key FU ((-1), 0, M1) hlq28
    · dsimp only at h
      have hx : XM l E (RX3, "readSum", cX3_readSum, 5) (some .boolean) 2 120 [some (.ref 142), some (.int y31), none, none, none] [] M32 M' (some (.int r)) := by
        refine ex_aload_n dX3_readSum_120 rfl ?_
        refine ex_iload_n dX3_readSum_121 rfl ?_
        obtain ⟨M33, qM33, h⟩ := b1E h
        refine mx_cVv [.int y31] [] 142 3 dX3_readSum_122 cl_X3_93 im_X3_addWaiting cy_X3_addWaiting oc_at_142 rfl (Nat.le_of_ble_eq_true rfl) (by decide) (t_X3_addWaiting l E y31 M32 qM33) ?_
        refine ex_iconst 1 dX3_readSum_125 kI_1 ?_
        cases h
        exact mx_reti .boolean dX3_readSum_126 ⟨rfl, by decide⟩
      clear h
      have key : ∀ (k : Nat) (s : Int32 × Int32 × Mem), lp (fun s => w_X3_readSum_14 s.1 s.2.1 s.2.2) k s = some (.inr (y31, M32)) → XM l E (RX3, "readSum", cX3_readSum, 5) (some .boolean) 2 14 [some (.ref 142), some (.int s.1), some (.int s.2.1), none, none] [] s.2.2 M' (some (.int r)) := lp_ind (P := fun (s : Int32 × Int32 × Mem) => XM l E (RX3, "readSum", cX3_readSum, 5) (some .boolean) 2 14 [some (.ref 142), some (.int s.1), some (.int s.2.1), none, none] [] s.2.2 M' (some (.int r))) (fun s t hb hk he => by
        obtain ⟨i4, i5, M6⟩ := s
        show XM l E (RX3, "readSum", cX3_readSum, 5) (some .boolean) 2 14 [some (.ref 142), some (.int i4), some (.int i5), none, none] [] M6 M' (some (.int r))
        change w_X3_readSum_14 i4 i5 M6 = some t at hb
        unfold w_X3_readSum_14 at hb
        refine ex_iload_n dX3_readSum_14 rfl ?_
        refine ex_sipush 400 dX3_readSum_15 kS_400 ?_
        refine ex_icmp_ge 120 dX3_readSum_18 (by decide) (fun c7 => ?_) (fun c7 => ?_)
        · rw [if_pos c7] at hb
          refine ex_mskL [true, true, false, false, false] (L2 := [some (.ref 142), some (.int i4), none, none, none]) rfl ?_
          cases hb
          cases (he _ rfl) <;> exact hx
        · rw [if_neg c7] at hb
          refine ex_aload_n dX3_readSum_21 rfl ?_
          refine mx_getr 3 136 dX3_readSum_22 fl_X3_18 oc_at_142 (rf_3_0 oc_at_142) ?_
          obtain ⟨x8, qx8, hb⟩ := b1E hb
          refine mx_cVi [] [] 136 9 x8 dX3_readSum_25 cl_X3_42 im_X9_type cy_X9_type (oc_3_0 oc_at_142) rfl (Nat.le_of_ble_eq_true rfl) (by decide) (t_X9_type l E M6 qx8) ?_
          refine mx_cSi [.int x8] [] (f_X3_isReckoning x8) dX3_readSum_28 cl_X3_90 sm_X3_isReckoning rfl (Nat.le_of_ble_eq_true rfl) (by decide) (t_X3_isReckoning l E x8 M6 rfl) ?_
          refine ex_if_eq 120 dX3_readSum_31 (by decide) (fun c9 => ?_) (fun c9 => ?_)
          · rw [if_pos c9] at hb
            refine ex_mskL [true, true, false, false, false] (L2 := [some (.ref 142), some (.int i4), none, none, none]) rfl ?_
            cases hb
            cases (he _ rfl) <;> exact hx
          · rw [if_neg c9] at hb
            refine ex_aload_n dX3_readSum_34 rfl ?_
            refine mx_getr 3 136 dX3_readSum_35 fl_X3_18 oc_at_142 (rf_3_0 oc_at_142) ?_
            obtain ⟨x10, qx10, hb⟩ := b1E hb
            refine mx_cVi [] [] 136 9 x10 dX3_readSum_38 cl_X3_42 im_X9_type cy_X9_type (oc_3_0 oc_at_142) rfl (Nat.le_of_ble_eq_true rfl) (by decide) (t_X9_type l E M6 qx10) ?_
            refine ex_istore_n (L2 := [some (.ref 142), some (.int i4), some (.int i5), some (.int x10), none]) dX3_readSum_41 (by decide) rfl ?_
            refine ex_iload_n dX3_readSum_42 rfl ?_
            refine ex_bipush 42 dX3_readSum_43 kB_42 ?_
            have JXC13 : (x10 = 42 ∨ x10 = 47) → XM l E (RX3, "readSum", cX3_readSum, 5) (some .boolean) 2 54 [some (.ref 142), some (.int i4), some (.int i5), some (.int x10), none] [] M6 M' (some (.int r)) := fun C13 => by
              rw [if_pos C13] at hb
              refine ex_iconst 1 dX3_readSum_54 kI_1 ?_
              refine ex_goto 59 dX3_readSum_55 (by decide) ?_
              refine ex_istore (L2 := [some (.ref 142), some (.int i4), some (.int i5), some (.int x10), some (.int 1)]) dX3_readSum_59 (by decide) rfl ?_
              refine ex_iload dX3_readSum_61 rfl ?_
              refine ex_if_ne 73 dX3_readSum_63 (by decide) (fun _ => ?_) (fun z => absurd z (by decide))
              refine ex_aload_n dX3_readSum_73 rfl ?_
              refine mx_getr 3 136 dX3_readSum_74 fl_X3_18 oc_at_142 (rf_3_0 oc_at_142) ?_
              obtain ⟨M14, eM14, hb⟩ := ltE hb
              refine mx_cVv [] [] 136 9 dX3_readSum_77 cl_X3_57 im_X9_take cy_X9_take (oc_3_0 oc_at_142) rfl (Nat.le_of_ble_eq_true rfl) (by decide) (t_X9_take l E M6 eM14.symm) ?_
              refine ex_aload_n dX3_readSum_80 rfl ?_
              refine ex_iload_n dX3_readSum_81 rfl ?_
              refine ex_bipush 47 dX3_readSum_82 kB_47 ?_
              obtain ⟨x16, ex16, hb⟩ := ltE hb
              have Jx16 : XM l E (RX3, "readSum", cX3_readSum, 5) (some .boolean) 2 92 [some (.ref 142), some (.int i4), some (.int i5), some (.int x10), some (.int 1)] [.int x16, .ref 142] M14 M' (some (.int r)) := by
                obtain ⟨M17, x18, qx18, hb⟩ := b2E hb
                refine mx_cVi [.int x16] [] 142 3 x18 dX3_readSum_92 cl_X3_86 im_X3_readUnit cy_X3_readUnit oc_at_142 rfl (Nat.le_of_ble_eq_true rfl) (by decide) (t_X3_readUnit l E x16 M14 qx18) ?_
                refine ex_if_ne 100 dX3_readSum_95 (by decide) (fun c19 => ?_) (fun c19 => ?_)
                · rw [if_neg c19] at hb
                  refine ex_iload dX3_readSum_100 rfl ?_
                  refine ex_if_eq 114 dX3_readSum_102 (by decide) (fun z => absurd z (by decide)) (fun _ => ?_)
                  refine ex_aload_n dX3_readSum_105 rfl ?_
                  refine mx_getr 3 143 dX3_readSum_106 fl_X3_12 oc_at_142 (rf_3_1 oc_at_142) ?_
                  refine ex_iload_n dX3_readSum_109 rfl ?_
                  refine ex_iconst 0 dX3_readSum_110 kI_0 ?_
                  obtain ⟨M20, qM20, hb⟩ := b1E hb
                  refine mx_cVv [.int x10, .int 0] [] 143 2 dX3_readSum_111 cl_X3_82 im_X2_addStep cy_X2_addStep (oc_3_1 oc_at_142) rfl (Nat.le_of_ble_eq_true rfl) (by decide) (t_X2_addStep l E 143 x10 0 (oc_3_1 oc_at_142) M17 qM20) ?_
                  refine ex_iinc 1 (L2 := [some (.ref 142), some (.int i4), some (.int (i5 + 1)), some (.int x10), some (.int 1)]) dX3_readSum_114 rfl kI_1 (by decide) rfl ?_
                  refine ex_goto 14 dX3_readSum_117 (by decide) ?_
                  refine ex_mskL [true, true, true, false, false] (L2 := [some (.ref 142), some (.int i4), some (.int (i5 + 1)), none, none]) rfl ?_
                  cases hb
                  exact hk (i4, (i5 + 1), M20) rfl
                · rw [if_pos c19] at hb
                  refine ex_mskL [false, false, false, false, false] (L2 := [none, none, none, none, none]) rfl ?_
                  cases hb
                  cases (he _ rfl) <;> exact hx
              clear hb
              refine ex_icmp_ne 91 dX3_readSum_84 (by decide) (fun c15 => ?_) (fun c15 => ?_)
              · rw [if_neg c15] at ex16
                refine ex_iconst 0 dX3_readSum_91 kI_0 ?_
                subst ex16
                exact Jx16
              · rw [if_pos c15] at ex16
                refine ex_iconst 1 dX3_readSum_87 kI_1 ?_
                refine ex_goto 92 dX3_readSum_88 (by decide) ?_
                subst ex16
                exact Jx16
            have JYC13 : ¬ ((x10 = 42 ∨ x10 = 47)) → XM l E (RX3, "readSum", cX3_readSum, 5) (some .boolean) 2 59 [some (.ref 142), some (.int i4), some (.int i5), some (.int x10), none] [.int 0] M6 M' (some (.int r)) := fun C13 => by
              rw [if_neg C13] at hb
              refine ex_istore (L2 := [some (.ref 142), some (.int i4), some (.int i5), some (.int x10), some (.int 0)]) dX3_readSum_59 (by decide) rfl ?_
              refine ex_iload dX3_readSum_61 rfl ?_
              refine ex_if_ne 73 dX3_readSum_63 (by decide) (fun z => absurd (by decide) z) (fun _ => ?_)
              refine ex_aload_n dX3_readSum_66 rfl ?_
              refine ex_iload_n dX3_readSum_67 rfl ?_
              obtain ⟨M21, qM21, hb⟩ := b1E hb
              refine mx_cVv [.int i4] [] 142 3 dX3_readSum_68 cl_X3_93 im_X3_addWaiting cy_X3_addWaiting oc_at_142 rfl (Nat.le_of_ble_eq_true rfl) (by decide) (t_X3_addWaiting l E i4 M6 qM21) ?_
              refine ex_iload_n dX3_readSum_71 rfl ?_
              refine ex_istore_n (L2 := [some (.ref 142), some (.int x10), some (.int i5), some (.int x10), some (.int 0)]) dX3_readSum_72 (by decide) rfl ?_
              refine ex_aload_n dX3_readSum_73 rfl ?_
              refine mx_getr 3 136 dX3_readSum_74 fl_X3_18 oc_at_142 (rf_3_0 oc_at_142) ?_
              obtain ⟨M22, eM22, hb⟩ := ltE hb
              refine mx_cVv [] [] 136 9 dX3_readSum_77 cl_X3_57 im_X9_take cy_X9_take (oc_3_0 oc_at_142) rfl (Nat.le_of_ble_eq_true rfl) (by decide) (t_X9_take l E M21 eM22.symm) ?_
              refine ex_aload_n dX3_readSum_80 rfl ?_
              refine ex_iload_n dX3_readSum_81 rfl ?_
              refine ex_bipush 47 dX3_readSum_82 kB_47 ?_
              obtain ⟨x24, ex24, hb⟩ := ltE hb
              have Jx24 : XM l E (RX3, "readSum", cX3_readSum, 5) (some .boolean) 2 92 [some (.ref 142), some (.int x10), some (.int i5), some (.int x10), some (.int 0)] [.int x24, .ref 142] M22 M' (some (.int r)) := by
                obtain ⟨M25, x26, qx26, hb⟩ := b2E hb
                refine mx_cVi [.int x24] [] 142 3 x26 dX3_readSum_92 cl_X3_86 im_X3_readUnit cy_X3_readUnit oc_at_142 rfl (Nat.le_of_ble_eq_true rfl) (by decide) (t_X3_readUnit l E x24 M22 qx26) ?_
                refine ex_if_ne 100 dX3_readSum_95 (by decide) (fun c27 => ?_) (fun c27 => ?_)
                · rw [if_neg c27] at hb
                  refine ex_iload dX3_readSum_100 rfl ?_
                  refine ex_if_eq 114 dX3_readSum_102 (by decide) (fun _ => ?_) (fun z => absurd (by decide) z)
                  refine ex_iinc 1 (L2 := [some (.ref 142), some (.int x10), some (.int (i5 + 1)), some (.int x10), some (.int 0)]) dX3_readSum_114 rfl kI_1 (by decide) rfl ?_
                  refine ex_goto 14 dX3_readSum_117 (by decide) ?_
                  refine ex_mskL [true, true, true, false, false] (L2 := [some (.ref 142), some (.int x10), some (.int (i5 + 1)), none, none]) rfl ?_
                  cases hb
                  exact hk (x10, (i5 + 1), M25) rfl
                · rw [if_pos c27] at hb
                  refine ex_mskL [false, false, false, false, false] (L2 := [none, none, none, none, none]) rfl ?_
                  cases hb
                  cases (he _ rfl) <;> exact hx
              clear hb
              refine ex_icmp_ne 91 dX3_readSum_84 (by decide) (fun c23 => ?_) (fun c23 => ?_)
              · rw [if_neg c23] at ex24
                refine ex_iconst 0 dX3_readSum_91 kI_0 ?_
                subst ex24
                exact Jx24
              · rw [if_pos c23] at ex24
                refine ex_iconst 1 dX3_readSum_87 kI_1 ?_
                refine ex_goto 92 dX3_readSum_88 (by decide) ?_
                subst ex24
                exact Jx24
            clear hb
            refine ex_icmp_eq 54 dX3_readSum_45 (by decide) (fun c11 => ?_) (fun c11 => ?_)
            · exact JXC13 (Or.inl c11)
            · refine ex_iload_n dX3_readSum_48 rfl ?_
              refine ex_bipush 47 dX3_readSum_49 kB_47 ?_
              refine ex_icmp_ne 58 dX3_readSum_51 (by decide) (fun c12 => ?_) (fun c12 => ?_)
              · refine ex_iconst 0 dX3_readSum_58 kI_0 ?_
                exact JYC13 (fun z => z.elim c11 c12)
              · exact JXC13 (Or.inr c12))
      exact key FU ((-1), 0, M1) hlq28
  · rw [if_pos c3] at h
    refine ex_iconst 0 dX3_readSum_8 kI_0 ?_
    cases h
    exact mx_reti .boolean dX3_readSum_9 ⟨rfl, by decide⟩
def f_X9_takes (a1 : Int32) (M : Mem) : Option (Mem × Int32) :=
  b1 (f_X9_type M) fun x1 => if x1 = a1 then (lt (f_X9_take M) fun M3 => some (M3, 1)) else (b2 (f_X9_fails 1 M) fun M4 x5 => b1 (gz x5) fun x6 => some (M4, x6))
set_option maxRecDepth 100000 in
set_option maxHeartbeats 4000000 in
theorem t_X9_takes (l : Launch) (E : EV) (a1 : Int32) (M : Mem) {M' : Mem} {r : Int32} (h : f_X9_takes a1 M = some (M', r)) : RunM l E yX9_takes cX9_takes 2 (some .boolean) 1 [.ref 136, .int a1] M M' (some (.int r)) := by
  refine RunM.of (by decide) (Nat.le_of_ble_eq_true rfl) ?_
  show XM l E (RX9, "takes", cX9_takes, 2) (some .boolean) 1 0 [some (.ref 136), some (.int a1)] [] M M' (some (.int r))
  unfold f_X9_takes at h
  refine ex_aload_n dX9_takes_0 rfl ?_
  obtain ⟨x1, qx1, h⟩ := b1E h
  refine mx_cVi [] [] 136 9 x1 dX9_takes_1 cl_X9_92 im_X9_type cy_X9_type oc_at_136 rfl (Nat.le_of_ble_eq_true rfl) (by decide) (t_X9_type l E M qx1) ?_
  refine ex_iload_n dX9_takes_4 rfl ?_
  refine ex_icmp_eq 14 dX9_takes_5 (by decide) (fun c2 => ?_) (fun c2 => ?_)
  · rw [if_pos c2] at h
    refine ex_aload_n dX9_takes_14 rfl ?_
    obtain ⟨M3, eM3, h⟩ := ltE h
    refine mx_cVv [] [] 136 9 dX9_takes_15 cl_X9_98 im_X9_take cy_X9_take oc_at_136 rfl (Nat.le_of_ble_eq_true rfl) (by decide) (t_X9_take l E M eM3.symm) ?_
    refine ex_iconst 1 dX9_takes_18 kI_1 ?_
    cases h
    exact mx_reti .boolean dX9_takes_19 ⟨rfl, by decide⟩
  · rw [if_neg c2] at h
    refine ex_aload_n dX9_takes_8 rfl ?_
    refine ex_iconst 1 dX9_takes_9 kI_1 ?_
    obtain ⟨M4, x5, qx5, h⟩ := b2E h
    refine mx_cVi [.int 1] [] 136 9 x5 dX9_takes_10 cl_X9_95 im_X9_fails cy_X9_fails oc_at_136 rfl (Nat.le_of_ble_eq_true rfl) (by decide) (t_X9_fails l E 1 M qx5) ?_
    obtain ⟨x6, qx6, h⟩ := b1E h
    obtain ⟨ex6, nx6⟩ := gzE qx6
    rw [← ex6] at h
    cases h
    exact mx_reti .boolean dX9_takes_13 ⟨rfl, nx6⟩
