def f_X8_cellOf (o : Nat) (a1 : Int32) (a2 : Int32) (M : Mem) : Option (Int32) :=
  if (a1 < 0 ∨ ((M o 3) ≤ a1 ∨ (a2 < 0 ∨ ¬ (a2 < (M o 1))))) then (some (-1)) else (b1 (ln (o + 1)) fun x6 => lt ((if x6 ≤ ((a1 * (M o 1)) + a2) then (-1) else ((a1 * (M o 1)) + a2)) : Int32) fun x8 => some x8)
set_option maxRecDepth 100000 in
set_option maxHeartbeats 4000000 in
theorem t_X8_cellOf (l : Launch) (E : EV) (o : Nat) (a1 : Int32) (a2 : Int32) (ho : oc o = some 8) (M : Mem) {r : Int32} (h : f_X8_cellOf o a1 a2 M = some r) : RunM l E yX8_cellOf cX8_cellOf 4 (some .int) 0 [.ref o, .int a1, .int a2] M M (some (.int r)) := by
  refine RunM.of (by decide) (Nat.le_of_ble_eq_true rfl) ?_
  show XM l E (RX8, "cellOf", cX8_cellOf, 4) (some .int) 0 0 [some (.ref o), some (.int a1), some (.int a2), none] [] M M (some (.int r))
  unfold f_X8_cellOf at h
  refine ex_iload_n dX8_cellOf_0 rfl ?_
  have JXC5 : (a1 < 0 ∨ ((M o 3) ≤ a1 ∨ (a2 < 0 ∨ ¬ (a2 < (M o 1))))) → XM l E (RX8, "cellOf", cX8_cellOf, 4) (some .int) 0 24 [some (.ref o), some (.int a1), some (.int a2), none] [] M M (some (.int r)) := fun C5 => by
    rw [if_pos C5] at h
    refine ex_iconst (-1) dX8_cellOf_24 kI_m1 ?_
    cases h
    exact mx_reti .int dX8_cellOf_25 ⟨rfl, rfl⟩
  have JYC5 : ¬ ((a1 < 0 ∨ ((M o 3) ≤ a1 ∨ (a2 < 0 ∨ ¬ (a2 < (M o 1)))))) → XM l E (RX8, "cellOf", cX8_cellOf, 4) (some .int) 0 34 [some (.ref o), some (.int a1), some (.int a2), none] [.int ((a1 * (M o 1)) + a2)] M M (some (.int r)) := fun C5 => by
    rw [if_neg C5] at h
    refine ex_istore_n (L2 := [some (.ref o), some (.int a1), some (.int a2), some (.int ((a1 * (M o 1)) + a2))]) dX8_cellOf_34 (by decide) rfl ?_
    refine ex_iload_n dX8_cellOf_35 rfl ?_
    refine ex_aload_n dX8_cellOf_36 rfl ?_
    refine mx_getr 8 (o + 1) dX8_cellOf_37 fl_X8_18 ho (rf_8_2 ho) ?_
    obtain ⟨x6, qx6, h⟩ := b1E h
    refine mx_alen x6 dX8_cellOf_40 qx6 ?_
    obtain ⟨x8, ex8, h⟩ := ltE h
    have Jx8 : XM l E (RX8, "cellOf", cX8_cellOf, 4) (some .int) 0 49 [some (.ref o), some (.int a1), some (.int a2), some (.int ((a1 * (M o 1)) + a2))] [.int x8] M M (some (.int r)) := by
      cases h
      exact mx_reti .int dX8_cellOf_49 ⟨rfl, rfl⟩
    clear h
    refine ex_icmp_ge 48 dX8_cellOf_41 (by decide) (fun c7 => ?_) (fun c7 => ?_)
    · rw [if_pos c7] at ex8
      refine ex_iconst (-1) dX8_cellOf_48 kI_m1 ?_
      subst ex8
      exact Jx8
    · rw [if_neg c7] at ex8
      refine ex_iload_n dX8_cellOf_44 rfl ?_
      refine ex_goto 49 dX8_cellOf_45 (by decide) ?_
      subst ex8
      exact Jx8
  clear h
  refine ex_if_lt 24 dX8_cellOf_1 (by decide) (fun c1 => ?_) (fun c1 => ?_)
  · exact JXC5 (Or.inl c1)
  · refine ex_iload_n dX8_cellOf_4 rfl ?_
    refine ex_aload_n dX8_cellOf_5 rfl ?_
    refine mx_geti 8 dX8_cellOf_6 fl_X8_22 ho (isi_8_3 ho) ?_
    refine ex_icmp_ge 24 dX8_cellOf_9 (by decide) (fun c2 => ?_) (fun c2 => ?_)
    · exact JXC5 (Or.inr (Or.inl c2))
    · refine ex_iload_n dX8_cellOf_12 rfl ?_
      refine ex_if_lt 24 dX8_cellOf_13 (by decide) (fun c3 => ?_) (fun c3 => ?_)
      · exact JXC5 (Or.inr (Or.inr (Or.inl c3)))
      · refine ex_iload_n dX8_cellOf_16 rfl ?_
        refine ex_aload_n dX8_cellOf_17 rfl ?_
        refine mx_geti 8 dX8_cellOf_18 fl_X8_15 ho (isi_8_1 ho) ?_
        refine ex_icmp_lt 26 dX8_cellOf_21 (by decide) (fun c4 => ?_) (fun c4 => ?_)
        · refine ex_iload_n dX8_cellOf_26 rfl ?_
          refine ex_aload_n dX8_cellOf_27 rfl ?_
          refine mx_geti 8 dX8_cellOf_28 fl_X8_15 ho (isi_8_1 ho) ?_
          refine ex_imul dX8_cellOf_31 ?_
          refine ex_iload_n dX8_cellOf_32 rfl ?_
          refine ex_iadd dX8_cellOf_33 ?_
          exact JYC5 (fun z => z.elim c1 (fun z => z.elim c2 (fun z => z.elim c3 (fun z => z c4))))
        · exact JXC5 (Or.inr (Or.inr (Or.inr c4)))
def f_X8_at (o : Nat) (a1 : Int32) (a2 : Int32) (M : Mem) : Option (Int32) :=
  b1 (f_X8_cellOf o a1 a2 M) fun x1 => if x1 < 0 then (some (-1)) else (b1 (rd M (o + 1) x1) fun x3 => some x3)
set_option maxRecDepth 100000 in
set_option maxHeartbeats 4000000 in
theorem t_X8_at (l : Launch) (E : EV) (o : Nat) (a1 : Int32) (a2 : Int32) (ho : oc o = some 8) (M : Mem) {r : Int32} (h : f_X8_at o a1 a2 M = some r) : RunM l E yX8_at cX8_at 4 (some .int) 1 [.ref o, .int a1, .int a2] M M (some (.int r)) := by
  refine RunM.of (by decide) (Nat.le_of_ble_eq_true rfl) ?_
  show XM l E (RX8, "at", cX8_at, 4) (some .int) 1 0 [some (.ref o), some (.int a1), some (.int a2), none] [] M M (some (.int r))
  unfold f_X8_at at h
  refine ex_aload_n dX8_at_0 rfl ?_
  refine ex_iload_n dX8_at_1 rfl ?_
  refine ex_iload_n dX8_at_2 rfl ?_
  obtain ⟨x1, qx1, h⟩ := b1E h
  refine mx_cVi [.int a1, .int a2] [] o 8 x1 dX8_at_3 cl_X8_25 im_X8_cellOf cy_X8_cellOf ho rfl (Nat.le_of_ble_eq_true rfl) (by decide) (t_X8_cellOf l E o a1 a2 ho M qx1) ?_
  refine ex_istore_n (L2 := [some (.ref o), some (.int a1), some (.int a2), some (.int x1)]) dX8_at_6 (by decide) rfl ?_
  refine ex_iload_n dX8_at_7 rfl ?_
  refine ex_if_lt 20 dX8_at_8 (by decide) (fun c2 => ?_) (fun c2 => ?_)
  · rw [if_pos c2] at h
    refine ex_iconst (-1) dX8_at_20 kI_m1 ?_
    cases h
    exact mx_reti .int dX8_at_21 ⟨rfl, rfl⟩
  · rw [if_neg c2] at h
    refine ex_aload_n dX8_at_11 rfl ?_
    refine mx_getr 8 (o + 1) dX8_at_12 fl_X8_18 ho (rf_8_2 ho) ?_
    refine ex_iload_n dX8_at_15 rfl ?_
    obtain ⟨x3, qx3, h⟩ := b1E h
    refine mx_iald x3 dX8_at_16 qx3 ?_
    refine ex_goto 21 dX8_at_17 (by decide) ?_
    cases h
    exact mx_reti .int dX8_at_21 ⟨rfl, rfl⟩
def f_X10_isIn (a1 : Int32) (a2 : Int32) : (Int32) :=
  lt ((if ((a1 >>> (a2 &&& 31)) &&& 1) = 1 then 1 else 0) : Int32) fun x2 => x2
theorem z_X10_isIn (a1 : Int32) (a2 : Int32) : f_X10_isIn a1 a2 = 0 ∨ f_X10_isIn a1 a2 = 1 := by
  unfold f_X10_isIn
  (repeat' split) <;> first | exact Or.inl rfl | exact Or.inr rfl
set_option maxRecDepth 100000 in
set_option maxHeartbeats 4000000 in
theorem t_X10_isIn (l : Launch) (E : EV) (a1 : Int32) (a2 : Int32) (M : Mem) {r : Int32} (h : f_X10_isIn a1 a2 = r) : RunM l E yX10_isIn cX10_isIn 2 (some .boolean) 0 [.int a1, .int a2] M M (some (.int r)) := by
  refine RunM.of (by decide) (Nat.le_of_ble_eq_true rfl) ?_
  show XM l E (RX10, "isIn", cX10_isIn, 2) (some .boolean) 0 0 [some (.int a1), some (.int a2)] [] M M (some (.int r))
  unfold f_X10_isIn at h
  refine ex_iload_n dX10_isIn_0 rfl ?_
  refine ex_iload_n dX10_isIn_1 rfl ?_
  refine ex_ishr dX10_isIn_2 ?_
  refine ex_iconst 1 dX10_isIn_3 kI_1 ?_
  refine ex_iand dX10_isIn_4 ?_
  refine ex_iconst 1 dX10_isIn_5 kI_1 ?_
  obtain ⟨x2, ex2, h⟩ := ltE h
  have Jx2 : XM l E (RX10, "isIn", cX10_isIn, 2) (some .boolean) 0 14 [some (.int a1), some (.int a2)] [.int x2] M M (some (.int r)) := by
    subst h
    exact mx_reti .boolean dX10_isIn_14 ⟨rfl, nzB (by rw [ex2]; (repeat' split) <;> simp)⟩
  clear h
  refine ex_icmp_ne 13 dX10_isIn_6 (by decide) (fun c1 => ?_) (fun c1 => ?_)
  · rw [if_neg c1] at ex2
    refine ex_iconst 0 dX10_isIn_13 kI_0 ?_
    subst ex2
    exact Jx2
  · rw [if_pos c1] at ex2
    refine ex_iconst 1 dX10_isIn_9 kI_1 ?_
    refine ex_goto 14 dX10_isIn_10 (by decide) ?_
    subst ex2
    exact Jx2
def f_X0_layLast (a1 : Int32) (a2 : Int32) (a3 : Int32) (a4 : Int32) (M : Mem) : Option (Mem) :=
  if a1 < 0 then (some M) else (b1 (ln 152) fun x2 => if (x2 ≤ a1 ∨ a2 < 0) then (some M) else (b1 (ln 152) fun x6 => if a2 < x6 then (b1 (rd M 153 a2) fun x8 => lt ((if a4 < (x8 + a3) then 0 else 1) : Int32) fun x10 => if x10 = 0 then (b1 (rd M 152 a2) fun x12 => if x10 = 0 then (b1 (rd M 152 a1) fun x14 => if (x12 + 1) < x14 then (b1 (wr M 152 a1 (x12 + 1)) fun M16 => b1 (wr M16 153 a1 a3) fun M17 => some M17) else (b1 (rd M 152 a1) fun x18 => if (x12 + 1) = x18 then (b1 (rd M 153 a1) fun x20 => if x20 ≤ a3 then (some M) else (b1 (wr M 152 a1 (x12 + 1)) fun M22 => b1 (wr M22 153 a1 a3) fun M23 => some M23)) else (some M))) else (b1 (rd M 153 a2) fun x24 => b1 (rd M 152 a1) fun x25 => if (x12 + 1) < x25 then (b1 (wr M 152 a1 (x12 + 1)) fun M27 => b1 (wr M27 153 a1 (x24 + a3)) fun M28 => some M28) else (b1 (rd M 152 a1) fun x29 => if (x12 + 1) = x29 then (b1 (rd M 153 a1) fun x31 => if x31 ≤ (x24 + a3) then (some M) else (b1 (wr M 152 a1 (x12 + 1)) fun M33 => b1 (wr M33 153 a1 (x24 + a3)) fun M34 => some M34)) else (some M)))) else (b1 (rd M 152 a2) fun x35 => if x10 = 0 then (b1 (rd M 152 a1) fun x37 => if x35 < x37 then (b1 (wr M 152 a1 x35) fun M39 => b1 (wr M39 153 a1 a3) fun M40 => some M40) else (b1 (rd M 152 a1) fun x41 => if x35 = x41 then (b1 (rd M 153 a1) fun x43 => if x43 ≤ a3 then (some M) else (b1 (wr M 152 a1 x35) fun M45 => b1 (wr M45 153 a1 a3) fun M46 => some M46)) else (some M))) else (b1 (rd M 153 a2) fun x47 => b1 (rd M 152 a1) fun x48 => if x35 < x48 then (b1 (wr M 152 a1 x35) fun M50 => b1 (wr M50 153 a1 (x47 + a3)) fun M51 => some M51) else (b1 (rd M 152 a1) fun x52 => if x35 = x52 then (b1 (rd M 153 a1) fun x54 => if x54 ≤ (x47 + a3) then (some M) else (b1 (wr M 152 a1 x35) fun M56 => b1 (wr M56 153 a1 (x47 + a3)) fun M57 => some M57)) else (some M))))) else (some M)))
set_option maxRecDepth 100000 in
set_option maxHeartbeats 4000000 in
theorem t_X0_layLast (l : Launch) (E : EV) (a1 : Int32) (a2 : Int32) (a3 : Int32) (a4 : Int32) (M : Mem) {M' : Mem} (h : f_X0_layLast a1 a2 a3 a4 M = some M') : RunM l E yX0_layLast cX0_layLast 8 none 0 [.ref 151, .int a1, .int a2, .int a3, .int a4] M M' none := by
  refine RunM.of (by decide) (Nat.le_of_ble_eq_true rfl) ?_
  show XM l E (RX0, "layLast", cX0_layLast, 8) none 0 0 [some (.ref 151), some (.int a1), some (.int a2), some (.int a3), some (.int a4), none, none, none] [] M M' none
  unfold f_X0_layLast at h
  refine ex_iload_n dX0_layLast_0 rfl ?_
  refine ex_if_lt 26 dX0_layLast_1 (by decide) (fun c1 => ?_) (fun c1 => ?_)
  · rw [if_pos c1] at h
    cases h
    exact mx_retv dX0_layLast_26 rfl
  · rw [if_neg c1] at h
    refine ex_iload_n dX0_layLast_4 rfl ?_
    refine ex_aload_n dX0_layLast_5 rfl ?_
    refine mx_getr 0 152 dX0_layLast_6 fl_X0_11 oc_at_151 (rf_0_0 oc_at_151) ?_
    obtain ⟨x2, qx2, h⟩ := b1E h
    refine mx_alen x2 dX0_layLast_9 qx2 ?_
    have JXC5 : (x2 ≤ a1 ∨ a2 < 0) → XM l E (RX0, "layLast", cX0_layLast, 8) none 0 26 [some (.ref 151), some (.int a1), some (.int a2), some (.int a3), some (.int a4), none, none, none] [] M M' none := fun C5 => by
      rw [if_pos C5] at h
      cases h
      exact mx_retv dX0_layLast_26 rfl
    have JYC5 : ¬ ((x2 ≤ a1 ∨ a2 < 0)) → XM l E (RX0, "layLast", cX0_layLast, 8) none 0 22 [some (.ref 151), some (.int a1), some (.int a2), some (.int a3), some (.int a4), none, none, none] [.ref 152, .int a2] M M' none := fun C5 => by
      rw [if_neg C5] at h
      obtain ⟨x6, qx6, h⟩ := b1E h
      refine mx_alen x6 dX0_layLast_22 qx6 ?_
      refine ex_icmp_lt 27 dX0_layLast_23 (by decide) (fun c7 => ?_) (fun c7 => ?_)
      · rw [if_pos c7] at h
        refine ex_aload_n dX0_layLast_27 rfl ?_
        refine mx_getr 0 153 dX0_layLast_28 fl_X0_15 oc_at_151 (rf_0_1 oc_at_151) ?_
        refine ex_iload_n dX0_layLast_31 rfl ?_
        obtain ⟨x8, qx8, h⟩ := b1E h
        refine mx_iald x8 dX0_layLast_32 qx8 ?_
        refine ex_iload_n dX0_layLast_33 rfl ?_
        refine ex_iadd dX0_layLast_34 ?_
        refine ex_iload dX0_layLast_35 rfl ?_
        obtain ⟨x10, ex10, h⟩ := ltE h
        have Jx10 : XM l E (RX0, "layLast", cX0_layLast, 8) none 0 45 [some (.ref 151), some (.int a1), some (.int a2), some (.int a3), some (.int a4), none, none, none] [.int x10] M M' none := by
          refine ex_istore (L2 := [some (.ref 151), some (.int a1), some (.int a2), some (.int a3), some (.int a4), some (.int x10), none, none]) dX0_layLast_45 (by decide) rfl ?_
          refine ex_iload dX0_layLast_47 rfl ?_
          refine ex_if_eq 61 dX0_layLast_49 (by decide) (fun c11 => ?_) (fun c11 => ?_)
          · rw [if_pos c11] at h
            refine ex_aload_n dX0_layLast_61 rfl ?_
            refine mx_getr 0 152 dX0_layLast_62 fl_X0_11 oc_at_151 (rf_0_0 oc_at_151) ?_
            refine ex_iload_n dX0_layLast_65 rfl ?_
            obtain ⟨x12, qx12, h⟩ := b1E h
            refine mx_iald x12 dX0_layLast_66 qx12 ?_
            refine ex_iconst 1 dX0_layLast_67 kI_1 ?_
            refine ex_iadd dX0_layLast_68 ?_
            refine ex_istore (L2 := [some (.ref 151), some (.int a1), some (.int a2), some (.int a3), some (.int a4), some (.int x10), some (.int (x12 + 1)), none]) dX0_layLast_69 (by decide) rfl ?_
            refine ex_iload dX0_layLast_71 rfl ?_
            refine ex_if_eq 87 dX0_layLast_73 (by decide) (fun c13 => ?_) (fun c13 => ?_)
            · rw [if_pos c13] at h
              refine ex_iload_n dX0_layLast_87 rfl ?_
              refine ex_istore (L2 := [some (.ref 151), some (.int a1), some (.int a2), some (.int a3), some (.int a4), some (.int x10), some (.int (x12 + 1)), some (.int a3)]) dX0_layLast_88 (by decide) rfl ?_
              refine ex_iload dX0_layLast_90 rfl ?_
              refine ex_aload_n dX0_layLast_92 rfl ?_
              refine mx_getr 0 152 dX0_layLast_93 fl_X0_11 oc_at_151 (rf_0_0 oc_at_151) ?_
              refine ex_iload_n dX0_layLast_96 rfl ?_
              obtain ⟨x14, qx14, h⟩ := b1E h
              refine mx_iald x14 dX0_layLast_97 qx14 ?_
              refine ex_icmp_lt 123 dX0_layLast_98 (by decide) (fun c15 => ?_) (fun c15 => ?_)
              · rw [if_pos c15] at h
                refine ex_aload_n dX0_layLast_123 rfl ?_
                refine mx_getr 0 152 dX0_layLast_124 fl_X0_11 oc_at_151 (rf_0_0 oc_at_151) ?_
                refine ex_iload_n dX0_layLast_127 rfl ?_
                refine ex_iload dX0_layLast_128 rfl ?_
                obtain ⟨M16, qM16, h⟩ := b1E h
                refine mx_iast M16 dX0_layLast_130 qM16 ?_
                refine ex_aload_n dX0_layLast_131 rfl ?_
                refine mx_getr 0 153 dX0_layLast_132 fl_X0_15 oc_at_151 (rf_0_1 oc_at_151) ?_
                refine ex_iload_n dX0_layLast_135 rfl ?_
                refine ex_iload dX0_layLast_136 rfl ?_
                obtain ⟨M17, qM17, h⟩ := b1E h
                refine mx_iast M17 dX0_layLast_138 qM17 ?_
                cases h
                exact mx_retv dX0_layLast_139 rfl
              · rw [if_neg c15] at h
                refine ex_iload dX0_layLast_101 rfl ?_
                refine ex_aload_n dX0_layLast_103 rfl ?_
                refine mx_getr 0 152 dX0_layLast_104 fl_X0_11 oc_at_151 (rf_0_0 oc_at_151) ?_
                refine ex_iload_n dX0_layLast_107 rfl ?_
                obtain ⟨x18, qx18, h⟩ := b1E h
                refine mx_iald x18 dX0_layLast_108 qx18 ?_
                refine ex_icmp_ne 139 dX0_layLast_109 (by decide) (fun c19 => ?_) (fun c19 => ?_)
                · rw [if_neg c19] at h
                  cases h
                  exact mx_retv dX0_layLast_139 rfl
                · rw [if_pos c19] at h
                  refine ex_iload dX0_layLast_112 rfl ?_
                  refine ex_aload_n dX0_layLast_114 rfl ?_
                  refine mx_getr 0 153 dX0_layLast_115 fl_X0_15 oc_at_151 (rf_0_1 oc_at_151) ?_
                  refine ex_iload_n dX0_layLast_118 rfl ?_
                  obtain ⟨x20, qx20, h⟩ := b1E h
                  refine mx_iald x20 dX0_layLast_119 qx20 ?_
                  refine ex_icmp_ge 139 dX0_layLast_120 (by decide) (fun c21 => ?_) (fun c21 => ?_)
                  · rw [if_pos c21] at h
                    cases h
                    exact mx_retv dX0_layLast_139 rfl
                  · rw [if_neg c21] at h
                    refine ex_aload_n dX0_layLast_123 rfl ?_
                    refine mx_getr 0 152 dX0_layLast_124 fl_X0_11 oc_at_151 (rf_0_0 oc_at_151) ?_
                    refine ex_iload_n dX0_layLast_127 rfl ?_
                    refine ex_iload dX0_layLast_128 rfl ?_
                    obtain ⟨M22, qM22, h⟩ := b1E h
                    refine mx_iast M22 dX0_layLast_130 qM22 ?_
                    refine ex_aload_n dX0_layLast_131 rfl ?_
                    refine mx_getr 0 153 dX0_layLast_132 fl_X0_15 oc_at_151 (rf_0_1 oc_at_151) ?_
                    refine ex_iload_n dX0_layLast_135 rfl ?_
                    refine ex_iload dX0_layLast_136 rfl ?_
                    obtain ⟨M23, qM23, h⟩ := b1E h
                    refine mx_iast M23 dX0_layLast_138 qM23 ?_
                    cases h
                    exact mx_retv dX0_layLast_139 rfl
            · rw [if_neg c13] at h
              refine ex_aload_n dX0_layLast_76 rfl ?_
              refine mx_getr 0 153 dX0_layLast_77 fl_X0_15 oc_at_151 (rf_0_1 oc_at_151) ?_
              refine ex_iload_n dX0_layLast_80 rfl ?_
              obtain ⟨x24, qx24, h⟩ := b1E h
              refine mx_iald x24 dX0_layLast_81 qx24 ?_
              refine ex_iload_n dX0_layLast_82 rfl ?_
              refine ex_iadd dX0_layLast_83 ?_
              refine ex_goto 88 dX0_layLast_84 (by decide) ?_
              refine ex_istore (L2 := [some (.ref 151), some (.int a1), some (.int a2), some (.int a3), some (.int a4), some (.int x10), some (.int (x12 + 1)), some (.int (x24 + a3))]) dX0_layLast_88 (by decide) rfl ?_
              refine ex_iload dX0_layLast_90 rfl ?_
              refine ex_aload_n dX0_layLast_92 rfl ?_
              refine mx_getr 0 152 dX0_layLast_93 fl_X0_11 oc_at_151 (rf_0_0 oc_at_151) ?_
              refine ex_iload_n dX0_layLast_96 rfl ?_
              obtain ⟨x25, qx25, h⟩ := b1E h
              refine mx_iald x25 dX0_layLast_97 qx25 ?_
              refine ex_icmp_lt 123 dX0_layLast_98 (by decide) (fun c26 => ?_) (fun c26 => ?_)
              · rw [if_pos c26] at h
                refine ex_aload_n dX0_layLast_123 rfl ?_
                refine mx_getr 0 152 dX0_layLast_124 fl_X0_11 oc_at_151 (rf_0_0 oc_at_151) ?_
                refine ex_iload_n dX0_layLast_127 rfl ?_
                refine ex_iload dX0_layLast_128 rfl ?_
                obtain ⟨M27, qM27, h⟩ := b1E h
                refine mx_iast M27 dX0_layLast_130 qM27 ?_
                refine ex_aload_n dX0_layLast_131 rfl ?_
                refine mx_getr 0 153 dX0_layLast_132 fl_X0_15 oc_at_151 (rf_0_1 oc_at_151) ?_
                refine ex_iload_n dX0_layLast_135 rfl ?_
                refine ex_iload dX0_layLast_136 rfl ?_
                obtain ⟨M28, qM28, h⟩ := b1E h
                refine mx_iast M28 dX0_layLast_138 qM28 ?_
                cases h
                exact mx_retv dX0_layLast_139 rfl
              · rw [if_neg c26] at h
                refine ex_iload dX0_layLast_101 rfl ?_
                refine ex_aload_n dX0_layLast_103 rfl ?_
                refine mx_getr 0 152 dX0_layLast_104 fl_X0_11 oc_at_151 (rf_0_0 oc_at_151) ?_
                refine ex_iload_n dX0_layLast_107 rfl ?_
                obtain ⟨x29, qx29, h⟩ := b1E h
                refine mx_iald x29 dX0_layLast_108 qx29 ?_
                refine ex_icmp_ne 139 dX0_layLast_109 (by decide) (fun c30 => ?_) (fun c30 => ?_)
                · rw [if_neg c30] at h
                  cases h
                  exact mx_retv dX0_layLast_139 rfl
                · rw [if_pos c30] at h
                  refine ex_iload dX0_layLast_112 rfl ?_
                  refine ex_aload_n dX0_layLast_114 rfl ?_
                  refine mx_getr 0 153 dX0_layLast_115 fl_X0_15 oc_at_151 (rf_0_1 oc_at_151) ?_
                  refine ex_iload_n dX0_layLast_118 rfl ?_
                  obtain ⟨x31, qx31, h⟩ := b1E h
                  refine mx_iald x31 dX0_layLast_119 qx31 ?_
                  refine ex_icmp_ge 139 dX0_layLast_120 (by decide) (fun c32 => ?_) (fun c32 => ?_)
                  · rw [if_pos c32] at h
                    cases h
                    exact mx_retv dX0_layLast_139 rfl
                  · rw [if_neg c32] at h
                    refine ex_aload_n dX0_layLast_123 rfl ?_
                    refine mx_getr 0 152 dX0_layLast_124 fl_X0_11 oc_at_151 (rf_0_0 oc_at_151) ?_
                    refine ex_iload_n dX0_layLast_127 rfl ?_
                    refine ex_iload dX0_layLast_128 rfl ?_
                    obtain ⟨M33, qM33, h⟩ := b1E h
                    refine mx_iast M33 dX0_layLast_130 qM33 ?_
                    refine ex_aload_n dX0_layLast_131 rfl ?_
                    refine mx_getr 0 153 dX0_layLast_132 fl_X0_15 oc_at_151 (rf_0_1 oc_at_151) ?_
                    refine ex_iload_n dX0_layLast_135 rfl ?_
                    refine ex_iload dX0_layLast_136 rfl ?_
                    obtain ⟨M34, qM34, h⟩ := b1E h
                    refine mx_iast M34 dX0_layLast_138 qM34 ?_
                    cases h
                    exact mx_retv dX0_layLast_139 rfl
          · rw [if_neg c11] at h
            refine ex_aload_n dX0_layLast_52 rfl ?_
            refine mx_getr 0 152 dX0_layLast_53 fl_X0_11 oc_at_151 (rf_0_0 oc_at_151) ?_
            refine ex_iload_n dX0_layLast_56 rfl ?_
            obtain ⟨x35, qx35, h⟩ := b1E h
            refine mx_iald x35 dX0_layLast_57 qx35 ?_
            refine ex_goto 69 dX0_layLast_58 (by decide) ?_
            refine ex_istore (L2 := [some (.ref 151), some (.int a1), some (.int a2), some (.int a3), some (.int a4), some (.int x10), some (.int x35), none]) dX0_layLast_69 (by decide) rfl ?_
            refine ex_iload dX0_layLast_71 rfl ?_
            refine ex_if_eq 87 dX0_layLast_73 (by decide) (fun c36 => ?_) (fun c36 => ?_)
            · rw [if_pos c36] at h
              refine ex_iload_n dX0_layLast_87 rfl ?_
              refine ex_istore (L2 := [some (.ref 151), some (.int a1), some (.int a2), some (.int a3), some (.int a4), some (.int x10), some (.int x35), some (.int a3)]) dX0_layLast_88 (by decide) rfl ?_
              refine ex_iload dX0_layLast_90 rfl ?_
              refine ex_aload_n dX0_layLast_92 rfl ?_
              refine mx_getr 0 152 dX0_layLast_93 fl_X0_11 oc_at_151 (rf_0_0 oc_at_151) ?_
              refine ex_iload_n dX0_layLast_96 rfl ?_
              obtain ⟨x37, qx37, h⟩ := b1E h
              refine mx_iald x37 dX0_layLast_97 qx37 ?_
              refine ex_icmp_lt 123 dX0_layLast_98 (by decide) (fun c38 => ?_) (fun c38 => ?_)
              · rw [if_pos c38] at h
                refine ex_aload_n dX0_layLast_123 rfl ?_
                refine mx_getr 0 152 dX0_layLast_124 fl_X0_11 oc_at_151 (rf_0_0 oc_at_151) ?_
                refine ex_iload_n dX0_layLast_127 rfl ?_
                refine ex_iload dX0_layLast_128 rfl ?_
                obtain ⟨M39, qM39, h⟩ := b1E h
                refine mx_iast M39 dX0_layLast_130 qM39 ?_
                refine ex_aload_n dX0_layLast_131 rfl ?_
                refine mx_getr 0 153 dX0_layLast_132 fl_X0_15 oc_at_151 (rf_0_1 oc_at_151) ?_
                refine ex_iload_n dX0_layLast_135 rfl ?_
                refine ex_iload dX0_layLast_136 rfl ?_
                obtain ⟨M40, qM40, h⟩ := b1E h
                refine mx_iast M40 dX0_layLast_138 qM40 ?_
                cases h
                exact mx_retv dX0_layLast_139 rfl
              · rw [if_neg c38] at h
                refine ex_iload dX0_layLast_101 rfl ?_
                refine ex_aload_n dX0_layLast_103 rfl ?_
                refine mx_getr 0 152 dX0_layLast_104 fl_X0_11 oc_at_151 (rf_0_0 oc_at_151) ?_
                refine ex_iload_n dX0_layLast_107 rfl ?_
                obtain ⟨x41, qx41, h⟩ := b1E h
                refine mx_iald x41 dX0_layLast_108 qx41 ?_
                refine ex_icmp_ne 139 dX0_layLast_109 (by decide) (fun c42 => ?_) (fun c42 => ?_)
                · rw [if_neg c42] at h
                  cases h
                  exact mx_retv dX0_layLast_139 rfl
                · rw [if_pos c42] at h
                  refine ex_iload dX0_layLast_112 rfl ?_
                  refine ex_aload_n dX0_layLast_114 rfl ?_
                  refine mx_getr 0 153 dX0_layLast_115 fl_X0_15 oc_at_151 (rf_0_1 oc_at_151) ?_
                  refine ex_iload_n dX0_layLast_118 rfl ?_
                  obtain ⟨x43, qx43, h⟩ := b1E h
                  refine mx_iald x43 dX0_layLast_119 qx43 ?_
                  refine ex_icmp_ge 139 dX0_layLast_120 (by decide) (fun c44 => ?_) (fun c44 => ?_)
                  · rw [if_pos c44] at h
                    cases h
                    exact mx_retv dX0_layLast_139 rfl
                  · rw [if_neg c44] at h
                    refine ex_aload_n dX0_layLast_123 rfl ?_
                    refine mx_getr 0 152 dX0_layLast_124 fl_X0_11 oc_at_151 (rf_0_0 oc_at_151) ?_
                    refine ex_iload_n dX0_layLast_127 rfl ?_
                    refine ex_iload dX0_layLast_128 rfl ?_
                    obtain ⟨M45, qM45, h⟩ := b1E h
                    refine mx_iast M45 dX0_layLast_130 qM45 ?_
                    refine ex_aload_n dX0_layLast_131 rfl ?_
                    refine mx_getr 0 153 dX0_layLast_132 fl_X0_15 oc_at_151 (rf_0_1 oc_at_151) ?_
                    refine ex_iload_n dX0_layLast_135 rfl ?_
                    refine ex_iload dX0_layLast_136 rfl ?_
                    obtain ⟨M46, qM46, h⟩ := b1E h
                    refine mx_iast M46 dX0_layLast_138 qM46 ?_
                    cases h
                    exact mx_retv dX0_layLast_139 rfl
            · rw [if_neg c36] at h
              refine ex_aload_n dX0_layLast_76 rfl ?_
              refine mx_getr 0 153 dX0_layLast_77 fl_X0_15 oc_at_151 (rf_0_1 oc_at_151) ?_
              refine ex_iload_n dX0_layLast_80 rfl ?_
              obtain ⟨x47, qx47, h⟩ := b1E h
              refine mx_iald x47 dX0_layLast_81 qx47 ?_
              refine ex_iload_n dX0_layLast_82 rfl ?_
              refine ex_iadd dX0_layLast_83 ?_
              refine ex_goto 88 dX0_layLast_84 (by decide) ?_
              refine ex_istore (L2 := [some (.ref 151), some (.int a1), some (.int a2), some (.int a3), some (.int a4), some (.int x10), some (.int x35), some (.int (x47 + a3))]) dX0_layLast_88 (by decide) rfl ?_
              refine ex_iload dX0_layLast_90 rfl ?_
              refine ex_aload_n dX0_layLast_92 rfl ?_
              refine mx_getr 0 152 dX0_layLast_93 fl_X0_11 oc_at_151 (rf_0_0 oc_at_151) ?_
              refine ex_iload_n dX0_layLast_96 rfl ?_
              obtain ⟨x48, qx48, h⟩ := b1E h
              refine mx_iald x48 dX0_layLast_97 qx48 ?_
              refine ex_icmp_lt 123 dX0_layLast_98 (by decide) (fun c49 => ?_) (fun c49 => ?_)
              · rw [if_pos c49] at h
                refine ex_aload_n dX0_layLast_123 rfl ?_
                refine mx_getr 0 152 dX0_layLast_124 fl_X0_11 oc_at_151 (rf_0_0 oc_at_151) ?_
                refine ex_iload_n dX0_layLast_127 rfl ?_
                refine ex_iload dX0_layLast_128 rfl ?_
                obtain ⟨M50, qM50, h⟩ := b1E h
                refine mx_iast M50 dX0_layLast_130 qM50 ?_
                refine ex_aload_n dX0_layLast_131 rfl ?_
                refine mx_getr 0 153 dX0_layLast_132 fl_X0_15 oc_at_151 (rf_0_1 oc_at_151) ?_
                refine ex_iload_n dX0_layLast_135 rfl ?_
                refine ex_iload dX0_layLast_136 rfl ?_
                obtain ⟨M51, qM51, h⟩ := b1E h
                refine mx_iast M51 dX0_layLast_138 qM51 ?_
                cases h
                exact mx_retv dX0_layLast_139 rfl
              · rw [if_neg c49] at h
                refine ex_iload dX0_layLast_101 rfl ?_
                refine ex_aload_n dX0_layLast_103 rfl ?_
                refine mx_getr 0 152 dX0_layLast_104 fl_X0_11 oc_at_151 (rf_0_0 oc_at_151) ?_
                refine ex_iload_n dX0_layLast_107 rfl ?_
                obtain ⟨x52, qx52, h⟩ := b1E h
                refine mx_iald x52 dX0_layLast_108 qx52 ?_
                refine ex_icmp_ne 139 dX0_layLast_109 (by decide) (fun c53 => ?_) (fun c53 => ?_)
                · rw [if_neg c53] at h
                  cases h
                  exact mx_retv dX0_layLast_139 rfl
                · rw [if_pos c53] at h
                  refine ex_iload dX0_layLast_112 rfl ?_
                  refine ex_aload_n dX0_layLast_114 rfl ?_
                  refine mx_getr 0 153 dX0_layLast_115 fl_X0_15 oc_at_151 (rf_0_1 oc_at_151) ?_
                  refine ex_iload_n dX0_layLast_118 rfl ?_
                  obtain ⟨x54, qx54, h⟩ := b1E h
                  refine mx_iald x54 dX0_layLast_119 qx54 ?_
                  refine ex_icmp_ge 139 dX0_layLast_120 (by decide) (fun c55 => ?_) (fun c55 => ?_)
                  · rw [if_pos c55] at h
                    cases h
                    exact mx_retv dX0_layLast_139 rfl
                  · rw [if_neg c55] at h
                    refine ex_aload_n dX0_layLast_123 rfl ?_
                    refine mx_getr 0 152 dX0_layLast_124 fl_X0_11 oc_at_151 (rf_0_0 oc_at_151) ?_
                    refine ex_iload_n dX0_layLast_127 rfl ?_
                    refine ex_iload dX0_layLast_128 rfl ?_
                    obtain ⟨M56, qM56, h⟩ := b1E h
                    refine mx_iast M56 dX0_layLast_130 qM56 ?_
                    refine ex_aload_n dX0_layLast_131 rfl ?_
                    refine mx_getr 0 153 dX0_layLast_132 fl_X0_15 oc_at_151 (rf_0_1 oc_at_151) ?_
                    refine ex_iload_n dX0_layLast_135 rfl ?_
                    refine ex_iload dX0_layLast_136 rfl ?_
                    obtain ⟨M57, qM57, h⟩ := b1E h
                    refine mx_iast M57 dX0_layLast_138 qM57 ?_
                    cases h
                    exact mx_retv dX0_layLast_139 rfl
        clear h
        refine ex_icmp_gt 44 dX0_layLast_37 (by decide) (fun c9 => ?_) (fun c9 => ?_)
        · rw [if_pos c9] at ex10
          refine ex_iconst 0 dX0_layLast_44 kI_0 ?_
          subst ex10
          exact Jx10
        · rw [if_neg c9] at ex10
          refine ex_iconst 1 dX0_layLast_40 kI_1 ?_
          refine ex_goto 45 dX0_layLast_41 (by decide) ?_
          subst ex10
          exact Jx10
      · rw [if_neg c7] at h
        cases h
        exact mx_retv dX0_layLast_26 rfl
    clear h
    refine ex_icmp_ge 26 dX0_layLast_10 (by decide) (fun c3 => ?_) (fun c3 => ?_)
    · exact JXC5 (Or.inl c3)
    · refine ex_iload_n dX0_layLast_13 rfl ?_
      refine ex_if_lt 26 dX0_layLast_14 (by decide) (fun c4 => ?_) (fun c4 => ?_)
      · exact JXC5 (Or.inr c4)
      · refine ex_iload_n dX0_layLast_17 rfl ?_
        refine ex_aload_n dX0_layLast_18 rfl ?_
        refine mx_getr 0 152 dX0_layLast_19 fl_X0_11 oc_at_151 (rf_0_0 oc_at_151) ?_
        exact JYC5 (fun z => z.elim c3 c4)
def w_X0_fewestStalls_16 (a1 : Nat) (a2 : Int32) (M : Mem) (i2 : Int32) : Option ((Int32) ⊕ ((Unit) ⊕ (Unit))) :=
  if (M a1 3) ≤ i2 then (some (.inr (.inr ()))) else (b1 (f_X8_at a1 i2 1 M) fun x4 => if x4 ≤ a2 then (some (.inl (i2 + 1))) else (some (.inr (.inl ()))))
def w_X0_fewestStalls_90 (a1 : Nat) (a2 : Int32) (M : Mem) (i13 : Int32) (i17 : Int32) (M18 : Mem) : Option ((Int32 × Mem) ⊕ (Mem)) :=
  if (M a1 3) ≤ i17 then (some (.inr M18)) else (if (f_X10_isIn i13 i17) = 0 then (some (.inl ((i17 + 1), M18))) else (b1 (f_X8_at a1 i17 1 M18) fun x21 => b1 (f_X0_layLast i13 (i13 ^^^ (1 <<< (i17 &&& 31))) x21 a2 M18) fun M22 => some (.inl ((i17 + 1), M22))))
def w_X0_fewestStalls_71 (a1 : Nat) (a2 : Int32) (M : Mem) (x10 : Int32) (i13 : Int32) (M14 : Mem) : Option ((Int32 × Mem) ⊕ (Mem)) :=
  if x10 ≤ i13 then (some (.inr M14)) else (b1 (wr M14 152 i13 1000000) fun M16 => b1 (lp (fun s => w_X0_fewestStalls_90 a1 a2 M i13 s.1 s.2) FU (0, M16)) fun q23 => some (.inl ((i13 + 1), q23)))
def f_X0_fewestStalls (a1 : Nat) (a2 : Int32) (M : Mem) : Option (Mem × Int32) :=
  if (M a1 3) ≤ 10 then (b1 (lp (fun s => w_X0_fewestStalls_16 a1 a2 M s) FU 0) fun q6 => match q6 with | .inl u7 => (some (M, (-1))) | .inr u8 => (b1 (ln 152) fun x9 => lt (f_J9_min_7cf53 (1 <<< ((M a1 3) &&& 31)) x9) fun x10 => lt (up2 M 152 0 0) fun M11 => lt (up2 M11 153 0 a2) fun M12 => b1 (lp (fun s => w_X0_fewestStalls_71 a1 a2 M x10 s.1 s.2) FU (1, M12)) fun q24 => b1 (rd q24 152 (x10 - 1)) fun x25 => some (q24, x25))) else (some (M, (-1)))
set_option maxRecDepth 100000 in
set_option maxHeartbeats 4000000 in
theorem t_X0_fewestStalls (l : Launch) (E : EV) (a1 : Nat) (a2 : Int32) (ha1 : oc a1 = some 8) (M : Mem) {M' : Mem} {r : Int32} (h : f_X0_fewestStalls a1 a2 M = some (M', r)) : RunM l E yX0_fewestStalls cX0_fewestStalls 7 (some .int) 2 [.ref 151, .ref a1, .int a2] M M' (some (.int r)) := by
  refine RunM.of (by decide) (Nat.le_of_ble_eq_true rfl) ?_
  show XM l E (RX0, "fewestStalls", cX0_fewestStalls, 7) (some .int) 2 0 [some (.ref 151), some (.ref a1), some (.int a2), none, none, none, none] [] M M' (some (.int r))
  unfold f_X0_fewestStalls at h
  refine ex_aload_n dX0_fewestStalls_0 rfl ?_
  refine mx_geti 8 dX0_fewestStalls_1 fl_X0_21 ha1 (isi_8_3 ha1) ?_
  refine ex_istore_n (L2 := [some (.ref 151), some (.ref a1), some (.int a2), some (.int (M a1 3)), none, none, none]) dX0_fewestStalls_4 (by decide) rfl ?_
  refine ex_iload_n dX0_fewestStalls_5 rfl ?_
  refine ex_bipush 10 dX0_fewestStalls_6 kB_10 ?_
  refine ex_icmp_le 13 dX0_fewestStalls_8 (by decide) (fun c1 => ?_) (fun c1 => ?_)
  · rw [if_pos c1] at h
    refine ex_iconst 0 dX0_fewestStalls_13 kI_0 ?_
    refine ex_istore (L2 := [some (.ref 151), some (.ref a1), some (.int a2), some (.int (M a1 3)), some (.int 0), none, none]) dX0_fewestStalls_14 (by decide) rfl ?_
    refine ex_mskL [true, true, true, true, true, false, false] (L2 := [some (.ref 151), some (.ref a1), some (.int a2), some (.int (M a1 3)), some (.int 0), none, none]) rfl ?_
    obtain ⟨q6, hlq6, h⟩ := b1E h
    rcases q6 with ⟨⟩ | ⟨⟩
    · dsimp only at h
      have hx : XM l E (RX0, "fewestStalls", cX0_fewestStalls, 7) (some .int) 2 33 [none, none, none, none, none, none, none] [] M M' (some (.int r)) := by
        refine ex_iconst (-1) dX0_fewestStalls_33 kI_m1 ?_
        cases h
        exact mx_reti .int dX0_fewestStalls_34 ⟨rfl, rfl⟩
      clear h
      have key : ∀ (k : Nat) (s : Int32), lp (fun s => w_X0_fewestStalls_16 a1 a2 M s) k s = some (.inl ()) → XM l E (RX0, "fewestStalls", cX0_fewestStalls, 7) (some .int) 2 16 [some (.ref 151), some (.ref a1), some (.int a2), some (.int (M a1 3)), some (.int s), none, none] [] M M' (some (.int r)) := lp_ind (P := fun (s : Int32) => XM l E (RX0, "fewestStalls", cX0_fewestStalls, 7) (some .int) 2 16 [some (.ref 151), some (.ref a1), some (.int a2), some (.int (M a1 3)), some (.int s), none, none] [] M M' (some (.int r))) (fun s t hb hk he => by
        revert hb hk he; generalize s = i2; intro hb hk he
        show XM l E (RX0, "fewestStalls", cX0_fewestStalls, 7) (some .int) 2 16 [some (.ref 151), some (.ref a1), some (.int a2), some (.int (M a1 3)), some (.int i2), none, none] [] M M' (some (.int r))
        change w_X0_fewestStalls_16 a1 a2 M i2 = some t at hb
        unfold w_X0_fewestStalls_16 at hb
        refine ex_iload dX0_fewestStalls_16 rfl ?_
        refine ex_iload_n dX0_fewestStalls_18 rfl ?_
        refine ex_icmp_ge 41 dX0_fewestStalls_19 (by decide) (fun c3 => ?_) (fun c3 => ?_)
        · rw [if_pos c3] at hb
          refine ex_mskL [true, true, true, true, false, false, false] (L2 := [some (.ref 151), some (.ref a1), some (.int a2), some (.int (M a1 3)), none, none, none]) rfl ?_
          cases hb
          cases (he _ rfl) <;> exact hx
        · rw [if_neg c3] at hb
          refine ex_aload_n dX0_fewestStalls_22 rfl ?_
          refine ex_iload dX0_fewestStalls_23 rfl ?_
          refine ex_iconst 1 dX0_fewestStalls_25 kI_1 ?_
          obtain ⟨x4, qx4, hb⟩ := b1E hb
          refine mx_cVi [.int i2, .int 1] [] a1 8 x4 dX0_fewestStalls_26 cl_X0_27 im_X8_at cy_X8_at ha1 rfl (Nat.le_of_ble_eq_true rfl) (by decide) (t_X8_at l E a1 i2 1 ha1 M qx4) ?_
          refine ex_iload_n dX0_fewestStalls_29 rfl ?_
          refine ex_icmp_le 35 dX0_fewestStalls_30 (by decide) (fun c5 => ?_) (fun c5 => ?_)
          · rw [if_pos c5] at hb
            refine ex_iinc 1 (L2 := [some (.ref 151), some (.ref a1), some (.int a2), some (.int (M a1 3)), some (.int (i2 + 1)), none, none]) dX0_fewestStalls_35 rfl kI_1 (by decide) rfl ?_
            refine ex_goto 16 dX0_fewestStalls_38 (by decide) ?_
            refine ex_mskL [true, true, true, true, true, false, false] (L2 := [some (.ref 151), some (.ref a1), some (.int a2), some (.int (M a1 3)), some (.int (i2 + 1)), none, none]) rfl ?_
            cases hb
            exact hk (i2 + 1) rfl
          · rw [if_neg c5] at hb
            refine ex_mskL [false, false, false, false, false, false, false] (L2 := [none, none, none, none, none, none, none]) rfl ?_
            cases hb
            cases (he _ rfl) <;> exact hx)
      exact key FU 0 hlq6
    · dsimp only at h
      have hx : XM l E (RX0, "fewestStalls", cX0_fewestStalls, 7) (some .int) 2 41 [some (.ref 151), some (.ref a1), some (.int a2), some (.int (M a1 3)), none, none, none] [] M M' (some (.int r)) := by
        refine ex_iconst 1 dX0_fewestStalls_41 kI_1 ?_
        refine ex_iload_n dX0_fewestStalls_42 rfl ?_
        refine ex_ishl dX0_fewestStalls_43 ?_
        refine ex_aload_n dX0_fewestStalls_44 rfl ?_
        refine mx_getr 0 152 dX0_fewestStalls_45 fl_X0_11 oc_at_151 (rf_0_0 oc_at_151) ?_
        obtain ⟨x9, qx9, h⟩ := b1E h
        refine mx_alen x9 dX0_fewestStalls_48 qx9 ?_
        refine mx_min dX0_fewestStalls_49 (tb (i := 1132) (by decide +kernel)) (by decide) (Nat.le_of_ble_eq_true rfl) ?_
        obtain ⟨x10, ex10, h⟩ := ltE h
        rw [← ex10]
        refine ex_istore (L2 := [some (.ref 151), some (.ref a1), some (.int a2), some (.int (M a1 3)), some (.int x10), none, none]) dX0_fewestStalls_52 (by decide) rfl ?_
        refine ex_aload_n dX0_fewestStalls_54 rfl ?_
        refine mx_getr 0 152 dX0_fewestStalls_55 fl_X0_11 oc_at_151 (rf_0_0 oc_at_151) ?_
        refine ex_iconst 0 dX0_fewestStalls_58 kI_0 ?_
        refine ex_iconst 0 dX0_fewestStalls_59 kI_0 ?_
        obtain ⟨M11, eM11, h⟩ := ltE h
        refine mx_iast M11 dX0_fewestStalls_60 ((wrc_152_0 _ _).trans (congrArg some eM11.symm)) ?_
        refine ex_aload_n dX0_fewestStalls_61 rfl ?_
        refine mx_getr 0 153 dX0_fewestStalls_62 fl_X0_15 oc_at_151 (rf_0_1 oc_at_151) ?_
        refine ex_iconst 0 dX0_fewestStalls_65 kI_0 ?_
        refine ex_iload_n dX0_fewestStalls_66 rfl ?_
        obtain ⟨M12, eM12, h⟩ := ltE h
        refine mx_iast M12 dX0_fewestStalls_67 ((wrc_153_0 _ _).trans (congrArg some eM12.symm)) ?_
        refine ex_iconst 1 dX0_fewestStalls_68 kI_1 ?_
        refine ex_istore (L2 := [some (.ref 151), some (.ref a1), some (.int a2), some (.int (M a1 3)), some (.int x10), some (.int 1), none]) dX0_fewestStalls_69 (by decide) rfl ?_
        refine ex_mskL [true, true, true, true, true, true, false] (L2 := [some (.ref 151), some (.ref a1), some (.int a2), some (.int (M a1 3)), some (.int x10), some (.int 1), none]) rfl ?_
        obtain ⟨q24, hlq24, h⟩ := b1E h
        have hx : XM l E (RX0, "fewestStalls", cX0_fewestStalls, 7) (some .int) 2 139 [some (.ref 151), none, none, none, some (.int x10), none, none] [] q24 M' (some (.int r)) := by
          refine ex_aload_n dX0_fewestStalls_139 rfl ?_
          refine mx_getr 0 152 dX0_fewestStalls_140 fl_X0_11 oc_at_151 (rf_0_0 oc_at_151) ?_
          refine ex_iload dX0_fewestStalls_143 rfl ?_
          refine ex_iconst 1 dX0_fewestStalls_145 kI_1 ?_
          refine ex_isub dX0_fewestStalls_146 ?_
          obtain ⟨x25, qx25, h⟩ := b1E h
          refine mx_iald x25 dX0_fewestStalls_147 qx25 ?_
          cases h
          exact mx_reti .int dX0_fewestStalls_148 ⟨rfl, rfl⟩
        clear h
        have key : ∀ (k : Nat) (s : Int32 × Mem), lp (fun s => w_X0_fewestStalls_71 a1 a2 M x10 s.1 s.2) k s = some q24 → XM l E (RX0, "fewestStalls", cX0_fewestStalls, 7) (some .int) 2 71 [some (.ref 151), some (.ref a1), some (.int a2), some (.int (M a1 3)), some (.int x10), some (.int s.1), none] [] s.2 M' (some (.int r)) := lp_ind (P := fun (s : Int32 × Mem) => XM l E (RX0, "fewestStalls", cX0_fewestStalls, 7) (some .int) 2 71 [some (.ref 151), some (.ref a1), some (.int a2), some (.int (M a1 3)), some (.int x10), some (.int s.1), none] [] s.2 M' (some (.int r))) (fun s t hb hk he => by
          obtain ⟨i13, M14⟩ := s
          show XM l E (RX0, "fewestStalls", cX0_fewestStalls, 7) (some .int) 2 71 [some (.ref 151), some (.ref a1), some (.int a2), some (.int (M a1 3)), some (.int x10), some (.int i13), none] [] M14 M' (some (.int r))
          change w_X0_fewestStalls_71 a1 a2 M x10 i13 M14 = some t at hb
          unfold w_X0_fewestStalls_71 at hb
          refine ex_iload dX0_fewestStalls_71 rfl ?_
          refine ex_iload dX0_fewestStalls_73 rfl ?_
          refine ex_icmp_ge 139 dX0_fewestStalls_75 (by decide) (fun c15 => ?_) (fun c15 => ?_)
          · rw [if_pos c15] at hb
            refine ex_mskL [true, false, false, false, true, false, false] (L2 := [some (.ref 151), none, none, none, some (.int x10), none, none]) rfl ?_
            cases hb
            cases (he _ rfl) <;> exact hx
          · rw [if_neg c15] at hb
            refine ex_aload_n dX0_fewestStalls_78 rfl ?_
            refine mx_getr 0 152 dX0_fewestStalls_79 fl_X0_11 oc_at_151 (rf_0_0 oc_at_151) ?_
            refine ex_iload dX0_fewestStalls_82 rfl ?_
            refine ex_ldc 1000000 dX0_fewestStalls_84 (tb (i := 1133) (by decide +kernel)) ?_
            obtain ⟨M16, qM16, hb⟩ := b1E hb
            refine mx_iast M16 dX0_fewestStalls_86 qM16 ?_
            refine ex_iconst 0 dX0_fewestStalls_87 kI_0 ?_
            refine ex_istore (L2 := [some (.ref 151), some (.ref a1), some (.int a2), some (.int (M a1 3)), some (.int x10), some (.int i13), some (.int 0)]) dX0_fewestStalls_88 (by decide) rfl ?_
            refine ex_mskL [true, true, true, true, true, true, true] (L2 := [some (.ref 151), some (.ref a1), some (.int a2), some (.int (M a1 3)), some (.int x10), some (.int i13), some (.int 0)]) rfl ?_
            obtain ⟨q23, hlq23, hb⟩ := b1E hb
            have hx : XM l E (RX0, "fewestStalls", cX0_fewestStalls, 7) (some .int) 2 133 [some (.ref 151), some (.ref a1), some (.int a2), some (.int (M a1 3)), some (.int x10), some (.int i13), none] [] q23 M' (some (.int r)) := by
              refine ex_iinc 1 (L2 := [some (.ref 151), some (.ref a1), some (.int a2), some (.int (M a1 3)), some (.int x10), some (.int (i13 + 1)), none]) dX0_fewestStalls_133 rfl kI_1 (by decide) rfl ?_
              refine ex_goto 71 dX0_fewestStalls_136 (by decide) ?_
              refine ex_mskL [true, true, true, true, true, true, false] (L2 := [some (.ref 151), some (.ref a1), some (.int a2), some (.int (M a1 3)), some (.int x10), some (.int (i13 + 1)), none]) rfl ?_
              cases hb
              exact hk ((i13 + 1), q23) rfl
            clear hb
            have key : ∀ (k : Nat) (s : Int32 × Mem), lp (fun s => w_X0_fewestStalls_90 a1 a2 M i13 s.1 s.2) k s = some q23 → XM l E (RX0, "fewestStalls", cX0_fewestStalls, 7) (some .int) 2 90 [some (.ref 151), some (.ref a1), some (.int a2), some (.int (M a1 3)), some (.int x10), some (.int i13), some (.int s.1)] [] s.2 M' (some (.int r)) := lp_ind (P := fun (s : Int32 × Mem) => XM l E (RX0, "fewestStalls", cX0_fewestStalls, 7) (some .int) 2 90 [some (.ref 151), some (.ref a1), some (.int a2), some (.int (M a1 3)), some (.int x10), some (.int i13), some (.int s.1)] [] s.2 M' (some (.int r))) (fun s t hb hk he => by
              obtain ⟨i17, M18⟩ := s
              show XM l E (RX0, "fewestStalls", cX0_fewestStalls, 7) (some .int) 2 90 [some (.ref 151), some (.ref a1), some (.int a2), some (.int (M a1 3)), some (.int x10), some (.int i13), some (.int i17)] [] M18 M' (some (.int r))
              change w_X0_fewestStalls_90 a1 a2 M i13 i17 M18 = some t at hb
              unfold w_X0_fewestStalls_90 at hb
              refine ex_iload dX0_fewestStalls_90 rfl ?_
              refine ex_iload_n dX0_fewestStalls_92 rfl ?_
              refine ex_icmp_ge 133 dX0_fewestStalls_93 (by decide) (fun c19 => ?_) (fun c19 => ?_)
              · rw [if_pos c19] at hb
                refine ex_mskL [true, true, true, true, true, true, false] (L2 := [some (.ref 151), some (.ref a1), some (.int a2), some (.int (M a1 3)), some (.int x10), some (.int i13), none]) rfl ?_
                cases hb
                cases (he _ rfl) <;> exact hx
              · rw [if_neg c19] at hb
                refine ex_iload dX0_fewestStalls_96 rfl ?_
                refine ex_iload dX0_fewestStalls_98 rfl ?_
                refine mx_cSi [.int i13, .int i17] [] (f_X10_isIn i13 i17) dX0_fewestStalls_100 cl_X0_37 sm_X10_isIn rfl (Nat.le_of_ble_eq_true rfl) (by decide) (t_X10_isIn l E i13 i17 M18 rfl) ?_
                refine ex_if_eq 127 dX0_fewestStalls_103 (by decide) (fun c20 => ?_) (fun c20 => ?_)
                · rw [if_pos c20] at hb
                  refine ex_iinc 1 (L2 := [some (.ref 151), some (.ref a1), some (.int a2), some (.int (M a1 3)), some (.int x10), some (.int i13), some (.int (i17 + 1))]) dX0_fewestStalls_127 rfl kI_1 (by decide) rfl ?_
                  refine ex_goto 90 dX0_fewestStalls_130 (by decide) ?_
                  refine ex_mskL [true, true, true, true, true, true, true] (L2 := [some (.ref 151), some (.ref a1), some (.int a2), some (.int (M a1 3)), some (.int x10), some (.int i13), some (.int (i17 + 1))]) rfl ?_
                  cases hb
                  exact hk ((i17 + 1), M18) rfl
                · rw [if_neg c20] at hb
                  refine ex_aload_n dX0_fewestStalls_106 rfl ?_
                  refine ex_iload dX0_fewestStalls_107 rfl ?_
                  refine ex_iload dX0_fewestStalls_109 rfl ?_
                  refine ex_iconst 1 dX0_fewestStalls_111 kI_1 ?_
                  refine ex_iload dX0_fewestStalls_112 rfl ?_
                  refine ex_ishl dX0_fewestStalls_114 ?_
                  refine ex_ixor dX0_fewestStalls_115 ?_
                  refine ex_aload_n dX0_fewestStalls_116 rfl ?_
                  refine ex_iload dX0_fewestStalls_117 rfl ?_
                  refine ex_iconst 1 dX0_fewestStalls_119 kI_1 ?_
                  obtain ⟨x21, qx21, hb⟩ := b1E hb
                  refine mx_cVi [.int i17, .int 1] [.int (i13 ^^^ (1 <<< (i17 &&& 31))), .int i13, .ref 151] a1 8 x21 dX0_fewestStalls_120 cl_X0_27 im_X8_at cy_X8_at ha1 rfl (Nat.le_of_ble_eq_true rfl) (by decide) (t_X8_at l E a1 i17 1 ha1 M18 qx21) ?_
                  refine ex_iload_n dX0_fewestStalls_123 rfl ?_
                  obtain ⟨M22, qM22, hb⟩ := b1E hb
                  refine mx_cVv [.int i13, .int (i13 ^^^ (1 <<< (i17 &&& 31))), .int x21, .int a2] [] 151 0 dX0_fewestStalls_124 cl_X0_41 im_X0_layLast cy_X0_layLast oc_at_151 rfl (Nat.le_of_ble_eq_true rfl) (by decide) (t_X0_layLast l E i13 (i13 ^^^ (1 <<< (i17 &&& 31))) x21 a2 M18 qM22) ?_
                  refine ex_iinc 1 (L2 := [some (.ref 151), some (.ref a1), some (.int a2), some (.int (M a1 3)), some (.int x10), some (.int i13), some (.int (i17 + 1))]) dX0_fewestStalls_127 rfl kI_1 (by decide) rfl ?_
                  refine ex_goto 90 dX0_fewestStalls_130 (by decide) ?_
                  refine ex_mskL [true, true, true, true, true, true, true] (L2 := [some (.ref 151), some (.ref a1), some (.int a2), some (.int (M a1 3)), some (.int x10), some (.int i13), some (.int (i17 + 1))]) rfl ?_
                  cases hb
                  exact hk ((i17 + 1), M22) rfl)
            exact key FU (0, M16) hlq23)
        exact key FU (1, M12) hlq24
      clear h
      have key : ∀ (k : Nat) (s : Int32), lp (fun s => w_X0_fewestStalls_16 a1 a2 M s) k s = some (.inr ()) → XM l E (RX0, "fewestStalls", cX0_fewestStalls, 7) (some .int) 2 16 [some (.ref 151), some (.ref a1), some (.int a2), some (.int (M a1 3)), some (.int s), none, none] [] M M' (some (.int r)) := lp_ind (P := fun (s : Int32) => XM l E (RX0, "fewestStalls", cX0_fewestStalls, 7) (some .int) 2 16 [some (.ref 151), some (.ref a1), some (.int a2), some (.int (M a1 3)), some (.int s), none, none] [] M M' (some (.int r))) (fun s t hb hk he => by
        revert hb hk he; generalize s = i2; intro hb hk he
        show XM l E (RX0, "fewestStalls", cX0_fewestStalls, 7) (some .int) 2 16 [some (.ref 151), some (.ref a1), some (.int a2), some (.int (M a1 3)), some (.int i2), none, none] [] M M' (some (.int r))
        change w_X0_fewestStalls_16 a1 a2 M i2 = some t at hb
        unfold w_X0_fewestStalls_16 at hb
        refine ex_iload dX0_fewestStalls_16 rfl ?_
        refine ex_iload_n dX0_fewestStalls_18 rfl ?_
        refine ex_icmp_ge 41 dX0_fewestStalls_19 (by decide) (fun c3 => ?_) (fun c3 => ?_)
        · rw [if_pos c3] at hb
          refine ex_mskL [true, true, true, true, false, false, false] (L2 := [some (.ref 151), some (.ref a1), some (.int a2), some (.int (M a1 3)), none, none, none]) rfl ?_
          cases hb
          cases (he _ rfl) <;> exact hx
        · rw [if_neg c3] at hb
          refine ex_aload_n dX0_fewestStalls_22 rfl ?_
          refine ex_iload dX0_fewestStalls_23 rfl ?_
          refine ex_iconst 1 dX0_fewestStalls_25 kI_1 ?_
          obtain ⟨x4, qx4, hb⟩ := b1E hb
          refine mx_cVi [.int i2, .int 1] [] a1 8 x4 dX0_fewestStalls_26 cl_X0_27 im_X8_at cy_X8_at ha1 rfl (Nat.le_of_ble_eq_true rfl) (by decide) (t_X8_at l E a1 i2 1 ha1 M qx4) ?_
          refine ex_iload_n dX0_fewestStalls_29 rfl ?_
          refine ex_icmp_le 35 dX0_fewestStalls_30 (by decide) (fun c5 => ?_) (fun c5 => ?_)
          · rw [if_pos c5] at hb
            refine ex_iinc 1 (L2 := [some (.ref 151), some (.ref a1), some (.int a2), some (.int (M a1 3)), some (.int (i2 + 1)), none, none]) dX0_fewestStalls_35 rfl kI_1 (by decide) rfl ?_
            refine ex_goto 16 dX0_fewestStalls_38 (by decide) ?_
            refine ex_mskL [true, true, true, true, true, false, false] (L2 := [some (.ref 151), some (.ref a1), some (.int a2), some (.int (M a1 3)), some (.int (i2 + 1)), none, none]) rfl ?_
            cases hb
            exact hk (i2 + 1) rfl
          · rw [if_neg c5] at hb
            refine ex_mskL [false, false, false, false, false, false, false] (L2 := [none, none, none, none, none, none, none]) rfl ?_
            cases hb
            cases (he _ rfl) <;> exact hx)
      exact key FU 0 hlq6
  · rw [if_neg c1] at h
    refine ex_iconst (-1) dX0_fewestStalls_11 kI_m1 ?_
    cases h
    exact mx_reti .int dX0_fewestStalls_12 ⟨rfl, rfl⟩
def w_X6_sizesOfKind_4 (o : Nat) (a1 : Int32) (M : Mem) (i1 : Int32) (i2 : Int32) : Option ((Int32 × Int32) ⊕ (Int32)) :=
  if (M (o + 9) 3) ≤ i2 then (some (.inr i1)) else (b1 (f_X8_at (o + 9) i2 0 M) fun x4 => if x4 = a1 then (b1 (f_X8_at (o + 9) i2 1 M) fun x6 => some (.inl ((i1 + x6), (i2 + 1)))) else (some (.inl (i1, (i2 + 1)))))
def f_X6_sizesOfKind (o : Nat) (a1 : Int32) (M : Mem) : Option (Int32) :=
  b1 (lp (fun s => w_X6_sizesOfKind_4 o a1 M s.1 s.2) FU (0, 0)) fun q7 => some q7
set_option maxRecDepth 100000 in
set_option maxHeartbeats 4000000 in
theorem t_X6_sizesOfKind (l : Launch) (E : EV) (o : Nat) (a1 : Int32) (ho : oc o = some 6) (M : Mem) {r : Int32} (h : f_X6_sizesOfKind o a1 M = some r) : RunM l E yX6_sizesOfKind cX6_sizesOfKind 4 (some .int) 2 [.ref o, .int a1] M M (some (.int r)) := by
  refine RunM.of (by decide) (Nat.le_of_ble_eq_true rfl) ?_
  show XM l E (RX6, "sizesOfKind", cX6_sizesOfKind, 4) (some .int) 2 0 [some (.ref o), some (.int a1), none, none] [] M M (some (.int r))
  unfold f_X6_sizesOfKind at h
  refine ex_iconst 0 dX6_sizesOfKind_0 kI_0 ?_
  refine ex_istore_n (L2 := [some (.ref o), some (.int a1), some (.int 0), none]) dX6_sizesOfKind_1 (by decide) rfl ?_
  refine ex_iconst 0 dX6_sizesOfKind_2 kI_0 ?_
  refine ex_istore_n (L2 := [some (.ref o), some (.int a1), some (.int 0), some (.int 0)]) dX6_sizesOfKind_3 (by decide) rfl ?_
  refine ex_mskL [true, true, true, true] (L2 := [some (.ref o), some (.int a1), some (.int 0), some (.int 0)]) rfl ?_
  obtain ⟨q7, hlq7, h⟩ := b1E h
  have hx : XM l E (RX6, "sizesOfKind", cX6_sizesOfKind, 4) (some .int) 2 46 [none, none, some (.int q7), none] [] M M (some (.int r)) := by
    refine ex_iload_n dX6_sizesOfKind_46 rfl ?_
    cases h
    exact mx_reti .int dX6_sizesOfKind_47 ⟨rfl, rfl⟩
  clear h
  have key : ∀ (k : Nat) (s : Int32 × Int32), lp (fun s => w_X6_sizesOfKind_4 o a1 M s.1 s.2) k s = some q7 → XM l E (RX6, "sizesOfKind", cX6_sizesOfKind, 4) (some .int) 2 4 [some (.ref o), some (.int a1), some (.int s.1), some (.int s.2)] [] M M (some (.int r)) := lp_ind (P := fun (s : Int32 × Int32) => XM l E (RX6, "sizesOfKind", cX6_sizesOfKind, 4) (some .int) 2 4 [some (.ref o), some (.int a1), some (.int s.1), some (.int s.2)] [] M M (some (.int r))) (fun s t hb hk he => by
    obtain ⟨i1, i2⟩ := s
    show XM l E (RX6, "sizesOfKind", cX6_sizesOfKind, 4) (some .int) 2 4 [some (.ref o), some (.int a1), some (.int i1), some (.int i2)] [] M M (some (.int r))
    change w_X6_sizesOfKind_4 o a1 M i1 i2 = some t at hb
    unfold w_X6_sizesOfKind_4 at hb
    refine ex_iload_n dX6_sizesOfKind_4 rfl ?_
    refine ex_aload_n dX6_sizesOfKind_5 rfl ?_
    refine mx_getr 6 (o + 9) dX6_sizesOfKind_6 fl_X6_29 ho (rf_6_4 ho) ?_
    refine mx_geti 8 dX6_sizesOfKind_9 fl_X6_116 (oc_6_4 ho) (isi_8_3 (oc_6_4 ho)) ?_
    refine ex_icmp_ge 46 dX6_sizesOfKind_12 (by decide) (fun c3 => ?_) (fun c3 => ?_)
    · rw [if_pos c3] at hb
      refine ex_mskL [false, false, true, false] (L2 := [none, none, some (.int i1), none]) rfl ?_
      cases hb
      cases (he _ rfl) <;> exact hx
    · rw [if_neg c3] at hb
      refine ex_aload_n dX6_sizesOfKind_15 rfl ?_
      refine mx_getr 6 (o + 9) dX6_sizesOfKind_16 fl_X6_29 ho (rf_6_4 ho) ?_
      refine ex_iload_n dX6_sizesOfKind_19 rfl ?_
      refine ex_iconst 0 dX6_sizesOfKind_20 kI_0 ?_
      obtain ⟨x4, qx4, hb⟩ := b1E hb
      refine mx_cVi [.int i2, .int 0] [] (o + 9) 8 x4 dX6_sizesOfKind_21 cl_X6_90 im_X8_at cy_X8_at (oc_6_4 ho) rfl (Nat.le_of_ble_eq_true rfl) (by decide) (t_X8_at l E (o + 9) i2 0 (oc_6_4 ho) M qx4) ?_
      refine ex_iload_n dX6_sizesOfKind_24 rfl ?_
      refine ex_icmp_ne 40 dX6_sizesOfKind_25 (by decide) (fun c5 => ?_) (fun c5 => ?_)
      · rw [if_neg c5] at hb
        refine ex_iinc 1 (L2 := [some (.ref o), some (.int a1), some (.int i1), some (.int (i2 + 1))]) dX6_sizesOfKind_40 rfl kI_1 (by decide) rfl ?_
        refine ex_goto 4 dX6_sizesOfKind_43 (by decide) ?_
        refine ex_mskL [true, true, true, true] (L2 := [some (.ref o), some (.int a1), some (.int i1), some (.int (i2 + 1))]) rfl ?_
        cases hb
        exact hk (i1, (i2 + 1)) rfl
      · rw [if_pos c5] at hb
        refine ex_iload_n dX6_sizesOfKind_28 rfl ?_
        refine ex_aload_n dX6_sizesOfKind_29 rfl ?_
        refine mx_getr 6 (o + 9) dX6_sizesOfKind_30 fl_X6_29 ho (rf_6_4 ho) ?_
        refine ex_iload_n dX6_sizesOfKind_33 rfl ?_
        refine ex_iconst 1 dX6_sizesOfKind_34 kI_1 ?_
        obtain ⟨x6, qx6, hb⟩ := b1E hb
        refine mx_cVi [.int i2, .int 1] [.int i1] (o + 9) 8 x6 dX6_sizesOfKind_35 cl_X6_90 im_X8_at cy_X8_at (oc_6_4 ho) rfl (Nat.le_of_ble_eq_true rfl) (by decide) (t_X8_at l E (o + 9) i2 1 (oc_6_4 ho) M qx6) ?_
        refine ex_iadd dX6_sizesOfKind_38 ?_
        refine ex_istore_n (L2 := [some (.ref o), some (.int a1), some (.int (i1 + x6)), some (.int i2)]) dX6_sizesOfKind_39 (by decide) rfl ?_
        refine ex_iinc 1 (L2 := [some (.ref o), some (.int a1), some (.int (i1 + x6)), some (.int (i2 + 1))]) dX6_sizesOfKind_40 rfl kI_1 (by decide) rfl ?_
        refine ex_goto 4 dX6_sizesOfKind_43 (by decide) ?_
        refine ex_mskL [true, true, true, true] (L2 := [some (.ref o), some (.int a1), some (.int (i1 + x6)), some (.int (i2 + 1))]) rfl ?_
        cases hb
        exact hk ((i1 + x6), (i2 + 1)) rfl)
  exact key FU (0, 0) hlq7
def w_X0_canCook_2 (a1 : Nat) (a2 : Int32) (M : Mem) (i1 : Int32) : Option ((Int32) ⊕ ((Unit) ⊕ (Unit))) :=
  if 6 ≤ i1 then (some (.inr (.inr ()))) else (b1 (f_X8_at a1 a2 (1 + i1) M) fun x3 => b1 (rd M 154 i1) fun x4 => if x3 ≤ x4 then (some (.inl (i1 + 1))) else (some (.inr (.inl ()))))
def f_X0_canCook (a1 : Nat) (a2 : Int32) (M : Mem) : Option (Int32) :=
  b1 (lp (fun s => w_X0_canCook_2 a1 a2 M s) FU 0) fun q6 => match q6 with | .inl u7 => (some 0) | .inr u8 => (some 1)
set_option maxRecDepth 100000 in
set_option maxHeartbeats 4000000 in
theorem t_X0_canCook (l : Launch) (E : EV) (a1 : Nat) (a2 : Int32) (ha1 : oc a1 = some 8) (M : Mem) {r : Int32} (h : f_X0_canCook a1 a2 M = some r) : RunM l E yX0_canCook cX0_canCook 4 (some .boolean) 2 [.ref 151, .ref a1, .int a2] M M (some (.int r)) := by
  refine RunM.of (by decide) (Nat.le_of_ble_eq_true rfl) ?_
  show XM l E (RX0, "canCook", cX0_canCook, 4) (some .boolean) 2 0 [some (.ref 151), some (.ref a1), some (.int a2), none] [] M M (some (.int r))
  unfold f_X0_canCook at h
  refine ex_iconst 0 dX0_canCook_0 kI_0 ?_
  refine ex_istore_n (L2 := [some (.ref 151), some (.ref a1), some (.int a2), some (.int 0)]) dX0_canCook_1 (by decide) rfl ?_
  refine ex_mskL [true, true, true, true] (L2 := [some (.ref 151), some (.ref a1), some (.int a2), some (.int 0)]) rfl ?_
  obtain ⟨q6, hlq6, h⟩ := b1E h
  rcases q6 with ⟨⟩ | ⟨⟩
  · dsimp only at h
    have hx : XM l E (RX0, "canCook", cX0_canCook, 4) (some .boolean) 2 25 [none, none, none, none] [] M M (some (.int r)) := by
      refine ex_iconst 0 dX0_canCook_25 kI_0 ?_
      cases h
      exact mx_reti .boolean dX0_canCook_26 ⟨rfl, by decide⟩
    clear h
    have key : ∀ (k : Nat) (s : Int32), lp (fun s => w_X0_canCook_2 a1 a2 M s) k s = some (.inl ()) → XM l E (RX0, "canCook", cX0_canCook, 4) (some .boolean) 2 2 [some (.ref 151), some (.ref a1), some (.int a2), some (.int s)] [] M M (some (.int r)) := lp_ind (P := fun (s : Int32) => XM l E (RX0, "canCook", cX0_canCook, 4) (some .boolean) 2 2 [some (.ref 151), some (.ref a1), some (.int a2), some (.int s)] [] M M (some (.int r))) (fun s t hb hk he => by
      revert hb hk he; generalize s = i1; intro hb hk he
      show XM l E (RX0, "canCook", cX0_canCook, 4) (some .boolean) 2 2 [some (.ref 151), some (.ref a1), some (.int a2), some (.int i1)] [] M M (some (.int r))
      change w_X0_canCook_2 a1 a2 M i1 = some t at hb
      unfold w_X0_canCook_2 at hb
      refine ex_iload_n dX0_canCook_2 rfl ?_
      refine ex_bipush 6 dX0_canCook_3 kB_6 ?_
      refine ex_icmp_ge 33 dX0_canCook_5 (by decide) (fun c2 => ?_) (fun c2 => ?_)
      · rw [if_pos c2] at hb
        refine ex_mskL [false, false, false, false] (L2 := [none, none, none, none]) rfl ?_
        cases hb
        cases (he _ rfl) <;> exact hx
      · rw [if_neg c2] at hb
        refine ex_aload_n dX0_canCook_8 rfl ?_
        refine ex_iload_n dX0_canCook_9 rfl ?_
        refine ex_iconst 1 dX0_canCook_10 kI_1 ?_
        refine ex_iload_n dX0_canCook_11 rfl ?_
        refine ex_iadd dX0_canCook_12 ?_
        obtain ⟨x3, qx3, hb⟩ := b1E hb
        refine mx_cVi [.int a2, .int (1 + i1)] [] a1 8 x3 dX0_canCook_13 cl_X0_27 im_X8_at cy_X8_at ha1 rfl (Nat.le_of_ble_eq_true rfl) (by decide) (t_X8_at l E a1 a2 (1 + i1) ha1 M qx3) ?_
        refine ex_aload_n dX0_canCook_16 rfl ?_
        refine mx_getr 0 154 dX0_canCook_17 fl_X0_18 oc_at_151 (rf_0_2 oc_at_151) ?_
        refine ex_iload_n dX0_canCook_20 rfl ?_
        obtain ⟨x4, qx4, hb⟩ := b1E hb
        refine mx_iald x4 dX0_canCook_21 qx4 ?_
        refine ex_icmp_le 27 dX0_canCook_22 (by decide) (fun c5 => ?_) (fun c5 => ?_)
        · rw [if_pos c5] at hb
          refine ex_iinc 1 (L2 := [some (.ref 151), some (.ref a1), some (.int a2), some (.int (i1 + 1))]) dX0_canCook_27 rfl kI_1 (by decide) rfl ?_
          refine ex_goto 2 dX0_canCook_30 (by decide) ?_
          refine ex_mskL [true, true, true, true] (L2 := [some (.ref 151), some (.ref a1), some (.int a2), some (.int (i1 + 1))]) rfl ?_
          cases hb
          exact hk (i1 + 1) rfl
        · rw [if_neg c5] at hb
          refine ex_mskL [false, false, false, false] (L2 := [none, none, none, none]) rfl ?_
          cases hb
          cases (he _ rfl) <;> exact hx)
    exact key FU 0 hlq6
  · dsimp only at h
    have hx : XM l E (RX0, "canCook", cX0_canCook, 4) (some .boolean) 2 33 [none, none, none, none] [] M M (some (.int r)) := by
      refine ex_iconst 1 dX0_canCook_33 kI_1 ?_
      cases h
      exact mx_reti .boolean dX0_canCook_34 ⟨rfl, by decide⟩
    clear h
    have key : ∀ (k : Nat) (s : Int32), lp (fun s => w_X0_canCook_2 a1 a2 M s) k s = some (.inr ()) → XM l E (RX0, "canCook", cX0_canCook, 4) (some .boolean) 2 2 [some (.ref 151), some (.ref a1), some (.int a2), some (.int s)] [] M M (some (.int r)) := lp_ind (P := fun (s : Int32) => XM l E (RX0, "canCook", cX0_canCook, 4) (some .boolean) 2 2 [some (.ref 151), some (.ref a1), some (.int a2), some (.int s)] [] M M (some (.int r))) (fun s t hb hk he => by
      revert hb hk he; generalize s = i1; intro hb hk he
      show XM l E (RX0, "canCook", cX0_canCook, 4) (some .boolean) 2 2 [some (.ref 151), some (.ref a1), some (.int a2), some (.int i1)] [] M M (some (.int r))
      change w_X0_canCook_2 a1 a2 M i1 = some t at hb
      unfold w_X0_canCook_2 at hb
      refine ex_iload_n dX0_canCook_2 rfl ?_
      refine ex_bipush 6 dX0_canCook_3 kB_6 ?_
      refine ex_icmp_ge 33 dX0_canCook_5 (by decide) (fun c2 => ?_) (fun c2 => ?_)
      · rw [if_pos c2] at hb
        refine ex_mskL [false, false, false, false] (L2 := [none, none, none, none]) rfl ?_
        cases hb
        cases (he _ rfl) <;> exact hx
      · rw [if_neg c2] at hb
        refine ex_aload_n dX0_canCook_8 rfl ?_
        refine ex_iload_n dX0_canCook_9 rfl ?_
        refine ex_iconst 1 dX0_canCook_10 kI_1 ?_
        refine ex_iload_n dX0_canCook_11 rfl ?_
        refine ex_iadd dX0_canCook_12 ?_
        obtain ⟨x3, qx3, hb⟩ := b1E hb
        refine mx_cVi [.int a2, .int (1 + i1)] [] a1 8 x3 dX0_canCook_13 cl_X0_27 im_X8_at cy_X8_at ha1 rfl (Nat.le_of_ble_eq_true rfl) (by decide) (t_X8_at l E a1 a2 (1 + i1) ha1 M qx3) ?_
        refine ex_aload_n dX0_canCook_16 rfl ?_
        refine mx_getr 0 154 dX0_canCook_17 fl_X0_18 oc_at_151 (rf_0_2 oc_at_151) ?_
        refine ex_iload_n dX0_canCook_20 rfl ?_
        obtain ⟨x4, qx4, hb⟩ := b1E hb
        refine mx_iald x4 dX0_canCook_21 qx4 ?_
        refine ex_icmp_le 27 dX0_canCook_22 (by decide) (fun c5 => ?_) (fun c5 => ?_)
        · rw [if_pos c5] at hb
          refine ex_iinc 1 (L2 := [some (.ref 151), some (.ref a1), some (.int a2), some (.int (i1 + 1))]) dX0_canCook_27 rfl kI_1 (by decide) rfl ?_
          refine ex_goto 2 dX0_canCook_30 (by decide) ?_
          refine ex_mskL [true, true, true, true] (L2 := [some (.ref 151), some (.ref a1), some (.int a2), some (.int (i1 + 1))]) rfl ?_
          cases hb
          exact hk (i1 + 1) rfl
        · rw [if_neg c5] at hb
          refine ex_mskL [false, false, false, false] (L2 := [none, none, none, none]) rfl ?_
          cases hb
          cases (he _ rfl) <;> exact hx)
    exact key FU 0 hlq6
def w_X0_use_3 (a1 : Nat) (a2 : Int32) (a3 : Int32) (i1 : Int32) (M2 : Mem) : Option ((Int32 × Mem) ⊕ (Mem)) :=
  if 6 ≤ i1 then (some (.inr M2)) else (b1 (rd M2 154 i1) fun x4 => b1 (f_X8_at a1 a2 (1 + i1) M2) fun x5 => b1 (wr M2 154 i1 (x4 - (a3 * x5))) fun M6 => some (.inl ((i1 + 1), M6)))
def f_X0_use (a1 : Nat) (a2 : Int32) (a3 : Int32) (M : Mem) : Option (Mem) :=
  b1 (lp (fun s => w_X0_use_3 a1 a2 a3 s.1 s.2) FU (0, M)) fun q7 => some q7
set_option maxRecDepth 100000 in
set_option maxHeartbeats 4000000 in
theorem t_X0_use (l : Launch) (E : EV) (a1 : Nat) (a2 : Int32) (a3 : Int32) (ha1 : oc a1 = some 8) (M : Mem) {M' : Mem} (h : f_X0_use a1 a2 a3 M = some M') : RunM l E yX0_use cX0_use 5 none 2 [.ref 151, .ref a1, .int a2, .int a3] M M' none := by
  refine RunM.of (by decide) (Nat.le_of_ble_eq_true rfl) ?_
  show XM l E (RX0, "use", cX0_use, 5) none 2 0 [some (.ref 151), some (.ref a1), some (.int a2), some (.int a3), none] [] M M' none
  unfold f_X0_use at h
  refine ex_iconst 0 dX0_use_0 kI_0 ?_
  refine ex_istore (L2 := [some (.ref 151), some (.ref a1), some (.int a2), some (.int a3), some (.int 0)]) dX0_use_1 (by decide) rfl ?_
  refine ex_mskL [true, true, true, true, true] (L2 := [some (.ref 151), some (.ref a1), some (.int a2), some (.int a3), some (.int 0)]) rfl ?_
  obtain ⟨q7, hlq7, h⟩ := b1E h
  have hx : XM l E (RX0, "use", cX0_use, 5) none 2 37 [none, none, none, none, none] [] q7 M' none := by
    cases h
    exact mx_retv dX0_use_37 rfl
  clear h
  have key : ∀ (k : Nat) (s : Int32 × Mem), lp (fun s => w_X0_use_3 a1 a2 a3 s.1 s.2) k s = some q7 → XM l E (RX0, "use", cX0_use, 5) none 2 3 [some (.ref 151), some (.ref a1), some (.int a2), some (.int a3), some (.int s.1)] [] s.2 M' none := lp_ind (P := fun (s : Int32 × Mem) => XM l E (RX0, "use", cX0_use, 5) none 2 3 [some (.ref 151), some (.ref a1), some (.int a2), some (.int a3), some (.int s.1)] [] s.2 M' none) (fun s t hb hk he => by
    obtain ⟨i1, M2⟩ := s
    show XM l E (RX0, "use", cX0_use, 5) none 2 3 [some (.ref 151), some (.ref a1), some (.int a2), some (.int a3), some (.int i1)] [] M2 M' none
    change w_X0_use_3 a1 a2 a3 i1 M2 = some t at hb
    unfold w_X0_use_3 at hb
    refine ex_iload dX0_use_3 rfl ?_
    refine ex_bipush 6 dX0_use_5 kB_6 ?_
    refine ex_icmp_ge 37 dX0_use_7 (by decide) (fun c3 => ?_) (fun c3 => ?_)
    · rw [if_pos c3] at hb
      refine ex_mskL [false, false, false, false, false] (L2 := [none, none, none, none, none]) rfl ?_
      cases hb
      cases (he _ rfl) <;> exact hx
    · rw [if_neg c3] at hb
      refine ex_aload_n dX0_use_10 rfl ?_
      refine mx_getr 0 154 dX0_use_11 fl_X0_18 oc_at_151 (rf_0_2 oc_at_151) ?_
      refine ex_iload dX0_use_14 rfl ?_
      refine ex_dup2 dX0_use_16 rfl rfl ?_
      obtain ⟨x4, qx4, hb⟩ := b1E hb
      refine mx_iald x4 dX0_use_17 qx4 ?_
      refine ex_iload_n dX0_use_18 rfl ?_
      refine ex_aload_n dX0_use_19 rfl ?_
      refine ex_iload_n dX0_use_20 rfl ?_
      refine ex_iconst 1 dX0_use_21 kI_1 ?_
      refine ex_iload dX0_use_22 rfl ?_
      refine ex_iadd dX0_use_24 ?_
      obtain ⟨x5, qx5, hb⟩ := b1E hb
      refine mx_cVi [.int a2, .int (1 + i1)] [.int a3, .int x4, .int i1, .ref 154] a1 8 x5 dX0_use_25 cl_X0_27 im_X8_at cy_X8_at ha1 rfl (Nat.le_of_ble_eq_true rfl) (by decide) (t_X8_at l E a1 a2 (1 + i1) ha1 M2 qx5) ?_
      refine ex_imul dX0_use_28 ?_
      refine ex_isub dX0_use_29 ?_
      obtain ⟨M6, qM6, hb⟩ := b1E hb
      refine mx_iast M6 dX0_use_30 qM6 ?_
      refine ex_iinc 1 (L2 := [some (.ref 151), some (.ref a1), some (.int a2), some (.int a3), some (.int (i1 + 1))]) dX0_use_31 rfl kI_1 (by decide) rfl ?_
      refine ex_goto 3 dX0_use_34 (by decide) ?_
      refine ex_mskL [true, true, true, true, true] (L2 := [some (.ref 151), some (.ref a1), some (.int a2), some (.int a3), some (.int (i1 + 1))]) rfl ?_
      cases hb
      exact hk ((i1 + 1), M6) rfl)
  exact key FU (0, M) hlq7
def F_X0_cookFrom (r_X0_cookFrom : Nat → Int32 → Int32 → Int32 → Int32 → Mem → Option (Mem)) (a1 : Nat) (a2 : Int32) (a3 : Int32) (a4 : Int32) (a5 : Int32) (M : Mem) : Option (Mem) :=
  if (M 151 3) ≤ (a4 + a3) then (if (a2 < 0 ∨ ¬ (a2 < 12)) then (lt (up2 M 151 3 a4) fun M5 => lt (up2 M5 151 4 a5) fun M6 => some M6) else (b1 (f_X8_at a1 a2 0 M) fun x7 => b1 (f_X0_canCook a1 a2 M) fun x8 => if x8 = 0 then (b1 (r_X0_cookFrom a1 (a2 - 1) (a3 - x7) a4 a5 M) fun M10 => some M10) else (b1 (f_X0_use a1 a2 1 M) fun M11 => b1 (r_X0_cookFrom a1 (a2 - 1) (a3 - x7) (a4 + x7) (a5 ||| (1 <<< (a2 &&& 31))) M11) fun M12 => b1 (f_X0_use a1 a2 (-1) M12) fun M13 => b1 (r_X0_cookFrom a1 (a2 - 1) (a3 - x7) a4 a5 M13) fun M14 => some M14))) else (some M)
set_option maxRecDepth 100000 in
set_option maxHeartbeats 4000000 in
theorem T_X0_cookFrom (l : Launch) (E : EV) (n : Nat) (r_X0_cookFrom : Nat → Int32 → Int32 → Int32 → Int32 → Mem → Option (Mem)) (h_X0_cookFrom : ∀ (a1 : Nat) (a2 : Int32) (a3 : Int32) (a4 : Int32) (a5 : Int32) (ha1 : oc a1 = some 8) (M : Mem) {M' : Mem}, r_X0_cookFrom a1 a2 a3 a4 a5 M = some M' → RunM l E yX0_cookFrom cX0_cookFrom 7 none (n + 3) [.ref 151, .ref a1, .int a2, .int a3, .int a4, .int a5] M M' none) (a1 : Nat) (a2 : Int32) (a3 : Int32) (a4 : Int32) (a5 : Int32) (ha1 : oc a1 = some 8) (M : Mem) {M' : Mem} (h : F_X0_cookFrom r_X0_cookFrom a1 a2 a3 a4 a5 M = some M') : RunM l E yX0_cookFrom cX0_cookFrom 7 none (n + 4) [.ref 151, .ref a1, .int a2, .int a3, .int a4, .int a5] M M' none := by
  refine RunM.of (by decide) (Nat.le_of_ble_eq_true rfl) ?_
  show XM l E (RX0, "cookFrom", cX0_cookFrom, 7) none (n + 4) 0 [some (.ref 151), some (.ref a1), some (.int a2), some (.int a3), some (.int a4), some (.int a5), none] [] M M' none
  unfold F_X0_cookFrom at h
  refine ex_iload dX0_cookFrom_0 rfl ?_
  refine ex_iload_n dX0_cookFrom_2 rfl ?_
  refine ex_iadd dX0_cookFrom_3 ?_
  refine ex_aload_n dX0_cookFrom_4 rfl ?_
  refine mx_geti 0 dX0_cookFrom_5 fl_X0_55 oc_at_151 (isi_0_3 oc_at_151) ?_
  refine ex_icmp_ge 12 dX0_cookFrom_8 (by decide) (fun c1 => ?_) (fun c1 => ?_)
  · rw [if_pos c1] at h
    refine ex_iload_n dX0_cookFrom_12 rfl ?_
    have JXC4 : (a2 < 0 ∨ ¬ (a2 < 12)) → XM l E (RX0, "cookFrom", cX0_cookFrom, 7) none (n + 4) 22 [some (.ref 151), some (.ref a1), some (.int a2), some (.int a3), some (.int a4), some (.int a5), none] [] M M' none := fun C4 => by
      rw [if_pos C4] at h
      refine ex_aload_n dX0_cookFrom_22 rfl ?_
      refine ex_iload dX0_cookFrom_23 rfl ?_
      obtain ⟨M5, eM5, h⟩ := ltE h
      refine mx_puti 0 dX0_cookFrom_25 fl_X0_55 rfl ⟨rfl, rfl⟩ oc_at_151 (isi_0_3 oc_at_151) ?_
      rw [← eM5]
      refine ex_aload_n dX0_cookFrom_28 rfl ?_
      refine ex_iload dX0_cookFrom_29 rfl ?_
      obtain ⟨M6, eM6, h⟩ := ltE h
      refine mx_puti 0 dX0_cookFrom_31 fl_X0_58 rfl ⟨rfl, rfl⟩ oc_at_151 (isi_0_4 oc_at_151) ?_
      rw [← eM6]
      cases h
      exact mx_retv dX0_cookFrom_34 rfl
    have JYC4 : ¬ ((a2 < 0 ∨ ¬ (a2 < 12))) → XM l E (RX0, "cookFrom", cX0_cookFrom, 7) none (n + 4) 38 [some (.ref 151), some (.ref a1), some (.int a2), some (.int a3), some (.int a4), some (.int a5), none] [.int 0, .int a2, .ref a1] M M' none := fun C4 => by
      rw [if_neg C4] at h
      obtain ⟨x7, qx7, h⟩ := b1E h
      refine mx_cVi [.int a2, .int 0] [] a1 8 x7 dX0_cookFrom_38 cl_X0_27 im_X8_at cy_X8_at ha1 rfl (Nat.le_of_ble_eq_true rfl) (by omega) (t_X8_at l E a1 a2 0 ha1 M qx7) ?_
      refine ex_istore (L2 := [some (.ref 151), some (.ref a1), some (.int a2), some (.int a3), some (.int a4), some (.int a5), some (.int x7)]) dX0_cookFrom_41 (by decide) rfl ?_
      refine ex_aload_n dX0_cookFrom_43 rfl ?_
      refine ex_aload_n dX0_cookFrom_44 rfl ?_
      refine ex_iload_n dX0_cookFrom_45 rfl ?_
      obtain ⟨x8, qx8, h⟩ := b1E h
      refine mx_cVi [.ref a1, .int a2] [] 151 0 x8 dX0_cookFrom_46 cl_X0_65 im_X0_canCook cy_X0_canCook oc_at_151 rfl (Nat.le_of_ble_eq_true rfl) (by omega) (t_X0_canCook l E a1 a2 ha1 M qx8) ?_
      refine ex_if_eq 89 dX0_cookFrom_49 (by decide) (fun c9 => ?_) (fun c9 => ?_)
      · rw [if_pos c9] at h
        refine ex_aload_n dX0_cookFrom_89 rfl ?_
        refine ex_aload_n dX0_cookFrom_90 rfl ?_
        refine ex_iload_n dX0_cookFrom_91 rfl ?_
        refine ex_iconst 1 dX0_cookFrom_92 kI_1 ?_
        refine ex_isub dX0_cookFrom_93 ?_
        refine ex_iload_n dX0_cookFrom_94 rfl ?_
        refine ex_iload dX0_cookFrom_95 rfl ?_
        refine ex_isub dX0_cookFrom_97 ?_
        refine ex_iload dX0_cookFrom_98 rfl ?_
        refine ex_iload dX0_cookFrom_100 rfl ?_
        obtain ⟨M10, qM10, h⟩ := b1E h
        refine mx_cVv [.ref a1, .int (a2 - 1), .int (a3 - x7), .int a4, .int a5] [] 151 0 dX0_cookFrom_102 cl_X0_61 im_X0_cookFrom cy_X0_cookFrom oc_at_151 rfl (Nat.le_of_ble_eq_true rfl) (by omega) (h_X0_cookFrom a1 (a2 - 1) (a3 - x7) a4 a5 ha1 M qM10) ?_
        cases h
        exact mx_retv dX0_cookFrom_105 rfl
      · rw [if_neg c9] at h
        refine ex_aload_n dX0_cookFrom_52 rfl ?_
        refine ex_aload_n dX0_cookFrom_53 rfl ?_
        refine ex_iload_n dX0_cookFrom_54 rfl ?_
        refine ex_iconst 1 dX0_cookFrom_55 kI_1 ?_
        obtain ⟨M11, qM11, h⟩ := b1E h
        refine mx_cVv [.ref a1, .int a2, .int 1] [] 151 0 dX0_cookFrom_56 cl_X0_69 im_X0_use cy_X0_use oc_at_151 rfl (Nat.le_of_ble_eq_true rfl) (by omega) (t_X0_use l E a1 a2 1 ha1 M qM11) ?_
        refine ex_aload_n dX0_cookFrom_59 rfl ?_
        refine ex_aload_n dX0_cookFrom_60 rfl ?_
        refine ex_iload_n dX0_cookFrom_61 rfl ?_
        refine ex_iconst 1 dX0_cookFrom_62 kI_1 ?_
        refine ex_isub dX0_cookFrom_63 ?_
        refine ex_iload_n dX0_cookFrom_64 rfl ?_
        refine ex_iload dX0_cookFrom_65 rfl ?_
        refine ex_isub dX0_cookFrom_67 ?_
        refine ex_iload dX0_cookFrom_68 rfl ?_
        refine ex_iload dX0_cookFrom_70 rfl ?_
        refine ex_iadd dX0_cookFrom_72 ?_
        refine ex_iload dX0_cookFrom_73 rfl ?_
        refine ex_iconst 1 dX0_cookFrom_75 kI_1 ?_
        refine ex_iload_n dX0_cookFrom_76 rfl ?_
        refine ex_ishl dX0_cookFrom_77 ?_
        refine ex_ior dX0_cookFrom_78 ?_
        obtain ⟨M12, qM12, h⟩ := b1E h
        refine mx_cVv [.ref a1, .int (a2 - 1), .int (a3 - x7), .int (a4 + x7), .int (a5 ||| (1 <<< (a2 &&& 31)))] [] 151 0 dX0_cookFrom_79 cl_X0_61 im_X0_cookFrom cy_X0_cookFrom oc_at_151 rfl (Nat.le_of_ble_eq_true rfl) (by omega) (h_X0_cookFrom a1 (a2 - 1) (a3 - x7) (a4 + x7) (a5 ||| (1 <<< (a2 &&& 31))) ha1 M11 qM12) ?_
        refine ex_aload_n dX0_cookFrom_82 rfl ?_
        refine ex_aload_n dX0_cookFrom_83 rfl ?_
        refine ex_iload_n dX0_cookFrom_84 rfl ?_
        refine ex_iconst (-1) dX0_cookFrom_85 kI_m1 ?_
        obtain ⟨M13, qM13, h⟩ := b1E h
        refine mx_cVv [.ref a1, .int a2, .int (-1)] [] 151 0 dX0_cookFrom_86 cl_X0_69 im_X0_use cy_X0_use oc_at_151 rfl (Nat.le_of_ble_eq_true rfl) (by omega) (t_X0_use l E a1 a2 (-1) ha1 M12 qM13) ?_
        refine ex_aload_n dX0_cookFrom_89 rfl ?_
        refine ex_aload_n dX0_cookFrom_90 rfl ?_
        refine ex_iload_n dX0_cookFrom_91 rfl ?_
        refine ex_iconst 1 dX0_cookFrom_92 kI_1 ?_
        refine ex_isub dX0_cookFrom_93 ?_
        refine ex_iload_n dX0_cookFrom_94 rfl ?_
        refine ex_iload dX0_cookFrom_95 rfl ?_
        refine ex_isub dX0_cookFrom_97 ?_
        refine ex_iload dX0_cookFrom_98 rfl ?_
        refine ex_iload dX0_cookFrom_100 rfl ?_
        obtain ⟨M14, qM14, h⟩ := b1E h
        refine mx_cVv [.ref a1, .int (a2 - 1), .int (a3 - x7), .int a4, .int a5] [] 151 0 dX0_cookFrom_102 cl_X0_61 im_X0_cookFrom cy_X0_cookFrom oc_at_151 rfl (Nat.le_of_ble_eq_true rfl) (by omega) (h_X0_cookFrom a1 (a2 - 1) (a3 - x7) a4 a5 ha1 M13 qM14) ?_
        cases h
        exact mx_retv dX0_cookFrom_105 rfl
    clear h
    refine ex_if_lt 22 dX0_cookFrom_13 (by decide) (fun c2 => ?_) (fun c2 => ?_)
    · exact JXC4 (Or.inl c2)
    · refine ex_iload_n dX0_cookFrom_16 rfl ?_
      refine ex_bipush 12 dX0_cookFrom_17 kB_12 ?_
      refine ex_icmp_lt 35 dX0_cookFrom_19 (by decide) (fun c3 => ?_) (fun c3 => ?_)
      · refine ex_aload_n dX0_cookFrom_35 rfl ?_
        refine ex_iload_n dX0_cookFrom_36 rfl ?_
        refine ex_iconst 0 dX0_cookFrom_37 kI_0 ?_
        exact JYC4 (fun z => z.elim c2 (fun z => z c3))
      · exact JXC4 (Or.inr c3)
  · rw [if_neg c1] at h
    cases h
    exact mx_retv dX0_cookFrom_11 rfl
def gr_X0_cookFrom : Nat → (Nat → Int32 → Int32 → Int32 → Int32 → Mem → Option (Mem))
  | 0 => (fun _ _ _ _ _ _ => none)
  | n + 1 => (F_X0_cookFrom (gr_X0_cookFrom n))
def f_X0_cookFrom (n : Nat) (a1 : Nat) (a2 : Int32) (a3 : Int32) (a4 : Int32) (a5 : Int32) (M : Mem) : Option (Mem) := (gr_X0_cookFrom n) a1 a2 a3 a4 a5 M
theorem tg_X0_cookFrom (l : Launch) (E : EV) : ∀ n : Nat, (∀ (a1 : Nat) (a2 : Int32) (a3 : Int32) (a4 : Int32) (a5 : Int32) (ha1 : oc a1 = some 8) (M : Mem) {M' : Mem}, f_X0_cookFrom n a1 a2 a3 a4 a5 M = some M' → RunM l E yX0_cookFrom cX0_cookFrom 7 none (n + 3) [.ref 151, .ref a1, .int a2, .int a3, .int a4, .int a5] M M' none)
  | 0 => (by intros; rename_i h; cases h)
  | n + 1 => by
    have ih := tg_X0_cookFrom l E n
    refine ?_
    intro a1 a2 a3 a4 a5 ha1 M M' h
    exact T_X0_cookFrom l E n _ ih a1 a2 a3 a4 a5 ha1 M h
theorem t_X0_cookFrom (l : Launch) (E : EV) (n : Nat) (a1 : Nat) (a2 : Int32) (a3 : Int32) (a4 : Int32) (a5 : Int32) (ha1 : oc a1 = some 8) (M : Mem) {M' : Mem} (h : f_X0_cookFrom n a1 a2 a3 a4 a5 M = some M') : RunM l E yX0_cookFrom cX0_cookFrom 7 none (n + 3) [.ref 151, .ref a1, .int a2, .int a3, .int a4, .int a5] M M' none := (tg_X0_cookFrom l E n) a1 a2 a3 a4 a5 ha1 M h
def w_X0_cook_2 (a1 : Nat) (i1 : Int32) (M2 : Mem) : Option ((Int32 × Mem) ⊕ (Mem)) :=
  if 6 ≤ i1 then (some (.inr M2)) else (b1 (f_X6_sizesOfKind a1 i1 M2) fun x4 => b1 (wr M2 154 i1 x4) fun M5 => some (.inl ((i1 + 1), M5)))
def w_X0_cook_29 (a1 : Nat) (q6 : Mem) (i7 : Int32) (i8 : Int32) : Option ((Int32 × Int32) ⊕ (Int32)) :=
  if (q6 (a1 + 7) 3) ≤ i8 then (some (.inr i7)) else (b1 (f_X8_at (a1 + 7) i8 0 q6) fun x10 => some (.inl ((i7 + x10), (i8 + 1))))
def f_X0_cook (a1 : Nat) (M : Mem) : Option (Mem) :=
  b1 (lp (fun s => w_X0_cook_2 a1 s.1 s.2) FU (0, M)) fun q6 => b1 (lp (fun s => w_X0_cook_29 a1 q6 s.1 s.2) FU (0, 0)) fun q11 => lt (up2 q6 151 3 0) fun M12 => lt (up2 M12 151 4 0) fun M13 => b1 (f_X0_cookFrom 40 (a1 + 7) ((M13 (a1 + 7) 3) - 1) q11 0 0 M13) fun M14 => some M14
set_option maxRecDepth 100000 in
set_option maxHeartbeats 4000000 in
theorem t_X0_cook (l : Launch) (E : EV) (a1 : Nat) (ha1 : oc a1 = some 6) (M : Mem) {M' : Mem} (h : f_X0_cook a1 M = some M') : RunM l E yX0_cook cX0_cook 4 none 44 [.ref 151, .ref a1] M M' none := by
  refine RunM.of (by decide) (Nat.le_of_ble_eq_true rfl) ?_
  show XM l E (RX0, "cook", cX0_cook, 4) none 44 0 [some (.ref 151), some (.ref a1), none, none] [] M M' none
  unfold f_X0_cook at h
  refine ex_iconst 0 dX0_cook_0 kI_0 ?_
  refine ex_istore_n (L2 := [some (.ref 151), some (.ref a1), some (.int 0), none]) dX0_cook_1 (by decide) rfl ?_
  refine ex_mskL [true, true, true, false] (L2 := [some (.ref 151), some (.ref a1), some (.int 0), none]) rfl ?_
  obtain ⟨q6, hlq6, h⟩ := b1E h
  have hx : XM l E (RX0, "cook", cX0_cook, 4) none 44 25 [some (.ref 151), some (.ref a1), none, none] [] q6 M' none := by
    refine ex_iconst 0 dX0_cook_25 kI_0 ?_
    refine ex_istore_n (L2 := [some (.ref 151), some (.ref a1), some (.int 0), none]) dX0_cook_26 (by decide) rfl ?_
    refine ex_iconst 0 dX0_cook_27 kI_0 ?_
    refine ex_istore_n (L2 := [some (.ref 151), some (.ref a1), some (.int 0), some (.int 0)]) dX0_cook_28 (by decide) rfl ?_
    refine ex_mskL [true, true, true, true] (L2 := [some (.ref 151), some (.ref a1), some (.int 0), some (.int 0)]) rfl ?_
    obtain ⟨q11, hlq11, h⟩ := b1E h
    have hx : XM l E (RX0, "cook", cX0_cook, 4) none 44 58 [some (.ref 151), some (.ref a1), some (.int q11), none] [] q6 M' none := by
      refine ex_aload_n dX0_cook_58 rfl ?_
      refine ex_iconst 0 dX0_cook_59 kI_0 ?_
      obtain ⟨M12, eM12, h⟩ := ltE h
      refine mx_puti 0 dX0_cook_60 fl_X0_55 rfl ⟨rfl, rfl⟩ oc_at_151 (isi_0_3 oc_at_151) ?_
      rw [← eM12]
      refine ex_aload_n dX0_cook_63 rfl ?_
      refine ex_iconst 0 dX0_cook_64 kI_0 ?_
      obtain ⟨M13, eM13, h⟩ := ltE h
      refine mx_puti 0 dX0_cook_65 fl_X0_58 rfl ⟨rfl, rfl⟩ oc_at_151 (isi_0_4 oc_at_151) ?_
      rw [← eM13]
      refine ex_aload_n dX0_cook_68 rfl ?_
      refine ex_aload_n dX0_cook_69 rfl ?_
      refine mx_getr 6 (a1 + 7) dX0_cook_70 fl_X0_51 ha1 (rf_6_3 ha1) ?_
      refine ex_aload_n dX0_cook_73 rfl ?_
      refine mx_getr 6 (a1 + 7) dX0_cook_74 fl_X0_51 ha1 (rf_6_3 ha1) ?_
      refine mx_geti 8 dX0_cook_77 fl_X0_21 (oc_6_3 ha1) (isi_8_3 (oc_6_3 ha1)) ?_
      refine ex_iconst 1 dX0_cook_80 kI_1 ?_
      refine ex_isub dX0_cook_81 ?_
      refine ex_iload_n dX0_cook_82 rfl ?_
      refine ex_iconst 0 dX0_cook_83 kI_0 ?_
      refine ex_iconst 0 dX0_cook_84 kI_0 ?_
      obtain ⟨M14, qM14, h⟩ := b1E h
      refine mx_cVv [.ref (a1 + 7), .int ((M13 (a1 + 7) 3) - 1), .int q11, .int 0, .int 0] [] 151 0 dX0_cook_85 cl_X0_61 im_X0_cookFrom cy_X0_cookFrom oc_at_151 rfl (Nat.le_of_ble_eq_true rfl) (by decide) (t_X0_cookFrom l E 40 (a1 + 7) ((M13 (a1 + 7) 3) - 1) q11 0 0 (oc_6_3 ha1) M13 qM14) ?_
      cases h
      exact mx_retv dX0_cook_88 rfl
    clear h
    have key : ∀ (k : Nat) (s : Int32 × Int32), lp (fun s => w_X0_cook_29 a1 q6 s.1 s.2) k s = some q11 → XM l E (RX0, "cook", cX0_cook, 4) none 44 29 [some (.ref 151), some (.ref a1), some (.int s.1), some (.int s.2)] [] q6 M' none := lp_ind (P := fun (s : Int32 × Int32) => XM l E (RX0, "cook", cX0_cook, 4) none 44 29 [some (.ref 151), some (.ref a1), some (.int s.1), some (.int s.2)] [] q6 M' none) (fun s t hb hk he => by
      obtain ⟨i7, i8⟩ := s
      show XM l E (RX0, "cook", cX0_cook, 4) none 44 29 [some (.ref 151), some (.ref a1), some (.int i7), some (.int i8)] [] q6 M' none
      change w_X0_cook_29 a1 q6 i7 i8 = some t at hb
      unfold w_X0_cook_29 at hb
      refine ex_iload_n dX0_cook_29 rfl ?_
      refine ex_aload_n dX0_cook_30 rfl ?_
      refine mx_getr 6 (a1 + 7) dX0_cook_31 fl_X0_51 ha1 (rf_6_3 ha1) ?_
      refine mx_geti 8 dX0_cook_34 fl_X0_21 (oc_6_3 ha1) (isi_8_3 (oc_6_3 ha1)) ?_
      refine ex_icmp_ge 58 dX0_cook_37 (by decide) (fun c9 => ?_) (fun c9 => ?_)
      · rw [if_pos c9] at hb
        refine ex_mskL [true, true, true, false] (L2 := [some (.ref 151), some (.ref a1), some (.int i7), none]) rfl ?_
        cases hb
        cases (he _ rfl) <;> exact hx
      · rw [if_neg c9] at hb
        refine ex_iload_n dX0_cook_40 rfl ?_
        refine ex_aload_n dX0_cook_41 rfl ?_
        refine mx_getr 6 (a1 + 7) dX0_cook_42 fl_X0_51 ha1 (rf_6_3 ha1) ?_
        refine ex_iload_n dX0_cook_45 rfl ?_
        refine ex_iconst 0 dX0_cook_46 kI_0 ?_
        obtain ⟨x10, qx10, hb⟩ := b1E hb
        refine mx_cVi [.int i8, .int 0] [.int i7] (a1 + 7) 8 x10 dX0_cook_47 cl_X0_27 im_X8_at cy_X8_at (oc_6_3 ha1) rfl (Nat.le_of_ble_eq_true rfl) (by decide) (t_X8_at l E (a1 + 7) i8 0 (oc_6_3 ha1) q6 qx10) ?_
        refine ex_iadd dX0_cook_50 ?_
        refine ex_istore_n (L2 := [some (.ref 151), some (.ref a1), some (.int (i7 + x10)), some (.int i8)]) dX0_cook_51 (by decide) rfl ?_
        refine ex_iinc 1 (L2 := [some (.ref 151), some (.ref a1), some (.int (i7 + x10)), some (.int (i8 + 1))]) dX0_cook_52 rfl kI_1 (by decide) rfl ?_
        refine ex_goto 29 dX0_cook_55 (by decide) ?_
        refine ex_mskL [true, true, true, true] (L2 := [some (.ref 151), some (.ref a1), some (.int (i7 + x10)), some (.int (i8 + 1))]) rfl ?_
        cases hb
        exact hk ((i7 + x10), (i8 + 1)) rfl)
    exact key FU (0, 0) hlq11
  clear h
  have key : ∀ (k : Nat) (s : Int32 × Mem), lp (fun s => w_X0_cook_2 a1 s.1 s.2) k s = some q6 → XM l E (RX0, "cook", cX0_cook, 4) none 44 2 [some (.ref 151), some (.ref a1), some (.int s.1), none] [] s.2 M' none := lp_ind (P := fun (s : Int32 × Mem) => XM l E (RX0, "cook", cX0_cook, 4) none 44 2 [some (.ref 151), some (.ref a1), some (.int s.1), none] [] s.2 M' none) (fun s t hb hk he => by
    obtain ⟨i1, M2⟩ := s
    show XM l E (RX0, "cook", cX0_cook, 4) none 44 2 [some (.ref 151), some (.ref a1), some (.int i1), none] [] M2 M' none
    change w_X0_cook_2 a1 i1 M2 = some t at hb
    unfold w_X0_cook_2 at hb
    refine ex_iload_n dX0_cook_2 rfl ?_
    refine ex_bipush 6 dX0_cook_3 kB_6 ?_
    refine ex_icmp_ge 25 dX0_cook_5 (by decide) (fun c3 => ?_) (fun c3 => ?_)
    · rw [if_pos c3] at hb
      refine ex_mskL [true, true, false, false] (L2 := [some (.ref 151), some (.ref a1), none, none]) rfl ?_
      cases hb
      cases (he _ rfl) <;> exact hx
    · rw [if_neg c3] at hb
      refine ex_aload_n dX0_cook_8 rfl ?_
      refine mx_getr 0 154 dX0_cook_9 fl_X0_18 oc_at_151 (rf_0_2 oc_at_151) ?_
      refine ex_iload_n dX0_cook_12 rfl ?_
      refine ex_aload_n dX0_cook_13 rfl ?_
      refine ex_iload_n dX0_cook_14 rfl ?_
      obtain ⟨x4, qx4, hb⟩ := b1E hb
      refine mx_cVi [.int i1] [.int i1, .ref 154] a1 6 x4 dX0_cook_15 cl_X0_45 im_X6_sizesOfKind cy_X6_sizesOfKind ha1 rfl (Nat.le_of_ble_eq_true rfl) (by decide) (t_X6_sizesOfKind l E a1 i1 ha1 M2 qx4) ?_
      obtain ⟨M5, qM5, hb⟩ := b1E hb
      refine mx_iast M5 dX0_cook_18 qM5 ?_
      refine ex_iinc 1 (L2 := [some (.ref 151), some (.ref a1), some (.int (i1 + 1)), none]) dX0_cook_19 rfl kI_1 (by decide) rfl ?_
      refine ex_goto 2 dX0_cook_22 (by decide) ?_
      refine ex_mskL [true, true, true, false] (L2 := [some (.ref 151), some (.ref a1), some (.int (i1 + 1)), none]) rfl ?_
      cases hb
      exact hk ((i1 + 1), M5) rfl)
  exact key FU (0, M) hlq6
def w_X1_addFalling_5 (o : Nat) (a1 : Int32) (i1 : Int32) (M2 : Mem) : Option ((Int32 × Mem) ⊕ (Int32 × Mem)) :=
  if (i1 ≤ 0 ∨ 14 ≤ i1) then (some (.inr (i1, M2))) else (b1 (rd M2 (o + 3) (i1 - 1)) fun x6 => if a1 ≤ x6 then (some (.inr (i1, M2))) else (b1 (rd M2 (o + 3) (i1 - 1)) fun x8 => b1 (wr M2 (o + 3) i1 x8) fun M9 => some (.inl ((i1 + (-1)), M9))))
def f_X1_addFalling (o : Nat) (a1 : Int32) (M : Mem) : Option (Mem) :=
  b1 (lp (fun s => w_X1_addFalling_5 o a1 s.1 s.2) FU ((M o 3), M)) fun q10 => if 14 ≤ q10.1 then (some q10.2) else (b1 (wr q10.2 (o + 3) q10.1 a1) fun M14 => some M14)
set_option maxRecDepth 100000 in
set_option maxHeartbeats 4000000 in
theorem t_X1_addFalling (l : Launch) (E : EV) (o : Nat) (a1 : Int32) (ho : oc o = some 1) (M : Mem) {M' : Mem} (h : f_X1_addFalling o a1 M = some M') : RunM l E yX1_addFalling cX1_addFalling 3 none 0 [.ref o, .int a1] M M' none := by
  refine RunM.of (by decide) (Nat.le_of_ble_eq_true rfl) ?_
  show XM l E (RX1, "addFalling", cX1_addFalling, 3) none 0 0 [some (.ref o), some (.int a1), none] [] M M' none
  unfold f_X1_addFalling at h
  refine ex_aload_n dX1_addFalling_0 rfl ?_
  refine mx_geti 1 dX1_addFalling_1 fl_X1_44 ho (isi_1_3 ho) ?_
  refine ex_istore_n (L2 := [some (.ref o), some (.int a1), some (.int (M o 3))]) dX1_addFalling_4 (by decide) rfl ?_
  refine ex_mskL [true, true, true] (L2 := [some (.ref o), some (.int a1), some (.int (M o 3))]) rfl ?_
  obtain ⟨q10, hlq10, h⟩ := b1E h
  obtain ⟨y11, M12⟩ := q10
  dsimp only at h
  have hx : XM l E (RX1, "addFalling", cX1_addFalling, 3) none 0 47 [some (.ref o), some (.int a1), some (.int y11)] [] M12 M' none := by
    refine ex_iload_n dX1_addFalling_47 rfl ?_
    refine ex_bipush 14 dX1_addFalling_48 kB_14 ?_
    refine ex_icmp_ge 60 dX1_addFalling_50 (by decide) (fun c13 => ?_) (fun c13 => ?_)
    · rw [if_pos c13] at h
      cases h
      exact mx_retv dX1_addFalling_60 rfl
    · rw [if_neg c13] at h
      refine ex_aload_n dX1_addFalling_53 rfl ?_
      refine mx_getr 1 (o + 3) dX1_addFalling_54 fl_X1_18 ho (rf_1_2 ho) ?_
      refine ex_iload_n dX1_addFalling_57 rfl ?_
      refine ex_iload_n dX1_addFalling_58 rfl ?_
      obtain ⟨M14, qM14, h⟩ := b1E h
      refine mx_iast M14 dX1_addFalling_59 qM14 ?_
      cases h
      exact mx_retv dX1_addFalling_60 rfl
  clear h
  have key : ∀ (k : Nat) (s : Int32 × Mem), lp (fun s => w_X1_addFalling_5 o a1 s.1 s.2) k s = some (y11, M12) → XM l E (RX1, "addFalling", cX1_addFalling, 3) none 0 5 [some (.ref o), some (.int a1), some (.int s.1)] [] s.2 M' none := lp_ind (P := fun (s : Int32 × Mem) => XM l E (RX1, "addFalling", cX1_addFalling, 3) none 0 5 [some (.ref o), some (.int a1), some (.int s.1)] [] s.2 M' none) (fun s t hb hk he => by
    obtain ⟨i1, M2⟩ := s
    show XM l E (RX1, "addFalling", cX1_addFalling, 3) none 0 5 [some (.ref o), some (.int a1), some (.int i1)] [] M2 M' none
    change w_X1_addFalling_5 o a1 i1 M2 = some t at hb
    unfold w_X1_addFalling_5 at hb
    refine ex_iload_n dX1_addFalling_5 rfl ?_
    have JXC5 : (i1 ≤ 0 ∨ 14 ≤ i1) → XM l E (RX1, "addFalling", cX1_addFalling, 3) none 0 47 [some (.ref o), some (.int a1), some (.int i1)] [] M2 M' none := fun C5 => by
      rw [if_pos C5] at hb
      refine ex_mskL [true, true, true] (L2 := [some (.ref o), some (.int a1), some (.int i1)]) rfl ?_
      cases hb
      cases (he _ rfl) <;> exact hx
    have JYC5 : ¬ ((i1 ≤ 0 ∨ 14 ≤ i1)) → XM l E (RX1, "addFalling", cX1_addFalling, 3) none 0 22 [some (.ref o), some (.int a1), some (.int i1)] [.int (i1 - 1), .ref (o + 3)] M2 M' none := fun C5 => by
      rw [if_neg C5] at hb
      obtain ⟨x6, qx6, hb⟩ := b1E hb
      refine mx_iald x6 dX1_addFalling_22 qx6 ?_
      refine ex_iload_n dX1_addFalling_23 rfl ?_
      refine ex_icmp_ge 47 dX1_addFalling_24 (by decide) (fun c7 => ?_) (fun c7 => ?_)
      · rw [if_pos c7] at hb
        refine ex_mskL [true, true, true] (L2 := [some (.ref o), some (.int a1), some (.int i1)]) rfl ?_
        cases hb
        cases (he _ rfl) <;> exact hx
      · rw [if_neg c7] at hb
        refine ex_aload_n dX1_addFalling_27 rfl ?_
        refine mx_getr 1 (o + 3) dX1_addFalling_28 fl_X1_18 ho (rf_1_2 ho) ?_
        refine ex_iload_n dX1_addFalling_31 rfl ?_
        refine ex_aload_n dX1_addFalling_32 rfl ?_
        refine mx_getr 1 (o + 3) dX1_addFalling_33 fl_X1_18 ho (rf_1_2 ho) ?_
        refine ex_iload_n dX1_addFalling_36 rfl ?_
        refine ex_iconst 1 dX1_addFalling_37 kI_1 ?_
        refine ex_isub dX1_addFalling_38 ?_
        obtain ⟨x8, qx8, hb⟩ := b1E hb
        refine mx_iald x8 dX1_addFalling_39 qx8 ?_
        obtain ⟨M9, qM9, hb⟩ := b1E hb
        refine mx_iast M9 dX1_addFalling_40 qM9 ?_
        refine ex_iinc (-1) (L2 := [some (.ref o), some (.int a1), some (.int (i1 + (-1)))]) dX1_addFalling_41 rfl kI_m1 (by decide) rfl ?_
        refine ex_goto 5 dX1_addFalling_44 (by decide) ?_
        refine ex_mskL [true, true, true] (L2 := [some (.ref o), some (.int a1), some (.int (i1 + (-1)))]) rfl ?_
        cases hb
        exact hk ((i1 + (-1)), M9) rfl
    clear hb
    refine ex_if_le 47 dX1_addFalling_6 (by decide) (fun c3 => ?_) (fun c3 => ?_)
    · exact JXC5 (Or.inl c3)
    · refine ex_iload_n dX1_addFalling_9 rfl ?_
      refine ex_bipush 14 dX1_addFalling_10 kB_14 ?_
      refine ex_icmp_ge 47 dX1_addFalling_12 (by decide) (fun c4 => ?_) (fun c4 => ?_)
      · exact JXC5 (Or.inr c4)
      · refine ex_aload_n dX1_addFalling_15 rfl ?_
        refine mx_getr 1 (o + 3) dX1_addFalling_16 fl_X1_18 ho (rf_1_2 ho) ?_
        refine ex_iload_n dX1_addFalling_19 rfl ?_
        refine ex_iconst 1 dX1_addFalling_20 kI_1 ?_
        refine ex_isub dX1_addFalling_21 ?_
        exact JYC5 (fun z => z.elim c3 c4))
  exact key FU ((M o 3), M) hlq10
def w_X1_gather_7 (o : Nat) (a1 : Nat) (a2 : Int32) (i2 : Int32) (M3 : Mem) : Option ((Int32 × Mem) ⊕ (Mem)) :=
  if ((M3 a1 3) ≤ i2 ∨ 14 ≤ (M3 o 3)) then (some (.inr M3)) else (b1 (f_X8_at a1 i2 0 M3) fun x7 => if x7 = a2 then (b1 (wr M3 (o + 1) (M3 o 3) i2) fun M9 => b1 (f_X8_at a1 i2 1 M9) fun x10 => b1 (wr M9 (o + 2) (M9 o 3) x10) fun M11 => b1 (rd M11 (o + 2) (M11 o 3)) fun x12 => b1 (f_X1_addFalling o x12 M11) fun M13 => lt (up2 M13 o 3 ((M13 o 3) + 1)) fun M14 => some (.inl ((i2 + 1), M14))) else (some (.inl ((i2 + 1), M3))))
def f_X1_gather (o : Nat) (a1 : Nat) (a2 : Int32) (M : Mem) : Option (Mem) :=
  lt (up2 M o 3 0) fun M1 => b1 (lp (fun s => w_X1_gather_7 o a1 a2 s.1 s.2) FU (0, M1)) fun q15 => some q15
set_option maxRecDepth 100000 in
set_option maxHeartbeats 4000000 in
theorem t_X1_gather (l : Launch) (E : EV) (o : Nat) (a1 : Nat) (a2 : Int32) (ho : oc o = some 1) (ha1 : oc a1 = some 8) (M : Mem) {M' : Mem} (h : f_X1_gather o a1 a2 M = some M') : RunM l E yX1_gather cX1_gather 4 none 2 [.ref o, .ref a1, .int a2] M M' none := by
  refine RunM.of (by decide) (Nat.le_of_ble_eq_true rfl) ?_
  show XM l E (RX1, "gather", cX1_gather, 4) none 2 0 [some (.ref o), some (.ref a1), some (.int a2), none] [] M M' none
  unfold f_X1_gather at h
  refine ex_aload_n dX1_gather_0 rfl ?_
  refine ex_iconst 0 dX1_gather_1 kI_0 ?_
  obtain ⟨M1, eM1, h⟩ := ltE h
  refine mx_puti 1 dX1_gather_2 fl_X1_44 rfl ⟨rfl, rfl⟩ ho (isi_1_3 ho) ?_
  rw [← eM1]
  refine ex_iconst 0 dX1_gather_5 kI_0 ?_
  refine ex_istore_n (L2 := [some (.ref o), some (.ref a1), some (.int a2), some (.int 0)]) dX1_gather_6 (by decide) rfl ?_
  refine ex_mskL [true, true, true, true] (L2 := [some (.ref o), some (.ref a1), some (.int a2), some (.int 0)]) rfl ?_
  obtain ⟨q15, hlq15, h⟩ := b1E h
  have hx : XM l E (RX1, "gather", cX1_gather, 4) none 2 88 [none, none, none, none] [] q15 M' none := by
    cases h
    exact mx_retv dX1_gather_88 rfl
  clear h
  have key : ∀ (k : Nat) (s : Int32 × Mem), lp (fun s => w_X1_gather_7 o a1 a2 s.1 s.2) k s = some q15 → XM l E (RX1, "gather", cX1_gather, 4) none 2 7 [some (.ref o), some (.ref a1), some (.int a2), some (.int s.1)] [] s.2 M' none := lp_ind (P := fun (s : Int32 × Mem) => XM l E (RX1, "gather", cX1_gather, 4) none 2 7 [some (.ref o), some (.ref a1), some (.int a2), some (.int s.1)] [] s.2 M' none) (fun s t hb hk he => by
    obtain ⟨i2, M3⟩ := s
    show XM l E (RX1, "gather", cX1_gather, 4) none 2 7 [some (.ref o), some (.ref a1), some (.int a2), some (.int i2)] [] M3 M' none
    change w_X1_gather_7 o a1 a2 i2 M3 = some t at hb
    unfold w_X1_gather_7 at hb
    refine ex_iload_n dX1_gather_7 rfl ?_
    refine ex_aload_n dX1_gather_8 rfl ?_
    refine mx_geti 8 dX1_gather_9 fl_X1_51 ha1 (isi_8_3 ha1) ?_
    have JXC6 : ((M3 a1 3) ≤ i2 ∨ 14 ≤ (M3 o 3)) → XM l E (RX1, "gather", cX1_gather, 4) none 2 88 [some (.ref o), some (.ref a1), some (.int a2), some (.int i2)] [] M3 M' none := fun C6 => by
      rw [if_pos C6] at hb
      refine ex_mskL [false, false, false, false] (L2 := [none, none, none, none]) rfl ?_
      cases hb
      cases (he _ rfl) <;> exact hx
    have JYC6 : ¬ (((M3 a1 3) ≤ i2 ∨ 14 ≤ (M3 o 3))) → XM l E (RX1, "gather", cX1_gather, 4) none 2 27 [some (.ref o), some (.ref a1), some (.int a2), some (.int i2)] [.int 0, .int i2, .ref a1] M3 M' none := fun C6 => by
      rw [if_neg C6] at hb
      obtain ⟨x7, qx7, hb⟩ := b1E hb
      refine mx_cVi [.int i2, .int 0] [] a1 8 x7 dX1_gather_27 cl_X1_54 im_X8_at cy_X8_at ha1 rfl (Nat.le_of_ble_eq_true rfl) (by decide) (t_X8_at l E a1 i2 0 ha1 M3 qx7) ?_
      refine ex_iload_n dX1_gather_30 rfl ?_
      refine ex_icmp_ne 82 dX1_gather_31 (by decide) (fun c8 => ?_) (fun c8 => ?_)
      · rw [if_neg c8] at hb
        refine ex_iinc 1 (L2 := [some (.ref o), some (.ref a1), some (.int a2), some (.int (i2 + 1))]) dX1_gather_82 rfl kI_1 (by decide) rfl ?_
        refine ex_goto 7 dX1_gather_85 (by decide) ?_
        refine ex_mskL [true, true, true, true] (L2 := [some (.ref o), some (.ref a1), some (.int a2), some (.int (i2 + 1))]) rfl ?_
        cases hb
        exact hk ((i2 + 1), M3) rfl
      · rw [if_pos c8] at hb
        refine ex_aload_n dX1_gather_34 rfl ?_
        refine mx_getr 1 (o + 1) dX1_gather_35 fl_X1_9 ho (rf_1_0 ho) ?_
        refine ex_aload_n dX1_gather_38 rfl ?_
        refine mx_geti 1 dX1_gather_39 fl_X1_44 ho (isi_1_3 ho) ?_
        refine ex_iload_n dX1_gather_42 rfl ?_
        obtain ⟨M9, qM9, hb⟩ := b1E hb
        refine mx_iast M9 dX1_gather_43 qM9 ?_
        refine ex_aload_n dX1_gather_44 rfl ?_
        refine mx_getr 1 (o + 2) dX1_gather_45 fl_X1_15 ho (rf_1_1 ho) ?_
        refine ex_aload_n dX1_gather_48 rfl ?_
        refine mx_geti 1 dX1_gather_49 fl_X1_44 ho (isi_1_3 ho) ?_
        refine ex_aload_n dX1_gather_52 rfl ?_
        refine ex_iload_n dX1_gather_53 rfl ?_
        refine ex_iconst 1 dX1_gather_54 kI_1 ?_
        obtain ⟨x10, qx10, hb⟩ := b1E hb
        refine mx_cVi [.int i2, .int 1] [.int (M9 o 3), .ref (o + 2)] a1 8 x10 dX1_gather_55 cl_X1_54 im_X8_at cy_X8_at ha1 rfl (Nat.le_of_ble_eq_true rfl) (by decide) (t_X8_at l E a1 i2 1 ha1 M9 qx10) ?_
        obtain ⟨M11, qM11, hb⟩ := b1E hb
        refine mx_iast M11 dX1_gather_58 qM11 ?_
        refine ex_aload_n dX1_gather_59 rfl ?_
        refine ex_aload_n dX1_gather_60 rfl ?_
        refine mx_getr 1 (o + 2) dX1_gather_61 fl_X1_15 ho (rf_1_1 ho) ?_
        refine ex_aload_n dX1_gather_64 rfl ?_
        refine mx_geti 1 dX1_gather_65 fl_X1_44 ho (isi_1_3 ho) ?_
        obtain ⟨x12, qx12, hb⟩ := b1E hb
        refine mx_iald x12 dX1_gather_68 qx12 ?_
        obtain ⟨M13, qM13, hb⟩ := b1E hb
        refine mx_cVv [.int x12] [] o 1 dX1_gather_69 cl_X1_58 im_X1_addFalling cy_X1_addFalling ho rfl (Nat.le_of_ble_eq_true rfl) (by decide) (t_X1_addFalling l E o x12 ho M11 qM13) ?_
        refine ex_aload_n dX1_gather_72 rfl ?_
        refine ex_dup dX1_gather_73 rfl ?_
        refine mx_geti 1 dX1_gather_74 fl_X1_44 ho (isi_1_3 ho) ?_
        refine ex_iconst 1 dX1_gather_77 kI_1 ?_
        refine ex_iadd dX1_gather_78 ?_
        obtain ⟨M14, eM14, hb⟩ := ltE hb
        refine mx_puti 1 dX1_gather_79 fl_X1_44 rfl ⟨rfl, rfl⟩ ho (isi_1_3 ho) ?_
        rw [← eM14]
        refine ex_iinc 1 (L2 := [some (.ref o), some (.ref a1), some (.int a2), some (.int (i2 + 1))]) dX1_gather_82 rfl kI_1 (by decide) rfl ?_
        refine ex_goto 7 dX1_gather_85 (by decide) ?_
        refine ex_mskL [true, true, true, true] (L2 := [some (.ref o), some (.ref a1), some (.int a2), some (.int (i2 + 1))]) rfl ?_
        cases hb
        exact hk ((i2 + 1), M14) rfl
    clear hb
    refine ex_icmp_ge 88 dX1_gather_12 (by decide) (fun c4 => ?_) (fun c4 => ?_)
    · exact JXC6 (Or.inl c4)
    · refine ex_aload_n dX1_gather_15 rfl ?_
      refine mx_geti 1 dX1_gather_16 fl_X1_44 ho (isi_1_3 ho) ?_
      refine ex_bipush 14 dX1_gather_19 kB_14 ?_
      refine ex_icmp_ge 88 dX1_gather_21 (by decide) (fun c5 => ?_) (fun c5 => ?_)
      · exact JXC6 (Or.inr c5)
      · refine ex_aload_n dX1_gather_24 rfl ?_
        refine ex_iload_n dX1_gather_25 rfl ?_
        refine ex_iconst 0 dX1_gather_26 kI_0 ?_
        exact JYC6 (fun z => z.elim c4 c5))
  exact key FU (0, M1) hlq15
def w_X1_bestAlone_8 (o : Nat) (a1 : Int32) (M : Mem) (i1 : Int32) (i2 : Int32) (i3 : Int32) : Option ((Int32 × Int32 × Int32) ⊕ (Int32)) :=
  if ((M o 3) ≤ i3 ∨ 14 ≤ i3) then (some (.inr i1)) else (b1 (rd M (o + 2) i3) fun x7 => if x7 < a1 then (some (.inl (i1, i2, (i3 + 1)))) else (b1 (rd M (o + 2) i3) fun x9 => if i2 ≤ x9 then (some (.inl (i1, i2, (i3 + 1)))) else (b1 (rd M (o + 2) i3) fun x11 => b1 (rd M (o + 1) i3) fun x12 => some (.inl (x12, x11, (i3 + 1))))))
def f_X1_bestAlone (o : Nat) (a1 : Int32) (M : Mem) : Option (Int32) :=
  b1 (lp (fun s => w_X1_bestAlone_8 o a1 M s.1 s.2.1 s.2.2) FU ((-1), 1000000, 0)) fun q13 => some q13
set_option maxRecDepth 100000 in
set_option maxHeartbeats 4000000 in
theorem t_X1_bestAlone (l : Launch) (E : EV) (o : Nat) (a1 : Int32) (ho : oc o = some 1) (M : Mem) {r : Int32} (h : f_X1_bestAlone o a1 M = some r) : RunM l E yX1_bestAlone cX1_bestAlone 5 (some .int) 0 [.ref o, .int a1] M M (some (.int r)) := by
  refine RunM.of (by decide) (Nat.le_of_ble_eq_true rfl) ?_
  show XM l E (RX1, "bestAlone", cX1_bestAlone, 5) (some .int) 0 0 [some (.ref o), some (.int a1), none, none, none] [] M M (some (.int r))
  unfold f_X1_bestAlone at h
  refine ex_iconst (-1) dX1_bestAlone_0 kI_m1 ?_
  refine ex_istore_n (L2 := [some (.ref o), some (.int a1), some (.int (-1)), none, none]) dX1_bestAlone_1 (by decide) rfl ?_
  refine ex_ldc 1000000 dX1_bestAlone_2 (tb (i := 704) (by decide +kernel)) ?_
  refine ex_istore_n (L2 := [some (.ref o), some (.int a1), some (.int (-1)), some (.int 1000000), none]) dX1_bestAlone_4 (by decide) rfl ?_
  refine ex_iconst 0 dX1_bestAlone_5 kI_0 ?_
  refine ex_istore (L2 := [some (.ref o), some (.int a1), some (.int (-1)), some (.int 1000000), some (.int 0)]) dX1_bestAlone_6 (by decide) rfl ?_
  refine ex_mskL [true, true, true, true, true] (L2 := [some (.ref o), some (.int a1), some (.int (-1)), some (.int 1000000), some (.int 0)]) rfl ?_
  obtain ⟨q13, hlq13, h⟩ := b1E h
  have hx : XM l E (RX1, "bestAlone", cX1_bestAlone, 5) (some .int) 0 68 [none, none, some (.int q13), none, none] [] M M (some (.int r)) := by
    refine ex_iload_n dX1_bestAlone_68 rfl ?_
    cases h
    exact mx_reti .int dX1_bestAlone_69 ⟨rfl, rfl⟩
  clear h
  have key : ∀ (k : Nat) (s : Int32 × Int32 × Int32), lp (fun s => w_X1_bestAlone_8 o a1 M s.1 s.2.1 s.2.2) k s = some q13 → XM l E (RX1, "bestAlone", cX1_bestAlone, 5) (some .int) 0 8 [some (.ref o), some (.int a1), some (.int s.1), some (.int s.2.1), some (.int s.2.2)] [] M M (some (.int r)) := lp_ind (P := fun (s : Int32 × Int32 × Int32) => XM l E (RX1, "bestAlone", cX1_bestAlone, 5) (some .int) 0 8 [some (.ref o), some (.int a1), some (.int s.1), some (.int s.2.1), some (.int s.2.2)] [] M M (some (.int r))) (fun s t hb hk he => by
    obtain ⟨i1, i2, i3⟩ := s
    show XM l E (RX1, "bestAlone", cX1_bestAlone, 5) (some .int) 0 8 [some (.ref o), some (.int a1), some (.int i1), some (.int i2), some (.int i3)] [] M M (some (.int r))
    change w_X1_bestAlone_8 o a1 M i1 i2 i3 = some t at hb
    unfold w_X1_bestAlone_8 at hb
    refine ex_iload dX1_bestAlone_8 rfl ?_
    refine ex_aload_n dX1_bestAlone_10 rfl ?_
    refine mx_geti 1 dX1_bestAlone_11 fl_X1_44 ho (isi_1_3 ho) ?_
    have JXC6 : ((M o 3) ≤ i3 ∨ 14 ≤ i3) → XM l E (RX1, "bestAlone", cX1_bestAlone, 5) (some .int) 0 68 [some (.ref o), some (.int a1), some (.int i1), some (.int i2), some (.int i3)] [] M M (some (.int r)) := fun C6 => by
      rw [if_pos C6] at hb
      refine ex_mskL [false, false, true, false, false] (L2 := [none, none, some (.int i1), none, none]) rfl ?_
      cases hb
      cases (he _ rfl) <;> exact hx
    have JYC6 : ¬ (((M o 3) ≤ i3 ∨ 14 ≤ i3)) → XM l E (RX1, "bestAlone", cX1_bestAlone, 5) (some .int) 0 30 [some (.ref o), some (.int a1), some (.int i1), some (.int i2), some (.int i3)] [.int i3, .ref (o + 2)] M M (some (.int r)) := fun C6 => by
      rw [if_neg C6] at hb
      obtain ⟨x7, qx7, hb⟩ := b1E hb
      refine mx_iald x7 dX1_bestAlone_30 qx7 ?_
      refine ex_iload_n dX1_bestAlone_31 rfl ?_
      refine ex_icmp_lt 62 dX1_bestAlone_32 (by decide) (fun c8 => ?_) (fun c8 => ?_)
      · rw [if_pos c8] at hb
        refine ex_iinc 1 (L2 := [some (.ref o), some (.int a1), some (.int i1), some (.int i2), some (.int (i3 + 1))]) dX1_bestAlone_62 rfl kI_1 (by decide) rfl ?_
        refine ex_goto 8 dX1_bestAlone_65 (by decide) ?_
        refine ex_mskL [true, true, true, true, true] (L2 := [some (.ref o), some (.int a1), some (.int i1), some (.int i2), some (.int (i3 + 1))]) rfl ?_
        cases hb
        exact hk (i1, i2, (i3 + 1)) rfl
      · rw [if_neg c8] at hb
        refine ex_aload_n dX1_bestAlone_35 rfl ?_
        refine mx_getr 1 (o + 2) dX1_bestAlone_36 fl_X1_15 ho (rf_1_1 ho) ?_
        refine ex_iload dX1_bestAlone_39 rfl ?_
        obtain ⟨x9, qx9, hb⟩ := b1E hb
        refine mx_iald x9 dX1_bestAlone_41 qx9 ?_
        refine ex_iload_n dX1_bestAlone_42 rfl ?_
        refine ex_icmp_ge 62 dX1_bestAlone_43 (by decide) (fun c10 => ?_) (fun c10 => ?_)
        · rw [if_pos c10] at hb
          refine ex_iinc 1 (L2 := [some (.ref o), some (.int a1), some (.int i1), some (.int i2), some (.int (i3 + 1))]) dX1_bestAlone_62 rfl kI_1 (by decide) rfl ?_
          refine ex_goto 8 dX1_bestAlone_65 (by decide) ?_
          refine ex_mskL [true, true, true, true, true] (L2 := [some (.ref o), some (.int a1), some (.int i1), some (.int i2), some (.int (i3 + 1))]) rfl ?_
          cases hb
          exact hk (i1, i2, (i3 + 1)) rfl
        · rw [if_neg c10] at hb
          refine ex_aload_n dX1_bestAlone_46 rfl ?_
          refine mx_getr 1 (o + 2) dX1_bestAlone_47 fl_X1_15 ho (rf_1_1 ho) ?_
          refine ex_iload dX1_bestAlone_50 rfl ?_
          obtain ⟨x11, qx11, hb⟩ := b1E hb
          refine mx_iald x11 dX1_bestAlone_52 qx11 ?_
          refine ex_istore_n (L2 := [some (.ref o), some (.int a1), some (.int i1), some (.int x11), some (.int i3)]) dX1_bestAlone_53 (by decide) rfl ?_
          refine ex_aload_n dX1_bestAlone_54 rfl ?_
          refine mx_getr 1 (o + 1) dX1_bestAlone_55 fl_X1_9 ho (rf_1_0 ho) ?_
          refine ex_iload dX1_bestAlone_58 rfl ?_
          obtain ⟨x12, qx12, hb⟩ := b1E hb
          refine mx_iald x12 dX1_bestAlone_60 qx12 ?_
          refine ex_istore_n (L2 := [some (.ref o), some (.int a1), some (.int x12), some (.int x11), some (.int i3)]) dX1_bestAlone_61 (by decide) rfl ?_
          refine ex_iinc 1 (L2 := [some (.ref o), some (.int a1), some (.int x12), some (.int x11), some (.int (i3 + 1))]) dX1_bestAlone_62 rfl kI_1 (by decide) rfl ?_
          refine ex_goto 8 dX1_bestAlone_65 (by decide) ?_
          refine ex_mskL [true, true, true, true, true] (L2 := [some (.ref o), some (.int a1), some (.int x12), some (.int x11), some (.int (i3 + 1))]) rfl ?_
          cases hb
          exact hk (x12, x11, (i3 + 1)) rfl
    clear hb
    refine ex_icmp_ge 68 dX1_bestAlone_14 (by decide) (fun c4 => ?_) (fun c4 => ?_)
    · exact JXC6 (Or.inl c4)
    · refine ex_iload dX1_bestAlone_17 rfl ?_
      refine ex_bipush 14 dX1_bestAlone_19 kB_14 ?_
      refine ex_icmp_ge 68 dX1_bestAlone_21 (by decide) (fun c5 => ?_) (fun c5 => ?_)
      · exact JXC6 (Or.inr c5)
      · refine ex_aload_n dX1_bestAlone_24 rfl ?_
        refine mx_getr 1 (o + 2) dX1_bestAlone_25 fl_X1_15 ho (rf_1_1 ho) ?_
        refine ex_iload dX1_bestAlone_28 rfl ?_
        exact JYC6 (fun z => z.elim c4 c5))
  exact key FU ((-1), 1000000, 0) hlq13
def w_X1_fewestReaching_4 (o : Nat) (M : Mem) (i1 : Int32) (i2 : Int32) : Option ((Int32 × Int32) ⊕ ((Int32) ⊕ (Unit))) :=
  if ((M o 3) ≤ i2 ∨ 14 ≤ i2) then (some (.inr (.inr ()))) else (b1 (rd M (o + 3) i2) fun x6 => if (i1 + x6) < (M o 4) then (some (.inl ((i1 + x6), (i2 + 1)))) else (some (.inr (.inl i2))))
def f_X1_fewestReaching (o : Nat) (M : Mem) : Option (Int32) :=
  b1 (lp (fun s => w_X1_fewestReaching_4 o M s.1 s.2) FU (0, 0)) fun q8 => match q8 with | .inl u9 => (some (u9 + 1)) | .inr u10 => (some (-1))
set_option maxRecDepth 100000 in
set_option maxHeartbeats 4000000 in
theorem t_X1_fewestReaching (l : Launch) (E : EV) (o : Nat) (ho : oc o = some 1) (M : Mem) {r : Int32} (h : f_X1_fewestReaching o M = some r) : RunM l E yX1_fewestReaching cX1_fewestReaching 3 (some .int) 0 [.ref o] M M (some (.int r)) := by
  refine RunM.of (by decide) (Nat.le_of_ble_eq_true rfl) ?_
  show XM l E (RX1, "fewestReaching", cX1_fewestReaching, 3) (some .int) 0 0 [some (.ref o), none, none] [] M M (some (.int r))
  unfold f_X1_fewestReaching at h
  refine ex_iconst 0 dX1_fewestReaching_0 kI_0 ?_
  refine ex_istore_n (L2 := [some (.ref o), some (.int 0), none]) dX1_fewestReaching_1 (by decide) rfl ?_
  refine ex_iconst 0 dX1_fewestReaching_2 kI_0 ?_
  refine ex_istore_n (L2 := [some (.ref o), some (.int 0), some (.int 0)]) dX1_fewestReaching_3 (by decide) rfl ?_
  refine ex_mskL [true, true, true] (L2 := [some (.ref o), some (.int 0), some (.int 0)]) rfl ?_
  obtain ⟨q8, hlq8, h⟩ := b1E h
  rcases q8 with u9 | ⟨⟩
  · dsimp only at h
    have hx : XM l E (RX1, "fewestReaching", cX1_fewestReaching, 3) (some .int) 0 35 [none, none, some (.int u9)] [] M M (some (.int r)) := by
      refine ex_iload_n dX1_fewestReaching_35 rfl ?_
      refine ex_iconst 1 dX1_fewestReaching_36 kI_1 ?_
      refine ex_iadd dX1_fewestReaching_37 ?_
      cases h
      exact mx_reti .int dX1_fewestReaching_38 ⟨rfl, rfl⟩
    clear h
    have key : ∀ (k : Nat) (s : Int32 × Int32), lp (fun s => w_X1_fewestReaching_4 o M s.1 s.2) k s = some (.inl u9) → XM l E (RX1, "fewestReaching", cX1_fewestReaching, 3) (some .int) 0 4 [some (.ref o), some (.int s.1), some (.int s.2)] [] M M (some (.int r)) := lp_ind (P := fun (s : Int32 × Int32) => XM l E (RX1, "fewestReaching", cX1_fewestReaching, 3) (some .int) 0 4 [some (.ref o), some (.int s.1), some (.int s.2)] [] M M (some (.int r))) (fun s t hb hk he => by
      obtain ⟨i1, i2⟩ := s
      show XM l E (RX1, "fewestReaching", cX1_fewestReaching, 3) (some .int) 0 4 [some (.ref o), some (.int i1), some (.int i2)] [] M M (some (.int r))
      change w_X1_fewestReaching_4 o M i1 i2 = some t at hb
      unfold w_X1_fewestReaching_4 at hb
      refine ex_iload_n dX1_fewestReaching_4 rfl ?_
      refine ex_aload_n dX1_fewestReaching_5 rfl ?_
      refine mx_geti 1 dX1_fewestReaching_6 fl_X1_44 ho (isi_1_3 ho) ?_
      have JXC5 : ((M o 3) ≤ i2 ∨ 14 ≤ i2) → XM l E (RX1, "fewestReaching", cX1_fewestReaching, 3) (some .int) 0 45 [some (.ref o), some (.int i1), some (.int i2)] [] M M (some (.int r)) := fun C5 => by
        rw [if_pos C5] at hb
        refine ex_mskL [false, false, false] (L2 := [none, none, none]) rfl ?_
        cases hb
        cases (he _ rfl) <;> exact hx
      have JYC5 : ¬ (((M o 3) ≤ i2 ∨ 14 ≤ i2)) → XM l E (RX1, "fewestReaching", cX1_fewestReaching, 3) (some .int) 0 24 [some (.ref o), some (.int i1), some (.int i2)] [.int i2, .ref (o + 3), .int i1] M M (some (.int r)) := fun C5 => by
        rw [if_neg C5] at hb
        obtain ⟨x6, qx6, hb⟩ := b1E hb
        refine mx_iald x6 dX1_fewestReaching_24 qx6 ?_
        refine ex_iadd dX1_fewestReaching_25 ?_
        refine ex_istore_n (L2 := [some (.ref o), some (.int (i1 + x6)), some (.int i2)]) dX1_fewestReaching_26 (by decide) rfl ?_
        refine ex_iload_n dX1_fewestReaching_27 rfl ?_
        refine ex_aload_n dX1_fewestReaching_28 rfl ?_
        refine mx_geti 1 dX1_fewestReaching_29 fl_X1_29 ho (isi_1_4 ho) ?_
        refine ex_icmp_lt 39 dX1_fewestReaching_32 (by decide) (fun c7 => ?_) (fun c7 => ?_)
        · rw [if_pos c7] at hb
          refine ex_iinc 1 (L2 := [some (.ref o), some (.int (i1 + x6)), some (.int (i2 + 1))]) dX1_fewestReaching_39 rfl kI_1 (by decide) rfl ?_
          refine ex_goto 4 dX1_fewestReaching_42 (by decide) ?_
          refine ex_mskL [true, true, true] (L2 := [some (.ref o), some (.int (i1 + x6)), some (.int (i2 + 1))]) rfl ?_
          cases hb
          exact hk ((i1 + x6), (i2 + 1)) rfl
        · rw [if_neg c7] at hb
          refine ex_mskL [false, false, true] (L2 := [none, none, some (.int i2)]) rfl ?_
          cases hb
          cases (he _ rfl) <;> exact hx
      clear hb
      refine ex_icmp_ge 45 dX1_fewestReaching_9 (by decide) (fun c3 => ?_) (fun c3 => ?_)
      · exact JXC5 (Or.inl c3)
      · refine ex_iload_n dX1_fewestReaching_12 rfl ?_
        refine ex_bipush 14 dX1_fewestReaching_13 kB_14 ?_
        refine ex_icmp_ge 45 dX1_fewestReaching_15 (by decide) (fun c4 => ?_) (fun c4 => ?_)
        · exact JXC5 (Or.inr c4)
        · refine ex_iload_n dX1_fewestReaching_18 rfl ?_
          refine ex_aload_n dX1_fewestReaching_19 rfl ?_
          refine mx_getr 1 (o + 3) dX1_fewestReaching_20 fl_X1_18 ho (rf_1_2 ho) ?_
          refine ex_iload_n dX1_fewestReaching_23 rfl ?_
          exact JYC5 (fun z => z.elim c3 c4))
    exact key FU (0, 0) hlq8
  · dsimp only at h
    have hx : XM l E (RX1, "fewestReaching", cX1_fewestReaching, 3) (some .int) 0 45 [none, none, none] [] M M (some (.int r)) := by
      refine ex_iconst (-1) dX1_fewestReaching_45 kI_m1 ?_
      cases h
      exact mx_reti .int dX1_fewestReaching_46 ⟨rfl, rfl⟩
    clear h
    have key : ∀ (k : Nat) (s : Int32 × Int32), lp (fun s => w_X1_fewestReaching_4 o M s.1 s.2) k s = some (.inr ()) → XM l E (RX1, "fewestReaching", cX1_fewestReaching, 3) (some .int) 0 4 [some (.ref o), some (.int s.1), some (.int s.2)] [] M M (some (.int r)) := lp_ind (P := fun (s : Int32 × Int32) => XM l E (RX1, "fewestReaching", cX1_fewestReaching, 3) (some .int) 0 4 [some (.ref o), some (.int s.1), some (.int s.2)] [] M M (some (.int r))) (fun s t hb hk he => by
      obtain ⟨i1, i2⟩ := s
      show XM l E (RX1, "fewestReaching", cX1_fewestReaching, 3) (some .int) 0 4 [some (.ref o), some (.int i1), some (.int i2)] [] M M (some (.int r))
      change w_X1_fewestReaching_4 o M i1 i2 = some t at hb
      unfold w_X1_fewestReaching_4 at hb
      refine ex_iload_n dX1_fewestReaching_4 rfl ?_
      refine ex_aload_n dX1_fewestReaching_5 rfl ?_
      refine mx_geti 1 dX1_fewestReaching_6 fl_X1_44 ho (isi_1_3 ho) ?_
      have JXC5 : ((M o 3) ≤ i2 ∨ 14 ≤ i2) → XM l E (RX1, "fewestReaching", cX1_fewestReaching, 3) (some .int) 0 45 [some (.ref o), some (.int i1), some (.int i2)] [] M M (some (.int r)) := fun C5 => by
        rw [if_pos C5] at hb
        refine ex_mskL [false, false, false] (L2 := [none, none, none]) rfl ?_
        cases hb
        cases (he _ rfl) <;> exact hx
      have JYC5 : ¬ (((M o 3) ≤ i2 ∨ 14 ≤ i2)) → XM l E (RX1, "fewestReaching", cX1_fewestReaching, 3) (some .int) 0 24 [some (.ref o), some (.int i1), some (.int i2)] [.int i2, .ref (o + 3), .int i1] M M (some (.int r)) := fun C5 => by
        rw [if_neg C5] at hb
        obtain ⟨x6, qx6, hb⟩ := b1E hb
        refine mx_iald x6 dX1_fewestReaching_24 qx6 ?_
        refine ex_iadd dX1_fewestReaching_25 ?_
        refine ex_istore_n (L2 := [some (.ref o), some (.int (i1 + x6)), some (.int i2)]) dX1_fewestReaching_26 (by decide) rfl ?_
        refine ex_iload_n dX1_fewestReaching_27 rfl ?_
        refine ex_aload_n dX1_fewestReaching_28 rfl ?_
        refine mx_geti 1 dX1_fewestReaching_29 fl_X1_29 ho (isi_1_4 ho) ?_
        refine ex_icmp_lt 39 dX1_fewestReaching_32 (by decide) (fun c7 => ?_) (fun c7 => ?_)
        · rw [if_pos c7] at hb
          refine ex_iinc 1 (L2 := [some (.ref o), some (.int (i1 + x6)), some (.int (i2 + 1))]) dX1_fewestReaching_39 rfl kI_1 (by decide) rfl ?_
          refine ex_goto 4 dX1_fewestReaching_42 (by decide) ?_
          refine ex_mskL [true, true, true] (L2 := [some (.ref o), some (.int (i1 + x6)), some (.int (i2 + 1))]) rfl ?_
          cases hb
          exact hk ((i1 + x6), (i2 + 1)) rfl
        · rw [if_neg c7] at hb
          refine ex_mskL [false, false, true] (L2 := [none, none, some (.int i2)]) rfl ?_
          cases hb
          cases (he _ rfl) <;> exact hx
      clear hb
      refine ex_icmp_ge 45 dX1_fewestReaching_9 (by decide) (fun c3 => ?_) (fun c3 => ?_)
      · exact JXC5 (Or.inl c3)
      · refine ex_iload_n dX1_fewestReaching_12 rfl ?_
        refine ex_bipush 14 dX1_fewestReaching_13 kB_14 ?_
        refine ex_icmp_ge 45 dX1_fewestReaching_15 (by decide) (fun c4 => ?_) (fun c4 => ?_)
        · exact JXC5 (Or.inr c4)
        · refine ex_iload_n dX1_fewestReaching_18 rfl ?_
          refine ex_aload_n dX1_fewestReaching_19 rfl ?_
          refine mx_getr 1 (o + 3) dX1_fewestReaching_20 fl_X1_18 ho (rf_1_2 ho) ?_
          refine ex_iload_n dX1_fewestReaching_23 rfl ?_
          exact JYC5 (fun z => z.elim c3 c4))
    exact key FU (0, 0) hlq8
def F_X1_search (r_X1_search : Nat → Int32 → Int32 → Int32 → Int32 → Mem → Option (Mem)) (o : Nat) (a1 : Int32) (a2 : Int32) (a3 : Int32) (a4 : Int32) (M : Mem) : Option (Mem) :=
  if (M o 5) ≤ a3 then (some M) else (if (M o 5) ≤ (M o 4) then (some M) else (if a2 ≤ (a1 + 1) then (if 0 < a2 then (if (a1 < 0 ∨ (14 ≤ a1 ∨ ¬ ((M o 4) ≤ (a3 + (a2 * (M (o + 3) 0)))))) then (some M) else (b1 (r_X1_search o (a1 - 1) a2 a3 a4 M) fun M9 => b1 (rd M9 (o + 2) a1) fun x10 => b1 (rd M9 (o + 1) a1) fun x11 => b1 (r_X1_search o (a1 - 1) (a2 - 1) (a3 + x10) (a4 ||| (1 <<< (x11 &&& 31))) M9) fun M12 => some M12)) else (if a3 < (M o 4) then (some M) else (lt (up2 M o 5 a3) fun M14 => lt (up2 M14 o 6 a4) fun M15 => some M15))) else (some M)))
set_option maxRecDepth 100000 in
set_option maxHeartbeats 4000000 in
theorem T_X1_search (l : Launch) (E : EV) (n : Nat) (r_X1_search : Nat → Int32 → Int32 → Int32 → Int32 → Mem → Option (Mem)) (h_X1_search : ∀ (o : Nat) (a1 : Int32) (a2 : Int32) (a3 : Int32) (a4 : Int32) (ho : oc o = some 1) (M : Mem) {M' : Mem}, r_X1_search o a1 a2 a3 a4 M = some M' → RunM l E yX1_search cX1_search 5 none (n + 0) [.ref o, .int a1, .int a2, .int a3, .int a4] M M' none) (o : Nat) (a1 : Int32) (a2 : Int32) (a3 : Int32) (a4 : Int32) (ho : oc o = some 1) (M : Mem) {M' : Mem} (h : F_X1_search r_X1_search o a1 a2 a3 a4 M = some M') : RunM l E yX1_search cX1_search 5 none (n + 1) [.ref o, .int a1, .int a2, .int a3, .int a4] M M' none := by
  refine RunM.of (by decide) (Nat.le_of_ble_eq_true rfl) ?_
  show XM l E (RX1, "search", cX1_search, 5) none (n + 1) 0 [some (.ref o), some (.int a1), some (.int a2), some (.int a3), some (.int a4)] [] M M' none
  unfold F_X1_search at h
  refine ex_iload_n dX1_search_0 rfl ?_
  refine ex_aload_n dX1_search_1 rfl ?_
  refine mx_geti 1 dX1_search_2 fl_X1_38 ho (isi_1_5 ho) ?_
  refine ex_icmp_ge 26 dX1_search_5 (by decide) (fun c1 => ?_) (fun c1 => ?_)
  · rw [if_pos c1] at h
    cases h
    exact mx_retv dX1_search_26 rfl
  · rw [if_neg c1] at h
    refine ex_aload_n dX1_search_8 rfl ?_
    refine mx_geti 1 dX1_search_9 fl_X1_38 ho (isi_1_5 ho) ?_
    refine ex_aload_n dX1_search_12 rfl ?_
    refine mx_geti 1 dX1_search_13 fl_X1_29 ho (isi_1_4 ho) ?_
    refine ex_icmp_le 26 dX1_search_16 (by decide) (fun c2 => ?_) (fun c2 => ?_)
    · rw [if_pos c2] at h
      cases h
      exact mx_retv dX1_search_26 rfl
    · rw [if_neg c2] at h
      refine ex_iload_n dX1_search_19 rfl ?_
      refine ex_iconst 1 dX1_search_20 kI_1 ?_
      refine ex_iadd dX1_search_21 ?_
      refine ex_iload_n dX1_search_22 rfl ?_
      refine ex_icmp_ge 27 dX1_search_23 (by decide) (fun c3 => ?_) (fun c3 => ?_)
      · rw [if_pos c3] at h
        refine ex_iload_n dX1_search_27 rfl ?_
        refine ex_if_gt 51 dX1_search_28 (by decide) (fun c4 => ?_) (fun c4 => ?_)
        · rw [if_pos c4] at h
          refine ex_iload_n dX1_search_51 rfl ?_
          have JXC8 : (a1 < 0 ∨ (14 ≤ a1 ∨ ¬ ((M o 4) ≤ (a3 + (a2 * (M (o + 3) 0)))))) → XM l E (RX1, "search", cX1_search, 5) none (n + 1) 78 [some (.ref o), some (.int a1), some (.int a2), some (.int a3), some (.int a4)] [] M M' none := fun C8 => by
            rw [if_pos C8] at h
            cases h
            exact mx_retv dX1_search_78 rfl
          have JYC8 : ¬ ((a1 < 0 ∨ (14 ≤ a1 ∨ ¬ ((M o 4) ≤ (a3 + (a2 * (M (o + 3) 0))))))) → XM l E (RX1, "search", cX1_search, 5) none (n + 1) 87 [some (.ref o), some (.int a1), some (.int a2), some (.int a3), some (.int a4)] [.int a4, .int a3, .int a2, .int (a1 - 1), .ref o] M M' none := fun C8 => by
            rw [if_neg C8] at h
            obtain ⟨M9, qM9, h⟩ := b1E h
            refine mx_cVv [.int (a1 - 1), .int a2, .int a3, .int a4] [] o 1 dX1_search_87 cl_X1_47 im_X1_search cy_X1_search ho rfl (Nat.le_of_ble_eq_true rfl) (by omega) (h_X1_search o (a1 - 1) a2 a3 a4 ho M qM9) ?_
            refine ex_aload_n dX1_search_90 rfl ?_
            refine ex_iload_n dX1_search_91 rfl ?_
            refine ex_iconst 1 dX1_search_92 kI_1 ?_
            refine ex_isub dX1_search_93 ?_
            refine ex_iload_n dX1_search_94 rfl ?_
            refine ex_iconst 1 dX1_search_95 kI_1 ?_
            refine ex_isub dX1_search_96 ?_
            refine ex_iload_n dX1_search_97 rfl ?_
            refine ex_aload_n dX1_search_98 rfl ?_
            refine mx_getr 1 (o + 2) dX1_search_99 fl_X1_15 ho (rf_1_1 ho) ?_
            refine ex_iload_n dX1_search_102 rfl ?_
            obtain ⟨x10, qx10, h⟩ := b1E h
            refine mx_iald x10 dX1_search_103 qx10 ?_
            refine ex_iadd dX1_search_104 ?_
            refine ex_iload dX1_search_105 rfl ?_
            refine ex_iconst 1 dX1_search_107 kI_1 ?_
            refine ex_aload_n dX1_search_108 rfl ?_
            refine mx_getr 1 (o + 1) dX1_search_109 fl_X1_9 ho (rf_1_0 ho) ?_
            refine ex_iload_n dX1_search_112 rfl ?_
            obtain ⟨x11, qx11, h⟩ := b1E h
            refine mx_iald x11 dX1_search_113 qx11 ?_
            refine ex_ishl dX1_search_114 ?_
            refine ex_ior dX1_search_115 ?_
            obtain ⟨M12, qM12, h⟩ := b1E h
            refine mx_cVv [.int (a1 - 1), .int (a2 - 1), .int (a3 + x10), .int (a4 ||| (1 <<< (x11 &&& 31)))] [] o 1 dX1_search_116 cl_X1_47 im_X1_search cy_X1_search ho rfl (Nat.le_of_ble_eq_true rfl) (by omega) (h_X1_search o (a1 - 1) (a2 - 1) (a3 + x10) (a4 ||| (1 <<< (x11 &&& 31))) ho M9 qM12) ?_
            cases h
            exact mx_retv dX1_search_119 rfl
          clear h
          refine ex_if_lt 78 dX1_search_52 (by decide) (fun c5 => ?_) (fun c5 => ?_)
          · exact JXC8 (Or.inl c5)
          · refine ex_iload_n dX1_search_55 rfl ?_
            refine ex_bipush 14 dX1_search_56 kB_14 ?_
            refine ex_icmp_ge 78 dX1_search_58 (by decide) (fun c6 => ?_) (fun c6 => ?_)
            · exact JXC8 (Or.inr (Or.inl c6))
            · refine ex_iload_n dX1_search_61 rfl ?_
              refine ex_iload_n dX1_search_62 rfl ?_
              refine ex_aload_n dX1_search_63 rfl ?_
              refine mx_getr 1 (o + 3) dX1_search_64 fl_X1_18 ho (rf_1_2 ho) ?_
              refine ex_iconst 0 dX1_search_67 kI_0 ?_
              refine mx_iald (M (o + 3) 0) dX1_search_68 (rdf_1_2_0 ho _) ?_
              refine ex_imul dX1_search_69 ?_
              refine ex_iadd dX1_search_70 ?_
              refine ex_aload_n dX1_search_71 rfl ?_
              refine mx_geti 1 dX1_search_72 fl_X1_29 ho (isi_1_4 ho) ?_
              refine ex_icmp_ge 79 dX1_search_75 (by decide) (fun c7 => ?_) (fun c7 => ?_)
              · refine ex_aload_n dX1_search_79 rfl ?_
                refine ex_iload_n dX1_search_80 rfl ?_
                refine ex_iconst 1 dX1_search_81 kI_1 ?_
                refine ex_isub dX1_search_82 ?_
                refine ex_iload_n dX1_search_83 rfl ?_
                refine ex_iload_n dX1_search_84 rfl ?_
                refine ex_iload dX1_search_85 rfl ?_
                exact JYC8 (fun z => z.elim c5 (fun z => z.elim c6 (fun z => z c7)))
              · exact JXC8 (Or.inr (Or.inr c7))
        · rw [if_neg c4] at h
          refine ex_iload_n dX1_search_31 rfl ?_
          refine ex_aload_n dX1_search_32 rfl ?_
          refine mx_geti 1 dX1_search_33 fl_X1_29 ho (isi_1_4 ho) ?_
          refine ex_icmp_lt 50 dX1_search_36 (by decide) (fun c13 => ?_) (fun c13 => ?_)
          · rw [if_pos c13] at h
            cases h
            exact mx_retv dX1_search_50 rfl
          · rw [if_neg c13] at h
            refine ex_aload_n dX1_search_39 rfl ?_
            refine ex_iload_n dX1_search_40 rfl ?_
            obtain ⟨M14, eM14, h⟩ := ltE h
            refine mx_puti 1 dX1_search_41 fl_X1_38 rfl ⟨rfl, rfl⟩ ho (isi_1_5 ho) ?_
            rw [← eM14]
            refine ex_aload_n dX1_search_44 rfl ?_
            refine ex_iload dX1_search_45 rfl ?_
            obtain ⟨M15, eM15, h⟩ := ltE h
            refine mx_puti 1 dX1_search_47 fl_X1_41 rfl ⟨rfl, rfl⟩ ho (isi_1_6 ho) ?_
            rw [← eM15]
            cases h
            exact mx_retv dX1_search_50 rfl
      · rw [if_neg c3] at h
        cases h
        exact mx_retv dX1_search_26 rfl
def gr_X1_search : Nat → (Nat → Int32 → Int32 → Int32 → Int32 → Mem → Option (Mem))
  | 0 => (fun _ _ _ _ _ _ => none)
  | n + 1 => (F_X1_search (gr_X1_search n))
def f_X1_search (n : Nat) (o : Nat) (a1 : Int32) (a2 : Int32) (a3 : Int32) (a4 : Int32) (M : Mem) : Option (Mem) := (gr_X1_search n) o a1 a2 a3 a4 M
theorem tg_X1_search (l : Launch) (E : EV) : ∀ n : Nat, (∀ (o : Nat) (a1 : Int32) (a2 : Int32) (a3 : Int32) (a4 : Int32) (ho : oc o = some 1) (M : Mem) {M' : Mem}, f_X1_search n o a1 a2 a3 a4 M = some M' → RunM l E yX1_search cX1_search 5 none (n + 0) [.ref o, .int a1, .int a2, .int a3, .int a4] M M' none)
  | 0 => (by intros; rename_i h; cases h)
  | n + 1 => by
    have ih := tg_X1_search l E n
    refine ?_
    intro o a1 a2 a3 a4 ho M M' h
    exact T_X1_search l E n _ ih o a1 a2 a3 a4 ho M h
theorem t_X1_search (l : Launch) (E : EV) (n : Nat) (o : Nat) (a1 : Int32) (a2 : Int32) (a3 : Int32) (a4 : Int32) (ho : oc o = some 1) (M : Mem) {M' : Mem} (h : f_X1_search n o a1 a2 a3 a4 M = some M') : RunM l E yX1_search cX1_search 5 none (n + 0) [.ref o, .int a1, .int a2, .int a3, .int a4] M M' none := (tg_X1_search l E n) o a1 a2 a3 a4 ho M h
def f_X1_fewest (o : Nat) (a1 : Nat) (a2 : Int32) (a3 : Int32) (M : Mem) : Option (Mem × Int32) :=
  b1 (f_X1_gather o a1 a2 M) fun M1 => b1 (f_X1_bestAlone o a3 M1) fun x2 => if x2 = (-1) then (lt (up2 M1 o 4 (((10 * a3) + 8) / 9)) fun M4 => b1 (f_X1_fewestReaching o M4) fun x5 => if x5 = (-1) then (some (M4, 0)) else (lt (up2 M4 o 5 1000000) fun M7 => lt (up2 M7 o 6 0) fun M8 => b1 (f_X1_search 40 o ((M8 o 3) - 1) x5 0 0 M8) fun M9 => some (M9, (M9 o 6)))) else (some (M1, (1 <<< (x2 &&& 31))))
set_option maxRecDepth 100000 in
set_option maxHeartbeats 4000000 in
theorem t_X1_fewest (l : Launch) (E : EV) (o : Nat) (a1 : Nat) (a2 : Int32) (a3 : Int32) (ho : oc o = some 1) (ha1 : oc a1 = some 8) (M : Mem) {M' : Mem} {r : Int32} (h : f_X1_fewest o a1 a2 a3 M = some (M', r)) : RunM l E yX1_fewest cX1_fewest 6 (some .int) 41 [.ref o, .ref a1, .int a2, .int a3] M M' (some (.int r)) := by
  refine RunM.of (by decide) (Nat.le_of_ble_eq_true rfl) ?_
  show XM l E (RX1, "fewest", cX1_fewest, 6) (some .int) 41 0 [some (.ref o), some (.ref a1), some (.int a2), some (.int a3), none, none] [] M M' (some (.int r))
  unfold f_X1_fewest at h
  refine ex_aload_n dX1_fewest_0 rfl ?_
  refine ex_aload_n dX1_fewest_1 rfl ?_
  refine ex_iload_n dX1_fewest_2 rfl ?_
  obtain ⟨M1, qM1, h⟩ := b1E h
  refine mx_cVv [.ref a1, .int a2] [] o 1 dX1_fewest_3 cl_X1_21 im_X1_gather cy_X1_gather ho rfl (Nat.le_of_ble_eq_true rfl) (by decide) (t_X1_gather l E o a1 a2 ho ha1 M qM1) ?_
  refine ex_aload_n dX1_fewest_6 rfl ?_
  refine ex_iload_n dX1_fewest_7 rfl ?_
  obtain ⟨x2, qx2, h⟩ := b1E h
  refine mx_cVi [.int a3] [] o 1 x2 dX1_fewest_8 cl_X1_25 im_X1_bestAlone cy_X1_bestAlone ho rfl (Nat.le_of_ble_eq_true rfl) (by decide) (t_X1_bestAlone l E o a3 ho M1 qx2) ?_
  refine ex_istore (L2 := [some (.ref o), some (.ref a1), some (.int a2), some (.int a3), some (.int x2), none]) dX1_fewest_11 (by decide) rfl ?_
  refine ex_iload dX1_fewest_13 rfl ?_
  refine ex_iconst (-1) dX1_fewest_15 kI_m1 ?_
  refine ex_icmp_eq 24 dX1_fewest_16 (by decide) (fun c3 => ?_) (fun c3 => ?_)
  · rw [if_pos c3] at h
    refine ex_aload_n dX1_fewest_24 rfl ?_
    refine ex_bipush 10 dX1_fewest_25 kB_10 ?_
    refine ex_iload_n dX1_fewest_27 rfl ?_
    refine ex_imul dX1_fewest_28 ?_
    refine ex_bipush 8 dX1_fewest_29 kB_8 ?_
    refine ex_iadd dX1_fewest_31 ?_
    refine ex_bipush 9 dX1_fewest_32 kB_9 ?_
    refine ex_idiv dX1_fewest_34 (by decide) ?_
    obtain ⟨M4, eM4, h⟩ := ltE h
    refine mx_puti 1 dX1_fewest_35 fl_X1_29 rfl ⟨rfl, rfl⟩ ho (isi_1_4 ho) ?_
    rw [← eM4]
    refine ex_aload_n dX1_fewest_38 rfl ?_
    obtain ⟨x5, qx5, h⟩ := b1E h
    refine mx_cVi [] [] o 1 x5 dX1_fewest_39 cl_X1_33 im_X1_fewestReaching cy_X1_fewestReaching ho rfl (Nat.le_of_ble_eq_true rfl) (by decide) (t_X1_fewestReaching l E o ho M4 qx5) ?_
    refine ex_istore (L2 := [some (.ref o), some (.ref a1), some (.int a2), some (.int a3), some (.int x2), some (.int x5)]) dX1_fewest_42 (by decide) rfl ?_
    refine ex_iload dX1_fewest_44 rfl ?_
    refine ex_iconst (-1) dX1_fewest_46 kI_m1 ?_
    refine ex_icmp_ne 52 dX1_fewest_47 (by decide) (fun c6 => ?_) (fun c6 => ?_)
    · rw [if_neg c6] at h
      refine ex_aload_n dX1_fewest_52 rfl ?_
      refine ex_ldc 1000000 dX1_fewest_53 (tb (i := 704) (by decide +kernel)) ?_
      obtain ⟨M7, eM7, h⟩ := ltE h
      refine mx_puti 1 dX1_fewest_55 fl_X1_38 rfl ⟨rfl, rfl⟩ ho (isi_1_5 ho) ?_
      rw [← eM7]
      refine ex_aload_n dX1_fewest_58 rfl ?_
      refine ex_iconst 0 dX1_fewest_59 kI_0 ?_
      obtain ⟨M8, eM8, h⟩ := ltE h
      refine mx_puti 1 dX1_fewest_60 fl_X1_41 rfl ⟨rfl, rfl⟩ ho (isi_1_6 ho) ?_
      rw [← eM8]
      refine ex_aload_n dX1_fewest_63 rfl ?_
      refine ex_aload_n dX1_fewest_64 rfl ?_
      refine mx_geti 1 dX1_fewest_65 fl_X1_44 ho (isi_1_3 ho) ?_
      refine ex_iconst 1 dX1_fewest_68 kI_1 ?_
      refine ex_isub dX1_fewest_69 ?_
      refine ex_iload dX1_fewest_70 rfl ?_
      refine ex_iconst 0 dX1_fewest_72 kI_0 ?_
      refine ex_iconst 0 dX1_fewest_73 kI_0 ?_
      obtain ⟨M9, qM9, h⟩ := b1E h
      refine mx_cVv [.int ((M8 o 3) - 1), .int x5, .int 0, .int 0] [] o 1 dX1_fewest_74 cl_X1_47 im_X1_search cy_X1_search ho rfl (Nat.le_of_ble_eq_true rfl) (by decide) (t_X1_search l E 40 o ((M8 o 3) - 1) x5 0 0 ho M8 qM9) ?_
      refine ex_aload_n dX1_fewest_77 rfl ?_
      refine mx_geti 1 dX1_fewest_78 fl_X1_41 ho (isi_1_6 ho) ?_
      cases h
      exact mx_reti .int dX1_fewest_81 ⟨rfl, rfl⟩
    · rw [if_pos c6] at h
      refine ex_iconst 0 dX1_fewest_50 kI_0 ?_
      cases h
      exact mx_reti .int dX1_fewest_51 ⟨rfl, rfl⟩
  · rw [if_neg c3] at h
    refine ex_iconst 1 dX1_fewest_19 kI_1 ?_
    refine ex_iload dX1_fewest_20 rfl ?_
    refine ex_ishl dX1_fewest_22 ?_
    cases h
    exact mx_reti .int dX1_fewest_23 ⟨rfl, rfl⟩
def f_X2_empty (o : Nat) (M : Mem) : (Mem) :=
  lt (up2 M o 7 0) fun M1 => lt (up2 M1 o 8 0) fun M2 => M2
set_option maxRecDepth 100000 in
set_option maxHeartbeats 4000000 in
theorem t_X2_empty (l : Launch) (E : EV) (o : Nat) (ho : oc o = some 2) (M : Mem) {M' : Mem} (h : f_X2_empty o M = M') : RunM l E yX2_empty cX2_empty 1 none 0 [.ref o] M M' none := by
  refine RunM.of (by decide) (Nat.le_of_ble_eq_true rfl) ?_
  show XM l E (RX2, "empty", cX2_empty, 1) none 0 0 [some (.ref o)] [] M M' none
  unfold f_X2_empty at h
  refine ex_aload_n dX2_empty_0 rfl ?_
  refine ex_iconst 0 dX2_empty_1 kI_0 ?_
  obtain ⟨M1, eM1, h⟩ := ltE h
  refine mx_puti 2 dX2_empty_2 fl_X2_33 rfl ⟨rfl, rfl⟩ ho (isi_2_7 ho) ?_
  rw [← eM1]
  refine ex_aload_n dX2_empty_5 rfl ?_
  refine ex_iconst 0 dX2_empty_6 kI_0 ?_
  obtain ⟨M2, eM2, h⟩ := ltE h
  refine mx_puti 2 dX2_empty_7 fl_X2_37 rfl ⟨rfl, rfl⟩ ho (isi_2_8 ho) ?_
  rw [← eM2]
  cases h
  exact mx_retv dX2_empty_10 rfl
def f_X2_isFull (o : Nat) (M : Mem) : (Int32) :=
  lt ((if (M o 7) < 16 then 0 else 1) : Int32) fun x2 => x2
theorem z_X2_isFull (o : Nat) (M : Mem) : f_X2_isFull o M = 0 ∨ f_X2_isFull o M = 1 := by
  unfold f_X2_isFull
  (repeat' split) <;> first | exact Or.inl rfl | exact Or.inr rfl
set_option maxRecDepth 100000 in
set_option maxHeartbeats 4000000 in
theorem t_X2_isFull (l : Launch) (E : EV) (o : Nat) (ho : oc o = some 2) (M : Mem) {r : Int32} (h : f_X2_isFull o M = r) : RunM l E yX2_isFull cX2_isFull 1 (some .boolean) 0 [.ref o] M M (some (.int r)) := by
  refine RunM.of (by decide) (Nat.le_of_ble_eq_true rfl) ?_
  show XM l E (RX2, "isFull", cX2_isFull, 1) (some .boolean) 0 0 [some (.ref o)] [] M M (some (.int r))
  unfold f_X2_isFull at h
  refine ex_aload_n dX2_isFull_0 rfl ?_
  refine mx_geti 2 dX2_isFull_1 fl_X2_33 ho (isi_2_7 ho) ?_
  refine ex_bipush 16 dX2_isFull_4 kB_16 ?_
  obtain ⟨x2, ex2, h⟩ := ltE h
  have Jx2 : XM l E (RX2, "isFull", cX2_isFull, 1) (some .boolean) 0 14 [some (.ref o)] [.int x2] M M (some (.int r)) := by
    subst h
    exact mx_reti .boolean dX2_isFull_14 ⟨rfl, nzB (by rw [ex2]; (repeat' split) <;> simp)⟩
  clear h
  refine ex_icmp_lt 13 dX2_isFull_6 (by decide) (fun c1 => ?_) (fun c1 => ?_)
  · rw [if_pos c1] at ex2
    refine ex_iconst 0 dX2_isFull_13 kI_0 ?_
    subst ex2
    exact Jx2
  · rw [if_neg c1] at ex2
    refine ex_iconst 1 dX2_isFull_9 kI_1 ?_
    refine ex_goto 14 dX2_isFull_10 (by decide) ?_
    subst ex2
    exact Jx2
def f_X2_beginLine (o : Nat) (a1 : Int32) (M : Mem) : Option (Mem) :=
  if (f_X2_isFull o M) = 0 then (b1 (wr M (o + 1) (M o 7) a1) fun M2 => b1 (wr M2 (o + 2) (M2 o 7) (M2 o 8)) fun M3 => some M3) else (some M)
set_option maxRecDepth 100000 in
set_option maxHeartbeats 4000000 in
theorem t_X2_beginLine (l : Launch) (E : EV) (o : Nat) (a1 : Int32) (ho : oc o = some 2) (M : Mem) {M' : Mem} (h : f_X2_beginLine o a1 M = some M') : RunM l E yX2_beginLine cX2_beginLine 2 none 1 [.ref o, .int a1] M M' none := by
  refine RunM.of (by decide) (Nat.le_of_ble_eq_true rfl) ?_
  show XM l E (RX2, "beginLine", cX2_beginLine, 2) none 1 0 [some (.ref o), some (.int a1)] [] M M' none
  unfold f_X2_beginLine at h
  refine ex_aload_n dX2_beginLine_0 rfl ?_
  refine mx_cVi [] [] o 2 (f_X2_isFull o M) dX2_beginLine_1 cl_X2_40 im_X2_isFull cy_X2_isFull ho rfl (Nat.le_of_ble_eq_true rfl) (by decide) (t_X2_isFull l E o ho M rfl) ?_
  refine ex_if_eq 8 dX2_beginLine_4 (by decide) (fun c1 => ?_) (fun c1 => ?_)
  · rw [if_pos c1] at h
    refine ex_aload_n dX2_beginLine_8 rfl ?_
    refine mx_getr 2 (o + 1) dX2_beginLine_9 fl_X2_11 ho (rf_2_0 ho) ?_
    refine ex_aload_n dX2_beginLine_12 rfl ?_
    refine mx_geti 2 dX2_beginLine_13 fl_X2_33 ho (isi_2_7 ho) ?_
    refine ex_iload_n dX2_beginLine_16 rfl ?_
    obtain ⟨M2, qM2, h⟩ := b1E h
    refine mx_iast M2 dX2_beginLine_17 qM2 ?_
    refine ex_aload_n dX2_beginLine_18 rfl ?_
    refine mx_getr 2 (o + 2) dX2_beginLine_19 fl_X2_15 ho (rf_2_1 ho) ?_
    refine ex_aload_n dX2_beginLine_22 rfl ?_
    refine mx_geti 2 dX2_beginLine_23 fl_X2_33 ho (isi_2_7 ho) ?_
    refine ex_aload_n dX2_beginLine_26 rfl ?_
    refine mx_geti 2 dX2_beginLine_27 fl_X2_37 ho (isi_2_8 ho) ?_
    obtain ⟨M3, qM3, h⟩ := b1E h
    refine mx_iast M3 dX2_beginLine_30 qM3 ?_
    cases h
    exact mx_retv dX2_beginLine_31 rfl
  · rw [if_neg c1] at h
    cases h
    exact mx_retv dX2_beginLine_7 rfl
def f_X2_beginWhen (o : Nat) (M : Mem) : Option (Mem) :=
  if (f_X2_isFull o M) = 0 then (b1 (wr M (o + 3) (M o 7) (M o 8)) fun M2 => some M2) else (some M)
set_option maxRecDepth 100000 in
set_option maxHeartbeats 4000000 in
theorem t_X2_beginWhen (l : Launch) (E : EV) (o : Nat) (ho : oc o = some 2) (M : Mem) {M' : Mem} (h : f_X2_beginWhen o M = some M') : RunM l E yX2_beginWhen cX2_beginWhen 1 none 1 [.ref o] M M' none := by
  refine RunM.of (by decide) (Nat.le_of_ble_eq_true rfl) ?_
  show XM l E (RX2, "beginWhen", cX2_beginWhen, 1) none 1 0 [some (.ref o)] [] M M' none
  unfold f_X2_beginWhen at h
  refine ex_aload_n dX2_beginWhen_0 rfl ?_
  refine mx_cVi [] [] o 2 (f_X2_isFull o M) dX2_beginWhen_1 cl_X2_40 im_X2_isFull cy_X2_isFull ho rfl (Nat.le_of_ble_eq_true rfl) (by decide) (t_X2_isFull l E o ho M rfl) ?_
  refine ex_if_ne 20 dX2_beginWhen_4 (by decide) (fun c1 => ?_) (fun c1 => ?_)
  · rw [if_neg c1] at h
    cases h
    exact mx_retv dX2_beginWhen_20 rfl
  · rw [if_pos c1] at h
    refine ex_aload_n dX2_beginWhen_7 rfl ?_
    refine mx_getr 2 (o + 3) dX2_beginWhen_8 fl_X2_18 ho (rf_2_2 ho) ?_
    refine ex_aload_n dX2_beginWhen_11 rfl ?_
    refine mx_geti 2 dX2_beginWhen_12 fl_X2_33 ho (isi_2_7 ho) ?_
    refine ex_aload_n dX2_beginWhen_15 rfl ?_
    refine mx_geti 2 dX2_beginWhen_16 fl_X2_37 ho (isi_2_8 ho) ?_
    obtain ⟨M2, qM2, h⟩ := b1E h
    refine mx_iast M2 dX2_beginWhen_19 qM2 ?_
    cases h
    exact mx_retv dX2_beginWhen_20 rfl
def f_X2_closeLine (o : Nat) (M : Mem) : Option (Mem) :=
  if (f_X2_isFull o M) = 0 then (b1 (wr M (o + 4) (M o 7) (M o 8)) fun M2 => lt (up2 M2 o 7 ((M2 o 7) + 1)) fun M3 => some M3) else (some M)
set_option maxRecDepth 100000 in
set_option maxHeartbeats 4000000 in
theorem t_X2_closeLine (l : Launch) (E : EV) (o : Nat) (ho : oc o = some 2) (M : Mem) {M' : Mem} (h : f_X2_closeLine o M = some M') : RunM l E yX2_closeLine cX2_closeLine 1 none 1 [.ref o] M M' none := by
  refine RunM.of (by decide) (Nat.le_of_ble_eq_true rfl) ?_
  show XM l E (RX2, "closeLine", cX2_closeLine, 1) none 1 0 [some (.ref o)] [] M M' none
  unfold f_X2_closeLine at h
  refine ex_aload_n dX2_closeLine_0 rfl ?_
  refine mx_cVi [] [] o 2 (f_X2_isFull o M) dX2_closeLine_1 cl_X2_40 im_X2_isFull cy_X2_isFull ho rfl (Nat.le_of_ble_eq_true rfl) (by decide) (t_X2_isFull l E o ho M rfl) ?_
  refine ex_if_ne 30 dX2_closeLine_4 (by decide) (fun c1 => ?_) (fun c1 => ?_)
  · rw [if_neg c1] at h
    cases h
    exact mx_retv dX2_closeLine_30 rfl
  · rw [if_pos c1] at h
    refine ex_aload_n dX2_closeLine_7 rfl ?_
    refine mx_getr 2 (o + 4) dX2_closeLine_8 fl_X2_21 ho (rf_2_3 ho) ?_
    refine ex_aload_n dX2_closeLine_11 rfl ?_
    refine mx_geti 2 dX2_closeLine_12 fl_X2_33 ho (isi_2_7 ho) ?_
    refine ex_aload_n dX2_closeLine_15 rfl ?_
    refine mx_geti 2 dX2_closeLine_16 fl_X2_37 ho (isi_2_8 ho) ?_
    obtain ⟨M2, qM2, h⟩ := b1E h
    refine mx_iast M2 dX2_closeLine_19 qM2 ?_
    refine ex_aload_n dX2_closeLine_20 rfl ?_
    refine ex_dup dX2_closeLine_21 rfl ?_
    refine mx_geti 2 dX2_closeLine_22 fl_X2_33 ho (isi_2_7 ho) ?_
    refine ex_iconst 1 dX2_closeLine_25 kI_1 ?_
    refine ex_iadd dX2_closeLine_26 ?_
    obtain ⟨M3, eM3, h⟩ := ltE h
    refine mx_puti 2 dX2_closeLine_27 fl_X2_33 rfl ⟨rfl, rfl⟩ ho (isi_2_7 ho) ?_
    rw [← eM3]
    cases h
    exact mx_retv dX2_closeLine_30 rfl
def f_X2_addStep (o : Nat) (a1 : Int32) (a2 : Int32) (M : Mem) : Option (Mem) :=
  b1 (ln (o + 5)) fun x1 => if x1 ≤ (M o 8) then (some M) else (b1 (ln (o + 6)) fun x3 => if x3 ≤ (M o 8) then (some M) else (b1 (wr M (o + 5) (M o 8) a1) fun M5 => b1 (wr M5 (o + 6) (M5 o 8) a2) fun M6 => lt (up2 M6 o 8 ((M6 o 8) + 1)) fun M7 => some M7))
set_option maxRecDepth 100000 in
set_option maxHeartbeats 4000000 in
theorem t_X2_addStep (l : Launch) (E : EV) (o : Nat) (a1 : Int32) (a2 : Int32) (ho : oc o = some 2) (M : Mem) {M' : Mem} (h : f_X2_addStep o a1 a2 M = some M') : RunM l E yX2_addStep cX2_addStep 3 none 0 [.ref o, .int a1, .int a2] M M' none := by
  refine RunM.of (by decide) (Nat.le_of_ble_eq_true rfl) ?_
  show XM l E (RX2, "addStep", cX2_addStep, 3) none 0 0 [some (.ref o), some (.int a1), some (.int a2)] [] M M' none
  unfold f_X2_addStep at h
  refine ex_aload_n dX2_addStep_0 rfl ?_
  refine mx_geti 2 dX2_addStep_1 fl_X2_37 ho (isi_2_8 ho) ?_
  refine ex_aload_n dX2_addStep_4 rfl ?_
  refine mx_getr 2 (o + 5) dX2_addStep_5 fl_X2_24 ho (rf_2_4 ho) ?_
  obtain ⟨x1, qx1, h⟩ := b1E h
  refine mx_alen x1 dX2_addStep_8 qx1 ?_
  refine ex_icmp_ge 54 dX2_addStep_9 (by decide) (fun c2 => ?_) (fun c2 => ?_)
  · rw [if_pos c2] at h
    cases h
    exact mx_retv dX2_addStep_54 rfl
  · rw [if_neg c2] at h
    refine ex_aload_n dX2_addStep_12 rfl ?_
    refine mx_geti 2 dX2_addStep_13 fl_X2_37 ho (isi_2_8 ho) ?_
    refine ex_aload_n dX2_addStep_16 rfl ?_
    refine mx_getr 2 (o + 6) dX2_addStep_17 fl_X2_27 ho (rf_2_5 ho) ?_
    obtain ⟨x3, qx3, h⟩ := b1E h
    refine mx_alen x3 dX2_addStep_20 qx3 ?_
    refine ex_icmp_ge 54 dX2_addStep_21 (by decide) (fun c4 => ?_) (fun c4 => ?_)
    · rw [if_pos c4] at h
      cases h
      exact mx_retv dX2_addStep_54 rfl
    · rw [if_neg c4] at h
      refine ex_aload_n dX2_addStep_24 rfl ?_
      refine mx_getr 2 (o + 5) dX2_addStep_25 fl_X2_24 ho (rf_2_4 ho) ?_
      refine ex_aload_n dX2_addStep_28 rfl ?_
      refine mx_geti 2 dX2_addStep_29 fl_X2_37 ho (isi_2_8 ho) ?_
      refine ex_iload_n dX2_addStep_32 rfl ?_
      obtain ⟨M5, qM5, h⟩ := b1E h
      refine mx_iast M5 dX2_addStep_33 qM5 ?_
      refine ex_aload_n dX2_addStep_34 rfl ?_
      refine mx_getr 2 (o + 6) dX2_addStep_35 fl_X2_27 ho (rf_2_5 ho) ?_
      refine ex_aload_n dX2_addStep_38 rfl ?_
      refine mx_geti 2 dX2_addStep_39 fl_X2_37 ho (isi_2_8 ho) ?_
      refine ex_iload_n dX2_addStep_42 rfl ?_
      obtain ⟨M6, qM6, h⟩ := b1E h
      refine mx_iast M6 dX2_addStep_43 qM6 ?_
      refine ex_aload_n dX2_addStep_44 rfl ?_
      refine ex_dup dX2_addStep_45 rfl ?_
      refine mx_geti 2 dX2_addStep_46 fl_X2_37 ho (isi_2_8 ho) ?_
      refine ex_iconst 1 dX2_addStep_49 kI_1 ?_
      refine ex_iadd dX2_addStep_50 ?_
      obtain ⟨M7, eM7, h⟩ := ltE h
      refine mx_puti 2 dX2_addStep_51 fl_X2_37 rfl ⟨rfl, rfl⟩ ho (isi_2_8 ho) ?_
      rw [← eM7]
      cases h
      exact mx_retv dX2_addStep_54 rfl
def f_X2_copyFrom (o : Nat) (a1 : Nat) (M : Mem) : Option (Mem) :=
  b1 (cpy M (a1 + 1) 0 (o + 1) 0 16) fun M1 => b1 (cpy M1 (a1 + 2) 0 (o + 2) 0 16) fun M2 => b1 (cpy M2 (a1 + 3) 0 (o + 3) 0 16) fun M3 => b1 (cpy M3 (a1 + 4) 0 (o + 4) 0 16) fun M4 => b1 (cpy M4 (a1 + 5) 0 (o + 5) 0 400) fun M5 => b1 (cpy M5 (a1 + 6) 0 (o + 6) 0 400) fun M6 => lt (up2 M6 o 7 (M6 a1 7)) fun M7 => lt (up2 M7 o 8 (M7 a1 8)) fun M8 => some M8
set_option maxRecDepth 100000 in
set_option maxHeartbeats 4000000 in
theorem t_X2_copyFrom (l : Launch) (E : EV) (o : Nat) (a1 : Nat) (ho : oc o = some 2) (ha1 : oc a1 = some 2) (M : Mem) {M' : Mem} (h : f_X2_copyFrom o a1 M = some M') : RunM l E yX2_copyFrom cX2_copyFrom 2 none 1 [.ref o, .ref a1] M M' none := by
  refine RunM.of (by decide) (Nat.le_of_ble_eq_true rfl) ?_
  show XM l E (RX2, "copyFrom", cX2_copyFrom, 2) none 1 0 [some (.ref o), some (.ref a1)] [] M M' none
  unfold f_X2_copyFrom at h
  refine ex_aload_n dX2_copyFrom_0 rfl ?_
  refine mx_getr 2 (a1 + 1) dX2_copyFrom_1 fl_X2_11 ha1 (rf_2_0 ha1) ?_
  refine ex_iconst 0 dX2_copyFrom_4 kI_0 ?_
  refine ex_aload_n dX2_copyFrom_5 rfl ?_
  refine mx_getr 2 (o + 1) dX2_copyFrom_6 fl_X2_11 ho (rf_2_0 ho) ?_
  refine ex_iconst 0 dX2_copyFrom_9 kI_0 ?_
  refine ex_bipush 16 dX2_copyFrom_10 kB_16 ?_
  obtain ⟨M1, qM1, h⟩ := b1E h
  refine mx_copy M1 dX2_copyFrom_12 (tb (i := 959) (by decide +kernel)) ac_nat ac_sta ac_ini (by decide) (Nat.le_of_ble_eq_true rfl) qM1 ?_
  refine ex_aload_n dX2_copyFrom_15 rfl ?_
  refine mx_getr 2 (a1 + 2) dX2_copyFrom_16 fl_X2_15 ha1 (rf_2_1 ha1) ?_
  refine ex_iconst 0 dX2_copyFrom_19 kI_0 ?_
  refine ex_aload_n dX2_copyFrom_20 rfl ?_
  refine mx_getr 2 (o + 2) dX2_copyFrom_21 fl_X2_15 ho (rf_2_1 ho) ?_
  refine ex_iconst 0 dX2_copyFrom_24 kI_0 ?_
  refine ex_bipush 16 dX2_copyFrom_25 kB_16 ?_
  obtain ⟨M2, qM2, h⟩ := b1E h
  refine mx_copy M2 dX2_copyFrom_27 (tb (i := 959) (by decide +kernel)) ac_nat ac_sta ac_ini (by decide) (Nat.le_of_ble_eq_true rfl) qM2 ?_
  refine ex_aload_n dX2_copyFrom_30 rfl ?_
  refine mx_getr 2 (a1 + 3) dX2_copyFrom_31 fl_X2_18 ha1 (rf_2_2 ha1) ?_
  refine ex_iconst 0 dX2_copyFrom_34 kI_0 ?_
  refine ex_aload_n dX2_copyFrom_35 rfl ?_
  refine mx_getr 2 (o + 3) dX2_copyFrom_36 fl_X2_18 ho (rf_2_2 ho) ?_
  refine ex_iconst 0 dX2_copyFrom_39 kI_0 ?_
  refine ex_bipush 16 dX2_copyFrom_40 kB_16 ?_
  obtain ⟨M3, qM3, h⟩ := b1E h
  refine mx_copy M3 dX2_copyFrom_42 (tb (i := 959) (by decide +kernel)) ac_nat ac_sta ac_ini (by decide) (Nat.le_of_ble_eq_true rfl) qM3 ?_
  refine ex_aload_n dX2_copyFrom_45 rfl ?_
  refine mx_getr 2 (a1 + 4) dX2_copyFrom_46 fl_X2_21 ha1 (rf_2_3 ha1) ?_
  refine ex_iconst 0 dX2_copyFrom_49 kI_0 ?_
  refine ex_aload_n dX2_copyFrom_50 rfl ?_
  refine mx_getr 2 (o + 4) dX2_copyFrom_51 fl_X2_21 ho (rf_2_3 ho) ?_
  refine ex_iconst 0 dX2_copyFrom_54 kI_0 ?_
  refine ex_bipush 16 dX2_copyFrom_55 kB_16 ?_
  obtain ⟨M4, qM4, h⟩ := b1E h
  refine mx_copy M4 dX2_copyFrom_57 (tb (i := 959) (by decide +kernel)) ac_nat ac_sta ac_ini (by decide) (Nat.le_of_ble_eq_true rfl) qM4 ?_
  refine ex_aload_n dX2_copyFrom_60 rfl ?_
  refine mx_getr 2 (a1 + 5) dX2_copyFrom_61 fl_X2_24 ha1 (rf_2_4 ha1) ?_
  refine ex_iconst 0 dX2_copyFrom_64 kI_0 ?_
  refine ex_aload_n dX2_copyFrom_65 rfl ?_
  refine mx_getr 2 (o + 5) dX2_copyFrom_66 fl_X2_24 ho (rf_2_4 ho) ?_
  refine ex_iconst 0 dX2_copyFrom_69 kI_0 ?_
  refine ex_sipush 400 dX2_copyFrom_70 kS_400 ?_
  obtain ⟨M5, qM5, h⟩ := b1E h
  refine mx_copy M5 dX2_copyFrom_73 (tb (i := 959) (by decide +kernel)) ac_nat ac_sta ac_ini (by decide) (Nat.le_of_ble_eq_true rfl) qM5 ?_
  refine ex_aload_n dX2_copyFrom_76 rfl ?_
  refine mx_getr 2 (a1 + 6) dX2_copyFrom_77 fl_X2_27 ha1 (rf_2_5 ha1) ?_
  refine ex_iconst 0 dX2_copyFrom_80 kI_0 ?_
  refine ex_aload_n dX2_copyFrom_81 rfl ?_
  refine mx_getr 2 (o + 6) dX2_copyFrom_82 fl_X2_27 ho (rf_2_5 ho) ?_
  refine ex_iconst 0 dX2_copyFrom_85 kI_0 ?_
  refine ex_sipush 400 dX2_copyFrom_86 kS_400 ?_
  obtain ⟨M6, qM6, h⟩ := b1E h
  refine mx_copy M6 dX2_copyFrom_89 (tb (i := 959) (by decide +kernel)) ac_nat ac_sta ac_ini (by decide) (Nat.le_of_ble_eq_true rfl) qM6 ?_
  refine ex_aload_n dX2_copyFrom_92 rfl ?_
  refine ex_aload_n dX2_copyFrom_93 rfl ?_
  refine mx_geti 2 dX2_copyFrom_94 fl_X2_33 ha1 (isi_2_7 ha1) ?_
  obtain ⟨M7, eM7, h⟩ := ltE h
  refine mx_puti 2 dX2_copyFrom_97 fl_X2_33 rfl ⟨rfl, rfl⟩ ho (isi_2_7 ho) ?_
  rw [← eM7]
  refine ex_aload_n dX2_copyFrom_100 rfl ?_
  refine ex_aload_n dX2_copyFrom_101 rfl ?_
  refine mx_geti 2 dX2_copyFrom_102 fl_X2_37 ha1 (isi_2_8 ha1) ?_
  obtain ⟨M8, eM8, h⟩ := ltE h
  refine mx_puti 2 dX2_copyFrom_105 fl_X2_37 rfl ⟨rfl, rfl⟩ ho (isi_2_8 ho) ?_
  rw [← eM8]
  cases h
  exact mx_retv dX2_copyFrom_108 rfl
def f_X2_ofTwo (a1 : Int32) (a2 : Int32) (a3 : Int32) : Option (Int32) :=
  if a1.toInt = 42 then (some (a2 * a3)) else if a1.toInt = 43 then (some (a2 + a3)) else if a1.toInt = 45 then (some (a2 - a3)) else if a1.toInt = 47 then (if a3 = 0 then (some 0) else (if a3 = 0 then none else some (a2 / a3))) else if a1.toInt = 60 then (lt ((if a3 ≤ a2 then 0 else 1) : Int32) fun x8 => some x8) else if a1.toInt = 61 then (lt ((if a2 = a3 then 1 else 0) : Int32) fun x11 => some x11) else if a1.toInt = 62 then (lt ((if a2 ≤ a3 then 0 else 1) : Int32) fun x14 => some x14) else if a1.toInt = 313 then (some (a2 &&& a3)) else some (a2 ||| a3)
set_option maxRecDepth 100000 in
set_option maxHeartbeats 4000000 in
theorem t_X2_ofTwo (l : Launch) (E : EV) (a1 : Int32) (a2 : Int32) (a3 : Int32) (M : Mem) {r : Int32} (h : f_X2_ofTwo a1 a2 a3 = some r) : RunM l E yX2_ofTwo cX2_ofTwo 3 (some .int) 0 [.int a1, .int a2, .int a3] M M (some (.int r)) := by
  refine RunM.of (by decide) (Nat.le_of_ble_eq_true rfl) ?_
  show XM l E (RX2, "ofTwo", cX2_ofTwo, 3) (some .int) 0 0 [some (.int a1), some (.int a2), some (.int a3)] [] M M (some (.int r))
  unfold f_X2_ofTwo at h
  refine ex_iload_n dX2_ofTwo_0 rfl ?_
  by_cases c1 : a1.toInt = 42
  · rw [if_pos c1] at h
    refine ex_lsw (83) 84 dX2_ofTwo_1 (by decide) (by rw [c1]; decide) (by decide) ?_
    refine ex_iload_n dX2_ofTwo_84 rfl ?_
    refine ex_iload_n dX2_ofTwo_85 rfl ?_
    refine ex_imul dX2_ofTwo_86 ?_
    cases h
    exact mx_reti .int dX2_ofTwo_87 ⟨rfl, rfl⟩
  rw [if_neg c1] at h
  by_cases c2 : a1.toInt = 43
  · rw [if_pos c2] at h
    refine ex_lsw (75) 76 dX2_ofTwo_1 (by decide) (by rw [c2]; decide) (by decide) ?_
    refine ex_iload_n dX2_ofTwo_76 rfl ?_
    refine ex_iload_n dX2_ofTwo_77 rfl ?_
    refine ex_iadd dX2_ofTwo_78 ?_
    cases h
    exact mx_reti .int dX2_ofTwo_79 ⟨rfl, rfl⟩
  rw [if_neg c2] at h
  by_cases c3 : a1.toInt = 45
  · rw [if_pos c3] at h
    refine ex_lsw (79) 80 dX2_ofTwo_1 (by decide) (by rw [c3]; decide) (by decide) ?_
    refine ex_iload_n dX2_ofTwo_80 rfl ?_
    refine ex_iload_n dX2_ofTwo_81 rfl ?_
    refine ex_isub dX2_ofTwo_82 ?_
    cases h
    exact mx_reti .int dX2_ofTwo_83 ⟨rfl, rfl⟩
  rw [if_neg c3] at h
  by_cases c6 : a1.toInt = 47
  · rw [if_pos c6] at h
    refine ex_lsw (87) 88 dX2_ofTwo_1 (by decide) (by rw [c6]; decide) (by decide) ?_
    refine ex_iload_n dX2_ofTwo_88 rfl ?_
    refine ex_if_ne 96 dX2_ofTwo_89 (by decide) (fun c4 => ?_) (fun c4 => ?_)
    · rw [if_neg c4] at h
      refine ex_iload_n dX2_ofTwo_96 rfl ?_
      refine ex_iload_n dX2_ofTwo_97 rfl ?_
      by_cases c5 : a3 = 0
      · rw [if_pos c5] at h; cases h
      rw [if_neg c5] at h
      refine ex_idiv dX2_ofTwo_98 c5 ?_
      cases h
      exact mx_reti .int dX2_ofTwo_99 ⟨rfl, rfl⟩
    · rw [if_pos c4] at h
      refine ex_iconst 0 dX2_ofTwo_92 kI_0 ?_
      refine ex_goto 99 dX2_ofTwo_93 (by decide) ?_
      cases h
      exact mx_reti .int dX2_ofTwo_99 ⟨rfl, rfl⟩
  rw [if_neg c6] at h
  by_cases c9 : a1.toInt = 60
  · rw [if_pos c9] at h
    refine ex_lsw (99) 100 dX2_ofTwo_1 (by decide) (by rw [c9]; decide) (by decide) ?_
    refine ex_iload_n dX2_ofTwo_100 rfl ?_
    refine ex_iload_n dX2_ofTwo_101 rfl ?_
    obtain ⟨x8, ex8, h⟩ := ltE h
    have Jx8 : XM l E (RX2, "ofTwo", cX2_ofTwo, 3) (some .int) 0 110 [some (.int a1), some (.int a2), some (.int a3)] [.int x8] M M (some (.int r)) := by
      cases h
      exact mx_reti .int dX2_ofTwo_110 ⟨rfl, rfl⟩
    clear h
    refine ex_icmp_ge 109 dX2_ofTwo_102 (by decide) (fun c7 => ?_) (fun c7 => ?_)
    · rw [if_pos c7] at ex8
      refine ex_iconst 0 dX2_ofTwo_109 kI_0 ?_
      subst ex8
      exact Jx8
    · rw [if_neg c7] at ex8
      refine ex_iconst 1 dX2_ofTwo_105 kI_1 ?_
      refine ex_goto 110 dX2_ofTwo_106 (by decide) ?_
      subst ex8
      exact Jx8
  rw [if_neg c9] at h
  by_cases c12 : a1.toInt = 61
  · rw [if_pos c12] at h
    refine ex_lsw (110) 111 dX2_ofTwo_1 (by decide) (by rw [c12]; decide) (by decide) ?_
    refine ex_iload_n dX2_ofTwo_111 rfl ?_
    refine ex_iload_n dX2_ofTwo_112 rfl ?_
    obtain ⟨x11, ex11, h⟩ := ltE h
    have Jx11 : XM l E (RX2, "ofTwo", cX2_ofTwo, 3) (some .int) 0 121 [some (.int a1), some (.int a2), some (.int a3)] [.int x11] M M (some (.int r)) := by
      cases h
      exact mx_reti .int dX2_ofTwo_121 ⟨rfl, rfl⟩
    clear h
    refine ex_icmp_ne 120 dX2_ofTwo_113 (by decide) (fun c10 => ?_) (fun c10 => ?_)
    · rw [if_neg c10] at ex11
      refine ex_iconst 0 dX2_ofTwo_120 kI_0 ?_
      subst ex11
      exact Jx11
    · rw [if_pos c10] at ex11
      refine ex_iconst 1 dX2_ofTwo_116 kI_1 ?_
      refine ex_goto 121 dX2_ofTwo_117 (by decide) ?_
      subst ex11
      exact Jx11
  rw [if_neg c12] at h
  by_cases c15 : a1.toInt = 62
  · rw [if_pos c15] at h
    refine ex_lsw (121) 122 dX2_ofTwo_1 (by decide) (by rw [c15]; decide) (by decide) ?_
    refine ex_iload_n dX2_ofTwo_122 rfl ?_
    refine ex_iload_n dX2_ofTwo_123 rfl ?_
    obtain ⟨x14, ex14, h⟩ := ltE h
    have Jx14 : XM l E (RX2, "ofTwo", cX2_ofTwo, 3) (some .int) 0 132 [some (.int a1), some (.int a2), some (.int a3)] [.int x14] M M (some (.int r)) := by
      cases h
      exact mx_reti .int dX2_ofTwo_132 ⟨rfl, rfl⟩
    clear h
    refine ex_icmp_le 131 dX2_ofTwo_124 (by decide) (fun c13 => ?_) (fun c13 => ?_)
    · rw [if_pos c13] at ex14
      refine ex_iconst 0 dX2_ofTwo_131 kI_0 ?_
      subst ex14
      exact Jx14
    · rw [if_neg c13] at ex14
      refine ex_iconst 1 dX2_ofTwo_127 kI_1 ?_
      refine ex_goto 132 dX2_ofTwo_128 (by decide) ?_
      subst ex14
      exact Jx14
  rw [if_neg c15] at h
  by_cases c16 : a1.toInt = 313
  · rw [if_pos c16] at h
    refine ex_lsw (132) 133 dX2_ofTwo_1 (by decide) (by rw [c16]; decide) (by decide) ?_
    refine ex_iload_n dX2_ofTwo_133 rfl ?_
    refine ex_iload_n dX2_ofTwo_134 rfl ?_
    refine ex_iand dX2_ofTwo_135 ?_
    cases h
    exact mx_reti .int dX2_ofTwo_136 ⟨rfl, rfl⟩
  rw [if_neg c16] at h
  refine ex_lsw (136) 137 dX2_ofTwo_1 (by decide) (by simp [Op.lookupswitch.offset, Ne.symm c1, Ne.symm c2, Ne.symm c3, Ne.symm c6, Ne.symm c9, Ne.symm c12, Ne.symm c15, Ne.symm c16]) (by decide) ?_
  refine ex_iload_n dX2_ofTwo_137 rfl ?_
  refine ex_iload_n dX2_ofTwo_138 rfl ?_
  refine ex_ior dX2_ofTwo_139 ?_
  cases h
  exact mx_reti .int dX2_ofTwo_140 ⟨rfl, rfl⟩
