def f_X8_cellOf (o : Nat) (a1 : Int32) (a2 : Int32) (M : Mem) : Option (Int32) :=
  if (a1 < 0 ∨ ((M o 3) ≤ a1 ∨ (a2 < 0 ∨ ¬ (a2 < (M o 1))))) then (some (-1)) else (b1 (ln (o + 1)) fun x6 => lt (if x6 ≤ ((a1 * (M o 1)) + a2) then (-1) else ((a1 * (M o 1)) + a2)) fun x8 => some x8)
set_option maxRecDepth 100000 in
set_option maxHeartbeats 4000000 in
theorem t_X8_cellOf (l : Launch) (E : EV) (o : Nat) (a1 : Int32) (a2 : Int32) (ho : oc o = some 8) (M : Mem) {r : Int32} (h : f_X8_cellOf o a1 a2 M = some r) : RunM l E yX8_cellOf cX8_cellOf 4 (some .int) 0 [.ref o, .int a1, .int a2] M M (some (.int r)) := by
  refine RunM.of (by decide) (Nat.le_of_ble_eq_true rfl) ?_
  show XM l E (RX8, "cellOf", cX8_cellOf, 4) (some .int) 0 0 [some (.ref o), some (.int a1), some (.int a2), none] [] M M (some (.int r))
  unfold f_X8_cellOf at h
  refine ex_iload_n dX8_cellOf_0 rfl ?_
  have JXC5 : (a1 < 0 ∨ ((M o 3) ≤ a1 ∨ (a2 < 0 ∨ ¬ (a2 < (M o 1))))) → XM l E (RX8, "cellOf", cX8_cellOf, 4) (some .int) 0 24 [some (.ref o), some (.int a1), some (.int a2), none] [] M M (some (.int r)) := fun C5 => by
    rw [if_pos C5] at h
    refine ex_iconst (-1) dX8_cellOf_24 kI_m1 ?_
    cases h
    exact mx_reti .int dX8_cellOf_25 ⟨rfl, rfl⟩
  have JYC5 : ¬ ((a1 < 0 ∨ ((M o 3) ≤ a1 ∨ (a2 < 0 ∨ ¬ (a2 < (M o 1)))))) → XM l E (RX8, "cellOf", cX8_cellOf, 4) (some .int) 0 34 [some (.ref o), some (.int a1), some (.int a2), none] [.int ((a1 * (M o 1)) + a2)] M M (some (.int r)) := fun C5 => by
    rw [if_neg C5] at h
    refine ex_istore_n (L2 := [some (.ref o), some (.int a1), some (.int a2), some (.int ((a1 * (M o 1)) + a2))]) dX8_cellOf_34 (by decide) rfl ?_
    refine ex_iload_n dX8_cellOf_35 rfl ?_
    refine ex_aload_n dX8_cellOf_36 rfl ?_
    refine mx_getr 8 (o + 1) dX8_cellOf_37 fl_X8_18 ho (rf_8_2 ho) ?_
    obtain ⟨x6, qx6, h⟩ := b1E h
    refine mx_alen x6 dX8_cellOf_40 qx6 ?_
    obtain ⟨x8, ex8, h⟩ := ltE h
    have Jx8 : XM l E (RX8, "cellOf", cX8_cellOf, 4) (some .int) 0 49 [some (.ref o), some (.int a1), some (.int a2), some (.int ((a1 * (M o 1)) + a2))] [.int x8] M M (some (.int r)) := by
      cases h
      exact mx_reti .int dX8_cellOf_49 ⟨rfl, rfl⟩
    clear h
    refine ex_icmp_ge 48 dX8_cellOf_41 (by decide) (fun c7 => ?_) (fun c7 => ?_)
    · rw [if_pos c7] at ex8
      refine ex_iconst (-1) dX8_cellOf_48 kI_m1 ?_
      subst ex8
      exact Jx8
    · rw [if_neg c7] at ex8
      refine ex_iload_n dX8_cellOf_44 rfl ?_
      refine ex_goto 49 dX8_cellOf_45 (by decide) ?_
      subst ex8
      exact Jx8
  clear h
  refine ex_if_lt 24 dX8_cellOf_1 (by decide) (fun c1 => ?_) (fun c1 => ?_)
  · exact JXC5 (Or.inl c1)
  · refine ex_iload_n dX8_cellOf_4 rfl ?_
    refine ex_aload_n dX8_cellOf_5 rfl ?_
    refine mx_geti 8 dX8_cellOf_6 fl_X8_22 ho (isi_8_3 ho) ?_
    refine ex_icmp_ge 24 dX8_cellOf_9 (by decide) (fun c2 => ?_) (fun c2 => ?_)
    · exact JXC5 (Or.inr (Or.inl c2))
    · refine ex_iload_n dX8_cellOf_12 rfl ?_
      refine ex_if_lt 24 dX8_cellOf_13 (by decide) (fun c3 => ?_) (fun c3 => ?_)
      · exact JXC5 (Or.inr (Or.inr (Or.inl c3)))
      · refine ex_iload_n dX8_cellOf_16 rfl ?_
        refine ex_aload_n dX8_cellOf_17 rfl ?_
        refine mx_geti 8 dX8_cellOf_18 fl_X8_15 ho (isi_8_1 ho) ?_
        refine ex_icmp_lt 26 dX8_cellOf_21 (by decide) (fun c4 => ?_) (fun c4 => ?_)
        · refine ex_iload_n dX8_cellOf_26 rfl ?_
          refine ex_aload_n dX8_cellOf_27 rfl ?_
          refine mx_geti 8 dX8_cellOf_28 fl_X8_15 ho (isi_8_1 ho) ?_
          refine ex_imul dX8_cellOf_31 ?_
          refine ex_iload_n dX8_cellOf_32 rfl ?_
          refine ex_iadd dX8_cellOf_33 ?_
          exact JYC5 (fun z => z.elim c1 (fun z => z.elim c2 (fun z => z.elim c3 (fun z => z c4))))
        · exact JXC5 (Or.inr (Or.inr (Or.inr c4)))
def f_X8_at (o : Nat) (a1 : Int32) (a2 : Int32) (M : Mem) : Option (Int32) :=
  b1 (f_X8_cellOf o a1 a2 M) fun x1 => if x1 < 0 then (some (-1)) else (b1 (rd M (o + 1) x1) fun x3 => some x3)
set_option maxRecDepth 100000 in
set_option maxHeartbeats 4000000 in
theorem t_X8_at (l : Launch) (E : EV) (o : Nat) (a1 : Int32) (a2 : Int32) (ho : oc o = some 8) (M : Mem) {r : Int32} (h : f_X8_at o a1 a2 M = some r) : RunM l E yX8_at cX8_at 4 (some .int) 1 [.ref o, .int a1, .int a2] M M (some (.int r)) := by
  refine RunM.of (by decide) (Nat.le_of_ble_eq_true rfl) ?_
  show XM l E (RX8, "at", cX8_at, 4) (some .int) 1 0 [some (.ref o), some (.int a1), some (.int a2), none] [] M M (some (.int r))
  unfold f_X8_at at h
  refine ex_aload_n dX8_at_0 rfl ?_
  refine ex_iload_n dX8_at_1 rfl ?_
  refine ex_iload_n dX8_at_2 rfl ?_
  obtain ⟨x1, qx1, h⟩ := b1E h
  refine mx_cVi [.int a1, .int a2] [] o 8 x1 dX8_at_3 cl_X8_25 im_X8_cellOf cy_X8_cellOf ho rfl (Nat.le_of_ble_eq_true rfl) (by decide) (t_X8_cellOf l E o a1 a2 ho M qx1) ?_
  refine ex_istore_n (L2 := [some (.ref o), some (.int a1), some (.int a2), some (.int x1)]) dX8_at_6 (by decide) rfl ?_
  refine ex_iload_n dX8_at_7 rfl ?_
  refine ex_if_lt 20 dX8_at_8 (by decide) (fun c2 => ?_) (fun c2 => ?_)
  · rw [if_pos c2] at h
    refine ex_iconst (-1) dX8_at_20 kI_m1 ?_
    cases h
    exact mx_reti .int dX8_at_21 ⟨rfl, rfl⟩
  · rw [if_neg c2] at h
    refine ex_aload_n dX8_at_11 rfl ?_
    refine mx_getr 8 (o + 1) dX8_at_12 fl_X8_18 ho (rf_8_2 ho) ?_
    refine ex_iload_n dX8_at_15 rfl ?_
    obtain ⟨x3, qx3, h⟩ := b1E h
    refine mx_iald x3 dX8_at_16 qx3 ?_
    refine ex_goto 21 dX8_at_17 (by decide) ?_
    cases h
    exact mx_reti .int dX8_at_21 ⟨rfl, rfl⟩
def f_J9_min_7cf53 (a1 : Int32) (a2 : Int32) : (Int32) :=
  lt (if a2 < a1 then a2 else a1) fun x2 => x2
set_option maxRecDepth 100000 in
set_option maxHeartbeats 4000000 in
theorem t_J9_min_7cf53 (l : Launch) (E : EV) (a1 : Int32) (a2 : Int32) (M : Mem) {r : Int32} (h : f_J9_min_7cf53 a1 a2 = r) : RunM l E yJ9_min_7cf53 cJ9_min_7cf53 2 (some .int) 0 [.int a1, .int a2] M M (some (.int r)) := by
  refine RunM.of (by decide) (Nat.le_of_ble_eq_true rfl) ?_
  show XM l E (RJ9, "min", cJ9_min_7cf53, 2) (some .int) 0 0 [some (.int a1), some (.int a2)] [] M M (some (.int r))
  unfold f_J9_min_7cf53 at h
  refine ex_iload_n dJ9_min_7cf53_0 rfl ?_
  refine ex_iload_n dJ9_min_7cf53_1 rfl ?_
  obtain ⟨x2, ex2, h⟩ := ltE h
  have Jx2 : XM l E (RJ9, "min", cJ9_min_7cf53, 2) (some .int) 0 10 [some (.int a1), some (.int a2)] [.int x2] M M (some (.int r)) := by
    subst h
    exact mx_reti .int dJ9_min_7cf53_10 ⟨rfl, rfl⟩
  clear h
  refine ex_icmp_gt 9 dJ9_min_7cf53_2 (by decide) (fun c1 => ?_) (fun c1 => ?_)
  · rw [if_pos c1] at ex2
    refine ex_iload_n dJ9_min_7cf53_9 rfl ?_
    subst ex2
    exact Jx2
  · rw [if_neg c1] at ex2
    refine ex_iload_n dJ9_min_7cf53_5 rfl ?_
    refine ex_goto 10 dJ9_min_7cf53_6 (by decide) ?_
    subst ex2
    exact Jx2
def f_X10_isIn (a1 : Int32) (a2 : Int32) : (Int32) :=
  lt (if ((a1 >>> (a2 &&& 31)) &&& 1) = 1 then 1 else 0) fun x2 => x2
theorem z_X10_isIn (a1 : Int32) (a2 : Int32) : f_X10_isIn a1 a2 = 0 ∨ f_X10_isIn a1 a2 = 1 := by
  unfold f_X10_isIn
  (repeat' split) <;> first | exact Or.inl rfl | exact Or.inr rfl
set_option maxRecDepth 100000 in
set_option maxHeartbeats 4000000 in
theorem t_X10_isIn (l : Launch) (E : EV) (a1 : Int32) (a2 : Int32) (M : Mem) {r : Int32} (h : f_X10_isIn a1 a2 = r) : RunM l E yX10_isIn cX10_isIn 2 (some .boolean) 0 [.int a1, .int a2] M M (some (.int r)) := by
  refine RunM.of (by decide) (Nat.le_of_ble_eq_true rfl) ?_
  show XM l E (RX10, "isIn", cX10_isIn, 2) (some .boolean) 0 0 [some (.int a1), some (.int a2)] [] M M (some (.int r))
  unfold f_X10_isIn at h
  refine ex_iload_n dX10_isIn_0 rfl ?_
  refine ex_iload_n dX10_isIn_1 rfl ?_
  refine ex_ishr dX10_isIn_2 ?_
  refine ex_iconst 1 dX10_isIn_3 kI_1 ?_
  refine ex_iand dX10_isIn_4 ?_
  refine ex_iconst 1 dX10_isIn_5 kI_1 ?_
  obtain ⟨x2, ex2, h⟩ := ltE h
  have Jx2 : XM l E (RX10, "isIn", cX10_isIn, 2) (some .boolean) 0 14 [some (.int a1), some (.int a2)] [.int x2] M M (some (.int r)) := by
    subst h
    exact mx_reti .boolean dX10_isIn_14 ⟨rfl, nzB (by rw [ex2]; (repeat' split) <;> simp)⟩
  clear h
  refine ex_icmp_ne 13 dX10_isIn_6 (by decide) (fun c1 => ?_) (fun c1 => ?_)
  · rw [if_neg c1] at ex2
    refine ex_iconst 0 dX10_isIn_13 kI_0 ?_
    subst ex2
    exact Jx2
  · rw [if_pos c1] at ex2
    refine ex_iconst 1 dX10_isIn_9 kI_1 ?_
    refine ex_goto 14 dX10_isIn_10 (by decide) ?_
    subst ex2
    exact Jx2
