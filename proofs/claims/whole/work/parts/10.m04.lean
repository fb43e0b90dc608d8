def w_X5_walkOn_2 (o : Nat) (a1 : Int32) (a2 : Int32) (i1 : Int32) (M2 : Mem) : Option ((Int32 × Mem) ⊕ (Mem)) :=
  if (M2 (o + 7) 3) ≤ i1 then (some (.inr M2)) else (lt (a1 ||| (1 <<< (i1 &&& 31))) fun x4 => if (x4 = a1 ∨ a2 ≤ x4) then (some (.inl ((i1 + 1), M2))) else (b1 (ln (o + 17)) fun x8 => if x8 ≤ x4 then (some (.inl ((i1 + 1), M2))) else (b1 (rd M2 (o + 17) a1) fun x10 => b1 (f_X8_at (o + 7) i1 0 M2) fun x11 => if (f_X10_isIn x10 x11) = 0 then (some (.inl ((i1 + 1), M2))) else (b1 (rd M2 (o + 17) x4) fun x13 => b1 (f_X8_at (o + 7) i1 1 M2) fun x14 => b1 (wr M2 (o + 17) x4 (x13 ||| (1 <<< (x14 &&& 31)))) fun M15 => some (.inl ((i1 + 1), M15))))))
def f_X5_walkOn (o : Nat) (a1 : Int32) (a2 : Int32) (M : Mem) : Option (Mem) :=
  b1 (lp (fun s => w_X5_walkOn_2 o a1 a2 s.1 s.2) FU (0, M)) fun q16 => some q16
set_option maxRecDepth 100000 in
set_option maxHeartbeats 4000000 in
theorem t_X5_walkOn (l : Launch) (E : EV) (o : Nat) (a1 : Int32) (a2 : Int32) (ho : oc o = some 5) (M : Mem) {M' : Mem} (h : f_X5_walkOn o a1 a2 M = some M') : RunM l E yX5_walkOn cX5_walkOn 6 none 2 [.ref o, .int a1, .int a2] M M' none := by
  refine RunM.of (by decide) (Nat.le_of_ble_eq_true rfl) ?_
  show XM l E (RX5, "walkOn", cX5_walkOn, 6) none 2 0 [some (.ref o), some (.int a1), some (.int a2), none, none, none] [] M M' none
  unfold f_X5_walkOn at h
  refine ex_iconst 0 dX5_walkOn_0 kI_0 ?_
  refine ex_istore_n (L2 := [some (.ref o), some (.int a1), some (.int a2), some (.int 0), none, none]) dX5_walkOn_1 (by decide) rfl ?_
  refine ex_mskL [true, true, true, true, false, false] (L2 := [some (.ref o), some (.int a1), some (.int a2), some (.int 0), none, none]) rfl ?_
  obtain ⟨q16, hlq16, h⟩ := b1E h
  have hx : XM l E (RX5, "walkOn", cX5_walkOn, 6) none 2 102 [none, none, none, none, none, none] [] q16 M' none := by
    cases h
    exact mx_retv dX5_walkOn_102 rfl
  clear h
  have key : ∀ (k : Nat) (s : Int32 × Mem), lp (fun s => w_X5_walkOn_2 o a1 a2 s.1 s.2) k s = some q16 → XM l E (RX5, "walkOn", cX5_walkOn, 6) none 2 2 [some (.ref o), some (.int a1), some (.int a2), some (.int s.1), none, none] [] s.2 M' none := lp_ind (P := fun (s : Int32 × Mem) => XM l E (RX5, "walkOn", cX5_walkOn, 6) none 2 2 [some (.ref o), some (.int a1), some (.int a2), some (.int s.1), none, none] [] s.2 M' none) (fun s t hb hk he => by
    obtain ⟨i1, M2⟩ := s
    show XM l E (RX5, "walkOn", cX5_walkOn, 6) none 2 2 [some (.ref o), some (.int a1), some (.int a2), some (.int i1), none, none] [] M2 M' none
    change w_X5_walkOn_2 o a1 a2 i1 M2 = some t at hb
    unfold w_X5_walkOn_2 at hb
    refine ex_iload_n dX5_walkOn_2 rfl ?_
    refine ex_aload_n dX5_walkOn_3 rfl ?_
    refine mx_getr 5 (o + 7) dX5_walkOn_4 fl_X5_26 ho (rf_5_3 ho) ?_
    refine mx_geti 8 dX5_walkOn_7 fl_X5_42 (oc_5_3 ho) (isi_8_3 (oc_5_3 ho)) ?_
    refine ex_icmp_ge 102 dX5_walkOn_10 (by decide) (fun c3 => ?_) (fun c3 => ?_)
    · rw [if_pos c3] at hb
      refine ex_mskL [false, false, false, false, false, false] (L2 := [none, none, none, none, none, none]) rfl ?_
      cases hb
      cases (he _ rfl) <;> exact hx
    · rw [if_neg c3] at hb
      refine ex_iload_n dX5_walkOn_13 rfl ?_
      refine ex_iconst 1 dX5_walkOn_14 kI_1 ?_
      refine ex_iload_n dX5_walkOn_15 rfl ?_
      refine ex_ishl dX5_walkOn_16 ?_
      refine ex_ior dX5_walkOn_17 ?_
      obtain ⟨x4, ex4, hb⟩ := ltE hb
      rw [← ex4]
      refine ex_istore (L2 := [some (.ref o), some (.int a1), some (.int a2), some (.int i1), some (.int x4), none]) dX5_walkOn_18 (by decide) rfl ?_
      refine ex_iload dX5_walkOn_20 rfl ?_
      refine ex_iload_n dX5_walkOn_22 rfl ?_
      have JXC7 : (x4 = a1 ∨ a2 ≤ x4) → XM l E (RX5, "walkOn", cX5_walkOn, 6) none 2 67 [some (.ref o), some (.int a1), some (.int a2), some (.int i1), some (.int x4), none] [] M2 M' none := fun C7 => by
        rw [if_pos C7] at hb
        refine ex_iconst 0 dX5_walkOn_67 kI_0 ?_
        refine ex_istore (L2 := [some (.ref o), some (.int a1), some (.int a2), some (.int i1), some (.int x4), some (.int 0)]) dX5_walkOn_68 (by decide) rfl ?_
        refine ex_iload dX5_walkOn_70 rfl ?_
        refine ex_if_eq 96 dX5_walkOn_72 (by decide) (fun _ => ?_) (fun z => absurd (by decide) z)
        refine ex_iinc 1 (L2 := [some (.ref o), some (.int a1), some (.int a2), some (.int (i1 + 1)), some (.int x4), some (.int 0)]) dX5_walkOn_96 rfl kI_1 (by decide) rfl ?_
        refine ex_goto 2 dX5_walkOn_99 (by decide) ?_
        refine ex_mskL [true, true, true, true, false, false] (L2 := [some (.ref o), some (.int a1), some (.int a2), some (.int (i1 + 1)), none, none]) rfl ?_
        cases hb
        exact hk ((i1 + 1), M2) rfl
      have JYC7 : ¬ ((x4 = a1 ∨ a2 ≤ x4)) → XM l E (RX5, "walkOn", cX5_walkOn, 6) none 2 38 [some (.ref o), some (.int a1), some (.int a2), some (.int i1), some (.int x4), none] [.ref (o + 17), .int x4] M2 M' none := fun C7 => by
        rw [if_neg C7] at hb
        obtain ⟨x8, qx8, hb⟩ := b1E hb
        refine mx_alen x8 dX5_walkOn_38 qx8 ?_
        refine ex_icmp_ge 67 dX5_walkOn_39 (by decide) (fun c9 => ?_) (fun c9 => ?_)
        · rw [if_pos c9] at hb
          refine ex_iconst 0 dX5_walkOn_67 kI_0 ?_
          refine ex_istore (L2 := [some (.ref o), some (.int a1), some (.int a2), some (.int i1), some (.int x4), some (.int 0)]) dX5_walkOn_68 (by decide) rfl ?_
          refine ex_iload dX5_walkOn_70 rfl ?_
          refine ex_if_eq 96 dX5_walkOn_72 (by decide) (fun _ => ?_) (fun z => absurd (by decide) z)
          refine ex_iinc 1 (L2 := [some (.ref o), some (.int a1), some (.int a2), some (.int (i1 + 1)), some (.int x4), some (.int 0)]) dX5_walkOn_96 rfl kI_1 (by decide) rfl ?_
          refine ex_goto 2 dX5_walkOn_99 (by decide) ?_
          refine ex_mskL [true, true, true, true, false, false] (L2 := [some (.ref o), some (.int a1), some (.int a2), some (.int (i1 + 1)), none, none]) rfl ?_
          cases hb
          exact hk ((i1 + 1), M2) rfl
        · rw [if_neg c9] at hb
          refine ex_aload_n dX5_walkOn_42 rfl ?_
          refine mx_getr 5 (o + 17) dX5_walkOn_43 fl_X5_34 ho (rf_5_5 ho) ?_
          refine ex_iload_n dX5_walkOn_46 rfl ?_
          obtain ⟨x10, qx10, hb⟩ := b1E hb
          refine mx_iald x10 dX5_walkOn_47 qx10 ?_
          refine ex_aload_n dX5_walkOn_48 rfl ?_
          refine mx_getr 5 (o + 7) dX5_walkOn_49 fl_X5_26 ho (rf_5_3 ho) ?_
          refine ex_iload_n dX5_walkOn_52 rfl ?_
          refine ex_iconst 0 dX5_walkOn_53 kI_0 ?_
          obtain ⟨x11, qx11, hb⟩ := b1E hb
          refine mx_cVi [.int i1, .int 0] [.int x10] (o + 7) 8 x11 dX5_walkOn_54 cl_X5_58 im_X8_at cy_X8_at (oc_5_3 ho) rfl (Nat.le_of_ble_eq_true rfl) (by decide) (t_X8_at l E (o + 7) i1 0 (oc_5_3 ho) M2 qx11) ?_
          refine mx_cSi [.int x10, .int x11] [] (f_X10_isIn x10 x11) dX5_walkOn_57 cl_X5_63 sm_X10_isIn rfl (Nat.le_of_ble_eq_true rfl) (by decide) (t_X10_isIn l E x10 x11 M2 rfl) ?_
          refine ex_if_eq 67 dX5_walkOn_60 (by decide) (fun c12 => ?_) (fun c12 => ?_)
          · rw [if_pos c12] at hb
            refine ex_iconst 0 dX5_walkOn_67 kI_0 ?_
            refine ex_istore (L2 := [some (.ref o), some (.int a1), some (.int a2), some (.int i1), some (.int x4), some (.int 0)]) dX5_walkOn_68 (by decide) rfl ?_
            refine ex_iload dX5_walkOn_70 rfl ?_
            refine ex_if_eq 96 dX5_walkOn_72 (by decide) (fun _ => ?_) (fun z => absurd (by decide) z)
            refine ex_iinc 1 (L2 := [some (.ref o), some (.int a1), some (.int a2), some (.int (i1 + 1)), some (.int x4), some (.int 0)]) dX5_walkOn_96 rfl kI_1 (by decide) rfl ?_
            refine ex_goto 2 dX5_walkOn_99 (by decide) ?_
            refine ex_mskL [true, true, true, true, false, false] (L2 := [some (.ref o), some (.int a1), some (.int a2), some (.int (i1 + 1)), none, none]) rfl ?_
            cases hb
            exact hk ((i1 + 1), M2) rfl
          · rw [if_neg c12] at hb
            refine ex_iconst 1 dX5_walkOn_63 kI_1 ?_
            refine ex_goto 68 dX5_walkOn_64 (by decide) ?_
            refine ex_istore (L2 := [some (.ref o), some (.int a1), some (.int a2), some (.int i1), some (.int x4), some (.int 1)]) dX5_walkOn_68 (by decide) rfl ?_
            refine ex_iload dX5_walkOn_70 rfl ?_
            refine ex_if_eq 96 dX5_walkOn_72 (by decide) (fun z => absurd z (by decide)) (fun _ => ?_)
            refine ex_aload_n dX5_walkOn_75 rfl ?_
            refine mx_getr 5 (o + 17) dX5_walkOn_76 fl_X5_34 ho (rf_5_5 ho) ?_
            refine ex_iload dX5_walkOn_79 rfl ?_
            refine ex_dup2 dX5_walkOn_81 rfl rfl ?_
            obtain ⟨x13, qx13, hb⟩ := b1E hb
            refine mx_iald x13 dX5_walkOn_82 qx13 ?_
            refine ex_iconst 1 dX5_walkOn_83 kI_1 ?_
            refine ex_aload_n dX5_walkOn_84 rfl ?_
            refine mx_getr 5 (o + 7) dX5_walkOn_85 fl_X5_26 ho (rf_5_3 ho) ?_
            refine ex_iload_n dX5_walkOn_88 rfl ?_
            refine ex_iconst 1 dX5_walkOn_89 kI_1 ?_
            obtain ⟨x14, qx14, hb⟩ := b1E hb
            refine mx_cVi [.int i1, .int 1] [.int 1, .int x13, .int x4, .ref (o + 17)] (o + 7) 8 x14 dX5_walkOn_90 cl_X5_58 im_X8_at cy_X8_at (oc_5_3 ho) rfl (Nat.le_of_ble_eq_true rfl) (by decide) (t_X8_at l E (o + 7) i1 1 (oc_5_3 ho) M2 qx14) ?_
            refine ex_ishl dX5_walkOn_93 ?_
            refine ex_ior dX5_walkOn_94 ?_
            obtain ⟨M15, qM15, hb⟩ := b1E hb
            refine mx_iast M15 dX5_walkOn_95 qM15 ?_
            refine ex_iinc 1 (L2 := [some (.ref o), some (.int a1), some (.int a2), some (.int (i1 + 1)), some (.int x4), some (.int 1)]) dX5_walkOn_96 rfl kI_1 (by decide) rfl ?_
            refine ex_goto 2 dX5_walkOn_99 (by decide) ?_
            refine ex_mskL [true, true, true, true, false, false] (L2 := [some (.ref o), some (.int a1), some (.int a2), some (.int (i1 + 1)), none, none]) rfl ?_
            cases hb
            exact hk ((i1 + 1), M15) rfl
      clear hb
      refine ex_icmp_eq 67 dX5_walkOn_23 (by decide) (fun c5 => ?_) (fun c5 => ?_)
      · exact JXC7 (Or.inl c5)
      · refine ex_iload dX5_walkOn_26 rfl ?_
        refine ex_iload_n dX5_walkOn_28 rfl ?_
        refine ex_icmp_ge 67 dX5_walkOn_29 (by decide) (fun c6 => ?_) (fun c6 => ?_)
        · exact JXC7 (Or.inr c6)
        · refine ex_iload dX5_walkOn_32 rfl ?_
          refine ex_aload_n dX5_walkOn_34 rfl ?_
          refine mx_getr 5 (o + 17) dX5_walkOn_35 fl_X5_34 ho (rf_5_5 ho) ?_
          exact JYC7 (fun z => z.elim c5 c6))
  exact key FU (0, M) hlq16
def w_X5_fewestTradesBack_20 (o : Nat) (x2 : Int32) (i3 : Int32) (M4 : Mem) : Option ((Int32 × Mem) ⊕ (Mem)) :=
  if x2 ≤ i3 then (some (.inr M4)) else (b1 (wr M4 (o + 17) i3 0) fun M6 => some (.inl ((i3 + 1), M6)))
def w_X5_fewestTradesBack_52 (o : Nat) (a1 : Int32) (x2 : Int32) (i9 : Int32) (i10 : Int32) (M11 : Mem) : Option ((Int32 × Int32 × Mem) ⊕ (Int32 × Mem)) :=
  if x2 ≤ i10 then (some (.inr (i9, M11))) else (lt (f_J6_bitCount_0f7a4 i10) fun x13 => b1 (rd M11 (o + 17) i10) fun x14 => if ((f_X10_isIn x14 a1) = 0 ∨ (¬ (i9 = (-1)) ∧ i9 ≤ x13)) then (b1 (f_X5_walkOn o i10 x2 M11) fun M19 => some (.inl (i9, (i10 + 1), M19))) else (b1 (f_X5_gains o i10 M11) fun x20 => if x20 = 0 then (b1 (f_X5_walkOn o i10 x2 M11) fun M22 => some (.inl (i9, (i10 + 1), M22))) else (b1 (f_X5_walkOn o i10 x2 M11) fun M23 => some (.inl (x13, (i10 + 1), M23)))))
def f_X5_fewestTradesBack (o : Nat) (a1 : Int32) (M : Mem) : Option (Mem × Int32) :=
  b1 (ln (o + 17)) fun x1 => lt (f_J9_min_7cf53 (1 <<< ((M (o + 7) 3) &&& 31)) x1) fun x2 => b1 (lp (fun s => w_X5_fewestTradesBack_20 o x2 s.1 s.2) FU (0, M)) fun q7 => lt (up2 q7 (o + 17) 0 (1 <<< (a1 &&& 31))) fun M8 => b1 (lp (fun s => w_X5_fewestTradesBack_52 o a1 x2 s.1 s.2.1 s.2.2) FU ((-1), 0, M8)) fun q24 => some (q24.2, q24.1)
set_option maxRecDepth 100000 in
set_option maxHeartbeats 4000000 in
theorem t_X5_fewestTradesBack (l : Launch) (E : EV) (o : Nat) (a1 : Int32) (ho : oc o = some 5) (M : Mem) {M' : Mem} {r : Int32} (h : f_X5_fewestTradesBack o a1 M = some (M', r)) : RunM l E yX5_fewestTradesBack cX5_fewestTradesBack 6 (some .int) 3 [.ref o, .int a1] M M' (some (.int r)) := by
  refine RunM.of (by decide) (Nat.le_of_ble_eq_true rfl) ?_
  show XM l E (RX5, "fewestTradesBack", cX5_fewestTradesBack, 6) (some .int) 3 0 [some (.ref o), some (.int a1), none, none, none, none] [] M M' (some (.int r))
  unfold f_X5_fewestTradesBack at h
  refine ex_iconst 1 dX5_fewestTradesBack_0 kI_1 ?_
  refine ex_aload_n dX5_fewestTradesBack_1 rfl ?_
  refine mx_getr 5 (o + 7) dX5_fewestTradesBack_2 fl_X5_26 ho (rf_5_3 ho) ?_
  refine mx_geti 8 dX5_fewestTradesBack_5 fl_X5_42 (oc_5_3 ho) (isi_8_3 (oc_5_3 ho)) ?_
  refine ex_ishl dX5_fewestTradesBack_8 ?_
  refine ex_aload_n dX5_fewestTradesBack_9 rfl ?_
  refine mx_getr 5 (o + 17) dX5_fewestTradesBack_10 fl_X5_34 ho (rf_5_5 ho) ?_
  obtain ⟨x1, qx1, h⟩ := b1E h
  refine mx_alen x1 dX5_fewestTradesBack_13 qx1 ?_
  refine mx_min dX5_fewestTradesBack_14 (tb (i := 1108) (by decide +kernel)) (by decide) (Nat.le_of_ble_eq_true rfl) ?_
  obtain ⟨x2, ex2, h⟩ := ltE h
  rw [← ex2]
  refine ex_istore_n (L2 := [some (.ref o), some (.int a1), some (.int x2), none, none, none]) dX5_fewestTradesBack_17 (by decide) rfl ?_
  refine ex_iconst 0 dX5_fewestTradesBack_18 kI_0 ?_
  refine ex_istore_n (L2 := [some (.ref o), some (.int a1), some (.int x2), some (.int 0), none, none]) dX5_fewestTradesBack_19 (by decide) rfl ?_
  refine ex_mskL [true, true, true, true, false, false] (L2 := [some (.ref o), some (.int a1), some (.int x2), some (.int 0), none, none]) rfl ?_
  obtain ⟨q7, hlq7, h⟩ := b1E h
  have hx : XM l E (RX5, "fewestTradesBack", cX5_fewestTradesBack, 6) (some .int) 3 38 [some (.ref o), some (.int a1), some (.int x2), none, none, none] [] q7 M' (some (.int r)) := by
    refine ex_aload_n dX5_fewestTradesBack_38 rfl ?_
    refine mx_getr 5 (o + 17) dX5_fewestTradesBack_39 fl_X5_34 ho (rf_5_5 ho) ?_
    refine ex_iconst 0 dX5_fewestTradesBack_42 kI_0 ?_
    refine ex_iconst 1 dX5_fewestTradesBack_43 kI_1 ?_
    refine ex_iload_n dX5_fewestTradesBack_44 rfl ?_
    refine ex_ishl dX5_fewestTradesBack_45 ?_
    obtain ⟨M8, eM8, h⟩ := ltE h
    refine mx_iast M8 dX5_fewestTradesBack_46 ((wrf_5_5_0 ho _ _).trans (congrArg some eM8.symm)) ?_
    refine ex_iconst (-1) dX5_fewestTradesBack_47 kI_m1 ?_
    refine ex_istore_n (L2 := [some (.ref o), some (.int a1), some (.int x2), some (.int (-1)), none, none]) dX5_fewestTradesBack_48 (by decide) rfl ?_
    refine ex_iconst 0 dX5_fewestTradesBack_49 kI_0 ?_
    refine ex_istore (L2 := [some (.ref o), some (.int a1), some (.int x2), some (.int (-1)), some (.int 0), none]) dX5_fewestTradesBack_50 (by decide) rfl ?_
    refine ex_mskL [true, true, true, true, true, false] (L2 := [some (.ref o), some (.int a1), some (.int x2), some (.int (-1)), some (.int 0), none]) rfl ?_
    obtain ⟨q24, hlq24, h⟩ := b1E h
    obtain ⟨y25, M26⟩ := q24
    dsimp only at h
    have hx : XM l E (RX5, "fewestTradesBack", cX5_fewestTradesBack, 6) (some .int) 3 115 [none, none, none, some (.int y25), none, none] [] M26 M' (some (.int r)) := by
      refine ex_iload_n dX5_fewestTradesBack_115 rfl ?_
      cases h
      exact mx_reti .int dX5_fewestTradesBack_116 ⟨rfl, rfl⟩
    clear h
    have key : ∀ (k : Nat) (s : Int32 × Int32 × Mem), lp (fun s => w_X5_fewestTradesBack_52 o a1 x2 s.1 s.2.1 s.2.2) k s = some (y25, M26) → XM l E (RX5, "fewestTradesBack", cX5_fewestTradesBack, 6) (some .int) 3 52 [some (.ref o), some (.int a1), some (.int x2), some (.int s.1), some (.int s.2.1), none] [] s.2.2 M' (some (.int r)) := lp_ind (P := fun (s : Int32 × Int32 × Mem) => XM l E (RX5, "fewestTradesBack", cX5_fewestTradesBack, 6) (some .int) 3 52 [some (.ref o), some (.int a1), some (.int x2), some (.int s.1), some (.int s.2.1), none] [] s.2.2 M' (some (.int r))) (fun s t hb hk he => by
      obtain ⟨i9, i10, M11⟩ := s
      show XM l E (RX5, "fewestTradesBack", cX5_fewestTradesBack, 6) (some .int) 3 52 [some (.ref o), some (.int a1), some (.int x2), some (.int i9), some (.int i10), none] [] M11 M' (some (.int r))
      change w_X5_fewestTradesBack_52 o a1 x2 i9 i10 M11 = some t at hb
      unfold w_X5_fewestTradesBack_52 at hb
      refine ex_iload dX5_fewestTradesBack_52 rfl ?_
      refine ex_iload_n dX5_fewestTradesBack_54 rfl ?_
      refine ex_icmp_ge 115 dX5_fewestTradesBack_55 (by decide) (fun c12 => ?_) (fun c12 => ?_)
      · rw [if_pos c12] at hb
        refine ex_mskL [false, false, false, true, false, false] (L2 := [none, none, none, some (.int i9), none, none]) rfl ?_
        cases hb
        cases (he _ rfl) <;> exact hx
      · rw [if_neg c12] at hb
        refine ex_iload dX5_fewestTradesBack_58 rfl ?_
        refine mx_cSi [.int i10] [] (f_J6_bitCount_0f7a4 i10) dX5_fewestTradesBack_60 cl_X5_85 sm_J6_bitCount_0f7a4 rfl (Nat.le_of_ble_eq_true rfl) (by decide) (t_J6_bitCount_0f7a4 l E i10 M11 rfl) ?_
        obtain ⟨x13, ex13, hb⟩ := ltE hb
        rw [← ex13]
        refine ex_istore (L2 := [some (.ref o), some (.int a1), some (.int x2), some (.int i9), some (.int i10), some (.int x13)]) dX5_fewestTradesBack_63 (by decide) rfl ?_
        refine ex_aload_n dX5_fewestTradesBack_65 rfl ?_
        refine mx_getr 5 (o + 17) dX5_fewestTradesBack_66 fl_X5_34 ho (rf_5_5 ho) ?_
        refine ex_iload dX5_fewestTradesBack_69 rfl ?_
        obtain ⟨x14, qx14, hb⟩ := b1E hb
        refine mx_iald x14 dX5_fewestTradesBack_71 qx14 ?_
        refine ex_iload_n dX5_fewestTradesBack_72 rfl ?_
        refine mx_cSi [.int x14, .int a1] [] (f_X10_isIn x14 a1) dX5_fewestTradesBack_73 cl_X5_63 sm_X10_isIn rfl (Nat.le_of_ble_eq_true rfl) (by decide) (t_X10_isIn l E x14 a1 M11 rfl) ?_
        have JXC18 : ((f_X10_isIn x14 a1) = 0 ∨ (¬ (i9 = (-1)) ∧ i9 ≤ x13)) → XM l E (RX5, "fewestTradesBack", cX5_fewestTradesBack, 6) (some .int) 3 102 [some (.ref o), some (.int a1), some (.int x2), some (.int i9), some (.int i10), some (.int x13)] [] M11 M' (some (.int r)) := fun C18 => by
          rw [if_pos C18] at hb
          refine ex_aload_n dX5_fewestTradesBack_102 rfl ?_
          refine ex_iload dX5_fewestTradesBack_103 rfl ?_
          refine ex_iload_n dX5_fewestTradesBack_105 rfl ?_
          obtain ⟨M19, qM19, hb⟩ := b1E hb
          refine mx_cVv [.int i10, .int x2] [] o 5 dX5_fewestTradesBack_106 cl_X5_94 im_X5_walkOn cy_X5_walkOn ho rfl (Nat.le_of_ble_eq_true rfl) (by decide) (t_X5_walkOn l E o i10 x2 ho M11 qM19) ?_
          refine ex_iinc 1 (L2 := [some (.ref o), some (.int a1), some (.int x2), some (.int i9), some (.int (i10 + 1)), some (.int x13)]) dX5_fewestTradesBack_109 rfl kI_1 (by decide) rfl ?_
          refine ex_goto 52 dX5_fewestTradesBack_112 (by decide) ?_
          refine ex_mskL [true, true, true, true, true, false] (L2 := [some (.ref o), some (.int a1), some (.int x2), some (.int i9), some (.int (i10 + 1)), none]) rfl ?_
          cases hb
          exact hk (i9, (i10 + 1), M19) rfl
        have JYC18 : ¬ (((f_X10_isIn x14 a1) = 0 ∨ (¬ (i9 = (-1)) ∧ i9 ≤ x13))) → XM l E (RX5, "fewestTradesBack", cX5_fewestTradesBack, 6) (some .int) 3 90 [some (.ref o), some (.int a1), some (.int x2), some (.int i9), some (.int i10), some (.int x13)] [] M11 M' (some (.int r)) := fun C18 => by
          rw [if_neg C18] at hb
          refine ex_aload_n dX5_fewestTradesBack_90 rfl ?_
          refine ex_iload dX5_fewestTradesBack_91 rfl ?_
          obtain ⟨x20, qx20, hb⟩ := b1E hb
          refine mx_cVi [.int i10] [] o 5 x20 dX5_fewestTradesBack_93 cl_X5_90 im_X5_gains cy_X5_gains ho rfl (Nat.le_of_ble_eq_true rfl) (by decide) (t_X5_gains l E o i10 ho M11 qx20) ?_
          refine ex_if_eq 102 dX5_fewestTradesBack_96 (by decide) (fun c21 => ?_) (fun c21 => ?_)
          · rw [if_pos c21] at hb
            refine ex_aload_n dX5_fewestTradesBack_102 rfl ?_
            refine ex_iload dX5_fewestTradesBack_103 rfl ?_
            refine ex_iload_n dX5_fewestTradesBack_105 rfl ?_
            obtain ⟨M22, qM22, hb⟩ := b1E hb
            refine mx_cVv [.int i10, .int x2] [] o 5 dX5_fewestTradesBack_106 cl_X5_94 im_X5_walkOn cy_X5_walkOn ho rfl (Nat.le_of_ble_eq_true rfl) (by decide) (t_X5_walkOn l E o i10 x2 ho M11 qM22) ?_
            refine ex_iinc 1 (L2 := [some (.ref o), some (.int a1), some (.int x2), some (.int i9), some (.int (i10 + 1)), some (.int x13)]) dX5_fewestTradesBack_109 rfl kI_1 (by decide) rfl ?_
            refine ex_goto 52 dX5_fewestTradesBack_112 (by decide) ?_
            refine ex_mskL [true, true, true, true, true, false] (L2 := [some (.ref o), some (.int a1), some (.int x2), some (.int i9), some (.int (i10 + 1)), none]) rfl ?_
            cases hb
            exact hk (i9, (i10 + 1), M22) rfl
          · rw [if_neg c21] at hb
            refine ex_iload dX5_fewestTradesBack_99 rfl ?_
            refine ex_istore_n (L2 := [some (.ref o), some (.int a1), some (.int x2), some (.int x13), some (.int i10), some (.int x13)]) dX5_fewestTradesBack_101 (by decide) rfl ?_
            refine ex_aload_n dX5_fewestTradesBack_102 rfl ?_
            refine ex_iload dX5_fewestTradesBack_103 rfl ?_
            refine ex_iload_n dX5_fewestTradesBack_105 rfl ?_
            obtain ⟨M23, qM23, hb⟩ := b1E hb
            refine mx_cVv [.int i10, .int x2] [] o 5 dX5_fewestTradesBack_106 cl_X5_94 im_X5_walkOn cy_X5_walkOn ho rfl (Nat.le_of_ble_eq_true rfl) (by decide) (t_X5_walkOn l E o i10 x2 ho M11 qM23) ?_
            refine ex_iinc 1 (L2 := [some (.ref o), some (.int a1), some (.int x2), some (.int x13), some (.int (i10 + 1)), some (.int x13)]) dX5_fewestTradesBack_109 rfl kI_1 (by decide) rfl ?_
            refine ex_goto 52 dX5_fewestTradesBack_112 (by decide) ?_
            refine ex_mskL [true, true, true, true, true, false] (L2 := [some (.ref o), some (.int a1), some (.int x2), some (.int x13), some (.int (i10 + 1)), none]) rfl ?_
            cases hb
            exact hk (x13, (i10 + 1), M23) rfl
        clear hb
        refine ex_if_eq 102 dX5_fewestTradesBack_76 (by decide) (fun c15 => ?_) (fun c15 => ?_)
        · exact JXC18 (Or.inl c15)
        · refine ex_iload_n dX5_fewestTradesBack_79 rfl ?_
          refine ex_iconst (-1) dX5_fewestTradesBack_80 kI_m1 ?_
          refine ex_icmp_eq 90 dX5_fewestTradesBack_81 (by decide) (fun c16 => ?_) (fun c16 => ?_)
          · exact JYC18 (fun z => z.elim c15 (fun z => z.1 c16))
          · refine ex_iload dX5_fewestTradesBack_84 rfl ?_
            refine ex_iload_n dX5_fewestTradesBack_86 rfl ?_
            refine ex_icmp_ge 102 dX5_fewestTradesBack_87 (by decide) (fun c17 => ?_) (fun c17 => ?_)
            · exact JXC18 (Or.inr ⟨c16, c17⟩)
            · exact JYC18 (fun z => z.elim c15 (fun z => c17 z.2)))
    exact key FU ((-1), 0, M8) hlq24
  clear h
  have key : ∀ (k : Nat) (s : Int32 × Mem), lp (fun s => w_X5_fewestTradesBack_20 o x2 s.1 s.2) k s = some q7 → XM l E (RX5, "fewestTradesBack", cX5_fewestTradesBack, 6) (some .int) 3 20 [some (.ref o), some (.int a1), some (.int x2), some (.int s.1), none, none] [] s.2 M' (some (.int r)) := lp_ind (P := fun (s : Int32 × Mem) => XM l E (RX5, "fewestTradesBack", cX5_fewestTradesBack, 6) (some .int) 3 20 [some (.ref o), some (.int a1), some (.int x2), some (.int s.1), none, none] [] s.2 M' (some (.int r))) (fun s t hb hk he => by
    obtain ⟨i3, M4⟩ := s
    show XM l E (RX5, "fewestTradesBack", cX5_fewestTradesBack, 6) (some .int) 3 20 [some (.ref o), some (.int a1), some (.int x2), some (.int i3), none, none] [] M4 M' (some (.int r))
    change w_X5_fewestTradesBack_20 o x2 i3 M4 = some t at hb
    unfold w_X5_fewestTradesBack_20 at hb
    refine ex_iload_n dX5_fewestTradesBack_20 rfl ?_
    refine ex_iload_n dX5_fewestTradesBack_21 rfl ?_
    refine ex_icmp_ge 38 dX5_fewestTradesBack_22 (by decide) (fun c5 => ?_) (fun c5 => ?_)
    · rw [if_pos c5] at hb
      refine ex_mskL [true, true, true, false, false, false] (L2 := [some (.ref o), some (.int a1), some (.int x2), none, none, none]) rfl ?_
      cases hb
      cases (he _ rfl) <;> exact hx
    · rw [if_neg c5] at hb
      refine ex_aload_n dX5_fewestTradesBack_25 rfl ?_
      refine mx_getr 5 (o + 17) dX5_fewestTradesBack_26 fl_X5_34 ho (rf_5_5 ho) ?_
      refine ex_iload_n dX5_fewestTradesBack_29 rfl ?_
      refine ex_iconst 0 dX5_fewestTradesBack_30 kI_0 ?_
      obtain ⟨M6, qM6, hb⟩ := b1E hb
      refine mx_iast M6 dX5_fewestTradesBack_31 qM6 ?_
      refine ex_iinc 1 (L2 := [some (.ref o), some (.int a1), some (.int x2), some (.int (i3 + 1)), none, none]) dX5_fewestTradesBack_32 rfl kI_1 (by decide) rfl ?_
      refine ex_goto 20 dX5_fewestTradesBack_35 (by decide) ?_
      refine ex_mskL [true, true, true, true, false, false] (L2 := [some (.ref o), some (.int a1), some (.int x2), some (.int (i3 + 1)), none, none]) rfl ?_
      cases hb
      exact hk ((i3 + 1), M6) rfl)
  exact key FU (0, M) hlq7
def f_X6_copyFrom (o : Nat) (a1 : Nat) (M : Mem) : Option (Mem) :=
  b1 (f_X8_copyFrom (o + 1) (a1 + 1) M) fun M1 => b1 (f_X8_copyFrom (o + 3) (a1 + 3) M1) fun M2 => b1 (f_X8_copyFrom (o + 5) (a1 + 5) M2) fun M3 => b1 (f_X8_copyFrom (o + 7) (a1 + 7) M3) fun M4 => b1 (f_X8_copyFrom (o + 9) (a1 + 9) M4) fun M5 => b1 (f_X8_copyFrom (o + 11) (a1 + 11) M5) fun M6 => b1 (f_X2_copyFrom (o + 13) (a1 + 13) M6) fun M7 => lt (up2 M7 o 9 (M7 a1 9)) fun M8 => lt (up2 M8 o 10 (M8 a1 10)) fun M9 => lt (up2 M9 o 11 (M9 a1 11)) fun M10 => lt (up2 M10 o 12 (M10 a1 12)) fun M11 => lt (up2 M11 o 13 (M11 a1 13)) fun M12 => lt (up2 M12 o 14 (M12 a1 14)) fun M13 => lt (up2 M13 o 15 (M13 a1 15)) fun M14 => some M14
set_option maxRecDepth 100000 in
set_option maxHeartbeats 4000000 in
theorem t_X6_copyFrom (l : Launch) (E : EV) (o : Nat) (a1 : Nat) (ho : oc o = some 6) (ha1 : oc a1 = some 6) (M : Mem) {M' : Mem} (h : f_X6_copyFrom o a1 M = some M') : RunM l E yX6_copyFrom cX6_copyFrom 2 none 2 [.ref o, .ref a1] M M' none := by
  refine RunM.of (by decide) (Nat.le_of_ble_eq_true rfl) ?_
  show XM l E (RX6, "copyFrom", cX6_copyFrom, 2) none 2 0 [some (.ref o), some (.ref a1)] [] M M' none
  unfold f_X6_copyFrom at h
  refine ex_aload_n dX6_copyFrom_0 rfl ?_
  refine mx_getr 6 (o + 1) dX6_copyFrom_1 fl_X6_14 ho (rf_6_0 ho) ?_
  refine ex_aload_n dX6_copyFrom_4 rfl ?_
  refine mx_getr 6 (a1 + 1) dX6_copyFrom_5 fl_X6_14 ha1 (rf_6_0 ha1) ?_
  obtain ⟨M1, qM1, h⟩ := b1E h
  refine mx_cVv [.ref (a1 + 1)] [] (o + 1) 8 dX6_copyFrom_8 cl_X6_57 im_X8_copyFrom cy_X8_copyFrom (oc_6_0 ho) rfl (Nat.le_of_ble_eq_true rfl) (by decide) (t_X8_copyFrom l E (o + 1) (a1 + 1) (oc_6_0 ho) (oc_6_0 ha1) M qM1) ?_
  refine ex_aload_n dX6_copyFrom_11 rfl ?_
  refine mx_getr 6 (o + 3) dX6_copyFrom_12 fl_X6_20 ho (rf_6_1 ho) ?_
  refine ex_aload_n dX6_copyFrom_15 rfl ?_
  refine mx_getr 6 (a1 + 3) dX6_copyFrom_16 fl_X6_20 ha1 (rf_6_1 ha1) ?_
  obtain ⟨M2, qM2, h⟩ := b1E h
  refine mx_cVv [.ref (a1 + 3)] [] (o + 3) 8 dX6_copyFrom_19 cl_X6_57 im_X8_copyFrom cy_X8_copyFrom (oc_6_1 ho) rfl (Nat.le_of_ble_eq_true rfl) (by decide) (t_X8_copyFrom l E (o + 3) (a1 + 3) (oc_6_1 ho) (oc_6_1 ha1) M1 qM2) ?_
  refine ex_aload_n dX6_copyFrom_22 rfl ?_
  refine mx_getr 6 (o + 5) dX6_copyFrom_23 fl_X6_23 ho (rf_6_2 ho) ?_
  refine ex_aload_n dX6_copyFrom_26 rfl ?_
  refine mx_getr 6 (a1 + 5) dX6_copyFrom_27 fl_X6_23 ha1 (rf_6_2 ha1) ?_
  obtain ⟨M3, qM3, h⟩ := b1E h
  refine mx_cVv [.ref (a1 + 5)] [] (o + 5) 8 dX6_copyFrom_30 cl_X6_57 im_X8_copyFrom cy_X8_copyFrom (oc_6_2 ho) rfl (Nat.le_of_ble_eq_true rfl) (by decide) (t_X8_copyFrom l E (o + 5) (a1 + 5) (oc_6_2 ho) (oc_6_2 ha1) M2 qM3) ?_
  refine ex_aload_n dX6_copyFrom_33 rfl ?_
  refine mx_getr 6 (o + 7) dX6_copyFrom_34 fl_X6_26 ho (rf_6_3 ho) ?_
  refine ex_aload_n dX6_copyFrom_37 rfl ?_
  refine mx_getr 6 (a1 + 7) dX6_copyFrom_38 fl_X6_26 ha1 (rf_6_3 ha1) ?_
  obtain ⟨M4, qM4, h⟩ := b1E h
  refine mx_cVv [.ref (a1 + 7)] [] (o + 7) 8 dX6_copyFrom_41 cl_X6_57 im_X8_copyFrom cy_X8_copyFrom (oc_6_3 ho) rfl (Nat.le_of_ble_eq_true rfl) (by decide) (t_X8_copyFrom l E (o + 7) (a1 + 7) (oc_6_3 ho) (oc_6_3 ha1) M3 qM4) ?_
  refine ex_aload_n dX6_copyFrom_44 rfl ?_
  refine mx_getr 6 (o + 9) dX6_copyFrom_45 fl_X6_29 ho (rf_6_4 ho) ?_
  refine ex_aload_n dX6_copyFrom_48 rfl ?_
  refine mx_getr 6 (a1 + 9) dX6_copyFrom_49 fl_X6_29 ha1 (rf_6_4 ha1) ?_
  obtain ⟨M5, qM5, h⟩ := b1E h
  refine mx_cVv [.ref (a1 + 9)] [] (o + 9) 8 dX6_copyFrom_52 cl_X6_57 im_X8_copyFrom cy_X8_copyFrom (oc_6_4 ho) rfl (Nat.le_of_ble_eq_true rfl) (by decide) (t_X8_copyFrom l E (o + 9) (a1 + 9) (oc_6_4 ho) (oc_6_4 ha1) M4 qM5) ?_
  refine ex_aload_n dX6_copyFrom_55 rfl ?_
  refine mx_getr 6 (o + 11) dX6_copyFrom_56 fl_X6_32 ho (rf_6_5 ho) ?_
  refine ex_aload_n dX6_copyFrom_59 rfl ?_
  refine mx_getr 6 (a1 + 11) dX6_copyFrom_60 fl_X6_32 ha1 (rf_6_5 ha1) ?_
  obtain ⟨M6, qM6, h⟩ := b1E h
  refine mx_cVv [.ref (a1 + 11)] [] (o + 11) 8 dX6_copyFrom_63 cl_X6_57 im_X8_copyFrom cy_X8_copyFrom (oc_6_5 ho) rfl (Nat.le_of_ble_eq_true rfl) (by decide) (t_X8_copyFrom l E (o + 11) (a1 + 11) (oc_6_5 ho) (oc_6_5 ha1) M5 qM6) ?_
  refine ex_aload_n dX6_copyFrom_66 rfl ?_
  refine mx_getr 6 (o + 13) dX6_copyFrom_67 fl_X6_38 ho (rf_6_6 ho) ?_
  refine ex_aload_n dX6_copyFrom_70 rfl ?_
  refine mx_getr 6 (a1 + 13) dX6_copyFrom_71 fl_X6_38 ha1 (rf_6_6 ha1) ?_
  obtain ⟨M7, qM7, h⟩ := b1E h
  refine mx_cVv [.ref (a1 + 13)] [] (o + 13) 2 dX6_copyFrom_74 cl_X6_61 im_X2_copyFrom cy_X2_copyFrom (oc_6_6 ho) rfl (Nat.le_of_ble_eq_true rfl) (by decide) (t_X2_copyFrom l E (o + 13) (a1 + 13) (oc_6_6 ho) (oc_6_6 ha1) M6 qM7) ?_
  refine ex_aload_n dX6_copyFrom_77 rfl ?_
  refine ex_aload_n dX6_copyFrom_78 rfl ?_
  refine mx_geti 6 dX6_copyFrom_79 fl_X6_64 ha1 (isi_6_9 ha1) ?_
  obtain ⟨M8, eM8, h⟩ := ltE h
  refine mx_puti 6 dX6_copyFrom_82 fl_X6_64 rfl ⟨rfl, rfl⟩ ho (isi_6_9 ho) ?_
  rw [← eM8]
  refine ex_aload_n dX6_copyFrom_85 rfl ?_
  refine ex_aload_n dX6_copyFrom_86 rfl ?_
  refine mx_geti 6 dX6_copyFrom_87 fl_X6_67 ha1 (isi_6_10 ha1) ?_
  obtain ⟨M9, eM9, h⟩ := ltE h
  refine mx_puti 6 dX6_copyFrom_90 fl_X6_67 rfl ⟨rfl, rfl⟩ ho (isi_6_10 ho) ?_
  rw [← eM9]
  refine ex_aload_n dX6_copyFrom_93 rfl ?_
  refine ex_aload_n dX6_copyFrom_94 rfl ?_
  refine mx_geti 6 dX6_copyFrom_95 fl_X6_53 ha1 (isi_6_11 ha1) ?_
  obtain ⟨M10, eM10, h⟩ := ltE h
  refine mx_puti 6 dX6_copyFrom_98 fl_X6_53 rfl ⟨rfl, rfl⟩ ho (isi_6_11 ho) ?_
  rw [← eM10]
  refine ex_aload_n dX6_copyFrom_101 rfl ?_
  refine ex_aload_n dX6_copyFrom_102 rfl ?_
  refine mx_geti 6 dX6_copyFrom_103 fl_X6_70 ha1 (isi_6_12 ha1) ?_
  obtain ⟨M11, eM11, h⟩ := ltE h
  refine mx_puti 6 dX6_copyFrom_106 fl_X6_70 rfl ⟨rfl, rfl⟩ ho (isi_6_12 ho) ?_
  rw [← eM11]
  refine ex_aload_n dX6_copyFrom_109 rfl ?_
  refine ex_aload_n dX6_copyFrom_110 rfl ?_
  refine mx_geti 6 dX6_copyFrom_111 fl_X6_73 ha1 (isi_6_13 ha1) ?_
  obtain ⟨M12, eM12, h⟩ := ltE h
  refine mx_puti 6 dX6_copyFrom_114 fl_X6_73 rfl ⟨rfl, rfl⟩ ho (isi_6_13 ho) ?_
  rw [← eM12]
  refine ex_aload_n dX6_copyFrom_117 rfl ?_
  refine ex_aload_n dX6_copyFrom_118 rfl ?_
  refine mx_geti 6 dX6_copyFrom_119 fl_X6_76 ha1 (isi_6_14 ha1) ?_
  obtain ⟨M13, eM13, h⟩ := ltE h
  refine mx_puti 6 dX6_copyFrom_122 fl_X6_76 rfl ⟨rfl, rfl⟩ ho (isi_6_14 ho) ?_
  rw [← eM13]
  refine ex_aload_n dX6_copyFrom_125 rfl ?_
  refine ex_aload_n dX6_copyFrom_126 rfl ?_
  refine mx_geti 6 dX6_copyFrom_127 fl_X6_79 ha1 (isi_6_15 ha1) ?_
  obtain ⟨M14, eM14, h⟩ := ltE h
  refine mx_puti 6 dX6_copyFrom_130 fl_X6_79 rfl ⟨rfl, rfl⟩ ho (isi_6_15 ho) ?_
  rw [← eM14]
  cases h
  exact mx_retv dX6_copyFrom_133 rfl
def f_X6_linesOf (o : Nat) (a1 : Int32) : Option (Nat) :=
  if a1.toInt < 0 ∨ 3 < a1.toInt then (some (o + 7)) else if a1 = 0 then (some (o + 1)) else if a1 = 1 then (some (o + 7)) else if a1 = 2 then (some (o + 3)) else if a1 = 3 then (some (o + 5)) else none
set_option maxRecDepth 100000 in
set_option maxHeartbeats 4000000 in
theorem t_X6_linesOf (l : Launch) (E : EV) (o : Nat) (a1 : Int32) (ho : oc o = some 6) (M : Mem) {r : Nat} (h : f_X6_linesOf o a1 = some r) : RunM l E yX6_linesOf cX6_linesOf 2 (some (.object "CrustMarket$Rows")) 0 [.ref o, .int a1] M M (some (.ref r)) := by
  refine RunM.of (by decide) (Nat.le_of_ble_eq_true rfl) ?_
  show XM l E (RX6, "linesOf", cX6_linesOf, 2) (some (.object "CrustMarket$Rows")) 0 0 [some (.ref o), some (.int a1)] [] M M (some (.ref r))
  unfold f_X6_linesOf at h
  refine ex_iload_n dX6_linesOf_0 rfl ?_
  by_cases c1 : a1.toInt < 0 ∨ 3 < a1.toInt
  · rw [if_pos c1] at h
    refine ex_tswO 47 dX6_linesOf_1 c1 (by decide) ?_
    refine ex_aload_n dX6_linesOf_47 rfl ?_
    refine mx_getr 6 (o + 7) dX6_linesOf_48 fl_X6_26 ho (rf_6_3 ho) ?_
    cases h
    exact mx_reta "CrustMarket$Rows" dX6_linesOf_51 rfl
  rw [if_neg c1] at h
  by_cases c2 : a1 = 0
  · rw [if_pos c2] at h
    refine ex_tswI 0 (31) 32 dX6_linesOf_1 c2 (by decide) (by decide) ?_
    refine ex_aload_n dX6_linesOf_32 rfl ?_
    refine mx_getr 6 (o + 1) dX6_linesOf_33 fl_X6_14 ho (rf_6_0 ho) ?_
    cases h
    exact mx_reta "CrustMarket$Rows" dX6_linesOf_36 rfl
  rw [if_neg c2] at h
  by_cases c3 : a1 = 1
  · rw [if_pos c3] at h
    refine ex_tswI 1 (46) 47 dX6_linesOf_1 c3 (by decide) (by decide) ?_
    refine ex_aload_n dX6_linesOf_47 rfl ?_
    refine mx_getr 6 (o + 7) dX6_linesOf_48 fl_X6_26 ho (rf_6_3 ho) ?_
    cases h
    exact mx_reta "CrustMarket$Rows" dX6_linesOf_51 rfl
  rw [if_neg c3] at h
  by_cases c4 : a1 = 2
  · rw [if_pos c4] at h
    refine ex_tswI 2 (36) 37 dX6_linesOf_1 c4 (by decide) (by decide) ?_
    refine ex_aload_n dX6_linesOf_37 rfl ?_
    refine mx_getr 6 (o + 3) dX6_linesOf_38 fl_X6_20 ho (rf_6_1 ho) ?_
    cases h
    exact mx_reta "CrustMarket$Rows" dX6_linesOf_41 rfl
  rw [if_neg c4] at h
  by_cases c5 : a1 = 3
  · rw [if_pos c5] at h
    refine ex_tswI 3 (41) 42 dX6_linesOf_1 c5 (by decide) (by decide) ?_
    refine ex_aload_n dX6_linesOf_42 rfl ?_
    refine mx_getr 6 (o + 5) dX6_linesOf_43 fl_X6_23 ho (rf_6_2 ho) ?_
    cases h
    exact mx_reta "CrustMarket$Rows" dX6_linesOf_46 rfl
  rw [if_neg c5] at h
  cases h
theorem linesOf_oc {o r : Nat} {k : Int32} (ho : oc o = some 6) (h : f_X6_linesOf o k = some r) : oc r = some 8 := by
  unfold f_X6_linesOf at h
  (repeat' split at h) <;> first | (cases h; exact oc_6_0 ho) | (cases h; exact oc_6_1 ho) | (cases h; exact oc_6_2 ho) | (cases h; exact oc_6_3 ho) | cases h
def f_X8_has (o : Nat) (a1 : Int32) (M : Mem) : (Int32) :=
  if (a1 < 0 ∨ (M o 3) ≤ a1) then (0) else (1)
theorem z_X8_has (o : Nat) (a1 : Int32) (M : Mem) : f_X8_has o a1 M = 0 ∨ f_X8_has o a1 M = 1 := by
  unfold f_X8_has
  (repeat' split) <;> first | exact Or.inl rfl | exact Or.inr rfl
set_option maxRecDepth 100000 in
set_option maxHeartbeats 4000000 in
theorem t_X8_has (l : Launch) (E : EV) (o : Nat) (a1 : Int32) (ho : oc o = some 8) (M : Mem) {r : Int32} (h : f_X8_has o a1 M = r) : RunM l E yX8_has cX8_has 2 (some .boolean) 0 [.ref o, .int a1] M M (some (.int r)) := by
  refine RunM.of (by decide) (Nat.le_of_ble_eq_true rfl) ?_
  show XM l E (RX8, "has", cX8_has, 2) (some .boolean) 0 0 [some (.ref o), some (.int a1)] [] M M (some (.int r))
  unfold f_X8_has at h
  refine ex_iload_n dX8_has_0 rfl ?_
  have JXC3 : (a1 < 0 ∨ (M o 3) ≤ a1) → XM l E (RX8, "has", cX8_has, 2) (some .boolean) 0 16 [some (.ref o), some (.int a1)] [] M M (some (.int r)) := fun C3 => by
    rw [if_pos C3] at h
    refine ex_iconst 0 dX8_has_16 kI_0 ?_
    subst h
    exact mx_reti .boolean dX8_has_17 ⟨rfl, by decide⟩
  have JYC3 : ¬ ((a1 < 0 ∨ (M o 3) ≤ a1)) → XM l E (RX8, "has", cX8_has, 2) (some .boolean) 0 17 [some (.ref o), some (.int a1)] [.int 1] M M (some (.int r)) := fun C3 => by
    rw [if_neg C3] at h
    subst h
    exact mx_reti .boolean dX8_has_17 ⟨rfl, by decide⟩
  clear h
  refine ex_if_lt 16 dX8_has_1 (by decide) (fun c1 => ?_) (fun c1 => ?_)
  · exact JXC3 (Or.inl c1)
  · refine ex_iload_n dX8_has_4 rfl ?_
    refine ex_aload_n dX8_has_5 rfl ?_
    refine mx_geti 8 dX8_has_6 fl_X8_22 ho (isi_8_3 ho) ?_
    refine ex_icmp_ge 16 dX8_has_9 (by decide) (fun c2 => ?_) (fun c2 => ?_)
    · exact JXC3 (Or.inr c2)
    · refine ex_iconst 1 dX8_has_12 kI_1 ?_
      refine ex_goto 17 dX8_has_13 (by decide) ?_
      exact JYC3 (fun z => z.elim c1 c2)
def f_X6_feastCanBe (o : Nat) (a1 : Int32) (a2 : Int32) (M : Mem) : (Int32) :=
  if ((f_X8_has (o + 1) a1 M) = 0 ∨ (f_X10_within a2 1 20) = 0) then (0) else (1)
theorem z_X6_feastCanBe (o : Nat) (a1 : Int32) (a2 : Int32) (M : Mem) : f_X6_feastCanBe o a1 a2 M = 0 ∨ f_X6_feastCanBe o a1 a2 M = 1 := by
  unfold f_X6_feastCanBe
  (repeat' split) <;> first | exact Or.inl rfl | exact Or.inr rfl | exact z_X10_within _ _ _ | exact z_X8_has _ _ _
set_option maxRecDepth 100000 in
set_option maxHeartbeats 4000000 in
theorem t_X6_feastCanBe (l : Launch) (E : EV) (o : Nat) (a1 : Int32) (a2 : Int32) (ho : oc o = some 6) (M : Mem) {r : Int32} (h : f_X6_feastCanBe o a1 a2 M = r) : RunM l E yX6_feastCanBe cX6_feastCanBe 3 (some .boolean) 1 [.ref o, .int a1, .int a2] M M (some (.int r)) := by
  refine RunM.of (by decide) (Nat.le_of_ble_eq_true rfl) ?_
  show XM l E (RX6, "feastCanBe", cX6_feastCanBe, 3) (some .boolean) 1 0 [some (.ref o), some (.int a1), some (.int a2)] [] M M (some (.int r))
  unfold f_X6_feastCanBe at h
  refine ex_aload_n dX6_feastCanBe_0 rfl ?_
  refine mx_getr 6 (o + 1) dX6_feastCanBe_1 fl_X6_14 ho (rf_6_0 ho) ?_
  refine ex_iload_n dX6_feastCanBe_4 rfl ?_
  refine mx_cVi [.int a1] [] (o + 1) 8 (f_X8_has (o + 1) a1 M) dX6_feastCanBe_5 cl_X6_82 im_X8_has cy_X8_has (oc_6_0 ho) rfl (Nat.le_of_ble_eq_true rfl) (by decide) (t_X8_has l E (o + 1) a1 (oc_6_0 ho) M rfl) ?_
  have JXC3 : ((f_X8_has (o + 1) a1 M) = 0 ∨ (f_X10_within a2 1 20) = 0) → XM l E (RX6, "feastCanBe", cX6_feastCanBe, 3) (some .boolean) 1 25 [some (.ref o), some (.int a1), some (.int a2)] [] M M (some (.int r)) := fun C3 => by
    rw [if_pos C3] at h
    refine ex_iconst 0 dX6_feastCanBe_25 kI_0 ?_
    subst h
    exact mx_reti .boolean dX6_feastCanBe_26 ⟨rfl, by decide⟩
  have JYC3 : ¬ (((f_X8_has (o + 1) a1 M) = 0 ∨ (f_X10_within a2 1 20) = 0)) → XM l E (RX6, "feastCanBe", cX6_feastCanBe, 3) (some .boolean) 1 26 [some (.ref o), some (.int a1), some (.int a2)] [.int 1] M M (some (.int r)) := fun C3 => by
    rw [if_neg C3] at h
    subst h
    exact mx_reti .boolean dX6_feastCanBe_26 ⟨rfl, by decide⟩
  clear h
  refine ex_if_eq 25 dX6_feastCanBe_8 (by decide) (fun c1 => ?_) (fun c1 => ?_)
  · exact JXC3 (Or.inl c1)
  · refine ex_iload_n dX6_feastCanBe_11 rfl ?_
    refine ex_iconst 1 dX6_feastCanBe_12 kI_1 ?_
    refine ex_bipush 20 dX6_feastCanBe_13 kB_20 ?_
    refine mx_cSi [.int a2, .int 1, .int 20] [] (f_X10_within a2 1 20) dX6_feastCanBe_15 cl_X6_86 sm_X10_within rfl (Nat.le_of_ble_eq_true rfl) (by decide) (t_X10_within l E a2 1 20 M rfl) ?_
    refine ex_if_eq 25 dX6_feastCanBe_18 (by decide) (fun c2 => ?_) (fun c2 => ?_)
    · exact JXC3 (Or.inr c2)
    · refine ex_iconst 1 dX6_feastCanBe_21 kI_1 ?_
      refine ex_goto 26 dX6_feastCanBe_22 (by decide) ?_
      exact JYC3 (fun z => z.elim c1 c2)
def f_X6_forgingCanBe (o : Nat) (a1 : Int32) (a2 : Int32) (M : Mem) : Option (Int32) :=
  if (f_X8_has (o + 1) a1 M) = 0 then (some 0) else (b1 (f_X8_at (o + 1) a1 0 M) fun x2 => if ((f_X10_within a2 1 (x2 - 1)) = 0 ∨ ((M o 11) < 20 ∨ ¬ ((f_X8_isFull (o + 9) M) = 0))) then (some 0) else (some 1))
set_option maxRecDepth 100000 in
set_option maxHeartbeats 4000000 in
theorem t_X6_forgingCanBe (l : Launch) (E : EV) (o : Nat) (a1 : Int32) (a2 : Int32) (ho : oc o = some 6) (M : Mem) {r : Int32} (h : f_X6_forgingCanBe o a1 a2 M = some r) : RunM l E yX6_forgingCanBe cX6_forgingCanBe 3 (some .boolean) 2 [.ref o, .int a1, .int a2] M M (some (.int r)) := by
  refine RunM.of (by decide) (Nat.le_of_ble_eq_true rfl) ?_
  show XM l E (RX6, "forgingCanBe", cX6_forgingCanBe, 3) (some .boolean) 2 0 [some (.ref o), some (.int a1), some (.int a2)] [] M M (some (.int r))
  unfold f_X6_forgingCanBe at h
  refine ex_aload_n dX6_forgingCanBe_0 rfl ?_
  refine mx_getr 6 (o + 1) dX6_forgingCanBe_1 fl_X6_14 ho (rf_6_0 ho) ?_
  refine ex_iload_n dX6_forgingCanBe_4 rfl ?_
  refine mx_cVi [.int a1] [] (o + 1) 8 (f_X8_has (o + 1) a1 M) dX6_forgingCanBe_5 cl_X6_82 im_X8_has cy_X8_has (oc_6_0 ho) rfl (Nat.le_of_ble_eq_true rfl) (by decide) (t_X8_has l E (o + 1) a1 (oc_6_0 ho) M rfl) ?_
  refine ex_if_eq 53 dX6_forgingCanBe_8 (by decide) (fun c1 => ?_) (fun c1 => ?_)
  · rw [if_pos c1] at h
    refine ex_iconst 0 dX6_forgingCanBe_53 kI_0 ?_
    cases h
    exact mx_reti .boolean dX6_forgingCanBe_54 ⟨rfl, by decide⟩
  · rw [if_neg c1] at h
    refine ex_iload_n dX6_forgingCanBe_11 rfl ?_
    refine ex_iconst 1 dX6_forgingCanBe_12 kI_1 ?_
    refine ex_aload_n dX6_forgingCanBe_13 rfl ?_
    refine mx_getr 6 (o + 1) dX6_forgingCanBe_14 fl_X6_14 ho (rf_6_0 ho) ?_
    refine ex_iload_n dX6_forgingCanBe_17 rfl ?_
    refine ex_iconst 0 dX6_forgingCanBe_18 kI_0 ?_
    obtain ⟨x2, qx2, h⟩ := b1E h
    refine mx_cVi [.int a1, .int 0] [.int 1, .int a2] (o + 1) 8 x2 dX6_forgingCanBe_19 cl_X6_90 im_X8_at cy_X8_at (oc_6_0 ho) rfl (Nat.le_of_ble_eq_true rfl) (by decide) (t_X8_at l E (o + 1) a1 0 (oc_6_0 ho) M qx2) ?_
    refine ex_iconst 1 dX6_forgingCanBe_22 kI_1 ?_
    refine ex_isub dX6_forgingCanBe_23 ?_
    refine mx_cSi [.int a2, .int 1, .int (x2 - 1)] [] (f_X10_within a2 1 (x2 - 1)) dX6_forgingCanBe_24 cl_X6_86 sm_X10_within rfl (Nat.le_of_ble_eq_true rfl) (by decide) (t_X10_within l E a2 1 (x2 - 1) M rfl) ?_
    have JXC6 : ((f_X10_within a2 1 (x2 - 1)) = 0 ∨ ((M o 11) < 20 ∨ ¬ ((f_X8_isFull (o + 9) M) = 0))) → XM l E (RX6, "forgingCanBe", cX6_forgingCanBe, 3) (some .boolean) 2 53 [some (.ref o), some (.int a1), some (.int a2)] [] M M (some (.int r)) := fun C6 => by
      rw [if_pos C6] at h
      refine ex_iconst 0 dX6_forgingCanBe_53 kI_0 ?_
      cases h
      exact mx_reti .boolean dX6_forgingCanBe_54 ⟨rfl, by decide⟩
    have JYC6 : ¬ (((f_X10_within a2 1 (x2 - 1)) = 0 ∨ ((M o 11) < 20 ∨ ¬ ((f_X8_isFull (o + 9) M) = 0)))) → XM l E (RX6, "forgingCanBe", cX6_forgingCanBe, 3) (some .boolean) 2 54 [some (.ref o), some (.int a1), some (.int a2)] [.int 1] M M (some (.int r)) := fun C6 => by
      rw [if_neg C6] at h
      cases h
      exact mx_reti .boolean dX6_forgingCanBe_54 ⟨rfl, by decide⟩
    clear h
    refine ex_if_eq 53 dX6_forgingCanBe_27 (by decide) (fun c3 => ?_) (fun c3 => ?_)
    · exact JXC6 (Or.inl c3)
    · refine ex_aload_n dX6_forgingCanBe_30 rfl ?_
      refine mx_geti 6 dX6_forgingCanBe_31 fl_X6_53 ho (isi_6_11 ho) ?_
      refine ex_bipush 20 dX6_forgingCanBe_34 kB_20 ?_
      refine ex_icmp_lt 53 dX6_forgingCanBe_36 (by decide) (fun c4 => ?_) (fun c4 => ?_)
      · exact JXC6 (Or.inr (Or.inl c4))
      · refine ex_aload_n dX6_forgingCanBe_39 rfl ?_
        refine mx_getr 6 (o + 9) dX6_forgingCanBe_40 fl_X6_29 ho (rf_6_4 ho) ?_
        refine mx_cVi [] [] (o + 9) 8 (f_X8_isFull (o + 9) M) dX6_forgingCanBe_43 cl_X6_94 im_X8_isFull cy_X8_isFull (oc_6_4 ho) rfl (Nat.le_of_ble_eq_true rfl) (by decide) (t_X8_isFull l E (o + 9) (oc_6_4 ho) M rfl) ?_
        refine ex_if_ne 53 dX6_forgingCanBe_46 (by decide) (fun c5 => ?_) (fun c5 => ?_)
        · exact JXC6 (Or.inr (Or.inr c5))
        · refine ex_iconst 1 dX6_forgingCanBe_49 kI_1 ?_
          refine ex_goto 54 dX6_forgingCanBe_50 (by decide) ?_
          exact JYC6 (fun z => z.elim c3 (fun z => z.elim c4 (fun z => z c5)))
def f_X6_cutCanBe (o : Nat) (a1 : Int32) (a2 : Int32) (M : Mem) : Option (Int32) :=
  if (f_X8_has (o + 9) a1 M) = 0 then (some 0) else (b1 (f_X8_at (o + 9) a1 1 M) fun x2 => if ((f_X10_within a2 1 (x2 - 1)) = 0 ∨ ¬ ((f_X8_isFull (o + 9) M) = 0)) then (some 0) else (some 1))
set_option maxRecDepth 100000 in
set_option maxHeartbeats 4000000 in
theorem t_X6_cutCanBe (l : Launch) (E : EV) (o : Nat) (a1 : Int32) (a2 : Int32) (ho : oc o = some 6) (M : Mem) {r : Int32} (h : f_X6_cutCanBe o a1 a2 M = some r) : RunM l E yX6_cutCanBe cX6_cutCanBe 3 (some .boolean) 2 [.ref o, .int a1, .int a2] M M (some (.int r)) := by
  refine RunM.of (by decide) (Nat.le_of_ble_eq_true rfl) ?_
  show XM l E (RX6, "cutCanBe", cX6_cutCanBe, 3) (some .boolean) 2 0 [some (.ref o), some (.int a1), some (.int a2)] [] M M (some (.int r))
  unfold f_X6_cutCanBe at h
  refine ex_aload_n dX6_cutCanBe_0 rfl ?_
  refine mx_getr 6 (o + 9) dX6_cutCanBe_1 fl_X6_29 ho (rf_6_4 ho) ?_
  refine ex_iload_n dX6_cutCanBe_4 rfl ?_
  refine mx_cVi [.int a1] [] (o + 9) 8 (f_X8_has (o + 9) a1 M) dX6_cutCanBe_5 cl_X6_82 im_X8_has cy_X8_has (oc_6_4 ho) rfl (Nat.le_of_ble_eq_true rfl) (by decide) (t_X8_has l E (o + 9) a1 (oc_6_4 ho) M rfl) ?_
  refine ex_if_eq 44 dX6_cutCanBe_8 (by decide) (fun c1 => ?_) (fun c1 => ?_)
  · rw [if_pos c1] at h
    refine ex_iconst 0 dX6_cutCanBe_44 kI_0 ?_
    cases h
    exact mx_reti .boolean dX6_cutCanBe_45 ⟨rfl, by decide⟩
  · rw [if_neg c1] at h
    refine ex_iload_n dX6_cutCanBe_11 rfl ?_
    refine ex_iconst 1 dX6_cutCanBe_12 kI_1 ?_
    refine ex_aload_n dX6_cutCanBe_13 rfl ?_
    refine mx_getr 6 (o + 9) dX6_cutCanBe_14 fl_X6_29 ho (rf_6_4 ho) ?_
    refine ex_iload_n dX6_cutCanBe_17 rfl ?_
    refine ex_iconst 1 dX6_cutCanBe_18 kI_1 ?_
    obtain ⟨x2, qx2, h⟩ := b1E h
    refine mx_cVi [.int a1, .int 1] [.int 1, .int a2] (o + 9) 8 x2 dX6_cutCanBe_19 cl_X6_90 im_X8_at cy_X8_at (oc_6_4 ho) rfl (Nat.le_of_ble_eq_true rfl) (by decide) (t_X8_at l E (o + 9) a1 1 (oc_6_4 ho) M qx2) ?_
    refine ex_iconst 1 dX6_cutCanBe_22 kI_1 ?_
    refine ex_isub dX6_cutCanBe_23 ?_
    refine mx_cSi [.int a2, .int 1, .int (x2 - 1)] [] (f_X10_within a2 1 (x2 - 1)) dX6_cutCanBe_24 cl_X6_86 sm_X10_within rfl (Nat.le_of_ble_eq_true rfl) (by decide) (t_X10_within l E a2 1 (x2 - 1) M rfl) ?_
    have JXC5 : ((f_X10_within a2 1 (x2 - 1)) = 0 ∨ ¬ ((f_X8_isFull (o + 9) M) = 0)) → XM l E (RX6, "cutCanBe", cX6_cutCanBe, 3) (some .boolean) 2 44 [some (.ref o), some (.int a1), some (.int a2)] [] M M (some (.int r)) := fun C5 => by
      rw [if_pos C5] at h
      refine ex_iconst 0 dX6_cutCanBe_44 kI_0 ?_
      cases h
      exact mx_reti .boolean dX6_cutCanBe_45 ⟨rfl, by decide⟩
    have JYC5 : ¬ (((f_X10_within a2 1 (x2 - 1)) = 0 ∨ ¬ ((f_X8_isFull (o + 9) M) = 0))) → XM l E (RX6, "cutCanBe", cX6_cutCanBe, 3) (some .boolean) 2 45 [some (.ref o), some (.int a1), some (.int a2)] [.int 1] M M (some (.int r)) := fun C5 => by
      rw [if_neg C5] at h
      cases h
      exact mx_reti .boolean dX6_cutCanBe_45 ⟨rfl, by decide⟩
    clear h
    refine ex_if_eq 44 dX6_cutCanBe_27 (by decide) (fun c3 => ?_) (fun c3 => ?_)
    · exact JXC5 (Or.inl c3)
    · refine ex_aload_n dX6_cutCanBe_30 rfl ?_
      refine mx_getr 6 (o + 9) dX6_cutCanBe_31 fl_X6_29 ho (rf_6_4 ho) ?_
      refine mx_cVi [] [] (o + 9) 8 (f_X8_isFull (o + 9) M) dX6_cutCanBe_34 cl_X6_94 im_X8_isFull cy_X8_isFull (oc_6_4 ho) rfl (Nat.le_of_ble_eq_true rfl) (by decide) (t_X8_isFull l E (o + 9) (oc_6_4 ho) M rfl) ?_
      refine ex_if_ne 44 dX6_cutCanBe_37 (by decide) (fun c4 => ?_) (fun c4 => ?_)
      · exact JXC5 (Or.inr c4)
      · refine ex_iconst 1 dX6_cutCanBe_40 kI_1 ?_
        refine ex_goto 45 dX6_cutCanBe_41 (by decide) ?_
        exact JYC5 (fun z => z.elim c3 (fun z => z c4))
def f_X6_joiningCanBe (o : Nat) (a1 : Int32) (a2 : Int32) (M : Mem) : Option (Int32) :=
  if ((f_X8_has (o + 9) a1 M) = 0 ∨ ((f_X8_has (o + 9) a2 M) = 0 ∨ a1 = a2)) then (some 0) else (b1 (f_X8_at (o + 9) a1 0 M) fun x5 => b1 (f_X8_at (o + 9) a2 0 M) fun x6 => if x5 = x6 then (some 1) else (some 0))
set_option maxRecDepth 100000 in
set_option maxHeartbeats 4000000 in
theorem t_X6_joiningCanBe (l : Launch) (E : EV) (o : Nat) (a1 : Int32) (a2 : Int32) (ho : oc o = some 6) (M : Mem) {r : Int32} (h : f_X6_joiningCanBe o a1 a2 M = some r) : RunM l E yX6_joiningCanBe cX6_joiningCanBe 3 (some .boolean) 2 [.ref o, .int a1, .int a2] M M (some (.int r)) := by
  refine RunM.of (by decide) (Nat.le_of_ble_eq_true rfl) ?_
  show XM l E (RX6, "joiningCanBe", cX6_joiningCanBe, 3) (some .boolean) 2 0 [some (.ref o), some (.int a1), some (.int a2)] [] M M (some (.int r))
  unfold f_X6_joiningCanBe at h
  refine ex_aload_n dX6_joiningCanBe_0 rfl ?_
  refine mx_getr 6 (o + 9) dX6_joiningCanBe_1 fl_X6_29 ho (rf_6_4 ho) ?_
  refine ex_iload_n dX6_joiningCanBe_4 rfl ?_
  refine mx_cVi [.int a1] [] (o + 9) 8 (f_X8_has (o + 9) a1 M) dX6_joiningCanBe_5 cl_X6_82 im_X8_has cy_X8_has (oc_6_4 ho) rfl (Nat.le_of_ble_eq_true rfl) (by decide) (t_X8_has l E (o + 9) a1 (oc_6_4 ho) M rfl) ?_
  have JXC4 : ((f_X8_has (o + 9) a1 M) = 0 ∨ ((f_X8_has (o + 9) a2 M) = 0 ∨ a1 = a2)) → XM l E (RX6, "joiningCanBe", cX6_joiningCanBe, 3) (some .boolean) 2 52 [some (.ref o), some (.int a1), some (.int a2)] [] M M (some (.int r)) := fun C4 => by
    rw [if_pos C4] at h
    refine ex_iconst 0 dX6_joiningCanBe_52 kI_0 ?_
    cases h
    exact mx_reti .boolean dX6_joiningCanBe_53 ⟨rfl, by decide⟩
  have JYC4 : ¬ (((f_X8_has (o + 9) a1 M) = 0 ∨ ((f_X8_has (o + 9) a2 M) = 0 ∨ a1 = a2))) → XM l E (RX6, "joiningCanBe", cX6_joiningCanBe, 3) (some .boolean) 2 33 [some (.ref o), some (.int a1), some (.int a2)] [.int 0, .int a1, .ref (o + 9)] M M (some (.int r)) := fun C4 => by
    rw [if_neg C4] at h
    obtain ⟨x5, qx5, h⟩ := b1E h
    refine mx_cVi [.int a1, .int 0] [] (o + 9) 8 x5 dX6_joiningCanBe_33 cl_X6_90 im_X8_at cy_X8_at (oc_6_4 ho) rfl (Nat.le_of_ble_eq_true rfl) (by decide) (t_X8_at l E (o + 9) a1 0 (oc_6_4 ho) M qx5) ?_
    refine ex_aload_n dX6_joiningCanBe_36 rfl ?_
    refine mx_getr 6 (o + 9) dX6_joiningCanBe_37 fl_X6_29 ho (rf_6_4 ho) ?_
    refine ex_iload_n dX6_joiningCanBe_40 rfl ?_
    refine ex_iconst 0 dX6_joiningCanBe_41 kI_0 ?_
    obtain ⟨x6, qx6, h⟩ := b1E h
    refine mx_cVi [.int a2, .int 0] [.int x5] (o + 9) 8 x6 dX6_joiningCanBe_42 cl_X6_90 im_X8_at cy_X8_at (oc_6_4 ho) rfl (Nat.le_of_ble_eq_true rfl) (by decide) (t_X8_at l E (o + 9) a2 0 (oc_6_4 ho) M qx6) ?_
    refine ex_icmp_ne 52 dX6_joiningCanBe_45 (by decide) (fun c7 => ?_) (fun c7 => ?_)
    · rw [if_neg c7] at h
      refine ex_iconst 0 dX6_joiningCanBe_52 kI_0 ?_
      cases h
      exact mx_reti .boolean dX6_joiningCanBe_53 ⟨rfl, by decide⟩
    · rw [if_pos c7] at h
      refine ex_iconst 1 dX6_joiningCanBe_48 kI_1 ?_
      refine ex_goto 53 dX6_joiningCanBe_49 (by decide) ?_
      cases h
      exact mx_reti .boolean dX6_joiningCanBe_53 ⟨rfl, by decide⟩
  clear h
  refine ex_if_eq 52 dX6_joiningCanBe_8 (by decide) (fun c1 => ?_) (fun c1 => ?_)
  · exact JXC4 (Or.inl c1)
  · refine ex_aload_n dX6_joiningCanBe_11 rfl ?_
    refine mx_getr 6 (o + 9) dX6_joiningCanBe_12 fl_X6_29 ho (rf_6_4 ho) ?_
    refine ex_iload_n dX6_joiningCanBe_15 rfl ?_
    refine mx_cVi [.int a2] [] (o + 9) 8 (f_X8_has (o + 9) a2 M) dX6_joiningCanBe_16 cl_X6_82 im_X8_has cy_X8_has (oc_6_4 ho) rfl (Nat.le_of_ble_eq_true rfl) (by decide) (t_X8_has l E (o + 9) a2 (oc_6_4 ho) M rfl) ?_
    refine ex_if_eq 52 dX6_joiningCanBe_19 (by decide) (fun c2 => ?_) (fun c2 => ?_)
    · exact JXC4 (Or.inr (Or.inl c2))
    · refine ex_iload_n dX6_joiningCanBe_22 rfl ?_
      refine ex_iload_n dX6_joiningCanBe_23 rfl ?_
      refine ex_icmp_eq 52 dX6_joiningCanBe_24 (by decide) (fun c3 => ?_) (fun c3 => ?_)
      · exact JXC4 (Or.inr (Or.inr c3))
      · refine ex_aload_n dX6_joiningCanBe_27 rfl ?_
        refine mx_getr 6 (o + 9) dX6_joiningCanBe_28 fl_X6_29 ho (rf_6_4 ho) ?_
        refine ex_iload_n dX6_joiningCanBe_31 rfl ?_
        refine ex_iconst 0 dX6_joiningCanBe_32 kI_0 ?_
        exact JYC4 (fun z => z.elim c1 (fun z => z.elim c2 c3))
def f_X6_askOfFeast (o : Nat) (a1 : Int32) (a2 : Int32) (M : Mem) : Option (Mem) :=
  lt (up2 M (o + 25) 0 a1) fun M1 => b1 (f_X8_at (o + 1) a1 0 M1) fun x2 => lt (up2 M1 (o + 25) 1 x2) fun M3 => lt (up2 M3 (o + 25) 2 a2) fun M4 => lt (up2 M4 (o + 25) 3 0) fun M5 => lt (up2 M5 (o + 25) 4 0) fun M6 => lt (up2 M6 (o + 25) 5 0) fun M7 => lt (up2 M7 (o + 25) 6 (M7 o 10)) fun M8 => some M8
set_option maxRecDepth 100000 in
set_option maxHeartbeats 4000000 in
theorem t_X6_askOfFeast (l : Launch) (E : EV) (o : Nat) (a1 : Int32) (a2 : Int32) (ho : oc o = some 6) (M : Mem) {M' : Mem} (h : f_X6_askOfFeast o a1 a2 M = some M') : RunM l E yX6_askOfFeast cX6_askOfFeast 3 none 2 [.ref o, .int a1, .int a2] M M' none := by
  refine RunM.of (by decide) (Nat.le_of_ble_eq_true rfl) ?_
  show XM l E (RX6, "askOfFeast", cX6_askOfFeast, 3) none 2 0 [some (.ref o), some (.int a1), some (.int a2)] [] M M' none
  unfold f_X6_askOfFeast at h
  refine ex_aload_n dX6_askOfFeast_0 rfl ?_
  refine mx_getr 6 (o + 25) dX6_askOfFeast_1 fl_X6_49 ho (rf_6_8 ho) ?_
  refine ex_iconst 0 dX6_askOfFeast_4 kI_0 ?_
  refine ex_iload_n dX6_askOfFeast_5 rfl ?_
  obtain ⟨M1, eM1, h⟩ := ltE h
  refine mx_iast M1 dX6_askOfFeast_6 ((wrf_6_8_0 ho _ _).trans (congrArg some eM1.symm)) ?_
  refine ex_aload_n dX6_askOfFeast_7 rfl ?_
  refine mx_getr 6 (o + 25) dX6_askOfFeast_8 fl_X6_49 ho (rf_6_8 ho) ?_
  refine ex_iconst 1 dX6_askOfFeast_11 kI_1 ?_
  refine ex_aload_n dX6_askOfFeast_12 rfl ?_
  refine mx_getr 6 (o + 1) dX6_askOfFeast_13 fl_X6_14 ho (rf_6_0 ho) ?_
  refine ex_iload_n dX6_askOfFeast_16 rfl ?_
  refine ex_iconst 0 dX6_askOfFeast_17 kI_0 ?_
  obtain ⟨x2, qx2, h⟩ := b1E h
  refine mx_cVi [.int a1, .int 0] [.int 1, .ref (o + 25)] (o + 1) 8 x2 dX6_askOfFeast_18 cl_X6_90 im_X8_at cy_X8_at (oc_6_0 ho) rfl (Nat.le_of_ble_eq_true rfl) (by decide) (t_X8_at l E (o + 1) a1 0 (oc_6_0 ho) M1 qx2) ?_
  obtain ⟨M3, eM3, h⟩ := ltE h
  refine mx_iast M3 dX6_askOfFeast_21 ((wrf_6_8_1 ho _ _).trans (congrArg some eM3.symm)) ?_
  refine ex_aload_n dX6_askOfFeast_22 rfl ?_
  refine mx_getr 6 (o + 25) dX6_askOfFeast_23 fl_X6_49 ho (rf_6_8 ho) ?_
  refine ex_iconst 2 dX6_askOfFeast_26 kI_2 ?_
  refine ex_iload_n dX6_askOfFeast_27 rfl ?_
  obtain ⟨M4, eM4, h⟩ := ltE h
  refine mx_iast M4 dX6_askOfFeast_28 ((wrf_6_8_2 ho _ _).trans (congrArg some eM4.symm)) ?_
  refine ex_aload_n dX6_askOfFeast_29 rfl ?_
  refine mx_getr 6 (o + 25) dX6_askOfFeast_30 fl_X6_49 ho (rf_6_8 ho) ?_
  refine ex_iconst 3 dX6_askOfFeast_33 kI_3 ?_
  refine ex_iconst 0 dX6_askOfFeast_34 kI_0 ?_
  obtain ⟨M5, eM5, h⟩ := ltE h
  refine mx_iast M5 dX6_askOfFeast_35 ((wrf_6_8_3 ho _ _).trans (congrArg some eM5.symm)) ?_
  refine ex_aload_n dX6_askOfFeast_36 rfl ?_
  refine mx_getr 6 (o + 25) dX6_askOfFeast_37 fl_X6_49 ho (rf_6_8 ho) ?_
  refine ex_iconst 4 dX6_askOfFeast_40 kI_4 ?_
  refine ex_iconst 0 dX6_askOfFeast_41 kI_0 ?_
  obtain ⟨M6, eM6, h⟩ := ltE h
  refine mx_iast M6 dX6_askOfFeast_42 ((wrf_6_8_4 ho _ _).trans (congrArg some eM6.symm)) ?_
  refine ex_aload_n dX6_askOfFeast_43 rfl ?_
  refine mx_getr 6 (o + 25) dX6_askOfFeast_44 fl_X6_49 ho (rf_6_8 ho) ?_
  refine ex_iconst 5 dX6_askOfFeast_47 kI_5 ?_
  refine ex_iconst 0 dX6_askOfFeast_48 kI_0 ?_
  obtain ⟨M7, eM7, h⟩ := ltE h
  refine mx_iast M7 dX6_askOfFeast_49 ((wrf_6_8_5 ho _ _).trans (congrArg some eM7.symm)) ?_
  refine ex_aload_n dX6_askOfFeast_50 rfl ?_
  refine mx_getr 6 (o + 25) dX6_askOfFeast_51 fl_X6_49 ho (rf_6_8 ho) ?_
  refine ex_bipush 6 dX6_askOfFeast_54 kB_6 ?_
  refine ex_aload_n dX6_askOfFeast_56 rfl ?_
  refine mx_geti 6 dX6_askOfFeast_57 fl_X6_67 ho (isi_6_10 ho) ?_
  obtain ⟨M8, eM8, h⟩ := ltE h
  refine mx_iast M8 dX6_askOfFeast_60 ((wrf_6_8_6 ho _ _).trans (congrArg some eM8.symm)) ?_
  cases h
  exact mx_retv dX6_askOfFeast_61 rfl
def f_X6_ageOf (o : Nat) (a1 : Int32) (M : Mem) : Option (Int32) :=
  b1 (f_X8_at (o + 9) a1 2 M) fun x1 => some ((M o 10) - x1)
set_option maxRecDepth 100000 in
set_option maxHeartbeats 4000000 in
theorem t_X6_ageOf (l : Launch) (E : EV) (o : Nat) (a1 : Int32) (ho : oc o = some 6) (M : Mem) {r : Int32} (h : f_X6_ageOf o a1 M = some r) : RunM l E yX6_ageOf cX6_ageOf 2 (some .int) 2 [.ref o, .int a1] M M (some (.int r)) := by
  refine RunM.of (by decide) (Nat.le_of_ble_eq_true rfl) ?_
  show XM l E (RX6, "ageOf", cX6_ageOf, 2) (some .int) 2 0 [some (.ref o), some (.int a1)] [] M M (some (.int r))
  unfold f_X6_ageOf at h
  refine ex_aload_n dX6_ageOf_0 rfl ?_
  refine mx_geti 6 dX6_ageOf_1 fl_X6_67 ho (isi_6_10 ho) ?_
  refine ex_aload_n dX6_ageOf_4 rfl ?_
  refine mx_getr 6 (o + 9) dX6_ageOf_5 fl_X6_29 ho (rf_6_4 ho) ?_
  refine ex_iload_n dX6_ageOf_8 rfl ?_
  refine ex_iconst 2 dX6_ageOf_9 kI_2 ?_
  obtain ⟨x1, qx1, h⟩ := b1E h
  refine mx_cVi [.int a1, .int 2] [.int (M o 10)] (o + 9) 8 x1 dX6_ageOf_10 cl_X6_90 im_X8_at cy_X8_at (oc_6_4 ho) rfl (Nat.le_of_ble_eq_true rfl) (by decide) (t_X8_at l E (o + 9) a1 2 (oc_6_4 ho) M qx1) ?_
  refine ex_isub dX6_ageOf_13 ?_
  cases h
  exact mx_reti .int dX6_ageOf_14 ⟨rfl, rfl⟩
def f_X6_askOfRemain (o : Nat) (a1 : Int32) (a2 : Int32) (M : Mem) : Option (Mem) :=
  b1 (f_X8_at (o + 9) a1 0 M) fun x1 => lt (up2 M (o + 25) 0 x1) fun M2 => b1 (f_X8_at (o + 1) x1 0 M2) fun x3 => lt (up2 M2 (o + 25) 1 x3) fun M4 => lt (up2 M4 (o + 25) 2 0) fun M5 => b1 (f_X8_at (o + 9) a1 1 M5) fun x6 => lt (up2 M5 (o + 25) 3 x6) fun M7 => b1 (f_X6_ageOf o a1 M7) fun x8 => lt (up2 M7 (o + 25) 4 (x8 + a2)) fun M9 => b1 (f_X8_at (o + 9) a1 3 M9) fun x10 => lt (up2 M9 (o + 25) 5 x10) fun M11 => lt (up2 M11 (o + 25) 6 ((M11 o 10) + a2)) fun M12 => some M12
set_option maxRecDepth 100000 in
set_option maxHeartbeats 4000000 in
theorem t_X6_askOfRemain (l : Launch) (E : EV) (o : Nat) (a1 : Int32) (a2 : Int32) (ho : oc o = some 6) (M : Mem) {M' : Mem} (h : f_X6_askOfRemain o a1 a2 M = some M') : RunM l E yX6_askOfRemain cX6_askOfRemain 4 none 3 [.ref o, .int a1, .int a2] M M' none := by
  refine RunM.of (by decide) (Nat.le_of_ble_eq_true rfl) ?_
  show XM l E (RX6, "askOfRemain", cX6_askOfRemain, 4) none 3 0 [some (.ref o), some (.int a1), some (.int a2), none] [] M M' none
  unfold f_X6_askOfRemain at h
  refine ex_aload_n dX6_askOfRemain_0 rfl ?_
  refine mx_getr 6 (o + 9) dX6_askOfRemain_1 fl_X6_29 ho (rf_6_4 ho) ?_
  refine ex_iload_n dX6_askOfRemain_4 rfl ?_
  refine ex_iconst 0 dX6_askOfRemain_5 kI_0 ?_
  obtain ⟨x1, qx1, h⟩ := b1E h
  refine mx_cVi [.int a1, .int 0] [] (o + 9) 8 x1 dX6_askOfRemain_6 cl_X6_90 im_X8_at cy_X8_at (oc_6_4 ho) rfl (Nat.le_of_ble_eq_true rfl) (by decide) (t_X8_at l E (o + 9) a1 0 (oc_6_4 ho) M qx1) ?_
  refine ex_istore_n (L2 := [some (.ref o), some (.int a1), some (.int a2), some (.int x1)]) dX6_askOfRemain_9 (by decide) rfl ?_
  refine ex_aload_n dX6_askOfRemain_10 rfl ?_
  refine mx_getr 6 (o + 25) dX6_askOfRemain_11 fl_X6_49 ho (rf_6_8 ho) ?_
  refine ex_iconst 0 dX6_askOfRemain_14 kI_0 ?_
  refine ex_iload_n dX6_askOfRemain_15 rfl ?_
  obtain ⟨M2, eM2, h⟩ := ltE h
  refine mx_iast M2 dX6_askOfRemain_16 ((wrf_6_8_0 ho _ _).trans (congrArg some eM2.symm)) ?_
  refine ex_aload_n dX6_askOfRemain_17 rfl ?_
  refine mx_getr 6 (o + 25) dX6_askOfRemain_18 fl_X6_49 ho (rf_6_8 ho) ?_
  refine ex_iconst 1 dX6_askOfRemain_21 kI_1 ?_
  refine ex_aload_n dX6_askOfRemain_22 rfl ?_
  refine mx_getr 6 (o + 1) dX6_askOfRemain_23 fl_X6_14 ho (rf_6_0 ho) ?_
  refine ex_iload_n dX6_askOfRemain_26 rfl ?_
  refine ex_iconst 0 dX6_askOfRemain_27 kI_0 ?_
  obtain ⟨x3, qx3, h⟩ := b1E h
  refine mx_cVi [.int x1, .int 0] [.int 1, .ref (o + 25)] (o + 1) 8 x3 dX6_askOfRemain_28 cl_X6_90 im_X8_at cy_X8_at (oc_6_0 ho) rfl (Nat.le_of_ble_eq_true rfl) (by decide) (t_X8_at l E (o + 1) x1 0 (oc_6_0 ho) M2 qx3) ?_
  obtain ⟨M4, eM4, h⟩ := ltE h
  refine mx_iast M4 dX6_askOfRemain_31 ((wrf_6_8_1 ho _ _).trans (congrArg some eM4.symm)) ?_
  refine ex_aload_n dX6_askOfRemain_32 rfl ?_
  refine mx_getr 6 (o + 25) dX6_askOfRemain_33 fl_X6_49 ho (rf_6_8 ho) ?_
  refine ex_iconst 2 dX6_askOfRemain_36 kI_2 ?_
  refine ex_iconst 0 dX6_askOfRemain_37 kI_0 ?_
  obtain ⟨M5, eM5, h⟩ := ltE h
  refine mx_iast M5 dX6_askOfRemain_38 ((wrf_6_8_2 ho _ _).trans (congrArg some eM5.symm)) ?_
  refine ex_aload_n dX6_askOfRemain_39 rfl ?_
  refine mx_getr 6 (o + 25) dX6_askOfRemain_40 fl_X6_49 ho (rf_6_8 ho) ?_
  refine ex_iconst 3 dX6_askOfRemain_43 kI_3 ?_
  refine ex_aload_n dX6_askOfRemain_44 rfl ?_
  refine mx_getr 6 (o + 9) dX6_askOfRemain_45 fl_X6_29 ho (rf_6_4 ho) ?_
  refine ex_iload_n dX6_askOfRemain_48 rfl ?_
  refine ex_iconst 1 dX6_askOfRemain_49 kI_1 ?_
  obtain ⟨x6, qx6, h⟩ := b1E h
  refine mx_cVi [.int a1, .int 1] [.int 3, .ref (o + 25)] (o + 9) 8 x6 dX6_askOfRemain_50 cl_X6_90 im_X8_at cy_X8_at (oc_6_4 ho) rfl (Nat.le_of_ble_eq_true rfl) (by decide) (t_X8_at l E (o + 9) a1 1 (oc_6_4 ho) M5 qx6) ?_
  obtain ⟨M7, eM7, h⟩ := ltE h
  refine mx_iast M7 dX6_askOfRemain_53 ((wrf_6_8_3 ho _ _).trans (congrArg some eM7.symm)) ?_
  refine ex_aload_n dX6_askOfRemain_54 rfl ?_
  refine mx_getr 6 (o + 25) dX6_askOfRemain_55 fl_X6_49 ho (rf_6_8 ho) ?_
  refine ex_iconst 4 dX6_askOfRemain_58 kI_4 ?_
  refine ex_aload_n dX6_askOfRemain_59 rfl ?_
  refine ex_iload_n dX6_askOfRemain_60 rfl ?_
  obtain ⟨x8, qx8, h⟩ := b1E h
  refine mx_cVi [.int a1] [.int 4, .ref (o + 25)] o 6 x8 dX6_askOfRemain_61 cl_X6_98 im_X6_ageOf cy_X6_ageOf ho rfl (Nat.le_of_ble_eq_true rfl) (by decide) (t_X6_ageOf l E o a1 ho M7 qx8) ?_
  refine ex_iload_n dX6_askOfRemain_64 rfl ?_
  refine ex_iadd dX6_askOfRemain_65 ?_
  obtain ⟨M9, eM9, h⟩ := ltE h
  refine mx_iast M9 dX6_askOfRemain_66 ((wrf_6_8_4 ho _ _).trans (congrArg some eM9.symm)) ?_
  refine ex_aload_n dX6_askOfRemain_67 rfl ?_
  refine mx_getr 6 (o + 25) dX6_askOfRemain_68 fl_X6_49 ho (rf_6_8 ho) ?_
  refine ex_iconst 5 dX6_askOfRemain_71 kI_5 ?_
  refine ex_aload_n dX6_askOfRemain_72 rfl ?_
  refine mx_getr 6 (o + 9) dX6_askOfRemain_73 fl_X6_29 ho (rf_6_4 ho) ?_
  refine ex_iload_n dX6_askOfRemain_76 rfl ?_
  refine ex_iconst 3 dX6_askOfRemain_77 kI_3 ?_
  obtain ⟨x10, qx10, h⟩ := b1E h
  refine mx_cVi [.int a1, .int 3] [.int 5, .ref (o + 25)] (o + 9) 8 x10 dX6_askOfRemain_78 cl_X6_90 im_X8_at cy_X8_at (oc_6_4 ho) rfl (Nat.le_of_ble_eq_true rfl) (by decide) (t_X8_at l E (o + 9) a1 3 (oc_6_4 ho) M9 qx10) ?_
  obtain ⟨M11, eM11, h⟩ := ltE h
  refine mx_iast M11 dX6_askOfRemain_81 ((wrf_6_8_5 ho _ _).trans (congrArg some eM11.symm)) ?_
  refine ex_aload_n dX6_askOfRemain_82 rfl ?_
  refine mx_getr 6 (o + 25) dX6_askOfRemain_83 fl_X6_49 ho (rf_6_8 ho) ?_
  refine ex_bipush 6 dX6_askOfRemain_86 kB_6 ?_
  refine ex_aload_n dX6_askOfRemain_88 rfl ?_
  refine mx_geti 6 dX6_askOfRemain_89 fl_X6_67 ho (isi_6_10 ho) ?_
  refine ex_iload_n dX6_askOfRemain_92 rfl ?_
  refine ex_iadd dX6_askOfRemain_93 ?_
  obtain ⟨M12, eM12, h⟩ := ltE h
  refine mx_iast M12 dX6_askOfRemain_94 ((wrf_6_8_6 ho _ _).trans (congrArg some eM12.symm)) ?_
  cases h
  exact mx_retv dX6_askOfRemain_95 rfl
def f_X10_held (a1 : Int32) (a2 : Int32) (a3 : Int32) : (Int32) :=
  (f_J9_max_7cf53 a2 (f_J9_min_7cf53 a3 a1))
set_option maxRecDepth 100000 in
set_option maxHeartbeats 4000000 in
theorem t_X10_held (l : Launch) (E : EV) (a1 : Int32) (a2 : Int32) (a3 : Int32) (M : Mem) {r : Int32} (h : f_X10_held a1 a2 a3 = r) : RunM l E yX10_held cX10_held 3 (some .int) 1 [.int a1, .int a2, .int a3] M M (some (.int r)) := by
  refine RunM.of (by decide) (Nat.le_of_ble_eq_true rfl) ?_
  show XM l E (RX10, "held", cX10_held, 3) (some .int) 1 0 [some (.int a1), some (.int a2), some (.int a3)] [] M M (some (.int r))
  unfold f_X10_held at h
  refine ex_iload_n dX10_held_0 rfl ?_
  refine ex_iload_n dX10_held_1 rfl ?_
  refine ex_iload_n dX10_held_2 rfl ?_
  refine mx_min dX10_held_3 (tb (i := 589) (by decide +kernel)) (by decide) (Nat.le_of_ble_eq_true rfl) ?_
  refine mx_max dX10_held_6 (tb (i := 590) (by decide +kernel)) (by decide) (Nat.le_of_ble_eq_true rfl) ?_
  subst h
  exact mx_reti .int dX10_held_9 ⟨rfl, rfl⟩
def f_X6_leftByFeast (o : Nat) (a1 : Int32) (a2 : Int32) (M : Mem) : Option (Mem × Int32) :=
  b1 (f_X8_at (o + 1) a1 0 M) fun x1 => b1 (f_X6_askOfFeast o a1 a2 M) fun M2 => b2 (f_X2_tells (o + 13) 307 (o + 25) (x1 - (5 * a2)) M2) fun M3 x4 => some (M3, (f_X10_held x4 0 (x1 - 1)))
set_option maxRecDepth 100000 in
set_option maxHeartbeats 4000000 in
theorem t_X6_leftByFeast (l : Launch) (E : EV) (o : Nat) (a1 : Int32) (a2 : Int32) (ho : oc o = some 6) (M : Mem) {M' : Mem} {r : Int32} (h : f_X6_leftByFeast o a1 a2 M = some (M', r)) : RunM l E yX6_leftByFeast cX6_leftByFeast 4 (some .int) 3 [.ref o, .int a1, .int a2] M M' (some (.int r)) := by
  refine RunM.of (by decide) (Nat.le_of_ble_eq_true rfl) ?_
  show XM l E (RX6, "leftByFeast", cX6_leftByFeast, 4) (some .int) 3 0 [some (.ref o), some (.int a1), some (.int a2), none] [] M M' (some (.int r))
  unfold f_X6_leftByFeast at h
  refine ex_aload_n dX6_leftByFeast_0 rfl ?_
  refine mx_getr 6 (o + 1) dX6_leftByFeast_1 fl_X6_14 ho (rf_6_0 ho) ?_
  refine ex_iload_n dX6_leftByFeast_4 rfl ?_
  refine ex_iconst 0 dX6_leftByFeast_5 kI_0 ?_
  obtain ⟨x1, qx1, h⟩ := b1E h
  refine mx_cVi [.int a1, .int 0] [] (o + 1) 8 x1 dX6_leftByFeast_6 cl_X6_90 im_X8_at cy_X8_at (oc_6_0 ho) rfl (Nat.le_of_ble_eq_true rfl) (by decide) (t_X8_at l E (o + 1) a1 0 (oc_6_0 ho) M qx1) ?_
  refine ex_istore_n (L2 := [some (.ref o), some (.int a1), some (.int a2), some (.int x1)]) dX6_leftByFeast_9 (by decide) rfl ?_
  refine ex_aload_n dX6_leftByFeast_10 rfl ?_
  refine ex_iload_n dX6_leftByFeast_11 rfl ?_
  refine ex_iload_n dX6_leftByFeast_12 rfl ?_
  obtain ⟨M2, qM2, h⟩ := b1E h
  refine mx_cVv [.int a1, .int a2] [] o 6 dX6_leftByFeast_13 cl_X6_102 im_X6_askOfFeast cy_X6_askOfFeast ho rfl (Nat.le_of_ble_eq_true rfl) (by decide) (t_X6_askOfFeast l E o a1 a2 ho M qM2) ?_
  refine ex_aload_n dX6_leftByFeast_16 rfl ?_
  refine mx_getr 6 (o + 13) dX6_leftByFeast_17 fl_X6_38 ho (rf_6_6 ho) ?_
  refine ex_sipush 307 dX6_leftByFeast_20 kS_307 ?_
  refine ex_aload_n dX6_leftByFeast_23 rfl ?_
  refine mx_getr 6 (o + 25) dX6_leftByFeast_24 fl_X6_49 ho (rf_6_8 ho) ?_
  refine ex_iload_n dX6_leftByFeast_27 rfl ?_
  refine ex_iconst 5 dX6_leftByFeast_28 kI_5 ?_
  refine ex_iload_n dX6_leftByFeast_29 rfl ?_
  refine ex_imul dX6_leftByFeast_30 ?_
  refine ex_isub dX6_leftByFeast_31 ?_
  obtain ⟨M3, x4, qx4, h⟩ := b2E h
  refine mx_cVi [.int 307, .ref (o + 25), .int (x1 - (5 * a2))] [] (o + 13) 2 x4 dX6_leftByFeast_32 cl_X6_105 im_X2_tells cy_X2_tells (oc_6_6 ho) rfl (Nat.le_of_ble_eq_true rfl) (by decide) (t_X2_tells l E (o + 13) 307 (o + 25) (x1 - (5 * a2)) (oc_6_6 ho) M2 qx4) ?_
  refine ex_iconst 0 dX6_leftByFeast_35 kI_0 ?_
  refine ex_iload_n dX6_leftByFeast_36 rfl ?_
  refine ex_iconst 1 dX6_leftByFeast_37 kI_1 ?_
  refine ex_isub dX6_leftByFeast_38 ?_
  refine mx_cSi [.int x4, .int 0, .int (x1 - 1)] [] (f_X10_held x4 0 (x1 - 1)) dX6_leftByFeast_39 cl_X6_109 sm_X10_held rfl (Nat.le_of_ble_eq_true rfl) (by decide) (t_X10_held l E x4 0 (x1 - 1) M3 rfl) ?_
  cases h
  exact mx_reti .int dX6_leftByFeast_42 ⟨rfl, rfl⟩
def f_X6_edgeOfFeast (o : Nat) (a1 : Int32) (a2 : Int32) (M : Mem) : Option (Mem × Int32) :=
  b1 (f_X6_askOfFeast o a1 a2 M) fun M1 => b2 (f_X2_tells (o + 13) 310 (o + 25) 3 M1) fun M2 x3 => some (M2, (f_X10_held x3 0 9))
set_option maxRecDepth 100000 in
set_option maxHeartbeats 4000000 in
theorem t_X6_edgeOfFeast (l : Launch) (E : EV) (o : Nat) (a1 : Int32) (a2 : Int32) (ho : oc o = some 6) (M : Mem) {M' : Mem} {r : Int32} (h : f_X6_edgeOfFeast o a1 a2 M = some (M', r)) : RunM l E yX6_edgeOfFeast cX6_edgeOfFeast 3 (some .int) 3 [.ref o, .int a1, .int a2] M M' (some (.int r)) := by
  refine RunM.of (by decide) (Nat.le_of_ble_eq_true rfl) ?_
  show XM l E (RX6, "edgeOfFeast", cX6_edgeOfFeast, 3) (some .int) 3 0 [some (.ref o), some (.int a1), some (.int a2)] [] M M' (some (.int r))
  unfold f_X6_edgeOfFeast at h
  refine ex_aload_n dX6_edgeOfFeast_0 rfl ?_
  refine ex_iload_n dX6_edgeOfFeast_1 rfl ?_
  refine ex_iload_n dX6_edgeOfFeast_2 rfl ?_
  obtain ⟨M1, qM1, h⟩ := b1E h
  refine mx_cVv [.int a1, .int a2] [] o 6 dX6_edgeOfFeast_3 cl_X6_102 im_X6_askOfFeast cy_X6_askOfFeast ho rfl (Nat.le_of_ble_eq_true rfl) (by decide) (t_X6_askOfFeast l E o a1 a2 ho M qM1) ?_
  refine ex_aload_n dX6_edgeOfFeast_6 rfl ?_
  refine mx_getr 6 (o + 13) dX6_edgeOfFeast_7 fl_X6_38 ho (rf_6_6 ho) ?_
  refine ex_sipush 310 dX6_edgeOfFeast_10 kS_310 ?_
  refine ex_aload_n dX6_edgeOfFeast_13 rfl ?_
  refine mx_getr 6 (o + 25) dX6_edgeOfFeast_14 fl_X6_49 ho (rf_6_8 ho) ?_
  refine ex_iconst 3 dX6_edgeOfFeast_17 kI_3 ?_
  obtain ⟨M2, x3, qx3, h⟩ := b2E h
  refine mx_cVi [.int 310, .ref (o + 25), .int 3] [] (o + 13) 2 x3 dX6_edgeOfFeast_18 cl_X6_105 im_X2_tells cy_X2_tells (oc_6_6 ho) rfl (Nat.le_of_ble_eq_true rfl) (by decide) (t_X2_tells l E (o + 13) 310 (o + 25) 3 (oc_6_6 ho) M1 qx3) ?_
  refine ex_iconst 0 dX6_edgeOfFeast_21 kI_0 ?_
  refine ex_bipush 9 dX6_edgeOfFeast_22 kB_9 ?_
  refine mx_cSi [.int x3, .int 0, .int 9] [] (f_X10_held x3 0 9) dX6_edgeOfFeast_24 cl_X6_109 sm_X10_held rfl (Nat.le_of_ble_eq_true rfl) (by decide) (t_X10_held l E x3 0 9 M2 rfl) ?_
  cases h
  exact mx_reti .int dX6_edgeOfFeast_27 ⟨rfl, rfl⟩
def f_X6_priceOf (o : Nat) (a1 : Int32) (a2 : Int32) (M : Mem) : Option (Mem × Int32) :=
  b1 (f_X6_askOfRemain o a1 a2 M) fun M1 => b1 (f_X8_at (o + 9) a1 1 M1) fun x2 => b2 (f_X2_tells (o + 13) 308 (o + 25) x2 M1) fun M3 x4 => some (M3, (f_X10_held x4 0 999))
set_option maxRecDepth 100000 in
set_option maxHeartbeats 4000000 in
theorem t_X6_priceOf (l : Launch) (E : EV) (o : Nat) (a1 : Int32) (a2 : Int32) (ho : oc o = some 6) (M : Mem) {M' : Mem} {r : Int32} (h : f_X6_priceOf o a1 a2 M = some (M', r)) : RunM l E yX6_priceOf cX6_priceOf 3 (some .int) 4 [.ref o, .int a1, .int a2] M M' (some (.int r)) := by
  refine RunM.of (by decide) (Nat.le_of_ble_eq_true rfl) ?_
  show XM l E (RX6, "priceOf", cX6_priceOf, 3) (some .int) 4 0 [some (.ref o), some (.int a1), some (.int a2)] [] M M' (some (.int r))
  unfold f_X6_priceOf at h
  refine ex_aload_n dX6_priceOf_0 rfl ?_
  refine ex_iload_n dX6_priceOf_1 rfl ?_
  refine ex_iload_n dX6_priceOf_2 rfl ?_
  obtain ⟨M1, qM1, h⟩ := b1E h
  refine mx_cVv [.int a1, .int a2] [] o 6 dX6_priceOf_3 cl_X6_113 im_X6_askOfRemain cy_X6_askOfRemain ho rfl (Nat.le_of_ble_eq_true rfl) (by decide) (t_X6_askOfRemain l E o a1 a2 ho M qM1) ?_
  refine ex_aload_n dX6_priceOf_6 rfl ?_
  refine mx_getr 6 (o + 13) dX6_priceOf_7 fl_X6_38 ho (rf_6_6 ho) ?_
  refine ex_sipush 308 dX6_priceOf_10 kS_308 ?_
  refine ex_aload_n dX6_priceOf_13 rfl ?_
  refine mx_getr 6 (o + 25) dX6_priceOf_14 fl_X6_49 ho (rf_6_8 ho) ?_
  refine ex_aload_n dX6_priceOf_17 rfl ?_
  refine mx_getr 6 (o + 9) dX6_priceOf_18 fl_X6_29 ho (rf_6_4 ho) ?_
  refine ex_iload_n dX6_priceOf_21 rfl ?_
  refine ex_iconst 1 dX6_priceOf_22 kI_1 ?_
  obtain ⟨x2, qx2, h⟩ := b1E h
  refine mx_cVi [.int a1, .int 1] [.ref (o + 25), .int 308, .ref (o + 13)] (o + 9) 8 x2 dX6_priceOf_23 cl_X6_90 im_X8_at cy_X8_at (oc_6_4 ho) rfl (Nat.le_of_ble_eq_true rfl) (by decide) (t_X8_at l E (o + 9) a1 1 (oc_6_4 ho) M1 qx2) ?_
  obtain ⟨M3, x4, qx4, h⟩ := b2E h
  refine mx_cVi [.int 308, .ref (o + 25), .int x2] [] (o + 13) 2 x4 dX6_priceOf_26 cl_X6_105 im_X2_tells cy_X2_tells (oc_6_6 ho) rfl (Nat.le_of_ble_eq_true rfl) (by decide) (t_X2_tells l E (o + 13) 308 (o + 25) x2 (oc_6_6 ho) M1 qx4) ?_
  refine ex_iconst 0 dX6_priceOf_29 kI_0 ?_
  refine ex_sipush 999 dX6_priceOf_30 kS_999 ?_
  refine mx_cSi [.int x4, .int 0, .int 999] [] (f_X10_held x4 0 999) dX6_priceOf_33 cl_X6_109 sm_X10_held rfl (Nat.le_of_ble_eq_true rfl) (by decide) (t_X10_held l E x4 0 999 M3 rfl) ?_
  cases h
  exact mx_reti .int dX6_priceOf_36 ⟨rfl, rfl⟩
def f_X6_spoilOf (o : Nat) (a1 : Int32) (M : Mem) : Option (Mem × Int32) :=
  b1 (f_X6_askOfRemain o a1 0 M) fun M1 => b2 (f_X2_tells (o + 13) 309 (o + 25) 0 M1) fun M2 x3 => some (M2, (f_X10_held x3 0 1000))
set_option maxRecDepth 100000 in
set_option maxHeartbeats 4000000 in
theorem t_X6_spoilOf (l : Launch) (E : EV) (o : Nat) (a1 : Int32) (ho : oc o = some 6) (M : Mem) {M' : Mem} {r : Int32} (h : f_X6_spoilOf o a1 M = some (M', r)) : RunM l E yX6_spoilOf cX6_spoilOf 2 (some .int) 4 [.ref o, .int a1] M M' (some (.int r)) := by
  refine RunM.of (by decide) (Nat.le_of_ble_eq_true rfl) ?_
  show XM l E (RX6, "spoilOf", cX6_spoilOf, 2) (some .int) 4 0 [some (.ref o), some (.int a1)] [] M M' (some (.int r))
  unfold f_X6_spoilOf at h
  refine ex_aload_n dX6_spoilOf_0 rfl ?_
  refine ex_iload_n dX6_spoilOf_1 rfl ?_
  refine ex_iconst 0 dX6_spoilOf_2 kI_0 ?_
  obtain ⟨M1, qM1, h⟩ := b1E h
  refine mx_cVv [.int a1, .int 0] [] o 6 dX6_spoilOf_3 cl_X6_113 im_X6_askOfRemain cy_X6_askOfRemain ho rfl (Nat.le_of_ble_eq_true rfl) (by decide) (t_X6_askOfRemain l E o a1 0 ho M qM1) ?_
  refine ex_aload_n dX6_spoilOf_6 rfl ?_
  refine mx_getr 6 (o + 13) dX6_spoilOf_7 fl_X6_38 ho (rf_6_6 ho) ?_
  refine ex_sipush 309 dX6_spoilOf_10 kS_309 ?_
  refine ex_aload_n dX6_spoilOf_13 rfl ?_
  refine mx_getr 6 (o + 25) dX6_spoilOf_14 fl_X6_49 ho (rf_6_8 ho) ?_
  refine ex_iconst 0 dX6_spoilOf_17 kI_0 ?_
  obtain ⟨M2, x3, qx3, h⟩ := b2E h
  refine mx_cVi [.int 309, .ref (o + 25), .int 0] [] (o + 13) 2 x3 dX6_spoilOf_18 cl_X6_105 im_X2_tells cy_X2_tells (oc_6_6 ho) rfl (Nat.le_of_ble_eq_true rfl) (by decide) (t_X2_tells l E (o + 13) 309 (o + 25) 0 (oc_6_6 ho) M1 qx3) ?_
  refine ex_iconst 0 dX6_spoilOf_21 kI_0 ?_
  refine ex_sipush 1000 dX6_spoilOf_22 kS_1000 ?_
  refine mx_cSi [.int x3, .int 0, .int 1000] [] (f_X10_held x3 0 1000) dX6_spoilOf_25 cl_X6_109 sm_X10_held rfl (Nat.le_of_ble_eq_true rfl) (by decide) (t_X10_held l E x3 0 1000 M2 rfl) ?_
  cases h
  exact mx_reti .int dX6_spoilOf_28 ⟨rfl, rfl⟩
def f_X6_isTooOld (o : Nat) (a1 : Int32) (a2 : Int32) (M : Mem) : Option (Int32) :=
  b1 (f_X6_ageOf o a1 M) fun x1 => b1 (f_X8_at (o + 9) a1 0 M) fun x2 => b1 (f_X8_at (o + 1) x2 1 M) fun x3 => lt ((if (x1 + a2) < x3 then 0 else 1) : Int32) fun x5 => some x5
set_option maxRecDepth 100000 in
set_option maxHeartbeats 4000000 in
theorem t_X6_isTooOld (l : Launch) (E : EV) (o : Nat) (a1 : Int32) (a2 : Int32) (ho : oc o = some 6) (M : Mem) {r : Int32} (h : f_X6_isTooOld o a1 a2 M = some r) : RunM l E yX6_isTooOld cX6_isTooOld 3 (some .boolean) 3 [.ref o, .int a1, .int a2] M M (some (.int r)) := by
  refine RunM.of (by decide) (Nat.le_of_ble_eq_true rfl) ?_
  show XM l E (RX6, "isTooOld", cX6_isTooOld, 3) (some .boolean) 3 0 [some (.ref o), some (.int a1), some (.int a2)] [] M M (some (.int r))
  unfold f_X6_isTooOld at h
  refine ex_aload_n dX6_isTooOld_0 rfl ?_
  refine ex_iload_n dX6_isTooOld_1 rfl ?_
  obtain ⟨x1, qx1, h⟩ := b1E h
  refine mx_cVi [.int a1] [] o 6 x1 dX6_isTooOld_2 cl_X6_98 im_X6_ageOf cy_X6_ageOf ho rfl (Nat.le_of_ble_eq_true rfl) (by decide) (t_X6_ageOf l E o a1 ho M qx1) ?_
  refine ex_iload_n dX6_isTooOld_5 rfl ?_
  refine ex_iadd dX6_isTooOld_6 ?_
  refine ex_aload_n dX6_isTooOld_7 rfl ?_
  refine mx_getr 6 (o + 1) dX6_isTooOld_8 fl_X6_14 ho (rf_6_0 ho) ?_
  refine ex_aload_n dX6_isTooOld_11 rfl ?_
  refine mx_getr 6 (o + 9) dX6_isTooOld_12 fl_X6_29 ho (rf_6_4 ho) ?_
  refine ex_iload_n dX6_isTooOld_15 rfl ?_
  refine ex_iconst 0 dX6_isTooOld_16 kI_0 ?_
  obtain ⟨x2, qx2, h⟩ := b1E h
  refine mx_cVi [.int a1, .int 0] [.ref (o + 1), .int (x1 + a2)] (o + 9) 8 x2 dX6_isTooOld_17 cl_X6_90 im_X8_at cy_X8_at (oc_6_4 ho) rfl (Nat.le_of_ble_eq_true rfl) (by decide) (t_X8_at l E (o + 9) a1 0 (oc_6_4 ho) M qx2) ?_
  refine ex_iconst 1 dX6_isTooOld_20 kI_1 ?_
  obtain ⟨x3, qx3, h⟩ := b1E h
  refine mx_cVi [.int x2, .int 1] [.int (x1 + a2)] (o + 1) 8 x3 dX6_isTooOld_21 cl_X6_90 im_X8_at cy_X8_at (oc_6_0 ho) rfl (Nat.le_of_ble_eq_true rfl) (by decide) (t_X8_at l E (o + 1) x2 1 (oc_6_0 ho) M qx3) ?_
  obtain ⟨x5, ex5, h⟩ := ltE h
  have Jx5 : XM l E (RX6, "isTooOld", cX6_isTooOld, 3) (some .boolean) 3 32 [some (.ref o), some (.int a1), some (.int a2)] [.int x5] M M (some (.int r)) := by
    cases h
    exact mx_reti .boolean dX6_isTooOld_32 ⟨rfl, nzB (by rw [ex5]; (repeat' split) <;> simp)⟩
  clear h
  refine ex_icmp_lt 31 dX6_isTooOld_24 (by decide) (fun c4 => ?_) (fun c4 => ?_)
  · rw [if_pos c4] at ex5
    refine ex_iconst 0 dX6_isTooOld_31 kI_0 ?_
    subst ex5
    exact Jx5
  · rw [if_neg c4] at ex5
    refine ex_iconst 1 dX6_isTooOld_27 kI_1 ?_
    refine ex_goto 32 dX6_isTooOld_28 (by decide) ?_
    subst ex5
    exact Jx5
def w_X6_remainsOfKind_4 (o : Nat) (a1 : Int32) (M : Mem) (i1 : Int32) (i2 : Int32) : Option ((Int32 × Int32) ⊕ (Int32)) :=
  if (M (o + 9) 3) ≤ i2 then (some (.inr i1)) else (b1 (f_X8_at (o + 9) i2 0 M) fun x4 => if x4 = a1 then (some (.inl ((i1 + 1), (i2 + 1)))) else (some (.inl (i1, (i2 + 1)))))
def f_X6_remainsOfKind (o : Nat) (a1 : Int32) (M : Mem) : Option (Int32) :=
  b1 (lp (fun s => w_X6_remainsOfKind_4 o a1 M s.1 s.2) FU (0, 0)) fun q6 => some q6
set_option maxRecDepth 100000 in
set_option maxHeartbeats 4000000 in
theorem t_X6_remainsOfKind (l : Launch) (E : EV) (o : Nat) (a1 : Int32) (ho : oc o = some 6) (M : Mem) {r : Int32} (h : f_X6_remainsOfKind o a1 M = some r) : RunM l E yX6_remainsOfKind cX6_remainsOfKind 4 (some .int) 2 [.ref o, .int a1] M M (some (.int r)) := by
  refine RunM.of (by decide) (Nat.le_of_ble_eq_true rfl) ?_
  show XM l E (RX6, "remainsOfKind", cX6_remainsOfKind, 4) (some .int) 2 0 [some (.ref o), some (.int a1), none, none] [] M M (some (.int r))
  unfold f_X6_remainsOfKind at h
  refine ex_iconst 0 dX6_remainsOfKind_0 kI_0 ?_
  refine ex_istore_n (L2 := [some (.ref o), some (.int a1), some (.int 0), none]) dX6_remainsOfKind_1 (by decide) rfl ?_
  refine ex_iconst 0 dX6_remainsOfKind_2 kI_0 ?_
  refine ex_istore_n (L2 := [some (.ref o), some (.int a1), some (.int 0), some (.int 0)]) dX6_remainsOfKind_3 (by decide) rfl ?_
  refine ex_mskL [true, true, true, true] (L2 := [some (.ref o), some (.int a1), some (.int 0), some (.int 0)]) rfl ?_
  obtain ⟨q6, hlq6, h⟩ := b1E h
  have hx : XM l E (RX6, "remainsOfKind", cX6_remainsOfKind, 4) (some .int) 2 37 [none, none, some (.int q6), none] [] M M (some (.int r)) := by
    refine ex_iload_n dX6_remainsOfKind_37 rfl ?_
    cases h
    exact mx_reti .int dX6_remainsOfKind_38 ⟨rfl, rfl⟩
  clear h
  have key : ∀ (k : Nat) (s : Int32 × Int32), lp (fun s => w_X6_remainsOfKind_4 o a1 M s.1 s.2) k s = some q6 → XM l E (RX6, "remainsOfKind", cX6_remainsOfKind, 4) (some .int) 2 4 [some (.ref o), some (.int a1), some (.int s.1), some (.int s.2)] [] M M (some (.int r)) := lp_ind (P := fun (s : Int32 × Int32) => XM l E (RX6, "remainsOfKind", cX6_remainsOfKind, 4) (some .int) 2 4 [some (.ref o), some (.int a1), some (.int s.1), some (.int s.2)] [] M M (some (.int r))) (fun s t hb hk he => by
    obtain ⟨i1, i2⟩ := s
    show XM l E (RX6, "remainsOfKind", cX6_remainsOfKind, 4) (some .int) 2 4 [some (.ref o), some (.int a1), some (.int i1), some (.int i2)] [] M M (some (.int r))
    change w_X6_remainsOfKind_4 o a1 M i1 i2 = some t at hb
    unfold w_X6_remainsOfKind_4 at hb
    refine ex_iload_n dX6_remainsOfKind_4 rfl ?_
    refine ex_aload_n dX6_remainsOfKind_5 rfl ?_
    refine mx_getr 6 (o + 9) dX6_remainsOfKind_6 fl_X6_29 ho (rf_6_4 ho) ?_
    refine mx_geti 8 dX6_remainsOfKind_9 fl_X6_116 (oc_6_4 ho) (isi_8_3 (oc_6_4 ho)) ?_
    refine ex_icmp_ge 37 dX6_remainsOfKind_12 (by decide) (fun c3 => ?_) (fun c3 => ?_)
    · rw [if_pos c3] at hb
      refine ex_mskL [false, false, true, false] (L2 := [none, none, some (.int i1), none]) rfl ?_
      cases hb
      cases (he _ rfl) <;> exact hx
    · rw [if_neg c3] at hb
      refine ex_aload_n dX6_remainsOfKind_15 rfl ?_
      refine mx_getr 6 (o + 9) dX6_remainsOfKind_16 fl_X6_29 ho (rf_6_4 ho) ?_
      refine ex_iload_n dX6_remainsOfKind_19 rfl ?_
      refine ex_iconst 0 dX6_remainsOfKind_20 kI_0 ?_
      obtain ⟨x4, qx4, hb⟩ := b1E hb
      refine mx_cVi [.int i2, .int 0] [] (o + 9) 8 x4 dX6_remainsOfKind_21 cl_X6_90 im_X8_at cy_X8_at (oc_6_4 ho) rfl (Nat.le_of_ble_eq_true rfl) (by decide) (t_X8_at l E (o + 9) i2 0 (oc_6_4 ho) M qx4) ?_
      refine ex_iload_n dX6_remainsOfKind_24 rfl ?_
      refine ex_icmp_ne 31 dX6_remainsOfKind_25 (by decide) (fun c5 => ?_) (fun c5 => ?_)
      · rw [if_neg c5] at hb
        refine ex_iinc 1 (L2 := [some (.ref o), some (.int a1), some (.int i1), some (.int (i2 + 1))]) dX6_remainsOfKind_31 rfl kI_1 (by decide) rfl ?_
        refine ex_goto 4 dX6_remainsOfKind_34 (by decide) ?_
        refine ex_mskL [true, true, true, true] (L2 := [some (.ref o), some (.int a1), some (.int i1), some (.int (i2 + 1))]) rfl ?_
        cases hb
        exact hk (i1, (i2 + 1)) rfl
      · rw [if_pos c5] at hb
        refine ex_iinc 1 (L2 := [some (.ref o), some (.int a1), some (.int (i1 + 1)), some (.int i2)]) dX6_remainsOfKind_28 rfl kI_1 (by decide) rfl ?_
        refine ex_iinc 1 (L2 := [some (.ref o), some (.int a1), some (.int (i1 + 1)), some (.int (i2 + 1))]) dX6_remainsOfKind_31 rfl kI_1 (by decide) rfl ?_
        refine ex_goto 4 dX6_remainsOfKind_34 (by decide) ?_
        refine ex_mskL [true, true, true, true] (L2 := [some (.ref o), some (.int a1), some (.int (i1 + 1)), some (.int (i2 + 1))]) rfl ?_
        cases hb
        exact hk ((i1 + 1), (i2 + 1)) rfl)
  exact key FU (0, 0) hlq6
def f_X8_add (o : Nat) (a1 : Int32) (a2 : Int32) (a3 : Int32) (a4 : Int32) (M : Mem) : Option (Mem × Int32) :=
  b2 (f_X8_addEmpty o M) fun M1 x2 => b1 (f_X8_put o x2 0 a1 M1) fun M3 => b1 (f_X8_put o x2 1 a2 M3) fun M4 => b1 (f_X8_put o x2 2 a3 M4) fun M5 => b1 (f_X8_put o x2 3 a4 M5) fun M6 => some (M6, x2)
set_option maxRecDepth 100000 in
set_option maxHeartbeats 4000000 in
theorem t_X8_add (l : Launch) (E : EV) (o : Nat) (a1 : Int32) (a2 : Int32) (a3 : Int32) (a4 : Int32) (ho : oc o = some 8) (M : Mem) {M' : Mem} {r : Int32} (h : f_X8_add o a1 a2 a3 a4 M = some (M', r)) : RunM l E yX8_add cX8_add 6 (some .int) 3 [.ref o, .int a1, .int a2, .int a3, .int a4] M M' (some (.int r)) := by
  refine RunM.of (by decide) (Nat.le_of_ble_eq_true rfl) ?_
  show XM l E (RX8, "add", cX8_add, 6) (some .int) 3 0 [some (.ref o), some (.int a1), some (.int a2), some (.int a3), some (.int a4), none] [] M M' (some (.int r))
  unfold f_X8_add at h
  refine ex_aload_n dX8_add_0 rfl ?_
  obtain ⟨M1, x2, qx2, h⟩ := b2E h
  refine mx_cVi [] [] o 8 x2 dX8_add_1 cl_X8_37 im_X8_addEmpty cy_X8_addEmpty ho rfl (Nat.le_of_ble_eq_true rfl) (by decide) (t_X8_addEmpty l E o ho M qx2) ?_
  refine ex_istore (L2 := [some (.ref o), some (.int a1), some (.int a2), some (.int a3), some (.int a4), some (.int x2)]) dX8_add_4 (by decide) rfl ?_
  refine ex_aload_n dX8_add_6 rfl ?_
  refine ex_iload dX8_add_7 rfl ?_
  refine ex_iconst 0 dX8_add_9 kI_0 ?_
  refine ex_iload_n dX8_add_10 rfl ?_
  obtain ⟨M3, qM3, h⟩ := b1E h
  refine mx_cVv [.int x2, .int 0, .int a1] [] o 8 dX8_add_11 cl_X8_33 im_X8_put cy_X8_put ho rfl (Nat.le_of_ble_eq_true rfl) (by decide) (t_X8_put l E o x2 0 a1 ho M1 qM3) ?_
  refine ex_aload_n dX8_add_14 rfl ?_
  refine ex_iload dX8_add_15 rfl ?_
  refine ex_iconst 1 dX8_add_17 kI_1 ?_
  refine ex_iload_n dX8_add_18 rfl ?_
  obtain ⟨M4, qM4, h⟩ := b1E h
  refine mx_cVv [.int x2, .int 1, .int a2] [] o 8 dX8_add_19 cl_X8_33 im_X8_put cy_X8_put ho rfl (Nat.le_of_ble_eq_true rfl) (by decide) (t_X8_put l E o x2 1 a2 ho M3 qM4) ?_
  refine ex_aload_n dX8_add_22 rfl ?_
  refine ex_iload dX8_add_23 rfl ?_
  refine ex_iconst 2 dX8_add_25 kI_2 ?_
  refine ex_iload_n dX8_add_26 rfl ?_
  obtain ⟨M5, qM5, h⟩ := b1E h
  refine mx_cVv [.int x2, .int 2, .int a3] [] o 8 dX8_add_27 cl_X8_33 im_X8_put cy_X8_put ho rfl (Nat.le_of_ble_eq_true rfl) (by decide) (t_X8_put l E o x2 2 a3 ho M4 qM5) ?_
  refine ex_aload_n dX8_add_30 rfl ?_
  refine ex_iload dX8_add_31 rfl ?_
  refine ex_iconst 3 dX8_add_33 kI_3 ?_
  refine ex_iload dX8_add_34 rfl ?_
  obtain ⟨M6, qM6, h⟩ := b1E h
  refine mx_cVv [.int x2, .int 3, .int a4] [] o 8 dX8_add_36 cl_X8_33 im_X8_put cy_X8_put ho rfl (Nat.le_of_ble_eq_true rfl) (by decide) (t_X8_put l E o x2 3 a4 ho M5 qM6) ?_
  refine ex_iload dX8_add_39 rfl ?_
  cases h
  exact mx_reti .int dX8_add_41 ⟨rfl, rfl⟩
def f_X6_holdFeast (o : Nat) (a1 : Int32) (a2 : Int32) (M : Mem) : Option (Mem × Int32) :=
  lt (up2 M o 15 ((M o 15) + 1)) fun M1 => if (f_X8_isFull (o + 9) M1) = 0 then (b2 (f_X6_leftByFeast o a1 a2 M1) fun M3 x4 => if x4 ≤ 0 then (b2 (f_X8_add (o + 11) (M3 o 10) 0 a1 x4 M3) fun M6 x7 => some (M6, x4)) else (b2 (f_X6_edgeOfFeast o a1 a2 M3) fun M8 x9 => b2 (f_X8_add (o + 9) a1 x4 (M3 o 10) x9 M8) fun M10 x11 => b2 (f_X8_add (o + 11) (M10 o 10) 0 a1 x4 M10) fun M12 x13 => some (M12, x4))) else (b2 (f_X8_add (o + 11) (M1 o 10) 0 a1 0 M1) fun M14 x15 => some (M14, 0))
set_option maxRecDepth 100000 in
set_option maxHeartbeats 4000000 in
theorem t_X6_holdFeast (l : Launch) (E : EV) (o : Nat) (a1 : Int32) (a2 : Int32) (ho : oc o = some 6) (M : Mem) {M' : Mem} {r : Int32} (h : f_X6_holdFeast o a1 a2 M = some (M', r)) : RunM l E yX6_holdFeast cX6_holdFeast 4 (some .int) 4 [.ref o, .int a1, .int a2] M M' (some (.int r)) := by
  refine RunM.of (by decide) (Nat.le_of_ble_eq_true rfl) ?_
  show XM l E (RX6, "holdFeast", cX6_holdFeast, 4) (some .int) 4 0 [some (.ref o), some (.int a1), some (.int a2), none] [] M M' (some (.int r))
  unfold f_X6_holdFeast at h
  refine ex_aload_n dX6_holdFeast_0 rfl ?_
  refine ex_dup dX6_holdFeast_1 rfl ?_
  refine mx_geti 6 dX6_holdFeast_2 fl_X6_79 ho (isi_6_15 ho) ?_
  refine ex_iconst 1 dX6_holdFeast_5 kI_1 ?_
  refine ex_iadd dX6_holdFeast_6 ?_
  obtain ⟨M1, eM1, h⟩ := ltE h
  refine mx_puti 6 dX6_holdFeast_7 fl_X6_79 rfl ⟨rfl, rfl⟩ ho (isi_6_15 ho) ?_
  rw [← eM1]
  refine ex_aload_n dX6_holdFeast_10 rfl ?_
  refine mx_getr 6 (o + 9) dX6_holdFeast_11 fl_X6_29 ho (rf_6_4 ho) ?_
  refine mx_cVi [] [] (o + 9) 8 (f_X8_isFull (o + 9) M1) dX6_holdFeast_14 cl_X6_94 im_X8_isFull cy_X8_isFull (oc_6_4 ho) rfl (Nat.le_of_ble_eq_true rfl) (by decide) (t_X8_isFull l E (o + 9) (oc_6_4 ho) M1 rfl) ?_
  refine ex_if_eq 24 dX6_holdFeast_17 (by decide) (fun c2 => ?_) (fun c2 => ?_)
  · rw [if_pos c2] at h
    refine ex_aload_n dX6_holdFeast_24 rfl ?_
    refine ex_iload_n dX6_holdFeast_25 rfl ?_
    refine ex_iload_n dX6_holdFeast_26 rfl ?_
    obtain ⟨M3, x4, qx4, h⟩ := b2E h
    refine mx_cVi [.int a1, .int a2] [] o 6 x4 dX6_holdFeast_27 cl_X6_119 im_X6_leftByFeast cy_X6_leftByFeast ho rfl (Nat.le_of_ble_eq_true rfl) (by decide) (t_X6_leftByFeast l E o a1 a2 ho M1 qx4) ?_
    refine ex_istore_n (L2 := [some (.ref o), some (.int a1), some (.int a2), some (.int x4)]) dX6_holdFeast_30 (by decide) rfl ?_
    refine ex_iload_n dX6_holdFeast_31 rfl ?_
    refine ex_if_le 55 dX6_holdFeast_32 (by decide) (fun c5 => ?_) (fun c5 => ?_)
    · rw [if_pos c5] at h
      refine ex_aload_n dX6_holdFeast_55 rfl ?_
      refine mx_getr 6 (o + 11) dX6_holdFeast_56 fl_X6_32 ho (rf_6_5 ho) ?_
      refine ex_aload_n dX6_holdFeast_59 rfl ?_
      refine mx_geti 6 dX6_holdFeast_60 fl_X6_67 ho (isi_6_10 ho) ?_
      refine ex_iconst 0 dX6_holdFeast_63 kI_0 ?_
      refine ex_iload_n dX6_holdFeast_64 rfl ?_
      refine ex_iload_n dX6_holdFeast_65 rfl ?_
      obtain ⟨M6, x7, qx7, h⟩ := b2E h
      refine mx_cVi [.int (M3 o 10), .int 0, .int a1, .int x4] [] (o + 11) 8 x7 dX6_holdFeast_66 cl_X6_125 im_X8_add cy_X8_add (oc_6_5 ho) rfl (Nat.le_of_ble_eq_true rfl) (by decide) (t_X8_add l E (o + 11) (M3 o 10) 0 a1 x4 (oc_6_5 ho) M3 qx7) ?_
      refine ex_pop dX6_holdFeast_69 rfl ?_
      refine ex_iload_n dX6_holdFeast_70 rfl ?_
      cases h
      exact mx_reti .int dX6_holdFeast_71 ⟨rfl, rfl⟩
    · rw [if_neg c5] at h
      refine ex_aload_n dX6_holdFeast_35 rfl ?_
      refine mx_getr 6 (o + 9) dX6_holdFeast_36 fl_X6_29 ho (rf_6_4 ho) ?_
      refine ex_iload_n dX6_holdFeast_39 rfl ?_
      refine ex_iload_n dX6_holdFeast_40 rfl ?_
      refine ex_aload_n dX6_holdFeast_41 rfl ?_
      refine mx_geti 6 dX6_holdFeast_42 fl_X6_67 ho (isi_6_10 ho) ?_
      refine ex_aload_n dX6_holdFeast_45 rfl ?_
      refine ex_iload_n dX6_holdFeast_46 rfl ?_
      refine ex_iload_n dX6_holdFeast_47 rfl ?_
      obtain ⟨M8, x9, qx9, h⟩ := b2E h
      refine mx_cVi [.int a1, .int a2] [.int (M3 o 10), .int x4, .int a1, .ref (o + 9)] o 6 x9 dX6_holdFeast_48 cl_X6_122 im_X6_edgeOfFeast cy_X6_edgeOfFeast ho rfl (Nat.le_of_ble_eq_true rfl) (by decide) (t_X6_edgeOfFeast l E o a1 a2 ho M3 qx9) ?_
      obtain ⟨M10, x11, qx11, h⟩ := b2E h
      refine mx_cVi [.int a1, .int x4, .int (M3 o 10), .int x9] [] (o + 9) 8 x11 dX6_holdFeast_51 cl_X6_125 im_X8_add cy_X8_add (oc_6_4 ho) rfl (Nat.le_of_ble_eq_true rfl) (by decide) (t_X8_add l E (o + 9) a1 x4 (M3 o 10) x9 (oc_6_4 ho) M8 qx11) ?_
      refine ex_pop dX6_holdFeast_54 rfl ?_
      refine ex_aload_n dX6_holdFeast_55 rfl ?_
      refine mx_getr 6 (o + 11) dX6_holdFeast_56 fl_X6_32 ho (rf_6_5 ho) ?_
      refine ex_aload_n dX6_holdFeast_59 rfl ?_
      refine mx_geti 6 dX6_holdFeast_60 fl_X6_67 ho (isi_6_10 ho) ?_
      refine ex_iconst 0 dX6_holdFeast_63 kI_0 ?_
      refine ex_iload_n dX6_holdFeast_64 rfl ?_
      refine ex_iload_n dX6_holdFeast_65 rfl ?_
      obtain ⟨M12, x13, qx13, h⟩ := b2E h
      refine mx_cVi [.int (M10 o 10), .int 0, .int a1, .int x4] [] (o + 11) 8 x13 dX6_holdFeast_66 cl_X6_125 im_X8_add cy_X8_add (oc_6_5 ho) rfl (Nat.le_of_ble_eq_true rfl) (by decide) (t_X8_add l E (o + 11) (M10 o 10) 0 a1 x4 (oc_6_5 ho) M10 qx13) ?_
      refine ex_pop dX6_holdFeast_69 rfl ?_
      refine ex_iload_n dX6_holdFeast_70 rfl ?_
      cases h
      exact mx_reti .int dX6_holdFeast_71 ⟨rfl, rfl⟩
  · rw [if_neg c2] at h
    refine ex_iconst 0 dX6_holdFeast_20 kI_0 ?_
    refine ex_goto 30 dX6_holdFeast_21 (by decide) ?_
    refine ex_istore_n (L2 := [some (.ref o), some (.int a1), some (.int a2), some (.int 0)]) dX6_holdFeast_30 (by decide) rfl ?_
    refine ex_iload_n dX6_holdFeast_31 rfl ?_
    refine ex_if_le 55 dX6_holdFeast_32 (by decide) (fun _ => ?_) (fun z => absurd (by decide) z)
    refine ex_aload_n dX6_holdFeast_55 rfl ?_
    refine mx_getr 6 (o + 11) dX6_holdFeast_56 fl_X6_32 ho (rf_6_5 ho) ?_
    refine ex_aload_n dX6_holdFeast_59 rfl ?_
    refine mx_geti 6 dX6_holdFeast_60 fl_X6_67 ho (isi_6_10 ho) ?_
    refine ex_iconst 0 dX6_holdFeast_63 kI_0 ?_
    refine ex_iload_n dX6_holdFeast_64 rfl ?_
    refine ex_iload_n dX6_holdFeast_65 rfl ?_
    obtain ⟨M14, x15, qx15, h⟩ := b2E h
    refine mx_cVi [.int (M1 o 10), .int 0, .int a1, .int 0] [] (o + 11) 8 x15 dX6_holdFeast_66 cl_X6_125 im_X8_add cy_X8_add (oc_6_5 ho) rfl (Nat.le_of_ble_eq_true rfl) (by decide) (t_X8_add l E (o + 11) (M1 o 10) 0 a1 0 (oc_6_5 ho) M1 qx15) ?_
    refine ex_pop dX6_holdFeast_69 rfl ?_
    refine ex_iload_n dX6_holdFeast_70 rfl ?_
    cases h
    exact mx_reti .int dX6_holdFeast_71 ⟨rfl, rfl⟩
def f_X6_forgeOne (o : Nat) (a1 : Int32) (a2 : Int32) (M : Mem) : Option (Mem × Int32) :=
  b2 (f_X8_add (o + 9) a1 a2 (M o 10) 9 M) fun M1 x2 => b1 (f_X8_put (o + 9) x2 4 1 M1) fun M3 => lt (up2 M3 o 11 ((M3 o 11) - 20)) fun M4 => b2 (f_X8_add (o + 11) (M4 o 10) 1 a1 a2 M4) fun M5 x6 => some (M5, x2)
set_option maxRecDepth 100000 in
set_option maxHeartbeats 4000000 in
theorem t_X6_forgeOne (l : Launch) (E : EV) (o : Nat) (a1 : Int32) (a2 : Int32) (ho : oc o = some 6) (M : Mem) {M' : Mem} {r : Int32} (h : f_X6_forgeOne o a1 a2 M = some (M', r)) : RunM l E yX6_forgeOne cX6_forgeOne 4 (some .int) 4 [.ref o, .int a1, .int a2] M M' (some (.int r)) := by
  refine RunM.of (by decide) (Nat.le_of_ble_eq_true rfl) ?_
  show XM l E (RX6, "forgeOne", cX6_forgeOne, 4) (some .int) 4 0 [some (.ref o), some (.int a1), some (.int a2), none] [] M M' (some (.int r))
  unfold f_X6_forgeOne at h
  refine ex_aload_n dX6_forgeOne_0 rfl ?_
  refine mx_getr 6 (o + 9) dX6_forgeOne_1 fl_X6_29 ho (rf_6_4 ho) ?_
  refine ex_iload_n dX6_forgeOne_4 rfl ?_
  refine ex_iload_n dX6_forgeOne_5 rfl ?_
  refine ex_aload_n dX6_forgeOne_6 rfl ?_
  refine mx_geti 6 dX6_forgeOne_7 fl_X6_67 ho (isi_6_10 ho) ?_
  refine ex_bipush 9 dX6_forgeOne_10 kB_9 ?_
  obtain ⟨M1, x2, qx2, h⟩ := b2E h
  refine mx_cVi [.int a1, .int a2, .int (M o 10), .int 9] [] (o + 9) 8 x2 dX6_forgeOne_12 cl_X6_125 im_X8_add cy_X8_add (oc_6_4 ho) rfl (Nat.le_of_ble_eq_true rfl) (by decide) (t_X8_add l E (o + 9) a1 a2 (M o 10) 9 (oc_6_4 ho) M qx2) ?_
  refine ex_istore_n (L2 := [some (.ref o), some (.int a1), some (.int a2), some (.int x2)]) dX6_forgeOne_15 (by decide) rfl ?_
  refine ex_aload_n dX6_forgeOne_16 rfl ?_
  refine mx_getr 6 (o + 9) dX6_forgeOne_17 fl_X6_29 ho (rf_6_4 ho) ?_
  refine ex_iload_n dX6_forgeOne_20 rfl ?_
  refine ex_iconst 4 dX6_forgeOne_21 kI_4 ?_
  refine ex_iconst 1 dX6_forgeOne_22 kI_1 ?_
  obtain ⟨M3, qM3, h⟩ := b1E h
  refine mx_cVv [.int x2, .int 4, .int 1] [] (o + 9) 8 dX6_forgeOne_23 cl_X6_129 im_X8_put cy_X8_put (oc_6_4 ho) rfl (Nat.le_of_ble_eq_true rfl) (by decide) (t_X8_put l E (o + 9) x2 4 1 (oc_6_4 ho) M1 qM3) ?_
  refine ex_aload_n dX6_forgeOne_26 rfl ?_
  refine ex_dup dX6_forgeOne_27 rfl ?_
  refine mx_geti 6 dX6_forgeOne_28 fl_X6_53 ho (isi_6_11 ho) ?_
  refine ex_bipush 20 dX6_forgeOne_31 kB_20 ?_
  refine ex_isub dX6_forgeOne_33 ?_
  obtain ⟨M4, eM4, h⟩ := ltE h
  refine mx_puti 6 dX6_forgeOne_34 fl_X6_53 rfl ⟨rfl, rfl⟩ ho (isi_6_11 ho) ?_
  rw [← eM4]
  refine ex_aload_n dX6_forgeOne_37 rfl ?_
  refine mx_getr 6 (o + 11) dX6_forgeOne_38 fl_X6_32 ho (rf_6_5 ho) ?_
  refine ex_aload_n dX6_forgeOne_41 rfl ?_
  refine mx_geti 6 dX6_forgeOne_42 fl_X6_67 ho (isi_6_10 ho) ?_
  refine ex_iconst 1 dX6_forgeOne_45 kI_1 ?_
  refine ex_iload_n dX6_forgeOne_46 rfl ?_
  refine ex_iload_n dX6_forgeOne_47 rfl ?_
  obtain ⟨M5, x6, qx6, h⟩ := b2E h
  refine mx_cVi [.int (M4 o 10), .int 1, .int a1, .int a2] [] (o + 11) 8 x6 dX6_forgeOne_48 cl_X6_125 im_X8_add cy_X8_add (oc_6_5 ho) rfl (Nat.le_of_ble_eq_true rfl) (by decide) (t_X8_add l E (o + 11) (M4 o 10) 1 a1 a2 (oc_6_5 ho) M4 qx6) ?_
  refine ex_pop dX6_forgeOne_51 rfl ?_
  refine ex_iload_n dX6_forgeOne_52 rfl ?_
  cases h
  exact mx_reti .int dX6_forgeOne_53 ⟨rfl, rfl⟩
def f_X6_cutOne (o : Nat) (a1 : Int32) (a2 : Int32) (M : Mem) : Option (Mem × Int32) :=
  b1 (f_X8_at (o + 9) a1 0 M) fun x1 => b1 (f_X8_at (o + 9) a1 3 M) fun x2 => lt (f_J9_min_7cf53 9 (x2 + 1)) fun x3 => b1 (f_X8_at (o + 9) a1 1 M) fun x4 => b1 (f_X8_at (o + 9) a1 2 M) fun x5 => b2 (f_X8_add (o + 9) x1 (x4 - a2) x5 x3 M) fun M6 x7 => b1 (f_X8_at (o + 9) a1 4 M6) fun x8 => b1 (f_X8_put (o + 9) x7 4 x8 M6) fun M9 => b1 (f_X8_put (o + 9) a1 1 a2 M9) fun M10 => b1 (f_X8_put (o + 9) a1 3 x3 M10) fun M11 => b2 (f_X8_add (o + 11) (M11 o 10) 2 x1 a2 M11) fun M12 x13 => some (M12, x7)
set_option maxRecDepth 100000 in
set_option maxHeartbeats 4000000 in
theorem t_X6_cutOne (l : Launch) (E : EV) (o : Nat) (a1 : Int32) (a2 : Int32) (ho : oc o = some 6) (M : Mem) {M' : Mem} {r : Int32} (h : f_X6_cutOne o a1 a2 M = some (M', r)) : RunM l E yX6_cutOne cX6_cutOne 7 (some .int) 4 [.ref o, .int a1, .int a2] M M' (some (.int r)) := by
  refine RunM.of (by decide) (Nat.le_of_ble_eq_true rfl) ?_
  show XM l E (RX6, "cutOne", cX6_cutOne, 7) (some .int) 4 0 [some (.ref o), some (.int a1), some (.int a2), none, none, none, none] [] M M' (some (.int r))
  unfold f_X6_cutOne at h
  refine ex_aload_n dX6_cutOne_0 rfl ?_
  refine mx_getr 6 (o + 9) dX6_cutOne_1 fl_X6_29 ho (rf_6_4 ho) ?_
  refine ex_iload_n dX6_cutOne_4 rfl ?_
  refine ex_iconst 0 dX6_cutOne_5 kI_0 ?_
  obtain ⟨x1, qx1, h⟩ := b1E h
  refine mx_cVi [.int a1, .int 0] [] (o + 9) 8 x1 dX6_cutOne_6 cl_X6_90 im_X8_at cy_X8_at (oc_6_4 ho) rfl (Nat.le_of_ble_eq_true rfl) (by decide) (t_X8_at l E (o + 9) a1 0 (oc_6_4 ho) M qx1) ?_
  refine ex_istore_n (L2 := [some (.ref o), some (.int a1), some (.int a2), some (.int x1), none, none, none]) dX6_cutOne_9 (by decide) rfl ?_
  refine ex_bipush 9 dX6_cutOne_10 kB_9 ?_
  refine ex_aload_n dX6_cutOne_12 rfl ?_
  refine mx_getr 6 (o + 9) dX6_cutOne_13 fl_X6_29 ho (rf_6_4 ho) ?_
  refine ex_iload_n dX6_cutOne_16 rfl ?_
  refine ex_iconst 3 dX6_cutOne_17 kI_3 ?_
  obtain ⟨x2, qx2, h⟩ := b1E h
  refine mx_cVi [.int a1, .int 3] [.int 9] (o + 9) 8 x2 dX6_cutOne_18 cl_X6_90 im_X8_at cy_X8_at (oc_6_4 ho) rfl (Nat.le_of_ble_eq_true rfl) (by decide) (t_X8_at l E (o + 9) a1 3 (oc_6_4 ho) M qx2) ?_
  refine ex_iconst 1 dX6_cutOne_21 kI_1 ?_
  refine ex_iadd dX6_cutOne_22 ?_
  refine mx_min dX6_cutOne_23 (tb (i := 633) (by decide +kernel)) (by decide) (Nat.le_of_ble_eq_true rfl) ?_
  obtain ⟨x3, ex3, h⟩ := ltE h
  rw [← ex3]
  refine ex_istore (L2 := [some (.ref o), some (.int a1), some (.int a2), some (.int x1), some (.int x3), none, none]) dX6_cutOne_26 (by decide) rfl ?_
  refine ex_aload_n dX6_cutOne_28 rfl ?_
  refine mx_getr 6 (o + 9) dX6_cutOne_29 fl_X6_29 ho (rf_6_4 ho) ?_
  refine ex_iload_n dX6_cutOne_32 rfl ?_
  refine ex_iconst 1 dX6_cutOne_33 kI_1 ?_
  obtain ⟨x4, qx4, h⟩ := b1E h
  refine mx_cVi [.int a1, .int 1] [] (o + 9) 8 x4 dX6_cutOne_34 cl_X6_90 im_X8_at cy_X8_at (oc_6_4 ho) rfl (Nat.le_of_ble_eq_true rfl) (by decide) (t_X8_at l E (o + 9) a1 1 (oc_6_4 ho) M qx4) ?_
  refine ex_iload_n dX6_cutOne_37 rfl ?_
  refine ex_isub dX6_cutOne_38 ?_
  refine ex_istore (L2 := [some (.ref o), some (.int a1), some (.int a2), some (.int x1), some (.int x3), some (.int (x4 - a2)), none]) dX6_cutOne_39 (by decide) rfl ?_
  refine ex_aload_n dX6_cutOne_41 rfl ?_
  refine mx_getr 6 (o + 9) dX6_cutOne_42 fl_X6_29 ho (rf_6_4 ho) ?_
  refine ex_iload_n dX6_cutOne_45 rfl ?_
  refine ex_iload dX6_cutOne_46 rfl ?_
  refine ex_aload_n dX6_cutOne_48 rfl ?_
  refine mx_getr 6 (o + 9) dX6_cutOne_49 fl_X6_29 ho (rf_6_4 ho) ?_
  refine ex_iload_n dX6_cutOne_52 rfl ?_
  refine ex_iconst 2 dX6_cutOne_53 kI_2 ?_
  obtain ⟨x5, qx5, h⟩ := b1E h
  refine mx_cVi [.int a1, .int 2] [.int (x4 - a2), .int x1, .ref (o + 9)] (o + 9) 8 x5 dX6_cutOne_54 cl_X6_90 im_X8_at cy_X8_at (oc_6_4 ho) rfl (Nat.le_of_ble_eq_true rfl) (by decide) (t_X8_at l E (o + 9) a1 2 (oc_6_4 ho) M qx5) ?_
  refine ex_iload dX6_cutOne_57 rfl ?_
  obtain ⟨M6, x7, qx7, h⟩ := b2E h
  refine mx_cVi [.int x1, .int (x4 - a2), .int x5, .int x3] [] (o + 9) 8 x7 dX6_cutOne_59 cl_X6_125 im_X8_add cy_X8_add (oc_6_4 ho) rfl (Nat.le_of_ble_eq_true rfl) (by decide) (t_X8_add l E (o + 9) x1 (x4 - a2) x5 x3 (oc_6_4 ho) M qx7) ?_
  refine ex_istore (L2 := [some (.ref o), some (.int a1), some (.int a2), some (.int x1), some (.int x3), some (.int (x4 - a2)), some (.int x7)]) dX6_cutOne_62 (by decide) rfl ?_
  refine ex_aload_n dX6_cutOne_64 rfl ?_
  refine mx_getr 6 (o + 9) dX6_cutOne_65 fl_X6_29 ho (rf_6_4 ho) ?_
  refine ex_iload dX6_cutOne_68 rfl ?_
  refine ex_iconst 4 dX6_cutOne_70 kI_4 ?_
  refine ex_aload_n dX6_cutOne_71 rfl ?_
  refine mx_getr 6 (o + 9) dX6_cutOne_72 fl_X6_29 ho (rf_6_4 ho) ?_
  refine ex_iload_n dX6_cutOne_75 rfl ?_
  refine ex_iconst 4 dX6_cutOne_76 kI_4 ?_
  obtain ⟨x8, qx8, h⟩ := b1E h
  refine mx_cVi [.int a1, .int 4] [.int 4, .int x7, .ref (o + 9)] (o + 9) 8 x8 dX6_cutOne_77 cl_X6_90 im_X8_at cy_X8_at (oc_6_4 ho) rfl (Nat.le_of_ble_eq_true rfl) (by decide) (t_X8_at l E (o + 9) a1 4 (oc_6_4 ho) M6 qx8) ?_
  obtain ⟨M9, qM9, h⟩ := b1E h
  refine mx_cVv [.int x7, .int 4, .int x8] [] (o + 9) 8 dX6_cutOne_80 cl_X6_129 im_X8_put cy_X8_put (oc_6_4 ho) rfl (Nat.le_of_ble_eq_true rfl) (by decide) (t_X8_put l E (o + 9) x7 4 x8 (oc_6_4 ho) M6 qM9) ?_
  refine ex_aload_n dX6_cutOne_83 rfl ?_
  refine mx_getr 6 (o + 9) dX6_cutOne_84 fl_X6_29 ho (rf_6_4 ho) ?_
  refine ex_iload_n dX6_cutOne_87 rfl ?_
  refine ex_iconst 1 dX6_cutOne_88 kI_1 ?_
  refine ex_iload_n dX6_cutOne_89 rfl ?_
  obtain ⟨M10, qM10, h⟩ := b1E h
  refine mx_cVv [.int a1, .int 1, .int a2] [] (o + 9) 8 dX6_cutOne_90 cl_X6_129 im_X8_put cy_X8_put (oc_6_4 ho) rfl (Nat.le_of_ble_eq_true rfl) (by decide) (t_X8_put l E (o + 9) a1 1 a2 (oc_6_4 ho) M9 qM10) ?_
  refine ex_aload_n dX6_cutOne_93 rfl ?_
  refine mx_getr 6 (o + 9) dX6_cutOne_94 fl_X6_29 ho (rf_6_4 ho) ?_
  refine ex_iload_n dX6_cutOne_97 rfl ?_
  refine ex_iconst 3 dX6_cutOne_98 kI_3 ?_
  refine ex_iload dX6_cutOne_99 rfl ?_
  obtain ⟨M11, qM11, h⟩ := b1E h
  refine mx_cVv [.int a1, .int 3, .int x3] [] (o + 9) 8 dX6_cutOne_101 cl_X6_129 im_X8_put cy_X8_put (oc_6_4 ho) rfl (Nat.le_of_ble_eq_true rfl) (by decide) (t_X8_put l E (o + 9) a1 3 x3 (oc_6_4 ho) M10 qM11) ?_
  refine ex_aload_n dX6_cutOne_104 rfl ?_
  refine mx_getr 6 (o + 11) dX6_cutOne_105 fl_X6_32 ho (rf_6_5 ho) ?_
  refine ex_aload_n dX6_cutOne_108 rfl ?_
  refine mx_geti 6 dX6_cutOne_109 fl_X6_67 ho (isi_6_10 ho) ?_
  refine ex_iconst 2 dX6_cutOne_112 kI_2 ?_
  refine ex_iload_n dX6_cutOne_113 rfl ?_
  refine ex_iload_n dX6_cutOne_114 rfl ?_
  obtain ⟨M12, x13, qx13, h⟩ := b2E h
  refine mx_cVi [.int (M11 o 10), .int 2, .int x1, .int a2] [] (o + 11) 8 x13 dX6_cutOne_115 cl_X6_125 im_X8_add cy_X8_add (oc_6_5 ho) rfl (Nat.le_of_ble_eq_true rfl) (by decide) (t_X8_add l E (o + 11) (M11 o 10) 2 x1 a2 (oc_6_5 ho) M11 qx13) ?_
  refine ex_pop dX6_cutOne_118 rfl ?_
  refine ex_iload dX6_cutOne_119 rfl ?_
  cases h
  exact mx_reti .int dX6_cutOne_121 ⟨rfl, rfl⟩
def w_X8_drop_23 (o : Nat) (i2 : Int32) (i5 : Int32) (M6 : Mem) : Option ((Int32 × Mem) ⊕ (Mem)) :=
  if (M6 o 1) ≤ i5 then (some (.inr M6)) else (b1 (f_X8_at o i2 i5 M6) fun x8 => b1 (f_X8_put o (i2 - 1) i5 x8 M6) fun M9 => some (.inl ((i5 + 1), M9)))
def w_X8_drop_13 (o : Nat) (i2 : Int32) (M3 : Mem) : Option ((Int32 × Mem) ⊕ (Mem)) :=
  if (M3 o 3) ≤ i2 then (some (.inr M3)) else (b1 (lp (fun s => w_X8_drop_23 o i2 s.1 s.2) FU (0, M3)) fun q10 => some (.inl ((i2 + 1), q10)))
def f_X8_drop (o : Nat) (a1 : Int32) (M : Mem) : Option (Mem) :=
  if (f_X8_has o a1 M) = 0 then (some M) else (b1 (lp (fun s => w_X8_drop_13 o s.1 s.2) FU ((a1 + 1), M)) fun q11 => lt (up2 q11 o 3 ((q11 o 3) - 1)) fun M12 => some M12)
set_option maxRecDepth 100000 in
set_option maxHeartbeats 4000000 in
theorem t_X8_drop (l : Launch) (E : EV) (o : Nat) (a1 : Int32) (ho : oc o = some 8) (M : Mem) {M' : Mem} (h : f_X8_drop o a1 M = some M') : RunM l E yX8_drop cX8_drop 4 none 2 [.ref o, .int a1] M M' none := by
  refine RunM.of (by decide) (Nat.le_of_ble_eq_true rfl) ?_
  show XM l E (RX8, "drop", cX8_drop, 4) none 2 0 [some (.ref o), some (.int a1), none, none] [] M M' none
  unfold f_X8_drop at h
  refine ex_aload_n dX8_drop_0 rfl ?_
  refine ex_iload_n dX8_drop_1 rfl ?_
  refine mx_cVi [.int a1] [] o 8 (f_X8_has o a1 M) dX8_drop_2 cl_X8_45 im_X8_has cy_X8_has ho rfl (Nat.le_of_ble_eq_true rfl) (by decide) (t_X8_has l E o a1 ho M rfl) ?_
  refine ex_if_ne 9 dX8_drop_5 (by decide) (fun c1 => ?_) (fun c1 => ?_)
  · rw [if_neg c1] at h
    refine ex_iload_n dX8_drop_9 rfl ?_
    refine ex_iconst 1 dX8_drop_10 kI_1 ?_
    refine ex_iadd dX8_drop_11 ?_
    refine ex_istore_n (L2 := [some (.ref o), some (.int a1), some (.int (a1 + 1)), none]) dX8_drop_12 (by decide) rfl ?_
    refine ex_mskL [true, false, true, false] (L2 := [some (.ref o), none, some (.int (a1 + 1)), none]) rfl ?_
    obtain ⟨q11, hlq11, h⟩ := b1E h
    have hx : XM l E (RX8, "drop", cX8_drop, 4) none 2 57 [some (.ref o), none, none, none] [] q11 M' none := by
      refine ex_aload_n dX8_drop_57 rfl ?_
      refine ex_dup dX8_drop_58 rfl ?_
      refine mx_geti 8 dX8_drop_59 fl_X8_22 ho (isi_8_3 ho) ?_
      refine ex_iconst 1 dX8_drop_62 kI_1 ?_
      refine ex_isub dX8_drop_63 ?_
      obtain ⟨M12, eM12, h⟩ := ltE h
      refine mx_puti 8 dX8_drop_64 fl_X8_22 rfl ⟨rfl, rfl⟩ ho (isi_8_3 ho) ?_
      rw [← eM12]
      cases h
      exact mx_retv dX8_drop_67 rfl
    clear h
    have key : ∀ (k : Nat) (s : Int32 × Mem), lp (fun s => w_X8_drop_13 o s.1 s.2) k s = some q11 → XM l E (RX8, "drop", cX8_drop, 4) none 2 13 [some (.ref o), none, some (.int s.1), none] [] s.2 M' none := lp_ind (P := fun (s : Int32 × Mem) => XM l E (RX8, "drop", cX8_drop, 4) none 2 13 [some (.ref o), none, some (.int s.1), none] [] s.2 M' none) (fun s t hb hk he => by
      obtain ⟨i2, M3⟩ := s
      show XM l E (RX8, "drop", cX8_drop, 4) none 2 13 [some (.ref o), none, some (.int i2), none] [] M3 M' none
      change w_X8_drop_13 o i2 M3 = some t at hb
      unfold w_X8_drop_13 at hb
      refine ex_iload_n dX8_drop_13 rfl ?_
      refine ex_aload_n dX8_drop_14 rfl ?_
      refine mx_geti 8 dX8_drop_15 fl_X8_22 ho (isi_8_3 ho) ?_
      refine ex_icmp_ge 57 dX8_drop_18 (by decide) (fun c4 => ?_) (fun c4 => ?_)
      · rw [if_pos c4] at hb
        refine ex_mskL [true, false, false, false] (L2 := [some (.ref o), none, none, none]) rfl ?_
        cases hb
        cases (he _ rfl) <;> exact hx
      · rw [if_neg c4] at hb
        refine ex_iconst 0 dX8_drop_21 kI_0 ?_
        refine ex_istore_n (L2 := [some (.ref o), none, some (.int i2), some (.int 0)]) dX8_drop_22 (by decide) rfl ?_
        refine ex_mskL [true, false, true, true] (L2 := [some (.ref o), none, some (.int i2), some (.int 0)]) rfl ?_
        obtain ⟨q10, hlq10, hb⟩ := b1E hb
        have hx : XM l E (RX8, "drop", cX8_drop, 4) none 2 51 [some (.ref o), none, some (.int i2), none] [] q10 M' none := by
          refine ex_iinc 1 (L2 := [some (.ref o), none, some (.int (i2 + 1)), none]) dX8_drop_51 rfl kI_1 (by decide) rfl ?_
          refine ex_goto 13 dX8_drop_54 (by decide) ?_
          refine ex_mskL [true, false, true, false] (L2 := [some (.ref o), none, some (.int (i2 + 1)), none]) rfl ?_
          cases hb
          exact hk ((i2 + 1), q10) rfl
        clear hb
        have key : ∀ (k : Nat) (s : Int32 × Mem), lp (fun s => w_X8_drop_23 o i2 s.1 s.2) k s = some q10 → XM l E (RX8, "drop", cX8_drop, 4) none 2 23 [some (.ref o), none, some (.int i2), some (.int s.1)] [] s.2 M' none := lp_ind (P := fun (s : Int32 × Mem) => XM l E (RX8, "drop", cX8_drop, 4) none 2 23 [some (.ref o), none, some (.int i2), some (.int s.1)] [] s.2 M' none) (fun s t hb hk he => by
          obtain ⟨i5, M6⟩ := s
          show XM l E (RX8, "drop", cX8_drop, 4) none 2 23 [some (.ref o), none, some (.int i2), some (.int i5)] [] M6 M' none
          change w_X8_drop_23 o i2 i5 M6 = some t at hb
          unfold w_X8_drop_23 at hb
          refine ex_iload_n dX8_drop_23 rfl ?_
          refine ex_aload_n dX8_drop_24 rfl ?_
          refine mx_geti 8 dX8_drop_25 fl_X8_15 ho (isi_8_1 ho) ?_
          refine ex_icmp_ge 51 dX8_drop_28 (by decide) (fun c7 => ?_) (fun c7 => ?_)
          · rw [if_pos c7] at hb
            refine ex_mskL [true, false, true, false] (L2 := [some (.ref o), none, some (.int i2), none]) rfl ?_
            cases hb
            cases (he _ rfl) <;> exact hx
          · rw [if_neg c7] at hb
            refine ex_aload_n dX8_drop_31 rfl ?_
            refine ex_iload_n dX8_drop_32 rfl ?_
            refine ex_iconst 1 dX8_drop_33 kI_1 ?_
            refine ex_isub dX8_drop_34 ?_
            refine ex_iload_n dX8_drop_35 rfl ?_
            refine ex_aload_n dX8_drop_36 rfl ?_
            refine ex_iload_n dX8_drop_37 rfl ?_
            refine ex_iload_n dX8_drop_38 rfl ?_
            obtain ⟨x8, qx8, hb⟩ := b1E hb
            refine mx_cVi [.int i2, .int i5] [.int i5, .int (i2 - 1), .ref o] o 8 x8 dX8_drop_39 cl_X8_49 im_X8_at cy_X8_at ho rfl (Nat.le_of_ble_eq_true rfl) (by decide) (t_X8_at l E o i2 i5 ho M6 qx8) ?_
            obtain ⟨M9, qM9, hb⟩ := b1E hb
            refine mx_cVv [.int (i2 - 1), .int i5, .int x8] [] o 8 dX8_drop_42 cl_X8_33 im_X8_put cy_X8_put ho rfl (Nat.le_of_ble_eq_true rfl) (by decide) (t_X8_put l E o (i2 - 1) i5 x8 ho M6 qM9) ?_
            refine ex_iinc 1 (L2 := [some (.ref o), none, some (.int i2), some (.int (i5 + 1))]) dX8_drop_45 rfl kI_1 (by decide) rfl ?_
            refine ex_goto 23 dX8_drop_48 (by decide) ?_
            refine ex_mskL [true, false, true, true] (L2 := [some (.ref o), none, some (.int i2), some (.int (i5 + 1))]) rfl ?_
            cases hb
            exact hk ((i5 + 1), M9) rfl)
        exact key FU (0, M3) hlq10)
    exact key FU ((a1 + 1), M) hlq11
  · rw [if_pos c1] at h
    cases h
    exact mx_retv dX8_drop_8 rfl
def f_X6_joinTwo (o : Nat) (a1 : Int32) (a2 : Int32) (M : Mem) : Option (Mem × Int32) :=
  b1 (f_X8_at (o + 9) a1 1 M) fun x1 => b1 (f_X8_at (o + 9) a2 1 M) fun x2 => lt (f_X10_held (((x1 + x2) * 9) / 10) 1 99) fun x3 => b1 (f_X8_put (o + 9) a1 1 x3 M) fun M4 => b1 (f_X8_at (o + 9) a1 2 M4) fun x5 => b1 (f_X8_at (o + 9) a2 2 M4) fun x6 => b1 (f_X8_put (o + 9) a1 2 (f_J9_min_7cf53 x5 x6) M4) fun M7 => b1 (f_X8_at (o + 9) a1 3 M7) fun x8 => b1 (f_X8_at (o + 9) a2 3 M7) fun x9 => b1 (f_X8_put (o + 9) a1 3 (f_J9_max_7cf53 x8 x9) M7) fun M10 => b1 (f_X8_at (o + 9) a1 4 M10) fun x11 => b1 (f_X8_at (o + 9) a2 4 M10) fun x12 => b1 (f_X8_put (o + 9) a1 4 (f_J9_max_7cf53 x11 x12) M10) fun M13 => b1 (f_X8_at (o + 9) a1 0 M13) fun x14 => b2 (f_X8_add (o + 11) (M13 o 10) 3 x14 x3 M13) fun M15 x16 => b1 (f_X8_drop (o + 9) a2 M15) fun M17 => some (M17, x3)
set_option maxRecDepth 100000 in
set_option maxHeartbeats 4000000 in
theorem t_X6_joinTwo (l : Launch) (E : EV) (o : Nat) (a1 : Int32) (a2 : Int32) (ho : oc o = some 6) (M : Mem) {M' : Mem} {r : Int32} (h : f_X6_joinTwo o a1 a2 M = some (M', r)) : RunM l E yX6_joinTwo cX6_joinTwo 5 (some .int) 4 [.ref o, .int a1, .int a2] M M' (some (.int r)) := by
  refine RunM.of (by decide) (Nat.le_of_ble_eq_true rfl) ?_
  show XM l E (RX6, "joinTwo", cX6_joinTwo, 5) (some .int) 4 0 [some (.ref o), some (.int a1), some (.int a2), none, none] [] M M' (some (.int r))
  unfold f_X6_joinTwo at h
  refine ex_aload_n dX6_joinTwo_0 rfl ?_
  refine mx_getr 6 (o + 9) dX6_joinTwo_1 fl_X6_29 ho (rf_6_4 ho) ?_
  refine ex_iload_n dX6_joinTwo_4 rfl ?_
  refine ex_iconst 1 dX6_joinTwo_5 kI_1 ?_
  obtain ⟨x1, qx1, h⟩ := b1E h
  refine mx_cVi [.int a1, .int 1] [] (o + 9) 8 x1 dX6_joinTwo_6 cl_X6_90 im_X8_at cy_X8_at (oc_6_4 ho) rfl (Nat.le_of_ble_eq_true rfl) (by decide) (t_X8_at l E (o + 9) a1 1 (oc_6_4 ho) M qx1) ?_
  refine ex_aload_n dX6_joinTwo_9 rfl ?_
  refine mx_getr 6 (o + 9) dX6_joinTwo_10 fl_X6_29 ho (rf_6_4 ho) ?_
  refine ex_iload_n dX6_joinTwo_13 rfl ?_
  refine ex_iconst 1 dX6_joinTwo_14 kI_1 ?_
  obtain ⟨x2, qx2, h⟩ := b1E h
  refine mx_cVi [.int a2, .int 1] [.int x1] (o + 9) 8 x2 dX6_joinTwo_15 cl_X6_90 im_X8_at cy_X8_at (oc_6_4 ho) rfl (Nat.le_of_ble_eq_true rfl) (by decide) (t_X8_at l E (o + 9) a2 1 (oc_6_4 ho) M qx2) ?_
  refine ex_iadd dX6_joinTwo_18 ?_
  refine ex_istore_n (L2 := [some (.ref o), some (.int a1), some (.int a2), some (.int (x1 + x2)), none]) dX6_joinTwo_19 (by decide) rfl ?_
  refine ex_iload_n dX6_joinTwo_20 rfl ?_
  refine ex_bipush 9 dX6_joinTwo_21 kB_9 ?_
  refine ex_imul dX6_joinTwo_23 ?_
  refine ex_bipush 10 dX6_joinTwo_24 kB_10 ?_
  refine ex_idiv dX6_joinTwo_26 (by decide) ?_
  refine ex_iconst 1 dX6_joinTwo_27 kI_1 ?_
  refine ex_bipush 99 dX6_joinTwo_28 kB_99 ?_
  refine mx_cSi [.int (((x1 + x2) * 9) / 10), .int 1, .int 99] [] (f_X10_held (((x1 + x2) * 9) / 10) 1 99) dX6_joinTwo_30 cl_X6_109 sm_X10_held rfl (Nat.le_of_ble_eq_true rfl) (by decide) (t_X10_held l E (((x1 + x2) * 9) / 10) 1 99 M rfl) ?_
  obtain ⟨x3, ex3, h⟩ := ltE h
  rw [← ex3]
  refine ex_istore (L2 := [some (.ref o), some (.int a1), some (.int a2), some (.int (x1 + x2)), some (.int x3)]) dX6_joinTwo_33 (by decide) rfl ?_
  refine ex_aload_n dX6_joinTwo_35 rfl ?_
  refine mx_getr 6 (o + 9) dX6_joinTwo_36 fl_X6_29 ho (rf_6_4 ho) ?_
  refine ex_iload_n dX6_joinTwo_39 rfl ?_
  refine ex_iconst 1 dX6_joinTwo_40 kI_1 ?_
  refine ex_iload dX6_joinTwo_41 rfl ?_
  obtain ⟨M4, qM4, h⟩ := b1E h
  refine mx_cVv [.int a1, .int 1, .int x3] [] (o + 9) 8 dX6_joinTwo_43 cl_X6_129 im_X8_put cy_X8_put (oc_6_4 ho) rfl (Nat.le_of_ble_eq_true rfl) (by decide) (t_X8_put l E (o + 9) a1 1 x3 (oc_6_4 ho) M qM4) ?_
  refine ex_aload_n dX6_joinTwo_46 rfl ?_
  refine mx_getr 6 (o + 9) dX6_joinTwo_47 fl_X6_29 ho (rf_6_4 ho) ?_
  refine ex_iload_n dX6_joinTwo_50 rfl ?_
  refine ex_iconst 2 dX6_joinTwo_51 kI_2 ?_
  refine ex_aload_n dX6_joinTwo_52 rfl ?_
  refine mx_getr 6 (o + 9) dX6_joinTwo_53 fl_X6_29 ho (rf_6_4 ho) ?_
  refine ex_iload_n dX6_joinTwo_56 rfl ?_
  refine ex_iconst 2 dX6_joinTwo_57 kI_2 ?_
  obtain ⟨x5, qx5, h⟩ := b1E h
  refine mx_cVi [.int a1, .int 2] [.int 2, .int a1, .ref (o + 9)] (o + 9) 8 x5 dX6_joinTwo_58 cl_X6_90 im_X8_at cy_X8_at (oc_6_4 ho) rfl (Nat.le_of_ble_eq_true rfl) (by decide) (t_X8_at l E (o + 9) a1 2 (oc_6_4 ho) M4 qx5) ?_
  refine ex_aload_n dX6_joinTwo_61 rfl ?_
  refine mx_getr 6 (o + 9) dX6_joinTwo_62 fl_X6_29 ho (rf_6_4 ho) ?_
  refine ex_iload_n dX6_joinTwo_65 rfl ?_
  refine ex_iconst 2 dX6_joinTwo_66 kI_2 ?_
  obtain ⟨x6, qx6, h⟩ := b1E h
  refine mx_cVi [.int a2, .int 2] [.int x5, .int 2, .int a1, .ref (o + 9)] (o + 9) 8 x6 dX6_joinTwo_67 cl_X6_90 im_X8_at cy_X8_at (oc_6_4 ho) rfl (Nat.le_of_ble_eq_true rfl) (by decide) (t_X8_at l E (o + 9) a2 2 (oc_6_4 ho) M4 qx6) ?_
  refine mx_min dX6_joinTwo_70 (tb (i := 633) (by decide +kernel)) (by decide) (Nat.le_of_ble_eq_true rfl) ?_
  obtain ⟨M7, qM7, h⟩ := b1E h
  refine mx_cVv [.int a1, .int 2, .int (f_J9_min_7cf53 x5 x6)] [] (o + 9) 8 dX6_joinTwo_73 cl_X6_129 im_X8_put cy_X8_put (oc_6_4 ho) rfl (Nat.le_of_ble_eq_true rfl) (by decide) (t_X8_put l E (o + 9) a1 2 (f_J9_min_7cf53 x5 x6) (oc_6_4 ho) M4 qM7) ?_
  refine ex_aload_n dX6_joinTwo_76 rfl ?_
  refine mx_getr 6 (o + 9) dX6_joinTwo_77 fl_X6_29 ho (rf_6_4 ho) ?_
  refine ex_iload_n dX6_joinTwo_80 rfl ?_
  refine ex_iconst 3 dX6_joinTwo_81 kI_3 ?_
  refine ex_aload_n dX6_joinTwo_82 rfl ?_
  refine mx_getr 6 (o + 9) dX6_joinTwo_83 fl_X6_29 ho (rf_6_4 ho) ?_
  refine ex_iload_n dX6_joinTwo_86 rfl ?_
  refine ex_iconst 3 dX6_joinTwo_87 kI_3 ?_
  obtain ⟨x8, qx8, h⟩ := b1E h
  refine mx_cVi [.int a1, .int 3] [.int 3, .int a1, .ref (o + 9)] (o + 9) 8 x8 dX6_joinTwo_88 cl_X6_90 im_X8_at cy_X8_at (oc_6_4 ho) rfl (Nat.le_of_ble_eq_true rfl) (by decide) (t_X8_at l E (o + 9) a1 3 (oc_6_4 ho) M7 qx8) ?_
  refine ex_aload_n dX6_joinTwo_91 rfl ?_
  refine mx_getr 6 (o + 9) dX6_joinTwo_92 fl_X6_29 ho (rf_6_4 ho) ?_
  refine ex_iload_n dX6_joinTwo_95 rfl ?_
  refine ex_iconst 3 dX6_joinTwo_96 kI_3 ?_
  obtain ⟨x9, qx9, h⟩ := b1E h
  refine mx_cVi [.int a2, .int 3] [.int x8, .int 3, .int a1, .ref (o + 9)] (o + 9) 8 x9 dX6_joinTwo_97 cl_X6_90 im_X8_at cy_X8_at (oc_6_4 ho) rfl (Nat.le_of_ble_eq_true rfl) (by decide) (t_X8_at l E (o + 9) a2 3 (oc_6_4 ho) M7 qx9) ?_
  refine mx_max dX6_joinTwo_100 (tb (i := 646) (by decide +kernel)) (by decide) (Nat.le_of_ble_eq_true rfl) ?_
  obtain ⟨M10, qM10, h⟩ := b1E h
  refine mx_cVv [.int a1, .int 3, .int (f_J9_max_7cf53 x8 x9)] [] (o + 9) 8 dX6_joinTwo_103 cl_X6_129 im_X8_put cy_X8_put (oc_6_4 ho) rfl (Nat.le_of_ble_eq_true rfl) (by decide) (t_X8_put l E (o + 9) a1 3 (f_J9_max_7cf53 x8 x9) (oc_6_4 ho) M7 qM10) ?_
  refine ex_aload_n dX6_joinTwo_106 rfl ?_
  refine mx_getr 6 (o + 9) dX6_joinTwo_107 fl_X6_29 ho (rf_6_4 ho) ?_
  refine ex_iload_n dX6_joinTwo_110 rfl ?_
  refine ex_iconst 4 dX6_joinTwo_111 kI_4 ?_
  refine ex_aload_n dX6_joinTwo_112 rfl ?_
  refine mx_getr 6 (o + 9) dX6_joinTwo_113 fl_X6_29 ho (rf_6_4 ho) ?_
  refine ex_iload_n dX6_joinTwo_116 rfl ?_
  refine ex_iconst 4 dX6_joinTwo_117 kI_4 ?_
  obtain ⟨x11, qx11, h⟩ := b1E h
  refine mx_cVi [.int a1, .int 4] [.int 4, .int a1, .ref (o + 9)] (o + 9) 8 x11 dX6_joinTwo_118 cl_X6_90 im_X8_at cy_X8_at (oc_6_4 ho) rfl (Nat.le_of_ble_eq_true rfl) (by decide) (t_X8_at l E (o + 9) a1 4 (oc_6_4 ho) M10 qx11) ?_
  refine ex_aload_n dX6_joinTwo_121 rfl ?_
  refine mx_getr 6 (o + 9) dX6_joinTwo_122 fl_X6_29 ho (rf_6_4 ho) ?_
  refine ex_iload_n dX6_joinTwo_125 rfl ?_
  refine ex_iconst 4 dX6_joinTwo_126 kI_4 ?_
  obtain ⟨x12, qx12, h⟩ := b1E h
  refine mx_cVi [.int a2, .int 4] [.int x11, .int 4, .int a1, .ref (o + 9)] (o + 9) 8 x12 dX6_joinTwo_127 cl_X6_90 im_X8_at cy_X8_at (oc_6_4 ho) rfl (Nat.le_of_ble_eq_true rfl) (by decide) (t_X8_at l E (o + 9) a2 4 (oc_6_4 ho) M10 qx12) ?_
  refine mx_max dX6_joinTwo_130 (tb (i := 646) (by decide +kernel)) (by decide) (Nat.le_of_ble_eq_true rfl) ?_
  obtain ⟨M13, qM13, h⟩ := b1E h
  refine mx_cVv [.int a1, .int 4, .int (f_J9_max_7cf53 x11 x12)] [] (o + 9) 8 dX6_joinTwo_133 cl_X6_129 im_X8_put cy_X8_put (oc_6_4 ho) rfl (Nat.le_of_ble_eq_true rfl) (by decide) (t_X8_put l E (o + 9) a1 4 (f_J9_max_7cf53 x11 x12) (oc_6_4 ho) M10 qM13) ?_
  refine ex_aload_n dX6_joinTwo_136 rfl ?_
  refine mx_getr 6 (o + 11) dX6_joinTwo_137 fl_X6_32 ho (rf_6_5 ho) ?_
  refine ex_aload_n dX6_joinTwo_140 rfl ?_
  refine mx_geti 6 dX6_joinTwo_141 fl_X6_67 ho (isi_6_10 ho) ?_
  refine ex_iconst 3 dX6_joinTwo_144 kI_3 ?_
  refine ex_aload_n dX6_joinTwo_145 rfl ?_
  refine mx_getr 6 (o + 9) dX6_joinTwo_146 fl_X6_29 ho (rf_6_4 ho) ?_
  refine ex_iload_n dX6_joinTwo_149 rfl ?_
  refine ex_iconst 0 dX6_joinTwo_150 kI_0 ?_
  obtain ⟨x14, qx14, h⟩ := b1E h
  refine mx_cVi [.int a1, .int 0] [.int 3, .int (M13 o 10), .ref (o + 11)] (o + 9) 8 x14 dX6_joinTwo_151 cl_X6_90 im_X8_at cy_X8_at (oc_6_4 ho) rfl (Nat.le_of_ble_eq_true rfl) (by decide) (t_X8_at l E (o + 9) a1 0 (oc_6_4 ho) M13 qx14) ?_
  refine ex_iload dX6_joinTwo_154 rfl ?_
  obtain ⟨M15, x16, qx16, h⟩ := b2E h
  refine mx_cVi [.int (M13 o 10), .int 3, .int x14, .int x3] [] (o + 11) 8 x16 dX6_joinTwo_156 cl_X6_125 im_X8_add cy_X8_add (oc_6_5 ho) rfl (Nat.le_of_ble_eq_true rfl) (by decide) (t_X8_add l E (o + 11) (M13 o 10) 3 x14 x3 (oc_6_5 ho) M13 qx16) ?_
  refine ex_pop dX6_joinTwo_159 rfl ?_
  refine ex_aload_n dX6_joinTwo_160 rfl ?_
  refine mx_getr 6 (o + 9) dX6_joinTwo_161 fl_X6_29 ho (rf_6_4 ho) ?_
  refine ex_iload_n dX6_joinTwo_164 rfl ?_
  obtain ⟨M17, qM17, h⟩ := b1E h
  refine mx_cVv [.int a2] [] (o + 9) 8 dX6_joinTwo_165 cl_X6_141 im_X8_drop cy_X8_drop (oc_6_4 ho) rfl (Nat.le_of_ble_eq_true rfl) (by decide) (t_X8_drop l E (o + 9) a2 (oc_6_4 ho) M15 qM17) ?_
  refine ex_iload dX6_joinTwo_168 rfl ?_
  cases h
  exact mx_reti .int dX6_joinTwo_170 ⟨rfl, rfl⟩
def f_X6_sellOne (o : Nat) (a1 : Int32) (M : Mem) : Option (Mem × Int32) :=
  b2 (f_X6_priceOf o a1 0 M) fun M1 x2 => lt (up2 M1 o 11 ((M1 o 11) + x2)) fun M3 => b1 (f_X8_at (o + 9) a1 0 M3) fun x4 => b2 (f_X8_add (o + 11) (M3 o 10) 4 x4 x2 M3) fun M5 x6 => b1 (f_X8_drop (o + 9) a1 M5) fun M7 => some (M7, x2)
set_option maxRecDepth 100000 in
set_option maxHeartbeats 4000000 in
theorem t_X6_sellOne (l : Launch) (E : EV) (o : Nat) (a1 : Int32) (ho : oc o = some 6) (M : Mem) {M' : Mem} {r : Int32} (h : f_X6_sellOne o a1 M = some (M', r)) : RunM l E yX6_sellOne cX6_sellOne 3 (some .int) 5 [.ref o, .int a1] M M' (some (.int r)) := by
  refine RunM.of (by decide) (Nat.le_of_ble_eq_true rfl) ?_
  show XM l E (RX6, "sellOne", cX6_sellOne, 3) (some .int) 5 0 [some (.ref o), some (.int a1), none] [] M M' (some (.int r))
  unfold f_X6_sellOne at h
  refine ex_aload_n dX6_sellOne_0 rfl ?_
  refine ex_iload_n dX6_sellOne_1 rfl ?_
  refine ex_iconst 0 dX6_sellOne_2 kI_0 ?_
  obtain ⟨M1, x2, qx2, h⟩ := b2E h
  refine mx_cVi [.int a1, .int 0] [] o 6 x2 dX6_sellOne_3 cl_X6_145 im_X6_priceOf cy_X6_priceOf ho rfl (Nat.le_of_ble_eq_true rfl) (by decide) (t_X6_priceOf l E o a1 0 ho M qx2) ?_
  refine ex_istore_n (L2 := [some (.ref o), some (.int a1), some (.int x2)]) dX6_sellOne_6 (by decide) rfl ?_
  refine ex_aload_n dX6_sellOne_7 rfl ?_
  refine ex_dup dX6_sellOne_8 rfl ?_
  refine mx_geti 6 dX6_sellOne_9 fl_X6_53 ho (isi_6_11 ho) ?_
  refine ex_iload_n dX6_sellOne_12 rfl ?_
  refine ex_iadd dX6_sellOne_13 ?_
  obtain ⟨M3, eM3, h⟩ := ltE h
  refine mx_puti 6 dX6_sellOne_14 fl_X6_53 rfl ⟨rfl, rfl⟩ ho (isi_6_11 ho) ?_
  rw [← eM3]
  refine ex_aload_n dX6_sellOne_17 rfl ?_
  refine mx_getr 6 (o + 11) dX6_sellOne_18 fl_X6_32 ho (rf_6_5 ho) ?_
  refine ex_aload_n dX6_sellOne_21 rfl ?_
  refine mx_geti 6 dX6_sellOne_22 fl_X6_67 ho (isi_6_10 ho) ?_
  refine ex_iconst 4 dX6_sellOne_25 kI_4 ?_
  refine ex_aload_n dX6_sellOne_26 rfl ?_
  refine mx_getr 6 (o + 9) dX6_sellOne_27 fl_X6_29 ho (rf_6_4 ho) ?_
  refine ex_iload_n dX6_sellOne_30 rfl ?_
  refine ex_iconst 0 dX6_sellOne_31 kI_0 ?_
  obtain ⟨x4, qx4, h⟩ := b1E h
  refine mx_cVi [.int a1, .int 0] [.int 4, .int (M3 o 10), .ref (o + 11)] (o + 9) 8 x4 dX6_sellOne_32 cl_X6_90 im_X8_at cy_X8_at (oc_6_4 ho) rfl (Nat.le_of_ble_eq_true rfl) (by decide) (t_X8_at l E (o + 9) a1 0 (oc_6_4 ho) M3 qx4) ?_
  refine ex_iload_n dX6_sellOne_35 rfl ?_
  obtain ⟨M5, x6, qx6, h⟩ := b2E h
  refine mx_cVi [.int (M3 o 10), .int 4, .int x4, .int x2] [] (o + 11) 8 x6 dX6_sellOne_36 cl_X6_125 im_X8_add cy_X8_add (oc_6_5 ho) rfl (Nat.le_of_ble_eq_true rfl) (by decide) (t_X8_add l E (o + 11) (M3 o 10) 4 x4 x2 (oc_6_5 ho) M3 qx6) ?_
  refine ex_pop dX6_sellOne_39 rfl ?_
  refine ex_aload_n dX6_sellOne_40 rfl ?_
  refine mx_getr 6 (o + 9) dX6_sellOne_41 fl_X6_29 ho (rf_6_4 ho) ?_
  refine ex_iload_n dX6_sellOne_44 rfl ?_
  obtain ⟨M7, qM7, h⟩ := b1E h
  refine mx_cVv [.int a1] [] (o + 9) 8 dX6_sellOne_45 cl_X6_141 im_X8_drop cy_X8_drop (oc_6_4 ho) rfl (Nat.le_of_ble_eq_true rfl) (by decide) (t_X8_drop l E (o + 9) a1 (oc_6_4 ho) M5 qM7) ?_
  refine ex_iload_n dX6_sellOne_48 rfl ?_
  cases h
  exact mx_reti .int dX6_sellOne_49 ⟨rfl, rfl⟩
def w_X6_meets_46 (o : Nat) (x4 : Int32) (i6 : Int32) (M7 : Mem) : Option ((Int32 × Mem) ⊕ (Mem)) :=
  if i6 < 0 then (some (.inr M7)) else (if (f_X10_isIn x4 i6) = 0 then (some (.inl ((i6 + (-1)), M7))) else (b1 (f_X8_drop (o + 9) i6 M7) fun M10 => some (.inl ((i6 + (-1)), M10))))
def f_X6_meets (o : Nat) (a1 : Int32) (M : Mem) : Option (Mem × Int32) :=
  b1 (f_X8_at (o + 5) a1 0 M) fun x1 => b1 (f_X8_at (o + 5) a1 1 M) fun x2 => b2 (f_X1_fewest (o + 21) (o + 9) x1 x2 M) fun M3 x4 => if x4 = 0 then (some (M3, 0)) else (b1 (lp (fun s => w_X6_meets_46 o x4 s.1 s.2) FU (((M3 (o + 9) 3) - 1), M3)) fun q11 => b1 (f_X8_put (o + 5) a1 4 1 q11) fun M12 => b1 (f_X8_at (o + 5) a1 3 M12) fun x13 => lt (up2 M12 o 11 ((M12 o 11) + x13)) fun M14 => b2 (f_X8_add (o + 11) (M14 o 10) 5 a1 (f_J6_bitCount_0f7a4 x4) M14) fun M15 x16 => some (M15, 1))
set_option maxRecDepth 100000 in
set_option maxHeartbeats 4000000 in
theorem t_X6_meets (l : Launch) (E : EV) (o : Nat) (a1 : Int32) (ho : oc o = some 6) (M : Mem) {M' : Mem} {r : Int32} (h : f_X6_meets o a1 M = some (M', r)) : RunM l E yX6_meets cX6_meets 4 (some .boolean) 42 [.ref o, .int a1] M M' (some (.int r)) := by
  refine RunM.of (by decide) (Nat.le_of_ble_eq_true rfl) ?_
  show XM l E (RX6, "meets", cX6_meets, 4) (some .boolean) 42 0 [some (.ref o), some (.int a1), none, none] [] M M' (some (.int r))
  unfold f_X6_meets at h
  refine ex_aload_n dX6_meets_0 rfl ?_
  refine mx_getr 6 (o + 21) dX6_meets_1 fl_X6_45 ho (rf_6_7 ho) ?_
  refine ex_aload_n dX6_meets_4 rfl ?_
  refine mx_getr 6 (o + 9) dX6_meets_5 fl_X6_29 ho (rf_6_4 ho) ?_
  refine ex_aload_n dX6_meets_8 rfl ?_
  refine mx_getr 6 (o + 5) dX6_meets_9 fl_X6_23 ho (rf_6_2 ho) ?_
  refine ex_iload_n dX6_meets_12 rfl ?_
  refine ex_iconst 0 dX6_meets_13 kI_0 ?_
  obtain ⟨x1, qx1, h⟩ := b1E h
  refine mx_cVi [.int a1, .int 0] [.ref (o + 9), .ref (o + 21)] (o + 5) 8 x1 dX6_meets_14 cl_X6_90 im_X8_at cy_X8_at (oc_6_2 ho) rfl (Nat.le_of_ble_eq_true rfl) (by decide) (t_X8_at l E (o + 5) a1 0 (oc_6_2 ho) M qx1) ?_
  refine ex_aload_n dX6_meets_17 rfl ?_
  refine mx_getr 6 (o + 5) dX6_meets_18 fl_X6_23 ho (rf_6_2 ho) ?_
  refine ex_iload_n dX6_meets_21 rfl ?_
  refine ex_iconst 1 dX6_meets_22 kI_1 ?_
  obtain ⟨x2, qx2, h⟩ := b1E h
  refine mx_cVi [.int a1, .int 1] [.int x1, .ref (o + 9), .ref (o + 21)] (o + 5) 8 x2 dX6_meets_23 cl_X6_90 im_X8_at cy_X8_at (oc_6_2 ho) rfl (Nat.le_of_ble_eq_true rfl) (by decide) (t_X8_at l E (o + 5) a1 1 (oc_6_2 ho) M qx2) ?_
  obtain ⟨M3, x4, qx4, h⟩ := b2E h
  refine mx_cVi [.ref (o + 9), .int x1, .int x2] [] (o + 21) 1 x4 dX6_meets_26 cl_X6_154 im_X1_fewest cy_X1_fewest (oc_6_7 ho) rfl (Nat.le_of_ble_eq_true rfl) (by decide) (t_X1_fewest l E (o + 21) (o + 9) x1 x2 (oc_6_7 ho) (oc_6_4 ho) M qx4) ?_
  refine ex_istore_n (L2 := [some (.ref o), some (.int a1), some (.int x4), none]) dX6_meets_29 (by decide) rfl ?_
  refine ex_iload_n dX6_meets_30 rfl ?_
  refine ex_if_ne 36 dX6_meets_31 (by decide) (fun c5 => ?_) (fun c5 => ?_)
  · rw [if_neg c5] at h
    refine ex_aload_n dX6_meets_36 rfl ?_
    refine mx_getr 6 (o + 9) dX6_meets_37 fl_X6_29 ho (rf_6_4 ho) ?_
    refine mx_geti 8 dX6_meets_40 fl_X6_116 (oc_6_4 ho) (isi_8_3 (oc_6_4 ho)) ?_
    refine ex_iconst 1 dX6_meets_43 kI_1 ?_
    refine ex_isub dX6_meets_44 ?_
    refine ex_istore_n (L2 := [some (.ref o), some (.int a1), some (.int x4), some (.int ((M3 (o + 9) 3) - 1))]) dX6_meets_45 (by decide) rfl ?_
    refine ex_mskL [true, true, true, true] (L2 := [some (.ref o), some (.int a1), some (.int x4), some (.int ((M3 (o + 9) 3) - 1))]) rfl ?_
    obtain ⟨q11, hlq11, h⟩ := b1E h
    have hx : XM l E (RX6, "meets", cX6_meets, 4) (some .boolean) 42 72 [some (.ref o), some (.int a1), some (.int x4), none] [] q11 M' (some (.int r)) := by
      refine ex_aload_n dX6_meets_72 rfl ?_
      refine mx_getr 6 (o + 5) dX6_meets_73 fl_X6_23 ho (rf_6_2 ho) ?_
      refine ex_iload_n dX6_meets_76 rfl ?_
      refine ex_iconst 4 dX6_meets_77 kI_4 ?_
      refine ex_iconst 1 dX6_meets_78 kI_1 ?_
      obtain ⟨M12, qM12, h⟩ := b1E h
      refine mx_cVv [.int a1, .int 4, .int 1] [] (o + 5) 8 dX6_meets_79 cl_X6_129 im_X8_put cy_X8_put (oc_6_2 ho) rfl (Nat.le_of_ble_eq_true rfl) (by decide) (t_X8_put l E (o + 5) a1 4 1 (oc_6_2 ho) q11 qM12) ?_
      refine ex_aload_n dX6_meets_82 rfl ?_
      refine ex_dup dX6_meets_83 rfl ?_
      refine mx_geti 6 dX6_meets_84 fl_X6_53 ho (isi_6_11 ho) ?_
      refine ex_aload_n dX6_meets_87 rfl ?_
      refine mx_getr 6 (o + 5) dX6_meets_88 fl_X6_23 ho (rf_6_2 ho) ?_
      refine ex_iload_n dX6_meets_91 rfl ?_
      refine ex_iconst 3 dX6_meets_92 kI_3 ?_
      obtain ⟨x13, qx13, h⟩ := b1E h
      refine mx_cVi [.int a1, .int 3] [.int (M12 o 11), .ref o] (o + 5) 8 x13 dX6_meets_93 cl_X6_90 im_X8_at cy_X8_at (oc_6_2 ho) rfl (Nat.le_of_ble_eq_true rfl) (by decide) (t_X8_at l E (o + 5) a1 3 (oc_6_2 ho) M12 qx13) ?_
      refine ex_iadd dX6_meets_96 ?_
      obtain ⟨M14, eM14, h⟩ := ltE h
      refine mx_puti 6 dX6_meets_97 fl_X6_53 rfl ⟨rfl, rfl⟩ ho (isi_6_11 ho) ?_
      rw [← eM14]
      refine ex_aload_n dX6_meets_100 rfl ?_
      refine mx_getr 6 (o + 11) dX6_meets_101 fl_X6_32 ho (rf_6_5 ho) ?_
      refine ex_aload_n dX6_meets_104 rfl ?_
      refine mx_geti 6 dX6_meets_105 fl_X6_67 ho (isi_6_10 ho) ?_
      refine ex_iconst 5 dX6_meets_108 kI_5 ?_
      refine ex_iload_n dX6_meets_109 rfl ?_
      refine ex_iload_n dX6_meets_110 rfl ?_
      refine mx_cSi [.int x4] [.int a1, .int 5, .int (M14 o 10), .ref (o + 11)] (f_J6_bitCount_0f7a4 x4) dX6_meets_111 cl_X6_162 sm_J6_bitCount_0f7a4 rfl (Nat.le_of_ble_eq_true rfl) (by decide) (t_J6_bitCount_0f7a4 l E x4 M14 rfl) ?_
      obtain ⟨M15, x16, qx16, h⟩ := b2E h
      refine mx_cVi [.int (M14 o 10), .int 5, .int a1, .int (f_J6_bitCount_0f7a4 x4)] [] (o + 11) 8 x16 dX6_meets_114 cl_X6_125 im_X8_add cy_X8_add (oc_6_5 ho) rfl (Nat.le_of_ble_eq_true rfl) (by decide) (t_X8_add l E (o + 11) (M14 o 10) 5 a1 (f_J6_bitCount_0f7a4 x4) (oc_6_5 ho) M14 qx16) ?_
      refine ex_pop dX6_meets_117 rfl ?_
      refine ex_iconst 1 dX6_meets_118 kI_1 ?_
      cases h
      exact mx_reti .boolean dX6_meets_119 ⟨rfl, by decide⟩
    clear h
    have key : ∀ (k : Nat) (s : Int32 × Mem), lp (fun s => w_X6_meets_46 o x4 s.1 s.2) k s = some q11 → XM l E (RX6, "meets", cX6_meets, 4) (some .boolean) 42 46 [some (.ref o), some (.int a1), some (.int x4), some (.int s.1)] [] s.2 M' (some (.int r)) := lp_ind (P := fun (s : Int32 × Mem) => XM l E (RX6, "meets", cX6_meets, 4) (some .boolean) 42 46 [some (.ref o), some (.int a1), some (.int x4), some (.int s.1)] [] s.2 M' (some (.int r))) (fun s t hb hk he => by
      obtain ⟨i6, M7⟩ := s
      show XM l E (RX6, "meets", cX6_meets, 4) (some .boolean) 42 46 [some (.ref o), some (.int a1), some (.int x4), some (.int i6)] [] M7 M' (some (.int r))
      change w_X6_meets_46 o x4 i6 M7 = some t at hb
      unfold w_X6_meets_46 at hb
      refine ex_iload_n dX6_meets_46 rfl ?_
      refine ex_if_lt 72 dX6_meets_47 (by decide) (fun c8 => ?_) (fun c8 => ?_)
      · rw [if_pos c8] at hb
        refine ex_mskL [true, true, true, false] (L2 := [some (.ref o), some (.int a1), some (.int x4), none]) rfl ?_
        cases hb
        cases (he _ rfl) <;> exact hx
      · rw [if_neg c8] at hb
        refine ex_iload_n dX6_meets_50 rfl ?_
        refine ex_iload_n dX6_meets_51 rfl ?_
        refine mx_cSi [.int x4, .int i6] [] (f_X10_isIn x4 i6) dX6_meets_52 cl_X6_158 sm_X10_isIn rfl (Nat.le_of_ble_eq_true rfl) (by decide) (t_X10_isIn l E x4 i6 M7 rfl) ?_
        refine ex_if_eq 66 dX6_meets_55 (by decide) (fun c9 => ?_) (fun c9 => ?_)
        · rw [if_pos c9] at hb
          refine ex_iinc (-1) (L2 := [some (.ref o), some (.int a1), some (.int x4), some (.int (i6 + (-1)))]) dX6_meets_66 rfl kI_m1 (by decide) rfl ?_
          refine ex_goto 46 dX6_meets_69 (by decide) ?_
          refine ex_mskL [true, true, true, true] (L2 := [some (.ref o), some (.int a1), some (.int x4), some (.int (i6 + (-1)))]) rfl ?_
          cases hb
          exact hk ((i6 + (-1)), M7) rfl
        · rw [if_neg c9] at hb
          refine ex_aload_n dX6_meets_58 rfl ?_
          refine mx_getr 6 (o + 9) dX6_meets_59 fl_X6_29 ho (rf_6_4 ho) ?_
          refine ex_iload_n dX6_meets_62 rfl ?_
          obtain ⟨M10, qM10, hb⟩ := b1E hb
          refine mx_cVv [.int i6] [] (o + 9) 8 dX6_meets_63 cl_X6_141 im_X8_drop cy_X8_drop (oc_6_4 ho) rfl (Nat.le_of_ble_eq_true rfl) (by decide) (t_X8_drop l E (o + 9) i6 (oc_6_4 ho) M7 qM10) ?_
          refine ex_iinc (-1) (L2 := [some (.ref o), some (.int a1), some (.int x4), some (.int (i6 + (-1)))]) dX6_meets_66 rfl kI_m1 (by decide) rfl ?_
          refine ex_goto 46 dX6_meets_69 (by decide) ?_
          refine ex_mskL [true, true, true, true] (L2 := [some (.ref o), some (.int a1), some (.int x4), some (.int (i6 + (-1)))]) rfl ?_
          cases hb
          exact hk ((i6 + (-1)), M10) rfl)
    exact key FU (((M3 (o + 9) 3) - 1), M3) hlq11
  · rw [if_pos c5] at h
    refine ex_iconst 0 dX6_meets_34 kI_0 ?_
    cases h
    exact mx_reti .boolean dX6_meets_35 ⟨rfl, by decide⟩
def w_X6_beginDay_2 (o : Nat) (i1 : Int32) (M2 : Mem) : Option ((Int32 × Mem) ⊕ (Mem)) :=
  if (M2 (o + 3) 3) ≤ i1 then (some (.inr M2)) else (b1 (f_X8_at (o + 3) i1 0 M2) fun x4 => if x4 = (M2 o 10) then (b1 (f_X8_at (o + 3) i1 1 M2) fun x6 => b1 (f_X8_at (o + 3) i1 2 M2) fun x7 => b2 (f_X6_holdFeast o x6 x7 M2) fun M8 x9 => some (.inl ((i1 + 1), M8))) else (some (.inl ((i1 + 1), M2))))
def w_X6_beginDay_62 (o : Nat) (i11 : Int32) (i12 : Int32) (M13 : Mem) : Option ((Int32 × Int32 × Mem) ⊕ (Int32 × Mem)) :=
  if (M13 (o + 5) 3) ≤ i12 then (some (.inr (i11, M13))) else (b1 (f_X8_at (o + 5) i12 4 M13) fun x15 => if x15 = 0 then (b1 (f_X8_at (o + 5) i12 2 M13) fun x17 => if x17 < (M13 o 10) then (some (.inl (i11, (i12 + 1), M13))) else (b2 (f_X6_meets o i12 M13) fun M19 x20 => if x20 = 0 then (some (.inl (i11, (i12 + 1), M19))) else (some (.inl ((i11 + 1), (i12 + 1), M19))))) else (some (.inl (i11, (i12 + 1), M13))))
def f_X6_beginDay (o : Nat) (M : Mem) : Option (Mem × Int32) :=
  b1 (lp (fun s => w_X6_beginDay_2 o s.1 s.2) FU (0, M)) fun q10 => b1 (lp (fun s => w_X6_beginDay_62 o s.1 s.2.1 s.2.2) FU (0, 0, q10)) fun q22 => some (q22.2, q22.1)
set_option maxRecDepth 100000 in
set_option maxHeartbeats 4000000 in
theorem t_X6_beginDay (l : Launch) (E : EV) (o : Nat) (ho : oc o = some 6) (M : Mem) {M' : Mem} {r : Int32} (h : f_X6_beginDay o M = some (M', r)) : RunM l E yX6_beginDay cX6_beginDay 4 (some .int) 43 [.ref o] M M' (some (.int r)) := by
  refine RunM.of (by decide) (Nat.le_of_ble_eq_true rfl) ?_
  show XM l E (RX6, "beginDay", cX6_beginDay, 4) (some .int) 43 0 [some (.ref o), none, none, none] [] M M' (some (.int r))
  unfold f_X6_beginDay at h
  refine ex_iconst 0 dX6_beginDay_0 kI_0 ?_
  refine ex_istore_n (L2 := [some (.ref o), some (.int 0), none, none]) dX6_beginDay_1 (by decide) rfl ?_
  refine ex_mskL [true, true, false, false] (L2 := [some (.ref o), some (.int 0), none, none]) rfl ?_
  obtain ⟨q10, hlq10, h⟩ := b1E h
  have hx : XM l E (RX6, "beginDay", cX6_beginDay, 4) (some .int) 43 58 [some (.ref o), none, none, none] [] q10 M' (some (.int r)) := by
    refine ex_iconst 0 dX6_beginDay_58 kI_0 ?_
    refine ex_istore_n (L2 := [some (.ref o), some (.int 0), none, none]) dX6_beginDay_59 (by decide) rfl ?_
    refine ex_iconst 0 dX6_beginDay_60 kI_0 ?_
    refine ex_istore_n (L2 := [some (.ref o), some (.int 0), some (.int 0), none]) dX6_beginDay_61 (by decide) rfl ?_
    refine ex_mskL [true, true, true, false] (L2 := [some (.ref o), some (.int 0), some (.int 0), none]) rfl ?_
    obtain ⟨q22, hlq22, h⟩ := b1E h
    obtain ⟨y23, M24⟩ := q22
    dsimp only at h
    have hx : XM l E (RX6, "beginDay", cX6_beginDay, 4) (some .int) 43 128 [none, some (.int y23), none, none] [] M24 M' (some (.int r)) := by
      refine ex_iload_n dX6_beginDay_128 rfl ?_
      cases h
      exact mx_reti .int dX6_beginDay_129 ⟨rfl, rfl⟩
    clear h
    have key : ∀ (k : Nat) (s : Int32 × Int32 × Mem), lp (fun s => w_X6_beginDay_62 o s.1 s.2.1 s.2.2) k s = some (y23, M24) → XM l E (RX6, "beginDay", cX6_beginDay, 4) (some .int) 43 62 [some (.ref o), some (.int s.1), some (.int s.2.1), none] [] s.2.2 M' (some (.int r)) := lp_ind (P := fun (s : Int32 × Int32 × Mem) => XM l E (RX6, "beginDay", cX6_beginDay, 4) (some .int) 43 62 [some (.ref o), some (.int s.1), some (.int s.2.1), none] [] s.2.2 M' (some (.int r))) (fun s t hb hk he => by
      obtain ⟨i11, i12, M13⟩ := s
      show XM l E (RX6, "beginDay", cX6_beginDay, 4) (some .int) 43 62 [some (.ref o), some (.int i11), some (.int i12), none] [] M13 M' (some (.int r))
      change w_X6_beginDay_62 o i11 i12 M13 = some t at hb
      unfold w_X6_beginDay_62 at hb
      refine ex_iload_n dX6_beginDay_62 rfl ?_
      refine ex_aload_n dX6_beginDay_63 rfl ?_
      refine mx_getr 6 (o + 5) dX6_beginDay_64 fl_X6_23 ho (rf_6_2 ho) ?_
      refine mx_geti 8 dX6_beginDay_67 fl_X6_116 (oc_6_2 ho) (isi_8_3 (oc_6_2 ho)) ?_
      refine ex_icmp_ge 128 dX6_beginDay_70 (by decide) (fun c14 => ?_) (fun c14 => ?_)
      · rw [if_pos c14] at hb
        refine ex_mskL [false, true, false, false] (L2 := [none, some (.int i11), none, none]) rfl ?_
        cases hb
        cases (he _ rfl) <;> exact hx
      · rw [if_neg c14] at hb
        refine ex_aload_n dX6_beginDay_73 rfl ?_
        refine mx_getr 6 (o + 5) dX6_beginDay_74 fl_X6_23 ho (rf_6_2 ho) ?_
        refine ex_iload_n dX6_beginDay_77 rfl ?_
        refine ex_iconst 4 dX6_beginDay_78 kI_4 ?_
        obtain ⟨x15, qx15, hb⟩ := b1E hb
        refine mx_cVi [.int i12, .int 4] [] (o + 5) 8 x15 dX6_beginDay_79 cl_X6_90 im_X8_at cy_X8_at (oc_6_2 ho) rfl (Nat.le_of_ble_eq_true rfl) (by decide) (t_X8_at l E (o + 5) i12 4 (oc_6_2 ho) M13 qx15) ?_
        refine ex_if_ne 105 dX6_beginDay_82 (by decide) (fun c16 => ?_) (fun c16 => ?_)
        · rw [if_neg c16] at hb
          refine ex_iconst 0 dX6_beginDay_105 kI_0 ?_
          refine ex_istore_n (L2 := [some (.ref o), some (.int i11), some (.int i12), some (.int 0)]) dX6_beginDay_106 (by decide) rfl ?_
          refine ex_iload_n dX6_beginDay_107 rfl ?_
          refine ex_if_eq 122 dX6_beginDay_108 (by decide) (fun _ => ?_) (fun z => absurd (by decide) z)
          refine ex_iinc 1 (L2 := [some (.ref o), some (.int i11), some (.int (i12 + 1)), some (.int 0)]) dX6_beginDay_122 rfl kI_1 (by decide) rfl ?_
          refine ex_goto 62 dX6_beginDay_125 (by decide) ?_
          refine ex_mskL [true, true, true, false] (L2 := [some (.ref o), some (.int i11), some (.int (i12 + 1)), none]) rfl ?_
          cases hb
          exact hk (i11, (i12 + 1), M13) rfl
        · rw [if_pos c16] at hb
          refine ex_aload_n dX6_beginDay_85 rfl ?_
          refine mx_geti 6 dX6_beginDay_86 fl_X6_67 ho (isi_6_10 ho) ?_
          refine ex_aload_n dX6_beginDay_89 rfl ?_
          refine mx_getr 6 (o + 5) dX6_beginDay_90 fl_X6_23 ho (rf_6_2 ho) ?_
          refine ex_iload_n dX6_beginDay_93 rfl ?_
          refine ex_iconst 2 dX6_beginDay_94 kI_2 ?_
          obtain ⟨x17, qx17, hb⟩ := b1E hb
          refine mx_cVi [.int i12, .int 2] [.int (M13 o 10)] (o + 5) 8 x17 dX6_beginDay_95 cl_X6_90 im_X8_at cy_X8_at (oc_6_2 ho) rfl (Nat.le_of_ble_eq_true rfl) (by decide) (t_X8_at l E (o + 5) i12 2 (oc_6_2 ho) M13 qx17) ?_
          refine ex_icmp_gt 105 dX6_beginDay_98 (by decide) (fun c18 => ?_) (fun c18 => ?_)
          · rw [if_pos c18] at hb
            refine ex_iconst 0 dX6_beginDay_105 kI_0 ?_
            refine ex_istore_n (L2 := [some (.ref o), some (.int i11), some (.int i12), some (.int 0)]) dX6_beginDay_106 (by decide) rfl ?_
            refine ex_iload_n dX6_beginDay_107 rfl ?_
            refine ex_if_eq 122 dX6_beginDay_108 (by decide) (fun _ => ?_) (fun z => absurd (by decide) z)
            refine ex_iinc 1 (L2 := [some (.ref o), some (.int i11), some (.int (i12 + 1)), some (.int 0)]) dX6_beginDay_122 rfl kI_1 (by decide) rfl ?_
            refine ex_goto 62 dX6_beginDay_125 (by decide) ?_
            refine ex_mskL [true, true, true, false] (L2 := [some (.ref o), some (.int i11), some (.int (i12 + 1)), none]) rfl ?_
            cases hb
            exact hk (i11, (i12 + 1), M13) rfl
          · rw [if_neg c18] at hb
            refine ex_iconst 1 dX6_beginDay_101 kI_1 ?_
            refine ex_goto 106 dX6_beginDay_102 (by decide) ?_
            refine ex_istore_n (L2 := [some (.ref o), some (.int i11), some (.int i12), some (.int 1)]) dX6_beginDay_106 (by decide) rfl ?_
            refine ex_iload_n dX6_beginDay_107 rfl ?_
            refine ex_if_eq 122 dX6_beginDay_108 (by decide) (fun z => absurd z (by decide)) (fun _ => ?_)
            refine ex_aload_n dX6_beginDay_111 rfl ?_
            refine ex_iload_n dX6_beginDay_112 rfl ?_
            obtain ⟨M19, x20, qx20, hb⟩ := b2E hb
            refine mx_cVi [.int i12] [] o 6 x20 dX6_beginDay_113 cl_X6_151 im_X6_meets cy_X6_meets ho rfl (Nat.le_of_ble_eq_true rfl) (by decide) (t_X6_meets l E o i12 ho M13 qx20) ?_
            refine ex_if_eq 122 dX6_beginDay_116 (by decide) (fun c21 => ?_) (fun c21 => ?_)
            · rw [if_pos c21] at hb
              refine ex_iinc 1 (L2 := [some (.ref o), some (.int i11), some (.int (i12 + 1)), some (.int 1)]) dX6_beginDay_122 rfl kI_1 (by decide) rfl ?_
              refine ex_goto 62 dX6_beginDay_125 (by decide) ?_
              refine ex_mskL [true, true, true, false] (L2 := [some (.ref o), some (.int i11), some (.int (i12 + 1)), none]) rfl ?_
              cases hb
              exact hk (i11, (i12 + 1), M19) rfl
            · rw [if_neg c21] at hb
              refine ex_iinc 1 (L2 := [some (.ref o), some (.int (i11 + 1)), some (.int i12), some (.int 1)]) dX6_beginDay_119 rfl kI_1 (by decide) rfl ?_
              refine ex_iinc 1 (L2 := [some (.ref o), some (.int (i11 + 1)), some (.int (i12 + 1)), some (.int 1)]) dX6_beginDay_122 rfl kI_1 (by decide) rfl ?_
              refine ex_goto 62 dX6_beginDay_125 (by decide) ?_
              refine ex_mskL [true, true, true, false] (L2 := [some (.ref o), some (.int (i11 + 1)), some (.int (i12 + 1)), none]) rfl ?_
              cases hb
              exact hk ((i11 + 1), (i12 + 1), M19) rfl)
    exact key FU (0, 0, q10) hlq22
  clear h
  have key : ∀ (k : Nat) (s : Int32 × Mem), lp (fun s => w_X6_beginDay_2 o s.1 s.2) k s = some q10 → XM l E (RX6, "beginDay", cX6_beginDay, 4) (some .int) 43 2 [some (.ref o), some (.int s.1), none, none] [] s.2 M' (some (.int r)) := lp_ind (P := fun (s : Int32 × Mem) => XM l E (RX6, "beginDay", cX6_beginDay, 4) (some .int) 43 2 [some (.ref o), some (.int s.1), none, none] [] s.2 M' (some (.int r))) (fun s t hb hk he => by
    obtain ⟨i1, M2⟩ := s
    show XM l E (RX6, "beginDay", cX6_beginDay, 4) (some .int) 43 2 [some (.ref o), some (.int i1), none, none] [] M2 M' (some (.int r))
    change w_X6_beginDay_2 o i1 M2 = some t at hb
    unfold w_X6_beginDay_2 at hb
    refine ex_iload_n dX6_beginDay_2 rfl ?_
    refine ex_aload_n dX6_beginDay_3 rfl ?_
    refine mx_getr 6 (o + 3) dX6_beginDay_4 fl_X6_20 ho (rf_6_1 ho) ?_
    refine mx_geti 8 dX6_beginDay_7 fl_X6_116 (oc_6_1 ho) (isi_8_3 (oc_6_1 ho)) ?_
    refine ex_icmp_ge 58 dX6_beginDay_10 (by decide) (fun c3 => ?_) (fun c3 => ?_)
    · rw [if_pos c3] at hb
      refine ex_mskL [true, false, false, false] (L2 := [some (.ref o), none, none, none]) rfl ?_
      cases hb
      cases (he _ rfl) <;> exact hx
    · rw [if_neg c3] at hb
      refine ex_aload_n dX6_beginDay_13 rfl ?_
      refine mx_getr 6 (o + 3) dX6_beginDay_14 fl_X6_20 ho (rf_6_1 ho) ?_
      refine ex_iload_n dX6_beginDay_17 rfl ?_
      refine ex_iconst 0 dX6_beginDay_18 kI_0 ?_
      obtain ⟨x4, qx4, hb⟩ := b1E hb
      refine mx_cVi [.int i1, .int 0] [] (o + 3) 8 x4 dX6_beginDay_19 cl_X6_90 im_X8_at cy_X8_at (oc_6_1 ho) rfl (Nat.le_of_ble_eq_true rfl) (by decide) (t_X8_at l E (o + 3) i1 0 (oc_6_1 ho) M2 qx4) ?_
      refine ex_aload_n dX6_beginDay_22 rfl ?_
      refine mx_geti 6 dX6_beginDay_23 fl_X6_67 ho (isi_6_10 ho) ?_
      refine ex_icmp_ne 52 dX6_beginDay_26 (by decide) (fun c5 => ?_) (fun c5 => ?_)
      · rw [if_neg c5] at hb
        refine ex_iinc 1 (L2 := [some (.ref o), some (.int (i1 + 1)), none, none]) dX6_beginDay_52 rfl kI_1 (by decide) rfl ?_
        refine ex_goto 2 dX6_beginDay_55 (by decide) ?_
        refine ex_mskL [true, true, false, false] (L2 := [some (.ref o), some (.int (i1 + 1)), none, none]) rfl ?_
        cases hb
        exact hk ((i1 + 1), M2) rfl
      · rw [if_pos c5] at hb
        refine ex_aload_n dX6_beginDay_29 rfl ?_
        refine ex_aload_n dX6_beginDay_30 rfl ?_
        refine mx_getr 6 (o + 3) dX6_beginDay_31 fl_X6_20 ho (rf_6_1 ho) ?_
        refine ex_iload_n dX6_beginDay_34 rfl ?_
        refine ex_iconst 1 dX6_beginDay_35 kI_1 ?_
        obtain ⟨x6, qx6, hb⟩ := b1E hb
        refine mx_cVi [.int i1, .int 1] [.ref o] (o + 3) 8 x6 dX6_beginDay_36 cl_X6_90 im_X8_at cy_X8_at (oc_6_1 ho) rfl (Nat.le_of_ble_eq_true rfl) (by decide) (t_X8_at l E (o + 3) i1 1 (oc_6_1 ho) M2 qx6) ?_
        refine ex_aload_n dX6_beginDay_39 rfl ?_
        refine mx_getr 6 (o + 3) dX6_beginDay_40 fl_X6_20 ho (rf_6_1 ho) ?_
        refine ex_iload_n dX6_beginDay_43 rfl ?_
        refine ex_iconst 2 dX6_beginDay_44 kI_2 ?_
        obtain ⟨x7, qx7, hb⟩ := b1E hb
        refine mx_cVi [.int i1, .int 2] [.int x6, .ref o] (o + 3) 8 x7 dX6_beginDay_45 cl_X6_90 im_X8_at cy_X8_at (oc_6_1 ho) rfl (Nat.le_of_ble_eq_true rfl) (by decide) (t_X8_at l E (o + 3) i1 2 (oc_6_1 ho) M2 qx7) ?_
        obtain ⟨M8, x9, qx9, hb⟩ := b2E hb
        refine mx_cVi [.int x6, .int x7] [] o 6 x9 dX6_beginDay_48 cl_X6_148 im_X6_holdFeast cy_X6_holdFeast ho rfl (Nat.le_of_ble_eq_true rfl) (by decide) (t_X6_holdFeast l E o x6 x7 ho M2 qx9) ?_
        refine ex_pop dX6_beginDay_51 rfl ?_
        refine ex_iinc 1 (L2 := [some (.ref o), some (.int (i1 + 1)), none, none]) dX6_beginDay_52 rfl kI_1 (by decide) rfl ?_
        refine ex_goto 2 dX6_beginDay_55 (by decide) ?_
        refine ex_mskL [true, true, false, false] (L2 := [some (.ref o), some (.int (i1 + 1)), none, none]) rfl ?_
        cases hb
        exact hk ((i1 + 1), M8) rfl)
  exact key FU (0, M) hlq10
