def f_X9_addToken (a1 : Int32) (a2 : Int32) (a3 : Int32) (M : Mem) : Option (Mem) :=
  if ((M 136 5) < 0 ∨ 400 < (M 136 5)) then (some M) else (b1 (wr M 138 (M 136 5) a1) fun M4 => b1 (wr M4 139 (M4 136 5) a2) fun M5 => b1 (wr M5 140 (M5 136 5) a3) fun M6 => lt (up2 M6 136 5 ((M6 136 5) + 1)) fun M7 => some M7)
set_option maxRecDepth 100000 in
set_option maxHeartbeats 4000000 in
theorem t_X9_addToken (l : Launch) (E : EV) (a1 : Int32) (a2 : Int32) (a3 : Int32) (M : Mem) {M' : Mem} (h : f_X9_addToken a1 a2 a3 M = some M') : RunM l E yX9_addToken cX9_addToken 4 none 0 [.ref 136, .int a1, .int a2, .int a3] M M' none := by
  refine RunM.of (by decide) (Nat.le_of_ble_eq_true rfl) ?_
  show XM l E (RX9, "addToken", cX9_addToken, 4) none 0 0 [some (.ref 136), some (.int a1), some (.int a2), some (.int a3)] [] M M' none
  unfold f_X9_addToken at h
  refine ex_aload_n dX9_addToken_0 rfl ?_
  refine mx_geti 9 dX9_addToken_1 fl_X9_31 oc_at_136 (isi_9_5 oc_at_136) ?_
  have JXC3 : ((M 136 5) < 0 ∨ 400 < (M 136 5)) → XM l E (RX9, "addToken", cX9_addToken, 4) none 0 57 [some (.ref 136), some (.int a1), some (.int a2), some (.int a3)] [] M M' none := fun C3 => by
    rw [if_pos C3] at h
    cases h
    exact mx_retv dX9_addToken_57 rfl
  have JYC3 : ¬ (((M 136 5) < 0 ∨ 400 < (M 136 5))) → XM l E (RX9, "addToken", cX9_addToken, 4) none 0 26 [some (.ref 136), some (.int a1), some (.int a2), some (.int a3)] [.int a1, .int (M 136 5), .ref 138] M M' none := fun C3 => by
    rw [if_neg C3] at h
    obtain ⟨M4, qM4, h⟩ := b1E h
    refine mx_iast M4 dX9_addToken_26 qM4 ?_
    refine ex_aload_n dX9_addToken_27 rfl ?_
    refine mx_getr 9 139 dX9_addToken_28 fl_X9_18 oc_at_136 (rf_9_2 oc_at_136) ?_
    refine ex_aload_n dX9_addToken_31 rfl ?_
    refine mx_geti 9 dX9_addToken_32 fl_X9_31 oc_at_136 (isi_9_5 oc_at_136) ?_
    refine ex_iload_n dX9_addToken_35 rfl ?_
    obtain ⟨M5, qM5, h⟩ := b1E h
    refine mx_iast M5 dX9_addToken_36 qM5 ?_
    refine ex_aload_n dX9_addToken_37 rfl ?_
    refine mx_getr 9 140 dX9_addToken_38 fl_X9_21 oc_at_136 (rf_9_3 oc_at_136) ?_
    refine ex_aload_n dX9_addToken_41 rfl ?_
    refine mx_geti 9 dX9_addToken_42 fl_X9_31 oc_at_136 (isi_9_5 oc_at_136) ?_
    refine ex_iload_n dX9_addToken_45 rfl ?_
    obtain ⟨M6, qM6, h⟩ := b1E h
    refine mx_iast M6 dX9_addToken_46 qM6 ?_
    refine ex_aload_n dX9_addToken_47 rfl ?_
    refine ex_dup dX9_addToken_48 rfl ?_
    refine mx_geti 9 dX9_addToken_49 fl_X9_31 oc_at_136 (isi_9_5 oc_at_136) ?_
    refine ex_iconst 1 dX9_addToken_52 kI_1 ?_
    refine ex_iadd dX9_addToken_53 ?_
    obtain ⟨M7, eM7, h⟩ := ltE h
    refine mx_puti 9 dX9_addToken_54 fl_X9_31 rfl ⟨rfl, rfl⟩ oc_at_136 (isi_9_5 oc_at_136) ?_
    rw [← eM7]
    cases h
    exact mx_retv dX9_addToken_57 rfl
  clear h
  refine ex_if_lt 57 dX9_addToken_4 (by decide) (fun c1 => ?_) (fun c1 => ?_)
  · exact JXC3 (Or.inl c1)
  · refine ex_aload_n dX9_addToken_7 rfl ?_
    refine mx_geti 9 dX9_addToken_8 fl_X9_31 oc_at_136 (isi_9_5 oc_at_136) ?_
    refine ex_sipush 400 dX9_addToken_11 kS_400 ?_
    refine ex_icmp_gt 57 dX9_addToken_14 (by decide) (fun c2 => ?_) (fun c2 => ?_)
    · exact JXC3 (Or.inr c2)
    · refine ex_aload_n dX9_addToken_17 rfl ?_
      refine mx_getr 9 138 dX9_addToken_18 fl_X9_15 oc_at_136 (rf_9_1 oc_at_136) ?_
      refine ex_aload_n dX9_addToken_21 rfl ?_
      refine mx_geti 9 dX9_addToken_22 fl_X9_31 oc_at_136 (isi_9_5 oc_at_136) ?_
      refine ex_iload_n dX9_addToken_25 rfl ?_
      exact JYC3 (fun z => z.elim c1 c2)
def f_X9_isDigit (a1 : Int32) : (Int32) :=
  (f_X10_within a1 48 57)
theorem z_X9_isDigit (a1 : Int32) : f_X9_isDigit a1 = 0 ∨ f_X9_isDigit a1 = 1 := by
  unfold f_X9_isDigit
  (repeat' split) <;> first | exact Or.inl rfl | exact Or.inr rfl | exact z_X10_within _ _ _
set_option maxRecDepth 100000 in
set_option maxHeartbeats 4000000 in
theorem t_X9_isDigit (l : Launch) (E : EV) (a1 : Int32) (M : Mem) {r : Int32} (h : f_X9_isDigit a1 = r) : RunM l E yX9_isDigit cX9_isDigit 1 (some .boolean) 1 [.int a1] M M (some (.int r)) := by
  refine RunM.of (by decide) (Nat.le_of_ble_eq_true rfl) ?_
  show XM l E (RX9, "isDigit", cX9_isDigit, 1) (some .boolean) 1 0 [some (.int a1)] [] M M (some (.int r))
  unfold f_X9_isDigit at h
  refine ex_iload_n dX9_isDigit_0 rfl ?_
  refine ex_bipush 48 dX9_isDigit_1 kB_48 ?_
  refine ex_bipush 57 dX9_isDigit_3 kB_57 ?_
  refine mx_cSi [.int a1, .int 48, .int 57] [] (f_X10_within a1 48 57) dX9_isDigit_5 cl_X9_74 sm_X10_within rfl (Nat.le_of_ble_eq_true rfl) (by decide) (t_X10_within l E a1 48 57 M rfl) ?_
  subst h
  exact mx_reti .boolean dX9_isDigit_8 ⟨rfl, nzB (z_X10_within _ _ _)⟩
def w_X9_behindDigits_2 (M : Mem) (i1 : Int32) : Option ((Int32) ⊕ (Int32)) :=
  if (M 136 4) ≤ i1 then (some (.inr i1)) else (b1 (f_X9_byteAt i1 M) fun x3 => if (f_X9_isDigit x3) = 0 then (some (.inr i1)) else (some (.inl (i1 + 1))))
def f_X9_behindDigits (a1 : Int32) (M : Mem) : Option (Int32) :=
  b1 (lp (fun s => w_X9_behindDigits_2 M s) FU a1) fun q5 => some q5
set_option maxRecDepth 100000 in
set_option maxHeartbeats 4000000 in
theorem t_X9_behindDigits (l : Launch) (E : EV) (a1 : Int32) (M : Mem) {r : Int32} (h : f_X9_behindDigits a1 M = some r) : RunM l E yX9_behindDigits cX9_behindDigits 3 (some .int) 2 [.ref 136, .int a1] M M (some (.int r)) := by
  refine RunM.of (by decide) (Nat.le_of_ble_eq_true rfl) ?_
  show XM l E (RX9, "behindDigits", cX9_behindDigits, 3) (some .int) 2 0 [some (.ref 136), some (.int a1), none] [] M M (some (.int r))
  unfold f_X9_behindDigits at h
  refine ex_iload_n dX9_behindDigits_0 rfl ?_
  refine ex_istore_n (L2 := [some (.ref 136), some (.int a1), some (.int a1)]) dX9_behindDigits_1 (by decide) rfl ?_
  refine ex_mskL [true, false, true] (L2 := [some (.ref 136), none, some (.int a1)]) rfl ?_
  obtain ⟨q5, hlq5, h⟩ := b1E h
  have hx : XM l E (RX9, "behindDigits", cX9_behindDigits, 3) (some .int) 2 27 [none, none, some (.int q5)] [] M M (some (.int r)) := by
    refine ex_iload_n dX9_behindDigits_27 rfl ?_
    cases h
    exact mx_reti .int dX9_behindDigits_28 ⟨rfl, rfl⟩
  clear h
  have key : ∀ (k : Nat) (s : Int32), lp (fun s => w_X9_behindDigits_2 M s) k s = some q5 → XM l E (RX9, "behindDigits", cX9_behindDigits, 3) (some .int) 2 2 [some (.ref 136), none, some (.int s)] [] M M (some (.int r)) := lp_ind (P := fun (s : Int32) => XM l E (RX9, "behindDigits", cX9_behindDigits, 3) (some .int) 2 2 [some (.ref 136), none, some (.int s)] [] M M (some (.int r))) (fun s t hb hk he => by
    revert hb hk he; generalize s = i1; intro hb hk he
    show XM l E (RX9, "behindDigits", cX9_behindDigits, 3) (some .int) 2 2 [some (.ref 136), none, some (.int i1)] [] M M (some (.int r))
    change w_X9_behindDigits_2 M i1 = some t at hb
    unfold w_X9_behindDigits_2 at hb
    refine ex_iload_n dX9_behindDigits_2 rfl ?_
    refine ex_aload_n dX9_behindDigits_3 rfl ?_
    refine mx_geti 9 dX9_behindDigits_4 fl_X9_28 oc_at_136 (isi_9_4 oc_at_136) ?_
    refine ex_icmp_ge 27 dX9_behindDigits_7 (by decide) (fun c2 => ?_) (fun c2 => ?_)
    · rw [if_pos c2] at hb
      refine ex_mskL [false, false, true] (L2 := [none, none, some (.int i1)]) rfl ?_
      cases hb
      cases (he _ rfl) <;> exact hx
    · rw [if_neg c2] at hb
      refine ex_aload_n dX9_behindDigits_10 rfl ?_
      refine ex_iload_n dX9_behindDigits_11 rfl ?_
      obtain ⟨x3, qx3, hb⟩ := b1E hb
      refine mx_cVi [.int i1] [] 136 9 x3 dX9_behindDigits_12 cl_X9_40 im_X9_byteAt cy_X9_byteAt oc_at_136 rfl (Nat.le_of_ble_eq_true rfl) (by decide) (t_X9_byteAt l E i1 M qx3) ?_
      refine mx_cSi [.int x3] [] (f_X9_isDigit x3) dX9_behindDigits_15 cl_X9_65 sm_X9_isDigit rfl (Nat.le_of_ble_eq_true rfl) (by decide) (t_X9_isDigit l E x3 M rfl) ?_
      refine ex_if_eq 27 dX9_behindDigits_18 (by decide) (fun c4 => ?_) (fun c4 => ?_)
      · rw [if_pos c4] at hb
        refine ex_mskL [false, false, true] (L2 := [none, none, some (.int i1)]) rfl ?_
        cases hb
        cases (he _ rfl) <;> exact hx
      · rw [if_neg c4] at hb
        refine ex_iinc 1 (L2 := [some (.ref 136), none, some (.int (i1 + 1))]) dX9_behindDigits_21 rfl kI_1 (by decide) rfl ?_
        refine ex_goto 2 dX9_behindDigits_24 (by decide) ?_
        refine ex_mskL [true, false, true] (L2 := [some (.ref 136), none, some (.int (i1 + 1))]) rfl ?_
        cases hb
        exact hk (i1 + 1) rfl)
  exact key FU a1 hlq5
def w_X9_numberBetween_5 (a2 : Int32) (M : Mem) (i1 : Int32) (i2 : Int32) : Option ((Int32 × Int32) ⊕ (Int32)) :=
  if a2 ≤ i2 then (some (.inr i1)) else (b1 (f_X9_byteAt i2 M) fun x4 => some (.inl ((((i1 * 10) + x4) - 48), (i2 + 1))))
def f_X9_numberBetween (a1 : Int32) (a2 : Int32) (M : Mem) : Option (Int32) :=
  b1 (lp (fun s => w_X9_numberBetween_5 a2 M s.1 s.2) FU (0, a1)) fun q5 => some q5
set_option maxRecDepth 100000 in
set_option maxHeartbeats 4000000 in
theorem t_X9_numberBetween (l : Launch) (E : EV) (a1 : Int32) (a2 : Int32) (M : Mem) {r : Int32} (h : f_X9_numberBetween a1 a2 M = some r) : RunM l E yX9_numberBetween cX9_numberBetween 5 (some .int) 1 [.ref 136, .int a1, .int a2] M M (some (.int r)) := by
  refine RunM.of (by decide) (Nat.le_of_ble_eq_true rfl) ?_
  show XM l E (RX9, "numberBetween", cX9_numberBetween, 5) (some .int) 1 0 [some (.ref 136), some (.int a1), some (.int a2), none, none] [] M M (some (.int r))
  unfold f_X9_numberBetween at h
  refine ex_iconst 0 dX9_numberBetween_0 kI_0 ?_
  refine ex_istore_n (L2 := [some (.ref 136), some (.int a1), some (.int a2), some (.int 0), none]) dX9_numberBetween_1 (by decide) rfl ?_
  refine ex_iload_n dX9_numberBetween_2 rfl ?_
  refine ex_istore (L2 := [some (.ref 136), some (.int a1), some (.int a2), some (.int 0), some (.int a1)]) dX9_numberBetween_3 (by decide) rfl ?_
  refine ex_mskL [true, false, true, true, true] (L2 := [some (.ref 136), none, some (.int a2), some (.int 0), some (.int a1)]) rfl ?_
  obtain ⟨q5, hlq5, h⟩ := b1E h
  have hx : XM l E (RX9, "numberBetween", cX9_numberBetween, 5) (some .int) 1 32 [none, none, none, some (.int q5), none] [] M M (some (.int r)) := by
    refine ex_iload_n dX9_numberBetween_32 rfl ?_
    cases h
    exact mx_reti .int dX9_numberBetween_33 ⟨rfl, rfl⟩
  clear h
  have key : ∀ (k : Nat) (s : Int32 × Int32), lp (fun s => w_X9_numberBetween_5 a2 M s.1 s.2) k s = some q5 → XM l E (RX9, "numberBetween", cX9_numberBetween, 5) (some .int) 1 5 [some (.ref 136), none, some (.int a2), some (.int s.1), some (.int s.2)] [] M M (some (.int r)) := lp_ind (P := fun (s : Int32 × Int32) => XM l E (RX9, "numberBetween", cX9_numberBetween, 5) (some .int) 1 5 [some (.ref 136), none, some (.int a2), some (.int s.1), some (.int s.2)] [] M M (some (.int r))) (fun s t hb hk he => by
    obtain ⟨i1, i2⟩ := s
    show XM l E (RX9, "numberBetween", cX9_numberBetween, 5) (some .int) 1 5 [some (.ref 136), none, some (.int a2), some (.int i1), some (.int i2)] [] M M (some (.int r))
    change w_X9_numberBetween_5 a2 M i1 i2 = some t at hb
    unfold w_X9_numberBetween_5 at hb
    refine ex_iload dX9_numberBetween_5 rfl ?_
    refine ex_iload_n dX9_numberBetween_7 rfl ?_
    refine ex_icmp_ge 32 dX9_numberBetween_8 (by decide) (fun c3 => ?_) (fun c3 => ?_)
    · rw [if_pos c3] at hb
      refine ex_mskL [false, false, false, true, false] (L2 := [none, none, none, some (.int i1), none]) rfl ?_
      cases hb
      cases (he _ rfl) <;> exact hx
    · rw [if_neg c3] at hb
      refine ex_iload_n dX9_numberBetween_11 rfl ?_
      refine ex_bipush 10 dX9_numberBetween_12 kB_10 ?_
      refine ex_imul dX9_numberBetween_14 ?_
      refine ex_aload_n dX9_numberBetween_15 rfl ?_
      refine ex_iload dX9_numberBetween_16 rfl ?_
      obtain ⟨x4, qx4, hb⟩ := b1E hb
      refine mx_cVi [.int i2] [.int (i1 * 10)] 136 9 x4 dX9_numberBetween_18 cl_X9_40 im_X9_byteAt cy_X9_byteAt oc_at_136 rfl (Nat.le_of_ble_eq_true rfl) (by decide) (t_X9_byteAt l E i2 M qx4) ?_
      refine ex_iadd dX9_numberBetween_21 ?_
      refine ex_bipush 48 dX9_numberBetween_22 kB_48 ?_
      refine ex_isub dX9_numberBetween_24 ?_
      refine ex_istore_n (L2 := [some (.ref 136), none, some (.int a2), some (.int (((i1 * 10) + x4) - 48)), some (.int i2)]) dX9_numberBetween_25 (by decide) rfl ?_
      refine ex_iinc 1 (L2 := [some (.ref 136), none, some (.int a2), some (.int (((i1 * 10) + x4) - 48)), some (.int (i2 + 1))]) dX9_numberBetween_26 rfl kI_1 (by decide) rfl ?_
      refine ex_goto 5 dX9_numberBetween_29 (by decide) ?_
      refine ex_mskL [true, false, true, true, true] (L2 := [some (.ref 136), none, some (.int a2), some (.int (((i1 * 10) + x4) - 48)), some (.int (i2 + 1))]) rfl ?_
      cases hb
      exact hk ((((i1 * 10) + x4) - 48), (i2 + 1)) rfl)
  exact key FU (0, a1) hlq5
def f_X9_splitOne (a1 : Int32) (M : Mem) : Option (Mem × Int32) :=
  b1 (f_X9_byteAt a1 M) fun x1 => if (f_X9_isLetter x1) = 0 then (if (f_X9_isDigit x1) = 0 then (b1 (f_X9_addToken x1 0 a1 M) fun M4 => some (M4, (a1 + 1))) else (b1 (f_X9_behindDigits a1 M) fun x5 => lt ((if 4 < (x5 - a1) then 257 else 256) : Int32) fun x7 => b1 (f_X9_numberBetween a1 x5 M) fun x8 => b1 (f_X9_addToken x7 x8 a1 M) fun M9 => some (M9, x5))) else (b1 (f_X9_behindLetters a1 M) fun x10 => b1 (f_X9_wordBetween a1 x10 M) fun x11 => b1 (f_X9_addToken x11 0 a1 M) fun M12 => some (M12, x10))
set_option maxRecDepth 100000 in
set_option maxHeartbeats 4000000 in
theorem t_X9_splitOne (l : Launch) (E : EV) (a1 : Int32) (M : Mem) {M' : Mem} {r : Int32} (h : f_X9_splitOne a1 M = some (M', r)) : RunM l E yX9_splitOne cX9_splitOne 5 (some .int) 8 [.ref 136, .int a1] M M' (some (.int r)) := by
  refine RunM.of (by decide) (Nat.le_of_ble_eq_true rfl) ?_
  show XM l E (RX9, "splitOne", cX9_splitOne, 5) (some .int) 8 0 [some (.ref 136), some (.int a1), none, none, none] [] M M' (some (.int r))
  unfold f_X9_splitOne at h
  refine ex_aload_n dX9_splitOne_0 rfl ?_
  refine ex_iload_n dX9_splitOne_1 rfl ?_
  obtain ⟨x1, qx1, h⟩ := b1E h
  refine mx_cVi [.int a1] [] 136 9 x1 dX9_splitOne_2 cl_X9_40 im_X9_byteAt cy_X9_byteAt oc_at_136 rfl (Nat.le_of_ble_eq_true rfl) (by decide) (t_X9_byteAt l E a1 M qx1) ?_
  refine ex_istore_n (L2 := [some (.ref 136), some (.int a1), some (.int x1), none, none]) dX9_splitOne_5 (by decide) rfl ?_
  refine ex_iload_n dX9_splitOne_6 rfl ?_
  refine mx_cSi [.int x1] [] (f_X9_isLetter x1) dX9_splitOne_7 cl_X9_55 sm_X9_isLetter rfl (Nat.le_of_ble_eq_true rfl) (by decide) (t_X9_isLetter l E x1 M rfl) ?_
  refine ex_if_eq 33 dX9_splitOne_10 (by decide) (fun c2 => ?_) (fun c2 => ?_)
  · rw [if_pos c2] at h
    refine ex_iload_n dX9_splitOne_33 rfl ?_
    refine mx_cSi [.int x1] [] (f_X9_isDigit x1) dX9_splitOne_34 cl_X9_65 sm_X9_isDigit rfl (Nat.le_of_ble_eq_true rfl) (by decide) (t_X9_isDigit l E x1 M rfl) ?_
    refine ex_if_eq 79 dX9_splitOne_37 (by decide) (fun c3 => ?_) (fun c3 => ?_)
    · rw [if_pos c3] at h
      refine ex_aload_n dX9_splitOne_79 rfl ?_
      refine ex_iload_n dX9_splitOne_80 rfl ?_
      refine ex_iconst 0 dX9_splitOne_81 kI_0 ?_
      refine ex_iload_n dX9_splitOne_82 rfl ?_
      obtain ⟨M4, qM4, h⟩ := b1E h
      refine mx_cVv [.int x1, .int 0, .int a1] [] 136 9 dX9_splitOne_83 cl_X9_51 im_X9_addToken cy_X9_addToken oc_at_136 rfl (Nat.le_of_ble_eq_true rfl) (by decide) (t_X9_addToken l E x1 0 a1 M qM4) ?_
      refine ex_iload_n dX9_splitOne_86 rfl ?_
      refine ex_iconst 1 dX9_splitOne_87 kI_1 ?_
      refine ex_iadd dX9_splitOne_88 ?_
      cases h
      exact mx_reti .int dX9_splitOne_89 ⟨rfl, rfl⟩
    · rw [if_neg c3] at h
      refine ex_aload_n dX9_splitOne_40 rfl ?_
      refine ex_iload_n dX9_splitOne_41 rfl ?_
      obtain ⟨x5, qx5, h⟩ := b1E h
      refine mx_cVi [.int a1] [] 136 9 x5 dX9_splitOne_42 cl_X9_68 im_X9_behindDigits cy_X9_behindDigits oc_at_136 rfl (Nat.le_of_ble_eq_true rfl) (by decide) (t_X9_behindDigits l E a1 M qx5) ?_
      refine ex_istore_n (L2 := [some (.ref 136), some (.int a1), some (.int x1), some (.int x5), none]) dX9_splitOne_45 (by decide) rfl ?_
      refine ex_iload_n dX9_splitOne_46 rfl ?_
      refine ex_iload_n dX9_splitOne_47 rfl ?_
      refine ex_isub dX9_splitOne_48 ?_
      refine ex_iconst 4 dX9_splitOne_49 kI_4 ?_
      obtain ⟨x7, ex7, h⟩ := ltE h
      have Jx7 : XM l E (RX9, "splitOne", cX9_splitOne, 5) (some .int) 8 62 [some (.ref 136), some (.int a1), some (.int x1), some (.int x5), none] [.int x7] M M' (some (.int r)) := by
        refine ex_istore (L2 := [some (.ref 136), some (.int a1), some (.int x1), some (.int x5), some (.int x7)]) dX9_splitOne_62 (by decide) rfl ?_
        refine ex_aload_n dX9_splitOne_64 rfl ?_
        refine ex_iload dX9_splitOne_65 rfl ?_
        refine ex_aload_n dX9_splitOne_67 rfl ?_
        refine ex_iload_n dX9_splitOne_68 rfl ?_
        refine ex_iload_n dX9_splitOne_69 rfl ?_
        obtain ⟨x8, qx8, h⟩ := b1E h
        refine mx_cVi [.int a1, .int x5] [.int x7, .ref 136] 136 9 x8 dX9_splitOne_70 cl_X9_71 im_X9_numberBetween cy_X9_numberBetween oc_at_136 rfl (Nat.le_of_ble_eq_true rfl) (by decide) (t_X9_numberBetween l E a1 x5 M qx8) ?_
        refine ex_iload_n dX9_splitOne_73 rfl ?_
        obtain ⟨M9, qM9, h⟩ := b1E h
        refine mx_cVv [.int x7, .int x8, .int a1] [] 136 9 dX9_splitOne_74 cl_X9_51 im_X9_addToken cy_X9_addToken oc_at_136 rfl (Nat.le_of_ble_eq_true rfl) (by decide) (t_X9_addToken l E x7 x8 a1 M qM9) ?_
        refine ex_iload_n dX9_splitOne_77 rfl ?_
        cases h
        exact mx_reti .int dX9_splitOne_78 ⟨rfl, rfl⟩
      clear h
      refine ex_icmp_gt 59 dX9_splitOne_50 (by decide) (fun c6 => ?_) (fun c6 => ?_)
      · rw [if_pos c6] at ex7
        refine ex_sipush 257 dX9_splitOne_59 kS_257 ?_
        subst ex7
        exact Jx7
      · rw [if_neg c6] at ex7
        refine ex_sipush 256 dX9_splitOne_53 kS_256 ?_
        refine ex_goto 62 dX9_splitOne_56 (by decide) ?_
        subst ex7
        exact Jx7
  · rw [if_neg c2] at h
    refine ex_aload_n dX9_splitOne_13 rfl ?_
    refine ex_iload_n dX9_splitOne_14 rfl ?_
    obtain ⟨x10, qx10, h⟩ := b1E h
    refine mx_cVi [.int a1] [] 136 9 x10 dX9_splitOne_15 cl_X9_58 im_X9_behindLetters cy_X9_behindLetters oc_at_136 rfl (Nat.le_of_ble_eq_true rfl) (by decide) (t_X9_behindLetters l E a1 M qx10) ?_
    refine ex_istore_n (L2 := [some (.ref 136), some (.int a1), some (.int x1), some (.int x10), none]) dX9_splitOne_18 (by decide) rfl ?_
    refine ex_aload_n dX9_splitOne_19 rfl ?_
    refine ex_aload_n dX9_splitOne_20 rfl ?_
    refine ex_iload_n dX9_splitOne_21 rfl ?_
    refine ex_iload_n dX9_splitOne_22 rfl ?_
    obtain ⟨x11, qx11, h⟩ := b1E h
    refine mx_cVi [.int a1, .int x10] [.ref 136] 136 9 x11 dX9_splitOne_23 cl_X9_61 im_X9_wordBetween cy_X9_wordBetween oc_at_136 rfl (Nat.le_of_ble_eq_true rfl) (by decide) (t_X9_wordBetween l E a1 x10 M qx11) ?_
    refine ex_iconst 0 dX9_splitOne_26 kI_0 ?_
    refine ex_iload_n dX9_splitOne_27 rfl ?_
    obtain ⟨M12, qM12, h⟩ := b1E h
    refine mx_cVv [.int x11, .int 0, .int a1] [] 136 9 dX9_splitOne_28 cl_X9_51 im_X9_addToken cy_X9_addToken oc_at_136 rfl (Nat.le_of_ble_eq_true rfl) (by decide) (t_X9_addToken l E x11 0 a1 M qM12) ?_
    refine ex_iload_n dX9_splitOne_31 rfl ?_
    cases h
    exact mx_reti .int dX9_splitOne_32 ⟨rfl, rfl⟩
def w_X9_split_24 (i5 : Int32) (i6 : Int32) (M7 : Mem) : Option ((Int32 × Int32 × Mem) ⊕ (Mem)) :=
  if (400 ≤ i6 ∨ (M7 136 4) ≤ i5) then (some (.inr M7)) else (b1 (f_X9_byteAt i5 M7) fun x11 => if (f_X9_isBlank x11) = 0 then (b2 (f_X9_splitOne i5 M7) fun M13 x14 => some (.inl (x14, (i6 + 1), M13))) else (some (.inl ((i5 + 1), (i6 + 1), M7))))
def f_X9_split (M : Mem) : Option (Mem) :=
  lt (up2 M 136 5 0) fun M1 => lt (up2 M1 136 6 0) fun M2 => lt (up2 M2 136 7 0) fun M3 => lt (up2 M3 136 8 (-1)) fun M4 => b1 (lp (fun s => w_X9_split_24 s.1 s.2.1 s.2.2) FU (0, 0, M4)) fun q15 => b1 (f_X9_addToken 258 0 (q15 136 4) q15) fun M16 => lt (up2 M16 136 4 0) fun M17 => some M17
set_option maxRecDepth 100000 in
set_option maxHeartbeats 4000000 in
theorem t_X9_split (l : Launch) (E : EV) (M : Mem) {M' : Mem} (h : f_X9_split M = some M') : RunM l E yX9_split cX9_split 3 none 9 [.ref 136] M M' none := by
  refine RunM.of (by decide) (Nat.le_of_ble_eq_true rfl) ?_
  show XM l E (RX9, "split", cX9_split, 3) none 9 0 [some (.ref 136), none, none] [] M M' none
  unfold f_X9_split at h
  refine ex_aload_n dX9_split_0 rfl ?_
  refine ex_iconst 0 dX9_split_1 kI_0 ?_
  obtain ⟨M1, eM1, h⟩ := ltE h
  refine mx_puti 9 dX9_split_2 fl_X9_31 rfl ⟨rfl, rfl⟩ oc_at_136 (isi_9_5 oc_at_136) ?_
  rw [← eM1]
  refine ex_aload_n dX9_split_5 rfl ?_
  refine ex_iconst 0 dX9_split_6 kI_0 ?_
  obtain ⟨M2, eM2, h⟩ := ltE h
  refine mx_puti 9 dX9_split_7 fl_X9_34 rfl ⟨rfl, rfl⟩ oc_at_136 (isi_9_6 oc_at_136) ?_
  rw [← eM2]
  refine ex_aload_n dX9_split_10 rfl ?_
  refine ex_iconst 0 dX9_split_11 kI_0 ?_
  obtain ⟨M3, eM3, h⟩ := ltE h
  refine mx_puti 9 dX9_split_12 fl_X9_37 rfl ⟨rfl, rfl⟩ oc_at_136 (isi_9_7 oc_at_136) ?_
  rw [← eM3]
  refine ex_aload_n dX9_split_15 rfl ?_
  refine ex_iconst (-1) dX9_split_16 kI_m1 ?_
  obtain ⟨M4, eM4, h⟩ := ltE h
  refine mx_puti 9 dX9_split_17 fl_X9_24 rfl ⟨rfl, rfl⟩ oc_at_136 (isi_9_8 oc_at_136) ?_
  rw [← eM4]
  refine ex_iconst 0 dX9_split_20 kI_0 ?_
  refine ex_istore_n (L2 := [some (.ref 136), some (.int 0), none]) dX9_split_21 (by decide) rfl ?_
  refine ex_iconst 0 dX9_split_22 kI_0 ?_
  refine ex_istore_n (L2 := [some (.ref 136), some (.int 0), some (.int 0)]) dX9_split_23 (by decide) rfl ?_
  refine ex_mskL [true, true, true] (L2 := [some (.ref 136), some (.int 0), some (.int 0)]) rfl ?_
  obtain ⟨q15, hlq15, h⟩ := b1E h
  have hx : XM l E (RX9, "split", cX9_split, 3) none 9 68 [some (.ref 136), none, none] [] q15 M' none := by
    refine ex_aload_n dX9_split_68 rfl ?_
    refine ex_sipush 258 dX9_split_69 kS_258 ?_
    refine ex_iconst 0 dX9_split_72 kI_0 ?_
    refine ex_aload_n dX9_split_73 rfl ?_
    refine mx_geti 9 dX9_split_74 fl_X9_28 oc_at_136 (isi_9_4 oc_at_136) ?_
    obtain ⟨M16, qM16, h⟩ := b1E h
    refine mx_cVv [.int 258, .int 0, .int (q15 136 4)] [] 136 9 dX9_split_77 cl_X9_51 im_X9_addToken cy_X9_addToken oc_at_136 rfl (Nat.le_of_ble_eq_true rfl) (by decide) (t_X9_addToken l E 258 0 (q15 136 4) q15 qM16) ?_
    refine ex_aload_n dX9_split_80 rfl ?_
    refine ex_iconst 0 dX9_split_81 kI_0 ?_
    obtain ⟨M17, eM17, h⟩ := ltE h
    refine mx_puti 9 dX9_split_82 fl_X9_28 rfl ⟨rfl, rfl⟩ oc_at_136 (isi_9_4 oc_at_136) ?_
    rw [← eM17]
    cases h
    exact mx_retv dX9_split_85 rfl
  clear h
  have key : ∀ (k : Nat) (s : Int32 × Int32 × Mem), lp (fun s => w_X9_split_24 s.1 s.2.1 s.2.2) k s = some q15 → XM l E (RX9, "split", cX9_split, 3) none 9 24 [some (.ref 136), some (.int s.1), some (.int s.2.1)] [] s.2.2 M' none := lp_ind (P := fun (s : Int32 × Int32 × Mem) => XM l E (RX9, "split", cX9_split, 3) none 9 24 [some (.ref 136), some (.int s.1), some (.int s.2.1)] [] s.2.2 M' none) (fun s t hb hk he => by
    obtain ⟨i5, i6, M7⟩ := s
    show XM l E (RX9, "split", cX9_split, 3) none 9 24 [some (.ref 136), some (.int i5), some (.int i6)] [] M7 M' none
    change w_X9_split_24 i5 i6 M7 = some t at hb
    unfold w_X9_split_24 at hb
    refine ex_iload_n dX9_split_24 rfl ?_
    refine ex_sipush 400 dX9_split_25 kS_400 ?_
    have JXC10 : (400 ≤ i6 ∨ (M7 136 4) ≤ i5) → XM l E (RX9, "split", cX9_split, 3) none 9 68 [some (.ref 136), some (.int i5), some (.int i6)] [] M7 M' none := fun C10 => by
      rw [if_pos C10] at hb
      refine ex_mskL [true, false, false] (L2 := [some (.ref 136), none, none]) rfl ?_
      cases hb
      cases (he _ rfl) <;> exact hx
    have JYC10 : ¬ ((400 ≤ i6 ∨ (M7 136 4) ≤ i5)) → XM l E (RX9, "split", cX9_split, 3) none 9 41 [some (.ref 136), some (.int i5), some (.int i6)] [.int i5, .ref 136] M7 M' none := fun C10 => by
      rw [if_neg C10] at hb
      obtain ⟨x11, qx11, hb⟩ := b1E hb
      refine mx_cVi [.int i5] [] 136 9 x11 dX9_split_41 cl_X9_40 im_X9_byteAt cy_X9_byteAt oc_at_136 rfl (Nat.le_of_ble_eq_true rfl) (by decide) (t_X9_byteAt l E i5 M7 qx11) ?_
      refine mx_cSi [.int x11] [] (f_X9_isBlank x11) dX9_split_44 cl_X9_44 sm_X9_isBlank rfl (Nat.le_of_ble_eq_true rfl) (by decide) (t_X9_isBlank l E x11 M7 rfl) ?_
      refine ex_if_eq 56 dX9_split_47 (by decide) (fun c12 => ?_) (fun c12 => ?_)
      · rw [if_pos c12] at hb
        refine ex_aload_n dX9_split_56 rfl ?_
        refine ex_iload_n dX9_split_57 rfl ?_
        obtain ⟨M13, x14, qx14, hb⟩ := b2E hb
        refine mx_cVi [.int i5] [] 136 9 x14 dX9_split_58 cl_X9_48 im_X9_splitOne cy_X9_splitOne oc_at_136 rfl (Nat.le_of_ble_eq_true rfl) (by decide) (t_X9_splitOne l E i5 M7 qx14) ?_
        refine ex_istore_n (L2 := [some (.ref 136), some (.int x14), some (.int i6)]) dX9_split_61 (by decide) rfl ?_
        refine ex_iinc 1 (L2 := [some (.ref 136), some (.int x14), some (.int (i6 + 1))]) dX9_split_62 rfl kI_1 (by decide) rfl ?_
        refine ex_goto 24 dX9_split_65 (by decide) ?_
        refine ex_mskL [true, true, true] (L2 := [some (.ref 136), some (.int x14), some (.int (i6 + 1))]) rfl ?_
        cases hb
        exact hk (x14, (i6 + 1), M13) rfl
      · rw [if_neg c12] at hb
        refine ex_iload_n dX9_split_50 rfl ?_
        refine ex_iconst 1 dX9_split_51 kI_1 ?_
        refine ex_iadd dX9_split_52 ?_
        refine ex_goto 61 dX9_split_53 (by decide) ?_
        refine ex_istore_n (L2 := [some (.ref 136), some (.int (i5 + 1)), some (.int i6)]) dX9_split_61 (by decide) rfl ?_
        refine ex_iinc 1 (L2 := [some (.ref 136), some (.int (i5 + 1)), some (.int (i6 + 1))]) dX9_split_62 rfl kI_1 (by decide) rfl ?_
        refine ex_goto 24 dX9_split_65 (by decide) ?_
        refine ex_mskL [true, true, true] (L2 := [some (.ref 136), some (.int (i5 + 1)), some (.int (i6 + 1))]) rfl ?_
        cases hb
        exact hk ((i5 + 1), (i6 + 1), M7) rfl
    clear hb
    refine ex_icmp_ge 68 dX9_split_28 (by decide) (fun c8 => ?_) (fun c8 => ?_)
    · exact JXC10 (Or.inl c8)
    · refine ex_iload_n dX9_split_31 rfl ?_
      refine ex_aload_n dX9_split_32 rfl ?_
      refine mx_geti 9 dX9_split_33 fl_X9_28 oc_at_136 (isi_9_4 oc_at_136) ?_
      refine ex_icmp_ge 68 dX9_split_36 (by decide) (fun c9 => ?_) (fun c9 => ?_)
      · exact JXC10 (Or.inr c9)
      · refine ex_aload_n dX9_split_39 rfl ?_
        refine ex_iload_n dX9_split_40 rfl ?_
        exact JYC10 (fun z => z.elim c8 c9))
  exact key FU (0, 0, M4) hlq15
def f_X10_state (a1 : Int32) (M : Mem) : (Mem × Int32) :=
  lt (up2 M 1 9 a1) fun M1 => lt (f_X7_forget M1) fun M2 => (M2, (M 1 9))
set_option maxRecDepth 100000 in
set_option maxHeartbeats 4000000 in
theorem t_X10_state (l : Launch) (E : EV) (a1 : Int32) (M : Mem) {M' : Mem} {r : Int32} (h : f_X10_state a1 M = (M', r)) : RunM l E yX10_state cX10_state 3 (some .int) 1 [.ref 0, .int a1] M M' (some (.int r)) := by
  refine RunM.of (by decide) (Nat.le_of_ble_eq_true rfl) ?_
  show XM l E (RX10, "state", cX10_state, 3) (some .int) 1 0 [some (.ref 0), some (.int a1), none] [] M M' (some (.int r))
  unfold f_X10_state at h
  refine ex_aload_n dX10_state_0 rfl ?_
  refine mx_getr 10 1 dX10_state_1 fl_X10_12 oc_at_0 (rf_10_0 oc_at_0) ?_
  refine mx_geti 6 dX10_state_4 fl_X10_73 (oc_10_0 oc_at_0) (isi_6_9 (oc_10_0 oc_at_0)) ?_
  refine ex_istore_n (L2 := [some (.ref 0), some (.int a1), some (.int (M 1 9))]) dX10_state_7 (by decide) rfl ?_
  refine ex_aload_n dX10_state_8 rfl ?_
  refine mx_getr 10 1 dX10_state_9 fl_X10_12 oc_at_0 (rf_10_0 oc_at_0) ?_
  refine ex_iload_n dX10_state_12 rfl ?_
  obtain ⟨M1, eM1, h⟩ := ltE h
  refine mx_puti 6 dX10_state_13 fl_X10_73 rfl ⟨rfl, rfl⟩ (oc_10_0 oc_at_0) (isi_6_9 (oc_10_0 oc_at_0)) ?_
  rw [← eM1]
  refine ex_aload_n dX10_state_16 rfl ?_
  refine mx_getr 10 115 dX10_state_17 fl_X10_35 oc_at_0 (rf_10_5 oc_at_0) ?_
  obtain ⟨M2, eM2, h⟩ := ltE h
  refine mx_cVv [] [] 115 7 dX10_state_20 cl_X10_77 im_X7_forget cy_X7_forget (oc_10_5 oc_at_0) rfl (Nat.le_of_ble_eq_true rfl) (by decide) (t_X7_forget l E M1 eM2.symm) ?_
  refine ex_iload_n dX10_state_23 rfl ?_
  cases h
  exact mx_reti .int dX10_state_24 ⟨rfl, rfl⟩
def f_X10_set (a1 : Int32) (a2 : Int32) (M : Mem) : (Mem × Int32) :=
  if (¬ (a1 = 0) ∨ (f_X10_within a2 (-9999) 9999) = 0) then (if (¬ (a1 = 1) ∨ (f_X10_within a2 0 1000) = 0) then (if (¬ (a1 = 2) ∨ (f_X10_within a2 0 1000) = 0) then ((M, 0)) else (lt (up2 M 1 14 a2) fun M10 => lt (f_X7_forget M10) fun M11 => (M11, 1))) else (lt (up2 M 1 13 a2) fun M12 => lt (f_X7_forget M12) fun M13 => (M13, 1))) else (lt (up2 M 1 11 a2) fun M14 => lt (f_X7_forget M14) fun M15 => (M15, 1))
set_option maxRecDepth 100000 in
set_option maxHeartbeats 4000000 in
theorem t_X10_set (l : Launch) (E : EV) (a1 : Int32) (a2 : Int32) (M : Mem) {M' : Mem} {r : Int32} (h : f_X10_set a1 a2 M = (M', r)) : RunM l E yX10_set cX10_set 3 (some .boolean) 1 [.ref 0, .int a1, .int a2] M M' (some (.int r)) := by
  refine RunM.of (by decide) (Nat.le_of_ble_eq_true rfl) ?_
  show XM l E (RX10, "set", cX10_set, 3) (some .boolean) 1 0 [some (.ref 0), some (.int a1), some (.int a2)] [] M M' (some (.int r))
  unfold f_X10_set at h
  refine ex_iload_n dX10_set_0 rfl ?_
  have JXC3 : (¬ (a1 = 0) ∨ (f_X10_within a2 (-9999) 9999) = 0) → XM l E (RX10, "set", cX10_set, 3) (some .boolean) 1 28 [some (.ref 0), some (.int a1), some (.int a2)] [] M M' (some (.int r)) := fun C3 => by
    rw [if_pos C3] at h
    refine ex_iload_n dX10_set_28 rfl ?_
    refine ex_iconst 1 dX10_set_29 kI_1 ?_
    have JXC6 : (¬ (a1 = 1) ∨ (f_X10_within a2 0 1000) = 0) → XM l E (RX10, "set", cX10_set, 3) (some .boolean) 1 55 [some (.ref 0), some (.int a1), some (.int a2)] [] M M' (some (.int r)) := fun C6 => by
      rw [if_pos C6] at h
      refine ex_iload_n dX10_set_55 rfl ?_
      refine ex_iconst 2 dX10_set_56 kI_2 ?_
      have JXC9 : (¬ (a1 = 2) ∨ (f_X10_within a2 0 1000) = 0) → XM l E (RX10, "set", cX10_set, 3) (some .boolean) 1 82 [some (.ref 0), some (.int a1), some (.int a2)] [] M M' (some (.int r)) := fun C9 => by
        rw [if_pos C9] at h
        refine ex_iconst 0 dX10_set_82 kI_0 ?_
        cases h
        exact mx_reti .boolean dX10_set_83 ⟨rfl, by decide⟩
      have JYC9 : ¬ ((¬ (a1 = 2) ∨ (f_X10_within a2 0 1000) = 0)) → XM l E (RX10, "set", cX10_set, 3) (some .boolean) 1 76 [some (.ref 0), some (.int a1), some (.int a2)] [.int a2, .ref 1] M M' (some (.int r)) := fun C9 => by
        rw [if_neg C9] at h
        obtain ⟨M10, eM10, h⟩ := ltE h
        refine mx_puti 6 dX10_set_76 fl_X10_90 rfl ⟨rfl, rfl⟩ (oc_10_0 oc_at_0) (isi_6_14 (oc_10_0 oc_at_0)) ?_
        rw [← eM10]
        refine ex_goto 84 dX10_set_79 (by decide) ?_
        refine ex_aload_n dX10_set_84 rfl ?_
        refine mx_getr 10 115 dX10_set_85 fl_X10_35 oc_at_0 (rf_10_5 oc_at_0) ?_
        obtain ⟨M11, eM11, h⟩ := ltE h
        refine mx_cVv [] [] 115 7 dX10_set_88 cl_X10_77 im_X7_forget cy_X7_forget (oc_10_5 oc_at_0) rfl (Nat.le_of_ble_eq_true rfl) (by decide) (t_X7_forget l E M10 eM11.symm) ?_
        refine ex_iconst 1 dX10_set_91 kI_1 ?_
        cases h
        exact mx_reti .boolean dX10_set_92 ⟨rfl, by decide⟩
      clear h
      refine ex_icmp_ne 82 dX10_set_57 (by decide) (fun c7 => ?_) (fun c7 => ?_)
      · exact JXC9 (Or.inl c7)
      · refine ex_iload_n dX10_set_60 rfl ?_
        refine ex_iconst 0 dX10_set_61 kI_0 ?_
        refine ex_sipush 1000 dX10_set_62 kS_1000 ?_
        refine mx_cSi [.int a2, .int 0, .int 1000] [] (f_X10_within a2 0 1000) dX10_set_65 cl_X10_80 sm_X10_within rfl (Nat.le_of_ble_eq_true rfl) (by decide) (t_X10_within l E a2 0 1000 M rfl) ?_
        refine ex_if_eq 82 dX10_set_68 (by decide) (fun c8 => ?_) (fun c8 => ?_)
        · exact JXC9 (Or.inr c8)
        · refine ex_aload_n dX10_set_71 rfl ?_
          refine mx_getr 10 1 dX10_set_72 fl_X10_12 oc_at_0 (rf_10_0 oc_at_0) ?_
          refine ex_iload_n dX10_set_75 rfl ?_
          exact JYC9 (fun z => z.elim (fun y => y c7) c8)
    have JYC6 : ¬ ((¬ (a1 = 1) ∨ (f_X10_within a2 0 1000) = 0)) → XM l E (RX10, "set", cX10_set, 3) (some .boolean) 1 49 [some (.ref 0), some (.int a1), some (.int a2)] [.int a2, .ref 1] M M' (some (.int r)) := fun C6 => by
      rw [if_neg C6] at h
      obtain ⟨M12, eM12, h⟩ := ltE h
      refine mx_puti 6 dX10_set_49 fl_X10_87 rfl ⟨rfl, rfl⟩ (oc_10_0 oc_at_0) (isi_6_13 (oc_10_0 oc_at_0)) ?_
      rw [← eM12]
      refine ex_goto 84 dX10_set_52 (by decide) ?_
      refine ex_aload_n dX10_set_84 rfl ?_
      refine mx_getr 10 115 dX10_set_85 fl_X10_35 oc_at_0 (rf_10_5 oc_at_0) ?_
      obtain ⟨M13, eM13, h⟩ := ltE h
      refine mx_cVv [] [] 115 7 dX10_set_88 cl_X10_77 im_X7_forget cy_X7_forget (oc_10_5 oc_at_0) rfl (Nat.le_of_ble_eq_true rfl) (by decide) (t_X7_forget l E M12 eM13.symm) ?_
      refine ex_iconst 1 dX10_set_91 kI_1 ?_
      cases h
      exact mx_reti .boolean dX10_set_92 ⟨rfl, by decide⟩
    clear h
    refine ex_icmp_ne 55 dX10_set_30 (by decide) (fun c4 => ?_) (fun c4 => ?_)
    · exact JXC6 (Or.inl c4)
    · refine ex_iload_n dX10_set_33 rfl ?_
      refine ex_iconst 0 dX10_set_34 kI_0 ?_
      refine ex_sipush 1000 dX10_set_35 kS_1000 ?_
      refine mx_cSi [.int a2, .int 0, .int 1000] [] (f_X10_within a2 0 1000) dX10_set_38 cl_X10_80 sm_X10_within rfl (Nat.le_of_ble_eq_true rfl) (by decide) (t_X10_within l E a2 0 1000 M rfl) ?_
      refine ex_if_eq 55 dX10_set_41 (by decide) (fun c5 => ?_) (fun c5 => ?_)
      · exact JXC6 (Or.inr c5)
      · refine ex_aload_n dX10_set_44 rfl ?_
        refine mx_getr 10 1 dX10_set_45 fl_X10_12 oc_at_0 (rf_10_0 oc_at_0) ?_
        refine ex_iload_n dX10_set_48 rfl ?_
        exact JYC6 (fun z => z.elim (fun y => y c4) c5)
  have JYC3 : ¬ ((¬ (a1 = 0) ∨ (f_X10_within a2 (-9999) 9999) = 0)) → XM l E (RX10, "set", cX10_set, 3) (some .boolean) 1 22 [some (.ref 0), some (.int a1), some (.int a2)] [.int a2, .ref 1] M M' (some (.int r)) := fun C3 => by
    rw [if_neg C3] at h
    obtain ⟨M14, eM14, h⟩ := ltE h
    refine mx_puti 6 dX10_set_22 fl_X10_84 rfl ⟨rfl, rfl⟩ (oc_10_0 oc_at_0) (isi_6_11 (oc_10_0 oc_at_0)) ?_
    rw [← eM14]
    refine ex_goto 84 dX10_set_25 (by decide) ?_
    refine ex_aload_n dX10_set_84 rfl ?_
    refine mx_getr 10 115 dX10_set_85 fl_X10_35 oc_at_0 (rf_10_5 oc_at_0) ?_
    obtain ⟨M15, eM15, h⟩ := ltE h
    refine mx_cVv [] [] 115 7 dX10_set_88 cl_X10_77 im_X7_forget cy_X7_forget (oc_10_5 oc_at_0) rfl (Nat.le_of_ble_eq_true rfl) (by decide) (t_X7_forget l E M14 eM15.symm) ?_
    refine ex_iconst 1 dX10_set_91 kI_1 ?_
    cases h
    exact mx_reti .boolean dX10_set_92 ⟨rfl, by decide⟩
  clear h
  refine ex_if_ne 28 dX10_set_1 (by decide) (fun c1 => ?_) (fun c1 => ?_)
  · exact JXC3 (Or.inl c1)
  · refine ex_iload_n dX10_set_4 rfl ?_
    refine ex_sipush (-9999) dX10_set_5 kS_m9999 ?_
    refine ex_sipush 9999 dX10_set_8 kS_9999 ?_
    refine mx_cSi [.int a2, .int (-9999), .int 9999] [] (f_X10_within a2 (-9999) 9999) dX10_set_11 cl_X10_80 sm_X10_within rfl (Nat.le_of_ble_eq_true rfl) (by decide) (t_X10_within l E a2 (-9999) 9999 M rfl) ?_
    refine ex_if_eq 28 dX10_set_14 (by decide) (fun c2 => ?_) (fun c2 => ?_)
    · exact JXC3 (Or.inr c2)
    · refine ex_aload_n dX10_set_17 rfl ?_
      refine mx_getr 10 1 dX10_set_18 fl_X10_12 oc_at_0 (rf_10_0 oc_at_0) ?_
      refine ex_iload_n dX10_set_21 rfl ?_
      exact JYC3 (fun z => z.elim (fun y => y c1) c2)
def f_X10_feast (a1 : Int32) (a2 : Int32) (M : Mem) : Option (Mem × Int32) :=
  if (f_X6_feastCanBe 1 a1 a2 M) = 0 then (some (M, (-1))) else (b1 (f_X7_keep 1 M) fun M2 => b2 (f_X6_holdFeast 1 a1 a2 M2) fun M3 x4 => some (M3, x4))
set_option maxRecDepth 100000 in
set_option maxHeartbeats 4000000 in
theorem t_X10_feast (l : Launch) (E : EV) (a1 : Int32) (a2 : Int32) (M : Mem) {M' : Mem} {r : Int32} (h : f_X10_feast a1 a2 M = some (M', r)) : RunM l E yX10_feast cX10_feast 3 (some .int) 5 [.ref 0, .int a1, .int a2] M M' (some (.int r)) := by
  refine RunM.of (by decide) (Nat.le_of_ble_eq_true rfl) ?_
  show XM l E (RX10, "feast", cX10_feast, 3) (some .int) 5 0 [some (.ref 0), some (.int a1), some (.int a2)] [] M M' (some (.int r))
  unfold f_X10_feast at h
  refine ex_aload_n dX10_feast_0 rfl ?_
  refine mx_getr 10 1 dX10_feast_1 fl_X10_12 oc_at_0 (rf_10_0 oc_at_0) ?_
  refine ex_iload_n dX10_feast_4 rfl ?_
  refine ex_iload_n dX10_feast_5 rfl ?_
  refine mx_cVi [.int a1, .int a2] [] 1 6 (f_X6_feastCanBe 1 a1 a2 M) dX10_feast_6 cl_X10_93 im_X6_feastCanBe cy_X6_feastCanBe (oc_10_0 oc_at_0) rfl (Nat.le_of_ble_eq_true rfl) (by decide) (t_X6_feastCanBe l E 1 a1 a2 (oc_10_0 oc_at_0) M rfl) ?_
  refine ex_if_ne 14 dX10_feast_9 (by decide) (fun c1 => ?_) (fun c1 => ?_)
  · rw [if_neg c1] at h
    refine ex_aload_n dX10_feast_14 rfl ?_
    refine mx_getr 10 115 dX10_feast_15 fl_X10_35 oc_at_0 (rf_10_5 oc_at_0) ?_
    refine ex_aload_n dX10_feast_18 rfl ?_
    refine mx_getr 10 1 dX10_feast_19 fl_X10_12 oc_at_0 (rf_10_0 oc_at_0) ?_
    obtain ⟨M2, qM2, h⟩ := b1E h
    refine mx_cVv [.ref 1] [] 115 7 dX10_feast_22 cl_X10_97 im_X7_keep cy_X7_keep (oc_10_5 oc_at_0) rfl (Nat.le_of_ble_eq_true rfl) (by decide) (t_X7_keep l E 1 (oc_10_0 oc_at_0) M qM2) ?_
    refine ex_aload_n dX10_feast_25 rfl ?_
    refine mx_getr 10 1 dX10_feast_26 fl_X10_12 oc_at_0 (rf_10_0 oc_at_0) ?_
    refine ex_iload_n dX10_feast_29 rfl ?_
    refine ex_iload_n dX10_feast_30 rfl ?_
    obtain ⟨M3, x4, qx4, h⟩ := b2E h
    refine mx_cVi [.int a1, .int a2] [] 1 6 x4 dX10_feast_31 cl_X10_101 im_X6_holdFeast cy_X6_holdFeast (oc_10_0 oc_at_0) rfl (Nat.le_of_ble_eq_true rfl) (by decide) (t_X6_holdFeast l E 1 a1 a2 (oc_10_0 oc_at_0) M2 qx4) ?_
    cases h
    exact mx_reti .int dX10_feast_34 ⟨rfl, rfl⟩
  · rw [if_pos c1] at h
    refine ex_iconst (-1) dX10_feast_12 kI_m1 ?_
    cases h
    exact mx_reti .int dX10_feast_13 ⟨rfl, rfl⟩
def f_X10_forge (a1 : Int32) (a2 : Int32) (M : Mem) : Option (Mem × Int32) :=
  b1 (f_X6_forgingCanBe 1 a1 a2 M) fun x1 => if x1 = 0 then (some (M, (-1))) else (b1 (f_X7_keep 1 M) fun M3 => b2 (f_X6_forgeOne 1 a1 a2 M3) fun M4 x5 => some (M4, x5))
set_option maxRecDepth 100000 in
set_option maxHeartbeats 4000000 in
theorem t_X10_forge (l : Launch) (E : EV) (a1 : Int32) (a2 : Int32) (M : Mem) {M' : Mem} {r : Int32} (h : f_X10_forge a1 a2 M = some (M', r)) : RunM l E yX10_forge cX10_forge 3 (some .int) 5 [.ref 0, .int a1, .int a2] M M' (some (.int r)) := by
  refine RunM.of (by decide) (Nat.le_of_ble_eq_true rfl) ?_
  show XM l E (RX10, "forge", cX10_forge, 3) (some .int) 5 0 [some (.ref 0), some (.int a1), some (.int a2)] [] M M' (some (.int r))
  unfold f_X10_forge at h
  refine ex_aload_n dX10_forge_0 rfl ?_
  refine mx_getr 10 1 dX10_forge_1 fl_X10_12 oc_at_0 (rf_10_0 oc_at_0) ?_
  refine ex_iload_n dX10_forge_4 rfl ?_
  refine ex_iload_n dX10_forge_5 rfl ?_
  obtain ⟨x1, qx1, h⟩ := b1E h
  refine mx_cVi [.int a1, .int a2] [] 1 6 x1 dX10_forge_6 cl_X10_105 im_X6_forgingCanBe cy_X6_forgingCanBe (oc_10_0 oc_at_0) rfl (Nat.le_of_ble_eq_true rfl) (by decide) (t_X6_forgingCanBe l E 1 a1 a2 (oc_10_0 oc_at_0) M qx1) ?_
  refine ex_if_ne 14 dX10_forge_9 (by decide) (fun c2 => ?_) (fun c2 => ?_)
  · rw [if_neg c2] at h
    refine ex_aload_n dX10_forge_14 rfl ?_
    refine mx_getr 10 115 dX10_forge_15 fl_X10_35 oc_at_0 (rf_10_5 oc_at_0) ?_
    refine ex_aload_n dX10_forge_18 rfl ?_
    refine mx_getr 10 1 dX10_forge_19 fl_X10_12 oc_at_0 (rf_10_0 oc_at_0) ?_
    obtain ⟨M3, qM3, h⟩ := b1E h
    refine mx_cVv [.ref 1] [] 115 7 dX10_forge_22 cl_X10_97 im_X7_keep cy_X7_keep (oc_10_5 oc_at_0) rfl (Nat.le_of_ble_eq_true rfl) (by decide) (t_X7_keep l E 1 (oc_10_0 oc_at_0) M qM3) ?_
    refine ex_aload_n dX10_forge_25 rfl ?_
    refine mx_getr 10 1 dX10_forge_26 fl_X10_12 oc_at_0 (rf_10_0 oc_at_0) ?_
    refine ex_iload_n dX10_forge_29 rfl ?_
    refine ex_iload_n dX10_forge_30 rfl ?_
    obtain ⟨M4, x5, qx5, h⟩ := b2E h
    refine mx_cVi [.int a1, .int a2] [] 1 6 x5 dX10_forge_31 cl_X10_108 im_X6_forgeOne cy_X6_forgeOne (oc_10_0 oc_at_0) rfl (Nat.le_of_ble_eq_true rfl) (by decide) (t_X6_forgeOne l E 1 a1 a2 (oc_10_0 oc_at_0) M3 qx5) ?_
    cases h
    exact mx_reti .int dX10_forge_34 ⟨rfl, rfl⟩
  · rw [if_pos c2] at h
    refine ex_iconst (-1) dX10_forge_12 kI_m1 ?_
    cases h
    exact mx_reti .int dX10_forge_13 ⟨rfl, rfl⟩
def f_X10_cut (a1 : Int32) (a2 : Int32) (M : Mem) : Option (Mem × Int32) :=
  b1 (f_X6_cutCanBe 1 a1 a2 M) fun x1 => if x1 = 0 then (some (M, (-1))) else (b1 (f_X7_keep 1 M) fun M3 => b2 (f_X6_cutOne 1 a1 a2 M3) fun M4 x5 => some (M4, x5))
set_option maxRecDepth 100000 in
set_option maxHeartbeats 4000000 in
theorem t_X10_cut (l : Launch) (E : EV) (a1 : Int32) (a2 : Int32) (M : Mem) {M' : Mem} {r : Int32} (h : f_X10_cut a1 a2 M = some (M', r)) : RunM l E yX10_cut cX10_cut 3 (some .int) 5 [.ref 0, .int a1, .int a2] M M' (some (.int r)) := by
  refine RunM.of (by decide) (Nat.le_of_ble_eq_true rfl) ?_
  show XM l E (RX10, "cut", cX10_cut, 3) (some .int) 5 0 [some (.ref 0), some (.int a1), some (.int a2)] [] M M' (some (.int r))
  unfold f_X10_cut at h
  refine ex_aload_n dX10_cut_0 rfl ?_
  refine mx_getr 10 1 dX10_cut_1 fl_X10_12 oc_at_0 (rf_10_0 oc_at_0) ?_
  refine ex_iload_n dX10_cut_4 rfl ?_
  refine ex_iload_n dX10_cut_5 rfl ?_
  obtain ⟨x1, qx1, h⟩ := b1E h
  refine mx_cVi [.int a1, .int a2] [] 1 6 x1 dX10_cut_6 cl_X10_111 im_X6_cutCanBe cy_X6_cutCanBe (oc_10_0 oc_at_0) rfl (Nat.le_of_ble_eq_true rfl) (by decide) (t_X6_cutCanBe l E 1 a1 a2 (oc_10_0 oc_at_0) M qx1) ?_
  refine ex_if_ne 14 dX10_cut_9 (by decide) (fun c2 => ?_) (fun c2 => ?_)
  · rw [if_neg c2] at h
    refine ex_aload_n dX10_cut_14 rfl ?_
    refine mx_getr 10 115 dX10_cut_15 fl_X10_35 oc_at_0 (rf_10_5 oc_at_0) ?_
    refine ex_aload_n dX10_cut_18 rfl ?_
    refine mx_getr 10 1 dX10_cut_19 fl_X10_12 oc_at_0 (rf_10_0 oc_at_0) ?_
    obtain ⟨M3, qM3, h⟩ := b1E h
    refine mx_cVv [.ref 1] [] 115 7 dX10_cut_22 cl_X10_97 im_X7_keep cy_X7_keep (oc_10_5 oc_at_0) rfl (Nat.le_of_ble_eq_true rfl) (by decide) (t_X7_keep l E 1 (oc_10_0 oc_at_0) M qM3) ?_
    refine ex_aload_n dX10_cut_25 rfl ?_
    refine mx_getr 10 1 dX10_cut_26 fl_X10_12 oc_at_0 (rf_10_0 oc_at_0) ?_
    refine ex_iload_n dX10_cut_29 rfl ?_
    refine ex_iload_n dX10_cut_30 rfl ?_
    obtain ⟨M4, x5, qx5, h⟩ := b2E h
    refine mx_cVi [.int a1, .int a2] [] 1 6 x5 dX10_cut_31 cl_X10_114 im_X6_cutOne cy_X6_cutOne (oc_10_0 oc_at_0) rfl (Nat.le_of_ble_eq_true rfl) (by decide) (t_X6_cutOne l E 1 a1 a2 (oc_10_0 oc_at_0) M3 qx5) ?_
    cases h
    exact mx_reti .int dX10_cut_34 ⟨rfl, rfl⟩
  · rw [if_pos c2] at h
    refine ex_iconst (-1) dX10_cut_12 kI_m1 ?_
    cases h
    exact mx_reti .int dX10_cut_13 ⟨rfl, rfl⟩
def f_X10_join (a1 : Int32) (a2 : Int32) (M : Mem) : Option (Mem × Int32) :=
  b1 (f_X6_joiningCanBe 1 a1 a2 M) fun x1 => if x1 = 0 then (some (M, (-1))) else (b1 (f_X7_keep 1 M) fun M3 => b2 (f_X6_joinTwo 1 a1 a2 M3) fun M4 x5 => some (M4, x5))
set_option maxRecDepth 100000 in
set_option maxHeartbeats 4000000 in
theorem t_X10_join (l : Launch) (E : EV) (a1 : Int32) (a2 : Int32) (M : Mem) {M' : Mem} {r : Int32} (h : f_X10_join a1 a2 M = some (M', r)) : RunM l E yX10_join cX10_join 3 (some .int) 5 [.ref 0, .int a1, .int a2] M M' (some (.int r)) := by
  refine RunM.of (by decide) (Nat.le_of_ble_eq_true rfl) ?_
  show XM l E (RX10, "join", cX10_join, 3) (some .int) 5 0 [some (.ref 0), some (.int a1), some (.int a2)] [] M M' (some (.int r))
  unfold f_X10_join at h
  refine ex_aload_n dX10_join_0 rfl ?_
  refine mx_getr 10 1 dX10_join_1 fl_X10_12 oc_at_0 (rf_10_0 oc_at_0) ?_
  refine ex_iload_n dX10_join_4 rfl ?_
  refine ex_iload_n dX10_join_5 rfl ?_
  obtain ⟨x1, qx1, h⟩ := b1E h
  refine mx_cVi [.int a1, .int a2] [] 1 6 x1 dX10_join_6 cl_X10_117 im_X6_joiningCanBe cy_X6_joiningCanBe (oc_10_0 oc_at_0) rfl (Nat.le_of_ble_eq_true rfl) (by decide) (t_X6_joiningCanBe l E 1 a1 a2 (oc_10_0 oc_at_0) M qx1) ?_
  refine ex_if_ne 14 dX10_join_9 (by decide) (fun c2 => ?_) (fun c2 => ?_)
  · rw [if_neg c2] at h
    refine ex_aload_n dX10_join_14 rfl ?_
    refine mx_getr 10 115 dX10_join_15 fl_X10_35 oc_at_0 (rf_10_5 oc_at_0) ?_
    refine ex_aload_n dX10_join_18 rfl ?_
    refine mx_getr 10 1 dX10_join_19 fl_X10_12 oc_at_0 (rf_10_0 oc_at_0) ?_
    obtain ⟨M3, qM3, h⟩ := b1E h
    refine mx_cVv [.ref 1] [] 115 7 dX10_join_22 cl_X10_97 im_X7_keep cy_X7_keep (oc_10_5 oc_at_0) rfl (Nat.le_of_ble_eq_true rfl) (by decide) (t_X7_keep l E 1 (oc_10_0 oc_at_0) M qM3) ?_
    refine ex_aload_n dX10_join_25 rfl ?_
    refine mx_getr 10 1 dX10_join_26 fl_X10_12 oc_at_0 (rf_10_0 oc_at_0) ?_
    refine ex_iload_n dX10_join_29 rfl ?_
    refine ex_iload_n dX10_join_30 rfl ?_
    obtain ⟨M4, x5, qx5, h⟩ := b2E h
    refine mx_cVi [.int a1, .int a2] [] 1 6 x5 dX10_join_31 cl_X10_120 im_X6_joinTwo cy_X6_joinTwo (oc_10_0 oc_at_0) rfl (Nat.le_of_ble_eq_true rfl) (by decide) (t_X6_joinTwo l E 1 a1 a2 (oc_10_0 oc_at_0) M3 qx5) ?_
    cases h
    exact mx_reti .int dX10_join_34 ⟨rfl, rfl⟩
  · rw [if_pos c2] at h
    refine ex_iconst (-1) dX10_join_12 kI_m1 ?_
    cases h
    exact mx_reti .int dX10_join_13 ⟨rfl, rfl⟩
def f_X10_sell (a1 : Int32) (M : Mem) : Option (Mem × Int32) :=
  if (f_X8_has (1 + 9) a1 M) = 0 then (some (M, (-1))) else (b1 (f_X7_keep 1 M) fun M2 => b2 (f_X6_sellOne 1 a1 M2) fun M3 x4 => some (M3, x4))
set_option maxRecDepth 100000 in
set_option maxHeartbeats 4000000 in
theorem t_X10_sell (l : Launch) (E : EV) (a1 : Int32) (M : Mem) {M' : Mem} {r : Int32} (h : f_X10_sell a1 M = some (M', r)) : RunM l E yX10_sell cX10_sell 2 (some .int) 6 [.ref 0, .int a1] M M' (some (.int r)) := by
  refine RunM.of (by decide) (Nat.le_of_ble_eq_true rfl) ?_
  show XM l E (RX10, "sell", cX10_sell, 2) (some .int) 6 0 [some (.ref 0), some (.int a1)] [] M M' (some (.int r))
  unfold f_X10_sell at h
  refine ex_aload_n dX10_sell_0 rfl ?_
  refine mx_getr 10 1 dX10_sell_1 fl_X10_12 oc_at_0 (rf_10_0 oc_at_0) ?_
  refine mx_getr 6 (1 + 9) dX10_sell_4 fl_X10_123 (oc_10_0 oc_at_0) (rf_6_4 (oc_10_0 oc_at_0)) ?_
  refine ex_iload_n dX10_sell_7 rfl ?_
  refine mx_cVi [.int a1] [] (1 + 9) 8 (f_X8_has (1 + 9) a1 M) dX10_sell_8 cl_X10_127 im_X8_has cy_X8_has (oc_6_4 (oc_10_0 oc_at_0)) rfl (Nat.le_of_ble_eq_true rfl) (by decide) (t_X8_has l E (1 + 9) a1 (oc_6_4 (oc_10_0 oc_at_0)) M rfl) ?_
  refine ex_if_ne 16 dX10_sell_11 (by decide) (fun c1 => ?_) (fun c1 => ?_)
  · rw [if_neg c1] at h
    refine ex_aload_n dX10_sell_16 rfl ?_
    refine mx_getr 10 115 dX10_sell_17 fl_X10_35 oc_at_0 (rf_10_5 oc_at_0) ?_
    refine ex_aload_n dX10_sell_20 rfl ?_
    refine mx_getr 10 1 dX10_sell_21 fl_X10_12 oc_at_0 (rf_10_0 oc_at_0) ?_
    obtain ⟨M2, qM2, h⟩ := b1E h
    refine mx_cVv [.ref 1] [] 115 7 dX10_sell_24 cl_X10_97 im_X7_keep cy_X7_keep (oc_10_5 oc_at_0) rfl (Nat.le_of_ble_eq_true rfl) (by decide) (t_X7_keep l E 1 (oc_10_0 oc_at_0) M qM2) ?_
    refine ex_aload_n dX10_sell_27 rfl ?_
    refine mx_getr 10 1 dX10_sell_28 fl_X10_12 oc_at_0 (rf_10_0 oc_at_0) ?_
    refine ex_iload_n dX10_sell_31 rfl ?_
    obtain ⟨M3, x4, qx4, h⟩ := b2E h
    refine mx_cVi [.int a1] [] 1 6 x4 dX10_sell_32 cl_X10_133 im_X6_sellOne cy_X6_sellOne (oc_10_0 oc_at_0) rfl (Nat.le_of_ble_eq_true rfl) (by decide) (t_X6_sellOne l E 1 a1 (oc_10_0 oc_at_0) M2 qx4) ?_
    cases h
    exact mx_reti .int dX10_sell_35 ⟨rfl, rfl⟩
  · rw [if_pos c1] at h
    refine ex_iconst (-1) dX10_sell_14 kI_m1 ?_
    cases h
    exact mx_reti .int dX10_sell_15 ⟨rfl, rfl⟩
def w_X10_days_31 (a1 : Int32) (i4 : Int32) (i5 : Int32) (M6 : Mem) : Option ((Int32 × Int32 × Mem) ⊕ (Int32 × Mem)) :=
  if a1 ≤ i5 then (some (.inr (i4, M6))) else (b1 (f_X7_keep 1 M6) fun M8 => b2 (f_X6_beginDay 1 M8) fun M9 x10 => b1 (f_X6_endDay 1 0 M9) fun M11 => some (.inl ((i4 + x10), (i5 + 1), M11)))
def f_X10_days (a1 : Int32) (M : Mem) : Option (Mem × Int32) :=
  if ((f_X10_within a1 1 60) = 0 ∨ ¬ ((M 1 10) ≤ (9999 - a1))) then (some (M, (-1))) else (b1 (lp (fun s => w_X10_days_31 a1 s.1 s.2.1 s.2.2) FU (0, 0, M)) fun q12 => some (q12.2, q12.1))
set_option maxRecDepth 100000 in
set_option maxHeartbeats 4000000 in
theorem t_X10_days (l : Launch) (E : EV) (a1 : Int32) (M : Mem) {M' : Mem} {r : Int32} (h : f_X10_days a1 M = some (M', r)) : RunM l E yX10_days cX10_days 4 (some .int) 44 [.ref 0, .int a1] M M' (some (.int r)) := by
  refine RunM.of (by decide) (Nat.le_of_ble_eq_true rfl) ?_
  show XM l E (RX10, "days", cX10_days, 4) (some .int) 44 0 [some (.ref 0), some (.int a1), none, none] [] M M' (some (.int r))
  unfold f_X10_days at h
  refine ex_iload_n dX10_days_0 rfl ?_
  refine ex_iconst 1 dX10_days_1 kI_1 ?_
  refine ex_bipush 60 dX10_days_2 kB_60 ?_
  refine mx_cSi [.int a1, .int 1, .int 60] [] (f_X10_within a1 1 60) dX10_days_4 cl_X10_80 sm_X10_within rfl (Nat.le_of_ble_eq_true rfl) (by decide) (t_X10_within l E a1 1 60 M rfl) ?_
  have JXC3 : ((f_X10_within a1 1 60) = 0 ∨ ¬ ((M 1 10) ≤ (9999 - a1))) → XM l E (RX10, "days", cX10_days, 4) (some .int) 44 25 [some (.ref 0), some (.int a1), none, none] [] M M' (some (.int r)) := fun C3 => by
    rw [if_pos C3] at h
    refine ex_iconst (-1) dX10_days_25 kI_m1 ?_
    cases h
    exact mx_reti .int dX10_days_26 ⟨rfl, rfl⟩
  have JYC3 : ¬ (((f_X10_within a1 1 60) = 0 ∨ ¬ ((M 1 10) ≤ (9999 - a1)))) → XM l E (RX10, "days", cX10_days, 4) (some .int) 44 28 [some (.ref 0), some (.int a1), none, none] [.int 0] M M' (some (.int r)) := fun C3 => by
    rw [if_neg C3] at h
    refine ex_istore_n (L2 := [some (.ref 0), some (.int a1), some (.int 0), none]) dX10_days_28 (by decide) rfl ?_
    refine ex_iconst 0 dX10_days_29 kI_0 ?_
    refine ex_istore_n (L2 := [some (.ref 0), some (.int a1), some (.int 0), some (.int 0)]) dX10_days_30 (by decide) rfl ?_
    refine ex_mskL [true, true, true, true] (L2 := [some (.ref 0), some (.int a1), some (.int 0), some (.int 0)]) rfl ?_
    obtain ⟨q12, hlq12, h⟩ := b1E h
    obtain ⟨y13, M14⟩ := q12
    dsimp only at h
    have hx : XM l E (RX10, "days", cX10_days, 4) (some .int) 44 71 [none, none, some (.int y13), none] [] M14 M' (some (.int r)) := by
      refine ex_iload_n dX10_days_71 rfl ?_
      cases h
      exact mx_reti .int dX10_days_72 ⟨rfl, rfl⟩
    clear h
    have key : ∀ (k : Nat) (s : Int32 × Int32 × Mem), lp (fun s => w_X10_days_31 a1 s.1 s.2.1 s.2.2) k s = some (y13, M14) → XM l E (RX10, "days", cX10_days, 4) (some .int) 44 31 [some (.ref 0), some (.int a1), some (.int s.1), some (.int s.2.1)] [] s.2.2 M' (some (.int r)) := lp_ind (P := fun (s : Int32 × Int32 × Mem) => XM l E (RX10, "days", cX10_days, 4) (some .int) 44 31 [some (.ref 0), some (.int a1), some (.int s.1), some (.int s.2.1)] [] s.2.2 M' (some (.int r))) (fun s t hb hk he => by
      obtain ⟨i4, i5, M6⟩ := s
      show XM l E (RX10, "days", cX10_days, 4) (some .int) 44 31 [some (.ref 0), some (.int a1), some (.int i4), some (.int i5)] [] M6 M' (some (.int r))
      change w_X10_days_31 a1 i4 i5 M6 = some t at hb
      unfold w_X10_days_31 at hb
      refine ex_iload_n dX10_days_31 rfl ?_
      refine ex_iload_n dX10_days_32 rfl ?_
      refine ex_icmp_ge 71 dX10_days_33 (by decide) (fun c7 => ?_) (fun c7 => ?_)
      · rw [if_pos c7] at hb
        refine ex_mskL [false, false, true, false] (L2 := [none, none, some (.int i4), none]) rfl ?_
        cases hb
        cases (he _ rfl) <;> exact hx
      · rw [if_neg c7] at hb
        refine ex_aload_n dX10_days_36 rfl ?_
        refine mx_getr 10 115 dX10_days_37 fl_X10_35 oc_at_0 (rf_10_5 oc_at_0) ?_
        refine ex_aload_n dX10_days_40 rfl ?_
        refine mx_getr 10 1 dX10_days_41 fl_X10_12 oc_at_0 (rf_10_0 oc_at_0) ?_
        obtain ⟨M8, qM8, hb⟩ := b1E hb
        refine mx_cVv [.ref 1] [] 115 7 dX10_days_44 cl_X10_97 im_X7_keep cy_X7_keep (oc_10_5 oc_at_0) rfl (Nat.le_of_ble_eq_true rfl) (by decide) (t_X7_keep l E 1 (oc_10_0 oc_at_0) M6 qM8) ?_
        refine ex_iload_n dX10_days_47 rfl ?_
        refine ex_aload_n dX10_days_48 rfl ?_
        refine mx_getr 10 1 dX10_days_49 fl_X10_12 oc_at_0 (rf_10_0 oc_at_0) ?_
        obtain ⟨M9, x10, qx10, hb⟩ := b2E hb
        refine mx_cVi [] [.int i4] 1 6 x10 dX10_days_52 cl_X10_140 im_X6_beginDay cy_X6_beginDay (oc_10_0 oc_at_0) rfl (Nat.le_of_ble_eq_true rfl) (by decide) (t_X6_beginDay l E 1 (oc_10_0 oc_at_0) M8 qx10) ?_
        refine ex_iadd dX10_days_55 ?_
        refine ex_istore_n (L2 := [some (.ref 0), some (.int a1), some (.int (i4 + x10)), some (.int i5)]) dX10_days_56 (by decide) rfl ?_
        refine ex_aload_n dX10_days_57 rfl ?_
        refine mx_getr 10 1 dX10_days_58 fl_X10_12 oc_at_0 (rf_10_0 oc_at_0) ?_
        refine ex_iconst 0 dX10_days_61 kI_0 ?_
        obtain ⟨M11, qM11, hb⟩ := b1E hb
        refine mx_cVv [.int 0] [] 1 6 dX10_days_62 cl_X10_144 im_X6_endDay cy_X6_endDay (oc_10_0 oc_at_0) rfl (Nat.le_of_ble_eq_true rfl) (by decide) (t_X6_endDay l E 1 0 (oc_10_0 oc_at_0) M9 qM11) ?_
        refine ex_iinc 1 (L2 := [some (.ref 0), some (.int a1), some (.int (i4 + x10)), some (.int (i5 + 1))]) dX10_days_65 rfl kI_1 (by decide) rfl ?_
        refine ex_goto 31 dX10_days_68 (by decide) ?_
        refine ex_mskL [true, true, true, true] (L2 := [some (.ref 0), some (.int a1), some (.int (i4 + x10)), some (.int (i5 + 1))]) rfl ?_
        cases hb
        exact hk ((i4 + x10), (i5 + 1), M11) rfl)
    exact key FU (0, 0, M) hlq12
  clear h
  refine ex_if_eq 25 dX10_days_7 (by decide) (fun c1 => ?_) (fun c1 => ?_)
  · exact JXC3 (Or.inl c1)
  · refine ex_aload_n dX10_days_10 rfl ?_
    refine mx_getr 10 1 dX10_days_11 fl_X10_12 oc_at_0 (rf_10_0 oc_at_0) ?_
    refine mx_geti 6 dX10_days_14 fl_X10_137 (oc_10_0 oc_at_0) (isi_6_10 (oc_10_0 oc_at_0)) ?_
    refine ex_sipush 9999 dX10_days_17 kS_9999 ?_
    refine ex_iload_n dX10_days_20 rfl ?_
    refine ex_isub dX10_days_21 ?_
    refine ex_icmp_le 27 dX10_days_22 (by decide) (fun c2 => ?_) (fun c2 => ?_)
    · refine ex_iconst 0 dX10_days_27 kI_0 ?_
      exact JYC3 (fun z => z.elim c1 (fun z => z c2))
    · exact JXC3 (Or.inr c2)
def f_X10_feed (a1 : Int32) (a2 : Int32) (a3 : Int32) (a4 : Int32) (a5 : Int32) (M : Mem) : Option (Mem × Int32) :=
  if (f_X9_hasRoomFor 20 M) = 0 then (some (M, (-1))) else (b1 (f_X9_addNumber a1 M) fun M2 => b1 (f_X9_addNumber a2 M2) fun M3 => b1 (f_X9_addNumber a3 M3) fun M4 => b1 (f_X9_addNumber a4 M4) fun M5 => b1 (f_X9_addNumber a5 M5) fun M6 => some (M6, (M6 136 4)))
set_option maxRecDepth 100000 in
set_option maxHeartbeats 4000000 in
theorem t_X10_feed (l : Launch) (E : EV) (a1 : Int32) (a2 : Int32) (a3 : Int32) (a4 : Int32) (a5 : Int32) (M : Mem) {M' : Mem} {r : Int32} (h : f_X10_feed a1 a2 a3 a4 a5 M = some (M', r)) : RunM l E yX10_feed cX10_feed 6 (some .int) 1 [.ref 0, .int a1, .int a2, .int a3, .int a4, .int a5] M M' (some (.int r)) := by
  refine RunM.of (by decide) (Nat.le_of_ble_eq_true rfl) ?_
  show XM l E (RX10, "feed", cX10_feed, 6) (some .int) 1 0 [some (.ref 0), some (.int a1), some (.int a2), some (.int a3), some (.int a4), some (.int a5)] [] M M' (some (.int r))
  unfold f_X10_feed at h
  refine ex_aload_n dX10_feed_0 rfl ?_
  refine mx_getr 10 136 dX10_feed_1 fl_X10_42 oc_at_0 (rf_10_6 oc_at_0) ?_
  refine ex_bipush 20 dX10_feed_4 kB_20 ?_
  refine mx_cVi [.int 20] [] 136 9 (f_X9_hasRoomFor 20 M) dX10_feed_6 cl_X10_148 im_X9_hasRoomFor cy_X9_hasRoomFor (oc_10_6 oc_at_0) rfl (Nat.le_of_ble_eq_true rfl) (by decide) (t_X9_hasRoomFor l E 20 M rfl) ?_
  refine ex_if_ne 14 dX10_feed_9 (by decide) (fun c1 => ?_) (fun c1 => ?_)
  · rw [if_neg c1] at h
    refine ex_aload_n dX10_feed_14 rfl ?_
    refine mx_getr 10 136 dX10_feed_15 fl_X10_42 oc_at_0 (rf_10_6 oc_at_0) ?_
    refine ex_iload_n dX10_feed_18 rfl ?_
    obtain ⟨M2, qM2, h⟩ := b1E h
    refine mx_cVv [.int a1] [] 136 9 dX10_feed_19 cl_X10_151 im_X9_addNumber cy_X9_addNumber (oc_10_6 oc_at_0) rfl (Nat.le_of_ble_eq_true rfl) (by decide) (t_X9_addNumber l E a1 M qM2) ?_
    refine ex_aload_n dX10_feed_22 rfl ?_
    refine mx_getr 10 136 dX10_feed_23 fl_X10_42 oc_at_0 (rf_10_6 oc_at_0) ?_
    refine ex_iload_n dX10_feed_26 rfl ?_
    obtain ⟨M3, qM3, h⟩ := b1E h
    refine mx_cVv [.int a2] [] 136 9 dX10_feed_27 cl_X10_151 im_X9_addNumber cy_X9_addNumber (oc_10_6 oc_at_0) rfl (Nat.le_of_ble_eq_true rfl) (by decide) (t_X9_addNumber l E a2 M2 qM3) ?_
    refine ex_aload_n dX10_feed_30 rfl ?_
    refine mx_getr 10 136 dX10_feed_31 fl_X10_42 oc_at_0 (rf_10_6 oc_at_0) ?_
    refine ex_iload_n dX10_feed_34 rfl ?_
    obtain ⟨M4, qM4, h⟩ := b1E h
    refine mx_cVv [.int a3] [] 136 9 dX10_feed_35 cl_X10_151 im_X9_addNumber cy_X9_addNumber (oc_10_6 oc_at_0) rfl (Nat.le_of_ble_eq_true rfl) (by decide) (t_X9_addNumber l E a3 M3 qM4) ?_
    refine ex_aload_n dX10_feed_38 rfl ?_
    refine mx_getr 10 136 dX10_feed_39 fl_X10_42 oc_at_0 (rf_10_6 oc_at_0) ?_
    refine ex_iload dX10_feed_42 rfl ?_
    obtain ⟨M5, qM5, h⟩ := b1E h
    refine mx_cVv [.int a4] [] 136 9 dX10_feed_44 cl_X10_151 im_X9_addNumber cy_X9_addNumber (oc_10_6 oc_at_0) rfl (Nat.le_of_ble_eq_true rfl) (by decide) (t_X9_addNumber l E a4 M4 qM5) ?_
    refine ex_aload_n dX10_feed_47 rfl ?_
    refine mx_getr 10 136 dX10_feed_48 fl_X10_42 oc_at_0 (rf_10_6 oc_at_0) ?_
    refine ex_iload dX10_feed_51 rfl ?_
    obtain ⟨M6, qM6, h⟩ := b1E h
    refine mx_cVv [.int a5] [] 136 9 dX10_feed_53 cl_X10_151 im_X9_addNumber cy_X9_addNumber (oc_10_6 oc_at_0) rfl (Nat.le_of_ble_eq_true rfl) (by decide) (t_X9_addNumber l E a5 M5 qM6) ?_
    refine ex_aload_n dX10_feed_56 rfl ?_
    refine mx_getr 10 136 dX10_feed_57 fl_X10_42 oc_at_0 (rf_10_6 oc_at_0) ?_
    refine mx_geti 9 dX10_feed_60 fl_X10_155 (oc_10_6 oc_at_0) (isi_9_4 (oc_10_6 oc_at_0)) ?_
    cases h
    exact mx_reti .int dX10_feed_63 ⟨rfl, rfl⟩
  · rw [if_pos c1] at h
    refine ex_iconst (-1) dX10_feed_12 kI_m1 ?_
    cases h
    exact mx_reti .int dX10_feed_13 ⟨rfl, rfl⟩
def f_X10_end (a1 : Int32) (M : Mem) : (Mem × Int32) :=
  if (a1 < 0 ∨ ¬ (a1 ≤ (M 136 4))) then ((M, 0)) else (lt (up2 M 136 4 a1) fun M4 => (M4, 1))
set_option maxRecDepth 100000 in
set_option maxHeartbeats 4000000 in
theorem t_X10_end (l : Launch) (E : EV) (a1 : Int32) (M : Mem) {M' : Mem} {r : Int32} (h : f_X10_end a1 M = (M', r)) : RunM l E yX10_end cX10_end 2 (some .boolean) 0 [.ref 0, .int a1] M M' (some (.int r)) := by
  refine RunM.of (by decide) (Nat.le_of_ble_eq_true rfl) ?_
  show XM l E (RX10, "end", cX10_end, 2) (some .boolean) 0 0 [some (.ref 0), some (.int a1)] [] M M' (some (.int r))
  unfold f_X10_end at h
  refine ex_iload_n dX10_end_0 rfl ?_
  have JXC3 : (a1 < 0 ∨ ¬ (a1 ≤ (M 136 4))) → XM l E (RX10, "end", cX10_end, 2) (some .boolean) 0 15 [some (.ref 0), some (.int a1)] [] M M' (some (.int r)) := fun C3 => by
    rw [if_pos C3] at h
    refine ex_iconst 0 dX10_end_15 kI_0 ?_
    cases h
    exact mx_reti .boolean dX10_end_16 ⟨rfl, by decide⟩
  have JYC3 : ¬ ((a1 < 0 ∨ ¬ (a1 ≤ (M 136 4)))) → XM l E (RX10, "end", cX10_end, 2) (some .boolean) 0 22 [some (.ref 0), some (.int a1)] [.int a1, .ref 136] M M' (some (.int r)) := fun C3 => by
    rw [if_neg C3] at h
    obtain ⟨M4, eM4, h⟩ := ltE h
    refine mx_puti 9 dX10_end_22 fl_X10_155 rfl ⟨rfl, rfl⟩ (oc_10_6 oc_at_0) (isi_9_4 (oc_10_6 oc_at_0)) ?_
    rw [← eM4]
    refine ex_iconst 1 dX10_end_25 kI_1 ?_
    cases h
    exact mx_reti .boolean dX10_end_26 ⟨rfl, by decide⟩
  clear h
  refine ex_if_lt 15 dX10_end_1 (by decide) (fun c1 => ?_) (fun c1 => ?_)
  · exact JXC3 (Or.inl c1)
  · refine ex_iload_n dX10_end_4 rfl ?_
    refine ex_aload_n dX10_end_5 rfl ?_
    refine mx_getr 10 136 dX10_end_6 fl_X10_42 oc_at_0 (rf_10_6 oc_at_0) ?_
    refine mx_geti 9 dX10_end_9 fl_X10_155 (oc_10_6 oc_at_0) (isi_9_4 (oc_10_6 oc_at_0)) ?_
    refine ex_icmp_le 17 dX10_end_12 (by decide) (fun c2 => ?_) (fun c2 => ?_)
    · refine ex_aload_n dX10_end_17 rfl ?_
      refine mx_getr 10 136 dX10_end_18 fl_X10_42 oc_at_0 (rf_10_6 oc_at_0) ?_
      refine ex_iload_n dX10_end_21 rfl ?_
      exact JYC3 (fun z => z.elim c1 (fun z => z c2))
    · exact JXC3 (Or.inr c2)
def f_X10_tellLines (a1 : Int32) (a2 : Nat) (M : Mem) : Option (Mem × Int32) :=
  b1 (f_X6_linesOf 1 a1) fun x1 => b1 (f_X8_copyFrom x1 a2 M) fun M2 => if a1 = 0 then (lt (f_X8_empty (1 + 9) M2) fun p6 => lt (f_X8_empty (1 + 3) p6.1) fun p7 => lt (f_X8_empty (1 + 5) p7.1) fun p8 => lt (f_X8_empty (1 + 7) p8.1) fun p9 => if a1 = 4 then (some (p9.1, (p9.1 x1 3))) else (lt (f_X7_forget p9.1) fun M11 => some (M11, (M11 x1 3)))) else (if a1 = 4 then (some (M2, (M2 x1 3))) else (lt (f_X7_forget M2) fun M5 => some (M5, (M5 x1 3))))
set_option maxRecDepth 100000 in
set_option maxHeartbeats 4000000 in
theorem t_X10_tellLines (l : Launch) (E : EV) (a1 : Int32) (a2 : Nat) (ha2 : oc a2 = some 8) (M : Mem) {M' : Mem} {r : Int32} (h : f_X10_tellLines a1 a2 M = some (M', r)) : RunM l E yX10_tellLines cX10_tellLines 4 (some .int) 2 [.ref 0, .int a1, .ref a2] M M' (some (.int r)) := by
  refine RunM.of (by decide) (Nat.le_of_ble_eq_true rfl) ?_
  show XM l E (RX10, "tellLines", cX10_tellLines, 4) (some .int) 2 0 [some (.ref 0), some (.int a1), some (.ref a2), none] [] M M' (some (.int r))
  unfold f_X10_tellLines at h
  refine ex_aload_n dX10_tellLines_0 rfl ?_
  refine mx_getr 10 1 dX10_tellLines_1 fl_X10_12 oc_at_0 (rf_10_0 oc_at_0) ?_
  refine ex_iload_n dX10_tellLines_4 rfl ?_
  obtain ⟨x1, qx1, h⟩ := b1E h
  refine mx_cVr [.int a1] [] 1 6 x1 dX10_tellLines_5 cl_X10_169 im_X6_linesOf cy_X6_linesOf (oc_10_0 oc_at_0) rfl (Nat.le_of_ble_eq_true rfl) (by decide) (t_X6_linesOf l E 1 a1 (oc_10_0 oc_at_0) M qx1) ?_
  refine ex_astore_n (L2 := [some (.ref 0), some (.int a1), some (.ref a2), some (.ref x1)]) dX10_tellLines_8 (by decide) rfl ?_
  refine ex_aload_n dX10_tellLines_9 rfl ?_
  refine ex_aload_n dX10_tellLines_10 rfl ?_
  obtain ⟨M2, qM2, h⟩ := b1E h
  refine mx_cVv [.ref a2] [] x1 8 dX10_tellLines_11 cl_X10_357 im_X8_copyFrom cy_X8_copyFrom (linesOf_oc (oc_10_0 oc_at_0) qx1) rfl (Nat.le_of_ble_eq_true rfl) (by decide) (t_X8_copyFrom l E x1 a2 (linesOf_oc (oc_10_0 oc_at_0) qx1) ha2 M qM2) ?_
  refine ex_iload_n dX10_tellLines_14 rfl ?_
  refine ex_if_ne 62 dX10_tellLines_15 (by decide) (fun c3 => ?_) (fun c3 => ?_)
  · rw [if_neg c3] at h
    refine ex_iload_n dX10_tellLines_62 rfl ?_
    refine ex_iconst 4 dX10_tellLines_63 kI_4 ?_
    refine ex_icmp_eq 74 dX10_tellLines_64 (by decide) (fun c4 => ?_) (fun c4 => ?_)
    · rw [if_pos c4] at h
      refine ex_aload_n dX10_tellLines_74 rfl ?_
      refine mx_geti 8 dX10_tellLines_75 fl_X10_176 (linesOf_oc (oc_10_0 oc_at_0) qx1) (isi_8_3 (linesOf_oc (oc_10_0 oc_at_0) qx1)) ?_
      cases h
      exact mx_reti .int dX10_tellLines_78 ⟨rfl, rfl⟩
    · rw [if_neg c4] at h
      refine ex_aload_n dX10_tellLines_67 rfl ?_
      refine mx_getr 10 115 dX10_tellLines_68 fl_X10_35 oc_at_0 (rf_10_5 oc_at_0) ?_
      obtain ⟨M5, eM5, h⟩ := ltE h
      refine mx_cVv [] [] 115 7 dX10_tellLines_71 cl_X10_77 im_X7_forget cy_X7_forget (oc_10_5 oc_at_0) rfl (Nat.le_of_ble_eq_true rfl) (by decide) (t_X7_forget l E M2 eM5.symm) ?_
      refine ex_aload_n dX10_tellLines_74 rfl ?_
      refine mx_geti 8 dX10_tellLines_75 fl_X10_176 (linesOf_oc (oc_10_0 oc_at_0) qx1) (isi_8_3 (linesOf_oc (oc_10_0 oc_at_0) qx1)) ?_
      cases h
      exact mx_reti .int dX10_tellLines_78 ⟨rfl, rfl⟩
  · rw [if_pos c3] at h
    refine ex_aload_n dX10_tellLines_18 rfl ?_
    refine mx_getr 10 1 dX10_tellLines_19 fl_X10_12 oc_at_0 (rf_10_0 oc_at_0) ?_
    refine mx_getr 6 (1 + 9) dX10_tellLines_22 fl_X10_123 (oc_10_0 oc_at_0) (rf_6_4 (oc_10_0 oc_at_0)) ?_
    obtain ⟨p6, ep6, h⟩ := ltE h
    refine mx_cVi [] [] (1 + 9) 8 p6.2 dX10_tellLines_25 cl_X10_254 im_X8_empty cy_X8_empty (oc_6_4 (oc_10_0 oc_at_0)) rfl (Nat.le_of_ble_eq_true rfl) (by decide) (t_X8_empty l E (1 + 9) (oc_6_4 (oc_10_0 oc_at_0)) M2 ep6.symm) ?_
    refine ex_pop dX10_tellLines_28 rfl ?_
    refine ex_aload_n dX10_tellLines_29 rfl ?_
    refine mx_getr 10 1 dX10_tellLines_30 fl_X10_12 oc_at_0 (rf_10_0 oc_at_0) ?_
    refine mx_getr 6 (1 + 3) dX10_tellLines_33 fl_X10_347 (oc_10_0 oc_at_0) (rf_6_1 (oc_10_0 oc_at_0)) ?_
    obtain ⟨p7, ep7, h⟩ := ltE h
    refine mx_cVi [] [] (1 + 3) 8 p7.2 dX10_tellLines_36 cl_X10_254 im_X8_empty cy_X8_empty (oc_6_1 (oc_10_0 oc_at_0)) rfl (Nat.le_of_ble_eq_true rfl) (by decide) (t_X8_empty l E (1 + 3) (oc_6_1 (oc_10_0 oc_at_0)) p6.1 ep7.symm) ?_
    refine ex_pop dX10_tellLines_39 rfl ?_
    refine ex_aload_n dX10_tellLines_40 rfl ?_
    refine mx_getr 10 1 dX10_tellLines_41 fl_X10_12 oc_at_0 (rf_10_0 oc_at_0) ?_
    refine mx_getr 6 (1 + 5) dX10_tellLines_44 fl_X10_214 (oc_10_0 oc_at_0) (rf_6_2 (oc_10_0 oc_at_0)) ?_
    obtain ⟨p8, ep8, h⟩ := ltE h
    refine mx_cVi [] [] (1 + 5) 8 p8.2 dX10_tellLines_47 cl_X10_254 im_X8_empty cy_X8_empty (oc_6_2 (oc_10_0 oc_at_0)) rfl (Nat.le_of_ble_eq_true rfl) (by decide) (t_X8_empty l E (1 + 5) (oc_6_2 (oc_10_0 oc_at_0)) p7.1 ep8.symm) ?_
    refine ex_pop dX10_tellLines_50 rfl ?_
    refine ex_aload_n dX10_tellLines_51 rfl ?_
    refine mx_getr 10 1 dX10_tellLines_52 fl_X10_12 oc_at_0 (rf_10_0 oc_at_0) ?_
    refine mx_getr 6 (1 + 7) dX10_tellLines_55 fl_X10_350 (oc_10_0 oc_at_0) (rf_6_3 (oc_10_0 oc_at_0)) ?_
    obtain ⟨p9, ep9, h⟩ := ltE h
    refine mx_cVi [] [] (1 + 7) 8 p9.2 dX10_tellLines_58 cl_X10_254 im_X8_empty cy_X8_empty (oc_6_3 (oc_10_0 oc_at_0)) rfl (Nat.le_of_ble_eq_true rfl) (by decide) (t_X8_empty l E (1 + 7) (oc_6_3 (oc_10_0 oc_at_0)) p8.1 ep9.symm) ?_
    refine ex_pop dX10_tellLines_61 rfl ?_
    refine ex_iload_n dX10_tellLines_62 rfl ?_
    refine ex_iconst 4 dX10_tellLines_63 kI_4 ?_
    refine ex_icmp_eq 74 dX10_tellLines_64 (by decide) (fun c10 => ?_) (fun c10 => ?_)
    · rw [if_pos c10] at h
      refine ex_aload_n dX10_tellLines_74 rfl ?_
      refine mx_geti 8 dX10_tellLines_75 fl_X10_176 (linesOf_oc (oc_10_0 oc_at_0) qx1) (isi_8_3 (linesOf_oc (oc_10_0 oc_at_0) qx1)) ?_
      cases h
      exact mx_reti .int dX10_tellLines_78 ⟨rfl, rfl⟩
    · rw [if_neg c10] at h
      refine ex_aload_n dX10_tellLines_67 rfl ?_
      refine mx_getr 10 115 dX10_tellLines_68 fl_X10_35 oc_at_0 (rf_10_5 oc_at_0) ?_
      obtain ⟨M11, eM11, h⟩ := ltE h
      refine mx_cVv [] [] 115 7 dX10_tellLines_71 cl_X10_77 im_X7_forget cy_X7_forget (oc_10_5 oc_at_0) rfl (Nat.le_of_ble_eq_true rfl) (by decide) (t_X7_forget l E p9.1 eM11.symm) ?_
      refine ex_aload_n dX10_tellLines_74 rfl ?_
      refine mx_geti 8 dX10_tellLines_75 fl_X10_176 (linesOf_oc (oc_10_0 oc_at_0) qx1) (isi_8_3 (linesOf_oc (oc_10_0 oc_at_0) qx1)) ?_
      cases h
      exact mx_reti .int dX10_tellLines_78 ⟨rfl, rfl⟩
def f_X10_text (a1 : Int32) (M : Mem) : Option (Mem × Int32) :=
  b1 (f_X9_split M) fun M1 => if a1 = 1 then (b2 (f_X3_tell (1 + 13) M1) fun M11 x12 => some (M11, x12)) else (if (f_X10_within a1 0 4) = 0 then (some (M1, (-1))) else (b1 (f_X6_linesOf 53 a1) fun x4 => b2 (f_X4_read a1 x4 (M1 (1 + 1) 3) M1) fun M5 x6 => if x6 = 0 then (some (M5, (-1))) else (b1 (f_X6_linesOf 53 a1) fun x8 => b2 (f_X10_tellLines a1 x8 M5) fun M9 x10 => some (M9, x10))))
set_option maxRecDepth 100000 in
set_option maxHeartbeats 4000000 in
theorem t_X10_text (l : Launch) (E : EV) (a1 : Int32) (M : Mem) {M' : Mem} {r : Int32} (h : f_X10_text a1 M = some (M', r)) : RunM l E yX10_text cX10_text 2 (some .int) 46 [.ref 0, .int a1] M M' (some (.int r)) := by
  refine RunM.of (by decide) (Nat.le_of_ble_eq_true rfl) ?_
  show XM l E (RX10, "text", cX10_text, 2) (some .int) 46 0 [some (.ref 0), some (.int a1)] [] M M' (some (.int r))
  unfold f_X10_text at h
  refine ex_aload_n dX10_text_0 rfl ?_
  refine mx_getr 10 136 dX10_text_1 fl_X10_42 oc_at_0 (rf_10_6 oc_at_0) ?_
  obtain ⟨M1, qM1, h⟩ := b1E h
  refine mx_cVv [] [] 136 9 dX10_text_4 cl_X10_158 im_X9_split cy_X9_split (oc_10_6 oc_at_0) rfl (Nat.le_of_ble_eq_true rfl) (by decide) (t_X9_split l E M qM1) ?_
  refine ex_iload_n dX10_text_7 rfl ?_
  refine ex_iconst 1 dX10_text_8 kI_1 ?_
  refine ex_icmp_ne 27 dX10_text_9 (by decide) (fun c2 => ?_) (fun c2 => ?_)
  · rw [if_neg c2] at h
    refine ex_iload_n dX10_text_27 rfl ?_
    refine ex_iconst 0 dX10_text_28 kI_0 ?_
    refine ex_iconst 4 dX10_text_29 kI_4 ?_
    refine mx_cSi [.int a1, .int 0, .int 4] [] (f_X10_within a1 0 4) dX10_text_30 cl_X10_80 sm_X10_within rfl (Nat.le_of_ble_eq_true rfl) (by decide) (t_X10_within l E a1 0 4 M1 rfl) ?_
    refine ex_if_eq 65 dX10_text_33 (by decide) (fun c3 => ?_) (fun c3 => ?_)
    · rw [if_pos c3] at h
      refine ex_iconst (-1) dX10_text_65 kI_m1 ?_
      cases h
      exact mx_reti .int dX10_text_66 ⟨rfl, rfl⟩
    · rw [if_neg c3] at h
      refine ex_aload_n dX10_text_36 rfl ?_
      refine mx_getr 10 141 dX10_text_37 fl_X10_51 oc_at_0 (rf_10_7 oc_at_0) ?_
      refine ex_iload_n dX10_text_40 rfl ?_
      refine ex_aload_n dX10_text_41 rfl ?_
      refine mx_getr 10 53 dX10_text_42 fl_X10_19 oc_at_0 (rf_10_2 oc_at_0) ?_
      refine ex_iload_n dX10_text_45 rfl ?_
      obtain ⟨x4, qx4, h⟩ := b1E h
      refine mx_cVr [.int a1] [.int a1, .ref 141] 53 6 x4 dX10_text_46 cl_X10_169 im_X6_linesOf cy_X6_linesOf (oc_10_2 oc_at_0) rfl (Nat.le_of_ble_eq_true rfl) (by decide) (t_X6_linesOf l E 53 a1 (oc_10_2 oc_at_0) M1 qx4) ?_
      refine ex_aload_n dX10_text_49 rfl ?_
      refine mx_getr 10 1 dX10_text_50 fl_X10_12 oc_at_0 (rf_10_0 oc_at_0) ?_
      refine mx_getr 6 (1 + 1) dX10_text_53 fl_X10_173 (oc_10_0 oc_at_0) (rf_6_0 (oc_10_0 oc_at_0)) ?_
      refine mx_geti 8 dX10_text_56 fl_X10_176 (oc_6_0 (oc_10_0 oc_at_0)) (isi_8_3 (oc_6_0 (oc_10_0 oc_at_0))) ?_
      obtain ⟨M5, x6, qx6, h⟩ := b2E h
      refine mx_cVi [.int a1, .ref x4, .int (M1 (1 + 1) 3)] [] 141 4 x6 dX10_text_59 cl_X10_179 im_X4_read cy_X4_read (oc_10_7 oc_at_0) rfl (Nat.le_of_ble_eq_true rfl) (by decide) (t_X4_read l E a1 x4 (M1 (1 + 1) 3) (linesOf_oc (oc_10_2 oc_at_0) qx4) M1 qx6) ?_
      refine ex_if_ne 67 dX10_text_62 (by decide) (fun c7 => ?_) (fun c7 => ?_)
      · rw [if_neg c7] at h
        refine ex_aload_n dX10_text_67 rfl ?_
        refine ex_iload_n dX10_text_68 rfl ?_
        refine ex_aload_n dX10_text_69 rfl ?_
        refine mx_getr 10 53 dX10_text_70 fl_X10_19 oc_at_0 (rf_10_2 oc_at_0) ?_
        refine ex_iload_n dX10_text_73 rfl ?_
        obtain ⟨x8, qx8, h⟩ := b1E h
        refine mx_cVr [.int a1] [.int a1, .ref 0] 53 6 x8 dX10_text_74 cl_X10_169 im_X6_linesOf cy_X6_linesOf (oc_10_2 oc_at_0) rfl (Nat.le_of_ble_eq_true rfl) (by decide) (t_X6_linesOf l E 53 a1 (oc_10_2 oc_at_0) M5 qx8) ?_
        obtain ⟨M9, x10, qx10, h⟩ := b2E h
        refine mx_cVi [.int a1, .ref x8] [] 0 10 x10 dX10_text_77 cl_X10_183 im_X10_tellLines cy_X10_tellLines oc_at_0 rfl (Nat.le_of_ble_eq_true rfl) (by decide) (t_X10_tellLines l E a1 x8 (linesOf_oc (oc_10_2 oc_at_0) qx8) M5 qx10) ?_
        cases h
        exact mx_reti .int dX10_text_80 ⟨rfl, rfl⟩
      · rw [if_pos c7] at h
        refine ex_iconst (-1) dX10_text_65 kI_m1 ?_
        cases h
        exact mx_reti .int dX10_text_66 ⟨rfl, rfl⟩
  · rw [if_pos c2] at h
    refine ex_aload_n dX10_text_12 rfl ?_
    refine mx_getr 10 142 dX10_text_13 fl_X10_58 oc_at_0 (rf_10_8 oc_at_0) ?_
    refine ex_aload_n dX10_text_16 rfl ?_
    refine mx_getr 10 1 dX10_text_17 fl_X10_12 oc_at_0 (rf_10_0 oc_at_0) ?_
    refine mx_getr 6 (1 + 13) dX10_text_20 fl_X10_161 (oc_10_0 oc_at_0) (rf_6_6 (oc_10_0 oc_at_0)) ?_
    obtain ⟨M11, x12, qx12, h⟩ := b2E h
    refine mx_cVi [.ref (1 + 13)] [] 142 3 x12 dX10_text_23 cl_X10_165 im_X3_tell cy_X3_tell (oc_10_8 oc_at_0) rfl (Nat.le_of_ble_eq_true rfl) (by decide) (t_X3_tell l E (1 + 13) (oc_6_6 (oc_10_0 oc_at_0)) M1 qx12) ?_
    cases h
    exact mx_reti .int dX10_text_26 ⟨rfl, rfl⟩
def f_X10_fault (a1 : Int32) (M : Mem) : (Int32) :=
  if a1 = 0 then ((M 136 7)) else (lt ((if a1 = 1 then (M 136 8) else (-1)) : Int32) fun x3 => x3)
set_option maxRecDepth 100000 in
set_option maxHeartbeats 4000000 in
theorem t_X10_fault (l : Launch) (E : EV) (a1 : Int32) (M : Mem) {r : Int32} (h : f_X10_fault a1 M = r) : RunM l E yX10_fault cX10_fault 2 (some .int) 0 [.ref 0, .int a1] M M (some (.int r)) := by
  refine RunM.of (by decide) (Nat.le_of_ble_eq_true rfl) ?_
  show XM l E (RX10, "fault", cX10_fault, 2) (some .int) 0 0 [some (.ref 0), some (.int a1)] [] M M (some (.int r))
  unfold f_X10_fault at h
  refine ex_iload_n dX10_fault_0 rfl ?_
  refine ex_if_ne 12 dX10_fault_1 (by decide) (fun c1 => ?_) (fun c1 => ?_)
  · rw [if_neg c1] at h
    refine ex_iload_n dX10_fault_12 rfl ?_
    refine ex_iconst 1 dX10_fault_13 kI_1 ?_
    obtain ⟨x3, ex3, h⟩ := ltE h
    have Jx3 : XM l E (RX10, "fault", cX10_fault, 2) (some .int) 0 28 [some (.ref 0), some (.int a1)] [.int x3] M M (some (.int r)) := by
      subst h
      exact mx_reti .int dX10_fault_28 ⟨rfl, rfl⟩
    clear h
    refine ex_icmp_ne 27 dX10_fault_14 (by decide) (fun c2 => ?_) (fun c2 => ?_)
    · rw [if_neg c2] at ex3
      refine ex_iconst (-1) dX10_fault_27 kI_m1 ?_
      subst ex3
      exact Jx3
    · rw [if_pos c2] at ex3
      refine ex_aload_n dX10_fault_17 rfl ?_
      refine mx_getr 10 136 dX10_fault_18 fl_X10_42 oc_at_0 (rf_10_6 oc_at_0) ?_
      refine mx_geti 9 dX10_fault_21 fl_X10_190 (oc_10_6 oc_at_0) (isi_9_8 (oc_10_6 oc_at_0)) ?_
      refine ex_goto 28 dX10_fault_24 (by decide) ?_
      subst ex3
      exact Jx3
  · rw [if_pos c1] at h
    refine ex_aload_n dX10_fault_4 rfl ?_
    refine mx_getr 10 136 dX10_fault_5 fl_X10_42 oc_at_0 (rf_10_6 oc_at_0) ?_
    refine mx_geti 9 dX10_fault_8 fl_X10_187 (oc_10_6 oc_at_0) (isi_9_7 (oc_10_6 oc_at_0)) ?_
    subst h
    exact mx_reti .int dX10_fault_11 ⟨rfl, rfl⟩
def f_X10_remain (a1 : Int32) (a2 : Int32) (M : Mem) : Option (Mem × Int32) :=
  if (f_X8_has (1 + 9) a1 M) = 0 then (some (M, (-1))) else (if a2 = 5 then (b2 (f_X6_priceOf 1 a1 0 M) fun M7 x8 => some (M7, x8)) else (if a2 = 6 then (b2 (f_X6_spoilOf 1 a1 M) fun M5 x6 => some (M5, x6)) else (b1 (f_X8_at (1 + 9) a1 a2 M) fun x4 => some (M, x4))))
set_option maxRecDepth 100000 in
set_option maxHeartbeats 4000000 in
theorem t_X10_remain (l : Launch) (E : EV) (a1 : Int32) (a2 : Int32) (M : Mem) {M' : Mem} {r : Int32} (h : f_X10_remain a1 a2 M = some (M', r)) : RunM l E yX10_remain cX10_remain 3 (some .int) 5 [.ref 0, .int a1, .int a2] M M' (some (.int r)) := by
  refine RunM.of (by decide) (Nat.le_of_ble_eq_true rfl) ?_
  show XM l E (RX10, "remain", cX10_remain, 3) (some .int) 5 0 [some (.ref 0), some (.int a1), some (.int a2)] [] M M' (some (.int r))
  unfold f_X10_remain at h
  refine ex_aload_n dX10_remain_0 rfl ?_
  refine mx_getr 10 1 dX10_remain_1 fl_X10_12 oc_at_0 (rf_10_0 oc_at_0) ?_
  refine mx_getr 6 (1 + 9) dX10_remain_4 fl_X10_123 (oc_10_0 oc_at_0) (rf_6_4 (oc_10_0 oc_at_0)) ?_
  refine ex_iload_n dX10_remain_7 rfl ?_
  refine mx_cVi [.int a1] [] (1 + 9) 8 (f_X8_has (1 + 9) a1 M) dX10_remain_8 cl_X10_127 im_X8_has cy_X8_has (oc_6_4 (oc_10_0 oc_at_0)) rfl (Nat.le_of_ble_eq_true rfl) (by decide) (t_X8_has l E (1 + 9) a1 (oc_6_4 (oc_10_0 oc_at_0)) M rfl) ?_
  refine ex_if_ne 16 dX10_remain_11 (by decide) (fun c1 => ?_) (fun c1 => ?_)
  · rw [if_neg c1] at h
    refine ex_iload_n dX10_remain_16 rfl ?_
    refine ex_iconst 5 dX10_remain_17 kI_5 ?_
    refine ex_icmp_ne 31 dX10_remain_18 (by decide) (fun c2 => ?_) (fun c2 => ?_)
    · rw [if_neg c2] at h
      refine ex_iload_n dX10_remain_31 rfl ?_
      refine ex_bipush 6 dX10_remain_32 kB_6 ?_
      refine ex_icmp_ne 48 dX10_remain_34 (by decide) (fun c3 => ?_) (fun c3 => ?_)
      · rw [if_neg c3] at h
        refine ex_aload_n dX10_remain_48 rfl ?_
        refine mx_getr 10 1 dX10_remain_49 fl_X10_12 oc_at_0 (rf_10_0 oc_at_0) ?_
        refine mx_getr 6 (1 + 9) dX10_remain_52 fl_X10_123 (oc_10_0 oc_at_0) (rf_6_4 (oc_10_0 oc_at_0)) ?_
        refine ex_iload_n dX10_remain_55 rfl ?_
        refine ex_iload_n dX10_remain_56 rfl ?_
        obtain ⟨x4, qx4, h⟩ := b1E h
        refine mx_cVi [.int a1, .int a2] [] (1 + 9) 8 x4 dX10_remain_57 cl_X10_199 im_X8_at cy_X8_at (oc_6_4 (oc_10_0 oc_at_0)) rfl (Nat.le_of_ble_eq_true rfl) (by decide) (t_X8_at l E (1 + 9) a1 a2 (oc_6_4 (oc_10_0 oc_at_0)) M qx4) ?_
        cases h
        exact mx_reti .int dX10_remain_60 ⟨rfl, rfl⟩
      · rw [if_pos c3] at h
        refine ex_aload_n dX10_remain_37 rfl ?_
        refine mx_getr 10 1 dX10_remain_38 fl_X10_12 oc_at_0 (rf_10_0 oc_at_0) ?_
        refine ex_iload_n dX10_remain_41 rfl ?_
        obtain ⟨M5, x6, qx6, h⟩ := b2E h
        refine mx_cVi [.int a1] [] 1 6 x6 dX10_remain_42 cl_X10_196 im_X6_spoilOf cy_X6_spoilOf (oc_10_0 oc_at_0) rfl (Nat.le_of_ble_eq_true rfl) (by decide) (t_X6_spoilOf l E 1 a1 (oc_10_0 oc_at_0) M qx6) ?_
        refine ex_goto 60 dX10_remain_45 (by decide) ?_
        cases h
        exact mx_reti .int dX10_remain_60 ⟨rfl, rfl⟩
    · rw [if_pos c2] at h
      refine ex_aload_n dX10_remain_21 rfl ?_
      refine mx_getr 10 1 dX10_remain_22 fl_X10_12 oc_at_0 (rf_10_0 oc_at_0) ?_
      refine ex_iload_n dX10_remain_25 rfl ?_
      refine ex_iconst 0 dX10_remain_26 kI_0 ?_
      obtain ⟨M7, x8, qx8, h⟩ := b2E h
      refine mx_cVi [.int a1, .int 0] [] 1 6 x8 dX10_remain_27 cl_X10_193 im_X6_priceOf cy_X6_priceOf (oc_10_0 oc_at_0) rfl (Nat.le_of_ble_eq_true rfl) (by decide) (t_X6_priceOf l E 1 a1 0 (oc_10_0 oc_at_0) M qx8) ?_
      cases h
      exact mx_reti .int dX10_remain_30 ⟨rfl, rfl⟩
  · rw [if_pos c1] at h
    refine ex_iconst (-1) dX10_remain_14 kI_m1 ?_
    cases h
    exact mx_reti .int dX10_remain_15 ⟨rfl, rfl⟩
def f_X10_kind (a1 : Int32) (a2 : Int32) (M : Mem) : Option (Int32) :=
  if (f_X8_has (1 + 1) a1 M) = 0 then (some (-1)) else (if a2 = 2 then (b1 (f_X6_remainsOfKind 1 a1 M) fun x6 => some x6) else (if a2 = 3 then (b1 (f_X6_sizesOfKind 1 a1 M) fun x5 => some x5) else (b1 (f_X8_at (1 + 1) a1 a2 M) fun x4 => some x4)))
set_option maxRecDepth 100000 in
set_option maxHeartbeats 4000000 in
theorem t_X10_kind (l : Launch) (E : EV) (a1 : Int32) (a2 : Int32) (M : Mem) {r : Int32} (h : f_X10_kind a1 a2 M = some r) : RunM l E yX10_kind cX10_kind 3 (some .int) 3 [.ref 0, .int a1, .int a2] M M (some (.int r)) := by
  refine RunM.of (by decide) (Nat.le_of_ble_eq_true rfl) ?_
  show XM l E (RX10, "kind", cX10_kind, 3) (some .int) 3 0 [some (.ref 0), some (.int a1), some (.int a2)] [] M M (some (.int r))
  unfold f_X10_kind at h
  refine ex_aload_n dX10_kind_0 rfl ?_
  refine mx_getr 10 1 dX10_kind_1 fl_X10_12 oc_at_0 (rf_10_0 oc_at_0) ?_
  refine mx_getr 6 (1 + 1) dX10_kind_4 fl_X10_173 (oc_10_0 oc_at_0) (rf_6_0 (oc_10_0 oc_at_0)) ?_
  refine ex_iload_n dX10_kind_7 rfl ?_
  refine mx_cVi [.int a1] [] (1 + 1) 8 (f_X8_has (1 + 1) a1 M) dX10_kind_8 cl_X10_127 im_X8_has cy_X8_has (oc_6_0 (oc_10_0 oc_at_0)) rfl (Nat.le_of_ble_eq_true rfl) (by decide) (t_X8_has l E (1 + 1) a1 (oc_6_0 (oc_10_0 oc_at_0)) M rfl) ?_
  refine ex_if_ne 16 dX10_kind_11 (by decide) (fun c1 => ?_) (fun c1 => ?_)
  · rw [if_neg c1] at h
    refine ex_iload_n dX10_kind_16 rfl ?_
    refine ex_iconst 2 dX10_kind_17 kI_2 ?_
    refine ex_icmp_ne 30 dX10_kind_18 (by decide) (fun c2 => ?_) (fun c2 => ?_)
    · rw [if_neg c2] at h
      refine ex_iload_n dX10_kind_30 rfl ?_
      refine ex_iconst 3 dX10_kind_31 kI_3 ?_
      refine ex_icmp_ne 46 dX10_kind_32 (by decide) (fun c3 => ?_) (fun c3 => ?_)
      · rw [if_neg c3] at h
        refine ex_aload_n dX10_kind_46 rfl ?_
        refine mx_getr 10 1 dX10_kind_47 fl_X10_12 oc_at_0 (rf_10_0 oc_at_0) ?_
        refine mx_getr 6 (1 + 1) dX10_kind_50 fl_X10_173 (oc_10_0 oc_at_0) (rf_6_0 (oc_10_0 oc_at_0)) ?_
        refine ex_iload_n dX10_kind_53 rfl ?_
        refine ex_iload_n dX10_kind_54 rfl ?_
        obtain ⟨x4, qx4, h⟩ := b1E h
        refine mx_cVi [.int a1, .int a2] [] (1 + 1) 8 x4 dX10_kind_55 cl_X10_199 im_X8_at cy_X8_at (oc_6_0 (oc_10_0 oc_at_0)) rfl (Nat.le_of_ble_eq_true rfl) (by decide) (t_X8_at l E (1 + 1) a1 a2 (oc_6_0 (oc_10_0 oc_at_0)) M qx4) ?_
        cases h
        exact mx_reti .int dX10_kind_58 ⟨rfl, rfl⟩
      · rw [if_pos c3] at h
        refine ex_aload_n dX10_kind_35 rfl ?_
        refine mx_getr 10 1 dX10_kind_36 fl_X10_12 oc_at_0 (rf_10_0 oc_at_0) ?_
        refine ex_iload_n dX10_kind_39 rfl ?_
        obtain ⟨x5, qx5, h⟩ := b1E h
        refine mx_cVi [.int a1] [] 1 6 x5 dX10_kind_40 cl_X10_205 im_X6_sizesOfKind cy_X6_sizesOfKind (oc_10_0 oc_at_0) rfl (Nat.le_of_ble_eq_true rfl) (by decide) (t_X6_sizesOfKind l E 1 a1 (oc_10_0 oc_at_0) M qx5) ?_
        refine ex_goto 58 dX10_kind_43 (by decide) ?_
        cases h
        exact mx_reti .int dX10_kind_58 ⟨rfl, rfl⟩
    · rw [if_pos c2] at h
      refine ex_aload_n dX10_kind_21 rfl ?_
      refine mx_getr 10 1 dX10_kind_22 fl_X10_12 oc_at_0 (rf_10_0 oc_at_0) ?_
      refine ex_iload_n dX10_kind_25 rfl ?_
      obtain ⟨x6, qx6, h⟩ := b1E h
      refine mx_cVi [.int a1] [] 1 6 x6 dX10_kind_26 cl_X10_202 im_X6_remainsOfKind cy_X6_remainsOfKind (oc_10_0 oc_at_0) rfl (Nat.le_of_ble_eq_true rfl) (by decide) (t_X6_remainsOfKind l E 1 a1 (oc_10_0 oc_at_0) M qx6) ?_
      cases h
      exact mx_reti .int dX10_kind_29 ⟨rfl, rfl⟩
  · rw [if_pos c1] at h
    refine ex_iconst (-1) dX10_kind_14 kI_m1 ?_
    cases h
    exact mx_reti .int dX10_kind_15 ⟨rfl, rfl⟩
def f_X10_left (a1 : Int32) (a2 : Int32) (a3 : Int32) (M : Mem) : Option (Mem × Int32) :=
  if (f_X6_feastCanBe 1 a1 a2 M) = 0 then (some (M, (-1))) else (if a3 = 0 then (b2 (f_X6_leftByFeast 1 a1 a2 M) fun M3 x4 => some (M3, x4)) else (b2 (f_X6_edgeOfFeast 1 a1 a2 M) fun M5 x6 => some (M5, x6)))
set_option maxRecDepth 100000 in
set_option maxHeartbeats 4000000 in
theorem t_X10_left (l : Launch) (E : EV) (a1 : Int32) (a2 : Int32) (a3 : Int32) (M : Mem) {M' : Mem} {r : Int32} (h : f_X10_left a1 a2 a3 M = some (M', r)) : RunM l E yX10_left cX10_left 4 (some .int) 4 [.ref 0, .int a1, .int a2, .int a3] M M' (some (.int r)) := by
  refine RunM.of (by decide) (Nat.le_of_ble_eq_true rfl) ?_
  show XM l E (RX10, "left", cX10_left, 4) (some .int) 4 0 [some (.ref 0), some (.int a1), some (.int a2), some (.int a3)] [] M M' (some (.int r))
  unfold f_X10_left at h
  refine ex_aload_n dX10_left_0 rfl ?_
  refine mx_getr 10 1 dX10_left_1 fl_X10_12 oc_at_0 (rf_10_0 oc_at_0) ?_
  refine ex_iload_n dX10_left_4 rfl ?_
  refine ex_iload_n dX10_left_5 rfl ?_
  refine mx_cVi [.int a1, .int a2] [] 1 6 (f_X6_feastCanBe 1 a1 a2 M) dX10_left_6 cl_X10_93 im_X6_feastCanBe cy_X6_feastCanBe (oc_10_0 oc_at_0) rfl (Nat.le_of_ble_eq_true rfl) (by decide) (t_X6_feastCanBe l E 1 a1 a2 (oc_10_0 oc_at_0) M rfl) ?_
  refine ex_if_ne 14 dX10_left_9 (by decide) (fun c1 => ?_) (fun c1 => ?_)
  · rw [if_neg c1] at h
    refine ex_iload_n dX10_left_14 rfl ?_
    refine ex_if_eq 30 dX10_left_15 (by decide) (fun c2 => ?_) (fun c2 => ?_)
    · rw [if_pos c2] at h
      refine ex_aload_n dX10_left_30 rfl ?_
      refine mx_getr 10 1 dX10_left_31 fl_X10_12 oc_at_0 (rf_10_0 oc_at_0) ?_
      refine ex_iload_n dX10_left_34 rfl ?_
      refine ex_iload_n dX10_left_35 rfl ?_
      obtain ⟨M3, x4, qx4, h⟩ := b2E h
      refine mx_cVi [.int a1, .int a2] [] 1 6 x4 dX10_left_36 cl_X10_211 im_X6_leftByFeast cy_X6_leftByFeast (oc_10_0 oc_at_0) rfl (Nat.le_of_ble_eq_true rfl) (by decide) (t_X6_leftByFeast l E 1 a1 a2 (oc_10_0 oc_at_0) M qx4) ?_
      cases h
      exact mx_reti .int dX10_left_39 ⟨rfl, rfl⟩
    · rw [if_neg c2] at h
      refine ex_aload_n dX10_left_18 rfl ?_
      refine mx_getr 10 1 dX10_left_19 fl_X10_12 oc_at_0 (rf_10_0 oc_at_0) ?_
      refine ex_iload_n dX10_left_22 rfl ?_
      refine ex_iload_n dX10_left_23 rfl ?_
      obtain ⟨M5, x6, qx6, h⟩ := b2E h
      refine mx_cVi [.int a1, .int a2] [] 1 6 x6 dX10_left_24 cl_X10_208 im_X6_edgeOfFeast cy_X6_edgeOfFeast (oc_10_0 oc_at_0) rfl (Nat.le_of_ble_eq_true rfl) (by decide) (t_X6_edgeOfFeast l E 1 a1 a2 (oc_10_0 oc_at_0) M qx6) ?_
      refine ex_goto 39 dX10_left_27 (by decide) ?_
      cases h
      exact mx_reti .int dX10_left_39 ⟨rfl, rfl⟩
  · rw [if_pos c1] at h
    refine ex_iconst (-1) dX10_left_12 kI_m1 ?_
    cases h
    exact mx_reti .int dX10_left_13 ⟨rfl, rfl⟩
def f_X10_want (a1 : Int32) (a2 : Int32) (M : Mem) : Option (Int32) :=
  b1 (f_X8_at (1 + 5) a1 a2 M) fun x1 => some x1
set_option maxRecDepth 100000 in
set_option maxHeartbeats 4000000 in
theorem t_X10_want (l : Launch) (E : EV) (a1 : Int32) (a2 : Int32) (M : Mem) {r : Int32} (h : f_X10_want a1 a2 M = some r) : RunM l E yX10_want cX10_want 3 (some .int) 2 [.ref 0, .int a1, .int a2] M M (some (.int r)) := by
  refine RunM.of (by decide) (Nat.le_of_ble_eq_true rfl) ?_
  show XM l E (RX10, "want", cX10_want, 3) (some .int) 2 0 [some (.ref 0), some (.int a1), some (.int a2)] [] M M (some (.int r))
  unfold f_X10_want at h
  refine ex_aload_n dX10_want_0 rfl ?_
  refine mx_getr 10 1 dX10_want_1 fl_X10_12 oc_at_0 (rf_10_0 oc_at_0) ?_
  refine mx_getr 6 (1 + 5) dX10_want_4 fl_X10_214 (oc_10_0 oc_at_0) (rf_6_2 (oc_10_0 oc_at_0)) ?_
  refine ex_iload_n dX10_want_7 rfl ?_
  refine ex_iload_n dX10_want_8 rfl ?_
  obtain ⟨x1, qx1, h⟩ := b1E h
  refine mx_cVi [.int a1, .int a2] [] (1 + 5) 8 x1 dX10_want_9 cl_X10_199 im_X8_at cy_X8_at (oc_6_2 (oc_10_0 oc_at_0)) rfl (Nat.le_of_ble_eq_true rfl) (by decide) (t_X8_at l E (1 + 5) a1 a2 (oc_6_2 (oc_10_0 oc_at_0)) M qx1) ?_
  cases h
  exact mx_reti .int dX10_want_12 ⟨rfl, rfl⟩
def f_X10_book (a1 : Int32) (a2 : Int32) (M : Mem) : Option (Int32) :=
  b1 (f_X8_at (1 + 11) a1 a2 M) fun x1 => some x1
set_option maxRecDepth 100000 in
set_option maxHeartbeats 4000000 in
theorem t_X10_book (l : Launch) (E : EV) (a1 : Int32) (a2 : Int32) (M : Mem) {r : Int32} (h : f_X10_book a1 a2 M = some r) : RunM l E yX10_book cX10_book 3 (some .int) 2 [.ref 0, .int a1, .int a2] M M (some (.int r)) := by
  refine RunM.of (by decide) (Nat.le_of_ble_eq_true rfl) ?_
  show XM l E (RX10, "book", cX10_book, 3) (some .int) 2 0 [some (.ref 0), some (.int a1), some (.int a2)] [] M M (some (.int r))
  unfold f_X10_book at h
  refine ex_aload_n dX10_book_0 rfl ?_
  refine mx_getr 10 1 dX10_book_1 fl_X10_12 oc_at_0 (rf_10_0 oc_at_0) ?_
  refine mx_getr 6 (1 + 11) dX10_book_4 fl_X10_217 (oc_10_0 oc_at_0) (rf_6_5 (oc_10_0 oc_at_0)) ?_
  refine ex_iload_n dX10_book_7 rfl ?_
  refine ex_iload_n dX10_book_8 rfl ?_
  obtain ⟨x1, qx1, h⟩ := b1E h
  refine mx_cVi [.int a1, .int a2] [] (1 + 11) 8 x1 dX10_book_9 cl_X10_199 im_X8_at cy_X8_at (oc_6_5 (oc_10_0 oc_at_0)) rfl (Nat.le_of_ble_eq_true rfl) (by decide) (t_X8_at l E (1 + 11) a1 a2 (oc_6_5 (oc_10_0 oc_at_0)) M qx1) ?_
  cases h
  exact mx_reti .int dX10_book_12 ⟨rfl, rfl⟩
def w_X10_goes_38 (a1 : Int32) (i5 : Int32) (i6 : Int32) (M7 : Mem) : Option ((Int32 × Int32 × Mem) ⊕ (Int32 × Mem)) :=
  if a1 ≤ i6 then (some (.inr (i5, M7))) else (b2 (f_X6_beginDay 53 M7) fun M9 x10 => if i5 = (-1) then (b1 (f_X6_firstMissed 53 M9) fun x13 => b1 (f_X6_endDay 53 1 M9) fun M14 => some (.inl (x13, (i6 + 1), M14))) else (b1 (f_X6_endDay 53 1 M9) fun M12 => some (.inl (i5, (i6 + 1), M12))))
def f_X10_goes (a1 : Int32) (a2 : Int32) (M : Mem) : Option (Mem × Int32) :=
  if ((f_X10_within a1 1 60) = 0 ∨ (f_X10_within a2 0 3) = 0) then (some (M, (-100000))) else (b1 (f_X6_copyFrom 53 1 M) fun M4 => b1 (lp (fun s => w_X10_goes_38 a1 s.1 s.2.1 s.2.2) FU ((-1), 0, M4)) fun q15 => if a2.toInt < 0 ∨ 2 < a2.toInt then (some (q15.2, q15.1)) else if a2 = 0 then (some (q15.2, (q15.2 53 11))) else if a2 = 1 then (b1 (f_X6_metSet 53 q15.2) fun x20 => some (q15.2, (f_J6_bitCount_0f7a4 x20))) else if a2 = 2 then (some (q15.2, (q15.2 (53 + 9) 3))) else none)
set_option maxRecDepth 100000 in
set_option maxHeartbeats 4000000 in
theorem t_X10_goes (l : Launch) (E : EV) (a1 : Int32) (a2 : Int32) (M : Mem) {M' : Mem} {r : Int32} (h : f_X10_goes a1 a2 M = some (M', r)) : RunM l E yX10_goes cX10_goes 5 (some .int) 44 [.ref 0, .int a1, .int a2] M M' (some (.int r)) := by
  refine RunM.of (by decide) (Nat.le_of_ble_eq_true rfl) ?_
  show XM l E (RX10, "goes", cX10_goes, 5) (some .int) 44 0 [some (.ref 0), some (.int a1), some (.int a2), none, none] [] M M' (some (.int r))
  unfold f_X10_goes at h
  refine ex_iload_n dX10_goes_0 rfl ?_
  refine ex_iconst 1 dX10_goes_1 kI_1 ?_
  refine ex_bipush 60 dX10_goes_2 kB_60 ?_
  refine mx_cSi [.int a1, .int 1, .int 60] [] (f_X10_within a1 1 60) dX10_goes_4 cl_X10_80 sm_X10_within rfl (Nat.le_of_ble_eq_true rfl) (by decide) (t_X10_within l E a1 1 60 M rfl) ?_
  have JXC3 : ((f_X10_within a1 1 60) = 0 ∨ (f_X10_within a2 0 3) = 0) → XM l E (RX10, "goes", cX10_goes, 5) (some .int) 44 19 [some (.ref 0), some (.int a1), some (.int a2), none, none] [] M M' (some (.int r)) := fun C3 => by
    rw [if_pos C3] at h
    refine ex_ldc (-100000) dX10_goes_19 (tb (i := 1062) (by decide +kernel)) ?_
    cases h
    exact mx_reti .int dX10_goes_21 ⟨rfl, rfl⟩
  have JYC3 : ¬ (((f_X10_within a1 1 60) = 0 ∨ (f_X10_within a2 0 3) = 0)) → XM l E (RX10, "goes", cX10_goes, 5) (some .int) 44 30 [some (.ref 0), some (.int a1), some (.int a2), none, none] [.ref 1, .ref 53] M M' (some (.int r)) := fun C3 => by
    rw [if_neg C3] at h
    obtain ⟨M4, qM4, h⟩ := b1E h
    refine mx_cVv [.ref 1] [] 53 6 dX10_goes_30 cl_X10_221 im_X6_copyFrom cy_X6_copyFrom (oc_10_2 oc_at_0) rfl (Nat.le_of_ble_eq_true rfl) (by decide) (t_X6_copyFrom l E 53 1 (oc_10_2 oc_at_0) (oc_10_0 oc_at_0) M qM4) ?_
    refine ex_iconst (-1) dX10_goes_33 kI_m1 ?_
    refine ex_istore_n (L2 := [some (.ref 0), some (.int a1), some (.int a2), some (.int (-1)), none]) dX10_goes_34 (by decide) rfl ?_
    refine ex_iconst 0 dX10_goes_35 kI_0 ?_
    refine ex_istore (L2 := [some (.ref 0), some (.int a1), some (.int a2), some (.int (-1)), some (.int 0)]) dX10_goes_36 (by decide) rfl ?_
    refine ex_mskL [true, true, true, true, true] (L2 := [some (.ref 0), some (.int a1), some (.int a2), some (.int (-1)), some (.int 0)]) rfl ?_
    obtain ⟨q15, hlq15, h⟩ := b1E h
    obtain ⟨y16, M17⟩ := q15
    dsimp only at h
    have hx : XM l E (RX10, "goes", cX10_goes, 5) (some .int) 44 79 [some (.ref 0), none, some (.int a2), some (.int y16), none] [] M17 M' (some (.int r)) := by
      refine ex_iload_n dX10_goes_79 rfl ?_
      by_cases c18 : a2.toInt < 0 ∨ 2 < a2.toInt
      · rw [if_pos c18] at h
        refine ex_tswO 138 dX10_goes_80 c18 (by decide) ?_
        refine ex_iload_n dX10_goes_138 rfl ?_
        cases h
        exact mx_reti .int dX10_goes_139 ⟨rfl, rfl⟩
      rw [if_neg c18] at h
      by_cases c19 : a2 = 0
      · rw [if_pos c19] at h
        refine ex_tswI 0 (28) 108 dX10_goes_80 c19 (by decide) (by decide) ?_
        refine ex_aload_n dX10_goes_108 rfl ?_
        refine mx_getr 10 53 dX10_goes_109 fl_X10_19 oc_at_0 (rf_10_2 oc_at_0) ?_
        refine mx_geti 6 dX10_goes_112 fl_X10_84 (oc_10_2 oc_at_0) (isi_6_11 (oc_10_2 oc_at_0)) ?_
        cases h
        exact mx_reti .int dX10_goes_115 ⟨rfl, rfl⟩
      rw [if_neg c19] at h
      by_cases c21 : a2 = 1
      · rw [if_pos c21] at h
        refine ex_tswI 1 (36) 116 dX10_goes_80 c21 (by decide) (by decide) ?_
        refine ex_aload_n dX10_goes_116 rfl ?_
        refine mx_getr 10 53 dX10_goes_117 fl_X10_19 oc_at_0 (rf_10_2 oc_at_0) ?_
        obtain ⟨x20, qx20, h⟩ := b1E h
        refine mx_cVi [] [] 53 6 x20 dX10_goes_120 cl_X10_227 im_X6_metSet cy_X6_metSet (oc_10_2 oc_at_0) rfl (Nat.le_of_ble_eq_true rfl) (by decide) (t_X6_metSet l E 53 (oc_10_2 oc_at_0) M17 qx20) ?_
        refine mx_cSi [.int x20] [] (f_J6_bitCount_0f7a4 x20) dX10_goes_123 cl_X10_230 sm_J6_bitCount_0f7a4 rfl (Nat.le_of_ble_eq_true rfl) (by decide) (t_J6_bitCount_0f7a4 l E x20 M17 rfl) ?_
        cases h
        exact mx_reti .int dX10_goes_126 ⟨rfl, rfl⟩
      rw [if_neg c21] at h
      by_cases c22 : a2 = 2
      · rw [if_pos c22] at h
        refine ex_tswI 2 (47) 127 dX10_goes_80 c22 (by decide) (by decide) ?_
        refine ex_aload_n dX10_goes_127 rfl ?_
        refine mx_getr 10 53 dX10_goes_128 fl_X10_19 oc_at_0 (rf_10_2 oc_at_0) ?_
        refine mx_getr 6 (53 + 9) dX10_goes_131 fl_X10_123 (oc_10_2 oc_at_0) (rf_6_4 (oc_10_2 oc_at_0)) ?_
        refine mx_geti 8 dX10_goes_134 fl_X10_176 (oc_6_4 (oc_10_2 oc_at_0)) (isi_8_3 (oc_6_4 (oc_10_2 oc_at_0))) ?_
        cases h
        exact mx_reti .int dX10_goes_137 ⟨rfl, rfl⟩
      rw [if_neg c22] at h
      cases h
    clear h
    have key : ∀ (k : Nat) (s : Int32 × Int32 × Mem), lp (fun s => w_X10_goes_38 a1 s.1 s.2.1 s.2.2) k s = some (y16, M17) → XM l E (RX10, "goes", cX10_goes, 5) (some .int) 44 38 [some (.ref 0), some (.int a1), some (.int a2), some (.int s.1), some (.int s.2.1)] [] s.2.2 M' (some (.int r)) := lp_ind (P := fun (s : Int32 × Int32 × Mem) => XM l E (RX10, "goes", cX10_goes, 5) (some .int) 44 38 [some (.ref 0), some (.int a1), some (.int a2), some (.int s.1), some (.int s.2.1)] [] s.2.2 M' (some (.int r))) (fun s t hb hk he => by
      obtain ⟨i5, i6, M7⟩ := s
      show XM l E (RX10, "goes", cX10_goes, 5) (some .int) 44 38 [some (.ref 0), some (.int a1), some (.int a2), some (.int i5), some (.int i6)] [] M7 M' (some (.int r))
      change w_X10_goes_38 a1 i5 i6 M7 = some t at hb
      unfold w_X10_goes_38 at hb
      refine ex_iload dX10_goes_38 rfl ?_
      refine ex_iload_n dX10_goes_40 rfl ?_
      refine ex_icmp_ge 79 dX10_goes_41 (by decide) (fun c8 => ?_) (fun c8 => ?_)
      · rw [if_pos c8] at hb
        refine ex_mskL [true, false, true, true, false] (L2 := [some (.ref 0), none, some (.int a2), some (.int i5), none]) rfl ?_
        cases hb
        cases (he _ rfl) <;> exact hx
      · rw [if_neg c8] at hb
        refine ex_aload_n dX10_goes_44 rfl ?_
        refine mx_getr 10 53 dX10_goes_45 fl_X10_19 oc_at_0 (rf_10_2 oc_at_0) ?_
        obtain ⟨M9, x10, qx10, hb⟩ := b2E hb
        refine mx_cVi [] [] 53 6 x10 dX10_goes_48 cl_X10_140 im_X6_beginDay cy_X6_beginDay (oc_10_2 oc_at_0) rfl (Nat.le_of_ble_eq_true rfl) (by decide) (t_X6_beginDay l E 53 (oc_10_2 oc_at_0) M7 qx10) ?_
        refine ex_pop dX10_goes_51 rfl ?_
        refine ex_iload_n dX10_goes_52 rfl ?_
        refine ex_iconst (-1) dX10_goes_53 kI_m1 ?_
        refine ex_icmp_ne 65 dX10_goes_54 (by decide) (fun c11 => ?_) (fun c11 => ?_)
        · rw [if_neg c11] at hb
          refine ex_aload_n dX10_goes_65 rfl ?_
          refine mx_getr 10 53 dX10_goes_66 fl_X10_19 oc_at_0 (rf_10_2 oc_at_0) ?_
          refine ex_iconst 1 dX10_goes_69 kI_1 ?_
          obtain ⟨M12, qM12, hb⟩ := b1E hb
          refine mx_cVv [.int 1] [] 53 6 dX10_goes_70 cl_X10_144 im_X6_endDay cy_X6_endDay (oc_10_2 oc_at_0) rfl (Nat.le_of_ble_eq_true rfl) (by decide) (t_X6_endDay l E 53 1 (oc_10_2 oc_at_0) M9 qM12) ?_
          refine ex_iinc 1 (L2 := [some (.ref 0), some (.int a1), some (.int a2), some (.int i5), some (.int (i6 + 1))]) dX10_goes_73 rfl kI_1 (by decide) rfl ?_
          refine ex_goto 38 dX10_goes_76 (by decide) ?_
          refine ex_mskL [true, true, true, true, true] (L2 := [some (.ref 0), some (.int a1), some (.int a2), some (.int i5), some (.int (i6 + 1))]) rfl ?_
          cases hb
          exact hk (i5, (i6 + 1), M12) rfl
        · rw [if_pos c11] at hb
          refine ex_aload_n dX10_goes_57 rfl ?_
          refine mx_getr 10 53 dX10_goes_58 fl_X10_19 oc_at_0 (rf_10_2 oc_at_0) ?_
          obtain ⟨x13, qx13, hb⟩ := b1E hb
          refine mx_cVi [] [] 53 6 x13 dX10_goes_61 cl_X10_224 im_X6_firstMissed cy_X6_firstMissed (oc_10_2 oc_at_0) rfl (Nat.le_of_ble_eq_true rfl) (by decide) (t_X6_firstMissed l E 53 (oc_10_2 oc_at_0) M9 qx13) ?_
          refine ex_istore_n (L2 := [some (.ref 0), some (.int a1), some (.int a2), some (.int x13), some (.int i6)]) dX10_goes_64 (by decide) rfl ?_
          refine ex_aload_n dX10_goes_65 rfl ?_
          refine mx_getr 10 53 dX10_goes_66 fl_X10_19 oc_at_0 (rf_10_2 oc_at_0) ?_
          refine ex_iconst 1 dX10_goes_69 kI_1 ?_
          obtain ⟨M14, qM14, hb⟩ := b1E hb
          refine mx_cVv [.int 1] [] 53 6 dX10_goes_70 cl_X10_144 im_X6_endDay cy_X6_endDay (oc_10_2 oc_at_0) rfl (Nat.le_of_ble_eq_true rfl) (by decide) (t_X6_endDay l E 53 1 (oc_10_2 oc_at_0) M9 qM14) ?_
          refine ex_iinc 1 (L2 := [some (.ref 0), some (.int a1), some (.int a2), some (.int x13), some (.int (i6 + 1))]) dX10_goes_73 rfl kI_1 (by decide) rfl ?_
          refine ex_goto 38 dX10_goes_76 (by decide) ?_
          refine ex_mskL [true, true, true, true, true] (L2 := [some (.ref 0), some (.int a1), some (.int a2), some (.int x13), some (.int (i6 + 1))]) rfl ?_
          cases hb
          exact hk (x13, (i6 + 1), M14) rfl)
    exact key FU ((-1), 0, M4) hlq15
  clear h
  refine ex_if_eq 19 dX10_goes_7 (by decide) (fun c1 => ?_) (fun c1 => ?_)
  · exact JXC3 (Or.inl c1)
  · refine ex_iload_n dX10_goes_10 rfl ?_
    refine ex_iconst 0 dX10_goes_11 kI_0 ?_
    refine ex_iconst 3 dX10_goes_12 kI_3 ?_
    refine mx_cSi [.int a2, .int 0, .int 3] [] (f_X10_within a2 0 3) dX10_goes_13 cl_X10_80 sm_X10_within rfl (Nat.le_of_ble_eq_true rfl) (by decide) (t_X10_within l E a2 0 3 M rfl) ?_
    refine ex_if_ne 22 dX10_goes_16 (by decide) (fun c2 => ?_) (fun c2 => ?_)
    · refine ex_aload_n dX10_goes_22 rfl ?_
      refine mx_getr 10 53 dX10_goes_23 fl_X10_19 oc_at_0 (rf_10_2 oc_at_0) ?_
      refine ex_aload_n dX10_goes_26 rfl ?_
      refine mx_getr 10 1 dX10_goes_27 fl_X10_12 oc_at_0 (rf_10_0 oc_at_0) ?_
      exact JYC3 (fun z => z.elim c1 c2)
    · exact JXC3 (Or.inr c2)
def f_X10_joins (a1 : Int32) (a2 : Int32) (a3 : Int32) (M : Mem) : Option (Mem × Int32) :=
  if ((f_X8_has (1 + 1) a1 M) = 0 ∨ ((f_X10_within a2 1 99) = 0 ∨ (f_X10_within a3 0 1) = 0)) then (some (M, (-1))) else (b2 (f_X1_fewest (1 + 21) (1 + 9) a1 a2 M) fun M5 x6 => if x6 = 0 then (some (M5, (-1))) else (lt ((if a3 = 0 then (f_J6_bitCount_0f7a4 x6) else x6) : Int32) fun x9 => some (M5, x9)))
set_option maxRecDepth 100000 in
set_option maxHeartbeats 4000000 in
theorem t_X10_joins (l : Launch) (E : EV) (a1 : Int32) (a2 : Int32) (a3 : Int32) (M : Mem) {M' : Mem} {r : Int32} (h : f_X10_joins a1 a2 a3 M = some (M', r)) : RunM l E yX10_joins cX10_joins 5 (some .int) 42 [.ref 0, .int a1, .int a2, .int a3] M M' (some (.int r)) := by
  refine RunM.of (by decide) (Nat.le_of_ble_eq_true rfl) ?_
  show XM l E (RX10, "joins", cX10_joins, 5) (some .int) 42 0 [some (.ref 0), some (.int a1), some (.int a2), some (.int a3), none] [] M M' (some (.int r))
  unfold f_X10_joins at h
  refine ex_aload_n dX10_joins_0 rfl ?_
  refine mx_getr 10 1 dX10_joins_1 fl_X10_12 oc_at_0 (rf_10_0 oc_at_0) ?_
  refine mx_getr 6 (1 + 1) dX10_joins_4 fl_X10_173 (oc_10_0 oc_at_0) (rf_6_0 (oc_10_0 oc_at_0)) ?_
  refine ex_iload_n dX10_joins_7 rfl ?_
  refine mx_cVi [.int a1] [] (1 + 1) 8 (f_X8_has (1 + 1) a1 M) dX10_joins_8 cl_X10_127 im_X8_has cy_X8_has (oc_6_0 (oc_10_0 oc_at_0)) rfl (Nat.le_of_ble_eq_true rfl) (by decide) (t_X8_has l E (1 + 1) a1 (oc_6_0 (oc_10_0 oc_at_0)) M rfl) ?_
  have JXC4 : ((f_X8_has (1 + 1) a1 M) = 0 ∨ ((f_X10_within a2 1 99) = 0 ∨ (f_X10_within a3 0 1) = 0)) → XM l E (RX10, "joins", cX10_joins, 5) (some .int) 42 33 [some (.ref 0), some (.int a1), some (.int a2), some (.int a3), none] [] M M' (some (.int r)) := fun C4 => by
    rw [if_pos C4] at h
    refine ex_iconst (-1) dX10_joins_33 kI_m1 ?_
    cases h
    exact mx_reti .int dX10_joins_34 ⟨rfl, rfl⟩
  have JYC4 : ¬ (((f_X8_has (1 + 1) a1 M) = 0 ∨ ((f_X10_within a2 1 99) = 0 ∨ (f_X10_within a3 0 1) = 0))) → XM l E (RX10, "joins", cX10_joins, 5) (some .int) 42 51 [some (.ref 0), some (.int a1), some (.int a2), some (.int a3), none] [.int a2, .int a1, .ref (1 + 9), .ref (1 + 21)] M M' (some (.int r)) := fun C4 => by
    rw [if_neg C4] at h
    obtain ⟨M5, x6, qx6, h⟩ := b2E h
    refine mx_cVi [.ref (1 + 9), .int a1, .int a2] [] (1 + 21) 1 x6 dX10_joins_51 cl_X10_239 im_X1_fewest cy_X1_fewest (oc_6_7 (oc_10_0 oc_at_0)) rfl (Nat.le_of_ble_eq_true rfl) (by decide) (t_X1_fewest l E (1 + 21) (1 + 9) a1 a2 (oc_6_7 (oc_10_0 oc_at_0)) (oc_6_4 (oc_10_0 oc_at_0)) M qx6) ?_
    refine ex_istore (L2 := [some (.ref 0), some (.int a1), some (.int a2), some (.int a3), some (.int x6)]) dX10_joins_54 (by decide) rfl ?_
    refine ex_iload dX10_joins_56 rfl ?_
    refine ex_if_ne 63 dX10_joins_58 (by decide) (fun c7 => ?_) (fun c7 => ?_)
    · rw [if_neg c7] at h
      refine ex_iload_n dX10_joins_63 rfl ?_
      obtain ⟨x9, ex9, h⟩ := ltE h
      have Jx9 : XM l E (RX10, "joins", cX10_joins, 5) (some .int) 42 77 [some (.ref 0), some (.int a1), some (.int a2), some (.int a3), some (.int x6)] [.int x9] M5 M' (some (.int r)) := by
        cases h
        exact mx_reti .int dX10_joins_77 ⟨rfl, rfl⟩
      clear h
      refine ex_if_ne 75 dX10_joins_64 (by decide) (fun c8 => ?_) (fun c8 => ?_)
      · rw [if_neg c8] at ex9
        refine ex_iload dX10_joins_75 rfl ?_
        subst ex9
        exact Jx9
      · rw [if_pos c8] at ex9
        refine ex_iload dX10_joins_67 rfl ?_
        refine mx_cSi [.int x6] [] (f_J6_bitCount_0f7a4 x6) dX10_joins_69 cl_X10_230 sm_J6_bitCount_0f7a4 rfl (Nat.le_of_ble_eq_true rfl) (by decide) (t_J6_bitCount_0f7a4 l E x6 M5 rfl) ?_
        refine ex_goto 77 dX10_joins_72 (by decide) ?_
        subst ex9
        exact Jx9
    · rw [if_pos c7] at h
      refine ex_iconst (-1) dX10_joins_61 kI_m1 ?_
      cases h
      exact mx_reti .int dX10_joins_62 ⟨rfl, rfl⟩
  clear h
  refine ex_if_eq 33 dX10_joins_11 (by decide) (fun c1 => ?_) (fun c1 => ?_)
  · exact JXC4 (Or.inl c1)
  · refine ex_iload_n dX10_joins_14 rfl ?_
    refine ex_iconst 1 dX10_joins_15 kI_1 ?_
    refine ex_bipush 99 dX10_joins_16 kB_99 ?_
    refine mx_cSi [.int a2, .int 1, .int 99] [] (f_X10_within a2 1 99) dX10_joins_18 cl_X10_80 sm_X10_within rfl (Nat.le_of_ble_eq_true rfl) (by decide) (t_X10_within l E a2 1 99 M rfl) ?_
    refine ex_if_eq 33 dX10_joins_21 (by decide) (fun c2 => ?_) (fun c2 => ?_)
    · exact JXC4 (Or.inr (Or.inl c2))
    · refine ex_iload_n dX10_joins_24 rfl ?_
      refine ex_iconst 0 dX10_joins_25 kI_0 ?_
      refine ex_iconst 1 dX10_joins_26 kI_1 ?_
      refine mx_cSi [.int a3, .int 0, .int 1] [] (f_X10_within a3 0 1) dX10_joins_27 cl_X10_80 sm_X10_within rfl (Nat.le_of_ble_eq_true rfl) (by decide) (t_X10_within l E a3 0 1 M rfl) ?_
      refine ex_if_ne 35 dX10_joins_30 (by decide) (fun c3 => ?_) (fun c3 => ?_)
      · refine ex_aload_n dX10_joins_35 rfl ?_
        refine mx_getr 10 1 dX10_joins_36 fl_X10_12 oc_at_0 (rf_10_0 oc_at_0) ?_
        refine mx_getr 6 (1 + 21) dX10_joins_39 fl_X10_235 (oc_10_0 oc_at_0) (rf_6_7 (oc_10_0 oc_at_0)) ?_
        refine ex_aload_n dX10_joins_42 rfl ?_
        refine mx_getr 10 1 dX10_joins_43 fl_X10_12 oc_at_0 (rf_10_0 oc_at_0) ?_
        refine mx_getr 6 (1 + 9) dX10_joins_46 fl_X10_123 (oc_10_0 oc_at_0) (rf_6_4 (oc_10_0 oc_at_0)) ?_
        refine ex_iload_n dX10_joins_49 rfl ?_
        refine ex_iload_n dX10_joins_50 rfl ?_
        exact JYC4 (fun z => z.elim c1 (fun z => z.elim c2 c3))
      · exact JXC4 (Or.inr (Or.inr c3))
def w_X10_feastsHeld_22 (a1 : Int32) (a2 : Int32) (i3 : Int32) : Option ((Int32) ⊕ ((Int32) ⊕ (Unit))) :=
  if 20 < i3 then (some (.inr (.inr ()))) else (if (((i3 * a1) * 9) / 10) < a2 then (some (.inl (i3 + 1))) else (some (.inr (.inl i3))))
def f_X10_feastsHeld (a1 : Int32) (a2 : Int32) : Option (Int32) :=
  if (f_X10_within a2 1 999) = 0 then (some (-1)) else (if a1 < a2 then (b1 (lp (fun s => w_X10_feastsHeld_22 a1 a2 s) FU 2) fun q6 => match q6 with | .inl u7 => (some u7) | .inr u8 => (some (-1))) else (some 1))
set_option maxRecDepth 100000 in
set_option maxHeartbeats 4000000 in
theorem t_X10_feastsHeld (l : Launch) (E : EV) (a1 : Int32) (a2 : Int32) (M : Mem) {r : Int32} (h : f_X10_feastsHeld a1 a2 = some r) : RunM l E yX10_feastsHeld cX10_feastsHeld 3 (some .int) 1 [.int a1, .int a2] M M (some (.int r)) := by
  refine RunM.of (by decide) (Nat.le_of_ble_eq_true rfl) ?_
  show XM l E (RX10, "feastsHeld", cX10_feastsHeld, 3) (some .int) 1 0 [some (.int a1), some (.int a2), none] [] M M (some (.int r))
  unfold f_X10_feastsHeld at h
  refine ex_iload_n dX10_feastsHeld_0 rfl ?_
  refine ex_iconst 1 dX10_feastsHeld_1 kI_1 ?_
  refine ex_sipush 999 dX10_feastsHeld_2 kS_999 ?_
  refine mx_cSi [.int a2, .int 1, .int 999] [] (f_X10_within a2 1 999) dX10_feastsHeld_5 cl_X10_80 sm_X10_within rfl (Nat.le_of_ble_eq_true rfl) (by decide) (t_X10_within l E a2 1 999 M rfl) ?_
  refine ex_if_ne 13 dX10_feastsHeld_8 (by decide) (fun c1 => ?_) (fun c1 => ?_)
  · rw [if_neg c1] at h
    refine ex_iload_n dX10_feastsHeld_13 rfl ?_
    refine ex_iload_n dX10_feastsHeld_14 rfl ?_
    refine ex_icmp_lt 20 dX10_feastsHeld_15 (by decide) (fun c2 => ?_) (fun c2 => ?_)
    · rw [if_pos c2] at h
      refine ex_iconst 2 dX10_feastsHeld_20 kI_2 ?_
      refine ex_istore_n (L2 := [some (.int a1), some (.int a2), some (.int 2)]) dX10_feastsHeld_21 (by decide) rfl ?_
      refine ex_mskL [true, true, true] (L2 := [some (.int a1), some (.int a2), some (.int 2)]) rfl ?_
      obtain ⟨q6, hlq6, h⟩ := b1E h
      rcases q6 with u7 | ⟨⟩
      · dsimp only at h
        have hx : XM l E (RX10, "feastsHeld", cX10_feastsHeld, 3) (some .int) 1 41 [none, none, some (.int u7)] [] M M (some (.int r)) := by
          refine ex_iload_n dX10_feastsHeld_41 rfl ?_
          cases h
          exact mx_reti .int dX10_feastsHeld_42 ⟨rfl, rfl⟩
        clear h
        have key : ∀ (k : Nat) (s : Int32), lp (fun s => w_X10_feastsHeld_22 a1 a2 s) k s = some (.inl u7) → XM l E (RX10, "feastsHeld", cX10_feastsHeld, 3) (some .int) 1 22 [some (.int a1), some (.int a2), some (.int s)] [] M M (some (.int r)) := lp_ind (P := fun (s : Int32) => XM l E (RX10, "feastsHeld", cX10_feastsHeld, 3) (some .int) 1 22 [some (.int a1), some (.int a2), some (.int s)] [] M M (some (.int r))) (fun s t hb hk he => by
          revert hb hk he; generalize s = i3; intro hb hk he
          show XM l E (RX10, "feastsHeld", cX10_feastsHeld, 3) (some .int) 1 22 [some (.int a1), some (.int a2), some (.int i3)] [] M M (some (.int r))
          change w_X10_feastsHeld_22 a1 a2 i3 = some t at hb
          unfold w_X10_feastsHeld_22 at hb
          refine ex_iload_n dX10_feastsHeld_22 rfl ?_
          refine ex_bipush 20 dX10_feastsHeld_23 kB_20 ?_
          refine ex_icmp_gt 49 dX10_feastsHeld_25 (by decide) (fun c4 => ?_) (fun c4 => ?_)
          · rw [if_pos c4] at hb
            refine ex_mskL [false, false, false] (L2 := [none, none, none]) rfl ?_
            cases hb
            cases (he _ rfl) <;> exact hx
          · rw [if_neg c4] at hb
            refine ex_iload_n dX10_feastsHeld_28 rfl ?_
            refine ex_iload_n dX10_feastsHeld_29 rfl ?_
            refine ex_imul dX10_feastsHeld_30 ?_
            refine ex_bipush 9 dX10_feastsHeld_31 kB_9 ?_
            refine ex_imul dX10_feastsHeld_33 ?_
            refine ex_bipush 10 dX10_feastsHeld_34 kB_10 ?_
            refine ex_idiv dX10_feastsHeld_36 (by decide) ?_
            refine ex_iload_n dX10_feastsHeld_37 rfl ?_
            refine ex_icmp_lt 43 dX10_feastsHeld_38 (by decide) (fun c5 => ?_) (fun c5 => ?_)
            · rw [if_pos c5] at hb
              refine ex_iinc 1 (L2 := [some (.int a1), some (.int a2), some (.int (i3 + 1))]) dX10_feastsHeld_43 rfl kI_1 (by decide) rfl ?_
              refine ex_goto 22 dX10_feastsHeld_46 (by decide) ?_
              refine ex_mskL [true, true, true] (L2 := [some (.int a1), some (.int a2), some (.int (i3 + 1))]) rfl ?_
              cases hb
              exact hk (i3 + 1) rfl
            · rw [if_neg c5] at hb
              refine ex_mskL [false, false, true] (L2 := [none, none, some (.int i3)]) rfl ?_
              cases hb
              cases (he _ rfl) <;> exact hx)
        exact key FU 2 hlq6
      · dsimp only at h
        have hx : XM l E (RX10, "feastsHeld", cX10_feastsHeld, 3) (some .int) 1 49 [none, none, none] [] M M (some (.int r)) := by
          refine ex_iconst (-1) dX10_feastsHeld_49 kI_m1 ?_
          cases h
          exact mx_reti .int dX10_feastsHeld_50 ⟨rfl, rfl⟩
        clear h
        have key : ∀ (k : Nat) (s : Int32), lp (fun s => w_X10_feastsHeld_22 a1 a2 s) k s = some (.inr ()) → XM l E (RX10, "feastsHeld", cX10_feastsHeld, 3) (some .int) 1 22 [some (.int a1), some (.int a2), some (.int s)] [] M M (some (.int r)) := lp_ind (P := fun (s : Int32) => XM l E (RX10, "feastsHeld", cX10_feastsHeld, 3) (some .int) 1 22 [some (.int a1), some (.int a2), some (.int s)] [] M M (some (.int r))) (fun s t hb hk he => by
          revert hb hk he; generalize s = i3; intro hb hk he
          show XM l E (RX10, "feastsHeld", cX10_feastsHeld, 3) (some .int) 1 22 [some (.int a1), some (.int a2), some (.int i3)] [] M M (some (.int r))
          change w_X10_feastsHeld_22 a1 a2 i3 = some t at hb
          unfold w_X10_feastsHeld_22 at hb
          refine ex_iload_n dX10_feastsHeld_22 rfl ?_
          refine ex_bipush 20 dX10_feastsHeld_23 kB_20 ?_
          refine ex_icmp_gt 49 dX10_feastsHeld_25 (by decide) (fun c4 => ?_) (fun c4 => ?_)
          · rw [if_pos c4] at hb
            refine ex_mskL [false, false, false] (L2 := [none, none, none]) rfl ?_
            cases hb
            cases (he _ rfl) <;> exact hx
          · rw [if_neg c4] at hb
            refine ex_iload_n dX10_feastsHeld_28 rfl ?_
            refine ex_iload_n dX10_feastsHeld_29 rfl ?_
            refine ex_imul dX10_feastsHeld_30 ?_
            refine ex_bipush 9 dX10_feastsHeld_31 kB_9 ?_
            refine ex_imul dX10_feastsHeld_33 ?_
            refine ex_bipush 10 dX10_feastsHeld_34 kB_10 ?_
            refine ex_idiv dX10_feastsHeld_36 (by decide) ?_
            refine ex_iload_n dX10_feastsHeld_37 rfl ?_
            refine ex_icmp_lt 43 dX10_feastsHeld_38 (by decide) (fun c5 => ?_) (fun c5 => ?_)
            · rw [if_pos c5] at hb
              refine ex_iinc 1 (L2 := [some (.int a1), some (.int a2), some (.int (i3 + 1))]) dX10_feastsHeld_43 rfl kI_1 (by decide) rfl ?_
              refine ex_goto 22 dX10_feastsHeld_46 (by decide) ?_
              refine ex_mskL [true, true, true] (L2 := [some (.int a1), some (.int a2), some (.int (i3 + 1))]) rfl ?_
              cases hb
              exact hk (i3 + 1) rfl
            · rw [if_neg c5] at hb
              refine ex_mskL [false, false, true] (L2 := [none, none, some (.int i3)]) rfl ?_
              cases hb
              cases (he _ rfl) <;> exact hx)
        exact key FU 2 hlq6
    · rw [if_neg c2] at h
      refine ex_iconst 1 dX10_feastsHeld_18 kI_1 ?_
      cases h
      exact mx_reti .int dX10_feastsHeld_19 ⟨rfl, rfl⟩
  · rw [if_pos c1] at h
    refine ex_iconst (-1) dX10_feastsHeld_11 kI_m1 ?_
    cases h
    exact mx_reti .int dX10_feastsHeld_12 ⟨rfl, rfl⟩
def f_X10_most (a1 : Int32) (a2 : Int32) (a3 : Int32) (M : Mem) : Option (Mem × Int32) :=
  if ((f_X8_has (1 + 1) a1 M) = 0 ∨ (f_X10_within a3 0 2) = 0) then (some (M, (-1))) else (b2 (f_X6_guestsLeavingMost 1 a1 M) fun M4 x5 => if a3 = 0 then (some (M4, x5)) else (b2 (f_X6_leftByFeast 1 a1 x5 M4) fun M7 x8 => if a3 = 1 then (some (M7, x8)) else (b1 (f_X10_feastsHeld x8 a2) fun x10 => some (M7, x10))))
set_option maxRecDepth 100000 in
set_option maxHeartbeats 4000000 in
theorem t_X10_most (l : Launch) (E : EV) (a1 : Int32) (a2 : Int32) (a3 : Int32) (M : Mem) {M' : Mem} {r : Int32} (h : f_X10_most a1 a2 a3 M = some (M', r)) : RunM l E yX10_most cX10_most 6 (some .int) 5 [.ref 0, .int a1, .int a2, .int a3] M M' (some (.int r)) := by
  refine RunM.of (by decide) (Nat.le_of_ble_eq_true rfl) ?_
  show XM l E (RX10, "most", cX10_most, 6) (some .int) 5 0 [some (.ref 0), some (.int a1), some (.int a2), some (.int a3), none, none] [] M M' (some (.int r))
  unfold f_X10_most at h
  refine ex_aload_n dX10_most_0 rfl ?_
  refine mx_getr 10 1 dX10_most_1 fl_X10_12 oc_at_0 (rf_10_0 oc_at_0) ?_
  refine mx_getr 6 (1 + 1) dX10_most_4 fl_X10_173 (oc_10_0 oc_at_0) (rf_6_0 (oc_10_0 oc_at_0)) ?_
  refine ex_iload_n dX10_most_7 rfl ?_
  refine mx_cVi [.int a1] [] (1 + 1) 8 (f_X8_has (1 + 1) a1 M) dX10_most_8 cl_X10_127 im_X8_has cy_X8_has (oc_6_0 (oc_10_0 oc_at_0)) rfl (Nat.le_of_ble_eq_true rfl) (by decide) (t_X8_has l E (1 + 1) a1 (oc_6_0 (oc_10_0 oc_at_0)) M rfl) ?_
  have JXC3 : ((f_X8_has (1 + 1) a1 M) = 0 ∨ (f_X10_within a3 0 2) = 0) → XM l E (RX10, "most", cX10_most, 6) (some .int) 5 23 [some (.ref 0), some (.int a1), some (.int a2), some (.int a3), none, none] [] M M' (some (.int r)) := fun C3 => by
    rw [if_pos C3] at h
    refine ex_iconst (-1) dX10_most_23 kI_m1 ?_
    cases h
    exact mx_reti .int dX10_most_24 ⟨rfl, rfl⟩
  have JYC3 : ¬ (((f_X8_has (1 + 1) a1 M) = 0 ∨ (f_X10_within a3 0 2) = 0)) → XM l E (RX10, "most", cX10_most, 6) (some .int) 5 30 [some (.ref 0), some (.int a1), some (.int a2), some (.int a3), none, none] [.int a1, .ref 1] M M' (some (.int r)) := fun C3 => by
    rw [if_neg C3] at h
    obtain ⟨M4, x5, qx5, h⟩ := b2E h
    refine mx_cVi [.int a1] [] 1 6 x5 dX10_most_30 cl_X10_245 im_X6_guestsLeavingMost cy_X6_guestsLeavingMost (oc_10_0 oc_at_0) rfl (Nat.le_of_ble_eq_true rfl) (by decide) (t_X6_guestsLeavingMost l E 1 a1 (oc_10_0 oc_at_0) M qx5) ?_
    refine ex_istore (L2 := [some (.ref 0), some (.int a1), some (.int a2), some (.int a3), some (.int x5), none]) dX10_most_33 (by decide) rfl ?_
    refine ex_iload_n dX10_most_35 rfl ?_
    refine ex_if_ne 42 dX10_most_36 (by decide) (fun c6 => ?_) (fun c6 => ?_)
    · rw [if_neg c6] at h
      refine ex_aload_n dX10_most_42 rfl ?_
      refine mx_getr 10 1 dX10_most_43 fl_X10_12 oc_at_0 (rf_10_0 oc_at_0) ?_
      refine ex_iload_n dX10_most_46 rfl ?_
      refine ex_iload dX10_most_47 rfl ?_
      obtain ⟨M7, x8, qx8, h⟩ := b2E h
      refine mx_cVi [.int a1, .int x5] [] 1 6 x8 dX10_most_49 cl_X10_211 im_X6_leftByFeast cy_X6_leftByFeast (oc_10_0 oc_at_0) rfl (Nat.le_of_ble_eq_true rfl) (by decide) (t_X6_leftByFeast l E 1 a1 x5 (oc_10_0 oc_at_0) M4 qx8) ?_
      refine ex_istore (L2 := [some (.ref 0), some (.int a1), some (.int a2), some (.int a3), some (.int x5), some (.int x8)]) dX10_most_52 (by decide) rfl ?_
      refine ex_iload_n dX10_most_54 rfl ?_
      refine ex_iconst 1 dX10_most_55 kI_1 ?_
      refine ex_icmp_ne 64 dX10_most_56 (by decide) (fun c9 => ?_) (fun c9 => ?_)
      · rw [if_neg c9] at h
        refine ex_iload dX10_most_64 rfl ?_
        refine ex_iload_n dX10_most_66 rfl ?_
        obtain ⟨x10, qx10, h⟩ := b1E h
        refine mx_cSi [.int x8, .int a2] [] x10 dX10_most_67 cl_X10_248 sm_X10_feastsHeld rfl (Nat.le_of_ble_eq_true rfl) (by decide) (t_X10_feastsHeld l E x8 a2 M7 qx10) ?_
        cases h
        exact mx_reti .int dX10_most_70 ⟨rfl, rfl⟩
      · rw [if_pos c9] at h
        refine ex_iload dX10_most_59 rfl ?_
        refine ex_goto 70 dX10_most_61 (by decide) ?_
        cases h
        exact mx_reti .int dX10_most_70 ⟨rfl, rfl⟩
    · rw [if_pos c6] at h
      refine ex_iload dX10_most_39 rfl ?_
      cases h
      exact mx_reti .int dX10_most_41 ⟨rfl, rfl⟩
  clear h
  refine ex_if_eq 23 dX10_most_11 (by decide) (fun c1 => ?_) (fun c1 => ?_)
  · exact JXC3 (Or.inl c1)
  · refine ex_iload_n dX10_most_14 rfl ?_
    refine ex_iconst 0 dX10_most_15 kI_0 ?_
    refine ex_iconst 2 dX10_most_16 kI_2 ?_
    refine mx_cSi [.int a3, .int 0, .int 2] [] (f_X10_within a3 0 2) dX10_most_17 cl_X10_80 sm_X10_within rfl (Nat.le_of_ble_eq_true rfl) (by decide) (t_X10_within l E a3 0 2 M rfl) ?_
    refine ex_if_ne 25 dX10_most_20 (by decide) (fun c2 => ?_) (fun c2 => ?_)
    · refine ex_aload_n dX10_most_25 rfl ?_
      refine mx_getr 10 1 dX10_most_26 fl_X10_12 oc_at_0 (rf_10_0 oc_at_0) ?_
      refine ex_iload_n dX10_most_29 rfl ?_
      exact JYC3 (fun z => z.elim c1 c2)
    · exact JXC3 (Or.inr c2)
def f_X10_piece (a1 : Int32) (a2 : Int32) (M : Mem) : Option (Mem × Int32) :=
  if a1 = (-1) then (lt (f_X8_empty (79 + 1) M) fun p7 => some (p7.1, p7.2)) else (if ((f_X10_within a1 1 30) = 0 ∨ (f_X10_within a2 1 99) = 0) then (some (M, (-1))) else (b2 (f_X8_addTold (79 + 1) a1 a2 0 0 M) fun M5 x6 => some (M5, x6)))
set_option maxRecDepth 100000 in
set_option maxHeartbeats 4000000 in
theorem t_X10_piece (l : Launch) (E : EV) (a1 : Int32) (a2 : Int32) (M : Mem) {M' : Mem} {r : Int32} (h : f_X10_piece a1 a2 M = some (M', r)) : RunM l E yX10_piece cX10_piece 3 (some .int) 5 [.ref 0, .int a1, .int a2] M M' (some (.int r)) := by
  refine RunM.of (by decide) (Nat.le_of_ble_eq_true rfl) ?_
  show XM l E (RX10, "piece", cX10_piece, 3) (some .int) 5 0 [some (.ref 0), some (.int a1), some (.int a2)] [] M M' (some (.int r))
  unfold f_X10_piece at h
  refine ex_iload_n dX10_piece_0 rfl ?_
  refine ex_iconst (-1) dX10_piece_1 kI_m1 ?_
  refine ex_icmp_ne 16 dX10_piece_2 (by decide) (fun c1 => ?_) (fun c1 => ?_)
  · rw [if_neg c1] at h
    refine ex_iload_n dX10_piece_16 rfl ?_
    refine ex_iconst 1 dX10_piece_17 kI_1 ?_
    refine ex_bipush 30 dX10_piece_18 kB_30 ?_
    refine mx_cSi [.int a1, .int 1, .int 30] [] (f_X10_within a1 1 30) dX10_piece_20 cl_X10_80 sm_X10_within rfl (Nat.le_of_ble_eq_true rfl) (by decide) (t_X10_within l E a1 1 30 M rfl) ?_
    have JXC4 : ((f_X10_within a1 1 30) = 0 ∨ (f_X10_within a2 1 99) = 0) → XM l E (RX10, "piece", cX10_piece, 3) (some .int) 5 36 [some (.ref 0), some (.int a1), some (.int a2)] [] M M' (some (.int r)) := fun C4 => by
      rw [if_pos C4] at h
      refine ex_iconst (-1) dX10_piece_36 kI_m1 ?_
      cases h
      exact mx_reti .int dX10_piece_37 ⟨rfl, rfl⟩
    have JYC4 : ¬ (((f_X10_within a1 1 30) = 0 ∨ (f_X10_within a2 1 99) = 0)) → XM l E (RX10, "piece", cX10_piece, 3) (some .int) 5 49 [some (.ref 0), some (.int a1), some (.int a2)] [.int 0, .int 0, .int a2, .int a1, .ref (79 + 1)] M M' (some (.int r)) := fun C4 => by
      rw [if_neg C4] at h
      obtain ⟨M5, x6, qx6, h⟩ := b2E h
      refine mx_cVi [.int a1, .int a2, .int 0, .int 0] [] (79 + 1) 8 x6 dX10_piece_49 cl_X10_257 im_X8_addTold cy_X8_addTold (oc_5_0 (oc_10_3 oc_at_0)) rfl (Nat.le_of_ble_eq_true rfl) (by decide) (t_X8_addTold l E (79 + 1) a1 a2 0 0 (oc_5_0 (oc_10_3 oc_at_0)) M qx6) ?_
      cases h
      exact mx_reti .int dX10_piece_52 ⟨rfl, rfl⟩
    clear h
    refine ex_if_eq 36 dX10_piece_23 (by decide) (fun c2 => ?_) (fun c2 => ?_)
    · exact JXC4 (Or.inl c2)
    · refine ex_iload_n dX10_piece_26 rfl ?_
      refine ex_iconst 1 dX10_piece_27 kI_1 ?_
      refine ex_bipush 99 dX10_piece_28 kB_99 ?_
      refine mx_cSi [.int a2, .int 1, .int 99] [] (f_X10_within a2 1 99) dX10_piece_30 cl_X10_80 sm_X10_within rfl (Nat.le_of_ble_eq_true rfl) (by decide) (t_X10_within l E a2 1 99 M rfl) ?_
      refine ex_if_ne 38 dX10_piece_33 (by decide) (fun c3 => ?_) (fun c3 => ?_)
      · refine ex_aload_n dX10_piece_38 rfl ?_
        refine mx_getr 10 79 dX10_piece_39 fl_X10_25 oc_at_0 (rf_10_3 oc_at_0) ?_
        refine mx_getr 5 (79 + 1) dX10_piece_42 fl_X10_251 (oc_10_3 oc_at_0) (rf_5_0 (oc_10_3 oc_at_0)) ?_
        refine ex_iload_n dX10_piece_45 rfl ?_
        refine ex_iload_n dX10_piece_46 rfl ?_
        refine ex_iconst 0 dX10_piece_47 kI_0 ?_
        refine ex_iconst 0 dX10_piece_48 kI_0 ?_
        exact JYC4 (fun z => z.elim c2 c3)
      · exact JXC4 (Or.inr c3)
  · rw [if_pos c1] at h
    refine ex_aload_n dX10_piece_5 rfl ?_
    refine mx_getr 10 79 dX10_piece_6 fl_X10_25 oc_at_0 (rf_10_3 oc_at_0) ?_
    refine mx_getr 5 (79 + 1) dX10_piece_9 fl_X10_251 (oc_10_3 oc_at_0) (rf_5_0 (oc_10_3 oc_at_0)) ?_
    obtain ⟨p7, ep7, h⟩ := ltE h
    refine mx_cVi [] [] (79 + 1) 8 p7.2 dX10_piece_12 cl_X10_254 im_X8_empty cy_X8_empty (oc_5_0 (oc_10_3 oc_at_0)) rfl (Nat.le_of_ble_eq_true rfl) (by decide) (t_X8_empty l E (79 + 1) (oc_5_0 (oc_10_3 oc_at_0)) M ep7.symm) ?_
    cases h
    exact mx_reti .int dX10_piece_15 ⟨rfl, rfl⟩
def f_X10_cuts (a1 : Int32) (a2 : Int32) (M : Mem) : Option (Mem × Int32) :=
  if ((f_X10_within a1 0 99) = 0 ∨ (¬ (a2 = 0) ∧ (a2 < 10 ∨ (f_X8_has (79 + 1) (a2 - 10) M) = 0))) then (some (M, (-1))) else (b1 (f_X5_weighBolt 79 a1 M) fun M6 => if a2 = 0 then (b1 (f_X5_boltWorth 79 a1 M6) fun x9 => some (M6, x9)) else (b1 (f_X5_piecesInBolt 79 a1 (a2 - 10) M6) fun x8 => some (M6, x8)))
set_option maxRecDepth 100000 in
set_option maxHeartbeats 4000000 in
theorem t_X10_cuts (l : Launch) (E : EV) (a1 : Int32) (a2 : Int32) (M : Mem) {M' : Mem} {r : Int32} (h : f_X10_cuts a1 a2 M = some (M', r)) : RunM l E yX10_cuts cX10_cuts 4 (some .int) 4 [.ref 0, .int a1, .int a2] M M' (some (.int r)) := by
  refine RunM.of (by decide) (Nat.le_of_ble_eq_true rfl) ?_
  show XM l E (RX10, "cuts", cX10_cuts, 4) (some .int) 4 0 [some (.ref 0), some (.int a1), some (.int a2), none] [] M M' (some (.int r))
  unfold f_X10_cuts at h
  refine ex_iload_n dX10_cuts_0 rfl ?_
  refine ex_bipush 10 dX10_cuts_1 kB_10 ?_
  refine ex_isub dX10_cuts_3 ?_
  refine ex_istore_n (L2 := [some (.ref 0), some (.int a1), some (.int a2), some (.int (a2 - 10))]) dX10_cuts_4 (by decide) rfl ?_
  refine ex_iload_n dX10_cuts_5 rfl ?_
  refine ex_iconst 0 dX10_cuts_6 kI_0 ?_
  refine ex_bipush 99 dX10_cuts_7 kB_99 ?_
  refine mx_cSi [.int a1, .int 0, .int 99] [] (f_X10_within a1 0 99) dX10_cuts_9 cl_X10_80 sm_X10_within rfl (Nat.le_of_ble_eq_true rfl) (by decide) (t_X10_within l E a1 0 99 M rfl) ?_
  have JXC5 : ((f_X10_within a1 0 99) = 0 ∨ (¬ (a2 = 0) ∧ (a2 < 10 ∨ (f_X8_has (79 + 1) (a2 - 10) M) = 0))) → XM l E (RX10, "cuts", cX10_cuts, 4) (some .int) 4 39 [some (.ref 0), some (.int a1), some (.int a2), some (.int (a2 - 10))] [] M M' (some (.int r)) := fun C5 => by
    rw [if_pos C5] at h
    refine ex_iconst (-1) dX10_cuts_39 kI_m1 ?_
    cases h
    exact mx_reti .int dX10_cuts_40 ⟨rfl, rfl⟩
  have JYC5 : ¬ (((f_X10_within a1 0 99) = 0 ∨ (¬ (a2 = 0) ∧ (a2 < 10 ∨ (f_X8_has (79 + 1) (a2 - 10) M) = 0)))) → XM l E (RX10, "cuts", cX10_cuts, 4) (some .int) 4 41 [some (.ref 0), some (.int a1), some (.int a2), some (.int (a2 - 10))] [] M M' (some (.int r)) := fun C5 => by
    rw [if_neg C5] at h
    refine ex_aload_n dX10_cuts_41 rfl ?_
    refine mx_getr 10 79 dX10_cuts_42 fl_X10_25 oc_at_0 (rf_10_3 oc_at_0) ?_
    refine ex_iload_n dX10_cuts_45 rfl ?_
    obtain ⟨M6, qM6, h⟩ := b1E h
    refine mx_cVv [.int a1] [] 79 5 dX10_cuts_46 cl_X10_261 im_X5_weighBolt cy_X5_weighBolt (oc_10_3 oc_at_0) rfl (Nat.le_of_ble_eq_true rfl) (by decide) (t_X5_weighBolt l E 79 a1 (oc_10_3 oc_at_0) M qM6) ?_
    refine ex_iload_n dX10_cuts_49 rfl ?_
    refine ex_if_ne 64 dX10_cuts_50 (by decide) (fun c7 => ?_) (fun c7 => ?_)
    · rw [if_neg c7] at h
      refine ex_aload_n dX10_cuts_64 rfl ?_
      refine mx_getr 10 79 dX10_cuts_65 fl_X10_25 oc_at_0 (rf_10_3 oc_at_0) ?_
      refine ex_iload_n dX10_cuts_68 rfl ?_
      refine ex_iload_n dX10_cuts_69 rfl ?_
      obtain ⟨x8, qx8, h⟩ := b1E h
      refine mx_cVi [.int a1, .int (a2 - 10)] [] 79 5 x8 dX10_cuts_70 cl_X10_267 im_X5_piecesInBolt cy_X5_piecesInBolt (oc_10_3 oc_at_0) rfl (Nat.le_of_ble_eq_true rfl) (by decide) (t_X5_piecesInBolt l E 79 a1 (a2 - 10) (oc_10_3 oc_at_0) M6 qx8) ?_
      cases h
      exact mx_reti .int dX10_cuts_73 ⟨rfl, rfl⟩
    · rw [if_pos c7] at h
      refine ex_aload_n dX10_cuts_53 rfl ?_
      refine mx_getr 10 79 dX10_cuts_54 fl_X10_25 oc_at_0 (rf_10_3 oc_at_0) ?_
      refine ex_iload_n dX10_cuts_57 rfl ?_
      obtain ⟨x9, qx9, h⟩ := b1E h
      refine mx_cVi [.int a1] [] 79 5 x9 dX10_cuts_58 cl_X10_264 im_X5_boltWorth cy_X5_boltWorth (oc_10_3 oc_at_0) rfl (Nat.le_of_ble_eq_true rfl) (by decide) (t_X5_boltWorth l E 79 a1 (oc_10_3 oc_at_0) M6 qx9) ?_
      refine ex_goto 73 dX10_cuts_61 (by decide) ?_
      cases h
      exact mx_reti .int dX10_cuts_73 ⟨rfl, rfl⟩
  clear h
  refine ex_if_eq 39 dX10_cuts_12 (by decide) (fun c1 => ?_) (fun c1 => ?_)
  · exact JXC5 (Or.inl c1)
  · refine ex_iload_n dX10_cuts_15 rfl ?_
    refine ex_if_eq 41 dX10_cuts_16 (by decide) (fun c2 => ?_) (fun c2 => ?_)
    · exact JYC5 (fun z => z.elim c1 (fun z => z.1 c2))
    · refine ex_iload_n dX10_cuts_19 rfl ?_
      refine ex_bipush 10 dX10_cuts_20 kB_10 ?_
      refine ex_icmp_lt 39 dX10_cuts_22 (by decide) (fun c3 => ?_) (fun c3 => ?_)
      · exact JXC5 (Or.inr ⟨c2, (Or.inl c3)⟩)
      · refine ex_aload_n dX10_cuts_25 rfl ?_
        refine mx_getr 10 79 dX10_cuts_26 fl_X10_25 oc_at_0 (rf_10_3 oc_at_0) ?_
        refine mx_getr 5 (79 + 1) dX10_cuts_29 fl_X10_251 (oc_10_3 oc_at_0) (rf_5_0 (oc_10_3 oc_at_0)) ?_
        refine ex_iload_n dX10_cuts_32 rfl ?_
        refine mx_cVi [.int (a2 - 10)] [] (79 + 1) 8 (f_X8_has (79 + 1) (a2 - 10) M) dX10_cuts_33 cl_X10_127 im_X8_has cy_X8_has (oc_5_0 (oc_10_3 oc_at_0)) rfl (Nat.le_of_ble_eq_true rfl) (by decide) (t_X8_has l E (79 + 1) (a2 - 10) (oc_5_0 (oc_10_3 oc_at_0)) M rfl) ?_
        refine ex_if_ne 41 dX10_cuts_36 (by decide) (fun c4 => ?_) (fun c4 => ?_)
        · exact JYC5 (fun z => z.elim c1 (fun z => (fun z => z.elim c3 c4) z.2))
        · exact JXC5 (Or.inr ⟨c2, (Or.inr c4)⟩)
def f_X10_stalls (a1 : Int32) (M : Mem) : Option (Mem × Int32) :=
  if (f_X10_within a1 1 99) = 0 then (some (M, (-1))) else (b2 (f_X0_fewestStalls (1 + 9) a1 M) fun M2 x3 => some (M2, x3))
set_option maxRecDepth 100000 in
set_option maxHeartbeats 4000000 in
theorem t_X10_stalls (l : Launch) (E : EV) (a1 : Int32) (M : Mem) {M' : Mem} {r : Int32} (h : f_X10_stalls a1 M = some (M', r)) : RunM l E yX10_stalls cX10_stalls 2 (some .int) 3 [.ref 0, .int a1] M M' (some (.int r)) := by
  refine RunM.of (by decide) (Nat.le_of_ble_eq_true rfl) ?_
  show XM l E (RX10, "stalls", cX10_stalls, 2) (some .int) 3 0 [some (.ref 0), some (.int a1)] [] M M' (some (.int r))
  unfold f_X10_stalls at h
  refine ex_iload_n dX10_stalls_0 rfl ?_
  refine ex_iconst 1 dX10_stalls_1 kI_1 ?_
  refine ex_bipush 99 dX10_stalls_2 kB_99 ?_
  refine mx_cSi [.int a1, .int 1, .int 99] [] (f_X10_within a1 1 99) dX10_stalls_4 cl_X10_80 sm_X10_within rfl (Nat.le_of_ble_eq_true rfl) (by decide) (t_X10_within l E a1 1 99 M rfl) ?_
  refine ex_if_eq 28 dX10_stalls_7 (by decide) (fun c1 => ?_) (fun c1 => ?_)
  · rw [if_pos c1] at h
    refine ex_iconst (-1) dX10_stalls_28 kI_m1 ?_
    cases h
    exact mx_reti .int dX10_stalls_29 ⟨rfl, rfl⟩
  · rw [if_neg c1] at h
    refine ex_aload_n dX10_stalls_10 rfl ?_
    refine mx_getr 10 151 dX10_stalls_11 fl_X10_65 oc_at_0 (rf_10_9 oc_at_0) ?_
    refine ex_aload_n dX10_stalls_14 rfl ?_
    refine mx_getr 10 1 dX10_stalls_15 fl_X10_12 oc_at_0 (rf_10_0 oc_at_0) ?_
    refine mx_getr 6 (1 + 9) dX10_stalls_18 fl_X10_123 (oc_10_0 oc_at_0) (rf_6_4 (oc_10_0 oc_at_0)) ?_
    refine ex_iload_n dX10_stalls_21 rfl ?_
    obtain ⟨M2, x3, qx3, h⟩ := b2E h
    refine mx_cVi [.ref (1 + 9), .int a1] [] 151 0 x3 dX10_stalls_22 cl_X10_270 im_X0_fewestStalls cy_X0_fewestStalls (oc_10_9 oc_at_0) rfl (Nat.le_of_ble_eq_true rfl) (by decide) (t_X0_fewestStalls l E (1 + 9) a1 (oc_6_4 (oc_10_0 oc_at_0)) M qx3) ?_
    refine ex_goto 29 dX10_stalls_25 (by decide) ?_
    cases h
    exact mx_reti .int dX10_stalls_29 ⟨rfl, rfl⟩
def f_X10_test (a1 : Int32) (a2 : Int32) (M : Mem) : Option (Mem × Int32) :=
  if a1 = (-1) then (lt (f_X8_empty (79 + 3) M) fun p7 => some (p7.1, p7.2)) else (if ((f_X10_within a1 1 999) = 0 ∨ (f_X10_within a2 1 999) = 0) then (some (M, (-1))) else (b2 (f_X8_addTold (79 + 3) a1 a2 0 0 M) fun M5 x6 => some (M5, x6)))
set_option maxRecDepth 100000 in
set_option maxHeartbeats 4000000 in
theorem t_X10_test (l : Launch) (E : EV) (a1 : Int32) (a2 : Int32) (M : Mem) {M' : Mem} {r : Int32} (h : f_X10_test a1 a2 M = some (M', r)) : RunM l E yX10_test cX10_test 3 (some .int) 5 [.ref 0, .int a1, .int a2] M M' (some (.int r)) := by
  refine RunM.of (by decide) (Nat.le_of_ble_eq_true rfl) ?_
  show XM l E (RX10, "test", cX10_test, 3) (some .int) 5 0 [some (.ref 0), some (.int a1), some (.int a2)] [] M M' (some (.int r))
  unfold f_X10_test at h
  refine ex_iload_n dX10_test_0 rfl ?_
  refine ex_iconst (-1) dX10_test_1 kI_m1 ?_
  refine ex_icmp_ne 16 dX10_test_2 (by decide) (fun c1 => ?_) (fun c1 => ?_)
  · rw [if_neg c1] at h
    refine ex_iload_n dX10_test_16 rfl ?_
    refine ex_iconst 1 dX10_test_17 kI_1 ?_
    refine ex_sipush 999 dX10_test_18 kS_999 ?_
    refine mx_cSi [.int a1, .int 1, .int 999] [] (f_X10_within a1 1 999) dX10_test_21 cl_X10_80 sm_X10_within rfl (Nat.le_of_ble_eq_true rfl) (by decide) (t_X10_within l E a1 1 999 M rfl) ?_
    have JXC4 : ((f_X10_within a1 1 999) = 0 ∨ (f_X10_within a2 1 999) = 0) → XM l E (RX10, "test", cX10_test, 3) (some .int) 5 38 [some (.ref 0), some (.int a1), some (.int a2)] [] M M' (some (.int r)) := fun C4 => by
      rw [if_pos C4] at h
      refine ex_iconst (-1) dX10_test_38 kI_m1 ?_
      cases h
      exact mx_reti .int dX10_test_39 ⟨rfl, rfl⟩
    have JYC4 : ¬ (((f_X10_within a1 1 999) = 0 ∨ (f_X10_within a2 1 999) = 0)) → XM l E (RX10, "test", cX10_test, 3) (some .int) 5 51 [some (.ref 0), some (.int a1), some (.int a2)] [.int 0, .int 0, .int a2, .int a1, .ref (79 + 3)] M M' (some (.int r)) := fun C4 => by
      rw [if_neg C4] at h
      obtain ⟨M5, x6, qx6, h⟩ := b2E h
      refine mx_cVi [.int a1, .int a2, .int 0, .int 0] [] (79 + 3) 8 x6 dX10_test_51 cl_X10_257 im_X8_addTold cy_X8_addTold (oc_5_1 (oc_10_3 oc_at_0)) rfl (Nat.le_of_ble_eq_true rfl) (by decide) (t_X8_addTold l E (79 + 3) a1 a2 0 0 (oc_5_1 (oc_10_3 oc_at_0)) M qx6) ?_
      cases h
      exact mx_reti .int dX10_test_54 ⟨rfl, rfl⟩
    clear h
    refine ex_if_eq 38 dX10_test_24 (by decide) (fun c2 => ?_) (fun c2 => ?_)
    · exact JXC4 (Or.inl c2)
    · refine ex_iload_n dX10_test_27 rfl ?_
      refine ex_iconst 1 dX10_test_28 kI_1 ?_
      refine ex_sipush 999 dX10_test_29 kS_999 ?_
      refine mx_cSi [.int a2, .int 1, .int 999] [] (f_X10_within a2 1 999) dX10_test_32 cl_X10_80 sm_X10_within rfl (Nat.le_of_ble_eq_true rfl) (by decide) (t_X10_within l E a2 1 999 M rfl) ?_
      refine ex_if_ne 40 dX10_test_35 (by decide) (fun c3 => ?_) (fun c3 => ?_)
      · refine ex_aload_n dX10_test_40 rfl ?_
        refine mx_getr 10 79 dX10_test_41 fl_X10_25 oc_at_0 (rf_10_3 oc_at_0) ?_
        refine mx_getr 5 (79 + 3) dX10_test_44 fl_X10_274 (oc_10_3 oc_at_0) (rf_5_1 (oc_10_3 oc_at_0)) ?_
        refine ex_iload_n dX10_test_47 rfl ?_
        refine ex_iload_n dX10_test_48 rfl ?_
        refine ex_iconst 0 dX10_test_49 kI_0 ?_
        refine ex_iconst 0 dX10_test_50 kI_0 ?_
        exact JYC4 (fun z => z.elim c2 c3)
      · exact JXC4 (Or.inr c3)
  · rw [if_pos c1] at h
    refine ex_aload_n dX10_test_5 rfl ?_
    refine mx_getr 10 79 dX10_test_6 fl_X10_25 oc_at_0 (rf_10_3 oc_at_0) ?_
    refine mx_getr 5 (79 + 3) dX10_test_9 fl_X10_274 (oc_10_3 oc_at_0) (rf_5_1 (oc_10_3 oc_at_0)) ?_
    obtain ⟨p7, ep7, h⟩ := ltE h
    refine mx_cVi [] [] (79 + 3) 8 p7.2 dX10_test_12 cl_X10_254 im_X8_empty cy_X8_empty (oc_5_1 (oc_10_3 oc_at_0)) rfl (Nat.le_of_ble_eq_true rfl) (by decide) (t_X8_empty l E (79 + 3) (oc_5_1 (oc_10_3 oc_at_0)) M ep7.symm) ?_
    cases h
    exact mx_reti .int dX10_test_15 ⟨rfl, rfl⟩
def f_X10_forged (a1 : Int32) (a2 : Int32) (a3 : Int32) (M : Mem) : Option (Int32) :=
  lt ((1 <<< ((M (79 + 3) 3) &&& 31)) - 1) fun x1 => if ((f_X10_within a1 0 1000) = 0 ∨ ((f_X10_within a2 0 x1) = 0 ∨ ((f_X10_within a3 0 x1) = 0 ∨ ¬ ((a2 &&& a3) = 0)))) then (some (-1)) else (b1 (f_X5_oddsForged 79 a1 a2 a3 M) fun x7 => some x7)
set_option maxRecDepth 100000 in
set_option maxHeartbeats 4000000 in
theorem t_X10_forged (l : Launch) (E : EV) (a1 : Int32) (a2 : Int32) (a3 : Int32) (M : Mem) {r : Int32} (h : f_X10_forged a1 a2 a3 M = some r) : RunM l E yX10_forged cX10_forged 5 (some .int) 3 [.ref 0, .int a1, .int a2, .int a3] M M (some (.int r)) := by
  refine RunM.of (by decide) (Nat.le_of_ble_eq_true rfl) ?_
  show XM l E (RX10, "forged", cX10_forged, 5) (some .int) 3 0 [some (.ref 0), some (.int a1), some (.int a2), some (.int a3), none] [] M M (some (.int r))
  unfold f_X10_forged at h
  refine ex_iconst 1 dX10_forged_0 kI_1 ?_
  refine ex_aload_n dX10_forged_1 rfl ?_
  refine mx_getr 10 79 dX10_forged_2 fl_X10_25 oc_at_0 (rf_10_3 oc_at_0) ?_
  refine mx_getr 5 (79 + 3) dX10_forged_5 fl_X10_274 (oc_10_3 oc_at_0) (rf_5_1 (oc_10_3 oc_at_0)) ?_
  refine mx_geti 8 dX10_forged_8 fl_X10_176 (oc_5_1 (oc_10_3 oc_at_0)) (isi_8_3 (oc_5_1 (oc_10_3 oc_at_0))) ?_
  refine ex_ishl dX10_forged_11 ?_
  refine ex_iconst 1 dX10_forged_12 kI_1 ?_
  refine ex_isub dX10_forged_13 ?_
  obtain ⟨x1, ex1, h⟩ := ltE h
  rw [← ex1]
  refine ex_istore (L2 := [some (.ref 0), some (.int a1), some (.int a2), some (.int a3), some (.int x1)]) dX10_forged_14 (by decide) rfl ?_
  refine ex_iload_n dX10_forged_16 rfl ?_
  refine ex_iconst 0 dX10_forged_17 kI_0 ?_
  refine ex_sipush 1000 dX10_forged_18 kS_1000 ?_
  refine mx_cSi [.int a1, .int 0, .int 1000] [] (f_X10_within a1 0 1000) dX10_forged_21 cl_X10_80 sm_X10_within rfl (Nat.le_of_ble_eq_true rfl) (by decide) (t_X10_within l E a1 0 1000 M rfl) ?_
  have JXC6 : ((f_X10_within a1 0 1000) = 0 ∨ ((f_X10_within a2 0 x1) = 0 ∨ ((f_X10_within a3 0 x1) = 0 ∨ ¬ ((a2 &&& a3) = 0)))) → XM l E (RX10, "forged", cX10_forged, 5) (some .int) 3 53 [some (.ref 0), some (.int a1), some (.int a2), some (.int a3), some (.int x1)] [] M M (some (.int r)) := fun C6 => by
    rw [if_pos C6] at h
    refine ex_iconst (-1) dX10_forged_53 kI_m1 ?_
    cases h
    exact mx_reti .int dX10_forged_54 ⟨rfl, rfl⟩
  have JYC6 : ¬ (((f_X10_within a1 0 1000) = 0 ∨ ((f_X10_within a2 0 x1) = 0 ∨ ((f_X10_within a3 0 x1) = 0 ∨ ¬ ((a2 &&& a3) = 0))))) → XM l E (RX10, "forged", cX10_forged, 5) (some .int) 3 62 [some (.ref 0), some (.int a1), some (.int a2), some (.int a3), some (.int x1)] [.int a3, .int a2, .int a1, .ref 79] M M (some (.int r)) := fun C6 => by
    rw [if_neg C6] at h
    obtain ⟨x7, qx7, h⟩ := b1E h
    refine mx_cVi [.int a1, .int a2, .int a3] [] 79 5 x7 dX10_forged_62 cl_X10_277 im_X5_oddsForged cy_X5_oddsForged (oc_10_3 oc_at_0) rfl (Nat.le_of_ble_eq_true rfl) (by decide) (t_X5_oddsForged l E 79 a1 a2 a3 (oc_10_3 oc_at_0) M qx7) ?_
    cases h
    exact mx_reti .int dX10_forged_65 ⟨rfl, rfl⟩
  clear h
  refine ex_if_eq 53 dX10_forged_24 (by decide) (fun c2 => ?_) (fun c2 => ?_)
  · exact JXC6 (Or.inl c2)
  · refine ex_iload_n dX10_forged_27 rfl ?_
    refine ex_iconst 0 dX10_forged_28 kI_0 ?_
    refine ex_iload dX10_forged_29 rfl ?_
    refine mx_cSi [.int a2, .int 0, .int x1] [] (f_X10_within a2 0 x1) dX10_forged_31 cl_X10_80 sm_X10_within rfl (Nat.le_of_ble_eq_true rfl) (by decide) (t_X10_within l E a2 0 x1 M rfl) ?_
    refine ex_if_eq 53 dX10_forged_34 (by decide) (fun c3 => ?_) (fun c3 => ?_)
    · exact JXC6 (Or.inr (Or.inl c3))
    · refine ex_iload_n dX10_forged_37 rfl ?_
      refine ex_iconst 0 dX10_forged_38 kI_0 ?_
      refine ex_iload dX10_forged_39 rfl ?_
      refine mx_cSi [.int a3, .int 0, .int x1] [] (f_X10_within a3 0 x1) dX10_forged_41 cl_X10_80 sm_X10_within rfl (Nat.le_of_ble_eq_true rfl) (by decide) (t_X10_within l E a3 0 x1 M rfl) ?_
      refine ex_if_eq 53 dX10_forged_44 (by decide) (fun c4 => ?_) (fun c4 => ?_)
      · exact JXC6 (Or.inr (Or.inr (Or.inl c4)))
      · refine ex_iload_n dX10_forged_47 rfl ?_
        refine ex_iload_n dX10_forged_48 rfl ?_
        refine ex_iand dX10_forged_49 ?_
        refine ex_if_eq 55 dX10_forged_50 (by decide) (fun c5 => ?_) (fun c5 => ?_)
        · refine ex_aload_n dX10_forged_55 rfl ?_
          refine mx_getr 10 79 dX10_forged_56 fl_X10_25 oc_at_0 (rf_10_3 oc_at_0) ?_
          refine ex_iload_n dX10_forged_59 rfl ?_
          refine ex_iload_n dX10_forged_60 rfl ?_
          refine ex_iload_n dX10_forged_61 rfl ?_
          exact JYC6 (fun z => z.elim c2 (fun z => z.elim c3 (fun z => z.elim c4 (fun z => z c5))))
        · exact JXC6 (Or.inr (Or.inr (Or.inr c5)))
def f_X10_lookAt (a1 : Int32) (M : Mem) : Option (Int32) :=
  if (f_X10_within a1 0 1000) = 0 then (some (-1)) else (b1 (f_X5_testToLookAt 79 a1 M) fun x2 => some x2)
set_option maxRecDepth 100000 in
set_option maxHeartbeats 4000000 in
theorem t_X10_lookAt (l : Launch) (E : EV) (a1 : Int32) (M : Mem) {r : Int32} (h : f_X10_lookAt a1 M = some r) : RunM l E yX10_lookAt cX10_lookAt 2 (some .int) 4 [.ref 0, .int a1] M M (some (.int r)) := by
  refine RunM.of (by decide) (Nat.le_of_ble_eq_true rfl) ?_
  show XM l E (RX10, "lookAt", cX10_lookAt, 2) (some .int) 4 0 [some (.ref 0), some (.int a1)] [] M M (some (.int r))
  unfold f_X10_lookAt at h
  refine ex_iload_n dX10_lookAt_0 rfl ?_
  refine ex_iconst 0 dX10_lookAt_1 kI_0 ?_
  refine ex_sipush 1000 dX10_lookAt_2 kS_1000 ?_
  refine mx_cSi [.int a1, .int 0, .int 1000] [] (f_X10_within a1 0 1000) dX10_lookAt_5 cl_X10_80 sm_X10_within rfl (Nat.le_of_ble_eq_true rfl) (by decide) (t_X10_within l E a1 0 1000 M rfl) ?_
  refine ex_if_eq 22 dX10_lookAt_8 (by decide) (fun c1 => ?_) (fun c1 => ?_)
  · rw [if_pos c1] at h
    refine ex_iconst (-1) dX10_lookAt_22 kI_m1 ?_
    cases h
    exact mx_reti .int dX10_lookAt_23 ⟨rfl, rfl⟩
  · rw [if_neg c1] at h
    refine ex_aload_n dX10_lookAt_11 rfl ?_
    refine mx_getr 10 79 dX10_lookAt_12 fl_X10_25 oc_at_0 (rf_10_3 oc_at_0) ?_
    refine ex_iload_n dX10_lookAt_15 rfl ?_
    obtain ⟨x2, qx2, h⟩ := b1E h
    refine mx_cVi [.int a1] [] 79 5 x2 dX10_lookAt_16 cl_X10_281 im_X5_testToLookAt cy_X5_testToLookAt (oc_10_3 oc_at_0) rfl (Nat.le_of_ble_eq_true rfl) (by decide) (t_X5_testToLookAt l E 79 a1 (oc_10_3 oc_at_0) M qx2) ?_
    refine ex_goto 23 dX10_lookAt_19 (by decide) ?_
    cases h
    exact mx_reti .int dX10_lookAt_23 ⟨rfl, rfl⟩
def f_X10_crumbs (a1 : Int32) (a2 : Int32) (M : Mem) : Option (Mem × Int32) :=
  if ((f_X10_within a1 0 99) = 0 ∨ (f_X10_within a2 0 1) = 0) then (some (M, (-1))) else (b2 (f_X6_feastsLeaving 1 a1 M) fun M4 x5 => if a2 = 0 then (some (M4, x5)) else (b1 (f_X6_kindParting 1 x5 M4) fun x7 => some (M4, x7)))
set_option maxRecDepth 100000 in
set_option maxHeartbeats 4000000 in
theorem t_X10_crumbs (l : Launch) (E : EV) (a1 : Int32) (a2 : Int32) (M : Mem) {M' : Mem} {r : Int32} (h : f_X10_crumbs a1 a2 M = some (M', r)) : RunM l E yX10_crumbs cX10_crumbs 4 (some .int) 5 [.ref 0, .int a1, .int a2] M M' (some (.int r)) := by
  refine RunM.of (by decide) (Nat.le_of_ble_eq_true rfl) ?_
  show XM l E (RX10, "crumbs", cX10_crumbs, 4) (some .int) 5 0 [some (.ref 0), some (.int a1), some (.int a2), none] [] M M' (some (.int r))
  unfold f_X10_crumbs at h
  refine ex_iload_n dX10_crumbs_0 rfl ?_
  refine ex_iconst 0 dX10_crumbs_1 kI_0 ?_
  refine ex_bipush 99 dX10_crumbs_2 kB_99 ?_
  refine mx_cSi [.int a1, .int 0, .int 99] [] (f_X10_within a1 0 99) dX10_crumbs_4 cl_X10_80 sm_X10_within rfl (Nat.le_of_ble_eq_true rfl) (by decide) (t_X10_within l E a1 0 99 M rfl) ?_
  have JXC3 : ((f_X10_within a1 0 99) = 0 ∨ (f_X10_within a2 0 1) = 0) → XM l E (RX10, "crumbs", cX10_crumbs, 4) (some .int) 5 19 [some (.ref 0), some (.int a1), some (.int a2), none] [] M M' (some (.int r)) := fun C3 => by
    rw [if_pos C3] at h
    refine ex_iconst (-1) dX10_crumbs_19 kI_m1 ?_
    cases h
    exact mx_reti .int dX10_crumbs_20 ⟨rfl, rfl⟩
  have JYC3 : ¬ (((f_X10_within a1 0 99) = 0 ∨ (f_X10_within a2 0 1) = 0)) → XM l E (RX10, "crumbs", cX10_crumbs, 4) (some .int) 5 26 [some (.ref 0), some (.int a1), some (.int a2), none] [.int a1, .ref 1] M M' (some (.int r)) := fun C3 => by
    rw [if_neg C3] at h
    obtain ⟨M4, x5, qx5, h⟩ := b2E h
    refine mx_cVi [.int a1] [] 1 6 x5 dX10_crumbs_26 cl_X10_284 im_X6_feastsLeaving cy_X6_feastsLeaving (oc_10_0 oc_at_0) rfl (Nat.le_of_ble_eq_true rfl) (by decide) (t_X6_feastsLeaving l E 1 a1 (oc_10_0 oc_at_0) M qx5) ?_
    refine ex_istore_n (L2 := [some (.ref 0), some (.int a1), some (.int a2), some (.int x5)]) dX10_crumbs_29 (by decide) rfl ?_
    refine ex_iload_n dX10_crumbs_30 rfl ?_
    refine ex_if_ne 38 dX10_crumbs_31 (by decide) (fun c6 => ?_) (fun c6 => ?_)
    · rw [if_neg c6] at h
      refine ex_aload_n dX10_crumbs_38 rfl ?_
      refine mx_getr 10 1 dX10_crumbs_39 fl_X10_12 oc_at_0 (rf_10_0 oc_at_0) ?_
      refine ex_iload_n dX10_crumbs_42 rfl ?_
      obtain ⟨x7, qx7, h⟩ := b1E h
      refine mx_cVi [.int x5] [] 1 6 x7 dX10_crumbs_43 cl_X10_287 im_X6_kindParting cy_X6_kindParting (oc_10_0 oc_at_0) rfl (Nat.le_of_ble_eq_true rfl) (by decide) (t_X6_kindParting l E 1 x5 (oc_10_0 oc_at_0) M4 qx7) ?_
      cases h
      exact mx_reti .int dX10_crumbs_46 ⟨rfl, rfl⟩
    · rw [if_pos c6] at h
      refine ex_iload_n dX10_crumbs_34 rfl ?_
      refine ex_goto 46 dX10_crumbs_35 (by decide) ?_
      cases h
      exact mx_reti .int dX10_crumbs_46 ⟨rfl, rfl⟩
  clear h
  refine ex_if_eq 19 dX10_crumbs_7 (by decide) (fun c1 => ?_) (fun c1 => ?_)
  · exact JXC3 (Or.inl c1)
  · refine ex_iload_n dX10_crumbs_10 rfl ?_
    refine ex_iconst 0 dX10_crumbs_11 kI_0 ?_
    refine ex_iconst 1 dX10_crumbs_12 kI_1 ?_
    refine mx_cSi [.int a2, .int 0, .int 1] [] (f_X10_within a2 0 1) dX10_crumbs_13 cl_X10_80 sm_X10_within rfl (Nat.le_of_ble_eq_true rfl) (by decide) (t_X10_within l E a2 0 1 M rfl) ?_
    refine ex_if_ne 21 dX10_crumbs_16 (by decide) (fun c2 => ?_) (fun c2 => ?_)
    · refine ex_aload_n dX10_crumbs_21 rfl ?_
      refine mx_getr 10 1 dX10_crumbs_22 fl_X10_12 oc_at_0 (rf_10_0 oc_at_0) ?_
      refine ex_iload_n dX10_crumbs_25 rfl ?_
      exact JYC3 (fun z => z.elim c1 c2)
    · exact JXC3 (Or.inr c2)
def f_X10_cooks (a1 : Int32) (M : Mem) : Option (Mem × Int32) :=
  if (f_X10_within a1 0 1) = 0 then (some (M, (-1))) else (b1 (f_X0_cook 1 M) fun M2 => lt ((if a1 = 0 then (M2 151 3) else (M2 151 4)) : Int32) fun x4 => some (M2, x4))
set_option maxRecDepth 100000 in
set_option maxHeartbeats 4000000 in
theorem t_X10_cooks (l : Launch) (E : EV) (a1 : Int32) (M : Mem) {M' : Mem} {r : Int32} (h : f_X10_cooks a1 M = some (M', r)) : RunM l E yX10_cooks cX10_cooks 2 (some .int) 45 [.ref 0, .int a1] M M' (some (.int r)) := by
  refine RunM.of (by decide) (Nat.le_of_ble_eq_true rfl) ?_
  show XM l E (RX10, "cooks", cX10_cooks, 2) (some .int) 45 0 [some (.ref 0), some (.int a1)] [] M M' (some (.int r))
  unfold f_X10_cooks at h
  refine ex_iload_n dX10_cooks_0 rfl ?_
  refine ex_iconst 0 dX10_cooks_1 kI_0 ?_
  refine ex_iconst 1 dX10_cooks_2 kI_1 ?_
  refine mx_cSi [.int a1, .int 0, .int 1] [] (f_X10_within a1 0 1) dX10_cooks_3 cl_X10_80 sm_X10_within rfl (Nat.le_of_ble_eq_true rfl) (by decide) (t_X10_within l E a1 0 1 M rfl) ?_
  refine ex_if_ne 11 dX10_cooks_6 (by decide) (fun c1 => ?_) (fun c1 => ?_)
  · rw [if_neg c1] at h
    refine ex_aload_n dX10_cooks_11 rfl ?_
    refine mx_getr 10 151 dX10_cooks_12 fl_X10_65 oc_at_0 (rf_10_9 oc_at_0) ?_
    refine ex_aload_n dX10_cooks_15 rfl ?_
    refine mx_getr 10 1 dX10_cooks_16 fl_X10_12 oc_at_0 (rf_10_0 oc_at_0) ?_
    obtain ⟨M2, qM2, h⟩ := b1E h
    refine mx_cVv [.ref 1] [] 151 0 dX10_cooks_19 cl_X10_290 im_X0_cook cy_X0_cook (oc_10_9 oc_at_0) rfl (Nat.le_of_ble_eq_true rfl) (by decide) (t_X0_cook l E 1 (oc_10_0 oc_at_0) M qM2) ?_
    refine ex_iload_n dX10_cooks_22 rfl ?_
    obtain ⟨x4, ex4, h⟩ := ltE h
    have Jx4 : XM l E (RX10, "cooks", cX10_cooks, 2) (some .int) 45 43 [some (.ref 0), some (.int a1)] [.int x4] M2 M' (some (.int r)) := by
      cases h
      exact mx_reti .int dX10_cooks_43 ⟨rfl, rfl⟩
    clear h
    refine ex_if_ne 36 dX10_cooks_23 (by decide) (fun c3 => ?_) (fun c3 => ?_)
    · rw [if_neg c3] at ex4
      refine ex_aload_n dX10_cooks_36 rfl ?_
      refine mx_getr 10 151 dX10_cooks_37 fl_X10_65 oc_at_0 (rf_10_9 oc_at_0) ?_
      refine mx_geti 0 dX10_cooks_40 fl_X10_296 (oc_10_9 oc_at_0) (isi_0_4 (oc_10_9 oc_at_0)) ?_
      subst ex4
      exact Jx4
    · rw [if_pos c3] at ex4
      refine ex_aload_n dX10_cooks_26 rfl ?_
      refine mx_getr 10 151 dX10_cooks_27 fl_X10_65 oc_at_0 (rf_10_9 oc_at_0) ?_
      refine mx_geti 0 dX10_cooks_30 fl_X10_293 (oc_10_9 oc_at_0) (isi_0_3 (oc_10_9 oc_at_0)) ?_
      refine ex_goto 43 dX10_cooks_33 (by decide) ?_
      subst ex4
      exact Jx4
  · rw [if_pos c1] at h
    refine ex_iconst (-1) dX10_cooks_9 kI_m1 ?_
    cases h
    exact mx_reti .int dX10_cooks_10 ⟨rfl, rfl⟩
def f_X10_waits (a1 : Int32) (a2 : Int32) (M : Mem) : Option (Mem × Int32) :=
  if (f_X8_has (1 + 9) a1 M) = 0 then (some (M, (-1))) else (b1 (f_X6_isTooOld 1 a1 0 M) fun x2 => if (¬ (x2 = 0) ∨ (f_X10_within a2 0 1) = 0) then (some (M, (-1))) else (b2 (f_X6_bestWait 1 a1 M) fun M6 x7 => if a2 = 0 then (some (M6, x7)) else (b2 (f_X6_priceOf 1 a1 x7 M6) fun M9 x10 => some (M9, x10))))
set_option maxRecDepth 100000 in
set_option maxHeartbeats 4000000 in
theorem t_X10_waits (l : Launch) (E : EV) (a1 : Int32) (a2 : Int32) (M : Mem) {M' : Mem} {r : Int32} (h : f_X10_waits a1 a2 M = some (M', r)) : RunM l E yX10_waits cX10_waits 4 (some .int) 6 [.ref 0, .int a1, .int a2] M M' (some (.int r)) := by
  refine RunM.of (by decide) (Nat.le_of_ble_eq_true rfl) ?_
  show XM l E (RX10, "waits", cX10_waits, 4) (some .int) 6 0 [some (.ref 0), some (.int a1), some (.int a2), none] [] M M' (some (.int r))
  unfold f_X10_waits at h
  refine ex_aload_n dX10_waits_0 rfl ?_
  refine mx_getr 10 1 dX10_waits_1 fl_X10_12 oc_at_0 (rf_10_0 oc_at_0) ?_
  refine mx_getr 6 (1 + 9) dX10_waits_4 fl_X10_123 (oc_10_0 oc_at_0) (rf_6_4 (oc_10_0 oc_at_0)) ?_
  refine ex_iload_n dX10_waits_7 rfl ?_
  refine mx_cVi [.int a1] [] (1 + 9) 8 (f_X8_has (1 + 9) a1 M) dX10_waits_8 cl_X10_127 im_X8_has cy_X8_has (oc_6_4 (oc_10_0 oc_at_0)) rfl (Nat.le_of_ble_eq_true rfl) (by decide) (t_X8_has l E (1 + 9) a1 (oc_6_4 (oc_10_0 oc_at_0)) M rfl) ?_
  refine ex_if_eq 35 dX10_waits_11 (by decide) (fun c1 => ?_) (fun c1 => ?_)
  · rw [if_pos c1] at h
    refine ex_iconst (-1) dX10_waits_35 kI_m1 ?_
    cases h
    exact mx_reti .int dX10_waits_36 ⟨rfl, rfl⟩
  · rw [if_neg c1] at h
    refine ex_aload_n dX10_waits_14 rfl ?_
    refine mx_getr 10 1 dX10_waits_15 fl_X10_12 oc_at_0 (rf_10_0 oc_at_0) ?_
    refine ex_iload_n dX10_waits_18 rfl ?_
    refine ex_iconst 0 dX10_waits_19 kI_0 ?_
    obtain ⟨x2, qx2, h⟩ := b1E h
    refine mx_cVi [.int a1, .int 0] [] 1 6 x2 dX10_waits_20 cl_X10_299 im_X6_isTooOld cy_X6_isTooOld (oc_10_0 oc_at_0) rfl (Nat.le_of_ble_eq_true rfl) (by decide) (t_X6_isTooOld l E 1 a1 0 (oc_10_0 oc_at_0) M qx2) ?_
    have JXC5 : (¬ (x2 = 0) ∨ (f_X10_within a2 0 1) = 0) → XM l E (RX10, "waits", cX10_waits, 4) (some .int) 6 35 [some (.ref 0), some (.int a1), some (.int a2), none] [] M M' (some (.int r)) := fun C5 => by
      rw [if_pos C5] at h
      refine ex_iconst (-1) dX10_waits_35 kI_m1 ?_
      cases h
      exact mx_reti .int dX10_waits_36 ⟨rfl, rfl⟩
    have JYC5 : ¬ ((¬ (x2 = 0) ∨ (f_X10_within a2 0 1) = 0)) → XM l E (RX10, "waits", cX10_waits, 4) (some .int) 6 42 [some (.ref 0), some (.int a1), some (.int a2), none] [.int a1, .ref 1] M M' (some (.int r)) := fun C5 => by
      rw [if_neg C5] at h
      obtain ⟨M6, x7, qx7, h⟩ := b2E h
      refine mx_cVi [.int a1] [] 1 6 x7 dX10_waits_42 cl_X10_302 im_X6_bestWait cy_X6_bestWait (oc_10_0 oc_at_0) rfl (Nat.le_of_ble_eq_true rfl) (by decide) (t_X6_bestWait l E 1 a1 (oc_10_0 oc_at_0) M qx7) ?_
      refine ex_istore_n (L2 := [some (.ref 0), some (.int a1), some (.int a2), some (.int x7)]) dX10_waits_45 (by decide) rfl ?_
      refine ex_iload_n dX10_waits_46 rfl ?_
      refine ex_if_ne 54 dX10_waits_47 (by decide) (fun c8 => ?_) (fun c8 => ?_)
      · rw [if_neg c8] at h
        refine ex_aload_n dX10_waits_54 rfl ?_
        refine mx_getr 10 1 dX10_waits_55 fl_X10_12 oc_at_0 (rf_10_0 oc_at_0) ?_
        refine ex_iload_n dX10_waits_58 rfl ?_
        refine ex_iload_n dX10_waits_59 rfl ?_
        obtain ⟨M9, x10, qx10, h⟩ := b2E h
        refine mx_cVi [.int a1, .int x7] [] 1 6 x10 dX10_waits_60 cl_X10_193 im_X6_priceOf cy_X6_priceOf (oc_10_0 oc_at_0) rfl (Nat.le_of_ble_eq_true rfl) (by decide) (t_X6_priceOf l E 1 a1 x7 (oc_10_0 oc_at_0) M6 qx10) ?_
        cases h
        exact mx_reti .int dX10_waits_63 ⟨rfl, rfl⟩
      · rw [if_pos c8] at h
        refine ex_iload_n dX10_waits_50 rfl ?_
        refine ex_goto 63 dX10_waits_51 (by decide) ?_
        cases h
        exact mx_reti .int dX10_waits_63 ⟨rfl, rfl⟩
    clear h
    refine ex_if_ne 35 dX10_waits_23 (by decide) (fun c3 => ?_) (fun c3 => ?_)
    · exact JXC5 (Or.inl c3)
    · refine ex_iload_n dX10_waits_26 rfl ?_
      refine ex_iconst 0 dX10_waits_27 kI_0 ?_
      refine ex_iconst 1 dX10_waits_28 kI_1 ?_
      refine mx_cSi [.int a2, .int 0, .int 1] [] (f_X10_within a2 0 1) dX10_waits_29 cl_X10_80 sm_X10_within rfl (Nat.le_of_ble_eq_true rfl) (by decide) (t_X10_within l E a2 0 1 M rfl) ?_
      refine ex_if_ne 37 dX10_waits_32 (by decide) (fun c4 => ?_) (fun c4 => ?_)
      · refine ex_aload_n dX10_waits_37 rfl ?_
        refine mx_getr 10 1 dX10_waits_38 fl_X10_12 oc_at_0 (rf_10_0 oc_at_0) ?_
        refine ex_iload_n dX10_waits_41 rfl ?_
        exact JYC5 (fun z => z.elim (fun y => y c3) c4)
      · exact JXC5 (Or.inr c4)
