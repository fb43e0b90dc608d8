def f_X10_limit (a1 : Int32) (M : Mem) : Option (Mem × Int32) :=
  if a1 = (-1) then (lt (f_X8_empty (79 + 5) M) fun p5 => some (p5.1, p5.2)) else (if (f_X10_within a1 1 999) = 0 then (some (M, (-1))) else (b2 (f_X8_addTold (79 + 5) a1 0 0 0 M) fun M3 x4 => some (M3, x4)))
set_option maxRecDepth 100000 in
set_option maxHeartbeats 4000000 in
theorem t_X10_limit (l : Launch) (E : EV) (a1 : Int32) (M : Mem) {M' : Mem} {r : Int32} (h : f_X10_limit a1 M = some (M', r)) : RunM l E yX10_limit cX10_limit 2 (some .int) 5 [.ref 0, .int a1] M M' (some (.int r)) := by
  refine RunM.of (by decide) (Nat.le_of_ble_eq_true rfl) ?_
  show XM l E (RX10, "limit", cX10_limit, 2) (some .int) 5 0 [some (.ref 0), some (.int a1)] [] M M' (some (.int r))
  unfold f_X10_limit at h
  refine ex_iload_n dX10_limit_0 rfl ?_
  refine ex_iconst (-1) dX10_limit_1 kI_m1 ?_
  refine ex_icmp_ne 16 dX10_limit_2 (by decide) (fun c1 => ?_) (fun c1 => ?_)
  · rw [if_neg c1] at h
    refine ex_iload_n dX10_limit_16 rfl ?_
    refine ex_iconst 1 dX10_limit_17 kI_1 ?_
    refine ex_sipush 999 dX10_limit_18 kS_999 ?_
    refine mx_cSi [.int a1, .int 1, .int 999] [] (f_X10_within a1 1 999) dX10_limit_21 cl_X10_80 sm_X10_within rfl (Nat.le_of_ble_eq_true rfl) (by decide) (t_X10_within l E a1 1 999 M rfl) ?_
    refine ex_if_eq 44 dX10_limit_24 (by decide) (fun c2 => ?_) (fun c2 => ?_)
    · rw [if_pos c2] at h
      refine ex_iconst (-1) dX10_limit_44 kI_m1 ?_
      cases h
      exact mx_reti .int dX10_limit_45 ⟨rfl, rfl⟩
    · rw [if_neg c2] at h
      refine ex_aload_n dX10_limit_27 rfl ?_
      refine mx_getr 10 79 dX10_limit_28 fl_X10_25 oc_at_0 (rf_10_3 oc_at_0) ?_
      refine mx_getr 5 (79 + 5) dX10_limit_31 fl_X10_305 (oc_10_3 oc_at_0) (rf_5_2 (oc_10_3 oc_at_0)) ?_
      refine ex_iload_n dX10_limit_34 rfl ?_
      refine ex_iconst 0 dX10_limit_35 kI_0 ?_
      refine ex_iconst 0 dX10_limit_36 kI_0 ?_
      refine ex_iconst 0 dX10_limit_37 kI_0 ?_
      obtain ⟨M3, x4, qx4, h⟩ := b2E h
      refine mx_cVi [.int a1, .int 0, .int 0, .int 0] [] (79 + 5) 8 x4 dX10_limit_38 cl_X10_257 im_X8_addTold cy_X8_addTold (oc_5_2 (oc_10_3 oc_at_0)) rfl (Nat.le_of_ble_eq_true rfl) (by decide) (t_X8_addTold l E (79 + 5) a1 0 0 0 (oc_5_2 (oc_10_3 oc_at_0)) M qx4) ?_
      refine ex_goto 45 dX10_limit_41 (by decide) ?_
      cases h
      exact mx_reti .int dX10_limit_45 ⟨rfl, rfl⟩
  · rw [if_pos c1] at h
    refine ex_aload_n dX10_limit_5 rfl ?_
    refine mx_getr 10 79 dX10_limit_6 fl_X10_25 oc_at_0 (rf_10_3 oc_at_0) ?_
    refine mx_getr 5 (79 + 5) dX10_limit_9 fl_X10_305 (oc_10_3 oc_at_0) (rf_5_2 (oc_10_3 oc_at_0)) ?_
    obtain ⟨p5, ep5, h⟩ := ltE h
    refine mx_cVi [] [] (79 + 5) 8 p5.2 dX10_limit_12 cl_X10_254 im_X8_empty cy_X8_empty (oc_5_2 (oc_10_3 oc_at_0)) rfl (Nat.le_of_ble_eq_true rfl) (by decide) (t_X8_empty l E (79 + 5) (oc_5_2 (oc_10_3 oc_at_0)) M ep5.symm) ?_
    cases h
    exact mx_reti .int dX10_limit_15 ⟨rfl, rfl⟩
def f_X10_dusk (a1 : Int32) (a2 : Int32) (a3 : Int32) (M : Mem) : Option (Int32) :=
  if ((f_X10_within a1 1 999) = 0 ∨ ((f_X10_within a2 1 99) = 0 ∨ (f_X10_within a3 0 1) = 0)) then (some (-1)) else (b1 (f_X5_priceTaken 79 a1 a2 M) fun x5 => if a3 = 0 then (b1 (f_X5_firstLimitAtLeast 79 x5 M) fun x7 => some x7) else (some x5))
set_option maxRecDepth 100000 in
set_option maxHeartbeats 4000000 in
theorem t_X10_dusk (l : Launch) (E : EV) (a1 : Int32) (a2 : Int32) (a3 : Int32) (M : Mem) {r : Int32} (h : f_X10_dusk a1 a2 a3 M = some r) : RunM l E yX10_dusk cX10_dusk 5 (some .int) 4 [.ref 0, .int a1, .int a2, .int a3] M M (some (.int r)) := by
  refine RunM.of (by decide) (Nat.le_of_ble_eq_true rfl) ?_
  show XM l E (RX10, "dusk", cX10_dusk, 5) (some .int) 4 0 [some (.ref 0), some (.int a1), some (.int a2), some (.int a3), none] [] M M (some (.int r))
  unfold f_X10_dusk at h
  refine ex_iload_n dX10_dusk_0 rfl ?_
  refine ex_iconst 1 dX10_dusk_1 kI_1 ?_
  refine ex_sipush 999 dX10_dusk_2 kS_999 ?_
  refine mx_cSi [.int a1, .int 1, .int 999] [] (f_X10_within a1 1 999) dX10_dusk_5 cl_X10_80 sm_X10_within rfl (Nat.le_of_ble_eq_true rfl) (by decide) (t_X10_within l E a1 1 999 M rfl) ?_
  have JXC4 : ((f_X10_within a1 1 999) = 0 ∨ ((f_X10_within a2 1 99) = 0 ∨ (f_X10_within a3 0 1) = 0)) → XM l E (RX10, "dusk", cX10_dusk, 5) (some .int) 4 30 [some (.ref 0), some (.int a1), some (.int a2), some (.int a3), none] [] M M (some (.int r)) := fun C4 => by
    rw [if_pos C4] at h
    refine ex_iconst (-1) dX10_dusk_30 kI_m1 ?_
    cases h
    exact mx_reti .int dX10_dusk_31 ⟨rfl, rfl⟩
  have JYC4 : ¬ (((f_X10_within a1 1 999) = 0 ∨ ((f_X10_within a2 1 99) = 0 ∨ (f_X10_within a3 0 1) = 0))) → XM l E (RX10, "dusk", cX10_dusk, 5) (some .int) 4 38 [some (.ref 0), some (.int a1), some (.int a2), some (.int a3), none] [.int a2, .int a1, .ref 79] M M (some (.int r)) := fun C4 => by
    rw [if_neg C4] at h
    obtain ⟨x5, qx5, h⟩ := b1E h
    refine mx_cVi [.int a1, .int a2] [] 79 5 x5 dX10_dusk_38 cl_X10_308 im_X5_priceTaken cy_X5_priceTaken (oc_10_3 oc_at_0) rfl (Nat.le_of_ble_eq_true rfl) (by decide) (t_X5_priceTaken l E 79 a1 a2 (oc_10_3 oc_at_0) M qx5) ?_
    refine ex_istore (L2 := [some (.ref 0), some (.int a1), some (.int a2), some (.int a3), some (.int x5)]) dX10_dusk_41 (by decide) rfl ?_
    refine ex_iload_n dX10_dusk_43 rfl ?_
    refine ex_if_ne 59 dX10_dusk_44 (by decide) (fun c6 => ?_) (fun c6 => ?_)
    · rw [if_neg c6] at h
      refine ex_iload dX10_dusk_59 rfl ?_
      cases h
      exact mx_reti .int dX10_dusk_61 ⟨rfl, rfl⟩
    · rw [if_pos c6] at h
      refine ex_aload_n dX10_dusk_47 rfl ?_
      refine mx_getr 10 79 dX10_dusk_48 fl_X10_25 oc_at_0 (rf_10_3 oc_at_0) ?_
      refine ex_iload dX10_dusk_51 rfl ?_
      obtain ⟨x7, qx7, h⟩ := b1E h
      refine mx_cVi [.int x5] [] 79 5 x7 dX10_dusk_53 cl_X10_311 im_X5_firstLimitAtLeast cy_X5_firstLimitAtLeast (oc_10_3 oc_at_0) rfl (Nat.le_of_ble_eq_true rfl) (by decide) (t_X5_firstLimitAtLeast l E 79 x5 (oc_10_3 oc_at_0) M qx7) ?_
      refine ex_goto 61 dX10_dusk_56 (by decide) ?_
      cases h
      exact mx_reti .int dX10_dusk_61 ⟨rfl, rfl⟩
  clear h
  refine ex_if_eq 30 dX10_dusk_8 (by decide) (fun c1 => ?_) (fun c1 => ?_)
  · exact JXC4 (Or.inl c1)
  · refine ex_iload_n dX10_dusk_11 rfl ?_
    refine ex_iconst 1 dX10_dusk_12 kI_1 ?_
    refine ex_bipush 99 dX10_dusk_13 kB_99 ?_
    refine mx_cSi [.int a2, .int 1, .int 99] [] (f_X10_within a2 1 99) dX10_dusk_15 cl_X10_80 sm_X10_within rfl (Nat.le_of_ble_eq_true rfl) (by decide) (t_X10_within l E a2 1 99 M rfl) ?_
    refine ex_if_eq 30 dX10_dusk_18 (by decide) (fun c2 => ?_) (fun c2 => ?_)
    · exact JXC4 (Or.inr (Or.inl c2))
    · refine ex_iload_n dX10_dusk_21 rfl ?_
      refine ex_iconst 0 dX10_dusk_22 kI_0 ?_
      refine ex_iconst 1 dX10_dusk_23 kI_1 ?_
      refine mx_cSi [.int a3, .int 0, .int 1] [] (f_X10_within a3 0 1) dX10_dusk_24 cl_X10_80 sm_X10_within rfl (Nat.le_of_ble_eq_true rfl) (by decide) (t_X10_within l E a3 0 1 M rfl) ?_
      refine ex_if_ne 32 dX10_dusk_27 (by decide) (fun c3 => ?_) (fun c3 => ?_)
      · refine ex_aload_n dX10_dusk_32 rfl ?_
        refine mx_getr 10 79 dX10_dusk_33 fl_X10_25 oc_at_0 (rf_10_3 oc_at_0) ?_
        refine ex_iload_n dX10_dusk_36 rfl ?_
        refine ex_iload_n dX10_dusk_37 rfl ?_
        exact JYC4 (fun z => z.elim c1 (fun z => z.elim c2 c3))
      · exact JXC4 (Or.inr (Or.inr c3))
def f_X10_isTradeKind (a1 : Int32) : (Int32) :=
  (f_X10_within a1 0 5)
theorem z_X10_isTradeKind (a1 : Int32) : f_X10_isTradeKind a1 = 0 ∨ f_X10_isTradeKind a1 = 1 := by
  unfold f_X10_isTradeKind
  (repeat' split) <;> first | exact Or.inl rfl | exact Or.inr rfl | exact z_X10_within _ _ _
set_option maxRecDepth 100000 in
set_option maxHeartbeats 4000000 in
theorem t_X10_isTradeKind (l : Launch) (E : EV) (a1 : Int32) (M : Mem) {r : Int32} (h : f_X10_isTradeKind a1 = r) : RunM l E yX10_isTradeKind cX10_isTradeKind 1 (some .boolean) 1 [.int a1] M M (some (.int r)) := by
  refine RunM.of (by decide) (Nat.le_of_ble_eq_true rfl) ?_
  show XM l E (RX10, "isTradeKind", cX10_isTradeKind, 1) (some .boolean) 1 0 [some (.int a1)] [] M M (some (.int r))
  unfold f_X10_isTradeKind at h
  refine ex_iload_n dX10_isTradeKind_0 rfl ?_
  refine ex_iconst 0 dX10_isTradeKind_1 kI_0 ?_
  refine ex_iconst 5 dX10_isTradeKind_2 kI_5 ?_
  refine mx_cSi [.int a1, .int 0, .int 5] [] (f_X10_within a1 0 5) dX10_isTradeKind_3 cl_X10_80 sm_X10_within rfl (Nat.le_of_ble_eq_true rfl) (by decide) (t_X10_within l E a1 0 5 M rfl) ?_
  subst h
  exact mx_reti .boolean dX10_isTradeKind_6 ⟨rfl, nzB (z_X10_within _ _ _)⟩
def f_X10_trade (a1 : Int32) (a2 : Int32) (a3 : Int32) (a4 : Int32) (M : Mem) : Option (Mem × Int32) :=
  if a1 = (-1) then (lt (f_X8_empty (79 + 7) M) fun p11 => some (p11.1, p11.2)) else (if ((f_X10_isTradeKind a1) = 0 ∨ ((f_X10_isTradeKind a2) = 0 ∨ a1 = a2)) then (some (M, (-1))) else (if ((f_X10_within a3 1 9) = 0 ∨ (f_X10_within a4 1 9) = 0) then (some (M, (-1))) else (b2 (f_X8_addTold (79 + 7) a1 a2 a3 a4 M) fun M9 x10 => some (M9, x10))))
set_option maxRecDepth 100000 in
set_option maxHeartbeats 4000000 in
theorem t_X10_trade (l : Launch) (E : EV) (a1 : Int32) (a2 : Int32) (a3 : Int32) (a4 : Int32) (M : Mem) {M' : Mem} {r : Int32} (h : f_X10_trade a1 a2 a3 a4 M = some (M', r)) : RunM l E yX10_trade cX10_trade 6 (some .int) 5 [.ref 0, .int a1, .int a2, .int a3, .int a4] M M' (some (.int r)) := by
  refine RunM.of (by decide) (Nat.le_of_ble_eq_true rfl) ?_
  show XM l E (RX10, "trade", cX10_trade, 6) (some .int) 5 0 [some (.ref 0), some (.int a1), some (.int a2), some (.int a3), some (.int a4), none] [] M M' (some (.int r))
  unfold f_X10_trade at h
  refine ex_iload_n dX10_trade_0 rfl ?_
  refine ex_iconst (-1) dX10_trade_1 kI_m1 ?_
  refine ex_icmp_ne 16 dX10_trade_2 (by decide) (fun c1 => ?_) (fun c1 => ?_)
  · rw [if_neg c1] at h
    refine ex_iload_n dX10_trade_16 rfl ?_
    refine mx_cSi [.int a1] [] (f_X10_isTradeKind a1) dX10_trade_17 cl_X10_317 sm_X10_isTradeKind rfl (Nat.le_of_ble_eq_true rfl) (by decide) (t_X10_isTradeKind l E a1 M rfl) ?_
    have JXC5 : ((f_X10_isTradeKind a1) = 0 ∨ ((f_X10_isTradeKind a2) = 0 ∨ a1 = a2)) → XM l E (RX10, "trade", cX10_trade, 6) (some .int) 5 39 [some (.ref 0), some (.int a1), some (.int a2), some (.int a3), some (.int a4), none] [] M M' (some (.int r)) := fun C5 => by
      rw [if_pos C5] at h
      refine ex_iconst 0 dX10_trade_39 kI_0 ?_
      refine ex_istore (L2 := [some (.ref 0), some (.int a1), some (.int a2), some (.int a3), some (.int a4), some (.int 0)]) dX10_trade_40 (by decide) rfl ?_
      refine ex_iload dX10_trade_42 rfl ?_
      refine ex_if_eq 68 dX10_trade_44 (by decide) (fun _ => ?_) (fun z => absurd (by decide) z)
      refine ex_iconst (-1) dX10_trade_68 kI_m1 ?_
      cases h
      exact mx_reti .int dX10_trade_69 ⟨rfl, rfl⟩
    have JYC5 : ¬ (((f_X10_isTradeKind a1) = 0 ∨ ((f_X10_isTradeKind a2) = 0 ∨ a1 = a2))) → XM l E (RX10, "trade", cX10_trade, 6) (some .int) 5 40 [some (.ref 0), some (.int a1), some (.int a2), some (.int a3), some (.int a4), none] [.int 1] M M' (some (.int r)) := fun C5 => by
      rw [if_neg C5] at h
      refine ex_istore (L2 := [some (.ref 0), some (.int a1), some (.int a2), some (.int a3), some (.int a4), some (.int 1)]) dX10_trade_40 (by decide) rfl ?_
      refine ex_iload dX10_trade_42 rfl ?_
      refine ex_if_eq 68 dX10_trade_44 (by decide) (fun z => absurd z (by decide)) (fun _ => ?_)
      refine ex_iload_n dX10_trade_47 rfl ?_
      refine ex_iconst 1 dX10_trade_48 kI_1 ?_
      refine ex_bipush 9 dX10_trade_49 kB_9 ?_
      refine mx_cSi [.int a3, .int 1, .int 9] [] (f_X10_within a3 1 9) dX10_trade_51 cl_X10_80 sm_X10_within rfl (Nat.le_of_ble_eq_true rfl) (by decide) (t_X10_within l E a3 1 9 M rfl) ?_
      have JXC8 : ((f_X10_within a3 1 9) = 0 ∨ (f_X10_within a4 1 9) = 0) → XM l E (RX10, "trade", cX10_trade, 6) (some .int) 5 68 [some (.ref 0), some (.int a1), some (.int a2), some (.int a3), some (.int a4), some (.int 1)] [] M M' (some (.int r)) := fun C8 => by
        rw [if_pos C8] at h
        refine ex_iconst (-1) dX10_trade_68 kI_m1 ?_
        cases h
        exact mx_reti .int dX10_trade_69 ⟨rfl, rfl⟩
      have JYC8 : ¬ (((f_X10_within a3 1 9) = 0 ∨ (f_X10_within a4 1 9) = 0)) → XM l E (RX10, "trade", cX10_trade, 6) (some .int) 5 82 [some (.ref 0), some (.int a1), some (.int a2), some (.int a3), some (.int a4), some (.int 1)] [.int a4, .int a3, .int a2, .int a1, .ref (79 + 7)] M M' (some (.int r)) := fun C8 => by
        rw [if_neg C8] at h
        obtain ⟨M9, x10, qx10, h⟩ := b2E h
        refine mx_cVi [.int a1, .int a2, .int a3, .int a4] [] (79 + 7) 8 x10 dX10_trade_82 cl_X10_257 im_X8_addTold cy_X8_addTold (oc_5_3 (oc_10_3 oc_at_0)) rfl (Nat.le_of_ble_eq_true rfl) (by decide) (t_X8_addTold l E (79 + 7) a1 a2 a3 a4 (oc_5_3 (oc_10_3 oc_at_0)) M qx10) ?_
        cases h
        exact mx_reti .int dX10_trade_85 ⟨rfl, rfl⟩
      clear h
      refine ex_if_eq 68 dX10_trade_54 (by decide) (fun c6 => ?_) (fun c6 => ?_)
      · exact JXC8 (Or.inl c6)
      · refine ex_iload dX10_trade_57 rfl ?_
        refine ex_iconst 1 dX10_trade_59 kI_1 ?_
        refine ex_bipush 9 dX10_trade_60 kB_9 ?_
        refine mx_cSi [.int a4, .int 1, .int 9] [] (f_X10_within a4 1 9) dX10_trade_62 cl_X10_80 sm_X10_within rfl (Nat.le_of_ble_eq_true rfl) (by decide) (t_X10_within l E a4 1 9 M rfl) ?_
        refine ex_if_ne 70 dX10_trade_65 (by decide) (fun c7 => ?_) (fun c7 => ?_)
        · refine ex_aload_n dX10_trade_70 rfl ?_
          refine mx_getr 10 79 dX10_trade_71 fl_X10_25 oc_at_0 (rf_10_3 oc_at_0) ?_
          refine mx_getr 5 (79 + 7) dX10_trade_74 fl_X10_314 (oc_10_3 oc_at_0) (rf_5_3 (oc_10_3 oc_at_0)) ?_
          refine ex_iload_n dX10_trade_77 rfl ?_
          refine ex_iload_n dX10_trade_78 rfl ?_
          refine ex_iload_n dX10_trade_79 rfl ?_
          refine ex_iload dX10_trade_80 rfl ?_
          exact JYC8 (fun z => z.elim c6 c7)
        · exact JXC8 (Or.inr c7)
    clear h
    refine ex_if_eq 39 dX10_trade_20 (by decide) (fun c2 => ?_) (fun c2 => ?_)
    · exact JXC5 (Or.inl c2)
    · refine ex_iload_n dX10_trade_23 rfl ?_
      refine mx_cSi [.int a2] [] (f_X10_isTradeKind a2) dX10_trade_24 cl_X10_317 sm_X10_isTradeKind rfl (Nat.le_of_ble_eq_true rfl) (by decide) (t_X10_isTradeKind l E a2 M rfl) ?_
      refine ex_if_eq 39 dX10_trade_27 (by decide) (fun c3 => ?_) (fun c3 => ?_)
      · exact JXC5 (Or.inr (Or.inl c3))
      · refine ex_iload_n dX10_trade_30 rfl ?_
        refine ex_iload_n dX10_trade_31 rfl ?_
        refine ex_icmp_eq 39 dX10_trade_32 (by decide) (fun c4 => ?_) (fun c4 => ?_)
        · exact JXC5 (Or.inr (Or.inr c4))
        · refine ex_iconst 1 dX10_trade_35 kI_1 ?_
          refine ex_goto 40 dX10_trade_36 (by decide) ?_
          exact JYC5 (fun z => z.elim c2 (fun z => z.elim c3 c4))
  · rw [if_pos c1] at h
    refine ex_aload_n dX10_trade_5 rfl ?_
    refine mx_getr 10 79 dX10_trade_6 fl_X10_25 oc_at_0 (rf_10_3 oc_at_0) ?_
    refine mx_getr 5 (79 + 7) dX10_trade_9 fl_X10_314 (oc_10_3 oc_at_0) (rf_5_3 (oc_10_3 oc_at_0)) ?_
    obtain ⟨p11, ep11, h⟩ := ltE h
    refine mx_cVi [] [] (79 + 7) 8 p11.2 dX10_trade_12 cl_X10_254 im_X8_empty cy_X8_empty (oc_5_3 (oc_10_3 oc_at_0)) rfl (Nat.le_of_ble_eq_true rfl) (by decide) (t_X8_empty l E (79 + 7) (oc_5_3 (oc_10_3 oc_at_0)) M ep11.symm) ?_
    cases h
    exact mx_reti .int dX10_trade_15 ⟨rfl, rfl⟩
def f_X10_ring (a1 : Int32) (a2 : Int32) (M : Mem) : Option (Int32) :=
  if ((f_X10_isTradeKind a1) = 0 ∨ (f_X10_isTradeKind a2) = 0) then (some (-1)) else (b1 (f_X5_fewestTradesTo 79 a1 a2 M) fun x4 => some x4)
set_option maxRecDepth 100000 in
set_option maxHeartbeats 4000000 in
theorem t_X10_ring (l : Launch) (E : EV) (a1 : Int32) (a2 : Int32) (M : Mem) {r : Int32} (h : f_X10_ring a1 a2 M = some r) : RunM l E yX10_ring cX10_ring 3 (some .int) 4 [.ref 0, .int a1, .int a2] M M (some (.int r)) := by
  refine RunM.of (by decide) (Nat.le_of_ble_eq_true rfl) ?_
  show XM l E (RX10, "ring", cX10_ring, 3) (some .int) 4 0 [some (.ref 0), some (.int a1), some (.int a2)] [] M M (some (.int r))
  unfold f_X10_ring at h
  refine ex_iload_n dX10_ring_0 rfl ?_
  refine mx_cSi [.int a1] [] (f_X10_isTradeKind a1) dX10_ring_1 cl_X10_317 sm_X10_isTradeKind rfl (Nat.le_of_ble_eq_true rfl) (by decide) (t_X10_isTradeKind l E a1 M rfl) ?_
  have JXC3 : ((f_X10_isTradeKind a1) = 0 ∨ (f_X10_isTradeKind a2) = 0) → XM l E (RX10, "ring", cX10_ring, 3) (some .int) 4 26 [some (.ref 0), some (.int a1), some (.int a2)] [] M M (some (.int r)) := fun C3 => by
    rw [if_pos C3] at h
    refine ex_iconst (-1) dX10_ring_26 kI_m1 ?_
    cases h
    exact mx_reti .int dX10_ring_27 ⟨rfl, rfl⟩
  have JYC3 : ¬ (((f_X10_isTradeKind a1) = 0 ∨ (f_X10_isTradeKind a2) = 0)) → XM l E (RX10, "ring", cX10_ring, 3) (some .int) 4 20 [some (.ref 0), some (.int a1), some (.int a2)] [.int a2, .int a1, .ref 79] M M (some (.int r)) := fun C3 => by
    rw [if_neg C3] at h
    obtain ⟨x4, qx4, h⟩ := b1E h
    refine mx_cVi [.int a1, .int a2] [] 79 5 x4 dX10_ring_20 cl_X10_320 im_X5_fewestTradesTo cy_X5_fewestTradesTo (oc_10_3 oc_at_0) rfl (Nat.le_of_ble_eq_true rfl) (by decide) (t_X5_fewestTradesTo l E 79 a1 a2 (oc_10_3 oc_at_0) M qx4) ?_
    refine ex_goto 27 dX10_ring_23 (by decide) ?_
    cases h
    exact mx_reti .int dX10_ring_27 ⟨rfl, rfl⟩
  clear h
  refine ex_if_eq 26 dX10_ring_4 (by decide) (fun c1 => ?_) (fun c1 => ?_)
  · exact JXC3 (Or.inl c1)
  · refine ex_iload_n dX10_ring_7 rfl ?_
    refine mx_cSi [.int a2] [] (f_X10_isTradeKind a2) dX10_ring_8 cl_X10_317 sm_X10_isTradeKind rfl (Nat.le_of_ble_eq_true rfl) (by decide) (t_X10_isTradeKind l E a2 M rfl) ?_
    refine ex_if_eq 26 dX10_ring_11 (by decide) (fun c2 => ?_) (fun c2 => ?_)
    · exact JXC3 (Or.inr c2)
    · refine ex_aload_n dX10_ring_14 rfl ?_
      refine mx_getr 10 79 dX10_ring_15 fl_X10_25 oc_at_0 (rf_10_3 oc_at_0) ?_
      refine ex_iload_n dX10_ring_18 rfl ?_
      refine ex_iload_n dX10_ring_19 rfl ?_
      exact JYC3 (fun z => z.elim c1 c2)
def f_X10_back (a1 : Int32) (M : Mem) : Option (Mem × Int32) :=
  if (f_X10_isTradeKind a1) = 0 then (some (M, (-1))) else (b2 (f_X5_fewestTradesBack 79 a1 M) fun M2 x3 => some (M2, x3))
set_option maxRecDepth 100000 in
set_option maxHeartbeats 4000000 in
theorem t_X10_back (l : Launch) (E : EV) (a1 : Int32) (M : Mem) {M' : Mem} {r : Int32} (h : f_X10_back a1 M = some (M', r)) : RunM l E yX10_back cX10_back 2 (some .int) 4 [.ref 0, .int a1] M M' (some (.int r)) := by
  refine RunM.of (by decide) (Nat.le_of_ble_eq_true rfl) ?_
  show XM l E (RX10, "back", cX10_back, 2) (some .int) 4 0 [some (.ref 0), some (.int a1)] [] M M' (some (.int r))
  unfold f_X10_back at h
  refine ex_iload_n dX10_back_0 rfl ?_
  refine mx_cSi [.int a1] [] (f_X10_isTradeKind a1) dX10_back_1 cl_X10_317 sm_X10_isTradeKind rfl (Nat.le_of_ble_eq_true rfl) (by decide) (t_X10_isTradeKind l E a1 M rfl) ?_
  refine ex_if_eq 18 dX10_back_4 (by decide) (fun c1 => ?_) (fun c1 => ?_)
  · rw [if_pos c1] at h
    refine ex_iconst (-1) dX10_back_18 kI_m1 ?_
    cases h
    exact mx_reti .int dX10_back_19 ⟨rfl, rfl⟩
  · rw [if_neg c1] at h
    refine ex_aload_n dX10_back_7 rfl ?_
    refine mx_getr 10 79 dX10_back_8 fl_X10_25 oc_at_0 (rf_10_3 oc_at_0) ?_
    refine ex_iload_n dX10_back_11 rfl ?_
    obtain ⟨M2, x3, qx3, h⟩ := b2E h
    refine mx_cVi [.int a1] [] 79 5 x3 dX10_back_12 cl_X10_323 im_X5_fewestTradesBack cy_X5_fewestTradesBack (oc_10_3 oc_at_0) rfl (Nat.le_of_ble_eq_true rfl) (by decide) (t_X5_fewestTradesBack l E 79 a1 (oc_10_3 oc_at_0) M qx3) ?_
    refine ex_goto 19 dX10_back_15 (by decide) ?_
    cases h
    exact mx_reti .int dX10_back_19 ⟨rfl, rfl⟩
def f_X10_undo (M : Mem) : Option (Mem × Int32) :=
  b2 (f_X7_giveBack 1 M) fun M1 x2 => b1 (gz x2) fun x3 => some (M1, x3)
set_option maxRecDepth 100000 in
set_option maxHeartbeats 4000000 in
theorem t_X10_undo (l : Launch) (E : EV) (M : Mem) {M' : Mem} {r : Int32} (h : f_X10_undo M = some (M', r)) : RunM l E yX10_undo cX10_undo 1 (some .boolean) 4 [.ref 0] M M' (some (.int r)) := by
  refine RunM.of (by decide) (Nat.le_of_ble_eq_true rfl) ?_
  show XM l E (RX10, "undo", cX10_undo, 1) (some .boolean) 4 0 [some (.ref 0)] [] M M' (some (.int r))
  unfold f_X10_undo at h
  refine ex_aload_n dX10_undo_0 rfl ?_
  refine mx_getr 10 115 dX10_undo_1 fl_X10_35 oc_at_0 (rf_10_5 oc_at_0) ?_
  refine ex_aload_n dX10_undo_4 rfl ?_
  refine mx_getr 10 1 dX10_undo_5 fl_X10_12 oc_at_0 (rf_10_0 oc_at_0) ?_
  obtain ⟨M1, x2, qx2, h⟩ := b2E h
  refine mx_cVi [.ref 1] [] 115 7 x2 dX10_undo_8 cl_X10_326 im_X7_giveBack cy_X7_giveBack (oc_10_5 oc_at_0) rfl (Nat.le_of_ble_eq_true rfl) (by decide) (t_X7_giveBack l E 1 (oc_10_0 oc_at_0) M qx2) ?_
  obtain ⟨x3, qx3, h⟩ := b1E h
  obtain ⟨ex3, nx3⟩ := gzE qx3
  rw [← ex3] at h
  cases h
  exact mx_reti .boolean dX10_undo_11 ⟨rfl, nx3⟩
def f_X10_image (a1 : Int32) (M : Mem) : Option (Mem × Int32) :=
  if a1 = 0 then (if (M 0 10) = 0 then (b1 (gz (M 0 10)) fun x3 => some (M, x3)) else (b1 (f_X6_copyFrom 1 27 M) fun M4 => b1 (f_X5_copyFrom 79 97 M4) fun M5 => lt (f_X7_forget M5) fun M6 => b1 (gz (M6 0 10)) fun x7 => some (M6, x7))) else (b1 (f_X6_copyFrom 27 1 M) fun M8 => b1 (f_X5_copyFrom 97 79 M8) fun M9 => lt (up2 M9 0 10 1) fun M10 => b1 (gz (M10 0 10)) fun x11 => some (M10, x11))
set_option maxRecDepth 100000 in
set_option maxHeartbeats 4000000 in
theorem t_X10_image (l : Launch) (E : EV) (a1 : Int32) (M : Mem) {M' : Mem} {r : Int32} (h : f_X10_image a1 M = some (M', r)) : RunM l E yX10_image cX10_image 2 (some .boolean) 3 [.ref 0, .int a1] M M' (some (.int r)) := by
  refine RunM.of (by decide) (Nat.le_of_ble_eq_true rfl) ?_
  show XM l E (RX10, "image", cX10_image, 2) (some .boolean) 3 0 [some (.ref 0), some (.int a1)] [] M M' (some (.int r))
  unfold f_X10_image at h
  refine ex_iload_n dX10_image_0 rfl ?_
  refine ex_if_eq 34 dX10_image_1 (by decide) (fun c1 => ?_) (fun c1 => ?_)
  · rw [if_pos c1] at h
    refine ex_aload_n dX10_image_34 rfl ?_
    refine mx_geti 10 dX10_image_35 fl_X10_69 oc_at_0 (isi_10_10 oc_at_0) ?_
    refine ex_if_eq 70 dX10_image_38 (by decide) (fun c2 => ?_) (fun c2 => ?_)
    · rw [if_pos c2] at h
      refine ex_aload_n dX10_image_70 rfl ?_
      refine mx_geti 10 dX10_image_71 fl_X10_69 oc_at_0 (isi_10_10 oc_at_0) ?_
      obtain ⟨x3, qx3, h⟩ := b1E h
      obtain ⟨ex3, nx3⟩ := gzE qx3
      rw [← ex3] at h
      cases h
      exact mx_reti .boolean dX10_image_74 ⟨rfl, nx3⟩
    · rw [if_neg c2] at h
      refine ex_aload_n dX10_image_41 rfl ?_
      refine mx_getr 10 1 dX10_image_42 fl_X10_12 oc_at_0 (rf_10_0 oc_at_0) ?_
      refine ex_aload_n dX10_image_45 rfl ?_
      refine mx_getr 10 27 dX10_image_46 fl_X10_16 oc_at_0 (rf_10_1 oc_at_0) ?_
      obtain ⟨M4, qM4, h⟩ := b1E h
      refine mx_cVv [.ref 27] [] 1 6 dX10_image_49 cl_X10_221 im_X6_copyFrom cy_X6_copyFrom (oc_10_0 oc_at_0) rfl (Nat.le_of_ble_eq_true rfl) (by decide) (t_X6_copyFrom l E 1 27 (oc_10_0 oc_at_0) (oc_10_1 oc_at_0) M qM4) ?_
      refine ex_aload_n dX10_image_52 rfl ?_
      refine mx_getr 10 79 dX10_image_53 fl_X10_25 oc_at_0 (rf_10_3 oc_at_0) ?_
      refine ex_aload_n dX10_image_56 rfl ?_
      refine mx_getr 10 97 dX10_image_57 fl_X10_29 oc_at_0 (rf_10_4 oc_at_0) ?_
      obtain ⟨M5, qM5, h⟩ := b1E h
      refine mx_cVv [.ref 97] [] 79 5 dX10_image_60 cl_X10_330 im_X5_copyFrom cy_X5_copyFrom (oc_10_3 oc_at_0) rfl (Nat.le_of_ble_eq_true rfl) (by decide) (t_X5_copyFrom l E 79 97 (oc_10_3 oc_at_0) (oc_10_4 oc_at_0) M4 qM5) ?_
      refine ex_aload_n dX10_image_63 rfl ?_
      refine mx_getr 10 115 dX10_image_64 fl_X10_35 oc_at_0 (rf_10_5 oc_at_0) ?_
      obtain ⟨M6, eM6, h⟩ := ltE h
      refine mx_cVv [] [] 115 7 dX10_image_67 cl_X10_77 im_X7_forget cy_X7_forget (oc_10_5 oc_at_0) rfl (Nat.le_of_ble_eq_true rfl) (by decide) (t_X7_forget l E M5 eM6.symm) ?_
      refine ex_aload_n dX10_image_70 rfl ?_
      refine mx_geti 10 dX10_image_71 fl_X10_69 oc_at_0 (isi_10_10 oc_at_0) ?_
      obtain ⟨x7, qx7, h⟩ := b1E h
      obtain ⟨ex7, nx7⟩ := gzE qx7
      rw [← ex7] at h
      cases h
      exact mx_reti .boolean dX10_image_74 ⟨rfl, nx7⟩
  · rw [if_neg c1] at h
    refine ex_aload_n dX10_image_4 rfl ?_
    refine mx_getr 10 27 dX10_image_5 fl_X10_16 oc_at_0 (rf_10_1 oc_at_0) ?_
    refine ex_aload_n dX10_image_8 rfl ?_
    refine mx_getr 10 1 dX10_image_9 fl_X10_12 oc_at_0 (rf_10_0 oc_at_0) ?_
    obtain ⟨M8, qM8, h⟩ := b1E h
    refine mx_cVv [.ref 1] [] 27 6 dX10_image_12 cl_X10_221 im_X6_copyFrom cy_X6_copyFrom (oc_10_1 oc_at_0) rfl (Nat.le_of_ble_eq_true rfl) (by decide) (t_X6_copyFrom l E 27 1 (oc_10_1 oc_at_0) (oc_10_0 oc_at_0) M qM8) ?_
    refine ex_aload_n dX10_image_15 rfl ?_
    refine mx_getr 10 97 dX10_image_16 fl_X10_29 oc_at_0 (rf_10_4 oc_at_0) ?_
    refine ex_aload_n dX10_image_19 rfl ?_
    refine mx_getr 10 79 dX10_image_20 fl_X10_25 oc_at_0 (rf_10_3 oc_at_0) ?_
    obtain ⟨M9, qM9, h⟩ := b1E h
    refine mx_cVv [.ref 79] [] 97 5 dX10_image_23 cl_X10_330 im_X5_copyFrom cy_X5_copyFrom (oc_10_4 oc_at_0) rfl (Nat.le_of_ble_eq_true rfl) (by decide) (t_X5_copyFrom l E 97 79 (oc_10_4 oc_at_0) (oc_10_3 oc_at_0) M8 qM9) ?_
    refine ex_aload_n dX10_image_26 rfl ?_
    refine ex_iconst 1 dX10_image_27 kI_1 ?_
    obtain ⟨M10, eM10, h⟩ := ltE h
    refine mx_puti 10 dX10_image_28 fl_X10_69 rfl ⟨by decide, rfl⟩ oc_at_0 (isi_10_10 oc_at_0) ?_
    rw [← eM10]
    refine ex_goto 70 dX10_image_31 (by decide) ?_
    refine ex_aload_n dX10_image_70 rfl ?_
    refine mx_geti 10 dX10_image_71 fl_X10_69 oc_at_0 (isi_10_10 oc_at_0) ?_
    obtain ⟨x11, qx11, h⟩ := b1E h
    obtain ⟨ex11, nx11⟩ := gzE qx11
    rw [← ex11] at h
    cases h
    exact mx_reti .boolean dX10_image_74 ⟨rfl, nx11⟩
def f_X10_lookAtTold (a1 : Int32) (M : Mem) : Option (Int32) :=
  if a1.toInt < 10 ∨ 18 < a1.toInt then (some (-1000000)) else if a1 = 10 then (some (M (1 + 13) 7)) else if a1 = 11 then (some (M (1 + 3) 3)) else if a1 = 12 then (some (M (1 + 5) 3)) else if a1 = 13 then (some (M (1 + 7) 3)) else if a1 = 14 then (some (M 115 2)) else if a1 = 15 then (some (M (79 + 1) 3)) else if a1 = 16 then (some (M (79 + 3) 3)) else if a1 = 17 then (some (M (79 + 5) 3)) else if a1 = 18 then (some (M (79 + 7) 3)) else none
set_option maxRecDepth 100000 in
set_option maxHeartbeats 4000000 in
theorem t_X10_lookAtTold (l : Launch) (E : EV) (a1 : Int32) (M : Mem) {r : Int32} (h : f_X10_lookAtTold a1 M = some r) : RunM l E yX10_lookAtTold cX10_lookAtTold 2 (some .int) 0 [.ref 0, .int a1] M M (some (.int r)) := by
  refine RunM.of (by decide) (Nat.le_of_ble_eq_true rfl) ?_
  show XM l E (RX10, "lookAtTold", cX10_lookAtTold, 2) (some .int) 0 0 [some (.ref 0), some (.int a1)] [] M M (some (.int r))
  unfold f_X10_lookAtTold at h
  refine ex_iload_n dX10_lookAtTold_0 rfl ?_
  by_cases c1 : a1.toInt < 10 ∨ 18 < a1.toInt
  · rw [if_pos c1] at h
    refine ex_tswO 148 dX10_lookAtTold_1 c1 (by decide) ?_
    refine ex_ldcw (-1000000) dX10_lookAtTold_148 (tb (i := 1299) (by decide +kernel)) ?_
    cases h
    exact mx_reti .int dX10_lookAtTold_151 ⟨rfl, rfl⟩
  rw [if_neg c1] at h
  by_cases c2 : a1 = 10
  · rw [if_pos c2] at h
    refine ex_tswI 10 (51) 52 dX10_lookAtTold_1 c2 (by decide) (by decide) ?_
    refine ex_aload_n dX10_lookAtTold_52 rfl ?_
    refine mx_getr 10 1 dX10_lookAtTold_53 fl_X10_12 oc_at_0 (rf_10_0 oc_at_0) ?_
    refine mx_getr 6 (1 + 13) dX10_lookAtTold_56 fl_X10_161 (oc_10_0 oc_at_0) (rf_6_6 (oc_10_0 oc_at_0)) ?_
    refine mx_geti 2 dX10_lookAtTold_59 fl_X10_342 (oc_6_6 (oc_10_0 oc_at_0)) (isi_2_7 (oc_6_6 (oc_10_0 oc_at_0))) ?_
    cases h
    exact mx_reti .int dX10_lookAtTold_62 ⟨rfl, rfl⟩
  rw [if_neg c2] at h
  by_cases c3 : a1 = 11
  · rw [if_pos c3] at h
    refine ex_tswI 11 (62) 63 dX10_lookAtTold_1 c3 (by decide) (by decide) ?_
    refine ex_aload_n dX10_lookAtTold_63 rfl ?_
    refine mx_getr 10 1 dX10_lookAtTold_64 fl_X10_12 oc_at_0 (rf_10_0 oc_at_0) ?_
    refine mx_getr 6 (1 + 3) dX10_lookAtTold_67 fl_X10_347 (oc_10_0 oc_at_0) (rf_6_1 (oc_10_0 oc_at_0)) ?_
    refine mx_geti 8 dX10_lookAtTold_70 fl_X10_176 (oc_6_1 (oc_10_0 oc_at_0)) (isi_8_3 (oc_6_1 (oc_10_0 oc_at_0))) ?_
    cases h
    exact mx_reti .int dX10_lookAtTold_73 ⟨rfl, rfl⟩
  rw [if_neg c3] at h
  by_cases c4 : a1 = 12
  · rw [if_pos c4] at h
    refine ex_tswI 12 (73) 74 dX10_lookAtTold_1 c4 (by decide) (by decide) ?_
    refine ex_aload_n dX10_lookAtTold_74 rfl ?_
    refine mx_getr 10 1 dX10_lookAtTold_75 fl_X10_12 oc_at_0 (rf_10_0 oc_at_0) ?_
    refine mx_getr 6 (1 + 5) dX10_lookAtTold_78 fl_X10_214 (oc_10_0 oc_at_0) (rf_6_2 (oc_10_0 oc_at_0)) ?_
    refine mx_geti 8 dX10_lookAtTold_81 fl_X10_176 (oc_6_2 (oc_10_0 oc_at_0)) (isi_8_3 (oc_6_2 (oc_10_0 oc_at_0))) ?_
    cases h
    exact mx_reti .int dX10_lookAtTold_84 ⟨rfl, rfl⟩
  rw [if_neg c4] at h
  by_cases c5 : a1 = 13
  · rw [if_pos c5] at h
    refine ex_tswI 13 (84) 85 dX10_lookAtTold_1 c5 (by decide) (by decide) ?_
    refine ex_aload_n dX10_lookAtTold_85 rfl ?_
    refine mx_getr 10 1 dX10_lookAtTold_86 fl_X10_12 oc_at_0 (rf_10_0 oc_at_0) ?_
    refine mx_getr 6 (1 + 7) dX10_lookAtTold_89 fl_X10_350 (oc_10_0 oc_at_0) (rf_6_3 (oc_10_0 oc_at_0)) ?_
    refine mx_geti 8 dX10_lookAtTold_92 fl_X10_176 (oc_6_3 (oc_10_0 oc_at_0)) (isi_8_3 (oc_6_3 (oc_10_0 oc_at_0))) ?_
    cases h
    exact mx_reti .int dX10_lookAtTold_95 ⟨rfl, rfl⟩
  rw [if_neg c5] at h
  by_cases c6 : a1 = 14
  · rw [if_pos c6] at h
    refine ex_tswI 14 (95) 96 dX10_lookAtTold_1 c6 (by decide) (by decide) ?_
    refine ex_aload_n dX10_lookAtTold_96 rfl ?_
    refine mx_getr 10 115 dX10_lookAtTold_97 fl_X10_35 oc_at_0 (rf_10_5 oc_at_0) ?_
    refine mx_geti 7 dX10_lookAtTold_100 fl_X10_353 (oc_10_5 oc_at_0) (isi_7_2 (oc_10_5 oc_at_0)) ?_
    cases h
    exact mx_reti .int dX10_lookAtTold_103 ⟨rfl, rfl⟩
  rw [if_neg c6] at h
  by_cases c7 : a1 = 15
  · rw [if_pos c7] at h
    refine ex_tswI 15 (103) 104 dX10_lookAtTold_1 c7 (by decide) (by decide) ?_
    refine ex_aload_n dX10_lookAtTold_104 rfl ?_
    refine mx_getr 10 79 dX10_lookAtTold_105 fl_X10_25 oc_at_0 (rf_10_3 oc_at_0) ?_
    refine mx_getr 5 (79 + 1) dX10_lookAtTold_108 fl_X10_251 (oc_10_3 oc_at_0) (rf_5_0 (oc_10_3 oc_at_0)) ?_
    refine mx_geti 8 dX10_lookAtTold_111 fl_X10_176 (oc_5_0 (oc_10_3 oc_at_0)) (isi_8_3 (oc_5_0 (oc_10_3 oc_at_0))) ?_
    cases h
    exact mx_reti .int dX10_lookAtTold_114 ⟨rfl, rfl⟩
  rw [if_neg c7] at h
  by_cases c8 : a1 = 16
  · rw [if_pos c8] at h
    refine ex_tswI 16 (114) 115 dX10_lookAtTold_1 c8 (by decide) (by decide) ?_
    refine ex_aload_n dX10_lookAtTold_115 rfl ?_
    refine mx_getr 10 79 dX10_lookAtTold_116 fl_X10_25 oc_at_0 (rf_10_3 oc_at_0) ?_
    refine mx_getr 5 (79 + 3) dX10_lookAtTold_119 fl_X10_274 (oc_10_3 oc_at_0) (rf_5_1 (oc_10_3 oc_at_0)) ?_
    refine mx_geti 8 dX10_lookAtTold_122 fl_X10_176 (oc_5_1 (oc_10_3 oc_at_0)) (isi_8_3 (oc_5_1 (oc_10_3 oc_at_0))) ?_
    cases h
    exact mx_reti .int dX10_lookAtTold_125 ⟨rfl, rfl⟩
  rw [if_neg c8] at h
  by_cases c9 : a1 = 17
  · rw [if_pos c9] at h
    refine ex_tswI 17 (125) 126 dX10_lookAtTold_1 c9 (by decide) (by decide) ?_
    refine ex_aload_n dX10_lookAtTold_126 rfl ?_
    refine mx_getr 10 79 dX10_lookAtTold_127 fl_X10_25 oc_at_0 (rf_10_3 oc_at_0) ?_
    refine mx_getr 5 (79 + 5) dX10_lookAtTold_130 fl_X10_305 (oc_10_3 oc_at_0) (rf_5_2 (oc_10_3 oc_at_0)) ?_
    refine mx_geti 8 dX10_lookAtTold_133 fl_X10_176 (oc_5_2 (oc_10_3 oc_at_0)) (isi_8_3 (oc_5_2 (oc_10_3 oc_at_0))) ?_
    cases h
    exact mx_reti .int dX10_lookAtTold_136 ⟨rfl, rfl⟩
  rw [if_neg c9] at h
  by_cases c10 : a1 = 18
  · rw [if_pos c10] at h
    refine ex_tswI 18 (136) 137 dX10_lookAtTold_1 c10 (by decide) (by decide) ?_
    refine ex_aload_n dX10_lookAtTold_137 rfl ?_
    refine mx_getr 10 79 dX10_lookAtTold_138 fl_X10_25 oc_at_0 (rf_10_3 oc_at_0) ?_
    refine mx_getr 5 (79 + 7) dX10_lookAtTold_141 fl_X10_314 (oc_10_3 oc_at_0) (rf_5_3 (oc_10_3 oc_at_0)) ?_
    refine mx_geti 8 dX10_lookAtTold_144 fl_X10_176 (oc_5_3 (oc_10_3 oc_at_0)) (isi_8_3 (oc_5_3 (oc_10_3 oc_at_0))) ?_
    cases h
    exact mx_reti .int dX10_lookAtTold_147 ⟨rfl, rfl⟩
  rw [if_neg c10] at h
  cases h
def f_X10_look (a1 : Int32) (M : Mem) : Option (Int32) :=
  if a1.toInt < 0 ∨ 9 < a1.toInt then (b1 (f_X10_lookAtTold a1 M) fun x2 => some x2) else if a1 = 0 then (some (M (1 + 1) 3)) else if a1 = 1 then (some (M 1 10)) else if a1 = 2 then (some (M (1 + 9) 3)) else if a1 = 3 then (some (M 1 11)) else if a1 = 4 then (some (M 1 12)) else if a1 = 5 then (some (M 1 15)) else if a1 = 6 then (some (M 1 13)) else if a1 = 7 then (some (M 1 14)) else if a1 = 8 then (some (M (1 + 11) 3)) else if a1 = 9 then (some (M 1 9)) else none
set_option maxRecDepth 100000 in
set_option maxHeartbeats 4000000 in
theorem t_X10_look (l : Launch) (E : EV) (a1 : Int32) (M : Mem) {r : Int32} (h : f_X10_look a1 M = some r) : RunM l E yX10_look cX10_look 2 (some .int) 1 [.ref 0, .int a1] M M (some (.int r)) := by
  refine RunM.of (by decide) (Nat.le_of_ble_eq_true rfl) ?_
  show XM l E (RX10, "look", cX10_look, 2) (some .int) 1 0 [some (.ref 0), some (.int a1)] [] M M (some (.int r))
  unfold f_X10_look at h
  refine ex_iload_n dX10_look_0 rfl ?_
  by_cases c1 : a1.toInt < 0 ∨ 9 < a1.toInt
  · rw [if_pos c1] at h
    refine ex_tswO 145 dX10_look_1 c1 (by decide) ?_
    refine ex_aload_n dX10_look_145 rfl ?_
    refine ex_iload_n dX10_look_146 rfl ?_
    obtain ⟨x2, qx2, h⟩ := b1E h
    refine mx_cVi [.int a1] [] 0 10 x2 dX10_look_147 cl_X10_339 im_X10_lookAtTold cy_X10_lookAtTold oc_at_0 rfl (Nat.le_of_ble_eq_true rfl) (by decide) (t_X10_lookAtTold l E a1 M qx2) ?_
    cases h
    exact mx_reti .int dX10_look_150 ⟨rfl, rfl⟩
  rw [if_neg c1] at h
  by_cases c3 : a1 = 0
  · rw [if_pos c3] at h
    refine ex_tswI 0 (55) 56 dX10_look_1 c3 (by decide) (by decide) ?_
    refine ex_aload_n dX10_look_56 rfl ?_
    refine mx_getr 10 1 dX10_look_57 fl_X10_12 oc_at_0 (rf_10_0 oc_at_0) ?_
    refine mx_getr 6 (1 + 1) dX10_look_60 fl_X10_173 (oc_10_0 oc_at_0) (rf_6_0 (oc_10_0 oc_at_0)) ?_
    refine mx_geti 8 dX10_look_63 fl_X10_176 (oc_6_0 (oc_10_0 oc_at_0)) (isi_8_3 (oc_6_0 (oc_10_0 oc_at_0))) ?_
    cases h
    exact mx_reti .int dX10_look_66 ⟨rfl, rfl⟩
  rw [if_neg c3] at h
  by_cases c4 : a1 = 1
  · rw [if_pos c4] at h
    refine ex_tswI 1 (66) 67 dX10_look_1 c4 (by decide) (by decide) ?_
    refine ex_aload_n dX10_look_67 rfl ?_
    refine mx_getr 10 1 dX10_look_68 fl_X10_12 oc_at_0 (rf_10_0 oc_at_0) ?_
    refine mx_geti 6 dX10_look_71 fl_X10_137 (oc_10_0 oc_at_0) (isi_6_10 (oc_10_0 oc_at_0)) ?_
    cases h
    exact mx_reti .int dX10_look_74 ⟨rfl, rfl⟩
  rw [if_neg c4] at h
  by_cases c5 : a1 = 2
  · rw [if_pos c5] at h
    refine ex_tswI 2 (74) 75 dX10_look_1 c5 (by decide) (by decide) ?_
    refine ex_aload_n dX10_look_75 rfl ?_
    refine mx_getr 10 1 dX10_look_76 fl_X10_12 oc_at_0 (rf_10_0 oc_at_0) ?_
    refine mx_getr 6 (1 + 9) dX10_look_79 fl_X10_123 (oc_10_0 oc_at_0) (rf_6_4 (oc_10_0 oc_at_0)) ?_
    refine mx_geti 8 dX10_look_82 fl_X10_176 (oc_6_4 (oc_10_0 oc_at_0)) (isi_8_3 (oc_6_4 (oc_10_0 oc_at_0))) ?_
    cases h
    exact mx_reti .int dX10_look_85 ⟨rfl, rfl⟩
  rw [if_neg c5] at h
  by_cases c6 : a1 = 3
  · rw [if_pos c6] at h
    refine ex_tswI 3 (85) 86 dX10_look_1 c6 (by decide) (by decide) ?_
    refine ex_aload_n dX10_look_86 rfl ?_
    refine mx_getr 10 1 dX10_look_87 fl_X10_12 oc_at_0 (rf_10_0 oc_at_0) ?_
    refine mx_geti 6 dX10_look_90 fl_X10_84 (oc_10_0 oc_at_0) (isi_6_11 (oc_10_0 oc_at_0)) ?_
    cases h
    exact mx_reti .int dX10_look_93 ⟨rfl, rfl⟩
  rw [if_neg c6] at h
  by_cases c7 : a1 = 4
  · rw [if_pos c7] at h
    refine ex_tswI 4 (93) 94 dX10_look_1 c7 (by decide) (by decide) ?_
    refine ex_aload_n dX10_look_94 rfl ?_
    refine mx_getr 10 1 dX10_look_95 fl_X10_12 oc_at_0 (rf_10_0 oc_at_0) ?_
    refine mx_geti 6 dX10_look_98 fl_X10_333 (oc_10_0 oc_at_0) (isi_6_12 (oc_10_0 oc_at_0)) ?_
    cases h
    exact mx_reti .int dX10_look_101 ⟨rfl, rfl⟩
  rw [if_neg c7] at h
  by_cases c8 : a1 = 5
  · rw [if_pos c8] at h
    refine ex_tswI 5 (101) 102 dX10_look_1 c8 (by decide) (by decide) ?_
    refine ex_aload_n dX10_look_102 rfl ?_
    refine mx_getr 10 1 dX10_look_103 fl_X10_12 oc_at_0 (rf_10_0 oc_at_0) ?_
    refine mx_geti 6 dX10_look_106 fl_X10_336 (oc_10_0 oc_at_0) (isi_6_15 (oc_10_0 oc_at_0)) ?_
    cases h
    exact mx_reti .int dX10_look_109 ⟨rfl, rfl⟩
  rw [if_neg c8] at h
  by_cases c9 : a1 = 6
  · rw [if_pos c9] at h
    refine ex_tswI 6 (109) 110 dX10_look_1 c9 (by decide) (by decide) ?_
    refine ex_aload_n dX10_look_110 rfl ?_
    refine mx_getr 10 1 dX10_look_111 fl_X10_12 oc_at_0 (rf_10_0 oc_at_0) ?_
    refine mx_geti 6 dX10_look_114 fl_X10_87 (oc_10_0 oc_at_0) (isi_6_13 (oc_10_0 oc_at_0)) ?_
    cases h
    exact mx_reti .int dX10_look_117 ⟨rfl, rfl⟩
  rw [if_neg c9] at h
  by_cases c10 : a1 = 7
  · rw [if_pos c10] at h
    refine ex_tswI 7 (117) 118 dX10_look_1 c10 (by decide) (by decide) ?_
    refine ex_aload_n dX10_look_118 rfl ?_
    refine mx_getr 10 1 dX10_look_119 fl_X10_12 oc_at_0 (rf_10_0 oc_at_0) ?_
    refine mx_geti 6 dX10_look_122 fl_X10_90 (oc_10_0 oc_at_0) (isi_6_14 (oc_10_0 oc_at_0)) ?_
    cases h
    exact mx_reti .int dX10_look_125 ⟨rfl, rfl⟩
  rw [if_neg c10] at h
  by_cases c11 : a1 = 8
  · rw [if_pos c11] at h
    refine ex_tswI 8 (125) 126 dX10_look_1 c11 (by decide) (by decide) ?_
    refine ex_aload_n dX10_look_126 rfl ?_
    refine mx_getr 10 1 dX10_look_127 fl_X10_12 oc_at_0 (rf_10_0 oc_at_0) ?_
    refine mx_getr 6 (1 + 11) dX10_look_130 fl_X10_217 (oc_10_0 oc_at_0) (rf_6_5 (oc_10_0 oc_at_0)) ?_
    refine mx_geti 8 dX10_look_133 fl_X10_176 (oc_6_5 (oc_10_0 oc_at_0)) (isi_8_3 (oc_6_5 (oc_10_0 oc_at_0))) ?_
    cases h
    exact mx_reti .int dX10_look_136 ⟨rfl, rfl⟩
  rw [if_neg c11] at h
  by_cases c12 : a1 = 9
  · rw [if_pos c12] at h
    refine ex_tswI 9 (136) 137 dX10_look_1 c12 (by decide) (by decide) ?_
    refine ex_aload_n dX10_look_137 rfl ?_
    refine mx_getr 10 1 dX10_look_138 fl_X10_12 oc_at_0 (rf_10_0 oc_at_0) ?_
    refine mx_geti 6 dX10_look_141 fl_X10_73 (oc_10_0 oc_at_0) (isi_6_9 (oc_10_0 oc_at_0)) ?_
    cases h
    exact mx_reti .int dX10_look_144 ⟨rfl, rfl⟩
  rw [if_neg c12] at h
  cases h
def f_X11_isIn (a1 : Int32) (a2 : Int32) (a3 : Int32) : (Int32) :=
  if (a1 < a2 ∨ a3 < a1) then (0) else (1)
theorem z_X11_isIn (a1 : Int32) (a2 : Int32) (a3 : Int32) : f_X11_isIn a1 a2 a3 = 0 ∨ f_X11_isIn a1 a2 a3 = 1 := by
  unfold f_X11_isIn
  (repeat' split) <;> first | exact Or.inl rfl | exact Or.inr rfl
set_option maxRecDepth 100000 in
set_option maxHeartbeats 4000000 in
theorem t_X11_isIn (l : Launch) (E : EV) (a1 : Int32) (a2 : Int32) (a3 : Int32) (M : Mem) {r : Int32} (h : f_X11_isIn a1 a2 a3 = r) : RunM l E yX11_isIn cX11_isIn 3 (some .boolean) 0 [.int a1, .int a2, .int a3] M M (some (.int r)) := by
  refine RunM.of (by decide) (Nat.le_of_ble_eq_true rfl) ?_
  show XM l E (RX11, "isIn", cX11_isIn, 3) (some .boolean) 0 0 [some (.int a1), some (.int a2), some (.int a3)] [] M M (some (.int r))
  unfold f_X11_isIn at h
  refine ex_iload_n dX11_isIn_0 rfl ?_
  refine ex_iload_n dX11_isIn_1 rfl ?_
  have JXC3 : (a1 < a2 ∨ a3 < a1) → XM l E (RX11, "isIn", cX11_isIn, 3) (some .boolean) 0 14 [some (.int a1), some (.int a2), some (.int a3)] [] M M (some (.int r)) := fun C3 => by
    rw [if_pos C3] at h
    refine ex_iconst 0 dX11_isIn_14 kI_0 ?_
    subst h
    exact mx_reti .boolean dX11_isIn_15 ⟨rfl, by decide⟩
  have JYC3 : ¬ ((a1 < a2 ∨ a3 < a1)) → XM l E (RX11, "isIn", cX11_isIn, 3) (some .boolean) 0 15 [some (.int a1), some (.int a2), some (.int a3)] [.int 1] M M (some (.int r)) := fun C3 => by
    rw [if_neg C3] at h
    subst h
    exact mx_reti .boolean dX11_isIn_15 ⟨rfl, by decide⟩
  clear h
  refine ex_icmp_lt 14 dX11_isIn_2 (by decide) (fun c1 => ?_) (fun c1 => ?_)
  · exact JXC3 (Or.inl c1)
  · refine ex_iload_n dX11_isIn_5 rfl ?_
    refine ex_iload_n dX11_isIn_6 rfl ?_
    refine ex_icmp_gt 14 dX11_isIn_7 (by decide) (fun c2 => ?_) (fun c2 => ?_)
    · exact JXC3 (Or.inr c2)
    · refine ex_iconst 1 dX11_isIn_10 kI_1 ?_
      refine ex_goto 15 dX11_isIn_11 (by decide) ?_
      exact JYC3 (fun z => z.elim c1 c2)
def f_X11_lesser (a1 : Int32) (a2 : Int32) : (Int32) :=
  lt ((if a2 ≤ a1 then a2 else a1) : Int32) fun x2 => x2
set_option maxRecDepth 100000 in
set_option maxHeartbeats 4000000 in
theorem t_X11_lesser (l : Launch) (E : EV) (a1 : Int32) (a2 : Int32) (M : Mem) {r : Int32} (h : f_X11_lesser a1 a2 = r) : RunM l E yX11_lesser cX11_lesser 2 (some .int) 0 [.int a1, .int a2] M M (some (.int r)) := by
  refine RunM.of (by decide) (Nat.le_of_ble_eq_true rfl) ?_
  show XM l E (RX11, "lesser", cX11_lesser, 2) (some .int) 0 0 [some (.int a1), some (.int a2)] [] M M (some (.int r))
  unfold f_X11_lesser at h
  refine ex_iload_n dX11_lesser_0 rfl ?_
  refine ex_iload_n dX11_lesser_1 rfl ?_
  obtain ⟨x2, ex2, h⟩ := ltE h
  have Jx2 : XM l E (RX11, "lesser", cX11_lesser, 2) (some .int) 0 10 [some (.int a1), some (.int a2)] [.int x2] M M (some (.int r)) := by
    subst h
    exact mx_reti .int dX11_lesser_10 ⟨rfl, rfl⟩
  clear h
  refine ex_icmp_ge 9 dX11_lesser_2 (by decide) (fun c1 => ?_) (fun c1 => ?_)
  · rw [if_pos c1] at ex2
    refine ex_iload_n dX11_lesser_9 rfl ?_
    subst ex2
    exact Jx2
  · rw [if_neg c1] at ex2
    refine ex_iload_n dX11_lesser_5 rfl ?_
    refine ex_goto 10 dX11_lesser_6 (by decide) ?_
    subst ex2
    exact Jx2
def f_X11_greater (a1 : Int32) (a2 : Int32) : (Int32) :=
  lt ((if a1 ≤ a2 then a2 else a1) : Int32) fun x2 => x2
set_option maxRecDepth 100000 in
set_option maxHeartbeats 4000000 in
theorem t_X11_greater (l : Launch) (E : EV) (a1 : Int32) (a2 : Int32) (M : Mem) {r : Int32} (h : f_X11_greater a1 a2 = r) : RunM l E yX11_greater cX11_greater 2 (some .int) 0 [.int a1, .int a2] M M (some (.int r)) := by
  refine RunM.of (by decide) (Nat.le_of_ble_eq_true rfl) ?_
  show XM l E (RX11, "greater", cX11_greater, 2) (some .int) 0 0 [some (.int a1), some (.int a2)] [] M M (some (.int r))
  unfold f_X11_greater at h
  refine ex_iload_n dX11_greater_0 rfl ?_
  refine ex_iload_n dX11_greater_1 rfl ?_
  obtain ⟨x2, ex2, h⟩ := ltE h
  have Jx2 : XM l E (RX11, "greater", cX11_greater, 2) (some .int) 0 10 [some (.int a1), some (.int a2)] [.int x2] M M (some (.int r)) := by
    subst h
    exact mx_reti .int dX11_greater_10 ⟨rfl, rfl⟩
  clear h
  refine ex_icmp_le 9 dX11_greater_2 (by decide) (fun c1 => ?_) (fun c1 => ?_)
  · rw [if_pos c1] at ex2
    refine ex_iload_n dX11_greater_9 rfl ?_
    subst ex2
    exact Jx2
  · rw [if_neg c1] at ex2
    refine ex_iload_n dX11_greater_5 rfl ?_
    refine ex_goto 10 dX11_greater_6 (by decide) ?_
    subst ex2
    exact Jx2
def f_X11_isKind (a1 : Int32) (M : Mem) : (Int32) :=
  (f_X11_isIn a1 0 ((M 156 80) - 1))
theorem z_X11_isKind (a1 : Int32) (M : Mem) : f_X11_isKind a1 M = 0 ∨ f_X11_isKind a1 M = 1 := by
  unfold f_X11_isKind
  (repeat' split) <;> first | exact Or.inl rfl | exact Or.inr rfl | exact z_X11_isIn _ _ _
set_option maxRecDepth 100000 in
set_option maxHeartbeats 4000000 in
theorem t_X11_isKind (l : Launch) (E : EV) (a1 : Int32) (M : Mem) {r : Int32} (h : f_X11_isKind a1 M = r) : RunM l E yX11_isKind cX11_isKind 2 (some .boolean) 1 [.ref 155, .int a1] M M (some (.int r)) := by
  refine RunM.of (by decide) (Nat.le_of_ble_eq_true rfl) ?_
  show XM l E (RX11, "isKind", cX11_isKind, 2) (some .boolean) 1 0 [some (.ref 155), some (.int a1)] [] M M (some (.int r))
  unfold f_X11_isKind at h
  refine ex_iload_n dX11_isKind_0 rfl ?_
  refine ex_iconst 0 dX11_isKind_1 kI_0 ?_
  refine ex_aload_n dX11_isKind_2 rfl ?_
  refine mx_getr 11 156 dX11_isKind_3 fl_X11_7 oc_at_155 (rf_11_0 oc_at_155) ?_
  refine ex_bipush 80 dX11_isKind_6 kB_80 ?_
  refine mx_iald (M 156 80) dX11_isKind_8 (rdc_156_80 _) ?_
  refine ex_iconst 1 dX11_isKind_9 kI_1 ?_
  refine ex_isub dX11_isKind_10 ?_
  refine mx_cSi [.int a1, .int 0, .int ((M 156 80) - 1)] [] (f_X11_isIn a1 0 ((M 156 80) - 1)) dX11_isKind_11 cl_X11_53 sm_X11_isIn rfl (Nat.le_of_ble_eq_true rfl) (by decide) (t_X11_isIn l E a1 0 ((M 156 80) - 1) M rfl) ?_
  subst h
  exact mx_reti .boolean dX11_isKind_14 ⟨rfl, nzB (z_X11_isIn _ _ _)⟩
def f_X11_isRemain (a1 : Int32) (M : Mem) : (Int32) :=
  (f_X11_isIn a1 0 ((M 156 7) - 1))
theorem z_X11_isRemain (a1 : Int32) (M : Mem) : f_X11_isRemain a1 M = 0 ∨ f_X11_isRemain a1 M = 1 := by
  unfold f_X11_isRemain
  (repeat' split) <;> first | exact Or.inl rfl | exact Or.inr rfl | exact z_X11_isIn _ _ _
set_option maxRecDepth 100000 in
set_option maxHeartbeats 4000000 in
theorem t_X11_isRemain (l : Launch) (E : EV) (a1 : Int32) (M : Mem) {r : Int32} (h : f_X11_isRemain a1 M = r) : RunM l E yX11_isRemain cX11_isRemain 2 (some .boolean) 1 [.ref 155, .int a1] M M (some (.int r)) := by
  refine RunM.of (by decide) (Nat.le_of_ble_eq_true rfl) ?_
  show XM l E (RX11, "isRemain", cX11_isRemain, 2) (some .boolean) 1 0 [some (.ref 155), some (.int a1)] [] M M (some (.int r))
  unfold f_X11_isRemain at h
  refine ex_iload_n dX11_isRemain_0 rfl ?_
  refine ex_iconst 0 dX11_isRemain_1 kI_0 ?_
  refine ex_aload_n dX11_isRemain_2 rfl ?_
  refine mx_getr 11 156 dX11_isRemain_3 fl_X11_7 oc_at_155 (rf_11_0 oc_at_155) ?_
  refine ex_bipush 7 dX11_isRemain_6 kB_7 ?_
  refine mx_iald (M 156 7) dX11_isRemain_8 (rdc_156_7 _) ?_
  refine ex_iconst 1 dX11_isRemain_9 kI_1 ?_
  refine ex_isub dX11_isRemain_10 ?_
  refine mx_cSi [.int a1, .int 0, .int ((M 156 7) - 1)] [] (f_X11_isIn a1 0 ((M 156 7) - 1)) dX11_isRemain_11 cl_X11_53 sm_X11_isIn rfl (Nat.le_of_ble_eq_true rfl) (by decide) (t_X11_isIn l E a1 0 ((M 156 7) - 1) M rfl) ?_
  subst h
  exact mx_reti .boolean dX11_isRemain_14 ⟨rfl, nzB (z_X11_isIn _ _ _)⟩
def f_X11_ofRemain (a1 : Int32) (a2 : Int32) (M : Mem) : Option (Int32) :=
  b1 (rd M 156 ((8 + (5 * a1)) + a2)) fun x1 => some x1
set_option maxRecDepth 100000 in
set_option maxHeartbeats 4000000 in
theorem t_X11_ofRemain (l : Launch) (E : EV) (a1 : Int32) (a2 : Int32) (M : Mem) {r : Int32} (h : f_X11_ofRemain a1 a2 M = some r) : RunM l E yX11_ofRemain cX11_ofRemain 3 (some .int) 0 [.ref 155, .int a1, .int a2] M M (some (.int r)) := by
  refine RunM.of (by decide) (Nat.le_of_ble_eq_true rfl) ?_
  show XM l E (RX11, "ofRemain", cX11_ofRemain, 3) (some .int) 0 0 [some (.ref 155), some (.int a1), some (.int a2)] [] M M (some (.int r))
  unfold f_X11_ofRemain at h
  refine ex_aload_n dX11_ofRemain_0 rfl ?_
  refine mx_getr 11 156 dX11_ofRemain_1 fl_X11_7 oc_at_155 (rf_11_0 oc_at_155) ?_
  refine ex_bipush 8 dX11_ofRemain_4 kB_8 ?_
  refine ex_iconst 5 dX11_ofRemain_6 kI_5 ?_
  refine ex_iload_n dX11_ofRemain_7 rfl ?_
  refine ex_imul dX11_ofRemain_8 ?_
  refine ex_iadd dX11_ofRemain_9 ?_
  refine ex_iload_n dX11_ofRemain_10 rfl ?_
  refine ex_iadd dX11_ofRemain_11 ?_
  obtain ⟨x1, qx1, h⟩ := b1E h
  refine mx_iald x1 dX11_ofRemain_12 qx1 ?_
  cases h
  exact mx_reti .int dX11_ofRemain_13 ⟨rfl, rfl⟩
def f_X11_wholeOf (a1 : Int32) (M : Mem) : Option (Int32) :=
  b1 (rd M 156 (91 + (2 * a1))) fun x1 => some x1
set_option maxRecDepth 100000 in
set_option maxHeartbeats 4000000 in
theorem t_X11_wholeOf (l : Launch) (E : EV) (a1 : Int32) (M : Mem) {r : Int32} (h : f_X11_wholeOf a1 M = some r) : RunM l E yX11_wholeOf cX11_wholeOf 2 (some .int) 0 [.ref 155, .int a1] M M (some (.int r)) := by
  refine RunM.of (by decide) (Nat.le_of_ble_eq_true rfl) ?_
  show XM l E (RX11, "wholeOf", cX11_wholeOf, 2) (some .int) 0 0 [some (.ref 155), some (.int a1)] [] M M (some (.int r))
  unfold f_X11_wholeOf at h
  refine ex_aload_n dX11_wholeOf_0 rfl ?_
  refine mx_getr 11 156 dX11_wholeOf_1 fl_X11_7 oc_at_155 (rf_11_0 oc_at_155) ?_
  refine ex_bipush 91 dX11_wholeOf_4 kB_91 ?_
  refine ex_iconst 2 dX11_wholeOf_6 kI_2 ?_
  refine ex_iload_n dX11_wholeOf_7 rfl ?_
  refine ex_imul dX11_wholeOf_8 ?_
  refine ex_iadd dX11_wholeOf_9 ?_
  obtain ⟨x1, qx1, h⟩ := b1E h
  refine mx_iald x1 dX11_wholeOf_10 qx1 ?_
  cases h
  exact mx_reti .int dX11_wholeOf_11 ⟨rfl, rfl⟩
def f_X11_keepsOf (a1 : Int32) (M : Mem) : Option (Int32) :=
  b1 (rd M 156 ((91 + (2 * a1)) + 1)) fun x1 => some x1
set_option maxRecDepth 100000 in
set_option maxHeartbeats 4000000 in
theorem t_X11_keepsOf (l : Launch) (E : EV) (a1 : Int32) (M : Mem) {r : Int32} (h : f_X11_keepsOf a1 M = some r) : RunM l E yX11_keepsOf cX11_keepsOf 2 (some .int) 0 [.ref 155, .int a1] M M (some (.int r)) := by
  refine RunM.of (by decide) (Nat.le_of_ble_eq_true rfl) ?_
  show XM l E (RX11, "keepsOf", cX11_keepsOf, 2) (some .int) 0 0 [some (.ref 155), some (.int a1)] [] M M (some (.int r))
  unfold f_X11_keepsOf at h
  refine ex_aload_n dX11_keepsOf_0 rfl ?_
  refine mx_getr 11 156 dX11_keepsOf_1 fl_X11_7 oc_at_155 (rf_11_0 oc_at_155) ?_
  refine ex_bipush 91 dX11_keepsOf_4 kB_91 ?_
  refine ex_iconst 2 dX11_keepsOf_6 kI_2 ?_
  refine ex_iload_n dX11_keepsOf_7 rfl ?_
  refine ex_imul dX11_keepsOf_8 ?_
  refine ex_iadd dX11_keepsOf_9 ?_
  refine ex_iconst 1 dX11_keepsOf_10 kI_1 ?_
  refine ex_iadd dX11_keepsOf_11 ?_
  obtain ⟨x1, qx1, h⟩ := b1E h
  refine mx_iald x1 dX11_keepsOf_12 qx1 ?_
  cases h
  exact mx_reti .int dX11_keepsOf_13 ⟨rfl, rfl⟩
def f_X11_ageOf (a1 : Int32) (M : Mem) : Option (Int32) :=
  b1 (f_X11_ofRemain a1 2 M) fun x1 => some ((M 156 0) - x1)
set_option maxRecDepth 100000 in
set_option maxHeartbeats 4000000 in
theorem t_X11_ageOf (l : Launch) (E : EV) (a1 : Int32) (M : Mem) {r : Int32} (h : f_X11_ageOf a1 M = some r) : RunM l E yX11_ageOf cX11_ageOf 2 (some .int) 1 [.ref 155, .int a1] M M (some (.int r)) := by
  refine RunM.of (by decide) (Nat.le_of_ble_eq_true rfl) ?_
  show XM l E (RX11, "ageOf", cX11_ageOf, 2) (some .int) 1 0 [some (.ref 155), some (.int a1)] [] M M (some (.int r))
  unfold f_X11_ageOf at h
  refine ex_aload_n dX11_ageOf_0 rfl ?_
  refine mx_getr 11 156 dX11_ageOf_1 fl_X11_7 oc_at_155 (rf_11_0 oc_at_155) ?_
  refine ex_iconst 0 dX11_ageOf_4 kI_0 ?_
  refine mx_iald (M 156 0) dX11_ageOf_5 (rdc_156_0 _) ?_
  refine ex_aload_n dX11_ageOf_6 rfl ?_
  refine ex_iload_n dX11_ageOf_7 rfl ?_
  refine ex_iconst 2 dX11_ageOf_8 kI_2 ?_
  obtain ⟨x1, qx1, h⟩ := b1E h
  refine mx_cVi [.int a1, .int 2] [.int (M 156 0)] 155 11 x1 dX11_ageOf_9 cl_X11_57 im_X11_ofRemain cy_X11_ofRemain oc_at_155 rfl (Nat.le_of_ble_eq_true rfl) (by decide) (t_X11_ofRemain l E a1 2 M qx1) ?_
  refine ex_isub dX11_ageOf_12 ?_
  cases h
  exact mx_reti .int dX11_ageOf_13 ⟨rfl, rfl⟩
def w_X11_count_4 (a1 : Int32) (i1 : Int32) (i2 : Int32) : Option ((Int32 × Int32) ⊕ (Int32)) :=
  if 16 ≤ i2 then (some (.inr i1)) else (lt (i1 + ((a1 >>> (i2 &&& 31)) &&& 1)) fun x4 => some (.inl (x4, (i2 + 1))))
def f_X11_count (a1 : Int32) : Option (Int32) :=
  b1 (lp (fun s => w_X11_count_4 a1 s.1 s.2) FU (0, 0)) fun q5 => some q5
set_option maxRecDepth 100000 in
set_option maxHeartbeats 4000000 in
theorem t_X11_count (l : Launch) (E : EV) (a1 : Int32) (M : Mem) {r : Int32} (h : f_X11_count a1 = some r) : RunM l E yX11_count cX11_count 3 (some .int) 0 [.int a1] M M (some (.int r)) := by
  refine RunM.of (by decide) (Nat.le_of_ble_eq_true rfl) ?_
  show XM l E (RX11, "count", cX11_count, 3) (some .int) 0 0 [some (.int a1), none, none] [] M M (some (.int r))
  unfold f_X11_count at h
  refine ex_iconst 0 dX11_count_0 kI_0 ?_
  refine ex_istore_n (L2 := [some (.int a1), some (.int 0), none]) dX11_count_1 (by decide) rfl ?_
  refine ex_iconst 0 dX11_count_2 kI_0 ?_
  refine ex_istore_n (L2 := [some (.int a1), some (.int 0), some (.int 0)]) dX11_count_3 (by decide) rfl ?_
  refine ex_mskL [true, true, true] (L2 := [some (.int a1), some (.int 0), some (.int 0)]) rfl ?_
  obtain ⟨q5, hlq5, h⟩ := b1E h
  have hx : XM l E (RX11, "count", cX11_count, 3) (some .int) 0 24 [none, some (.int q5), none] [] M M (some (.int r)) := by
    refine ex_iload_n dX11_count_24 rfl ?_
    cases h
    exact mx_reti .int dX11_count_25 ⟨rfl, rfl⟩
  clear h
  have key : ∀ (k : Nat) (s : Int32 × Int32), lp (fun s => w_X11_count_4 a1 s.1 s.2) k s = some q5 → XM l E (RX11, "count", cX11_count, 3) (some .int) 0 4 [some (.int a1), some (.int s.1), some (.int s.2)] [] M M (some (.int r)) := lp_ind (P := fun (s : Int32 × Int32) => XM l E (RX11, "count", cX11_count, 3) (some .int) 0 4 [some (.int a1), some (.int s.1), some (.int s.2)] [] M M (some (.int r))) (fun s t hb hk he => by
    obtain ⟨i1, i2⟩ := s
    show XM l E (RX11, "count", cX11_count, 3) (some .int) 0 4 [some (.int a1), some (.int i1), some (.int i2)] [] M M (some (.int r))
    change w_X11_count_4 a1 i1 i2 = some t at hb
    unfold w_X11_count_4 at hb
    refine ex_iload_n dX11_count_4 rfl ?_
    refine ex_bipush 16 dX11_count_5 kB_16 ?_
    refine ex_icmp_ge 24 dX11_count_7 (by decide) (fun c3 => ?_) (fun c3 => ?_)
    · rw [if_pos c3] at hb
      refine ex_mskL [false, true, false] (L2 := [none, some (.int i1), none]) rfl ?_
      cases hb
      cases (he _ rfl) <;> exact hx
    · rw [if_neg c3] at hb
      refine ex_iload_n dX11_count_10 rfl ?_
      refine ex_iload_n dX11_count_11 rfl ?_
      refine ex_iload_n dX11_count_12 rfl ?_
      refine ex_ishr dX11_count_13 ?_
      refine ex_iconst 1 dX11_count_14 kI_1 ?_
      refine ex_iand dX11_count_15 ?_
      refine ex_iadd dX11_count_16 ?_
      obtain ⟨x4, ex4, hb⟩ := ltE hb
      rw [← ex4]
      refine ex_istore_n (L2 := [some (.int a1), some (.int x4), some (.int i2)]) dX11_count_17 (by decide) rfl ?_
      refine ex_iinc 1 (L2 := [some (.int a1), some (.int x4), some (.int (i2 + 1))]) dX11_count_18 rfl kI_1 (by decide) rfl ?_
      refine ex_goto 4 dX11_count_21 (by decide) ?_
      refine ex_mskL [true, true, true] (L2 := [some (.int a1), some (.int x4), some (.int (i2 + 1))]) rfl ?_
      cases hb
      exact hk (x4, (i2 + 1)) rfl)
  exact key FU (0, 0) hlq5
def f_X11_forgets (M : Mem) : (Mem) :=
  lt (up2 M 155 4 0) fun M1 => M1
set_option maxRecDepth 100000 in
set_option maxHeartbeats 4000000 in
theorem t_X11_forgets (l : Launch) (E : EV) (M : Mem) {M' : Mem} (h : f_X11_forgets M = M') : RunM l E yX11_forgets cX11_forgets 1 none 0 [.ref 155] M M' none := by
  refine RunM.of (by decide) (Nat.le_of_ble_eq_true rfl) ?_
  show XM l E (RX11, "forgets", cX11_forgets, 1) none 0 0 [some (.ref 155)] [] M M' none
  unfold f_X11_forgets at h
  refine ex_aload_n dX11_forgets_0 rfl ?_
  refine ex_iconst 0 dX11_forgets_1 kI_0 ?_
  obtain ⟨M1, eM1, h⟩ := ltE h
  refine mx_puti 11 dX11_forgets_2 fl_X11_61 rfl ⟨rfl, rfl⟩ oc_at_155 (isi_11_4 oc_at_155) ?_
  rw [← eM1]
  cases h
  exact mx_retv dX11_forgets_5 rfl
def f_X11_state (a1 : Int32) (M : Mem) : (Mem × Int32) :=
  lt (up2 M 156 4 a1) fun M1 => lt (f_X11_forgets M1) fun M2 => (M2, (M 156 4))
set_option maxRecDepth 100000 in
set_option maxHeartbeats 4000000 in
theorem t_X11_state (l : Launch) (E : EV) (a1 : Int32) (M : Mem) {M' : Mem} {r : Int32} (h : f_X11_state a1 M = (M', r)) : RunM l E yX11_state cX11_state 3 (some .int) 1 [.ref 155, .int a1] M M' (some (.int r)) := by
  refine RunM.of (by decide) (Nat.le_of_ble_eq_true rfl) ?_
  show XM l E (RX11, "state", cX11_state, 3) (some .int) 1 0 [some (.ref 155), some (.int a1), none] [] M M' (some (.int r))
  unfold f_X11_state at h
  refine ex_aload_n dX11_state_0 rfl ?_
  refine mx_getr 11 156 dX11_state_1 fl_X11_7 oc_at_155 (rf_11_0 oc_at_155) ?_
  refine ex_iconst 4 dX11_state_4 kI_4 ?_
  refine mx_iald (M 156 4) dX11_state_5 (rdc_156_4 _) ?_
  refine ex_istore_n (L2 := [some (.ref 155), some (.int a1), some (.int (M 156 4))]) dX11_state_6 (by decide) rfl ?_
  refine ex_aload_n dX11_state_7 rfl ?_
  refine mx_getr 11 156 dX11_state_8 fl_X11_7 oc_at_155 (rf_11_0 oc_at_155) ?_
  refine ex_iconst 4 dX11_state_11 kI_4 ?_
  refine ex_iload_n dX11_state_12 rfl ?_
  obtain ⟨M1, eM1, h⟩ := ltE h
  refine mx_iast M1 dX11_state_13 ((wrc_156_4 _ _).trans (congrArg some eM1.symm)) ?_
  refine ex_aload_n dX11_state_14 rfl ?_
  obtain ⟨M2, eM2, h⟩ := ltE h
  refine mx_cVv [] [] 155 11 dX11_state_15 cl_X11_64 im_X11_forgets cy_X11_forgets oc_at_155 rfl (Nat.le_of_ble_eq_true rfl) (by decide) (t_X11_forgets l E M1 eM2.symm) ?_
  refine ex_iload_n dX11_state_18 rfl ?_
  cases h
  exact mx_reti .int dX11_state_19 ⟨rfl, rfl⟩
def f_X11_draw (a1 : Int32) (M : Mem) : Option (Mem × Int32) :=
  lt (up2 M 156 4 ((1664525 * (M 156 4)) + 1013904223)) fun M1 => if a1 = 0 then none else some (M1, ((ush (M1 156 4) 8) - (ush (M1 156 4) 8) / a1 * a1))
set_option maxRecDepth 100000 in
set_option maxHeartbeats 4000000 in
theorem t_X11_draw (l : Launch) (E : EV) (a1 : Int32) (M : Mem) {M' : Mem} {r : Int32} (h : f_X11_draw a1 M = some (M', r)) : RunM l E yX11_draw cX11_draw 2 (some .int) 0 [.ref 155, .int a1] M M' (some (.int r)) := by
  refine RunM.of (by decide) (Nat.le_of_ble_eq_true rfl) ?_
  show XM l E (RX11, "draw", cX11_draw, 2) (some .int) 0 0 [some (.ref 155), some (.int a1)] [] M M' (some (.int r))
  unfold f_X11_draw at h
  refine ex_aload_n dX11_draw_0 rfl ?_
  refine mx_getr 11 156 dX11_draw_1 fl_X11_7 oc_at_155 (rf_11_0 oc_at_155) ?_
  refine ex_iconst 4 dX11_draw_4 kI_4 ?_
  refine ex_ldc 1664525 dX11_draw_5 (tb (i := 1766) (by decide +kernel)) ?_
  refine ex_aload_n dX11_draw_7 rfl ?_
  refine mx_getr 11 156 dX11_draw_8 fl_X11_7 oc_at_155 (rf_11_0 oc_at_155) ?_
  refine ex_iconst 4 dX11_draw_11 kI_4 ?_
  refine mx_iald (M 156 4) dX11_draw_12 (rdc_156_4 _) ?_
  refine ex_imul dX11_draw_13 ?_
  refine ex_ldc 1013904223 dX11_draw_14 (tb (i := 1767) (by decide +kernel)) ?_
  refine ex_iadd dX11_draw_16 ?_
  obtain ⟨M1, eM1, h⟩ := ltE h
  refine mx_iast M1 dX11_draw_17 ((wrc_156_4 _ _).trans (congrArg some eM1.symm)) ?_
  refine ex_aload_n dX11_draw_18 rfl ?_
  refine mx_getr 11 156 dX11_draw_19 fl_X11_7 oc_at_155 (rf_11_0 oc_at_155) ?_
  refine ex_iconst 4 dX11_draw_22 kI_4 ?_
  refine mx_iald (M1 156 4) dX11_draw_23 (rdc_156_4 _) ?_
  refine ex_bipush 8 dX11_draw_24 kB_8 ?_
  refine ex_iushr dX11_draw_26 ?_
  refine ex_iload_n dX11_draw_27 rfl ?_
  by_cases c2 : a1 = 0
  · rw [if_pos c2] at h; cases h
  rw [if_neg c2] at h
  refine ex_irem dX11_draw_28 c2 ?_
  cases h
  exact mx_reti .int dX11_draw_29 ⟨rfl, rfl⟩
def f_X11_set (a1 : Int32) (a2 : Int32) (M : Mem) : Option (Mem × Int32) :=
  if (f_X11_isIn a1 0 2) = 0 then (some (M, 0)) else (lt ((if a1 = 0 then (-9999) else 0) : Int32) fun x3 => lt ((if a1 = 0 then 9999 else 1000) : Int32) fun x5 => if (f_X11_isIn a2 x3 x5) = 0 then (some (M, 0)) else (lt ((if a1 = 0 then 1 else (if a1 = 1 then 81 else 82)) : Int32) fun x9 => b1 (wr M 156 x9 a2) fun M10 => lt (f_X11_forgets M10) fun M11 => some (M11, 1)))
set_option maxRecDepth 100000 in
set_option maxHeartbeats 4000000 in
theorem t_X11_set (l : Launch) (E : EV) (a1 : Int32) (a2 : Int32) (M : Mem) {M' : Mem} {r : Int32} (h : f_X11_set a1 a2 M = some (M', r)) : RunM l E yX11_set cX11_set 3 (some .boolean) 1 [.ref 155, .int a1, .int a2] M M' (some (.int r)) := by
  refine RunM.of (by decide) (Nat.le_of_ble_eq_true rfl) ?_
  show XM l E (RX11, "set", cX11_set, 3) (some .boolean) 1 0 [some (.ref 155), some (.int a1), some (.int a2)] [] M M' (some (.int r))
  unfold f_X11_set at h
  refine ex_iload_n dX11_set_0 rfl ?_
  refine ex_iconst 0 dX11_set_1 kI_0 ?_
  refine ex_iconst 2 dX11_set_2 kI_2 ?_
  refine mx_cSi [.int a1, .int 0, .int 2] [] (f_X11_isIn a1 0 2) dX11_set_3 cl_X11_53 sm_X11_isIn rfl (Nat.le_of_ble_eq_true rfl) (by decide) (t_X11_isIn l E a1 0 2 M rfl) ?_
  refine ex_if_eq 40 dX11_set_6 (by decide) (fun c1 => ?_) (fun c1 => ?_)
  · rw [if_pos c1] at h
    refine ex_iconst 0 dX11_set_40 kI_0 ?_
    cases h
    exact mx_reti .boolean dX11_set_41 ⟨rfl, by decide⟩
  · rw [if_neg c1] at h
    refine ex_iload_n dX11_set_9 rfl ?_
    refine ex_iload_n dX11_set_10 rfl ?_
    obtain ⟨x3, ex3, h⟩ := ltE h
    have Jx3 : XM l E (RX11, "set", cX11_set, 3) (some .boolean) 1 21 [some (.ref 155), some (.int a1), some (.int a2)] [.int x3, .int a2] M M' (some (.int r)) := by
      refine ex_iload_n dX11_set_21 rfl ?_
      obtain ⟨x5, ex5, h⟩ := ltE h
      have Jx5 : XM l E (RX11, "set", cX11_set, 3) (some .boolean) 1 34 [some (.ref 155), some (.int a1), some (.int a2)] [.int x5, .int x3, .int a2] M M' (some (.int r)) := by
        refine mx_cSi [.int a2, .int x3, .int x5] [] (f_X11_isIn a2 x3 x5) dX11_set_34 cl_X11_53 sm_X11_isIn rfl (Nat.le_of_ble_eq_true rfl) (by decide) (t_X11_isIn l E a2 x3 x5 M rfl) ?_
        refine ex_if_ne 42 dX11_set_37 (by decide) (fun c6 => ?_) (fun c6 => ?_)
        · rw [if_neg c6] at h
          refine ex_aload_n dX11_set_42 rfl ?_
          refine mx_getr 11 156 dX11_set_43 fl_X11_7 oc_at_155 (rf_11_0 oc_at_155) ?_
          refine ex_iload_n dX11_set_46 rfl ?_
          obtain ⟨x9, ex9, h⟩ := ltE h
          have Jx9 : XM l E (RX11, "set", cX11_set, 3) (some .boolean) 1 66 [some (.ref 155), some (.int a1), some (.int a2)] [.int x9, .ref 156] M M' (some (.int r)) := by
            refine ex_iload_n dX11_set_66 rfl ?_
            obtain ⟨M10, qM10, h⟩ := b1E h
            refine mx_iast M10 dX11_set_67 qM10 ?_
            refine ex_aload_n dX11_set_68 rfl ?_
            obtain ⟨M11, eM11, h⟩ := ltE h
            refine mx_cVv [] [] 155 11 dX11_set_69 cl_X11_64 im_X11_forgets cy_X11_forgets oc_at_155 rfl (Nat.le_of_ble_eq_true rfl) (by decide) (t_X11_forgets l E M10 eM11.symm) ?_
            refine ex_iconst 1 dX11_set_72 kI_1 ?_
            cases h
            exact mx_reti .boolean dX11_set_73 ⟨rfl, by decide⟩
          clear h
          refine ex_if_ne 54 dX11_set_47 (by decide) (fun c7 => ?_) (fun c7 => ?_)
          · rw [if_neg c7] at ex9
            refine ex_iload_n dX11_set_54 rfl ?_
            refine ex_iconst 1 dX11_set_55 kI_1 ?_
            refine ex_icmp_ne 64 dX11_set_56 (by decide) (fun c8 => ?_) (fun c8 => ?_)
            · rw [if_neg c8] at ex9
              refine ex_bipush 82 dX11_set_64 kB_82 ?_
              subst ex9
              exact Jx9
            · rw [if_pos c8] at ex9
              refine ex_bipush 81 dX11_set_59 kB_81 ?_
              refine ex_goto 66 dX11_set_61 (by decide) ?_
              subst ex9
              exact Jx9
          · rw [if_pos c7] at ex9
            refine ex_iconst 1 dX11_set_50 kI_1 ?_
            refine ex_goto 66 dX11_set_51 (by decide) ?_
            subst ex9
            exact Jx9
        · rw [if_pos c6] at h
          refine ex_iconst 0 dX11_set_40 kI_0 ?_
          cases h
          exact mx_reti .boolean dX11_set_41 ⟨rfl, by decide⟩
      clear h
      refine ex_if_ne 31 dX11_set_22 (by decide) (fun c4 => ?_) (fun c4 => ?_)
      · rw [if_neg c4] at ex5
        refine ex_sipush 1000 dX11_set_31 kS_1000 ?_
        subst ex5
        exact Jx5
      · rw [if_pos c4] at ex5
        refine ex_sipush 9999 dX11_set_25 kS_9999 ?_
        refine ex_goto 34 dX11_set_28 (by decide) ?_
        subst ex5
        exact Jx5
    clear h
    refine ex_if_ne 20 dX11_set_11 (by decide) (fun c2 => ?_) (fun c2 => ?_)
    · rw [if_neg c2] at ex3
      refine ex_iconst 0 dX11_set_20 kI_0 ?_
      subst ex3
      exact Jx3
    · rw [if_pos c2] at ex3
      refine ex_sipush (-9999) dX11_set_14 kS_m9999 ?_
      refine ex_goto 21 dX11_set_17 (by decide) ?_
      subst ex3
      exact Jx3
def w_X11_feed_18 (a1 : Int32) (a2 : Int32) (a3 : Int32) (a4 : Int32) (a5 : Int32) (i2 : Int32) (M3 : Mem) : Option ((Int32 × Mem) ⊕ (Mem)) :=
  if 20 ≤ i2 then (some (.inr M3)) else (lt ((if 4 ≤ i2 then (if 8 ≤ i2 then (if 12 ≤ i2 then (if 16 ≤ i2 then a5 else a4) else a3) else a2) else a1) : Int32) fun x9 => b1 (wr M3 163 (M3 155 16) ((x9 >>> ((24 - (8 * (i2 - i2 / 4 * 4))) &&& 31)) &&& 255)) fun M10 => lt (up2 M10 155 16 ((M10 155 16) + 1)) fun M11 => some (.inl ((i2 + 1), M11)))
def f_X11_feed (a1 : Int32) (a2 : Int32) (a3 : Int32) (a4 : Int32) (a5 : Int32) (M : Mem) : Option (Mem × Int32) :=
  if ((M 155 16) + 20) ≤ 400 then (b1 (lp (fun s => w_X11_feed_18 a1 a2 a3 a4 a5 s.1 s.2) FU (0, M)) fun q12 => some (q12, (q12 155 16))) else (some (M, (-1)))
set_option maxRecDepth 100000 in
set_option maxHeartbeats 4000000 in
theorem t_X11_feed (l : Launch) (E : EV) (a1 : Int32) (a2 : Int32) (a3 : Int32) (a4 : Int32) (a5 : Int32) (M : Mem) {M' : Mem} {r : Int32} (h : f_X11_feed a1 a2 a3 a4 a5 M = some (M', r)) : RunM l E yX11_feed cX11_feed 8 (some .int) 0 [.ref 155, .int a1, .int a2, .int a3, .int a4, .int a5] M M' (some (.int r)) := by
  refine RunM.of (by decide) (Nat.le_of_ble_eq_true rfl) ?_
  show XM l E (RX11, "feed", cX11_feed, 8) (some .int) 0 0 [some (.ref 155), some (.int a1), some (.int a2), some (.int a3), some (.int a4), some (.int a5), none, none] [] M M' (some (.int r))
  unfold f_X11_feed at h
  refine ex_aload_n dX11_feed_0 rfl ?_
  refine mx_geti 11 dX11_feed_1 fl_X11_69 oc_at_155 (isi_11_16 oc_at_155) ?_
  refine ex_bipush 20 dX11_feed_4 kB_20 ?_
  refine ex_iadd dX11_feed_6 ?_
  refine ex_sipush 400 dX11_feed_7 kS_400 ?_
  refine ex_icmp_le 15 dX11_feed_10 (by decide) (fun c1 => ?_) (fun c1 => ?_)
  · rw [if_pos c1] at h
    refine ex_iconst 0 dX11_feed_15 kI_0 ?_
    refine ex_istore (L2 := [some (.ref 155), some (.int a1), some (.int a2), some (.int a3), some (.int a4), some (.int a5), some (.int 0), none]) dX11_feed_16 (by decide) rfl ?_
    refine ex_mskL [true, true, true, true, true, true, true, false] (L2 := [some (.ref 155), some (.int a1), some (.int a2), some (.int a3), some (.int a4), some (.int a5), some (.int 0), none]) rfl ?_
    obtain ⟨q12, hlq12, h⟩ := b1E h
    have hx : XM l E (RX11, "feed", cX11_feed, 8) (some .int) 0 115 [some (.ref 155), none, none, none, none, none, none, none] [] q12 M' (some (.int r)) := by
      refine ex_aload_n dX11_feed_115 rfl ?_
      refine mx_geti 11 dX11_feed_116 fl_X11_69 oc_at_155 (isi_11_16 oc_at_155) ?_
      cases h
      exact mx_reti .int dX11_feed_119 ⟨rfl, rfl⟩
    clear h
    have key : ∀ (k : Nat) (s : Int32 × Mem), lp (fun s => w_X11_feed_18 a1 a2 a3 a4 a5 s.1 s.2) k s = some q12 → XM l E (RX11, "feed", cX11_feed, 8) (some .int) 0 18 [some (.ref 155), some (.int a1), some (.int a2), some (.int a3), some (.int a4), some (.int a5), some (.int s.1), none] [] s.2 M' (some (.int r)) := lp_ind (P := fun (s : Int32 × Mem) => XM l E (RX11, "feed", cX11_feed, 8) (some .int) 0 18 [some (.ref 155), some (.int a1), some (.int a2), some (.int a3), some (.int a4), some (.int a5), some (.int s.1), none] [] s.2 M' (some (.int r))) (fun s t hb hk he => by
      obtain ⟨i2, M3⟩ := s
      show XM l E (RX11, "feed", cX11_feed, 8) (some .int) 0 18 [some (.ref 155), some (.int a1), some (.int a2), some (.int a3), some (.int a4), some (.int a5), some (.int i2), none] [] M3 M' (some (.int r))
      change w_X11_feed_18 a1 a2 a3 a4 a5 i2 M3 = some t at hb
      unfold w_X11_feed_18 at hb
      refine ex_iload dX11_feed_18 rfl ?_
      refine ex_bipush 20 dX11_feed_20 kB_20 ?_
      refine ex_icmp_ge 115 dX11_feed_22 (by decide) (fun c4 => ?_) (fun c4 => ?_)
      · rw [if_pos c4] at hb
        refine ex_mskL [true, false, false, false, false, false, false, false] (L2 := [some (.ref 155), none, none, none, none, none, none, none]) rfl ?_
        cases hb
        cases (he _ rfl) <;> exact hx
      · rw [if_neg c4] at hb
        refine ex_iload dX11_feed_25 rfl ?_
        refine ex_iconst 4 dX11_feed_27 kI_4 ?_
        obtain ⟨x9, ex9, hb⟩ := ltE hb
        have Jx9 : XM l E (RX11, "feed", cX11_feed, 8) (some .int) 0 71 [some (.ref 155), some (.int a1), some (.int a2), some (.int a3), some (.int a4), some (.int a5), some (.int i2), none] [.int x9] M3 M' (some (.int r)) := by
          refine ex_istore (L2 := [some (.ref 155), some (.int a1), some (.int a2), some (.int a3), some (.int a4), some (.int a5), some (.int i2), some (.int x9)]) dX11_feed_71 (by decide) rfl ?_
          refine ex_aload_n dX11_feed_73 rfl ?_
          refine mx_getr 11 163 dX11_feed_74 fl_X11_31 oc_at_155 (rf_11_9 oc_at_155) ?_
          refine ex_aload_n dX11_feed_77 rfl ?_
          refine mx_geti 11 dX11_feed_78 fl_X11_69 oc_at_155 (isi_11_16 oc_at_155) ?_
          refine ex_iload dX11_feed_81 rfl ?_
          refine ex_bipush 24 dX11_feed_83 kB_24 ?_
          refine ex_bipush 8 dX11_feed_85 kB_8 ?_
          refine ex_iload dX11_feed_87 rfl ?_
          refine ex_iconst 4 dX11_feed_89 kI_4 ?_
          refine ex_irem dX11_feed_90 (by decide) ?_
          refine ex_imul dX11_feed_91 ?_
          refine ex_isub dX11_feed_92 ?_
          refine ex_ishr dX11_feed_93 ?_
          refine ex_sipush 255 dX11_feed_94 kS_255 ?_
          refine ex_iand dX11_feed_97 ?_
          obtain ⟨M10, qM10, hb⟩ := b1E hb
          refine mx_iast M10 dX11_feed_98 qM10 ?_
          refine ex_aload_n dX11_feed_99 rfl ?_
          refine ex_dup dX11_feed_100 rfl ?_
          refine mx_geti 11 dX11_feed_101 fl_X11_69 oc_at_155 (isi_11_16 oc_at_155) ?_
          refine ex_iconst 1 dX11_feed_104 kI_1 ?_
          refine ex_iadd dX11_feed_105 ?_
          obtain ⟨M11, eM11, hb⟩ := ltE hb
          refine mx_puti 11 dX11_feed_106 fl_X11_69 rfl ⟨rfl, rfl⟩ oc_at_155 (isi_11_16 oc_at_155) ?_
          rw [← eM11]
          refine ex_iinc 1 (L2 := [some (.ref 155), some (.int a1), some (.int a2), some (.int a3), some (.int a4), some (.int a5), some (.int (i2 + 1)), some (.int x9)]) dX11_feed_109 rfl kI_1 (by decide) rfl ?_
          refine ex_goto 18 dX11_feed_112 (by decide) ?_
          refine ex_mskL [true, true, true, true, true, true, true, false] (L2 := [some (.ref 155), some (.int a1), some (.int a2), some (.int a3), some (.int a4), some (.int a5), some (.int (i2 + 1)), none]) rfl ?_
          cases hb
          exact hk ((i2 + 1), M11) rfl
        clear hb
        refine ex_icmp_ge 35 dX11_feed_28 (by decide) (fun c5 => ?_) (fun c5 => ?_)
        · rw [if_pos c5] at ex9
          refine ex_iload dX11_feed_35 rfl ?_
          refine ex_bipush 8 dX11_feed_37 kB_8 ?_
          refine ex_icmp_ge 46 dX11_feed_39 (by decide) (fun c6 => ?_) (fun c6 => ?_)
          · rw [if_pos c6] at ex9
            refine ex_iload dX11_feed_46 rfl ?_
            refine ex_bipush 12 dX11_feed_48 kB_12 ?_
            refine ex_icmp_ge 57 dX11_feed_50 (by decide) (fun c7 => ?_) (fun c7 => ?_)
            · rw [if_pos c7] at ex9
              refine ex_iload dX11_feed_57 rfl ?_
              refine ex_bipush 16 dX11_feed_59 kB_16 ?_
              refine ex_icmp_ge 69 dX11_feed_61 (by decide) (fun c8 => ?_) (fun c8 => ?_)
              · rw [if_pos c8] at ex9
                refine ex_iload dX11_feed_69 rfl ?_
                subst ex9
                exact Jx9
              · rw [if_neg c8] at ex9
                refine ex_iload dX11_feed_64 rfl ?_
                refine ex_goto 71 dX11_feed_66 (by decide) ?_
                subst ex9
                exact Jx9
            · rw [if_neg c7] at ex9
              refine ex_iload_n dX11_feed_53 rfl ?_
              refine ex_goto 71 dX11_feed_54 (by decide) ?_
              subst ex9
              exact Jx9
          · rw [if_neg c6] at ex9
            refine ex_iload_n dX11_feed_42 rfl ?_
            refine ex_goto 71 dX11_feed_43 (by decide) ?_
            subst ex9
            exact Jx9
        · rw [if_neg c5] at ex9
          refine ex_iload_n dX11_feed_31 rfl ?_
          refine ex_goto 71 dX11_feed_32 (by decide) ?_
          subst ex9
          exact Jx9)
    exact key FU (0, M) hlq12
  · rw [if_neg c1] at h
    refine ex_iconst (-1) dX11_feed_13 kI_m1 ?_
    cases h
    exact mx_reti .int dX11_feed_14 ⟨rfl, rfl⟩
def f_X11_end (a1 : Int32) (M : Mem) : (Mem × Int32) :=
  if (f_X11_isIn a1 0 (M 155 16)) = 0 then ((M, 0)) else (lt (up2 M 155 16 a1) fun M2 => (M2, 1))
set_option maxRecDepth 100000 in
set_option maxHeartbeats 4000000 in
theorem t_X11_end (l : Launch) (E : EV) (a1 : Int32) (M : Mem) {M' : Mem} {r : Int32} (h : f_X11_end a1 M = (M', r)) : RunM l E yX11_end cX11_end 2 (some .boolean) 1 [.ref 155, .int a1] M M' (some (.int r)) := by
  refine RunM.of (by decide) (Nat.le_of_ble_eq_true rfl) ?_
  show XM l E (RX11, "end", cX11_end, 2) (some .boolean) 1 0 [some (.ref 155), some (.int a1)] [] M M' (some (.int r))
  unfold f_X11_end at h
  refine ex_iload_n dX11_end_0 rfl ?_
  refine ex_iconst 0 dX11_end_1 kI_0 ?_
  refine ex_aload_n dX11_end_2 rfl ?_
  refine mx_geti 11 dX11_end_3 fl_X11_69 oc_at_155 (isi_11_16 oc_at_155) ?_
  refine mx_cSi [.int a1, .int 0, .int (M 155 16)] [] (f_X11_isIn a1 0 (M 155 16)) dX11_end_6 cl_X11_53 sm_X11_isIn rfl (Nat.le_of_ble_eq_true rfl) (by decide) (t_X11_isIn l E a1 0 (M 155 16) M rfl) ?_
  refine ex_if_ne 14 dX11_end_9 (by decide) (fun c1 => ?_) (fun c1 => ?_)
  · rw [if_neg c1] at h
    refine ex_aload_n dX11_end_14 rfl ?_
    refine ex_iload_n dX11_end_15 rfl ?_
    obtain ⟨M2, eM2, h⟩ := ltE h
    refine mx_puti 11 dX11_end_16 fl_X11_69 rfl ⟨rfl, rfl⟩ oc_at_155 (isi_11_16 oc_at_155) ?_
    rw [← eM2]
    refine ex_iconst 1 dX11_end_19 kI_1 ?_
    cases h
    exact mx_reti .boolean dX11_end_20 ⟨rfl, by decide⟩
  · rw [if_pos c1] at h
    refine ex_iconst 0 dX11_end_12 kI_0 ?_
    cases h
    exact mx_reti .boolean dX11_end_13 ⟨rfl, by decide⟩
def f_X11_see (a1 : Int32) (M : Mem) : Option (Int32) :=
  if (M 155 16) ≤ a1 then (some (-1)) else (b1 (rd M 163 a1) fun x2 => some x2)
set_option maxRecDepth 100000 in
set_option maxHeartbeats 4000000 in
theorem t_X11_see (l : Launch) (E : EV) (a1 : Int32) (M : Mem) {r : Int32} (h : f_X11_see a1 M = some r) : RunM l E yX11_see cX11_see 2 (some .int) 0 [.ref 155, .int a1] M M (some (.int r)) := by
  refine RunM.of (by decide) (Nat.le_of_ble_eq_true rfl) ?_
  show XM l E (RX11, "see", cX11_see, 2) (some .int) 0 0 [some (.ref 155), some (.int a1)] [] M M (some (.int r))
  unfold f_X11_see at h
  refine ex_iload_n dX11_see_0 rfl ?_
  refine ex_aload_n dX11_see_1 rfl ?_
  refine mx_geti 11 dX11_see_2 fl_X11_69 oc_at_155 (isi_11_16 oc_at_155) ?_
  refine ex_icmp_ge 17 dX11_see_5 (by decide) (fun c1 => ?_) (fun c1 => ?_)
  · rw [if_pos c1] at h
    refine ex_iconst (-1) dX11_see_17 kI_m1 ?_
    cases h
    exact mx_reti .int dX11_see_18 ⟨rfl, rfl⟩
  · rw [if_neg c1] at h
    refine ex_aload_n dX11_see_8 rfl ?_
    refine mx_getr 11 163 dX11_see_9 fl_X11_31 oc_at_155 (rf_11_9 oc_at_155) ?_
    refine ex_iload_n dX11_see_12 rfl ?_
    obtain ⟨x2, qx2, h⟩ := b1E h
    refine mx_iald x2 dX11_see_13 qx2 ?_
    refine ex_goto 18 dX11_see_14 (by decide) ?_
    cases h
    exact mx_reti .int dX11_see_18 ⟨rfl, rfl⟩
def f_X11_isLetter (a1 : Int32) : (Int32) :=
  if ((f_X11_isIn a1 97 122) = 0 ∧ (f_X11_isIn a1 65 90) = 0) then (0) else (1)
theorem z_X11_isLetter (a1 : Int32) : f_X11_isLetter a1 = 0 ∨ f_X11_isLetter a1 = 1 := by
  unfold f_X11_isLetter
  (repeat' split) <;> first | exact Or.inl rfl | exact Or.inr rfl | exact z_X11_isIn _ _ _
set_option maxRecDepth 100000 in
set_option maxHeartbeats 4000000 in
theorem t_X11_isLetter (l : Launch) (E : EV) (a1 : Int32) (M : Mem) {r : Int32} (h : f_X11_isLetter a1 = r) : RunM l E yX11_isLetter cX11_isLetter 1 (some .boolean) 1 [.int a1] M M (some (.int r)) := by
  refine RunM.of (by decide) (Nat.le_of_ble_eq_true rfl) ?_
  show XM l E (RX11, "isLetter", cX11_isLetter, 1) (some .boolean) 1 0 [some (.int a1)] [] M M (some (.int r))
  unfold f_X11_isLetter at h
  refine ex_iload_n dX11_isLetter_0 rfl ?_
  refine ex_bipush 97 dX11_isLetter_1 kB_97 ?_
  refine ex_bipush 122 dX11_isLetter_3 kB_122 ?_
  refine mx_cSi [.int a1, .int 97, .int 122] [] (f_X11_isIn a1 97 122) dX11_isLetter_5 cl_X11_53 sm_X11_isIn rfl (Nat.le_of_ble_eq_true rfl) (by decide) (t_X11_isIn l E a1 97 122 M rfl) ?_
  have JXC3 : ((f_X11_isIn a1 97 122) = 0 ∧ (f_X11_isIn a1 65 90) = 0) → XM l E (RX11, "isLetter", cX11_isLetter, 1) (some .boolean) 1 27 [some (.int a1)] [.int 0] M M (some (.int r)) := fun C3 => by
    rw [if_pos C3] at h
    subst h
    exact mx_reti .boolean dX11_isLetter_27 ⟨rfl, by decide⟩
  have JYC3 : ¬ (((f_X11_isIn a1 97 122) = 0 ∧ (f_X11_isIn a1 65 90) = 0)) → XM l E (RX11, "isLetter", cX11_isLetter, 1) (some .boolean) 1 22 [some (.int a1)] [] M M (some (.int r)) := fun C3 => by
    rw [if_neg C3] at h
    refine ex_iconst 1 dX11_isLetter_22 kI_1 ?_
    refine ex_goto 27 dX11_isLetter_23 (by decide) ?_
    subst h
    exact mx_reti .boolean dX11_isLetter_27 ⟨rfl, by decide⟩
  clear h
  refine ex_if_ne 22 dX11_isLetter_8 (by decide) (fun c1 => ?_) (fun c1 => ?_)
  · exact JYC3 (fun z => c1 z.1)
  · refine ex_iload_n dX11_isLetter_11 rfl ?_
    refine ex_bipush 65 dX11_isLetter_12 kB_65 ?_
    refine ex_bipush 90 dX11_isLetter_14 kB_90 ?_
    refine mx_cSi [.int a1, .int 65, .int 90] [] (f_X11_isIn a1 65 90) dX11_isLetter_16 cl_X11_53 sm_X11_isIn rfl (Nat.le_of_ble_eq_true rfl) (by decide) (t_X11_isIn l E a1 65 90 M rfl) ?_
    refine ex_if_eq 26 dX11_isLetter_19 (by decide) (fun c2 => ?_) (fun c2 => ?_)
    · refine ex_iconst 0 dX11_isLetter_26 kI_0 ?_
      exact JXC3 ⟨c1, c2⟩
    · exact JYC3 (fun z => c2 z.2)
def f_X11_isDigit (a1 : Int32) : (Int32) :=
  (f_X11_isIn a1 48 57)
theorem z_X11_isDigit (a1 : Int32) : f_X11_isDigit a1 = 0 ∨ f_X11_isDigit a1 = 1 := by
  unfold f_X11_isDigit
  (repeat' split) <;> first | exact Or.inl rfl | exact Or.inr rfl | exact z_X11_isIn _ _ _
set_option maxRecDepth 100000 in
set_option maxHeartbeats 4000000 in
theorem t_X11_isDigit (l : Launch) (E : EV) (a1 : Int32) (M : Mem) {r : Int32} (h : f_X11_isDigit a1 = r) : RunM l E yX11_isDigit cX11_isDigit 1 (some .boolean) 1 [.int a1] M M (some (.int r)) := by
  refine RunM.of (by decide) (Nat.le_of_ble_eq_true rfl) ?_
  show XM l E (RX11, "isDigit", cX11_isDigit, 1) (some .boolean) 1 0 [some (.int a1)] [] M M (some (.int r))
  unfold f_X11_isDigit at h
  refine ex_iload_n dX11_isDigit_0 rfl ?_
  refine ex_bipush 48 dX11_isDigit_1 kB_48 ?_
  refine ex_bipush 57 dX11_isDigit_3 kB_57 ?_
  refine mx_cSi [.int a1, .int 48, .int 57] [] (f_X11_isIn a1 48 57) dX11_isDigit_5 cl_X11_53 sm_X11_isIn rfl (Nat.le_of_ble_eq_true rfl) (by decide) (t_X11_isIn l E a1 48 57 M rfl) ?_
  subst h
  exact mx_reti .boolean dX11_isDigit_8 ⟨rfl, nzB (z_X11_isIn _ _ _)⟩
def w_X11_is_24 (a1 : Nat) (M : Mem) (i4 : Int32) (i5 : Int32) : Option ((Int32 × Int32) ⊕ (Int32)) :=
  b1 (strLn a1) fun x6 => if (x6 ≤ i5 ∨ i4 = 0) then (some (.inr i4)) else (b1 (rd M 163 ((M 155 19) + i5)) fun x10 => b1 (strAt a1 i5) fun x11 => lt ((if x10 = x11 then 1 else 0) : Int32) fun x13 => some (.inl (x13, (i5 + 1))))
def f_X11_is (a1 : Nat) (M : Mem) : Option (Int32) :=
  b1 (strLn a1) fun x1 => lt ((if ((M 155 17) - (M 155 19)) = x1 then 1 else 0) : Int32) fun x3 => b1 (lp (fun s => w_X11_is_24 a1 M s.1 s.2) FU (x3, 0)) fun q14 => b1 (gz q14) fun x15 => some x15
set_option maxRecDepth 100000 in
set_option maxHeartbeats 4000000 in
theorem t_X11_is (l : Launch) (E : EV) (a1 : Nat) (M : Mem) {r : Int32} (h : f_X11_is a1 M = some r) : RunM l E yX11_is cX11_is 4 (some .boolean) 6 [.ref 155, .ref a1] M M (some (.int r)) := by
  refine RunM.of (by decide) (Nat.le_of_ble_eq_true rfl) ?_
  show XM l E (RX11, "is", cX11_is, 4) (some .boolean) 6 0 [some (.ref 155), some (.ref a1), none, none] [] M M (some (.int r))
  unfold f_X11_is at h
  refine ex_aload_n dX11_is_0 rfl ?_
  refine mx_geti 11 dX11_is_1 fl_X11_72 oc_at_155 (isi_11_17 oc_at_155) ?_
  refine ex_aload_n dX11_is_4 rfl ?_
  refine mx_geti 11 dX11_is_5 fl_X11_75 oc_at_155 (isi_11_19 oc_at_155) ?_
  refine ex_isub dX11_is_8 ?_
  refine ex_aload_n dX11_is_9 rfl ?_
  obtain ⟨x1, qx1, h⟩ := b1E h
  refine mx_cJi [] [.int ((M 155 17) - (M 155 19))] a1 x1 dX11_is_10 cl_X11_78 im_J0_length_8abf5 rfl (Nat.le_of_ble_eq_true rfl) (by decide) (sLnOK qx1) (t_J0_length_8abf5 l E M a1 qx1) ?_
  obtain ⟨x3, ex3, h⟩ := ltE h
  have Jx3 : XM l E (RX11, "is", cX11_is, 4) (some .boolean) 6 21 [some (.ref 155), some (.ref a1), none, none] [.int x3] M M (some (.int r)) := by
    refine ex_istore_n (L2 := [some (.ref 155), some (.ref a1), some (.int x3), none]) dX11_is_21 (by decide) rfl ?_
    refine ex_iconst 0 dX11_is_22 kI_0 ?_
    refine ex_istore_n (L2 := [some (.ref 155), some (.ref a1), some (.int x3), some (.int 0)]) dX11_is_23 (by decide) rfl ?_
    refine ex_mskL [true, true, true, true] (L2 := [some (.ref 155), some (.ref a1), some (.int x3), some (.int 0)]) rfl ?_
    obtain ⟨q14, hlq14, h⟩ := b1E h
    have hx : XM l E (RX11, "is", cX11_is, 4) (some .boolean) 6 67 [none, none, some (.int q14), none] [] M M (some (.int r)) := by
      refine ex_iload_n dX11_is_67 rfl ?_
      obtain ⟨x15, qx15, h⟩ := b1E h
      obtain ⟨ex15, nx15⟩ := gzE qx15
      rw [← ex15] at h
      cases h
      exact mx_reti .boolean dX11_is_68 ⟨rfl, nx15⟩
    clear h
    have key : ∀ (k : Nat) (s : Int32 × Int32), lp (fun s => w_X11_is_24 a1 M s.1 s.2) k s = some q14 → XM l E (RX11, "is", cX11_is, 4) (some .boolean) 6 24 [some (.ref 155), some (.ref a1), some (.int s.1), some (.int s.2)] [] M M (some (.int r)) := lp_ind (P := fun (s : Int32 × Int32) => XM l E (RX11, "is", cX11_is, 4) (some .boolean) 6 24 [some (.ref 155), some (.ref a1), some (.int s.1), some (.int s.2)] [] M M (some (.int r))) (fun s t hb hk he => by
      obtain ⟨i4, i5⟩ := s
      show XM l E (RX11, "is", cX11_is, 4) (some .boolean) 6 24 [some (.ref 155), some (.ref a1), some (.int i4), some (.int i5)] [] M M (some (.int r))
      change w_X11_is_24 a1 M i4 i5 = some t at hb
      unfold w_X11_is_24 at hb
      refine ex_iload_n dX11_is_24 rfl ?_
      refine ex_aload_n dX11_is_25 rfl ?_
      obtain ⟨x6, qx6, hb⟩ := b1E hb
      refine mx_cJi [] [.int i5] a1 x6 dX11_is_26 cl_X11_78 im_J0_length_8abf5 rfl (Nat.le_of_ble_eq_true rfl) (by decide) (sLnOK qx6) (t_J0_length_8abf5 l E M a1 qx6) ?_
      have JXC9 : (x6 ≤ i5 ∨ i4 = 0) → XM l E (RX11, "is", cX11_is, 4) (some .boolean) 6 67 [some (.ref 155), some (.ref a1), some (.int i4), some (.int i5)] [] M M (some (.int r)) := fun C9 => by
        rw [if_pos C9] at hb
        refine ex_mskL [false, false, true, false] (L2 := [none, none, some (.int i4), none]) rfl ?_
        cases hb
        cases (he _ rfl) <;> exact hx
      have JYC9 : ¬ ((x6 ≤ i5 ∨ i4 = 0)) → XM l E (RX11, "is", cX11_is, 4) (some .boolean) 6 46 [some (.ref 155), some (.ref a1), some (.int i4), some (.int i5)] [.int ((M 155 19) + i5), .ref 163] M M (some (.int r)) := fun C9 => by
        rw [if_neg C9] at hb
        obtain ⟨x10, qx10, hb⟩ := b1E hb
        refine mx_iald x10 dX11_is_46 qx10 ?_
        refine ex_aload_n dX11_is_47 rfl ?_
        refine ex_iload_n dX11_is_48 rfl ?_
        obtain ⟨x11, qx11, hb⟩ := b1E hb
        refine mx_cJi [.int i5] [.int x10] a1 x11 dX11_is_49 cl_X11_84 im_J0_charAt_5068e rfl (Nat.le_of_ble_eq_true rfl) (by decide) (sAtOK qx11) (t_J0_charAt_5068e l E M a1 i5 qx11) ?_
        obtain ⟨x13, ex13, hb⟩ := ltE hb
        have Jx13 : XM l E (RX11, "is", cX11_is, 4) (some .boolean) 6 60 [some (.ref 155), some (.ref a1), some (.int i4), some (.int i5)] [.int x13] M M (some (.int r)) := by
          refine ex_istore_n (L2 := [some (.ref 155), some (.ref a1), some (.int x13), some (.int i5)]) dX11_is_60 (by decide) rfl ?_
          refine ex_iinc 1 (L2 := [some (.ref 155), some (.ref a1), some (.int x13), some (.int (i5 + 1))]) dX11_is_61 rfl kI_1 (by decide) rfl ?_
          refine ex_goto 24 dX11_is_64 (by decide) ?_
          refine ex_mskL [true, true, true, true] (L2 := [some (.ref 155), some (.ref a1), some (.int x13), some (.int (i5 + 1))]) rfl ?_
          cases hb
          exact hk (x13, (i5 + 1)) rfl
        clear hb
        refine ex_icmp_ne 59 dX11_is_52 (by decide) (fun c12 => ?_) (fun c12 => ?_)
        · rw [if_neg c12] at ex13
          refine ex_iconst 0 dX11_is_59 kI_0 ?_
          subst ex13
          exact Jx13
        · rw [if_pos c12] at ex13
          refine ex_iconst 1 dX11_is_55 kI_1 ?_
          refine ex_goto 60 dX11_is_56 (by decide) ?_
          subst ex13
          exact Jx13
      clear hb
      refine ex_icmp_ge 67 dX11_is_29 (by decide) (fun c7 => ?_) (fun c7 => ?_)
      · exact JXC9 (Or.inl c7)
      · refine ex_iload_n dX11_is_32 rfl ?_
        refine ex_if_eq 67 dX11_is_33 (by decide) (fun c8 => ?_) (fun c8 => ?_)
        · exact JXC9 (Or.inr c8)
        · refine ex_aload_n dX11_is_36 rfl ?_
          refine mx_getr 11 163 dX11_is_37 fl_X11_31 oc_at_155 (rf_11_9 oc_at_155) ?_
          refine ex_aload_n dX11_is_40 rfl ?_
          refine mx_geti 11 dX11_is_41 fl_X11_75 oc_at_155 (isi_11_19 oc_at_155) ?_
          refine ex_iload_n dX11_is_44 rfl ?_
          refine ex_iadd dX11_is_45 ?_
          exact JYC9 (fun z => z.elim c7 c8))
    exact key FU (x3, 0) hlq14
  clear h
  refine ex_icmp_ne 20 dX11_is_13 (by decide) (fun c2 => ?_) (fun c2 => ?_)
  · rw [if_neg c2] at ex3
    refine ex_iconst 0 dX11_is_20 kI_0 ?_
    subst ex3
    exact Jx3
  · rw [if_pos c2] at ex3
    refine ex_iconst 1 dX11_is_16 kI_1 ?_
    refine ex_goto 21 dX11_is_17 (by decide) ?_
    subst ex3
    exact Jx3
def f_X11_asked (M : Mem) : Option (Int32) :=
  b1 (f_X11_is 1000002 M) fun x1 => if x1 = 0 then (b1 (f_X11_is 1000012 M) fun x3 => if x3 = 0 then (b1 (f_X11_is 1000013 M) fun x5 => if x5 = 0 then (b1 (f_X11_is 1000014 M) fun x7 => if x7 = 0 then (b1 (f_X11_is 1000015 M) fun x9 => if x9 = 0 then (b1 (f_X11_is 1000016 M) fun x11 => if x11 = 0 then (b1 (f_X11_is 1000017 M) fun x13 => lt ((if x13 = 0 then 1 else 47) : Int32) fun x15 => some x15) else (some 46)) else (some 45)) else (some 44)) else (some 43)) else (some 42)) else (some 41)
set_option maxRecDepth 100000 in
set_option maxHeartbeats 4000000 in
theorem t_X11_asked (l : Launch) (E : EV) (M : Mem) {r : Int32} (h : f_X11_asked M = some r) : RunM l E yX11_asked cX11_asked 1 (some .int) 7 [.ref 155] M M (some (.int r)) := by
  refine RunM.of (by decide) (Nat.le_of_ble_eq_true rfl) ?_
  show XM l E (RX11, "asked", cX11_asked, 1) (some .int) 7 0 [some (.ref 155)] [] M M (some (.int r))
  unfold f_X11_asked at h
  refine ex_aload_n dX11_asked_0 rfl ?_
  refine ex_ldcS 1 dX11_asked_1 rfl ?_
  obtain ⟨x1, qx1, h⟩ := b1E h
  refine mx_cVi [.ref 1000002] [] 155 11 x1 dX11_asked_3 cl_X11_90 im_X11_is cy_X11_is oc_at_155 rfl (Nat.le_of_ble_eq_true rfl) (by decide) (t_X11_is l E 1000002 M qx1) ?_
  refine ex_if_eq 12 dX11_asked_6 (by decide) (fun c2 => ?_) (fun c2 => ?_)
  · rw [if_pos c2] at h
    refine ex_aload_n dX11_asked_12 rfl ?_
    refine ex_ldcS 11 dX11_asked_13 rfl ?_
    obtain ⟨x3, qx3, h⟩ := b1E h
    refine mx_cVi [.ref 1000012] [] 155 11 x3 dX11_asked_15 cl_X11_90 im_X11_is cy_X11_is oc_at_155 rfl (Nat.le_of_ble_eq_true rfl) (by decide) (t_X11_is l E 1000012 M qx3) ?_
    refine ex_if_eq 24 dX11_asked_18 (by decide) (fun c4 => ?_) (fun c4 => ?_)
    · rw [if_pos c4] at h
      refine ex_aload_n dX11_asked_24 rfl ?_
      refine ex_ldcS 12 dX11_asked_25 rfl ?_
      obtain ⟨x5, qx5, h⟩ := b1E h
      refine mx_cVi [.ref 1000013] [] 155 11 x5 dX11_asked_27 cl_X11_90 im_X11_is cy_X11_is oc_at_155 rfl (Nat.le_of_ble_eq_true rfl) (by decide) (t_X11_is l E 1000013 M qx5) ?_
      refine ex_if_eq 36 dX11_asked_30 (by decide) (fun c6 => ?_) (fun c6 => ?_)
      · rw [if_pos c6] at h
        refine ex_aload_n dX11_asked_36 rfl ?_
        refine ex_ldcS 13 dX11_asked_37 rfl ?_
        obtain ⟨x7, qx7, h⟩ := b1E h
        refine mx_cVi [.ref 1000014] [] 155 11 x7 dX11_asked_39 cl_X11_90 im_X11_is cy_X11_is oc_at_155 rfl (Nat.le_of_ble_eq_true rfl) (by decide) (t_X11_is l E 1000014 M qx7) ?_
        refine ex_if_eq 48 dX11_asked_42 (by decide) (fun c8 => ?_) (fun c8 => ?_)
        · rw [if_pos c8] at h
          refine ex_aload_n dX11_asked_48 rfl ?_
          refine ex_ldcS 14 dX11_asked_49 rfl ?_
          obtain ⟨x9, qx9, h⟩ := b1E h
          refine mx_cVi [.ref 1000015] [] 155 11 x9 dX11_asked_51 cl_X11_90 im_X11_is cy_X11_is oc_at_155 rfl (Nat.le_of_ble_eq_true rfl) (by decide) (t_X11_is l E 1000015 M qx9) ?_
          refine ex_if_eq 60 dX11_asked_54 (by decide) (fun c10 => ?_) (fun c10 => ?_)
          · rw [if_pos c10] at h
            refine ex_aload_n dX11_asked_60 rfl ?_
            refine ex_ldcS 15 dX11_asked_61 rfl ?_
            obtain ⟨x11, qx11, h⟩ := b1E h
            refine mx_cVi [.ref 1000016] [] 155 11 x11 dX11_asked_63 cl_X11_90 im_X11_is cy_X11_is oc_at_155 rfl (Nat.le_of_ble_eq_true rfl) (by decide) (t_X11_is l E 1000016 M qx11) ?_
            refine ex_if_eq 72 dX11_asked_66 (by decide) (fun c12 => ?_) (fun c12 => ?_)
            · rw [if_pos c12] at h
              refine ex_aload_n dX11_asked_72 rfl ?_
              refine ex_ldcS 16 dX11_asked_73 rfl ?_
              obtain ⟨x13, qx13, h⟩ := b1E h
              refine mx_cVi [.ref 1000017] [] 155 11 x13 dX11_asked_75 cl_X11_90 im_X11_is cy_X11_is oc_at_155 rfl (Nat.le_of_ble_eq_true rfl) (by decide) (t_X11_is l E 1000017 M qx13) ?_
              obtain ⟨x15, ex15, h⟩ := ltE h
              have Jx15 : XM l E (RX11, "asked", cX11_asked, 1) (some .int) 7 87 [some (.ref 155)] [.int x15] M M (some (.int r)) := by
                cases h
                exact mx_reti .int dX11_asked_87 ⟨rfl, rfl⟩
              clear h
              refine ex_if_eq 86 dX11_asked_78 (by decide) (fun c14 => ?_) (fun c14 => ?_)
              · rw [if_pos c14] at ex15
                refine ex_iconst 1 dX11_asked_86 kI_1 ?_
                subst ex15
                exact Jx15
              · rw [if_neg c14] at ex15
                refine ex_bipush 47 dX11_asked_81 kB_47 ?_
                refine ex_goto 87 dX11_asked_83 (by decide) ?_
                subst ex15
                exact Jx15
            · rw [if_neg c12] at h
              refine ex_bipush 46 dX11_asked_69 kB_46 ?_
              cases h
              exact mx_reti .int dX11_asked_71 ⟨rfl, rfl⟩
          · rw [if_neg c10] at h
            refine ex_bipush 45 dX11_asked_57 kB_45 ?_
            cases h
            exact mx_reti .int dX11_asked_59 ⟨rfl, rfl⟩
        · rw [if_neg c8] at h
          refine ex_bipush 44 dX11_asked_45 kB_44 ?_
          cases h
          exact mx_reti .int dX11_asked_47 ⟨rfl, rfl⟩
      · rw [if_neg c6] at h
        refine ex_bipush 43 dX11_asked_33 kB_43 ?_
        cases h
        exact mx_reti .int dX11_asked_35 ⟨rfl, rfl⟩
    · rw [if_neg c4] at h
      refine ex_bipush 42 dX11_asked_21 kB_42 ?_
      cases h
      exact mx_reti .int dX11_asked_23 ⟨rfl, rfl⟩
  · rw [if_neg c2] at h
    refine ex_bipush 41 dX11_asked_9 kB_41 ?_
    cases h
    exact mx_reti .int dX11_asked_11 ⟨rfl, rfl⟩
def f_X11_lawWord (M : Mem) : Option (Int32) :=
  b1 (f_X11_is 1000004 M) fun x1 => if x1 = 0 then (b1 (f_X11_is 1000005 M) fun x3 => if x3 = 0 then (b1 (f_X11_is 1000006 M) fun x5 => if x5 = 0 then (b1 (f_X11_is 1000007 M) fun x7 => if x7 = 0 then (b1 (f_X11_is 1000008 M) fun x9 => if x9 = 0 then (b1 (f_X11_is 1000009 M) fun x11 => if x11 = 0 then (b1 (f_X11_is 1000010 M) fun x13 => if x13 = 0 then (b1 (f_X11_is 1000011 M) fun x15 => if x15 = 0 then (b1 (f_X11_asked M) fun x17 => some x17) else (some 23)) else (some 22)) else (some 21)) else (some 20)) else (some 6)) else (some 5)) else (some 4)) else (some 3)
set_option maxRecDepth 100000 in
set_option maxHeartbeats 4000000 in
theorem t_X11_lawWord (l : Launch) (E : EV) (M : Mem) {r : Int32} (h : f_X11_lawWord M = some r) : RunM l E yX11_lawWord cX11_lawWord 1 (some .int) 8 [.ref 155] M M (some (.int r)) := by
  refine RunM.of (by decide) (Nat.le_of_ble_eq_true rfl) ?_
  show XM l E (RX11, "lawWord", cX11_lawWord, 1) (some .int) 8 0 [some (.ref 155)] [] M M (some (.int r))
  unfold f_X11_lawWord at h
  refine ex_aload_n dX11_lawWord_0 rfl ?_
  refine ex_ldcS 3 dX11_lawWord_1 rfl ?_
  obtain ⟨x1, qx1, h⟩ := b1E h
  refine mx_cVi [.ref 1000004] [] 155 11 x1 dX11_lawWord_3 cl_X11_90 im_X11_is cy_X11_is oc_at_155 rfl (Nat.le_of_ble_eq_true rfl) (by decide) (t_X11_is l E 1000004 M qx1) ?_
  refine ex_if_eq 11 dX11_lawWord_6 (by decide) (fun c2 => ?_) (fun c2 => ?_)
  · rw [if_pos c2] at h
    refine ex_aload_n dX11_lawWord_11 rfl ?_
    refine ex_ldcS 4 dX11_lawWord_12 rfl ?_
    obtain ⟨x3, qx3, h⟩ := b1E h
    refine mx_cVi [.ref 1000005] [] 155 11 x3 dX11_lawWord_14 cl_X11_90 im_X11_is cy_X11_is oc_at_155 rfl (Nat.le_of_ble_eq_true rfl) (by decide) (t_X11_is l E 1000005 M qx3) ?_
    refine ex_if_eq 22 dX11_lawWord_17 (by decide) (fun c4 => ?_) (fun c4 => ?_)
    · rw [if_pos c4] at h
      refine ex_aload_n dX11_lawWord_22 rfl ?_
      refine ex_ldcS 5 dX11_lawWord_23 rfl ?_
      obtain ⟨x5, qx5, h⟩ := b1E h
      refine mx_cVi [.ref 1000006] [] 155 11 x5 dX11_lawWord_25 cl_X11_90 im_X11_is cy_X11_is oc_at_155 rfl (Nat.le_of_ble_eq_true rfl) (by decide) (t_X11_is l E 1000006 M qx5) ?_
      refine ex_if_eq 33 dX11_lawWord_28 (by decide) (fun c6 => ?_) (fun c6 => ?_)
      · rw [if_pos c6] at h
        refine ex_aload_n dX11_lawWord_33 rfl ?_
        refine ex_ldcS 6 dX11_lawWord_34 rfl ?_
        obtain ⟨x7, qx7, h⟩ := b1E h
        refine mx_cVi [.ref 1000007] [] 155 11 x7 dX11_lawWord_36 cl_X11_90 im_X11_is cy_X11_is oc_at_155 rfl (Nat.le_of_ble_eq_true rfl) (by decide) (t_X11_is l E 1000007 M qx7) ?_
        refine ex_if_eq 45 dX11_lawWord_39 (by decide) (fun c8 => ?_) (fun c8 => ?_)
        · rw [if_pos c8] at h
          refine ex_aload_n dX11_lawWord_45 rfl ?_
          refine ex_ldcS 7 dX11_lawWord_46 rfl ?_
          obtain ⟨x9, qx9, h⟩ := b1E h
          refine mx_cVi [.ref 1000008] [] 155 11 x9 dX11_lawWord_48 cl_X11_90 im_X11_is cy_X11_is oc_at_155 rfl (Nat.le_of_ble_eq_true rfl) (by decide) (t_X11_is l E 1000008 M qx9) ?_
          refine ex_if_eq 57 dX11_lawWord_51 (by decide) (fun c10 => ?_) (fun c10 => ?_)
          · rw [if_pos c10] at h
            refine ex_aload_n dX11_lawWord_57 rfl ?_
            refine ex_ldcS 8 dX11_lawWord_58 rfl ?_
            obtain ⟨x11, qx11, h⟩ := b1E h
            refine mx_cVi [.ref 1000009] [] 155 11 x11 dX11_lawWord_60 cl_X11_90 im_X11_is cy_X11_is oc_at_155 rfl (Nat.le_of_ble_eq_true rfl) (by decide) (t_X11_is l E 1000009 M qx11) ?_
            refine ex_if_eq 69 dX11_lawWord_63 (by decide) (fun c12 => ?_) (fun c12 => ?_)
            · rw [if_pos c12] at h
              refine ex_aload_n dX11_lawWord_69 rfl ?_
              refine ex_ldcS 9 dX11_lawWord_70 rfl ?_
              obtain ⟨x13, qx13, h⟩ := b1E h
              refine mx_cVi [.ref 1000010] [] 155 11 x13 dX11_lawWord_72 cl_X11_90 im_X11_is cy_X11_is oc_at_155 rfl (Nat.le_of_ble_eq_true rfl) (by decide) (t_X11_is l E 1000010 M qx13) ?_
              refine ex_if_eq 81 dX11_lawWord_75 (by decide) (fun c14 => ?_) (fun c14 => ?_)
              · rw [if_pos c14] at h
                refine ex_aload_n dX11_lawWord_81 rfl ?_
                refine ex_ldcS 10 dX11_lawWord_82 rfl ?_
                obtain ⟨x15, qx15, h⟩ := b1E h
                refine mx_cVi [.ref 1000011] [] 155 11 x15 dX11_lawWord_84 cl_X11_90 im_X11_is cy_X11_is oc_at_155 rfl (Nat.le_of_ble_eq_true rfl) (by decide) (t_X11_is l E 1000011 M qx15) ?_
                refine ex_if_eq 95 dX11_lawWord_87 (by decide) (fun c16 => ?_) (fun c16 => ?_)
                · rw [if_pos c16] at h
                  refine ex_aload_n dX11_lawWord_95 rfl ?_
                  obtain ⟨x17, qx17, h⟩ := b1E h
                  refine mx_cVi [] [] 155 11 x17 dX11_lawWord_96 cl_X11_122 im_X11_asked cy_X11_asked oc_at_155 rfl (Nat.le_of_ble_eq_true rfl) (by decide) (t_X11_asked l E M qx17) ?_
                  cases h
                  exact mx_reti .int dX11_lawWord_99 ⟨rfl, rfl⟩
                · rw [if_neg c16] at h
                  refine ex_bipush 23 dX11_lawWord_90 kB_23 ?_
                  refine ex_goto 99 dX11_lawWord_92 (by decide) ?_
                  cases h
                  exact mx_reti .int dX11_lawWord_99 ⟨rfl, rfl⟩
              · rw [if_neg c14] at h
                refine ex_bipush 22 dX11_lawWord_78 kB_22 ?_
                cases h
                exact mx_reti .int dX11_lawWord_80 ⟨rfl, rfl⟩
            · rw [if_neg c12] at h
              refine ex_bipush 21 dX11_lawWord_66 kB_21 ?_
              cases h
              exact mx_reti .int dX11_lawWord_68 ⟨rfl, rfl⟩
          · rw [if_neg c10] at h
            refine ex_bipush 20 dX11_lawWord_54 kB_20 ?_
            cases h
            exact mx_reti .int dX11_lawWord_56 ⟨rfl, rfl⟩
        · rw [if_neg c8] at h
          refine ex_bipush 6 dX11_lawWord_42 kB_6 ?_
          cases h
          exact mx_reti .int dX11_lawWord_44 ⟨rfl, rfl⟩
      · rw [if_neg c6] at h
        refine ex_iconst 5 dX11_lawWord_31 kI_5 ?_
        cases h
        exact mx_reti .int dX11_lawWord_32 ⟨rfl, rfl⟩
    · rw [if_neg c4] at h
      refine ex_iconst 4 dX11_lawWord_20 kI_4 ?_
      cases h
      exact mx_reti .int dX11_lawWord_21 ⟨rfl, rfl⟩
  · rw [if_neg c2] at h
    refine ex_iconst 3 dX11_lawWord_9 kI_3 ?_
    cases h
    exact mx_reti .int dX11_lawWord_10 ⟨rfl, rfl⟩
def f_X11_kindWord (M : Mem) : Option (Int32) :=
  b1 (f_X11_is 1000002 M) fun x1 => if x1 = 0 then (b1 (f_X11_is 1000003 M) fun x3 => lt ((if x3 = 0 then 1 else 8) : Int32) fun x5 => some x5) else (some 7)
set_option maxRecDepth 100000 in
set_option maxHeartbeats 4000000 in
theorem t_X11_kindWord (l : Launch) (E : EV) (M : Mem) {r : Int32} (h : f_X11_kindWord M = some r) : RunM l E yX11_kindWord cX11_kindWord 1 (some .int) 7 [.ref 155] M M (some (.int r)) := by
  refine RunM.of (by decide) (Nat.le_of_ble_eq_true rfl) ?_
  show XM l E (RX11, "kindWord", cX11_kindWord, 1) (some .int) 7 0 [some (.ref 155)] [] M M (some (.int r))
  unfold f_X11_kindWord at h
  refine ex_aload_n dX11_kindWord_0 rfl ?_
  refine ex_ldcS 1 dX11_kindWord_1 rfl ?_
  obtain ⟨x1, qx1, h⟩ := b1E h
  refine mx_cVi [.ref 1000002] [] 155 11 x1 dX11_kindWord_3 cl_X11_90 im_X11_is cy_X11_is oc_at_155 rfl (Nat.le_of_ble_eq_true rfl) (by decide) (t_X11_is l E 1000002 M qx1) ?_
  refine ex_if_eq 12 dX11_kindWord_6 (by decide) (fun c2 => ?_) (fun c2 => ?_)
  · rw [if_pos c2] at h
    refine ex_aload_n dX11_kindWord_12 rfl ?_
    refine ex_ldcS 2 dX11_kindWord_13 rfl ?_
    obtain ⟨x3, qx3, h⟩ := b1E h
    refine mx_cVi [.ref 1000003] [] 155 11 x3 dX11_kindWord_15 cl_X11_90 im_X11_is cy_X11_is oc_at_155 rfl (Nat.le_of_ble_eq_true rfl) (by decide) (t_X11_is l E 1000003 M qx3) ?_
    obtain ⟨x5, ex5, h⟩ := ltE h
    have Jx5 : XM l E (RX11, "kindWord", cX11_kindWord, 1) (some .int) 7 27 [some (.ref 155)] [.int x5] M M (some (.int r)) := by
      cases h
      exact mx_reti .int dX11_kindWord_27 ⟨rfl, rfl⟩
    clear h
    refine ex_if_eq 26 dX11_kindWord_18 (by decide) (fun c4 => ?_) (fun c4 => ?_)
    · rw [if_pos c4] at ex5
      refine ex_iconst 1 dX11_kindWord_26 kI_1 ?_
      subst ex5
      exact Jx5
    · rw [if_neg c4] at ex5
      refine ex_bipush 8 dX11_kindWord_21 kB_8 ?_
      refine ex_goto 27 dX11_kindWord_23 (by decide) ?_
      subst ex5
      exact Jx5
  · rw [if_neg c2] at h
    refine ex_bipush 7 dX11_kindWord_9 kB_7 ?_
    cases h
    exact mx_reti .int dX11_kindWord_11 ⟨rfl, rfl⟩
def f_X11_feastWord (M : Mem) : Option (Int32) :=
  b1 (f_X11_is 1000018 M) fun x1 => if x1 = 0 then (b1 (f_X11_is 1000019 M) fun x3 => if x3 = 0 then (b1 (f_X11_is 1000020 M) fun x5 => lt ((if x5 = 0 then 1 else 11) : Int32) fun x7 => some x7) else (some 10)) else (some 9)
set_option maxRecDepth 100000 in
set_option maxHeartbeats 4000000 in
theorem t_X11_feastWord (l : Launch) (E : EV) (M : Mem) {r : Int32} (h : f_X11_feastWord M = some r) : RunM l E yX11_feastWord cX11_feastWord 1 (some .int) 7 [.ref 155] M M (some (.int r)) := by
  refine RunM.of (by decide) (Nat.le_of_ble_eq_true rfl) ?_
  show XM l E (RX11, "feastWord", cX11_feastWord, 1) (some .int) 7 0 [some (.ref 155)] [] M M (some (.int r))
  unfold f_X11_feastWord at h
  refine ex_aload_n dX11_feastWord_0 rfl ?_
  refine ex_ldcS 17 dX11_feastWord_1 rfl ?_
  obtain ⟨x1, qx1, h⟩ := b1E h
  refine mx_cVi [.ref 1000018] [] 155 11 x1 dX11_feastWord_3 cl_X11_90 im_X11_is cy_X11_is oc_at_155 rfl (Nat.le_of_ble_eq_true rfl) (by decide) (t_X11_is l E 1000018 M qx1) ?_
  refine ex_if_eq 12 dX11_feastWord_6 (by decide) (fun c2 => ?_) (fun c2 => ?_)
  · rw [if_pos c2] at h
    refine ex_aload_n dX11_feastWord_12 rfl ?_
    refine ex_ldcS 18 dX11_feastWord_13 rfl ?_
    obtain ⟨x3, qx3, h⟩ := b1E h
    refine mx_cVi [.ref 1000019] [] 155 11 x3 dX11_feastWord_15 cl_X11_90 im_X11_is cy_X11_is oc_at_155 rfl (Nat.le_of_ble_eq_true rfl) (by decide) (t_X11_is l E 1000019 M qx3) ?_
    refine ex_if_eq 24 dX11_feastWord_18 (by decide) (fun c4 => ?_) (fun c4 => ?_)
    · rw [if_pos c4] at h
      refine ex_aload_n dX11_feastWord_24 rfl ?_
      refine ex_ldcS 19 dX11_feastWord_25 rfl ?_
      obtain ⟨x5, qx5, h⟩ := b1E h
      refine mx_cVi [.ref 1000020] [] 155 11 x5 dX11_feastWord_27 cl_X11_90 im_X11_is cy_X11_is oc_at_155 rfl (Nat.le_of_ble_eq_true rfl) (by decide) (t_X11_is l E 1000020 M qx5) ?_
      obtain ⟨x7, ex7, h⟩ := ltE h
      have Jx7 : XM l E (RX11, "feastWord", cX11_feastWord, 1) (some .int) 7 39 [some (.ref 155)] [.int x7] M M (some (.int r)) := by
        cases h
        exact mx_reti .int dX11_feastWord_39 ⟨rfl, rfl⟩
      clear h
      refine ex_if_eq 38 dX11_feastWord_30 (by decide) (fun c6 => ?_) (fun c6 => ?_)
      · rw [if_pos c6] at ex7
        refine ex_iconst 1 dX11_feastWord_38 kI_1 ?_
        subst ex7
        exact Jx7
      · rw [if_neg c6] at ex7
        refine ex_bipush 11 dX11_feastWord_33 kB_11 ?_
        refine ex_goto 39 dX11_feastWord_35 (by decide) ?_
        subst ex7
        exact Jx7
    · rw [if_neg c4] at h
      refine ex_bipush 10 dX11_feastWord_21 kB_10 ?_
      cases h
      exact mx_reti .int dX11_feastWord_23 ⟨rfl, rfl⟩
  · rw [if_neg c2] at h
    refine ex_bipush 9 dX11_feastWord_9 kB_9 ?_
    cases h
    exact mx_reti .int dX11_feastWord_11 ⟨rfl, rfl⟩
def f_X11_wantWord (M : Mem) : Option (Int32) :=
  b1 (f_X11_is 1000021 M) fun x1 => if x1 = 0 then (b1 (f_X11_is 1000022 M) fun x3 => if x3 = 0 then (b1 (f_X11_is 1000023 M) fun x5 => lt ((if x5 = 0 then 1 else 14) : Int32) fun x7 => some x7) else (some 13)) else (some 12)
set_option maxRecDepth 100000 in
set_option maxHeartbeats 4000000 in
theorem t_X11_wantWord (l : Launch) (E : EV) (M : Mem) {r : Int32} (h : f_X11_wantWord M = some r) : RunM l E yX11_wantWord cX11_wantWord 1 (some .int) 7 [.ref 155] M M (some (.int r)) := by
  refine RunM.of (by decide) (Nat.le_of_ble_eq_true rfl) ?_
  show XM l E (RX11, "wantWord", cX11_wantWord, 1) (some .int) 7 0 [some (.ref 155)] [] M M (some (.int r))
  unfold f_X11_wantWord at h
  refine ex_aload_n dX11_wantWord_0 rfl ?_
  refine ex_ldcS 20 dX11_wantWord_1 rfl ?_
  obtain ⟨x1, qx1, h⟩ := b1E h
  refine mx_cVi [.ref 1000021] [] 155 11 x1 dX11_wantWord_3 cl_X11_90 im_X11_is cy_X11_is oc_at_155 rfl (Nat.le_of_ble_eq_true rfl) (by decide) (t_X11_is l E 1000021 M qx1) ?_
  refine ex_if_eq 12 dX11_wantWord_6 (by decide) (fun c2 => ?_) (fun c2 => ?_)
  · rw [if_pos c2] at h
    refine ex_aload_n dX11_wantWord_12 rfl ?_
    refine ex_ldcS 21 dX11_wantWord_13 rfl ?_
    obtain ⟨x3, qx3, h⟩ := b1E h
    refine mx_cVi [.ref 1000022] [] 155 11 x3 dX11_wantWord_15 cl_X11_90 im_X11_is cy_X11_is oc_at_155 rfl (Nat.le_of_ble_eq_true rfl) (by decide) (t_X11_is l E 1000022 M qx3) ?_
    refine ex_if_eq 24 dX11_wantWord_18 (by decide) (fun c4 => ?_) (fun c4 => ?_)
    · rw [if_pos c4] at h
      refine ex_aload_n dX11_wantWord_24 rfl ?_
      refine ex_ldcS 22 dX11_wantWord_25 rfl ?_
      obtain ⟨x5, qx5, h⟩ := b1E h
      refine mx_cVi [.ref 1000023] [] 155 11 x5 dX11_wantWord_27 cl_X11_90 im_X11_is cy_X11_is oc_at_155 rfl (Nat.le_of_ble_eq_true rfl) (by decide) (t_X11_is l E 1000023 M qx5) ?_
      obtain ⟨x7, ex7, h⟩ := ltE h
      have Jx7 : XM l E (RX11, "wantWord", cX11_wantWord, 1) (some .int) 7 39 [some (.ref 155)] [.int x7] M M (some (.int r)) := by
        cases h
        exact mx_reti .int dX11_wantWord_39 ⟨rfl, rfl⟩
      clear h
      refine ex_if_eq 38 dX11_wantWord_30 (by decide) (fun c6 => ?_) (fun c6 => ?_)
      · rw [if_pos c6] at ex7
        refine ex_iconst 1 dX11_wantWord_38 kI_1 ?_
        subst ex7
        exact Jx7
      · rw [if_neg c6] at ex7
        refine ex_bipush 14 dX11_wantWord_33 kB_14 ?_
        refine ex_goto 39 dX11_wantWord_35 (by decide) ?_
        subst ex7
        exact Jx7
    · rw [if_neg c4] at h
      refine ex_bipush 13 dX11_wantWord_21 kB_13 ?_
      cases h
      exact mx_reti .int dX11_wantWord_23 ⟨rfl, rfl⟩
  · rw [if_neg c2] at h
    refine ex_bipush 12 dX11_wantWord_9 kB_12 ?_
    cases h
    exact mx_reti .int dX11_wantWord_11 ⟨rfl, rfl⟩
def f_X11_word (M : Mem) : Option (Int32) :=
  if (M 155 12).toInt < 0 ∨ 3 < (M 155 12).toInt then (b1 (f_X11_is 1000024 M) fun x2 => lt ((if x2 = 0 then 1 else 15) : Int32) fun x4 => some x4) else if (M 155 12) = 0 then (b1 (f_X11_kindWord M) fun x5 => some x5) else if (M 155 12) = 1 then (b1 (f_X11_lawWord M) fun x7 => some x7) else if (M 155 12) = 2 then (b1 (f_X11_feastWord M) fun x9 => some x9) else if (M 155 12) = 3 then (b1 (f_X11_wantWord M) fun x11 => some x11) else none
set_option maxRecDepth 100000 in
set_option maxHeartbeats 4000000 in
theorem t_X11_word (l : Launch) (E : EV) (M : Mem) {r : Int32} (h : f_X11_word M = some r) : RunM l E yX11_word cX11_word 1 (some .int) 9 [.ref 155] M M (some (.int r)) := by
  refine RunM.of (by decide) (Nat.le_of_ble_eq_true rfl) ?_
  show XM l E (RX11, "word", cX11_word, 1) (some .int) 9 0 [some (.ref 155)] [] M M (some (.int r))
  unfold f_X11_word at h
  refine ex_aload_n dX11_word_0 rfl ?_
  refine mx_geti 11 dX11_word_1 fl_X11_139 oc_at_155 (isi_11_12 oc_at_155) ?_
  by_cases c1 : (M 155 12).toInt < 0 ∨ 3 < (M 155 12).toInt
  · rw [if_pos c1] at h
    refine ex_tswO 56 dX11_word_4 c1 (by decide) ?_
    refine ex_aload_n dX11_word_56 rfl ?_
    refine ex_ldcS 23 dX11_word_57 rfl ?_
    obtain ⟨x2, qx2, h⟩ := b1E h
    refine mx_cVi [.ref 1000024] [] 155 11 x2 dX11_word_59 cl_X11_90 im_X11_is cy_X11_is oc_at_155 rfl (Nat.le_of_ble_eq_true rfl) (by decide) (t_X11_is l E 1000024 M qx2) ?_
    obtain ⟨x4, ex4, h⟩ := ltE h
    have Jx4 : XM l E (RX11, "word", cX11_word, 1) (some .int) 9 71 [some (.ref 155)] [.int x4] M M (some (.int r)) := by
      cases h
      exact mx_reti .int dX11_word_71 ⟨rfl, rfl⟩
    clear h
    refine ex_if_eq 70 dX11_word_62 (by decide) (fun c3 => ?_) (fun c3 => ?_)
    · rw [if_pos c3] at ex4
      refine ex_iconst 1 dX11_word_70 kI_1 ?_
      subst ex4
      exact Jx4
    · rw [if_neg c3] at ex4
      refine ex_bipush 15 dX11_word_65 kB_15 ?_
      refine ex_goto 71 dX11_word_67 (by decide) ?_
      subst ex4
      exact Jx4
  rw [if_neg c1] at h
  by_cases c6 : (M 155 12) = 0
  · rw [if_pos c6] at h
    refine ex_tswI 0 (32) 36 dX11_word_4 c6 (by decide) (by decide) ?_
    refine ex_aload_n dX11_word_36 rfl ?_
    obtain ⟨x5, qx5, h⟩ := b1E h
    refine mx_cVi [] [] 155 11 x5 dX11_word_37 cl_X11_142 im_X11_kindWord cy_X11_kindWord oc_at_155 rfl (Nat.le_of_ble_eq_true rfl) (by decide) (t_X11_kindWord l E M qx5) ?_
    cases h
    exact mx_reti .int dX11_word_40 ⟨rfl, rfl⟩
  rw [if_neg c6] at h
  by_cases c8 : (M 155 12) = 1
  · rw [if_pos c8] at h
    refine ex_tswI 1 (37) 41 dX11_word_4 c8 (by decide) (by decide) ?_
    refine ex_aload_n dX11_word_41 rfl ?_
    obtain ⟨x7, qx7, h⟩ := b1E h
    refine mx_cVi [] [] 155 11 x7 dX11_word_42 cl_X11_145 im_X11_lawWord cy_X11_lawWord oc_at_155 rfl (Nat.le_of_ble_eq_true rfl) (by decide) (t_X11_lawWord l E M qx7) ?_
    cases h
    exact mx_reti .int dX11_word_45 ⟨rfl, rfl⟩
  rw [if_neg c8] at h
  by_cases c10 : (M 155 12) = 2
  · rw [if_pos c10] at h
    refine ex_tswI 2 (42) 46 dX11_word_4 c10 (by decide) (by decide) ?_
    refine ex_aload_n dX11_word_46 rfl ?_
    obtain ⟨x9, qx9, h⟩ := b1E h
    refine mx_cVi [] [] 155 11 x9 dX11_word_47 cl_X11_148 im_X11_feastWord cy_X11_feastWord oc_at_155 rfl (Nat.le_of_ble_eq_true rfl) (by decide) (t_X11_feastWord l E M qx9) ?_
    cases h
    exact mx_reti .int dX11_word_50 ⟨rfl, rfl⟩
  rw [if_neg c10] at h
  by_cases c12 : (M 155 12) = 3
  · rw [if_pos c12] at h
    refine ex_tswI 3 (47) 51 dX11_word_4 c12 (by decide) (by decide) ?_
    refine ex_aload_n dX11_word_51 rfl ?_
    obtain ⟨x11, qx11, h⟩ := b1E h
    refine mx_cVi [] [] 155 11 x11 dX11_word_52 cl_X11_151 im_X11_wantWord cy_X11_wantWord oc_at_155 rfl (Nat.le_of_ble_eq_true rfl) (by decide) (t_X11_wantWord l E M qx11) ?_
    cases h
    exact mx_reti .int dX11_word_55 ⟨rfl, rfl⟩
  rw [if_neg c12] at h
  cases h
def w_X11_next0_0 (M1 : Mem) : Option ((Mem) ⊕ (Mem)) :=
  b1 (f_X11_see (M1 155 17) M1) fun x2 => if x2 = 32 then (lt (up2 M1 155 17 ((M1 155 17) + 1)) fun M4 => some (.inl M4)) else (b1 (f_X11_see (M1 155 17) M1) fun x5 => if x5 = 10 then (lt (up2 M1 155 17 ((M1 155 17) + 1)) fun M7 => some (.inl M7)) else (some (.inr M1)))
def w_X11_next0_126 (M29 : Mem) : Option ((Mem) ⊕ (Mem)) :=
  b1 (f_X11_see (M29 155 17) M29) fun x30 => if (f_X11_isDigit x30) = 0 then (some (.inr M29)) else (if ((M29 155 19) + 4) ≤ (M29 155 17) then (lt (up2 M29 155 17 ((M29 155 17) + 1)) fun M33 => some (.inl M33)) else (b1 (f_X11_see (M29 155 17) M29) fun x34 => lt (up2 M29 155 20 (((10 * (M29 155 20)) + x34) - 48)) fun M35 => lt (up2 M35 155 17 ((M35 155 17) + 1)) fun M36 => some (.inl M36)))
def w_X11_next0_76 (M41 : Mem) : Option ((Mem) ⊕ (Mem)) :=
  b1 (f_X11_see (M41 155 17) M41) fun x42 => if (f_X11_isLetter x42) = 0 then (some (.inr M41)) else (lt (up2 M41 155 17 ((M41 155 17) + 1)) fun M44 => some (.inl M44))
def f_X11_next0 (M : Mem) : Option (Mem) :=
  b1 (lp (fun s => w_X11_next0_0 s) FU M) fun q8 => lt (up2 q8 155 19 (q8 155 17)) fun M9 => b1 (f_X11_see (M9 155 17) M9) fun x10 => if x10 = (-1) then (lt (up2 M9 155 18 0) fun M48 => some M48) else (if (f_X11_isLetter x10) = 0 then (if (f_X11_isDigit x10) = 0 then (lt (up2 M9 155 17 ((M9 155 17) + 1)) fun M14 => if (x10 = 59 ∨ (x10 = 43 ∨ (x10 = 45 ∨ (x10 = 42 ∨ (x10 = 47 ∨ (x10 = 40 ∨ (x10 = 41 ∨ (x10 = 60 ∨ (x10 = 61 ∨ x10 = 62))))))))) then (lt (up2 M14 155 18 (100 + x10)) fun M26 => some M26) else (lt (up2 M14 155 18 1) fun M27 => some M27)) else (lt (up2 M9 155 20 0) fun M28 => b1 (lp (fun s => w_X11_next0_126 s) FU M28) fun q37 => lt ((if 5 ≤ ((q37 155 17) - (q37 155 19)) then 1 else 2) : Int32) fun x39 => lt (up2 q37 155 18 x39) fun M40 => some M40)) else (b1 (lp (fun s => w_X11_next0_76 s) FU M9) fun q45 => b1 (f_X11_word q45) fun x46 => lt (up2 q45 155 18 x46) fun M47 => some M47))
set_option maxRecDepth 100000 in
set_option maxHeartbeats 4000000 in
theorem t_X11_next0 (l : Launch) (E : EV) (M : Mem) {M' : Mem} (h : f_X11_next0 M = some M') : RunM l E yX11_next0 cX11_next0 3 none 10 [.ref 155] M M' none := by
  refine RunM.of (by decide) (Nat.le_of_ble_eq_true rfl) ?_
  show XM l E (RX11, "next0", cX11_next0, 3) none 10 0 [some (.ref 155), none, none] [] M M' none
  unfold f_X11_next0 at h
  refine ex_mskL [true, false, false] (L2 := [some (.ref 155), none, none]) rfl ?_
  obtain ⟨q8, hlq8, h⟩ := b1E h
  have hx : XM l E (RX11, "next0", cX11_next0, 3) none 10 39 [some (.ref 155), none, none] [] q8 M' none := by
    refine ex_aload_n dX11_next0_39 rfl ?_
    refine ex_aload_n dX11_next0_40 rfl ?_
    refine mx_geti 11 dX11_next0_41 fl_X11_72 oc_at_155 (isi_11_17 oc_at_155) ?_
    obtain ⟨M9, eM9, h⟩ := ltE h
    refine mx_puti 11 dX11_next0_44 fl_X11_75 rfl ⟨rfl, rfl⟩ oc_at_155 (isi_11_19 oc_at_155) ?_
    rw [← eM9]
    refine ex_aload_n dX11_next0_47 rfl ?_
    refine ex_aload_n dX11_next0_48 rfl ?_
    refine mx_geti 11 dX11_next0_49 fl_X11_72 oc_at_155 (isi_11_17 oc_at_155) ?_
    obtain ⟨x10, qx10, h⟩ := b1E h
    refine mx_cVi [.int (M9 155 17)] [] 155 11 x10 dX11_next0_52 cl_X11_156 im_X11_see cy_X11_see oc_at_155 rfl (Nat.le_of_ble_eq_true rfl) (by decide) (t_X11_see l E (M9 155 17) M9 qx10) ?_
    refine ex_istore_n (L2 := [some (.ref 155), some (.int x10), none]) dX11_next0_55 (by decide) rfl ?_
    refine ex_iload_n dX11_next0_56 rfl ?_
    refine ex_iconst (-1) dX11_next0_57 kI_m1 ?_
    refine ex_icmp_ne 69 dX11_next0_58 (by decide) (fun c11 => ?_) (fun c11 => ?_)
    · rw [if_neg c11] at h
      refine ex_iload_n dX11_next0_69 rfl ?_
      refine mx_cSi [.int x10] [] (f_X11_isLetter x10) dX11_next0_70 cl_X11_163 sm_X11_isLetter rfl (Nat.le_of_ble_eq_true rfl) (by decide) (t_X11_isLetter l E x10 M9 rfl) ?_
      refine ex_if_eq 114 dX11_next0_73 (by decide) (fun c12 => ?_) (fun c12 => ?_)
      · rw [if_pos c12] at h
        refine ex_iload_n dX11_next0_114 rfl ?_
        refine mx_cSi [.int x10] [] (f_X11_isDigit x10) dX11_next0_115 cl_X11_170 sm_X11_isDigit rfl (Nat.le_of_ble_eq_true rfl) (by decide) (t_X11_isDigit l E x10 M9 rfl) ?_
        refine ex_if_eq 214 dX11_next0_118 (by decide) (fun c13 => ?_) (fun c13 => ?_)
        · rw [if_pos c13] at h
          refine ex_aload_n dX11_next0_214 rfl ?_
          refine ex_dup dX11_next0_215 rfl ?_
          refine mx_geti 11 dX11_next0_216 fl_X11_72 oc_at_155 (isi_11_17 oc_at_155) ?_
          refine ex_iconst 1 dX11_next0_219 kI_1 ?_
          refine ex_iadd dX11_next0_220 ?_
          obtain ⟨M14, eM14, h⟩ := ltE h
          refine mx_puti 11 dX11_next0_221 fl_X11_72 rfl ⟨rfl, rfl⟩ oc_at_155 (isi_11_17 oc_at_155) ?_
          rw [← eM14]
          refine ex_iload_n dX11_next0_224 rfl ?_
          refine ex_bipush 59 dX11_next0_225 kB_59 ?_
          have JXC25 : (x10 = 59 ∨ (x10 = 43 ∨ (x10 = 45 ∨ (x10 = 42 ∨ (x10 = 47 ∨ (x10 = 40 ∨ (x10 = 41 ∨ (x10 = 60 ∨ (x10 = 61 ∨ x10 = 62))))))))) → XM l E (RX11, "next0", cX11_next0, 3) none 10 284 [some (.ref 155), some (.int x10), none] [] M14 M' none := fun C25 => by
            rw [if_pos C25] at h
            refine ex_iconst 1 dX11_next0_284 kI_1 ?_
            refine ex_goto 289 dX11_next0_285 (by decide) ?_
            refine ex_istore_n (L2 := [some (.ref 155), some (.int x10), some (.int 1)]) dX11_next0_289 (by decide) rfl ?_
            refine ex_aload_n dX11_next0_290 rfl ?_
            refine ex_iload_n dX11_next0_291 rfl ?_
            refine ex_if_eq 302 dX11_next0_292 (by decide) (fun z => absurd z (by decide)) (fun _ => ?_)
            refine ex_bipush 100 dX11_next0_295 kB_100 ?_
            refine ex_iload_n dX11_next0_297 rfl ?_
            refine ex_iadd dX11_next0_298 ?_
            refine ex_goto 303 dX11_next0_299 (by decide) ?_
            obtain ⟨M26, eM26, h⟩ := ltE h
            refine mx_puti 11 dX11_next0_303 fl_X11_160 rfl ⟨rfl, rfl⟩ oc_at_155 (isi_11_18 oc_at_155) ?_
            rw [← eM26]
            cases h
            exact mx_retv dX11_next0_306 rfl
          have JYC25 : ¬ ((x10 = 59 ∨ (x10 = 43 ∨ (x10 = 45 ∨ (x10 = 42 ∨ (x10 = 47 ∨ (x10 = 40 ∨ (x10 = 41 ∨ (x10 = 60 ∨ (x10 = 61 ∨ x10 = 62)))))))))) → XM l E (RX11, "next0", cX11_next0, 3) none 10 289 [some (.ref 155), some (.int x10), none] [.int 0] M14 M' none := fun C25 => by
            rw [if_neg C25] at h
            refine ex_istore_n (L2 := [some (.ref 155), some (.int x10), some (.int 0)]) dX11_next0_289 (by decide) rfl ?_
            refine ex_aload_n dX11_next0_290 rfl ?_
            refine ex_iload_n dX11_next0_291 rfl ?_
            refine ex_if_eq 302 dX11_next0_292 (by decide) (fun _ => ?_) (fun z => absurd (by decide) z)
            refine ex_iconst 1 dX11_next0_302 kI_1 ?_
            obtain ⟨M27, eM27, h⟩ := ltE h
            refine mx_puti 11 dX11_next0_303 fl_X11_160 rfl ⟨rfl, rfl⟩ oc_at_155 (isi_11_18 oc_at_155) ?_
            rw [← eM27]
            cases h
            exact mx_retv dX11_next0_306 rfl
          clear h
          refine ex_icmp_eq 284 dX11_next0_227 (by decide) (fun c15 => ?_) (fun c15 => ?_)
          · exact JXC25 (Or.inl c15)
          · refine ex_iload_n dX11_next0_230 rfl ?_
            refine ex_bipush 43 dX11_next0_231 kB_43 ?_
            refine ex_icmp_eq 284 dX11_next0_233 (by decide) (fun c16 => ?_) (fun c16 => ?_)
            · exact JXC25 (Or.inr (Or.inl c16))
            · refine ex_iload_n dX11_next0_236 rfl ?_
              refine ex_bipush 45 dX11_next0_237 kB_45 ?_
              refine ex_icmp_eq 284 dX11_next0_239 (by decide) (fun c17 => ?_) (fun c17 => ?_)
              · exact JXC25 (Or.inr (Or.inr (Or.inl c17)))
              · refine ex_iload_n dX11_next0_242 rfl ?_
                refine ex_bipush 42 dX11_next0_243 kB_42 ?_
                refine ex_icmp_eq 284 dX11_next0_245 (by decide) (fun c18 => ?_) (fun c18 => ?_)
                · exact JXC25 (Or.inr (Or.inr (Or.inr (Or.inl c18))))
                · refine ex_iload_n dX11_next0_248 rfl ?_
                  refine ex_bipush 47 dX11_next0_249 kB_47 ?_
                  refine ex_icmp_eq 284 dX11_next0_251 (by decide) (fun c19 => ?_) (fun c19 => ?_)
                  · exact JXC25 (Or.inr (Or.inr (Or.inr (Or.inr (Or.inl c19)))))
                  · refine ex_iload_n dX11_next0_254 rfl ?_
                    refine ex_bipush 40 dX11_next0_255 kB_40 ?_
                    refine ex_icmp_eq 284 dX11_next0_257 (by decide) (fun c20 => ?_) (fun c20 => ?_)
                    · exact JXC25 (Or.inr (Or.inr (Or.inr (Or.inr (Or.inr (Or.inl c20))))))
                    · refine ex_iload_n dX11_next0_260 rfl ?_
                      refine ex_bipush 41 dX11_next0_261 kB_41 ?_
                      refine ex_icmp_eq 284 dX11_next0_263 (by decide) (fun c21 => ?_) (fun c21 => ?_)
                      · exact JXC25 (Or.inr (Or.inr (Or.inr (Or.inr (Or.inr (Or.inr (Or.inl c21)))))))
                      · refine ex_iload_n dX11_next0_266 rfl ?_
                        refine ex_bipush 60 dX11_next0_267 kB_60 ?_
                        refine ex_icmp_eq 284 dX11_next0_269 (by decide) (fun c22 => ?_) (fun c22 => ?_)
                        · exact JXC25 (Or.inr (Or.inr (Or.inr (Or.inr (Or.inr (Or.inr (Or.inr (Or.inl c22))))))))
                        · refine ex_iload_n dX11_next0_272 rfl ?_
                          refine ex_bipush 61 dX11_next0_273 kB_61 ?_
                          refine ex_icmp_eq 284 dX11_next0_275 (by decide) (fun c23 => ?_) (fun c23 => ?_)
                          · exact JXC25 (Or.inr (Or.inr (Or.inr (Or.inr (Or.inr (Or.inr (Or.inr (Or.inr (Or.inl c23)))))))))
                          · refine ex_iload_n dX11_next0_278 rfl ?_
                            refine ex_bipush 62 dX11_next0_279 kB_62 ?_
                            refine ex_icmp_ne 288 dX11_next0_281 (by decide) (fun c24 => ?_) (fun c24 => ?_)
                            · refine ex_iconst 0 dX11_next0_288 kI_0 ?_
                              exact JYC25 (fun z => z.elim c15 (fun z => z.elim c16 (fun z => z.elim c17 (fun z => z.elim c18 (fun z => z.elim c19 (fun z => z.elim c20 (fun z => z.elim c21 (fun z => z.elim c22 (fun z => z.elim c23 c24)))))))))
                            · exact JXC25 (Or.inr (Or.inr (Or.inr (Or.inr (Or.inr (Or.inr (Or.inr (Or.inr (Or.inr c24)))))))))
        · rw [if_neg c13] at h
          refine ex_aload_n dX11_next0_121 rfl ?_
          refine ex_iconst 0 dX11_next0_122 kI_0 ?_
          obtain ⟨M28, eM28, h⟩ := ltE h
          refine mx_puti 11 dX11_next0_123 fl_X11_173 rfl ⟨rfl, rfl⟩ oc_at_155 (isi_11_20 oc_at_155) ?_
          rw [← eM28]
          refine ex_mskL [true, false, false] (L2 := [some (.ref 155), none, none]) rfl ?_
          obtain ⟨q37, hlq37, h⟩ := b1E h
          have hx : XM l E (RX11, "next0", cX11_next0, 3) none 10 189 [some (.ref 155), none, none] [] q37 M' none := by
            refine ex_aload_n dX11_next0_189 rfl ?_
            refine ex_aload_n dX11_next0_190 rfl ?_
            refine mx_geti 11 dX11_next0_191 fl_X11_72 oc_at_155 (isi_11_17 oc_at_155) ?_
            refine ex_aload_n dX11_next0_194 rfl ?_
            refine mx_geti 11 dX11_next0_195 fl_X11_75 oc_at_155 (isi_11_19 oc_at_155) ?_
            refine ex_isub dX11_next0_198 ?_
            refine ex_iconst 5 dX11_next0_199 kI_5 ?_
            obtain ⟨x39, ex39, h⟩ := ltE h
            have Jx39 : XM l E (RX11, "next0", cX11_next0, 3) none 10 208 [some (.ref 155), none, none] [.int x39, .ref 155] q37 M' none := by
              obtain ⟨M40, eM40, h⟩ := ltE h
              refine mx_puti 11 dX11_next0_208 fl_X11_160 rfl ⟨rfl, rfl⟩ oc_at_155 (isi_11_18 oc_at_155) ?_
              rw [← eM40]
              refine ex_goto 306 dX11_next0_211 (by decide) ?_
              cases h
              exact mx_retv dX11_next0_306 rfl
            clear h
            refine ex_icmp_ge 207 dX11_next0_200 (by decide) (fun c38 => ?_) (fun c38 => ?_)
            · rw [if_pos c38] at ex39
              refine ex_iconst 1 dX11_next0_207 kI_1 ?_
              subst ex39
              exact Jx39
            · rw [if_neg c38] at ex39
              refine ex_iconst 2 dX11_next0_203 kI_2 ?_
              refine ex_goto 208 dX11_next0_204 (by decide) ?_
              subst ex39
              exact Jx39
          clear h
          have key : ∀ (k : Nat) (s : Mem), lp (fun s => w_X11_next0_126 s) k s = some q37 → XM l E (RX11, "next0", cX11_next0, 3) none 10 126 [some (.ref 155), none, none] [] s M' none := lp_ind (P := fun (s : Mem) => XM l E (RX11, "next0", cX11_next0, 3) none 10 126 [some (.ref 155), none, none] [] s M' none) (fun s t hb hk he => by
            revert hb hk he; generalize s = M29; intro hb hk he
            show XM l E (RX11, "next0", cX11_next0, 3) none 10 126 [some (.ref 155), none, none] [] M29 M' none
            change w_X11_next0_126 M29 = some t at hb
            unfold w_X11_next0_126 at hb
            refine ex_aload_n dX11_next0_126 rfl ?_
            refine ex_aload_n dX11_next0_127 rfl ?_
            refine mx_geti 11 dX11_next0_128 fl_X11_72 oc_at_155 (isi_11_17 oc_at_155) ?_
            obtain ⟨x30, qx30, hb⟩ := b1E hb
            refine mx_cVi [.int (M29 155 17)] [] 155 11 x30 dX11_next0_131 cl_X11_156 im_X11_see cy_X11_see oc_at_155 rfl (Nat.le_of_ble_eq_true rfl) (by decide) (t_X11_see l E (M29 155 17) M29 qx30) ?_
            refine mx_cSi [.int x30] [] (f_X11_isDigit x30) dX11_next0_134 cl_X11_170 sm_X11_isDigit rfl (Nat.le_of_ble_eq_true rfl) (by decide) (t_X11_isDigit l E x30 M29 rfl) ?_
            refine ex_if_eq 189 dX11_next0_137 (by decide) (fun c31 => ?_) (fun c31 => ?_)
            · rw [if_pos c31] at hb
              refine ex_mskL [true, false, false] (L2 := [some (.ref 155), none, none]) rfl ?_
              cases hb
              cases (he _ rfl) <;> exact hx
            · rw [if_neg c31] at hb
              refine ex_aload_n dX11_next0_140 rfl ?_
              refine mx_geti 11 dX11_next0_141 fl_X11_72 oc_at_155 (isi_11_17 oc_at_155) ?_
              refine ex_aload_n dX11_next0_144 rfl ?_
              refine mx_geti 11 dX11_next0_145 fl_X11_75 oc_at_155 (isi_11_19 oc_at_155) ?_
              refine ex_iconst 4 dX11_next0_148 kI_4 ?_
              refine ex_iadd dX11_next0_149 ?_
              refine ex_icmp_ge 176 dX11_next0_150 (by decide) (fun c32 => ?_) (fun c32 => ?_)
              · rw [if_pos c32] at hb
                refine ex_aload_n dX11_next0_176 rfl ?_
                refine ex_dup dX11_next0_177 rfl ?_
                refine mx_geti 11 dX11_next0_178 fl_X11_72 oc_at_155 (isi_11_17 oc_at_155) ?_
                refine ex_iconst 1 dX11_next0_181 kI_1 ?_
                refine ex_iadd dX11_next0_182 ?_
                obtain ⟨M33, eM33, hb⟩ := ltE hb
                refine mx_puti 11 dX11_next0_183 fl_X11_72 rfl ⟨rfl, rfl⟩ oc_at_155 (isi_11_17 oc_at_155) ?_
                rw [← eM33]
                refine ex_goto 126 dX11_next0_186 (by decide) ?_
                refine ex_mskL [true, false, false] (L2 := [some (.ref 155), none, none]) rfl ?_
                cases hb
                exact hk M33 rfl
              · rw [if_neg c32] at hb
                refine ex_aload_n dX11_next0_153 rfl ?_
                refine ex_bipush 10 dX11_next0_154 kB_10 ?_
                refine ex_aload_n dX11_next0_156 rfl ?_
                refine mx_geti 11 dX11_next0_157 fl_X11_173 oc_at_155 (isi_11_20 oc_at_155) ?_
                refine ex_imul dX11_next0_160 ?_
                refine ex_aload_n dX11_next0_161 rfl ?_
                refine ex_aload_n dX11_next0_162 rfl ?_
                refine mx_geti 11 dX11_next0_163 fl_X11_72 oc_at_155 (isi_11_17 oc_at_155) ?_
                obtain ⟨x34, qx34, hb⟩ := b1E hb
                refine mx_cVi [.int (M29 155 17)] [.int (10 * (M29 155 20)), .ref 155] 155 11 x34 dX11_next0_166 cl_X11_156 im_X11_see cy_X11_see oc_at_155 rfl (Nat.le_of_ble_eq_true rfl) (by decide) (t_X11_see l E (M29 155 17) M29 qx34) ?_
                refine ex_iadd dX11_next0_169 ?_
                refine ex_bipush 48 dX11_next0_170 kB_48 ?_
                refine ex_isub dX11_next0_172 ?_
                obtain ⟨M35, eM35, hb⟩ := ltE hb
                refine mx_puti 11 dX11_next0_173 fl_X11_173 rfl ⟨rfl, rfl⟩ oc_at_155 (isi_11_20 oc_at_155) ?_
                rw [← eM35]
                refine ex_aload_n dX11_next0_176 rfl ?_
                refine ex_dup dX11_next0_177 rfl ?_
                refine mx_geti 11 dX11_next0_178 fl_X11_72 oc_at_155 (isi_11_17 oc_at_155) ?_
                refine ex_iconst 1 dX11_next0_181 kI_1 ?_
                refine ex_iadd dX11_next0_182 ?_
                obtain ⟨M36, eM36, hb⟩ := ltE hb
                refine mx_puti 11 dX11_next0_183 fl_X11_72 rfl ⟨rfl, rfl⟩ oc_at_155 (isi_11_17 oc_at_155) ?_
                rw [← eM36]
                refine ex_goto 126 dX11_next0_186 (by decide) ?_
                refine ex_mskL [true, false, false] (L2 := [some (.ref 155), none, none]) rfl ?_
                cases hb
                exact hk M36 rfl)
          exact key FU M28 hlq37
      · rw [if_neg c12] at h
        refine ex_mskL [true, false, false] (L2 := [some (.ref 155), none, none]) rfl ?_
        obtain ⟨q45, hlq45, h⟩ := b1E h
        have hx : XM l E (RX11, "next0", cX11_next0, 3) none 10 103 [some (.ref 155), none, none] [] q45 M' none := by
          refine ex_aload_n dX11_next0_103 rfl ?_
          refine ex_aload_n dX11_next0_104 rfl ?_
          obtain ⟨x46, qx46, h⟩ := b1E h
          refine mx_cVi [] [.ref 155] 155 11 x46 dX11_next0_105 cl_X11_167 im_X11_word cy_X11_word oc_at_155 rfl (Nat.le_of_ble_eq_true rfl) (by decide) (t_X11_word l E q45 qx46) ?_
          obtain ⟨M47, eM47, h⟩ := ltE h
          refine mx_puti 11 dX11_next0_108 fl_X11_160 rfl ⟨rfl, rfl⟩ oc_at_155 (isi_11_18 oc_at_155) ?_
          rw [← eM47]
          refine ex_goto 306 dX11_next0_111 (by decide) ?_
          cases h
          exact mx_retv dX11_next0_306 rfl
        clear h
        have key : ∀ (k : Nat) (s : Mem), lp (fun s => w_X11_next0_76 s) k s = some q45 → XM l E (RX11, "next0", cX11_next0, 3) none 10 76 [some (.ref 155), none, none] [] s M' none := lp_ind (P := fun (s : Mem) => XM l E (RX11, "next0", cX11_next0, 3) none 10 76 [some (.ref 155), none, none] [] s M' none) (fun s t hb hk he => by
          revert hb hk he; generalize s = M41; intro hb hk he
          show XM l E (RX11, "next0", cX11_next0, 3) none 10 76 [some (.ref 155), none, none] [] M41 M' none
          change w_X11_next0_76 M41 = some t at hb
          unfold w_X11_next0_76 at hb
          refine ex_aload_n dX11_next0_76 rfl ?_
          refine ex_aload_n dX11_next0_77 rfl ?_
          refine mx_geti 11 dX11_next0_78 fl_X11_72 oc_at_155 (isi_11_17 oc_at_155) ?_
          obtain ⟨x42, qx42, hb⟩ := b1E hb
          refine mx_cVi [.int (M41 155 17)] [] 155 11 x42 dX11_next0_81 cl_X11_156 im_X11_see cy_X11_see oc_at_155 rfl (Nat.le_of_ble_eq_true rfl) (by decide) (t_X11_see l E (M41 155 17) M41 qx42) ?_
          refine mx_cSi [.int x42] [] (f_X11_isLetter x42) dX11_next0_84 cl_X11_163 sm_X11_isLetter rfl (Nat.le_of_ble_eq_true rfl) (by decide) (t_X11_isLetter l E x42 M41 rfl) ?_
          refine ex_if_eq 103 dX11_next0_87 (by decide) (fun c43 => ?_) (fun c43 => ?_)
          · rw [if_pos c43] at hb
            refine ex_mskL [true, false, false] (L2 := [some (.ref 155), none, none]) rfl ?_
            cases hb
            cases (he _ rfl) <;> exact hx
          · rw [if_neg c43] at hb
            refine ex_aload_n dX11_next0_90 rfl ?_
            refine ex_dup dX11_next0_91 rfl ?_
            refine mx_geti 11 dX11_next0_92 fl_X11_72 oc_at_155 (isi_11_17 oc_at_155) ?_
            refine ex_iconst 1 dX11_next0_95 kI_1 ?_
            refine ex_iadd dX11_next0_96 ?_
            obtain ⟨M44, eM44, hb⟩ := ltE hb
            refine mx_puti 11 dX11_next0_97 fl_X11_72 rfl ⟨rfl, rfl⟩ oc_at_155 (isi_11_17 oc_at_155) ?_
            rw [← eM44]
            refine ex_goto 76 dX11_next0_100 (by decide) ?_
            refine ex_mskL [true, false, false] (L2 := [some (.ref 155), none, none]) rfl ?_
            cases hb
            exact hk M44 rfl)
        exact key FU M9 hlq45
    · rw [if_pos c11] at h
      refine ex_aload_n dX11_next0_61 rfl ?_
      refine ex_iconst 0 dX11_next0_62 kI_0 ?_
      obtain ⟨M48, eM48, h⟩ := ltE h
      refine mx_puti 11 dX11_next0_63 fl_X11_160 rfl ⟨rfl, rfl⟩ oc_at_155 (isi_11_18 oc_at_155) ?_
      rw [← eM48]
      refine ex_goto 306 dX11_next0_66 (by decide) ?_
      cases h
      exact mx_retv dX11_next0_306 rfl
  clear h
  have key : ∀ (k : Nat) (s : Mem), lp (fun s => w_X11_next0_0 s) k s = some q8 → XM l E (RX11, "next0", cX11_next0, 3) none 10 0 [some (.ref 155), none, none] [] s M' none := lp_ind (P := fun (s : Mem) => XM l E (RX11, "next0", cX11_next0, 3) none 10 0 [some (.ref 155), none, none] [] s M' none) (fun s t hb hk he => by
    revert hb hk he; generalize s = M1; intro hb hk he
    show XM l E (RX11, "next0", cX11_next0, 3) none 10 0 [some (.ref 155), none, none] [] M1 M' none
    change w_X11_next0_0 M1 = some t at hb
    unfold w_X11_next0_0 at hb
    refine ex_aload_n dX11_next0_0 rfl ?_
    refine ex_aload_n dX11_next0_1 rfl ?_
    refine mx_geti 11 dX11_next0_2 fl_X11_72 oc_at_155 (isi_11_17 oc_at_155) ?_
    obtain ⟨x2, qx2, hb⟩ := b1E hb
    refine mx_cVi [.int (M1 155 17)] [] 155 11 x2 dX11_next0_5 cl_X11_156 im_X11_see cy_X11_see oc_at_155 rfl (Nat.le_of_ble_eq_true rfl) (by decide) (t_X11_see l E (M1 155 17) M1 qx2) ?_
    refine ex_bipush 32 dX11_next0_8 kB_32 ?_
    refine ex_icmp_eq 26 dX11_next0_10 (by decide) (fun c3 => ?_) (fun c3 => ?_)
    · rw [if_pos c3] at hb
      refine ex_aload_n dX11_next0_26 rfl ?_
      refine ex_dup dX11_next0_27 rfl ?_
      refine mx_geti 11 dX11_next0_28 fl_X11_72 oc_at_155 (isi_11_17 oc_at_155) ?_
      refine ex_iconst 1 dX11_next0_31 kI_1 ?_
      refine ex_iadd dX11_next0_32 ?_
      obtain ⟨M4, eM4, hb⟩ := ltE hb
      refine mx_puti 11 dX11_next0_33 fl_X11_72 rfl ⟨rfl, rfl⟩ oc_at_155 (isi_11_17 oc_at_155) ?_
      rw [← eM4]
      refine ex_goto 0 dX11_next0_36 (by decide) ?_
      refine ex_mskL [true, false, false] (L2 := [some (.ref 155), none, none]) rfl ?_
      cases hb
      exact hk M4 rfl
    · rw [if_neg c3] at hb
      refine ex_aload_n dX11_next0_13 rfl ?_
      refine ex_aload_n dX11_next0_14 rfl ?_
      refine mx_geti 11 dX11_next0_15 fl_X11_72 oc_at_155 (isi_11_17 oc_at_155) ?_
      obtain ⟨x5, qx5, hb⟩ := b1E hb
      refine mx_cVi [.int (M1 155 17)] [] 155 11 x5 dX11_next0_18 cl_X11_156 im_X11_see cy_X11_see oc_at_155 rfl (Nat.le_of_ble_eq_true rfl) (by decide) (t_X11_see l E (M1 155 17) M1 qx5) ?_
      refine ex_bipush 10 dX11_next0_21 kB_10 ?_
      refine ex_icmp_ne 39 dX11_next0_23 (by decide) (fun c6 => ?_) (fun c6 => ?_)
      · rw [if_neg c6] at hb
        refine ex_mskL [true, false, false] (L2 := [some (.ref 155), none, none]) rfl ?_
        cases hb
        cases (he _ rfl) <;> exact hx
      · rw [if_pos c6] at hb
        refine ex_aload_n dX11_next0_26 rfl ?_
        refine ex_dup dX11_next0_27 rfl ?_
        refine mx_geti 11 dX11_next0_28 fl_X11_72 oc_at_155 (isi_11_17 oc_at_155) ?_
        refine ex_iconst 1 dX11_next0_31 kI_1 ?_
        refine ex_iadd dX11_next0_32 ?_
        obtain ⟨M7, eM7, hb⟩ := ltE hb
        refine mx_puti 11 dX11_next0_33 fl_X11_72 rfl ⟨rfl, rfl⟩ oc_at_155 (isi_11_17 oc_at_155) ?_
        rw [← eM7]
        refine ex_goto 0 dX11_next0_36 (by decide) ?_
        refine ex_mskL [true, false, false] (L2 := [some (.ref 155), none, none]) rfl ?_
        cases hb
        exact hk M7 rfl)
  exact key FU M hlq8
def f_X11_bad (a1 : Int32) (M : Mem) : (Mem × Int32) :=
  lt (up2 M 155 21 a1) fun M1 => lt (up2 M1 155 22 (M1 155 19)) fun M2 => (M2, 0)
set_option maxRecDepth 100000 in
set_option maxHeartbeats 4000000 in
theorem t_X11_bad (l : Launch) (E : EV) (a1 : Int32) (M : Mem) {M' : Mem} {r : Int32} (h : f_X11_bad a1 M = (M', r)) : RunM l E yX11_bad cX11_bad 2 (some .boolean) 0 [.ref 155, .int a1] M M' (some (.int r)) := by
  refine RunM.of (by decide) (Nat.le_of_ble_eq_true rfl) ?_
  show XM l E (RX11, "bad", cX11_bad, 2) (some .boolean) 0 0 [some (.ref 155), some (.int a1)] [] M M' (some (.int r))
  unfold f_X11_bad at h
  refine ex_aload_n dX11_bad_0 rfl ?_
  refine ex_iload_n dX11_bad_1 rfl ?_
  obtain ⟨M1, eM1, h⟩ := ltE h
  refine mx_puti 11 dX11_bad_2 fl_X11_176 rfl ⟨rfl, rfl⟩ oc_at_155 (isi_11_21 oc_at_155) ?_
  rw [← eM1]
  refine ex_aload_n dX11_bad_5 rfl ?_
  refine ex_aload_n dX11_bad_6 rfl ?_
  refine mx_geti 11 dX11_bad_7 fl_X11_75 oc_at_155 (isi_11_19 oc_at_155) ?_
  obtain ⟨M2, eM2, h⟩ := ltE h
  refine mx_puti 11 dX11_bad_10 fl_X11_179 rfl ⟨rfl, rfl⟩ oc_at_155 (isi_11_22 oc_at_155) ?_
  rw [← eM2]
  refine ex_iconst 0 dX11_bad_13 kI_0 ?_
  cases h
  exact mx_reti .boolean dX11_bad_14 ⟨rfl, by decide⟩
def f_X11_need (a1 : Int32) (M : Mem) : Option (Mem × Int32) :=
  if (M 155 18) = a1 then (b1 (f_X11_next0 M) fun M2 => some (M2, 1)) else (lt (f_X11_bad 1 M) fun p3 => b1 (gz p3.2) fun x4 => some (p3.1, x4))
set_option maxRecDepth 100000 in
set_option maxHeartbeats 4000000 in
theorem t_X11_need (l : Launch) (E : EV) (a1 : Int32) (M : Mem) {M' : Mem} {r : Int32} (h : f_X11_need a1 M = some (M', r)) : RunM l E yX11_need cX11_need 2 (some .boolean) 11 [.ref 155, .int a1] M M' (some (.int r)) := by
  refine RunM.of (by decide) (Nat.le_of_ble_eq_true rfl) ?_
  show XM l E (RX11, "need", cX11_need, 2) (some .boolean) 11 0 [some (.ref 155), some (.int a1)] [] M M' (some (.int r))
  unfold f_X11_need at h
  refine ex_aload_n dX11_need_0 rfl ?_
  refine mx_geti 11 dX11_need_1 fl_X11_160 oc_at_155 (isi_11_18 oc_at_155) ?_
  refine ex_iload_n dX11_need_4 rfl ?_
  refine ex_icmp_eq 14 dX11_need_5 (by decide) (fun c1 => ?_) (fun c1 => ?_)
  · rw [if_pos c1] at h
    refine ex_aload_n dX11_need_14 rfl ?_
    obtain ⟨M2, qM2, h⟩ := b1E h
    refine mx_cVv [] [] 155 11 dX11_need_15 cl_X11_185 im_X11_next0 cy_X11_next0 oc_at_155 rfl (Nat.le_of_ble_eq_true rfl) (by decide) (t_X11_next0 l E M qM2) ?_
    refine ex_iconst 1 dX11_need_18 kI_1 ?_
    cases h
    exact mx_reti .boolean dX11_need_19 ⟨rfl, by decide⟩
  · rw [if_neg c1] at h
    refine ex_aload_n dX11_need_8 rfl ?_
    refine ex_iconst 1 dX11_need_9 kI_1 ?_
    obtain ⟨p3, ep3, h⟩ := ltE h
    refine mx_cVi [.int 1] [] 155 11 p3.2 dX11_need_10 cl_X11_182 im_X11_bad cy_X11_bad oc_at_155 rfl (Nat.le_of_ble_eq_true rfl) (by decide) (t_X11_bad l E 1 M ep3.symm) ?_
    obtain ⟨x4, qx4, h⟩ := b1E h
    obtain ⟨ex4, nx4⟩ := gzE qx4
    rw [← ex4] at h
    cases h
    exact mx_reti .boolean dX11_need_13 ⟨rfl, nx4⟩
def f_X11_lay (a1 : Int32) (a2 : Int32) (M : Mem) : Option (Mem) :=
  b1 (wr M 161 (2 * (M 155 14)) a1) fun M1 => b1 (wr M1 161 ((2 * (M1 155 14)) + 1) a2) fun M2 => lt (up2 M2 155 14 ((M2 155 14) + 1)) fun M3 => some M3
set_option maxRecDepth 100000 in
set_option maxHeartbeats 4000000 in
theorem t_X11_lay (l : Launch) (E : EV) (a1 : Int32) (a2 : Int32) (M : Mem) {M' : Mem} (h : f_X11_lay a1 a2 M = some M') : RunM l E yX11_lay cX11_lay 3 none 0 [.ref 155, .int a1, .int a2] M M' none := by
  refine RunM.of (by decide) (Nat.le_of_ble_eq_true rfl) ?_
  show XM l E (RX11, "lay", cX11_lay, 3) none 0 0 [some (.ref 155), some (.int a1), some (.int a2)] [] M M' none
  unfold f_X11_lay at h
  refine ex_aload_n dX11_lay_0 rfl ?_
  refine mx_getr 11 161 dX11_lay_1 fl_X11_25 oc_at_155 (rf_11_7 oc_at_155) ?_
  refine ex_iconst 2 dX11_lay_4 kI_2 ?_
  refine ex_aload_n dX11_lay_5 rfl ?_
  refine mx_geti 11 dX11_lay_6 fl_X11_188 oc_at_155 (isi_11_14 oc_at_155) ?_
  refine ex_imul dX11_lay_9 ?_
  refine ex_iload_n dX11_lay_10 rfl ?_
  obtain ⟨M1, qM1, h⟩ := b1E h
  refine mx_iast M1 dX11_lay_11 qM1 ?_
  refine ex_aload_n dX11_lay_12 rfl ?_
  refine mx_getr 11 161 dX11_lay_13 fl_X11_25 oc_at_155 (rf_11_7 oc_at_155) ?_
  refine ex_iconst 2 dX11_lay_16 kI_2 ?_
  refine ex_aload_n dX11_lay_17 rfl ?_
  refine mx_geti 11 dX11_lay_18 fl_X11_188 oc_at_155 (isi_11_14 oc_at_155) ?_
  refine ex_imul dX11_lay_21 ?_
  refine ex_iconst 1 dX11_lay_22 kI_1 ?_
  refine ex_iadd dX11_lay_23 ?_
  refine ex_iload_n dX11_lay_24 rfl ?_
  obtain ⟨M2, qM2, h⟩ := b1E h
  refine mx_iast M2 dX11_lay_25 qM2 ?_
  refine ex_aload_n dX11_lay_26 rfl ?_
  refine ex_dup dX11_lay_27 rfl ?_
  refine mx_geti 11 dX11_lay_28 fl_X11_188 oc_at_155 (isi_11_14 oc_at_155) ?_
  refine ex_iconst 1 dX11_lay_31 kI_1 ?_
  refine ex_iadd dX11_lay_32 ?_
  obtain ⟨M3, eM3, h⟩ := ltE h
  refine mx_puti 11 dX11_lay_33 fl_X11_188 rfl ⟨rfl, rfl⟩ oc_at_155 (isi_11_14 oc_at_155) ?_
  rw [← eM3]
  cases h
  exact mx_retv dX11_lay_36 rfl
def f_X11_opens (M : Mem) : Option (Mem × Int32) :=
  if (M 155 24) = 8 then (lt (f_X11_bad 3 M) fun p4 => b1 (gz p4.2) fun x5 => some (p4.1, x5)) else (lt (up2 M 155 24 ((M 155 24) + 1)) fun M2 => b1 (f_X11_next0 M2) fun M3 => some (M3, 1))
set_option maxRecDepth 100000 in
set_option maxHeartbeats 4000000 in
theorem t_X11_opens (l : Launch) (E : EV) (M : Mem) {M' : Mem} {r : Int32} (h : f_X11_opens M = some (M', r)) : RunM l E yX11_opens cX11_opens 1 (some .boolean) 11 [.ref 155] M M' (some (.int r)) := by
  refine RunM.of (by decide) (Nat.le_of_ble_eq_true rfl) ?_
  show XM l E (RX11, "opens", cX11_opens, 1) (some .boolean) 11 0 [some (.ref 155)] [] M M' (some (.int r))
  unfold f_X11_opens at h
  refine ex_aload_n dX11_opens_0 rfl ?_
  refine mx_geti 11 dX11_opens_1 fl_X11_191 oc_at_155 (isi_11_24 oc_at_155) ?_
  refine ex_bipush 8 dX11_opens_4 kB_8 ?_
  refine ex_icmp_ne 15 dX11_opens_6 (by decide) (fun c1 => ?_) (fun c1 => ?_)
  · rw [if_neg c1] at h
    refine ex_aload_n dX11_opens_15 rfl ?_
    refine ex_dup dX11_opens_16 rfl ?_
    refine mx_geti 11 dX11_opens_17 fl_X11_191 oc_at_155 (isi_11_24 oc_at_155) ?_
    refine ex_iconst 1 dX11_opens_20 kI_1 ?_
    refine ex_iadd dX11_opens_21 ?_
    obtain ⟨M2, eM2, h⟩ := ltE h
    refine mx_puti 11 dX11_opens_22 fl_X11_191 rfl ⟨rfl, rfl⟩ oc_at_155 (isi_11_24 oc_at_155) ?_
    rw [← eM2]
    refine ex_aload_n dX11_opens_25 rfl ?_
    obtain ⟨M3, qM3, h⟩ := b1E h
    refine mx_cVv [] [] 155 11 dX11_opens_26 cl_X11_185 im_X11_next0 cy_X11_next0 oc_at_155 rfl (Nat.le_of_ble_eq_true rfl) (by decide) (t_X11_next0 l E M2 qM3) ?_
    refine ex_iconst 1 dX11_opens_29 kI_1 ?_
    cases h
    exact mx_reti .boolean dX11_opens_30 ⟨rfl, by decide⟩
  · rw [if_pos c1] at h
    refine ex_aload_n dX11_opens_9 rfl ?_
    refine ex_iconst 3 dX11_opens_10 kI_3 ?_
    obtain ⟨p4, ep4, h⟩ := ltE h
    refine mx_cVi [.int 3] [] 155 11 p4.2 dX11_opens_11 cl_X11_182 im_X11_bad cy_X11_bad oc_at_155 rfl (Nat.le_of_ble_eq_true rfl) (by decide) (t_X11_bad l E 3 M ep4.symm) ?_
    obtain ⟨x5, qx5, h⟩ := b1E h
    obtain ⟨ex5, nx5⟩ := gzE qx5
    rw [← ex5] at h
    cases h
    exact mx_reti .boolean dX11_opens_14 ⟨rfl, nx5⟩
def f_X11_unit (M : Mem) : Option (Mem × Int32) :=
  lt (f_X11_isIn (M 155 18) 41 47) fun x1 => if ((M 155 18) = 2 ∨ ¬ (x1 = 0)) then (lt ((if x1 = 0 then 0 else ((M 155 18) - 40)) : Int32) fun x6 => b1 (f_X11_lay x6 (M 155 20) M) fun M7 => b1 (f_X11_next0 M7) fun M8 => some (M8, 1)) else (lt (f_X11_bad 1 M) fun p9 => b1 (gz p9.2) fun x10 => some (p9.1, x10))
set_option maxRecDepth 100000 in
set_option maxHeartbeats 4000000 in
theorem t_X11_unit (l : Launch) (E : EV) (M : Mem) {M' : Mem} {r : Int32} (h : f_X11_unit M = some (M', r)) : RunM l E yX11_unit cX11_unit 2 (some .boolean) 11 [.ref 155] M M' (some (.int r)) := by
  refine RunM.of (by decide) (Nat.le_of_ble_eq_true rfl) ?_
  show XM l E (RX11, "unit", cX11_unit, 2) (some .boolean) 11 0 [some (.ref 155), none] [] M M' (some (.int r))
  unfold f_X11_unit at h
  refine ex_aload_n dX11_unit_0 rfl ?_
  refine mx_geti 11 dX11_unit_1 fl_X11_160 oc_at_155 (isi_11_18 oc_at_155) ?_
  refine ex_bipush 41 dX11_unit_4 kB_41 ?_
  refine ex_bipush 47 dX11_unit_6 kB_47 ?_
  refine mx_cSi [.int (M 155 18), .int 41, .int 47] [] (f_X11_isIn (M 155 18) 41 47) dX11_unit_8 cl_X11_53 sm_X11_isIn rfl (Nat.le_of_ble_eq_true rfl) (by decide) (t_X11_isIn l E (M 155 18) 41 47 M rfl) ?_
  obtain ⟨x1, ex1, h⟩ := ltE h
  rw [← ex1]
  refine ex_istore_n (L2 := [some (.ref 155), some (.int x1)]) dX11_unit_11 (by decide) rfl ?_
  refine ex_aload_n dX11_unit_12 rfl ?_
  refine mx_geti 11 dX11_unit_13 fl_X11_160 oc_at_155 (isi_11_18 oc_at_155) ?_
  refine ex_iconst 2 dX11_unit_16 kI_2 ?_
  have JXC4 : ((M 155 18) = 2 ∨ ¬ (x1 = 0)) → XM l E (RX11, "unit", cX11_unit, 2) (some .boolean) 11 30 [some (.ref 155), some (.int x1)] [] M M' (some (.int r)) := fun C4 => by
    rw [if_pos C4] at h
    refine ex_aload_n dX11_unit_30 rfl ?_
    refine ex_iload_n dX11_unit_31 rfl ?_
    obtain ⟨x6, ex6, h⟩ := ltE h
    have Jx6 : XM l E (RX11, "unit", cX11_unit, 2) (some .boolean) 11 46 [some (.ref 155), some (.int x1)] [.int x6, .ref 155] M M' (some (.int r)) := by
      refine ex_aload_n dX11_unit_46 rfl ?_
      refine mx_geti 11 dX11_unit_47 fl_X11_173 oc_at_155 (isi_11_20 oc_at_155) ?_
      obtain ⟨M7, qM7, h⟩ := b1E h
      refine mx_cVv [.int x6, .int (M 155 20)] [] 155 11 dX11_unit_50 cl_X11_198 im_X11_lay cy_X11_lay oc_at_155 rfl (Nat.le_of_ble_eq_true rfl) (by decide) (t_X11_lay l E x6 (M 155 20) M qM7) ?_
      refine ex_aload_n dX11_unit_53 rfl ?_
      obtain ⟨M8, qM8, h⟩ := b1E h
      refine mx_cVv [] [] 155 11 dX11_unit_54 cl_X11_185 im_X11_next0 cy_X11_next0 oc_at_155 rfl (Nat.le_of_ble_eq_true rfl) (by decide) (t_X11_next0 l E M7 qM8) ?_
      refine ex_iconst 1 dX11_unit_57 kI_1 ?_
      cases h
      exact mx_reti .boolean dX11_unit_58 ⟨rfl, by decide⟩
    clear h
    refine ex_if_eq 45 dX11_unit_32 (by decide) (fun c5 => ?_) (fun c5 => ?_)
    · rw [if_pos c5] at ex6
      refine ex_iconst 0 dX11_unit_45 kI_0 ?_
      subst ex6
      exact Jx6
    · rw [if_neg c5] at ex6
      refine ex_aload_n dX11_unit_35 rfl ?_
      refine mx_geti 11 dX11_unit_36 fl_X11_160 oc_at_155 (isi_11_18 oc_at_155) ?_
      refine ex_bipush 40 dX11_unit_39 kB_40 ?_
      refine ex_isub dX11_unit_41 ?_
      refine ex_goto 46 dX11_unit_42 (by decide) ?_
      subst ex6
      exact Jx6
  have JYC4 : ¬ (((M 155 18) = 2 ∨ ¬ (x1 = 0))) → XM l E (RX11, "unit", cX11_unit, 2) (some .boolean) 11 26 [some (.ref 155), some (.int x1)] [.int 1, .ref 155] M M' (some (.int r)) := fun C4 => by
    rw [if_neg C4] at h
    obtain ⟨p9, ep9, h⟩ := ltE h
    refine mx_cVi [.int 1] [] 155 11 p9.2 dX11_unit_26 cl_X11_182 im_X11_bad cy_X11_bad oc_at_155 rfl (Nat.le_of_ble_eq_true rfl) (by decide) (t_X11_bad l E 1 M ep9.symm) ?_
    obtain ⟨x10, qx10, h⟩ := b1E h
    obtain ⟨ex10, nx10⟩ := gzE qx10
    rw [← ex10] at h
    cases h
    exact mx_reti .boolean dX11_unit_29 ⟨rfl, nx10⟩
  clear h
  refine ex_icmp_eq 30 dX11_unit_17 (by decide) (fun c2 => ?_) (fun c2 => ?_)
  · exact JXC4 (Or.inl c2)
  · refine ex_iload_n dX11_unit_20 rfl ?_
    refine ex_if_ne 30 dX11_unit_21 (by decide) (fun c3 => ?_) (fun c3 => ?_)
    · exact JXC4 (Or.inr c3)
    · refine ex_aload_n dX11_unit_24 rfl ?_
      refine ex_iconst 1 dX11_unit_25 kI_1 ?_
      exact JYC4 (fun z => z.elim c2 (fun z => z c3))
