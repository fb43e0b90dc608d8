def F_X3_readCondition (r_X3_readCondition : Int32 → Mem → Option (Mem × Int32)) (r_X3_readEither : Int32 → Mem → Option (Mem × Int32)) (a1 : Int32) (M : Mem) : Option (Mem × Int32) :=
  b1 (f_X9_type M) fun x1 => if (x1 = 314 ∨ x1 = 40) then (if a1 < 8 then (if x1 = 40 then (lt (f_X9_take M) fun M29 => b2 (r_X3_readEither (a1 + 1) M29) fun M30 x31 => if x31 = 0 then (some (M30, 0)) else (b2 (f_X9_takes 41 M30) fun M33 x34 => if x34 = 0 then (some (M33, 0)) else (some (M33, 1)))) else (if x1 = 314 then (lt (f_X9_take M) fun M24 => b2 (r_X3_readCondition (a1 + 1) M24) fun M25 x26 => b1 (f_X2_addStep 143 314 0 M25) fun M27 => b1 (gz x26) fun x28 => some (M27, x28)) else (b2 (f_X3_readSum M) fun M8 x9 => if x9 = 0 then (some (M8, 0)) else (b1 (f_X9_type M8) fun x11 => if (x11 = 60 ∨ (x11 = 61 ∨ x11 = 62)) then (lt (f_X9_take M8) fun M16 => b2 (f_X3_readSum M16) fun M17 x18 => b1 (f_X2_addStep 143 x11 0 M17) fun M19 => b1 (gz x18) fun x20 => some (M19, x20)) else (b2 (f_X9_fails 1 M8) fun M21 x22 => b1 (gz x22) fun x23 => some (M21, x23)))))) else (b2 (f_X9_fails 3 M) fun M36 x37 => b1 (gz x37) fun x38 => some (M36, x38))) else (if x1 = 40 then (lt (f_X9_take M) fun M62 => b2 (r_X3_readEither (a1 + 1) M62) fun M63 x64 => if x64 = 0 then (some (M63, 0)) else (b2 (f_X9_takes 41 M63) fun M66 x67 => if x67 = 0 then (some (M66, 0)) else (some (M66, 1)))) else (if x1 = 314 then (lt (f_X9_take M) fun M57 => b2 (r_X3_readCondition (a1 + 1) M57) fun M58 x59 => b1 (f_X2_addStep 143 314 0 M58) fun M60 => b1 (gz x59) fun x61 => some (M60, x61)) else (b2 (f_X3_readSum M) fun M41 x42 => if x42 = 0 then (some (M41, 0)) else (b1 (f_X9_type M41) fun x44 => if (x44 = 60 ∨ (x44 = 61 ∨ x44 = 62)) then (lt (f_X9_take M41) fun M49 => b2 (f_X3_readSum M49) fun M50 x51 => b1 (f_X2_addStep 143 x44 0 M50) fun M52 => b1 (gz x51) fun x53 => some (M52, x53)) else (b2 (f_X9_fails 1 M41) fun M54 x55 => b1 (gz x55) fun x56 => some (M54, x56))))))
set_option maxRecDepth 100000 in
set_option maxHeartbeats 4000000 in
theorem T_X3_readCondition (l : Launch) (E : EV) (n : Nat) (r_X3_readCondition : Int32 → Mem → Option (Mem × Int32)) (r_X3_readEither : Int32 → Mem → Option (Mem × Int32)) (h_X3_readCondition : ∀ (a1 : Int32) (M : Mem) {M' : Mem} {r : Int32}, r_X3_readCondition a1 M = some (M', r) → RunM l E yX3_readCondition cX3_readCondition 5 (some .boolean) (n + 3) [.ref 142, .int a1] M M' (some (.int r))) (h_X3_readEither : ∀ (a1 : Int32) (M : Mem) {M' : Mem} {r : Int32}, r_X3_readEither a1 M = some (M', r) → RunM l E yX3_readEither cX3_readEither 5 (some .boolean) (n + 3) [.ref 142, .int a1] M M' (some (.int r))) (a1 : Int32) (M : Mem) {M' : Mem} {r : Int32} (h : F_X3_readCondition r_X3_readCondition r_X3_readEither a1 M = some (M', r)) : RunM l E yX3_readCondition cX3_readCondition 5 (some .boolean) (n + 4) [.ref 142, .int a1] M M' (some (.int r)) := by
  refine RunM.of (by decide) (Nat.le_of_ble_eq_true rfl) ?_
  show XM l E (RX3, "readCondition", cX3_readCondition, 5) (some .boolean) (n + 4) 0 [some (.ref 142), some (.int a1), none, none, none] [] M M' (some (.int r))
  unfold F_X3_readCondition at h
  refine ex_aload_n dX3_readCondition_0 rfl ?_
  refine mx_getr 3 136 dX3_readCondition_1 fl_X3_18 oc_at_142 (rf_3_0 oc_at_142) ?_
  obtain ⟨x1, qx1, h⟩ := b1E h
  refine mx_cVi [] [] 136 9 x1 dX3_readCondition_4 cl_X3_42 im_X9_type cy_X9_type (oc_3_0 oc_at_142) rfl (Nat.le_of_ble_eq_true rfl) (by omega) (t_X9_type l E M qx1) ?_
  refine ex_istore_n (L2 := [some (.ref 142), some (.int a1), some (.int x1), none, none]) dX3_readCondition_7 (by decide) rfl ?_
  refine ex_iload_n dX3_readCondition_8 rfl ?_
  refine ex_sipush 314 dX3_readCondition_9 kS_314 ?_
  have JXC4 : (x1 = 314 ∨ x1 = 40) → XM l E (RX3, "readCondition", cX3_readCondition, 5) (some .boolean) (n + 4) 21 [some (.ref 142), some (.int a1), some (.int x1), none, none] [] M M' (some (.int r)) := fun C4 => by
    rw [if_pos C4] at h
    refine ex_iload_n dX3_readCondition_21 rfl ?_
    refine ex_bipush 8 dX3_readCondition_22 kB_8 ?_
    refine ex_icmp_lt 36 dX3_readCondition_24 (by decide) (fun c5 => ?_) (fun c5 => ?_)
    · rw [if_pos c5] at h
      refine ex_iload_n dX3_readCondition_36 rfl ?_
      refine ex_bipush 40 dX3_readCondition_37 kB_40 ?_
      refine ex_icmp_ne 77 dX3_readCondition_39 (by decide) (fun c6 => ?_) (fun c6 => ?_)
      · rw [if_neg c6] at h
        refine ex_iload_n dX3_readCondition_77 rfl ?_
        refine ex_sipush 314 dX3_readCondition_78 kS_314 ?_
        refine ex_icmp_ne 112 dX3_readCondition_81 (by decide) (fun c7 => ?_) (fun c7 => ?_)
        · rw [if_neg c7] at h
          refine ex_aload_n dX3_readCondition_112 rfl ?_
          obtain ⟨M8, x9, qx9, h⟩ := b2E h
          refine mx_cVi [] [] 142 3 x9 dX3_readCondition_113 cl_X3_64 im_X3_readSum cy_X3_readSum oc_at_142 rfl (Nat.le_of_ble_eq_true rfl) (by omega) (t_X3_readSum l E M qx9) ?_
          refine ex_if_ne 121 dX3_readCondition_116 (by decide) (fun c10 => ?_) (fun c10 => ?_)
          · rw [if_neg c10] at h
            refine ex_aload_n dX3_readCondition_121 rfl ?_
            refine mx_getr 3 136 dX3_readCondition_122 fl_X3_18 oc_at_142 (rf_3_0 oc_at_142) ?_
            obtain ⟨x11, qx11, h⟩ := b1E h
            refine mx_cVi [] [] 136 9 x11 dX3_readCondition_125 cl_X3_42 im_X9_type cy_X9_type (oc_3_0 oc_at_142) rfl (Nat.le_of_ble_eq_true rfl) (by omega) (t_X9_type l E M8 qx11) ?_
            refine ex_istore_n (L2 := [some (.ref 142), some (.int a1), some (.int x1), some (.int x11), none]) dX3_readCondition_128 (by decide) rfl ?_
            refine ex_iload_n dX3_readCondition_129 rfl ?_
            refine ex_bipush 60 dX3_readCondition_130 kB_60 ?_
            have JXC15 : (x11 = 60 ∨ (x11 = 61 ∨ x11 = 62)) → XM l E (RX3, "readCondition", cX3_readCondition, 5) (some .boolean) (n + 4) 156 [some (.ref 142), some (.int a1), some (.int x1), some (.int x11), none] [] M8 M' (some (.int r)) := fun C15 => by
              rw [if_pos C15] at h
              refine ex_aload_n dX3_readCondition_156 rfl ?_
              refine mx_getr 3 136 dX3_readCondition_157 fl_X3_18 oc_at_142 (rf_3_0 oc_at_142) ?_
              obtain ⟨M16, eM16, h⟩ := ltE h
              refine mx_cVv [] [] 136 9 dX3_readCondition_160 cl_X3_57 im_X9_take cy_X9_take (oc_3_0 oc_at_142) rfl (Nat.le_of_ble_eq_true rfl) (by omega) (t_X9_take l E M8 eM16.symm) ?_
              refine ex_aload_n dX3_readCondition_163 rfl ?_
              obtain ⟨M17, x18, qx18, h⟩ := b2E h
              refine mx_cVi [] [] 142 3 x18 dX3_readCondition_164 cl_X3_64 im_X3_readSum cy_X3_readSum oc_at_142 rfl (Nat.le_of_ble_eq_true rfl) (by omega) (t_X3_readSum l E M16 qx18) ?_
              refine ex_istore (L2 := [some (.ref 142), some (.int a1), some (.int x1), some (.int x11), some (.int x18)]) dX3_readCondition_167 (by decide) rfl ?_
              refine ex_aload_n dX3_readCondition_169 rfl ?_
              refine mx_getr 3 143 dX3_readCondition_170 fl_X3_12 oc_at_142 (rf_3_1 oc_at_142) ?_
              refine ex_iload_n dX3_readCondition_173 rfl ?_
              refine ex_iconst 0 dX3_readCondition_174 kI_0 ?_
              obtain ⟨M19, qM19, h⟩ := b1E h
              refine mx_cVv [.int x11, .int 0] [] 143 2 dX3_readCondition_175 cl_X3_82 im_X2_addStep cy_X2_addStep (oc_3_1 oc_at_142) rfl (Nat.le_of_ble_eq_true rfl) (by omega) (t_X2_addStep l E 143 x11 0 (oc_3_1 oc_at_142) M17 qM19) ?_
              refine ex_iload dX3_readCondition_178 rfl ?_
              obtain ⟨x20, qx20, h⟩ := b1E h
              obtain ⟨ex20, nx20⟩ := gzE qx20
              rw [← ex20] at h
              cases h
              exact mx_reti .boolean dX3_readCondition_180 ⟨rfl, nx20⟩
            have JYC15 : ¬ ((x11 = 60 ∨ (x11 = 61 ∨ x11 = 62))) → XM l E (RX3, "readCondition", cX3_readCondition, 5) (some .boolean) (n + 4) 152 [some (.ref 142), some (.int a1), some (.int x1), some (.int x11), none] [.int 1, .ref 136] M8 M' (some (.int r)) := fun C15 => by
              rw [if_neg C15] at h
              obtain ⟨M21, x22, qx22, h⟩ := b2E h
              refine mx_cVi [.int 1] [] 136 9 x22 dX3_readCondition_152 cl_X3_50 im_X9_fails cy_X9_fails (oc_3_0 oc_at_142) rfl (Nat.le_of_ble_eq_true rfl) (by omega) (t_X9_fails l E 1 M8 qx22) ?_
              obtain ⟨x23, qx23, h⟩ := b1E h
              obtain ⟨ex23, nx23⟩ := gzE qx23
              rw [← ex23] at h
              cases h
              exact mx_reti .boolean dX3_readCondition_155 ⟨rfl, nx23⟩
            clear h
            refine ex_icmp_eq 156 dX3_readCondition_132 (by decide) (fun c12 => ?_) (fun c12 => ?_)
            · exact JXC15 (Or.inl c12)
            · refine ex_iload_n dX3_readCondition_135 rfl ?_
              refine ex_bipush 61 dX3_readCondition_136 kB_61 ?_
              refine ex_icmp_eq 156 dX3_readCondition_138 (by decide) (fun c13 => ?_) (fun c13 => ?_)
              · exact JXC15 (Or.inr (Or.inl c13))
              · refine ex_iload_n dX3_readCondition_141 rfl ?_
                refine ex_bipush 62 dX3_readCondition_142 kB_62 ?_
                refine ex_icmp_eq 156 dX3_readCondition_144 (by decide) (fun c14 => ?_) (fun c14 => ?_)
                · exact JXC15 (Or.inr (Or.inr c14))
                · refine ex_aload_n dX3_readCondition_147 rfl ?_
                  refine mx_getr 3 136 dX3_readCondition_148 fl_X3_18 oc_at_142 (rf_3_0 oc_at_142) ?_
                  refine ex_iconst 1 dX3_readCondition_151 kI_1 ?_
                  exact JYC15 (fun z => z.elim c12 (fun z => z.elim c13 c14))
          · rw [if_pos c10] at h
            refine ex_iconst 0 dX3_readCondition_119 kI_0 ?_
            cases h
            exact mx_reti .boolean dX3_readCondition_120 ⟨rfl, by decide⟩
        · rw [if_pos c7] at h
          refine ex_aload_n dX3_readCondition_84 rfl ?_
          refine mx_getr 3 136 dX3_readCondition_85 fl_X3_18 oc_at_142 (rf_3_0 oc_at_142) ?_
          obtain ⟨M24, eM24, h⟩ := ltE h
          refine mx_cVv [] [] 136 9 dX3_readCondition_88 cl_X3_57 im_X9_take cy_X9_take (oc_3_0 oc_at_142) rfl (Nat.le_of_ble_eq_true rfl) (by omega) (t_X9_take l E M eM24.symm) ?_
          refine ex_aload_n dX3_readCondition_91 rfl ?_
          refine ex_iload_n dX3_readCondition_92 rfl ?_
          refine ex_iconst 1 dX3_readCondition_93 kI_1 ?_
          refine ex_iadd dX3_readCondition_94 ?_
          obtain ⟨M25, x26, qx26, h⟩ := b2E h
          refine mx_cVi [.int (a1 + 1)] [] 142 3 x26 dX3_readCondition_95 cl_X3_79 im_X3_readCondition cy_X3_readCondition oc_at_142 rfl (Nat.le_of_ble_eq_true rfl) (by omega) (h_X3_readCondition (a1 + 1) M24 qx26) ?_
          refine ex_istore_n (L2 := [some (.ref 142), some (.int a1), some (.int x1), some (.int x26), none]) dX3_readCondition_98 (by decide) rfl ?_
          refine ex_aload_n dX3_readCondition_99 rfl ?_
          refine mx_getr 3 143 dX3_readCondition_100 fl_X3_12 oc_at_142 (rf_3_1 oc_at_142) ?_
          refine ex_sipush 314 dX3_readCondition_103 kS_314 ?_
          refine ex_iconst 0 dX3_readCondition_106 kI_0 ?_
          obtain ⟨M27, qM27, h⟩ := b1E h
          refine mx_cVv [.int 314, .int 0] [] 143 2 dX3_readCondition_107 cl_X3_82 im_X2_addStep cy_X2_addStep (oc_3_1 oc_at_142) rfl (Nat.le_of_ble_eq_true rfl) (by omega) (t_X2_addStep l E 143 314 0 (oc_3_1 oc_at_142) M25 qM27) ?_
          refine ex_iload_n dX3_readCondition_110 rfl ?_
          obtain ⟨x28, qx28, h⟩ := b1E h
          obtain ⟨ex28, nx28⟩ := gzE qx28
          rw [← ex28] at h
          cases h
          exact mx_reti .boolean dX3_readCondition_111 ⟨rfl, nx28⟩
      · rw [if_pos c6] at h
        refine ex_aload_n dX3_readCondition_42 rfl ?_
        refine mx_getr 3 136 dX3_readCondition_43 fl_X3_18 oc_at_142 (rf_3_0 oc_at_142) ?_
        obtain ⟨M29, eM29, h⟩ := ltE h
        refine mx_cVv [] [] 136 9 dX3_readCondition_46 cl_X3_57 im_X9_take cy_X9_take (oc_3_0 oc_at_142) rfl (Nat.le_of_ble_eq_true rfl) (by omega) (t_X9_take l E M eM29.symm) ?_
        refine ex_aload_n dX3_readCondition_49 rfl ?_
        refine ex_iload_n dX3_readCondition_50 rfl ?_
        refine ex_iconst 1 dX3_readCondition_51 kI_1 ?_
        refine ex_iadd dX3_readCondition_52 ?_
        obtain ⟨M30, x31, qx31, h⟩ := b2E h
        refine mx_cVi [.int (a1 + 1)] [] 142 3 x31 dX3_readCondition_53 cl_X3_70 im_X3_readEither cy_X3_readEither oc_at_142 rfl (Nat.le_of_ble_eq_true rfl) (by omega) (h_X3_readEither (a1 + 1) M29 qx31) ?_
        refine ex_if_eq 75 dX3_readCondition_56 (by decide) (fun c32 => ?_) (fun c32 => ?_)
        · rw [if_pos c32] at h
          refine ex_iconst 0 dX3_readCondition_75 kI_0 ?_
          cases h
          exact mx_reti .boolean dX3_readCondition_76 ⟨rfl, by decide⟩
        · rw [if_neg c32] at h
          refine ex_aload_n dX3_readCondition_59 rfl ?_
          refine mx_getr 3 136 dX3_readCondition_60 fl_X3_18 oc_at_142 (rf_3_0 oc_at_142) ?_
          refine ex_bipush 41 dX3_readCondition_63 kB_41 ?_
          obtain ⟨M33, x34, qx34, h⟩ := b2E h
          refine mx_cVi [.int 41] [] 136 9 x34 dX3_readCondition_65 cl_X3_76 im_X9_takes cy_X9_takes (oc_3_0 oc_at_142) rfl (Nat.le_of_ble_eq_true rfl) (by omega) (t_X9_takes l E 41 M30 qx34) ?_
          refine ex_if_eq 75 dX3_readCondition_68 (by decide) (fun c35 => ?_) (fun c35 => ?_)
          · rw [if_pos c35] at h
            refine ex_iconst 0 dX3_readCondition_75 kI_0 ?_
            cases h
            exact mx_reti .boolean dX3_readCondition_76 ⟨rfl, by decide⟩
          · rw [if_neg c35] at h
            refine ex_iconst 1 dX3_readCondition_71 kI_1 ?_
            refine ex_goto 76 dX3_readCondition_72 (by decide) ?_
            cases h
            exact mx_reti .boolean dX3_readCondition_76 ⟨rfl, by decide⟩
    · rw [if_neg c5] at h
      refine ex_aload_n dX3_readCondition_27 rfl ?_
      refine mx_getr 3 136 dX3_readCondition_28 fl_X3_18 oc_at_142 (rf_3_0 oc_at_142) ?_
      refine ex_iconst 3 dX3_readCondition_31 kI_3 ?_
      obtain ⟨M36, x37, qx37, h⟩ := b2E h
      refine mx_cVi [.int 3] [] 136 9 x37 dX3_readCondition_32 cl_X3_50 im_X9_fails cy_X9_fails (oc_3_0 oc_at_142) rfl (Nat.le_of_ble_eq_true rfl) (by omega) (t_X9_fails l E 3 M qx37) ?_
      obtain ⟨x38, qx38, h⟩ := b1E h
      obtain ⟨ex38, nx38⟩ := gzE qx38
      rw [← ex38] at h
      cases h
      exact mx_reti .boolean dX3_readCondition_35 ⟨rfl, nx38⟩
  have JYC4 : ¬ ((x1 = 314 ∨ x1 = 40)) → XM l E (RX3, "readCondition", cX3_readCondition, 5) (some .boolean) (n + 4) 36 [some (.ref 142), some (.int a1), some (.int x1), none, none] [] M M' (some (.int r)) := fun C4 => by
    rw [if_neg C4] at h
    refine ex_iload_n dX3_readCondition_36 rfl ?_
    refine ex_bipush 40 dX3_readCondition_37 kB_40 ?_
    refine ex_icmp_ne 77 dX3_readCondition_39 (by decide) (fun c39 => ?_) (fun c39 => ?_)
    · rw [if_neg c39] at h
      refine ex_iload_n dX3_readCondition_77 rfl ?_
      refine ex_sipush 314 dX3_readCondition_78 kS_314 ?_
      refine ex_icmp_ne 112 dX3_readCondition_81 (by decide) (fun c40 => ?_) (fun c40 => ?_)
      · rw [if_neg c40] at h
        refine ex_aload_n dX3_readCondition_112 rfl ?_
        obtain ⟨M41, x42, qx42, h⟩ := b2E h
        refine mx_cVi [] [] 142 3 x42 dX3_readCondition_113 cl_X3_64 im_X3_readSum cy_X3_readSum oc_at_142 rfl (Nat.le_of_ble_eq_true rfl) (by omega) (t_X3_readSum l E M qx42) ?_
        refine ex_if_ne 121 dX3_readCondition_116 (by decide) (fun c43 => ?_) (fun c43 => ?_)
        · rw [if_neg c43] at h
          refine ex_aload_n dX3_readCondition_121 rfl ?_
          refine mx_getr 3 136 dX3_readCondition_122 fl_X3_18 oc_at_142 (rf_3_0 oc_at_142) ?_
          obtain ⟨x44, qx44, h⟩ := b1E h
          refine mx_cVi [] [] 136 9 x44 dX3_readCondition_125 cl_X3_42 im_X9_type cy_X9_type (oc_3_0 oc_at_142) rfl (Nat.le_of_ble_eq_true rfl) (by omega) (t_X9_type l E M41 qx44) ?_
          refine ex_istore_n (L2 := [some (.ref 142), some (.int a1), some (.int x1), some (.int x44), none]) dX3_readCondition_128 (by decide) rfl ?_
          refine ex_iload_n dX3_readCondition_129 rfl ?_
          refine ex_bipush 60 dX3_readCondition_130 kB_60 ?_
          have JXC48 : (x44 = 60 ∨ (x44 = 61 ∨ x44 = 62)) → XM l E (RX3, "readCondition", cX3_readCondition, 5) (some .boolean) (n + 4) 156 [some (.ref 142), some (.int a1), some (.int x1), some (.int x44), none] [] M41 M' (some (.int r)) := fun C48 => by
            rw [if_pos C48] at h
            refine ex_aload_n dX3_readCondition_156 rfl ?_
            refine mx_getr 3 136 dX3_readCondition_157 fl_X3_18 oc_at_142 (rf_3_0 oc_at_142) ?_
            obtain ⟨M49, eM49, h⟩ := ltE h
            refine mx_cVv [] [] 136 9 dX3_readCondition_160 cl_X3_57 im_X9_take cy_X9_take (oc_3_0 oc_at_142) rfl (Nat.le_of_ble_eq_true rfl) (by omega) (t_X9_take l E M41 eM49.symm) ?_
            refine ex_aload_n dX3_readCondition_163 rfl ?_
            obtain ⟨M50, x51, qx51, h⟩ := b2E h
            refine mx_cVi [] [] 142 3 x51 dX3_readCondition_164 cl_X3_64 im_X3_readSum cy_X3_readSum oc_at_142 rfl (Nat.le_of_ble_eq_true rfl) (by omega) (t_X3_readSum l E M49 qx51) ?_
            refine ex_istore (L2 := [some (.ref 142), some (.int a1), some (.int x1), some (.int x44), some (.int x51)]) dX3_readCondition_167 (by decide) rfl ?_
            refine ex_aload_n dX3_readCondition_169 rfl ?_
            refine mx_getr 3 143 dX3_readCondition_170 fl_X3_12 oc_at_142 (rf_3_1 oc_at_142) ?_
            refine ex_iload_n dX3_readCondition_173 rfl ?_
            refine ex_iconst 0 dX3_readCondition_174 kI_0 ?_
            obtain ⟨M52, qM52, h⟩ := b1E h
            refine mx_cVv [.int x44, .int 0] [] 143 2 dX3_readCondition_175 cl_X3_82 im_X2_addStep cy_X2_addStep (oc_3_1 oc_at_142) rfl (Nat.le_of_ble_eq_true rfl) (by omega) (t_X2_addStep l E 143 x44 0 (oc_3_1 oc_at_142) M50 qM52) ?_
            refine ex_iload dX3_readCondition_178 rfl ?_
            obtain ⟨x53, qx53, h⟩ := b1E h
            obtain ⟨ex53, nx53⟩ := gzE qx53
            rw [← ex53] at h
            cases h
            exact mx_reti .boolean dX3_readCondition_180 ⟨rfl, nx53⟩
          have JYC48 : ¬ ((x44 = 60 ∨ (x44 = 61 ∨ x44 = 62))) → XM l E (RX3, "readCondition", cX3_readCondition, 5) (some .boolean) (n + 4) 152 [some (.ref 142), some (.int a1), some (.int x1), some (.int x44), none] [.int 1, .ref 136] M41 M' (some (.int r)) := fun C48 => by
            rw [if_neg C48] at h
            obtain ⟨M54, x55, qx55, h⟩ := b2E h
            refine mx_cVi [.int 1] [] 136 9 x55 dX3_readCondition_152 cl_X3_50 im_X9_fails cy_X9_fails (oc_3_0 oc_at_142) rfl (Nat.le_of_ble_eq_true rfl) (by omega) (t_X9_fails l E 1 M41 qx55) ?_
            obtain ⟨x56, qx56, h⟩ := b1E h
            obtain ⟨ex56, nx56⟩ := gzE qx56
            rw [← ex56] at h
            cases h
            exact mx_reti .boolean dX3_readCondition_155 ⟨rfl, nx56⟩
          clear h
          refine ex_icmp_eq 156 dX3_readCondition_132 (by decide) (fun c45 => ?_) (fun c45 => ?_)
          · exact JXC48 (Or.inl c45)
          · refine ex_iload_n dX3_readCondition_135 rfl ?_
            refine ex_bipush 61 dX3_readCondition_136 kB_61 ?_
            refine ex_icmp_eq 156 dX3_readCondition_138 (by decide) (fun c46 => ?_) (fun c46 => ?_)
            · exact JXC48 (Or.inr (Or.inl c46))
            · refine ex_iload_n dX3_readCondition_141 rfl ?_
              refine ex_bipush 62 dX3_readCondition_142 kB_62 ?_
              refine ex_icmp_eq 156 dX3_readCondition_144 (by decide) (fun c47 => ?_) (fun c47 => ?_)
              · exact JXC48 (Or.inr (Or.inr c47))
              · refine ex_aload_n dX3_readCondition_147 rfl ?_
                refine mx_getr 3 136 dX3_readCondition_148 fl_X3_18 oc_at_142 (rf_3_0 oc_at_142) ?_
                refine ex_iconst 1 dX3_readCondition_151 kI_1 ?_
                exact JYC48 (fun z => z.elim c45 (fun z => z.elim c46 c47))
        · rw [if_pos c43] at h
          refine ex_iconst 0 dX3_readCondition_119 kI_0 ?_
          cases h
          exact mx_reti .boolean dX3_readCondition_120 ⟨rfl, by decide⟩
      · rw [if_pos c40] at h
        refine ex_aload_n dX3_readCondition_84 rfl ?_
        refine mx_getr 3 136 dX3_readCondition_85 fl_X3_18 oc_at_142 (rf_3_0 oc_at_142) ?_
        obtain ⟨M57, eM57, h⟩ := ltE h
        refine mx_cVv [] [] 136 9 dX3_readCondition_88 cl_X3_57 im_X9_take cy_X9_take (oc_3_0 oc_at_142) rfl (Nat.le_of_ble_eq_true rfl) (by omega) (t_X9_take l E M eM57.symm) ?_
        refine ex_aload_n dX3_readCondition_91 rfl ?_
        refine ex_iload_n dX3_readCondition_92 rfl ?_
        refine ex_iconst 1 dX3_readCondition_93 kI_1 ?_
        refine ex_iadd dX3_readCondition_94 ?_
        obtain ⟨M58, x59, qx59, h⟩ := b2E h
        refine mx_cVi [.int (a1 + 1)] [] 142 3 x59 dX3_readCondition_95 cl_X3_79 im_X3_readCondition cy_X3_readCondition oc_at_142 rfl (Nat.le_of_ble_eq_true rfl) (by omega) (h_X3_readCondition (a1 + 1) M57 qx59) ?_
        refine ex_istore_n (L2 := [some (.ref 142), some (.int a1), some (.int x1), some (.int x59), none]) dX3_readCondition_98 (by decide) rfl ?_
        refine ex_aload_n dX3_readCondition_99 rfl ?_
        refine mx_getr 3 143 dX3_readCondition_100 fl_X3_12 oc_at_142 (rf_3_1 oc_at_142) ?_
        refine ex_sipush 314 dX3_readCondition_103 kS_314 ?_
        refine ex_iconst 0 dX3_readCondition_106 kI_0 ?_
        obtain ⟨M60, qM60, h⟩ := b1E h
        refine mx_cVv [.int 314, .int 0] [] 143 2 dX3_readCondition_107 cl_X3_82 im_X2_addStep cy_X2_addStep (oc_3_1 oc_at_142) rfl (Nat.le_of_ble_eq_true rfl) (by omega) (t_X2_addStep l E 143 314 0 (oc_3_1 oc_at_142) M58 qM60) ?_
        refine ex_iload_n dX3_readCondition_110 rfl ?_
        obtain ⟨x61, qx61, h⟩ := b1E h
        obtain ⟨ex61, nx61⟩ := gzE qx61
        rw [← ex61] at h
        cases h
        exact mx_reti .boolean dX3_readCondition_111 ⟨rfl, nx61⟩
    · rw [if_pos c39] at h
      refine ex_aload_n dX3_readCondition_42 rfl ?_
      refine mx_getr 3 136 dX3_readCondition_43 fl_X3_18 oc_at_142 (rf_3_0 oc_at_142) ?_
      obtain ⟨M62, eM62, h⟩ := ltE h
      refine mx_cVv [] [] 136 9 dX3_readCondition_46 cl_X3_57 im_X9_take cy_X9_take (oc_3_0 oc_at_142) rfl (Nat.le_of_ble_eq_true rfl) (by omega) (t_X9_take l E M eM62.symm) ?_
      refine ex_aload_n dX3_readCondition_49 rfl ?_
      refine ex_iload_n dX3_readCondition_50 rfl ?_
      refine ex_iconst 1 dX3_readCondition_51 kI_1 ?_
      refine ex_iadd dX3_readCondition_52 ?_
      obtain ⟨M63, x64, qx64, h⟩ := b2E h
      refine mx_cVi [.int (a1 + 1)] [] 142 3 x64 dX3_readCondition_53 cl_X3_70 im_X3_readEither cy_X3_readEither oc_at_142 rfl (Nat.le_of_ble_eq_true rfl) (by omega) (h_X3_readEither (a1 + 1) M62 qx64) ?_
      refine ex_if_eq 75 dX3_readCondition_56 (by decide) (fun c65 => ?_) (fun c65 => ?_)
      · rw [if_pos c65] at h
        refine ex_iconst 0 dX3_readCondition_75 kI_0 ?_
        cases h
        exact mx_reti .boolean dX3_readCondition_76 ⟨rfl, by decide⟩
      · rw [if_neg c65] at h
        refine ex_aload_n dX3_readCondition_59 rfl ?_
        refine mx_getr 3 136 dX3_readCondition_60 fl_X3_18 oc_at_142 (rf_3_0 oc_at_142) ?_
        refine ex_bipush 41 dX3_readCondition_63 kB_41 ?_
        obtain ⟨M66, x67, qx67, h⟩ := b2E h
        refine mx_cVi [.int 41] [] 136 9 x67 dX3_readCondition_65 cl_X3_76 im_X9_takes cy_X9_takes (oc_3_0 oc_at_142) rfl (Nat.le_of_ble_eq_true rfl) (by omega) (t_X9_takes l E 41 M63 qx67) ?_
        refine ex_if_eq 75 dX3_readCondition_68 (by decide) (fun c68 => ?_) (fun c68 => ?_)
        · rw [if_pos c68] at h
          refine ex_iconst 0 dX3_readCondition_75 kI_0 ?_
          cases h
          exact mx_reti .boolean dX3_readCondition_76 ⟨rfl, by decide⟩
        · rw [if_neg c68] at h
          refine ex_iconst 1 dX3_readCondition_71 kI_1 ?_
          refine ex_goto 76 dX3_readCondition_72 (by decide) ?_
          cases h
          exact mx_reti .boolean dX3_readCondition_76 ⟨rfl, by decide⟩
  clear h
  refine ex_icmp_eq 21 dX3_readCondition_12 (by decide) (fun c2 => ?_) (fun c2 => ?_)
  · exact JXC4 (Or.inl c2)
  · refine ex_iload_n dX3_readCondition_15 rfl ?_
    refine ex_bipush 40 dX3_readCondition_16 kB_40 ?_
    refine ex_icmp_ne 36 dX3_readCondition_18 (by decide) (fun c3 => ?_) (fun c3 => ?_)
    · exact JYC4 (fun z => z.elim c2 c3)
    · exact JXC4 (Or.inr c3)
def w_X3_readEither_24 (r_X3_readCondition : Int32 → Mem → Option (Mem × Int32)) (a1 : Int32) (i8 : Int32) (M9 : Mem) : Option ((Int32 × Mem) ⊕ ((Mem) ⊕ (Mem))) :=
  if 400 ≤ i8 then (some (.inr (.inr M9))) else (b1 (f_X9_type M9) fun x11 => if x11 = 313 then (lt (f_X9_take M9) fun M13 => b2 (r_X3_readCondition a1 M13) fun M14 x15 => if x15 = 0 then (some (.inr (.inl M14))) else (b1 (f_X2_addStep 143 313 0 M14) fun M17 => some (.inl ((i8 + 1), M17)))) else (some (.inr (.inr M9))))
def w_X3_readEither_4 (r_X3_readCondition : Int32 → Mem → Option (Mem × Int32)) (a1 : Int32) (i1 : Int32) (i2 : Int32) (M3 : Mem) : Option ((Int32 × Int32 × Mem) ⊕ ((Mem) ⊕ (Mem) ⊕ (Mem) ⊕ (Mem))) :=
  if 400 ≤ i2 then (some (.inr (.inr (.inr (.inr M3))))) else (b2 (r_X3_readCondition a1 M3) fun M5 x6 => if x6 = 0 then (some (.inr (.inl M5))) else (b1 (lp (fun s => w_X3_readEither_24 r_X3_readCondition a1 s.1 s.2) FU (0, M5)) fun q18 => match q18 with | .inl u19 => (some (.inr (.inr (.inl u19)))) | .inr u20 => (if i1 = 0 then (b1 (f_X9_type u20) fun x22 => if x22 = 312 then (lt (f_X9_take u20) fun M24 => some (.inl (1, (i2 + 1), M24))) else (some (.inr (.inr (.inr (.inl u20)))))) else (b1 (f_X2_addStep 143 312 0 u20) fun M25 => b1 (f_X9_type M25) fun x26 => if x26 = 312 then (lt (f_X9_take M25) fun M28 => some (.inl (1, (i2 + 1), M28))) else (some (.inr (.inr (.inr (.inl M25)))))))))
def F_X3_readEither (r_X3_readCondition : Int32 → Mem → Option (Mem × Int32)) (r_X3_readEither : Int32 → Mem → Option (Mem × Int32)) (a1 : Int32) (M : Mem) : Option (Mem × Int32) :=
  b1 (lp (fun s => w_X3_readEither_4 r_X3_readCondition a1 s.1 s.2.1 s.2.2) FU (0, 0, M)) fun q29 => match q29 with | .inl u30 => (some (u30, 0)) | .inr u34 => (match u34 with | .inl u31 => (some (u31, 0)) | .inr u35 => (match u35 with | .inl u32 => (some (u32, 1)) | .inr u33 => (some (u33, 1))))
set_option maxRecDepth 100000 in
set_option maxHeartbeats 4000000 in
theorem T_X3_readEither (l : Launch) (E : EV) (n : Nat) (r_X3_readCondition : Int32 → Mem → Option (Mem × Int32)) (r_X3_readEither : Int32 → Mem → Option (Mem × Int32)) (h_X3_readCondition : ∀ (a1 : Int32) (M : Mem) {M' : Mem} {r : Int32}, r_X3_readCondition a1 M = some (M', r) → RunM l E yX3_readCondition cX3_readCondition 5 (some .boolean) (n + 3) [.ref 142, .int a1] M M' (some (.int r))) (h_X3_readEither : ∀ (a1 : Int32) (M : Mem) {M' : Mem} {r : Int32}, r_X3_readEither a1 M = some (M', r) → RunM l E yX3_readEither cX3_readEither 5 (some .boolean) (n + 3) [.ref 142, .int a1] M M' (some (.int r))) (a1 : Int32) (M : Mem) {M' : Mem} {r : Int32} (h : F_X3_readEither r_X3_readCondition r_X3_readEither a1 M = some (M', r)) : RunM l E yX3_readEither cX3_readEither 5 (some .boolean) (n + 4) [.ref 142, .int a1] M M' (some (.int r)) := by
  refine RunM.of (by decide) (Nat.le_of_ble_eq_true rfl) ?_
  show XM l E (RX3, "readEither", cX3_readEither, 5) (some .boolean) (n + 4) 0 [some (.ref 142), some (.int a1), none, none, none] [] M M' (some (.int r))
  unfold F_X3_readEither at h
  refine ex_iconst 0 dX3_readEither_0 kI_0 ?_
  refine ex_istore_n (L2 := [some (.ref 142), some (.int a1), some (.int 0), none, none]) dX3_readEither_1 (by decide) rfl ?_
  refine ex_iconst 0 dX3_readEither_2 kI_0 ?_
  refine ex_istore_n (L2 := [some (.ref 142), some (.int a1), some (.int 0), some (.int 0), none]) dX3_readEither_3 (by decide) rfl ?_
  refine ex_mskL [true, true, true, true, false] (L2 := [some (.ref 142), some (.int a1), some (.int 0), some (.int 0), none]) rfl ?_
  obtain ⟨q29, hlq29, h⟩ := b1E h
  rcases q29 with u30 | u31 | u32 | u33
  · dsimp only at h
    have hx : XM l E (RX3, "readEither", cX3_readEither, 5) (some .boolean) (n + 4) 19 [none, none, none, none, none] [] u30 M' (some (.int r)) := by
      refine ex_iconst 0 dX3_readEither_19 kI_0 ?_
      cases h
      exact mx_reti .boolean dX3_readEither_20 ⟨rfl, by decide⟩
    clear h
    have key : ∀ (k : Nat) (s : Int32 × Int32 × Mem), lp (fun s => w_X3_readEither_4 r_X3_readCondition a1 s.1 s.2.1 s.2.2) k s = some (.inl u30) → XM l E (RX3, "readEither", cX3_readEither, 5) (some .boolean) (n + 4) 4 [some (.ref 142), some (.int a1), some (.int s.1), some (.int s.2.1), none] [] s.2.2 M' (some (.int r)) := lp_ind (P := fun (s : Int32 × Int32 × Mem) => XM l E (RX3, "readEither", cX3_readEither, 5) (some .boolean) (n + 4) 4 [some (.ref 142), some (.int a1), some (.int s.1), some (.int s.2.1), none] [] s.2.2 M' (some (.int r))) (fun s t hb hk he => by
      obtain ⟨i1, i2, M3⟩ := s
      show XM l E (RX3, "readEither", cX3_readEither, 5) (some .boolean) (n + 4) 4 [some (.ref 142), some (.int a1), some (.int i1), some (.int i2), none] [] M3 M' (some (.int r))
      change w_X3_readEither_4 r_X3_readCondition a1 i1 i2 M3 = some t at hb
      unfold w_X3_readEither_4 at hb
      refine ex_iload_n dX3_readEither_4 rfl ?_
      refine ex_sipush 400 dX3_readEither_5 kS_400 ?_
      refine ex_icmp_ge 124 dX3_readEither_8 (by decide) (fun c4 => ?_) (fun c4 => ?_)
      · rw [if_pos c4] at hb
        refine ex_mskL [false, false, false, false, false] (L2 := [none, none, none, none, none]) rfl ?_
        cases hb
        cases (he _ rfl) <;> exact hx
      · rw [if_neg c4] at hb
        refine ex_aload_n dX3_readEither_11 rfl ?_
        refine ex_iload_n dX3_readEither_12 rfl ?_
        obtain ⟨M5, x6, qx6, hb⟩ := b2E hb
        refine mx_cVi [.int a1] [] 142 3 x6 dX3_readEither_13 cl_X3_79 im_X3_readCondition cy_X3_readCondition oc_at_142 rfl (Nat.le_of_ble_eq_true rfl) (by omega) (h_X3_readCondition a1 M3 qx6) ?_
        refine ex_if_ne 21 dX3_readEither_16 (by decide) (fun c7 => ?_) (fun c7 => ?_)
        · rw [if_neg c7] at hb
          refine ex_iconst 0 dX3_readEither_21 kI_0 ?_
          refine ex_istore (L2 := [some (.ref 142), some (.int a1), some (.int i1), some (.int i2), some (.int 0)]) dX3_readEither_22 (by decide) rfl ?_
          refine ex_mskL [true, true, true, true, true] (L2 := [some (.ref 142), some (.int a1), some (.int i1), some (.int i2), some (.int 0)]) rfl ?_
          obtain ⟨q18, hlq18, hb⟩ := b1E hb
          rcases q18 with u19 | u20
          · dsimp only at hb
            have hx : XM l E (RX3, "readEither", cX3_readEither, 5) (some .boolean) (n + 4) 60 [none, none, none, none, none] [] u19 M' (some (.int r)) := by
              refine ex_mskL [false, false, false, false, false] (L2 := [none, none, none, none, none]) rfl ?_
              cases hb
              cases (he _ rfl) <;> exact hx
            clear hb
            have key : ∀ (k : Nat) (s : Int32 × Mem), lp (fun s => w_X3_readEither_24 r_X3_readCondition a1 s.1 s.2) k s = some (.inl u19) → XM l E (RX3, "readEither", cX3_readEither, 5) (some .boolean) (n + 4) 24 [some (.ref 142), some (.int a1), some (.int i1), some (.int i2), some (.int s.1)] [] s.2 M' (some (.int r)) := lp_ind (P := fun (s : Int32 × Mem) => XM l E (RX3, "readEither", cX3_readEither, 5) (some .boolean) (n + 4) 24 [some (.ref 142), some (.int a1), some (.int i1), some (.int i2), some (.int s.1)] [] s.2 M' (some (.int r))) (fun s t hb hk he => by
              obtain ⟨i8, M9⟩ := s
              show XM l E (RX3, "readEither", cX3_readEither, 5) (some .boolean) (n + 4) 24 [some (.ref 142), some (.int a1), some (.int i1), some (.int i2), some (.int i8)] [] M9 M' (some (.int r))
              change w_X3_readEither_24 r_X3_readCondition a1 i8 M9 = some t at hb
              unfold w_X3_readEither_24 at hb
              refine ex_iload dX3_readEither_24 rfl ?_
              refine ex_sipush 400 dX3_readEither_26 kS_400 ?_
              refine ex_icmp_ge 79 dX3_readEither_29 (by decide) (fun c10 => ?_) (fun c10 => ?_)
              · rw [if_pos c10] at hb
                refine ex_mskL [true, true, true, true, false] (L2 := [some (.ref 142), some (.int a1), some (.int i1), some (.int i2), none]) rfl ?_
                cases hb
                cases (he _ rfl) <;> exact hx
              · rw [if_neg c10] at hb
                refine ex_aload_n dX3_readEither_32 rfl ?_
                refine mx_getr 3 136 dX3_readEither_33 fl_X3_18 oc_at_142 (rf_3_0 oc_at_142) ?_
                obtain ⟨x11, qx11, hb⟩ := b1E hb
                refine mx_cVi [] [] 136 9 x11 dX3_readEither_36 cl_X3_42 im_X9_type cy_X9_type (oc_3_0 oc_at_142) rfl (Nat.le_of_ble_eq_true rfl) (by omega) (t_X9_type l E M9 qx11) ?_
                refine ex_sipush 313 dX3_readEither_39 kS_313 ?_
                refine ex_icmp_ne 79 dX3_readEither_42 (by decide) (fun c12 => ?_) (fun c12 => ?_)
                · rw [if_neg c12] at hb
                  refine ex_mskL [true, true, true, true, false] (L2 := [some (.ref 142), some (.int a1), some (.int i1), some (.int i2), none]) rfl ?_
                  cases hb
                  cases (he _ rfl) <;> exact hx
                · rw [if_pos c12] at hb
                  refine ex_aload_n dX3_readEither_45 rfl ?_
                  refine mx_getr 3 136 dX3_readEither_46 fl_X3_18 oc_at_142 (rf_3_0 oc_at_142) ?_
                  obtain ⟨M13, eM13, hb⟩ := ltE hb
                  refine mx_cVv [] [] 136 9 dX3_readEither_49 cl_X3_57 im_X9_take cy_X9_take (oc_3_0 oc_at_142) rfl (Nat.le_of_ble_eq_true rfl) (by omega) (t_X9_take l E M9 eM13.symm) ?_
                  refine ex_aload_n dX3_readEither_52 rfl ?_
                  refine ex_iload_n dX3_readEither_53 rfl ?_
                  obtain ⟨M14, x15, qx15, hb⟩ := b2E hb
                  refine mx_cVi [.int a1] [] 142 3 x15 dX3_readEither_54 cl_X3_79 im_X3_readCondition cy_X3_readCondition oc_at_142 rfl (Nat.le_of_ble_eq_true rfl) (by omega) (h_X3_readCondition a1 M13 qx15) ?_
                  refine ex_if_ne 62 dX3_readEither_57 (by decide) (fun c16 => ?_) (fun c16 => ?_)
                  · rw [if_neg c16] at hb
                    refine ex_aload_n dX3_readEither_62 rfl ?_
                    refine mx_getr 3 143 dX3_readEither_63 fl_X3_12 oc_at_142 (rf_3_1 oc_at_142) ?_
                    refine ex_sipush 313 dX3_readEither_66 kS_313 ?_
                    refine ex_iconst 0 dX3_readEither_69 kI_0 ?_
                    obtain ⟨M17, qM17, hb⟩ := b1E hb
                    refine mx_cVv [.int 313, .int 0] [] 143 2 dX3_readEither_70 cl_X3_82 im_X2_addStep cy_X2_addStep (oc_3_1 oc_at_142) rfl (Nat.le_of_ble_eq_true rfl) (by omega) (t_X2_addStep l E 143 313 0 (oc_3_1 oc_at_142) M14 qM17) ?_
                    refine ex_iinc 1 (L2 := [some (.ref 142), some (.int a1), some (.int i1), some (.int i2), some (.int (i8 + 1))]) dX3_readEither_73 rfl kI_1 (by decide) rfl ?_
                    refine ex_goto 24 dX3_readEither_76 (by decide) ?_
                    refine ex_mskL [true, true, true, true, true] (L2 := [some (.ref 142), some (.int a1), some (.int i1), some (.int i2), some (.int (i8 + 1))]) rfl ?_
                    cases hb
                    exact hk ((i8 + 1), M17) rfl
                  · rw [if_pos c16] at hb
                    refine ex_mskL [false, false, false, false, false] (L2 := [none, none, none, none, none]) rfl ?_
                    cases hb
                    cases (he _ rfl) <;> exact hx)
            exact key FU (0, M5) hlq18
          · dsimp only at hb
            have hx : XM l E (RX3, "readEither", cX3_readEither, 5) (some .boolean) (n + 4) 79 [some (.ref 142), some (.int a1), some (.int i1), some (.int i2), none] [] u20 M' (some (.int r)) := by
              refine ex_iload_n dX3_readEither_79 rfl ?_
              refine ex_if_eq 94 dX3_readEither_80 (by decide) (fun c21 => ?_) (fun c21 => ?_)
              · rw [if_pos c21] at hb
                refine ex_aload_n dX3_readEither_94 rfl ?_
                refine mx_getr 3 136 dX3_readEither_95 fl_X3_18 oc_at_142 (rf_3_0 oc_at_142) ?_
                obtain ⟨x22, qx22, hb⟩ := b1E hb
                refine mx_cVi [] [] 136 9 x22 dX3_readEither_98 cl_X3_42 im_X9_type cy_X9_type (oc_3_0 oc_at_142) rfl (Nat.le_of_ble_eq_true rfl) (by omega) (t_X9_type l E u20 qx22) ?_
                refine ex_sipush 312 dX3_readEither_101 kS_312 ?_
                refine ex_icmp_eq 109 dX3_readEither_104 (by decide) (fun c23 => ?_) (fun c23 => ?_)
                · rw [if_pos c23] at hb
                  refine ex_aload_n dX3_readEither_109 rfl ?_
                  refine mx_getr 3 136 dX3_readEither_110 fl_X3_18 oc_at_142 (rf_3_0 oc_at_142) ?_
                  obtain ⟨M24, eM24, hb⟩ := ltE hb
                  refine mx_cVv [] [] 136 9 dX3_readEither_113 cl_X3_57 im_X9_take cy_X9_take (oc_3_0 oc_at_142) rfl (Nat.le_of_ble_eq_true rfl) (by omega) (t_X9_take l E u20 eM24.symm) ?_
                  refine ex_iconst 1 dX3_readEither_116 kI_1 ?_
                  refine ex_istore_n (L2 := [some (.ref 142), some (.int a1), some (.int 1), some (.int i2), none]) dX3_readEither_117 (by decide) rfl ?_
                  refine ex_iinc 1 (L2 := [some (.ref 142), some (.int a1), some (.int 1), some (.int (i2 + 1)), none]) dX3_readEither_118 rfl kI_1 (by decide) rfl ?_
                  refine ex_goto 4 dX3_readEither_121 (by decide) ?_
                  refine ex_mskL [true, true, true, true, false] (L2 := [some (.ref 142), some (.int a1), some (.int 1), some (.int (i2 + 1)), none]) rfl ?_
                  cases hb
                  exact hk (1, (i2 + 1), M24) rfl
                · rw [if_neg c23] at hb
                  refine ex_mskL [false, false, false, false, false] (L2 := [none, none, none, none, none]) rfl ?_
                  cases hb
                  cases (he _ rfl) <;> exact hx
              · rw [if_neg c21] at hb
                refine ex_aload_n dX3_readEither_83 rfl ?_
                refine mx_getr 3 143 dX3_readEither_84 fl_X3_12 oc_at_142 (rf_3_1 oc_at_142) ?_
                refine ex_sipush 312 dX3_readEither_87 kS_312 ?_
                refine ex_iconst 0 dX3_readEither_90 kI_0 ?_
                obtain ⟨M25, qM25, hb⟩ := b1E hb
                refine mx_cVv [.int 312, .int 0] [] 143 2 dX3_readEither_91 cl_X3_82 im_X2_addStep cy_X2_addStep (oc_3_1 oc_at_142) rfl (Nat.le_of_ble_eq_true rfl) (by omega) (t_X2_addStep l E 143 312 0 (oc_3_1 oc_at_142) u20 qM25) ?_
                refine ex_aload_n dX3_readEither_94 rfl ?_
                refine mx_getr 3 136 dX3_readEither_95 fl_X3_18 oc_at_142 (rf_3_0 oc_at_142) ?_
                obtain ⟨x26, qx26, hb⟩ := b1E hb
                refine mx_cVi [] [] 136 9 x26 dX3_readEither_98 cl_X3_42 im_X9_type cy_X9_type (oc_3_0 oc_at_142) rfl (Nat.le_of_ble_eq_true rfl) (by omega) (t_X9_type l E M25 qx26) ?_
                refine ex_sipush 312 dX3_readEither_101 kS_312 ?_
                refine ex_icmp_eq 109 dX3_readEither_104 (by decide) (fun c27 => ?_) (fun c27 => ?_)
                · rw [if_pos c27] at hb
                  refine ex_aload_n dX3_readEither_109 rfl ?_
                  refine mx_getr 3 136 dX3_readEither_110 fl_X3_18 oc_at_142 (rf_3_0 oc_at_142) ?_
                  obtain ⟨M28, eM28, hb⟩ := ltE hb
                  refine mx_cVv [] [] 136 9 dX3_readEither_113 cl_X3_57 im_X9_take cy_X9_take (oc_3_0 oc_at_142) rfl (Nat.le_of_ble_eq_true rfl) (by omega) (t_X9_take l E M25 eM28.symm) ?_
                  refine ex_iconst 1 dX3_readEither_116 kI_1 ?_
                  refine ex_istore_n (L2 := [some (.ref 142), some (.int a1), some (.int 1), some (.int i2), none]) dX3_readEither_117 (by decide) rfl ?_
                  refine ex_iinc 1 (L2 := [some (.ref 142), some (.int a1), some (.int 1), some (.int (i2 + 1)), none]) dX3_readEither_118 rfl kI_1 (by decide) rfl ?_
                  refine ex_goto 4 dX3_readEither_121 (by decide) ?_
                  refine ex_mskL [true, true, true, true, false] (L2 := [some (.ref 142), some (.int a1), some (.int 1), some (.int (i2 + 1)), none]) rfl ?_
                  cases hb
                  exact hk (1, (i2 + 1), M28) rfl
                · rw [if_neg c27] at hb
                  refine ex_mskL [false, false, false, false, false] (L2 := [none, none, none, none, none]) rfl ?_
                  cases hb
                  cases (he _ rfl) <;> exact hx
            clear hb
            have key : ∀ (k : Nat) (s : Int32 × Mem), lp (fun s => w_X3_readEither_24 r_X3_readCondition a1 s.1 s.2) k s = some (.inr u20) → XM l E (RX3, "readEither", cX3_readEither, 5) (some .boolean) (n + 4) 24 [some (.ref 142), some (.int a1), some (.int i1), some (.int i2), some (.int s.1)] [] s.2 M' (some (.int r)) := lp_ind (P := fun (s : Int32 × Mem) => XM l E (RX3, "readEither", cX3_readEither, 5) (some .boolean) (n + 4) 24 [some (.ref 142), some (.int a1), some (.int i1), some (.int i2), some (.int s.1)] [] s.2 M' (some (.int r))) (fun s t hb hk he => by
              obtain ⟨i8, M9⟩ := s
              show XM l E (RX3, "readEither", cX3_readEither, 5) (some .boolean) (n + 4) 24 [some (.ref 142), some (.int a1), some (.int i1), some (.int i2), some (.int i8)] [] M9 M' (some (.int r))
              change w_X3_readEither_24 r_X3_readCondition a1 i8 M9 = some t at hb
              unfold w_X3_readEither_24 at hb
              refine ex_iload dX3_readEither_24 rfl ?_
              refine ex_sipush 400 dX3_readEither_26 kS_400 ?_
              refine ex_icmp_ge 79 dX3_readEither_29 (by decide) (fun c10 => ?_) (fun c10 => ?_)
              · rw [if_pos c10] at hb
                refine ex_mskL [true, true, true, true, false] (L2 := [some (.ref 142), some (.int a1), some (.int i1), some (.int i2), none]) rfl ?_
                cases hb
                cases (he _ rfl) <;> exact hx
              · rw [if_neg c10] at hb
                refine ex_aload_n dX3_readEither_32 rfl ?_
                refine mx_getr 3 136 dX3_readEither_33 fl_X3_18 oc_at_142 (rf_3_0 oc_at_142) ?_
                obtain ⟨x11, qx11, hb⟩ := b1E hb
                refine mx_cVi [] [] 136 9 x11 dX3_readEither_36 cl_X3_42 im_X9_type cy_X9_type (oc_3_0 oc_at_142) rfl (Nat.le_of_ble_eq_true rfl) (by omega) (t_X9_type l E M9 qx11) ?_
                refine ex_sipush 313 dX3_readEither_39 kS_313 ?_
                refine ex_icmp_ne 79 dX3_readEither_42 (by decide) (fun c12 => ?_) (fun c12 => ?_)
                · rw [if_neg c12] at hb
                  refine ex_mskL [true, true, true, true, false] (L2 := [some (.ref 142), some (.int a1), some (.int i1), some (.int i2), none]) rfl ?_
                  cases hb
                  cases (he _ rfl) <;> exact hx
                · rw [if_pos c12] at hb
                  refine ex_aload_n dX3_readEither_45 rfl ?_
                  refine mx_getr 3 136 dX3_readEither_46 fl_X3_18 oc_at_142 (rf_3_0 oc_at_142) ?_
                  obtain ⟨M13, eM13, hb⟩ := ltE hb
                  refine mx_cVv [] [] 136 9 dX3_readEither_49 cl_X3_57 im_X9_take cy_X9_take (oc_3_0 oc_at_142) rfl (Nat.le_of_ble_eq_true rfl) (by omega) (t_X9_take l E M9 eM13.symm) ?_
                  refine ex_aload_n dX3_readEither_52 rfl ?_
                  refine ex_iload_n dX3_readEither_53 rfl ?_
                  obtain ⟨M14, x15, qx15, hb⟩ := b2E hb
                  refine mx_cVi [.int a1] [] 142 3 x15 dX3_readEither_54 cl_X3_79 im_X3_readCondition cy_X3_readCondition oc_at_142 rfl (Nat.le_of_ble_eq_true rfl) (by omega) (h_X3_readCondition a1 M13 qx15) ?_
                  refine ex_if_ne 62 dX3_readEither_57 (by decide) (fun c16 => ?_) (fun c16 => ?_)
                  · rw [if_neg c16] at hb
                    refine ex_aload_n dX3_readEither_62 rfl ?_
                    refine mx_getr 3 143 dX3_readEither_63 fl_X3_12 oc_at_142 (rf_3_1 oc_at_142) ?_
                    refine ex_sipush 313 dX3_readEither_66 kS_313 ?_
                    refine ex_iconst 0 dX3_readEither_69 kI_0 ?_
                    obtain ⟨M17, qM17, hb⟩ := b1E hb
                    refine mx_cVv [.int 313, .int 0] [] 143 2 dX3_readEither_70 cl_X3_82 im_X2_addStep cy_X2_addStep (oc_3_1 oc_at_142) rfl (Nat.le_of_ble_eq_true rfl) (by omega) (t_X2_addStep l E 143 313 0 (oc_3_1 oc_at_142) M14 qM17) ?_
                    refine ex_iinc 1 (L2 := [some (.ref 142), some (.int a1), some (.int i1), some (.int i2), some (.int (i8 + 1))]) dX3_readEither_73 rfl kI_1 (by decide) rfl ?_
                    refine ex_goto 24 dX3_readEither_76 (by decide) ?_
                    refine ex_mskL [true, true, true, true, true] (L2 := [some (.ref 142), some (.int a1), some (.int i1), some (.int i2), some (.int (i8 + 1))]) rfl ?_
                    cases hb
                    exact hk ((i8 + 1), M17) rfl
                  · rw [if_pos c16] at hb
                    refine ex_mskL [false, false, false, false, false] (L2 := [none, none, none, none, none]) rfl ?_
                    cases hb
                    cases (he _ rfl) <;> exact hx)
            exact key FU (0, M5) hlq18
        · rw [if_pos c7] at hb
          refine ex_mskL [false, false, false, false, false] (L2 := [none, none, none, none, none]) rfl ?_
          cases hb
          cases (he _ rfl) <;> exact hx)
    exact key FU (0, 0, M) hlq29
  · dsimp only at h
    have hx : XM l E (RX3, "readEither", cX3_readEither, 5) (some .boolean) (n + 4) 60 [none, none, none, none, none] [] u31 M' (some (.int r)) := by
      refine ex_iconst 0 dX3_readEither_60 kI_0 ?_
      cases h
      exact mx_reti .boolean dX3_readEither_61 ⟨rfl, by decide⟩
    clear h
    have key : ∀ (k : Nat) (s : Int32 × Int32 × Mem), lp (fun s => w_X3_readEither_4 r_X3_readCondition a1 s.1 s.2.1 s.2.2) k s = some (.inr (.inl u31)) → XM l E (RX3, "readEither", cX3_readEither, 5) (some .boolean) (n + 4) 4 [some (.ref 142), some (.int a1), some (.int s.1), some (.int s.2.1), none] [] s.2.2 M' (some (.int r)) := lp_ind (P := fun (s : Int32 × Int32 × Mem) => XM l E (RX3, "readEither", cX3_readEither, 5) (some .boolean) (n + 4) 4 [some (.ref 142), some (.int a1), some (.int s.1), some (.int s.2.1), none] [] s.2.2 M' (some (.int r))) (fun s t hb hk he => by
      obtain ⟨i1, i2, M3⟩ := s
      show XM l E (RX3, "readEither", cX3_readEither, 5) (some .boolean) (n + 4) 4 [some (.ref 142), some (.int a1), some (.int i1), some (.int i2), none] [] M3 M' (some (.int r))
      change w_X3_readEither_4 r_X3_readCondition a1 i1 i2 M3 = some t at hb
      unfold w_X3_readEither_4 at hb
      refine ex_iload_n dX3_readEither_4 rfl ?_
      refine ex_sipush 400 dX3_readEither_5 kS_400 ?_
      refine ex_icmp_ge 124 dX3_readEither_8 (by decide) (fun c4 => ?_) (fun c4 => ?_)
      · rw [if_pos c4] at hb
        refine ex_mskL [false, false, false, false, false] (L2 := [none, none, none, none, none]) rfl ?_
        cases hb
        cases (he _ rfl) <;> exact hx
      · rw [if_neg c4] at hb
        refine ex_aload_n dX3_readEither_11 rfl ?_
        refine ex_iload_n dX3_readEither_12 rfl ?_
        obtain ⟨M5, x6, qx6, hb⟩ := b2E hb
        refine mx_cVi [.int a1] [] 142 3 x6 dX3_readEither_13 cl_X3_79 im_X3_readCondition cy_X3_readCondition oc_at_142 rfl (Nat.le_of_ble_eq_true rfl) (by omega) (h_X3_readCondition a1 M3 qx6) ?_
        refine ex_if_ne 21 dX3_readEither_16 (by decide) (fun c7 => ?_) (fun c7 => ?_)
        · rw [if_neg c7] at hb
          refine ex_iconst 0 dX3_readEither_21 kI_0 ?_
          refine ex_istore (L2 := [some (.ref 142), some (.int a1), some (.int i1), some (.int i2), some (.int 0)]) dX3_readEither_22 (by decide) rfl ?_
          refine ex_mskL [true, true, true, true, true] (L2 := [some (.ref 142), some (.int a1), some (.int i1), some (.int i2), some (.int 0)]) rfl ?_
          obtain ⟨q18, hlq18, hb⟩ := b1E hb
          rcases q18 with u19 | u20
          · dsimp only at hb
            have hx : XM l E (RX3, "readEither", cX3_readEither, 5) (some .boolean) (n + 4) 60 [none, none, none, none, none] [] u19 M' (some (.int r)) := by
              refine ex_mskL [false, false, false, false, false] (L2 := [none, none, none, none, none]) rfl ?_
              cases hb
              cases (he _ rfl) <;> exact hx
            clear hb
            have key : ∀ (k : Nat) (s : Int32 × Mem), lp (fun s => w_X3_readEither_24 r_X3_readCondition a1 s.1 s.2) k s = some (.inl u19) → XM l E (RX3, "readEither", cX3_readEither, 5) (some .boolean) (n + 4) 24 [some (.ref 142), some (.int a1), some (.int i1), some (.int i2), some (.int s.1)] [] s.2 M' (some (.int r)) := lp_ind (P := fun (s : Int32 × Mem) => XM l E (RX3, "readEither", cX3_readEither, 5) (some .boolean) (n + 4) 24 [some (.ref 142), some (.int a1), some (.int i1), some (.int i2), some (.int s.1)] [] s.2 M' (some (.int r))) (fun s t hb hk he => by
              obtain ⟨i8, M9⟩ := s
              show XM l E (RX3, "readEither", cX3_readEither, 5) (some .boolean) (n + 4) 24 [some (.ref 142), some (.int a1), some (.int i1), some (.int i2), some (.int i8)] [] M9 M' (some (.int r))
              change w_X3_readEither_24 r_X3_readCondition a1 i8 M9 = some t at hb
              unfold w_X3_readEither_24 at hb
              refine ex_iload dX3_readEither_24 rfl ?_
              refine ex_sipush 400 dX3_readEither_26 kS_400 ?_
              refine ex_icmp_ge 79 dX3_readEither_29 (by decide) (fun c10 => ?_) (fun c10 => ?_)
              · rw [if_pos c10] at hb
                refine ex_mskL [true, true, true, true, false] (L2 := [some (.ref 142), some (.int a1), some (.int i1), some (.int i2), none]) rfl ?_
                cases hb
                cases (he _ rfl) <;> exact hx
              · rw [if_neg c10] at hb
                refine ex_aload_n dX3_readEither_32 rfl ?_
                refine mx_getr 3 136 dX3_readEither_33 fl_X3_18 oc_at_142 (rf_3_0 oc_at_142) ?_
                obtain ⟨x11, qx11, hb⟩ := b1E hb
                refine mx_cVi [] [] 136 9 x11 dX3_readEither_36 cl_X3_42 im_X9_type cy_X9_type (oc_3_0 oc_at_142) rfl (Nat.le_of_ble_eq_true rfl) (by omega) (t_X9_type l E M9 qx11) ?_
                refine ex_sipush 313 dX3_readEither_39 kS_313 ?_
                refine ex_icmp_ne 79 dX3_readEither_42 (by decide) (fun c12 => ?_) (fun c12 => ?_)
                · rw [if_neg c12] at hb
                  refine ex_mskL [true, true, true, true, false] (L2 := [some (.ref 142), some (.int a1), some (.int i1), some (.int i2), none]) rfl ?_
                  cases hb
                  cases (he _ rfl) <;> exact hx
                · rw [if_pos c12] at hb
                  refine ex_aload_n dX3_readEither_45 rfl ?_
                  refine mx_getr 3 136 dX3_readEither_46 fl_X3_18 oc_at_142 (rf_3_0 oc_at_142) ?_
                  obtain ⟨M13, eM13, hb⟩ := ltE hb
                  refine mx_cVv [] [] 136 9 dX3_readEither_49 cl_X3_57 im_X9_take cy_X9_take (oc_3_0 oc_at_142) rfl (Nat.le_of_ble_eq_true rfl) (by omega) (t_X9_take l E M9 eM13.symm) ?_
                  refine ex_aload_n dX3_readEither_52 rfl ?_
                  refine ex_iload_n dX3_readEither_53 rfl ?_
                  obtain ⟨M14, x15, qx15, hb⟩ := b2E hb
                  refine mx_cVi [.int a1] [] 142 3 x15 dX3_readEither_54 cl_X3_79 im_X3_readCondition cy_X3_readCondition oc_at_142 rfl (Nat.le_of_ble_eq_true rfl) (by omega) (h_X3_readCondition a1 M13 qx15) ?_
                  refine ex_if_ne 62 dX3_readEither_57 (by decide) (fun c16 => ?_) (fun c16 => ?_)
                  · rw [if_neg c16] at hb
                    refine ex_aload_n dX3_readEither_62 rfl ?_
                    refine mx_getr 3 143 dX3_readEither_63 fl_X3_12 oc_at_142 (rf_3_1 oc_at_142) ?_
                    refine ex_sipush 313 dX3_readEither_66 kS_313 ?_
                    refine ex_iconst 0 dX3_readEither_69 kI_0 ?_
                    obtain ⟨M17, qM17, hb⟩ := b1E hb
                    refine mx_cVv [.int 313, .int 0] [] 143 2 dX3_readEither_70 cl_X3_82 im_X2_addStep cy_X2_addStep (oc_3_1 oc_at_142) rfl (Nat.le_of_ble_eq_true rfl) (by omega) (t_X2_addStep l E 143 313 0 (oc_3_1 oc_at_142) M14 qM17) ?_
                    refine ex_iinc 1 (L2 := [some (.ref 142), some (.int a1), some (.int i1), some (.int i2), some (.int (i8 + 1))]) dX3_readEither_73 rfl kI_1 (by decide) rfl ?_
                    refine ex_goto 24 dX3_readEither_76 (by decide) ?_
                    refine ex_mskL [true, true, true, true, true] (L2 := [some (.ref 142), some (.int a1), some (.int i1), some (.int i2), some (.int (i8 + 1))]) rfl ?_
                    cases hb
                    exact hk ((i8 + 1), M17) rfl
                  · rw [if_pos c16] at hb
                    refine ex_mskL [false, false, false, false, false] (L2 := [none, none, none, none, none]) rfl ?_
                    cases hb
                    cases (he _ rfl) <;> exact hx)
            exact key FU (0, M5) hlq18
          · dsimp only at hb
            have hx : XM l E (RX3, "readEither", cX3_readEither, 5) (some .boolean) (n + 4) 79 [some (.ref 142), some (.int a1), some (.int i1), some (.int i2), none] [] u20 M' (some (.int r)) := by
              refine ex_iload_n dX3_readEither_79 rfl ?_
              refine ex_if_eq 94 dX3_readEither_80 (by decide) (fun c21 => ?_) (fun c21 => ?_)
              · rw [if_pos c21] at hb
                refine ex_aload_n dX3_readEither_94 rfl ?_
                refine mx_getr 3 136 dX3_readEither_95 fl_X3_18 oc_at_142 (rf_3_0 oc_at_142) ?_
                obtain ⟨x22, qx22, hb⟩ := b1E hb
                refine mx_cVi [] [] 136 9 x22 dX3_readEither_98 cl_X3_42 im_X9_type cy_X9_type (oc_3_0 oc_at_142) rfl (Nat.le_of_ble_eq_true rfl) (by omega) (t_X9_type l E u20 qx22) ?_
                refine ex_sipush 312 dX3_readEither_101 kS_312 ?_
                refine ex_icmp_eq 109 dX3_readEither_104 (by decide) (fun c23 => ?_) (fun c23 => ?_)
                · rw [if_pos c23] at hb
                  refine ex_aload_n dX3_readEither_109 rfl ?_
                  refine mx_getr 3 136 dX3_readEither_110 fl_X3_18 oc_at_142 (rf_3_0 oc_at_142) ?_
                  obtain ⟨M24, eM24, hb⟩ := ltE hb
                  refine mx_cVv [] [] 136 9 dX3_readEither_113 cl_X3_57 im_X9_take cy_X9_take (oc_3_0 oc_at_142) rfl (Nat.le_of_ble_eq_true rfl) (by omega) (t_X9_take l E u20 eM24.symm) ?_
                  refine ex_iconst 1 dX3_readEither_116 kI_1 ?_
                  refine ex_istore_n (L2 := [some (.ref 142), some (.int a1), some (.int 1), some (.int i2), none]) dX3_readEither_117 (by decide) rfl ?_
                  refine ex_iinc 1 (L2 := [some (.ref 142), some (.int a1), some (.int 1), some (.int (i2 + 1)), none]) dX3_readEither_118 rfl kI_1 (by decide) rfl ?_
                  refine ex_goto 4 dX3_readEither_121 (by decide) ?_
                  refine ex_mskL [true, true, true, true, false] (L2 := [some (.ref 142), some (.int a1), some (.int 1), some (.int (i2 + 1)), none]) rfl ?_
                  cases hb
                  exact hk (1, (i2 + 1), M24) rfl
                · rw [if_neg c23] at hb
                  refine ex_mskL [false, false, false, false, false] (L2 := [none, none, none, none, none]) rfl ?_
                  cases hb
                  cases (he _ rfl) <;> exact hx
              · rw [if_neg c21] at hb
                refine ex_aload_n dX3_readEither_83 rfl ?_
                refine mx_getr 3 143 dX3_readEither_84 fl_X3_12 oc_at_142 (rf_3_1 oc_at_142) ?_
                refine ex_sipush 312 dX3_readEither_87 kS_312 ?_
                refine ex_iconst 0 dX3_readEither_90 kI_0 ?_
                obtain ⟨M25, qM25, hb⟩ := b1E hb
                refine mx_cVv [.int 312, .int 0] [] 143 2 dX3_readEither_91 cl_X3_82 im_X2_addStep cy_X2_addStep (oc_3_1 oc_at_142) rfl (Nat.le_of_ble_eq_true rfl) (by omega) (t_X2_addStep l E 143 312 0 (oc_3_1 oc_at_142) u20 qM25) ?_
                refine ex_aload_n dX3_readEither_94 rfl ?_
                refine mx_getr 3 136 dX3_readEither_95 fl_X3_18 oc_at_142 (rf_3_0 oc_at_142) ?_
                obtain ⟨x26, qx26, hb⟩ := b1E hb
                refine mx_cVi [] [] 136 9 x26 dX3_readEither_98 cl_X3_42 im_X9_type cy_X9_type (oc_3_0 oc_at_142) rfl (Nat.le_of_ble_eq_true rfl) (by omega) (t_X9_type l E M25 qx26) ?_
                refine ex_sipush 312 dX3_readEither_101 kS_312 ?_
                refine ex_icmp_eq 109 dX3_readEither_104 (by decide) (fun c27 => ?_) (fun c27 => ?_)
                · rw [if_pos c27] at hb
                  refine ex_aload_n dX3_readEither_109 rfl ?_
                  refine mx_getr 3 136 dX3_readEither_110 fl_X3_18 oc_at_142 (rf_3_0 oc_at_142) ?_
                  obtain ⟨M28, eM28, hb⟩ := ltE hb
                  refine mx_cVv [] [] 136 9 dX3_readEither_113 cl_X3_57 im_X9_take cy_X9_take (oc_3_0 oc_at_142) rfl (Nat.le_of_ble_eq_true rfl) (by omega) (t_X9_take l E M25 eM28.symm) ?_
                  refine ex_iconst 1 dX3_readEither_116 kI_1 ?_
                  refine ex_istore_n (L2 := [some (.ref 142), some (.int a1), some (.int 1), some (.int i2), none]) dX3_readEither_117 (by decide) rfl ?_
                  refine ex_iinc 1 (L2 := [some (.ref 142), some (.int a1), some (.int 1), some (.int (i2 + 1)), none]) dX3_readEither_118 rfl kI_1 (by decide) rfl ?_
                  refine ex_goto 4 dX3_readEither_121 (by decide) ?_
                  refine ex_mskL [true, true, true, true, false] (L2 := [some (.ref 142), some (.int a1), some (.int 1), some (.int (i2 + 1)), none]) rfl ?_
                  cases hb
                  exact hk (1, (i2 + 1), M28) rfl
                · rw [if_neg c27] at hb
                  refine ex_mskL [false, false, false, false, false] (L2 := [none, none, none, none, none]) rfl ?_
                  cases hb
                  cases (he _ rfl) <;> exact hx
            clear hb
            have key : ∀ (k : Nat) (s : Int32 × Mem), lp (fun s => w_X3_readEither_24 r_X3_readCondition a1 s.1 s.2) k s = some (.inr u20) → XM l E (RX3, "readEither", cX3_readEither, 5) (some .boolean) (n + 4) 24 [some (.ref 142), some (.int a1), some (.int i1), some (.int i2), some (.int s.1)] [] s.2 M' (some (.int r)) := lp_ind (P := fun (s : Int32 × Mem) => XM l E (RX3, "readEither", cX3_readEither, 5) (some .boolean) (n + 4) 24 [some (.ref 142), some (.int a1), some (.int i1), some (.int i2), some (.int s.1)] [] s.2 M' (some (.int r))) (fun s t hb hk he => by
              obtain ⟨i8, M9⟩ := s
              show XM l E (RX3, "readEither", cX3_readEither, 5) (some .boolean) (n + 4) 24 [some (.ref 142), some (.int a1), some (.int i1), some (.int i2), some (.int i8)] [] M9 M' (some (.int r))
              change w_X3_readEither_24 r_X3_readCondition a1 i8 M9 = some t at hb
              unfold w_X3_readEither_24 at hb
              refine ex_iload dX3_readEither_24 rfl ?_
              refine ex_sipush 400 dX3_readEither_26 kS_400 ?_
              refine ex_icmp_ge 79 dX3_readEither_29 (by decide) (fun c10 => ?_) (fun c10 => ?_)
              · rw [if_pos c10] at hb
                refine ex_mskL [true, true, true, true, false] (L2 := [some (.ref 142), some (.int a1), some (.int i1), some (.int i2), none]) rfl ?_
                cases hb
                cases (he _ rfl) <;> exact hx
              · rw [if_neg c10] at hb
                refine ex_aload_n dX3_readEither_32 rfl ?_
                refine mx_getr 3 136 dX3_readEither_33 fl_X3_18 oc_at_142 (rf_3_0 oc_at_142) ?_
                obtain ⟨x11, qx11, hb⟩ := b1E hb
                refine mx_cVi [] [] 136 9 x11 dX3_readEither_36 cl_X3_42 im_X9_type cy_X9_type (oc_3_0 oc_at_142) rfl (Nat.le_of_ble_eq_true rfl) (by omega) (t_X9_type l E M9 qx11) ?_
                refine ex_sipush 313 dX3_readEither_39 kS_313 ?_
                refine ex_icmp_ne 79 dX3_readEither_42 (by decide) (fun c12 => ?_) (fun c12 => ?_)
                · rw [if_neg c12] at hb
                  refine ex_mskL [true, true, true, true, false] (L2 := [some (.ref 142), some (.int a1), some (.int i1), some (.int i2), none]) rfl ?_
                  cases hb
                  cases (he _ rfl) <;> exact hx
                · rw [if_pos c12] at hb
                  refine ex_aload_n dX3_readEither_45 rfl ?_
                  refine mx_getr 3 136 dX3_readEither_46 fl_X3_18 oc_at_142 (rf_3_0 oc_at_142) ?_
                  obtain ⟨M13, eM13, hb⟩ := ltE hb
                  refine mx_cVv [] [] 136 9 dX3_readEither_49 cl_X3_57 im_X9_take cy_X9_take (oc_3_0 oc_at_142) rfl (Nat.le_of_ble_eq_true rfl) (by omega) (t_X9_take l E M9 eM13.symm) ?_
                  refine ex_aload_n dX3_readEither_52 rfl ?_
                  refine ex_iload_n dX3_readEither_53 rfl ?_
                  obtain ⟨M14, x15, qx15, hb⟩ := b2E hb
                  refine mx_cVi [.int a1] [] 142 3 x15 dX3_readEither_54 cl_X3_79 im_X3_readCondition cy_X3_readCondition oc_at_142 rfl (Nat.le_of_ble_eq_true rfl) (by omega) (h_X3_readCondition a1 M13 qx15) ?_
                  refine ex_if_ne 62 dX3_readEither_57 (by decide) (fun c16 => ?_) (fun c16 => ?_)
                  · rw [if_neg c16] at hb
                    refine ex_aload_n dX3_readEither_62 rfl ?_
                    refine mx_getr 3 143 dX3_readEither_63 fl_X3_12 oc_at_142 (rf_3_1 oc_at_142) ?_
                    refine ex_sipush 313 dX3_readEither_66 kS_313 ?_
                    refine ex_iconst 0 dX3_readEither_69 kI_0 ?_
                    obtain ⟨M17, qM17, hb⟩ := b1E hb
                    refine mx_cVv [.int 313, .int 0] [] 143 2 dX3_readEither_70 cl_X3_82 im_X2_addStep cy_X2_addStep (oc_3_1 oc_at_142) rfl (Nat.le_of_ble_eq_true rfl) (by omega) (t_X2_addStep l E 143 313 0 (oc_3_1 oc_at_142) M14 qM17) ?_
                    refine ex_iinc 1 (L2 := [some (.ref 142), some (.int a1), some (.int i1), some (.int i2), some (.int (i8 + 1))]) dX3_readEither_73 rfl kI_1 (by decide) rfl ?_
                    refine ex_goto 24 dX3_readEither_76 (by decide) ?_
                    refine ex_mskL [true, true, true, true, true] (L2 := [some (.ref 142), some (.int a1), some (.int i1), some (.int i2), some (.int (i8 + 1))]) rfl ?_
                    cases hb
                    exact hk ((i8 + 1), M17) rfl
                  · rw [if_pos c16] at hb
                    refine ex_mskL [false, false, false, false, false] (L2 := [none, none, none, none, none]) rfl ?_
                    cases hb
                    cases (he _ rfl) <;> exact hx)
            exact key FU (0, M5) hlq18
        · rw [if_pos c7] at hb
          refine ex_mskL [false, false, false, false, false] (L2 := [none, none, none, none, none]) rfl ?_
          cases hb
          cases (he _ rfl) <;> exact hx)
    exact key FU (0, 0, M) hlq29
  · dsimp only at h
    have hx : XM l E (RX3, "readEither", cX3_readEither, 5) (some .boolean) (n + 4) 107 [none, none, none, none, none] [] u32 M' (some (.int r)) := by
      refine ex_iconst 1 dX3_readEither_107 kI_1 ?_
      cases h
      exact mx_reti .boolean dX3_readEither_108 ⟨rfl, by decide⟩
    clear h
    have key : ∀ (k : Nat) (s : Int32 × Int32 × Mem), lp (fun s => w_X3_readEither_4 r_X3_readCondition a1 s.1 s.2.1 s.2.2) k s = some (.inr (.inr (.inl u32))) → XM l E (RX3, "readEither", cX3_readEither, 5) (some .boolean) (n + 4) 4 [some (.ref 142), some (.int a1), some (.int s.1), some (.int s.2.1), none] [] s.2.2 M' (some (.int r)) := lp_ind (P := fun (s : Int32 × Int32 × Mem) => XM l E (RX3, "readEither", cX3_readEither, 5) (some .boolean) (n + 4) 4 [some (.ref 142), some (.int a1), some (.int s.1), some (.int s.2.1), none] [] s.2.2 M' (some (.int r))) (fun s t hb hk he => by
      obtain ⟨i1, i2, M3⟩ := s
      show XM l E (RX3, "readEither", cX3_readEither, 5) (some .boolean) (n + 4) 4 [some (.ref 142), some (.int a1), some (.int i1), some (.int i2), none] [] M3 M' (some (.int r))
      change w_X3_readEither_4 r_X3_readCondition a1 i1 i2 M3 = some t at hb
      unfold w_X3_readEither_4 at hb
      refine ex_iload_n dX3_readEither_4 rfl ?_
      refine ex_sipush 400 dX3_readEither_5 kS_400 ?_
      refine ex_icmp_ge 124 dX3_readEither_8 (by decide) (fun c4 => ?_) (fun c4 => ?_)
      · rw [if_pos c4] at hb
        refine ex_mskL [false, false, false, false, false] (L2 := [none, none, none, none, none]) rfl ?_
        cases hb
        cases (he _ rfl) <;> exact hx
      · rw [if_neg c4] at hb
        refine ex_aload_n dX3_readEither_11 rfl ?_
        refine ex_iload_n dX3_readEither_12 rfl ?_
        obtain ⟨M5, x6, qx6, hb⟩ := b2E hb
        refine mx_cVi [.int a1] [] 142 3 x6 dX3_readEither_13 cl_X3_79 im_X3_readCondition cy_X3_readCondition oc_at_142 rfl (Nat.le_of_ble_eq_true rfl) (by omega) (h_X3_readCondition a1 M3 qx6) ?_
        refine ex_if_ne 21 dX3_readEither_16 (by decide) (fun c7 => ?_) (fun c7 => ?_)
        · rw [if_neg c7] at hb
          refine ex_iconst 0 dX3_readEither_21 kI_0 ?_
          refine ex_istore (L2 := [some (.ref 142), some (.int a1), some (.int i1), some (.int i2), some (.int 0)]) dX3_readEither_22 (by decide) rfl ?_
          refine ex_mskL [true, true, true, true, true] (L2 := [some (.ref 142), some (.int a1), some (.int i1), some (.int i2), some (.int 0)]) rfl ?_
          obtain ⟨q18, hlq18, hb⟩ := b1E hb
          rcases q18 with u19 | u20
          · dsimp only at hb
            have hx : XM l E (RX3, "readEither", cX3_readEither, 5) (some .boolean) (n + 4) 60 [none, none, none, none, none] [] u19 M' (some (.int r)) := by
              refine ex_mskL [false, false, false, false, false] (L2 := [none, none, none, none, none]) rfl ?_
              cases hb
              cases (he _ rfl) <;> exact hx
            clear hb
            have key : ∀ (k : Nat) (s : Int32 × Mem), lp (fun s => w_X3_readEither_24 r_X3_readCondition a1 s.1 s.2) k s = some (.inl u19) → XM l E (RX3, "readEither", cX3_readEither, 5) (some .boolean) (n + 4) 24 [some (.ref 142), some (.int a1), some (.int i1), some (.int i2), some (.int s.1)] [] s.2 M' (some (.int r)) := lp_ind (P := fun (s : Int32 × Mem) => XM l E (RX3, "readEither", cX3_readEither, 5) (some .boolean) (n + 4) 24 [some (.ref 142), some (.int a1), some (.int i1), some (.int i2), some (.int s.1)] [] s.2 M' (some (.int r))) (fun s t hb hk he => by
              obtain ⟨i8, M9⟩ := s
              show XM l E (RX3, "readEither", cX3_readEither, 5) (some .boolean) (n + 4) 24 [some (.ref 142), some (.int a1), some (.int i1), some (.int i2), some (.int i8)] [] M9 M' (some (.int r))
              change w_X3_readEither_24 r_X3_readCondition a1 i8 M9 = some t at hb
              unfold w_X3_readEither_24 at hb
              refine ex_iload dX3_readEither_24 rfl ?_
              refine ex_sipush 400 dX3_readEither_26 kS_400 ?_
              refine ex_icmp_ge 79 dX3_readEither_29 (by decide) (fun c10 => ?_) (fun c10 => ?_)
              · rw [if_pos c10] at hb
                refine ex_mskL [true, true, true, true, false] (L2 := [some (.ref 142), some (.int a1), some (.int i1), some (.int i2), none]) rfl ?_
                cases hb
                cases (he _ rfl) <;> exact hx
              · rw [if_neg c10] at hb
                refine ex_aload_n dX3_readEither_32 rfl ?_
                refine mx_getr 3 136 dX3_readEither_33 fl_X3_18 oc_at_142 (rf_3_0 oc_at_142) ?_
                obtain ⟨x11, qx11, hb⟩ := b1E hb
                refine mx_cVi [] [] 136 9 x11 dX3_readEither_36 cl_X3_42 im_X9_type cy_X9_type (oc_3_0 oc_at_142) rfl (Nat.le_of_ble_eq_true rfl) (by omega) (t_X9_type l E M9 qx11) ?_
                refine ex_sipush 313 dX3_readEither_39 kS_313 ?_
                refine ex_icmp_ne 79 dX3_readEither_42 (by decide) (fun c12 => ?_) (fun c12 => ?_)
                · rw [if_neg c12] at hb
                  refine ex_mskL [true, true, true, true, false] (L2 := [some (.ref 142), some (.int a1), some (.int i1), some (.int i2), none]) rfl ?_
                  cases hb
                  cases (he _ rfl) <;> exact hx
                · rw [if_pos c12] at hb
                  refine ex_aload_n dX3_readEither_45 rfl ?_
                  refine mx_getr 3 136 dX3_readEither_46 fl_X3_18 oc_at_142 (rf_3_0 oc_at_142) ?_
                  obtain ⟨M13, eM13, hb⟩ := ltE hb
                  refine mx_cVv [] [] 136 9 dX3_readEither_49 cl_X3_57 im_X9_take cy_X9_take (oc_3_0 oc_at_142) rfl (Nat.le_of_ble_eq_true rfl) (by omega) (t_X9_take l E M9 eM13.symm) ?_
                  refine ex_aload_n dX3_readEither_52 rfl ?_
                  refine ex_iload_n dX3_readEither_53 rfl ?_
                  obtain ⟨M14, x15, qx15, hb⟩ := b2E hb
                  refine mx_cVi [.int a1] [] 142 3 x15 dX3_readEither_54 cl_X3_79 im_X3_readCondition cy_X3_readCondition oc_at_142 rfl (Nat.le_of_ble_eq_true rfl) (by omega) (h_X3_readCondition a1 M13 qx15) ?_
                  refine ex_if_ne 62 dX3_readEither_57 (by decide) (fun c16 => ?_) (fun c16 => ?_)
                  · rw [if_neg c16] at hb
                    refine ex_aload_n dX3_readEither_62 rfl ?_
                    refine mx_getr 3 143 dX3_readEither_63 fl_X3_12 oc_at_142 (rf_3_1 oc_at_142) ?_
                    refine ex_sipush 313 dX3_readEither_66 kS_313 ?_
                    refine ex_iconst 0 dX3_readEither_69 kI_0 ?_
                    obtain ⟨M17, qM17, hb⟩ := b1E hb
                    refine mx_cVv [.int 313, .int 0] [] 143 2 dX3_readEither_70 cl_X3_82 im_X2_addStep cy_X2_addStep (oc_3_1 oc_at_142) rfl (Nat.le_of_ble_eq_true rfl) (by omega) (t_X2_addStep l E 143 313 0 (oc_3_1 oc_at_142) M14 qM17) ?_
                    refine ex_iinc 1 (L2 := [some (.ref 142), some (.int a1), some (.int i1), some (.int i2), some (.int (i8 + 1))]) dX3_readEither_73 rfl kI_1 (by decide) rfl ?_
                    refine ex_goto 24 dX3_readEither_76 (by decide) ?_
                    refine ex_mskL [true, true, true, true, true] (L2 := [some (.ref 142), some (.int a1), some (.int i1), some (.int i2), some (.int (i8 + 1))]) rfl ?_
                    cases hb
                    exact hk ((i8 + 1), M17) rfl
                  · rw [if_pos c16] at hb
                    refine ex_mskL [false, false, false, false, false] (L2 := [none, none, none, none, none]) rfl ?_
                    cases hb
                    cases (he _ rfl) <;> exact hx)
            exact key FU (0, M5) hlq18
          · dsimp only at hb
            have hx : XM l E (RX3, "readEither", cX3_readEither, 5) (some .boolean) (n + 4) 79 [some (.ref 142), some (.int a1), some (.int i1), some (.int i2), none] [] u20 M' (some (.int r)) := by
              refine ex_iload_n dX3_readEither_79 rfl ?_
              refine ex_if_eq 94 dX3_readEither_80 (by decide) (fun c21 => ?_) (fun c21 => ?_)
              · rw [if_pos c21] at hb
                refine ex_aload_n dX3_readEither_94 rfl ?_
                refine mx_getr 3 136 dX3_readEither_95 fl_X3_18 oc_at_142 (rf_3_0 oc_at_142) ?_
                obtain ⟨x22, qx22, hb⟩ := b1E hb
                refine mx_cVi [] [] 136 9 x22 dX3_readEither_98 cl_X3_42 im_X9_type cy_X9_type (oc_3_0 oc_at_142) rfl (Nat.le_of_ble_eq_true rfl) (by omega) (t_X9_type l E u20 qx22) ?_
                refine ex_sipush 312 dX3_readEither_101 kS_312 ?_
                refine ex_icmp_eq 109 dX3_readEither_104 (by decide) (fun c23 => ?_) (fun c23 => ?_)
                · rw [if_pos c23] at hb
                  refine ex_aload_n dX3_readEither_109 rfl ?_
                  refine mx_getr 3 136 dX3_readEither_110 fl_X3_18 oc_at_142 (rf_3_0 oc_at_142) ?_
                  obtain ⟨M24, eM24, hb⟩ := ltE hb
                  refine mx_cVv [] [] 136 9 dX3_readEither_113 cl_X3_57 im_X9_take cy_X9_take (oc_3_0 oc_at_142) rfl (Nat.le_of_ble_eq_true rfl) (by omega) (t_X9_take l E u20 eM24.symm) ?_
                  refine ex_iconst 1 dX3_readEither_116 kI_1 ?_
                  refine ex_istore_n (L2 := [some (.ref 142), some (.int a1), some (.int 1), some (.int i2), none]) dX3_readEither_117 (by decide) rfl ?_
                  refine ex_iinc 1 (L2 := [some (.ref 142), some (.int a1), some (.int 1), some (.int (i2 + 1)), none]) dX3_readEither_118 rfl kI_1 (by decide) rfl ?_
                  refine ex_goto 4 dX3_readEither_121 (by decide) ?_
                  refine ex_mskL [true, true, true, true, false] (L2 := [some (.ref 142), some (.int a1), some (.int 1), some (.int (i2 + 1)), none]) rfl ?_
                  cases hb
                  exact hk (1, (i2 + 1), M24) rfl
                · rw [if_neg c23] at hb
                  refine ex_mskL [false, false, false, false, false] (L2 := [none, none, none, none, none]) rfl ?_
                  cases hb
                  cases (he _ rfl) <;> exact hx
              · rw [if_neg c21] at hb
                refine ex_aload_n dX3_readEither_83 rfl ?_
                refine mx_getr 3 143 dX3_readEither_84 fl_X3_12 oc_at_142 (rf_3_1 oc_at_142) ?_
                refine ex_sipush 312 dX3_readEither_87 kS_312 ?_
                refine ex_iconst 0 dX3_readEither_90 kI_0 ?_
                obtain ⟨M25, qM25, hb⟩ := b1E hb
                refine mx_cVv [.int 312, .int 0] [] 143 2 dX3_readEither_91 cl_X3_82 im_X2_addStep cy_X2_addStep (oc_3_1 oc_at_142) rfl (Nat.le_of_ble_eq_true rfl) (by omega) (t_X2_addStep l E 143 312 0 (oc_3_1 oc_at_142) u20 qM25) ?_
                refine ex_aload_n dX3_readEither_94 rfl ?_
                refine mx_getr 3 136 dX3_readEither_95 fl_X3_18 oc_at_142 (rf_3_0 oc_at_142) ?_
                obtain ⟨x26, qx26, hb⟩ := b1E hb
                refine mx_cVi [] [] 136 9 x26 dX3_readEither_98 cl_X3_42 im_X9_type cy_X9_type (oc_3_0 oc_at_142) rfl (Nat.le_of_ble_eq_true rfl) (by omega) (t_X9_type l E M25 qx26) ?_
                refine ex_sipush 312 dX3_readEither_101 kS_312 ?_
                refine ex_icmp_eq 109 dX3_readEither_104 (by decide) (fun c27 => ?_) (fun c27 => ?_)
                · rw [if_pos c27] at hb
                  refine ex_aload_n dX3_readEither_109 rfl ?_
                  refine mx_getr 3 136 dX3_readEither_110 fl_X3_18 oc_at_142 (rf_3_0 oc_at_142) ?_
                  obtain ⟨M28, eM28, hb⟩ := ltE hb
                  refine mx_cVv [] [] 136 9 dX3_readEither_113 cl_X3_57 im_X9_take cy_X9_take (oc_3_0 oc_at_142) rfl (Nat.le_of_ble_eq_true rfl) (by omega) (t_X9_take l E M25 eM28.symm) ?_
                  refine ex_iconst 1 dX3_readEither_116 kI_1 ?_
                  refine ex_istore_n (L2 := [some (.ref 142), some (.int a1), some (.int 1), some (.int i2), none]) dX3_readEither_117 (by decide) rfl ?_
                  refine ex_iinc 1 (L2 := [some (.ref 142), some (.int a1), some (.int 1), some (.int (i2 + 1)), none]) dX3_readEither_118 rfl kI_1 (by decide) rfl ?_
                  refine ex_goto 4 dX3_readEither_121 (by decide) ?_
                  refine ex_mskL [true, true, true, true, false] (L2 := [some (.ref 142), some (.int a1), some (.int 1), some (.int (i2 + 1)), none]) rfl ?_
                  cases hb
                  exact hk (1, (i2 + 1), M28) rfl
                · rw [if_neg c27] at hb
                  refine ex_mskL [false, false, false, false, false] (L2 := [none, none, none, none, none]) rfl ?_
                  cases hb
                  cases (he _ rfl) <;> exact hx
            clear hb
            have key : ∀ (k : Nat) (s : Int32 × Mem), lp (fun s => w_X3_readEither_24 r_X3_readCondition a1 s.1 s.2) k s = some (.inr u20) → XM l E (RX3, "readEither", cX3_readEither, 5) (some .boolean) (n + 4) 24 [some (.ref 142), some (.int a1), some (.int i1), some (.int i2), some (.int s.1)] [] s.2 M' (some (.int r)) := lp_ind (P := fun (s : Int32 × Mem) => XM l E (RX3, "readEither", cX3_readEither, 5) (some .boolean) (n + 4) 24 [some (.ref 142), some (.int a1), some (.int i1), some (.int i2), some (.int s.1)] [] s.2 M' (some (.int r))) (fun s t hb hk he => by
              obtain ⟨i8, M9⟩ := s
              show XM l E (RX3, "readEither", cX3_readEither, 5) (some .boolean) (n + 4) 24 [some (.ref 142), some (.int a1), some (.int i1), some (.int i2), some (.int i8)] [] M9 M' (some (.int r))
              change w_X3_readEither_24 r_X3_readCondition a1 i8 M9 = some t at hb
              unfold w_X3_readEither_24 at hb
              refine ex_iload dX3_readEither_24 rfl ?_
              refine ex_sipush 400 dX3_readEither_26 kS_400 ?_
              refine ex_icmp_ge 79 dX3_readEither_29 (by decide) (fun c10 => ?_) (fun c10 => ?_)
              · rw [if_pos c10] at hb
                refine ex_mskL [true, true, true, true, false] (L2 := [some (.ref 142), some (.int a1), some (.int i1), some (.int i2), none]) rfl ?_
                cases hb
                cases (he _ rfl) <;> exact hx
              · rw [if_neg c10] at hb
                refine ex_aload_n dX3_readEither_32 rfl ?_
                refine mx_getr 3 136 dX3_readEither_33 fl_X3_18 oc_at_142 (rf_3_0 oc_at_142) ?_
                obtain ⟨x11, qx11, hb⟩ := b1E hb
                refine mx_cVi [] [] 136 9 x11 dX3_readEither_36 cl_X3_42 im_X9_type cy_X9_type (oc_3_0 oc_at_142) rfl (Nat.le_of_ble_eq_true rfl) (by omega) (t_X9_type l E M9 qx11) ?_
                refine ex_sipush 313 dX3_readEither_39 kS_313 ?_
                refine ex_icmp_ne 79 dX3_readEither_42 (by decide) (fun c12 => ?_) (fun c12 => ?_)
                · rw [if_neg c12] at hb
                  refine ex_mskL [true, true, true, true, false] (L2 := [some (.ref 142), some (.int a1), some (.int i1), some (.int i2), none]) rfl ?_
                  cases hb
                  cases (he _ rfl) <;> exact hx
                · rw [if_pos c12] at hb
                  refine ex_aload_n dX3_readEither_45 rfl ?_
                  refine mx_getr 3 136 dX3_readEither_46 fl_X3_18 oc_at_142 (rf_3_0 oc_at_142) ?_
                  obtain ⟨M13, eM13, hb⟩ := ltE hb
                  refine mx_cVv [] [] 136 9 dX3_readEither_49 cl_X3_57 im_X9_take cy_X9_take (oc_3_0 oc_at_142) rfl (Nat.le_of_ble_eq_true rfl) (by omega) (t_X9_take l E M9 eM13.symm) ?_
                  refine ex_aload_n dX3_readEither_52 rfl ?_
                  refine ex_iload_n dX3_readEither_53 rfl ?_
                  obtain ⟨M14, x15, qx15, hb⟩ := b2E hb
                  refine mx_cVi [.int a1] [] 142 3 x15 dX3_readEither_54 cl_X3_79 im_X3_readCondition cy_X3_readCondition oc_at_142 rfl (Nat.le_of_ble_eq_true rfl) (by omega) (h_X3_readCondition a1 M13 qx15) ?_
                  refine ex_if_ne 62 dX3_readEither_57 (by decide) (fun c16 => ?_) (fun c16 => ?_)
                  · rw [if_neg c16] at hb
                    refine ex_aload_n dX3_readEither_62 rfl ?_
                    refine mx_getr 3 143 dX3_readEither_63 fl_X3_12 oc_at_142 (rf_3_1 oc_at_142) ?_
                    refine ex_sipush 313 dX3_readEither_66 kS_313 ?_
                    refine ex_iconst 0 dX3_readEither_69 kI_0 ?_
                    obtain ⟨M17, qM17, hb⟩ := b1E hb
                    refine mx_cVv [.int 313, .int 0] [] 143 2 dX3_readEither_70 cl_X3_82 im_X2_addStep cy_X2_addStep (oc_3_1 oc_at_142) rfl (Nat.le_of_ble_eq_true rfl) (by omega) (t_X2_addStep l E 143 313 0 (oc_3_1 oc_at_142) M14 qM17) ?_
                    refine ex_iinc 1 (L2 := [some (.ref 142), some (.int a1), some (.int i1), some (.int i2), some (.int (i8 + 1))]) dX3_readEither_73 rfl kI_1 (by decide) rfl ?_
                    refine ex_goto 24 dX3_readEither_76 (by decide) ?_
                    refine ex_mskL [true, true, true, true, true] (L2 := [some (.ref 142), some (.int a1), some (.int i1), some (.int i2), some (.int (i8 + 1))]) rfl ?_
                    cases hb
                    exact hk ((i8 + 1), M17) rfl
                  · rw [if_pos c16] at hb
                    refine ex_mskL [false, false, false, false, false] (L2 := [none, none, none, none, none]) rfl ?_
                    cases hb
                    cases (he _ rfl) <;> exact hx)
            exact key FU (0, M5) hlq18
        · rw [if_pos c7] at hb
          refine ex_mskL [false, false, false, false, false] (L2 := [none, none, none, none, none]) rfl ?_
          cases hb
          cases (he _ rfl) <;> exact hx)
    exact key FU (0, 0, M) hlq29
  · dsimp only at h
    have hx : XM l E (RX3, "readEither", cX3_readEither, 5) (some .boolean) (n + 4) 124 [none, none, none, none, none] [] u33 M' (some (.int r)) := by
      refine ex_iconst 1 dX3_readEither_124 kI_1 ?_
      cases h
      exact mx_reti .boolean dX3_readEither_125 ⟨rfl, by decide⟩
    clear h
    have key : ∀ (k : Nat) (s : Int32 × Int32 × Mem), lp (fun s => w_X3_readEither_4 r_X3_readCondition a1 s.1 s.2.1 s.2.2) k s = some (.inr (.inr (.inr u33))) → XM l E (RX3, "readEither", cX3_readEither, 5) (some .boolean) (n + 4) 4 [some (.ref 142), some (.int a1), some (.int s.1), some (.int s.2.1), none] [] s.2.2 M' (some (.int r)) := lp_ind (P := fun (s : Int32 × Int32 × Mem) => XM l E (RX3, "readEither", cX3_readEither, 5) (some .boolean) (n + 4) 4 [some (.ref 142), some (.int a1), some (.int s.1), some (.int s.2.1), none] [] s.2.2 M' (some (.int r))) (fun s t hb hk he => by
      obtain ⟨i1, i2, M3⟩ := s
      show XM l E (RX3, "readEither", cX3_readEither, 5) (some .boolean) (n + 4) 4 [some (.ref 142), some (.int a1), some (.int i1), some (.int i2), none] [] M3 M' (some (.int r))
      change w_X3_readEither_4 r_X3_readCondition a1 i1 i2 M3 = some t at hb
      unfold w_X3_readEither_4 at hb
      refine ex_iload_n dX3_readEither_4 rfl ?_
      refine ex_sipush 400 dX3_readEither_5 kS_400 ?_
      refine ex_icmp_ge 124 dX3_readEither_8 (by decide) (fun c4 => ?_) (fun c4 => ?_)
      · rw [if_pos c4] at hb
        refine ex_mskL [false, false, false, false, false] (L2 := [none, none, none, none, none]) rfl ?_
        cases hb
        cases (he _ rfl) <;> exact hx
      · rw [if_neg c4] at hb
        refine ex_aload_n dX3_readEither_11 rfl ?_
        refine ex_iload_n dX3_readEither_12 rfl ?_
        obtain ⟨M5, x6, qx6, hb⟩ := b2E hb
        refine mx_cVi [.int a1] [] 142 3 x6 dX3_readEither_13 cl_X3_79 im_X3_readCondition cy_X3_readCondition oc_at_142 rfl (Nat.le_of_ble_eq_true rfl) (by omega) (h_X3_readCondition a1 M3 qx6) ?_
        refine ex_if_ne 21 dX3_readEither_16 (by decide) (fun c7 => ?_) (fun c7 => ?_)
        · rw [if_neg c7] at hb
          refine ex_iconst 0 dX3_readEither_21 kI_0 ?_
          refine ex_istore (L2 := [some (.ref 142), some (.int a1), some (.int i1), some (.int i2), some (.int 0)]) dX3_readEither_22 (by decide) rfl ?_
          refine ex_mskL [true, true, true, true, true] (L2 := [some (.ref 142), some (.int a1), some (.int i1), some (.int i2), some (.int 0)]) rfl ?_
          obtain ⟨q18, hlq18, hb⟩ := b1E hb
          rcases q18 with u19 | u20
          · dsimp only at hb
            have hx : XM l E (RX3, "readEither", cX3_readEither, 5) (some .boolean) (n + 4) 60 [none, none, none, none, none] [] u19 M' (some (.int r)) := by
              refine ex_mskL [false, false, false, false, false] (L2 := [none, none, none, none, none]) rfl ?_
              cases hb
              cases (he _ rfl) <;> exact hx
            clear hb
            have key : ∀ (k : Nat) (s : Int32 × Mem), lp (fun s => w_X3_readEither_24 r_X3_readCondition a1 s.1 s.2) k s = some (.inl u19) → XM l E (RX3, "readEither", cX3_readEither, 5) (some .boolean) (n + 4) 24 [some (.ref 142), some (.int a1), some (.int i1), some (.int i2), some (.int s.1)] [] s.2 M' (some (.int r)) := lp_ind (P := fun (s : Int32 × Mem) => XM l E (RX3, "readEither", cX3_readEither, 5) (some .boolean) (n + 4) 24 [some (.ref 142), some (.int a1), some (.int i1), some (.int i2), some (.int s.1)] [] s.2 M' (some (.int r))) (fun s t hb hk he => by
              obtain ⟨i8, M9⟩ := s
              show XM l E (RX3, "readEither", cX3_readEither, 5) (some .boolean) (n + 4) 24 [some (.ref 142), some (.int a1), some (.int i1), some (.int i2), some (.int i8)] [] M9 M' (some (.int r))
              change w_X3_readEither_24 r_X3_readCondition a1 i8 M9 = some t at hb
              unfold w_X3_readEither_24 at hb
              refine ex_iload dX3_readEither_24 rfl ?_
              refine ex_sipush 400 dX3_readEither_26 kS_400 ?_
              refine ex_icmp_ge 79 dX3_readEither_29 (by decide) (fun c10 => ?_) (fun c10 => ?_)
              · rw [if_pos c10] at hb
                refine ex_mskL [true, true, true, true, false] (L2 := [some (.ref 142), some (.int a1), some (.int i1), some (.int i2), none]) rfl ?_
                cases hb
                cases (he _ rfl) <;> exact hx
              · rw [if_neg c10] at hb
                refine ex_aload_n dX3_readEither_32 rfl ?_
                refine mx_getr 3 136 dX3_readEither_33 fl_X3_18 oc_at_142 (rf_3_0 oc_at_142) ?_
                obtain ⟨x11, qx11, hb⟩ := b1E hb
                refine mx_cVi [] [] 136 9 x11 dX3_readEither_36 cl_X3_42 im_X9_type cy_X9_type (oc_3_0 oc_at_142) rfl (Nat.le_of_ble_eq_true rfl) (by omega) (t_X9_type l E M9 qx11) ?_
                refine ex_sipush 313 dX3_readEither_39 kS_313 ?_
                refine ex_icmp_ne 79 dX3_readEither_42 (by decide) (fun c12 => ?_) (fun c12 => ?_)
                · rw [if_neg c12] at hb
                  refine ex_mskL [true, true, true, true, false] (L2 := [some (.ref 142), some (.int a1), some (.int i1), some (.int i2), none]) rfl ?_
                  cases hb
                  cases (he _ rfl) <;> exact hx
                · rw [if_pos c12] at hb
                  refine ex_aload_n dX3_readEither_45 rfl ?_
                  refine mx_getr 3 136 dX3_readEither_46 fl_X3_18 oc_at_142 (rf_3_0 oc_at_142) ?_
                  obtain ⟨M13, eM13, hb⟩ := ltE hb
                  refine mx_cVv [] [] 136 9 dX3_readEither_49 cl_X3_57 im_X9_take cy_X9_take (oc_3_0 oc_at_142) rfl (Nat.le_of_ble_eq_true rfl) (by omega) (t_X9_take l E M9 eM13.symm) ?_
                  refine ex_aload_n dX3_readEither_52 rfl ?_
                  refine ex_iload_n dX3_readEither_53 rfl ?_
                  obtain ⟨M14, x15, qx15, hb⟩ := b2E hb
                  refine mx_cVi [.int a1] [] 142 3 x15 dX3_readEither_54 cl_X3_79 im_X3_readCondition cy_X3_readCondition oc_at_142 rfl (Nat.le_of_ble_eq_true rfl) (by omega) (h_X3_readCondition a1 M13 qx15) ?_
                  refine ex_if_ne 62 dX3_readEither_57 (by decide) (fun c16 => ?_) (fun c16 => ?_)
                  · rw [if_neg c16] at hb
                    refine ex_aload_n dX3_readEither_62 rfl ?_
                    refine mx_getr 3 143 dX3_readEither_63 fl_X3_12 oc_at_142 (rf_3_1 oc_at_142) ?_
                    refine ex_sipush 313 dX3_readEither_66 kS_313 ?_
                    refine ex_iconst 0 dX3_readEither_69 kI_0 ?_
                    obtain ⟨M17, qM17, hb⟩ := b1E hb
                    refine mx_cVv [.int 313, .int 0] [] 143 2 dX3_readEither_70 cl_X3_82 im_X2_addStep cy_X2_addStep (oc_3_1 oc_at_142) rfl (Nat.le_of_ble_eq_true rfl) (by omega) (t_X2_addStep l E 143 313 0 (oc_3_1 oc_at_142) M14 qM17) ?_
                    refine ex_iinc 1 (L2 := [some (.ref 142), some (.int a1), some (.int i1), some (.int i2), some (.int (i8 + 1))]) dX3_readEither_73 rfl kI_1 (by decide) rfl ?_
                    refine ex_goto 24 dX3_readEither_76 (by decide) ?_
                    refine ex_mskL [true, true, true, true, true] (L2 := [some (.ref 142), some (.int a1), some (.int i1), some (.int i2), some (.int (i8 + 1))]) rfl ?_
                    cases hb
                    exact hk ((i8 + 1), M17) rfl
                  · rw [if_pos c16] at hb
                    refine ex_mskL [false, false, false, false, false] (L2 := [none, none, none, none, none]) rfl ?_
                    cases hb
                    cases (he _ rfl) <;> exact hx)
            exact key FU (0, M5) hlq18
          · dsimp only at hb
            have hx : XM l E (RX3, "readEither", cX3_readEither, 5) (some .boolean) (n + 4) 79 [some (.ref 142), some (.int a1), some (.int i1), some (.int i2), none] [] u20 M' (some (.int r)) := by
              refine ex_iload_n dX3_readEither_79 rfl ?_
              refine ex_if_eq 94 dX3_readEither_80 (by decide) (fun c21 => ?_) (fun c21 => ?_)
              · rw [if_pos c21] at hb
                refine ex_aload_n dX3_readEither_94 rfl ?_
                refine mx_getr 3 136 dX3_readEither_95 fl_X3_18 oc_at_142 (rf_3_0 oc_at_142) ?_
                obtain ⟨x22, qx22, hb⟩ := b1E hb
                refine mx_cVi [] [] 136 9 x22 dX3_readEither_98 cl_X3_42 im_X9_type cy_X9_type (oc_3_0 oc_at_142) rfl (Nat.le_of_ble_eq_true rfl) (by omega) (t_X9_type l E u20 qx22) ?_
                refine ex_sipush 312 dX3_readEither_101 kS_312 ?_
                refine ex_icmp_eq 109 dX3_readEither_104 (by decide) (fun c23 => ?_) (fun c23 => ?_)
                · rw [if_pos c23] at hb
                  refine ex_aload_n dX3_readEither_109 rfl ?_
                  refine mx_getr 3 136 dX3_readEither_110 fl_X3_18 oc_at_142 (rf_3_0 oc_at_142) ?_
                  obtain ⟨M24, eM24, hb⟩ := ltE hb
                  refine mx_cVv [] [] 136 9 dX3_readEither_113 cl_X3_57 im_X9_take cy_X9_take (oc_3_0 oc_at_142) rfl (Nat.le_of_ble_eq_true rfl) (by omega) (t_X9_take l E u20 eM24.symm) ?_
                  refine ex_iconst 1 dX3_readEither_116 kI_1 ?_
                  refine ex_istore_n (L2 := [some (.ref 142), some (.int a1), some (.int 1), some (.int i2), none]) dX3_readEither_117 (by decide) rfl ?_
                  refine ex_iinc 1 (L2 := [some (.ref 142), some (.int a1), some (.int 1), some (.int (i2 + 1)), none]) dX3_readEither_118 rfl kI_1 (by decide) rfl ?_
                  refine ex_goto 4 dX3_readEither_121 (by decide) ?_
                  refine ex_mskL [true, true, true, true, false] (L2 := [some (.ref 142), some (.int a1), some (.int 1), some (.int (i2 + 1)), none]) rfl ?_
                  cases hb
                  exact hk (1, (i2 + 1), M24) rfl
                · rw [if_neg c23] at hb
                  refine ex_mskL [false, false, false, false, false] (L2 := [none, none, none, none, none]) rfl ?_
                  cases hb
                  cases (he _ rfl) <;> exact hx
              · rw [if_neg c21] at hb
                refine ex_aload_n dX3_readEither_83 rfl ?_
                refine mx_getr 3 143 dX3_readEither_84 fl_X3_12 oc_at_142 (rf_3_1 oc_at_142) ?_
                refine ex_sipush 312 dX3_readEither_87 kS_312 ?_
                refine ex_iconst 0 dX3_readEither_90 kI_0 ?_
                obtain ⟨M25, qM25, hb⟩ := b1E hb
                refine mx_cVv [.int 312, .int 0] [] 143 2 dX3_readEither_91 cl_X3_82 im_X2_addStep cy_X2_addStep (oc_3_1 oc_at_142) rfl (Nat.le_of_ble_eq_true rfl) (by omega) (t_X2_addStep l E 143 312 0 (oc_3_1 oc_at_142) u20 qM25) ?_
                refine ex_aload_n dX3_readEither_94 rfl ?_
                refine mx_getr 3 136 dX3_readEither_95 fl_X3_18 oc_at_142 (rf_3_0 oc_at_142) ?_
                obtain ⟨x26, qx26, hb⟩ := b1E hb
                refine mx_cVi [] [] 136 9 x26 dX3_readEither_98 cl_X3_42 im_X9_type cy_X9_type (oc_3_0 oc_at_142) rfl (Nat.le_of_ble_eq_true rfl) (by omega) (t_X9_type l E M25 qx26) ?_
                refine ex_sipush 312 dX3_readEither_101 kS_312 ?_
                refine ex_icmp_eq 109 dX3_readEither_104 (by decide) (fun c27 => ?_) (fun c27 => ?_)
                · rw [if_pos c27] at hb
                  refine ex_aload_n dX3_readEither_109 rfl ?_
                  refine mx_getr 3 136 dX3_readEither_110 fl_X3_18 oc_at_142 (rf_3_0 oc_at_142) ?_
                  obtain ⟨M28, eM28, hb⟩ := ltE hb
                  refine mx_cVv [] [] 136 9 dX3_readEither_113 cl_X3_57 im_X9_take cy_X9_take (oc_3_0 oc_at_142) rfl (Nat.le_of_ble_eq_true rfl) (by omega) (t_X9_take l E M25 eM28.symm) ?_
                  refine ex_iconst 1 dX3_readEither_116 kI_1 ?_
                  refine ex_istore_n (L2 := [some (.ref 142), some (.int a1), some (.int 1), some (.int i2), none]) dX3_readEither_117 (by decide) rfl ?_
                  refine ex_iinc 1 (L2 := [some (.ref 142), some (.int a1), some (.int 1), some (.int (i2 + 1)), none]) dX3_readEither_118 rfl kI_1 (by decide) rfl ?_
                  refine ex_goto 4 dX3_readEither_121 (by decide) ?_
                  refine ex_mskL [true, true, true, true, false] (L2 := [some (.ref 142), some (.int a1), some (.int 1), some (.int (i2 + 1)), none]) rfl ?_
                  cases hb
                  exact hk (1, (i2 + 1), M28) rfl
                · rw [if_neg c27] at hb
                  refine ex_mskL [false, false, false, false, false] (L2 := [none, none, none, none, none]) rfl ?_
                  cases hb
                  cases (he _ rfl) <;> exact hx
            clear hb
            have key : ∀ (k : Nat) (s : Int32 × Mem), lp (fun s => w_X3_readEither_24 r_X3_readCondition a1 s.1 s.2) k s = some (.inr u20) → XM l E (RX3, "readEither", cX3_readEither, 5) (some .boolean) (n + 4) 24 [some (.ref 142), some (.int a1), some (.int i1), some (.int i2), some (.int s.1)] [] s.2 M' (some (.int r)) := lp_ind (P := fun (s : Int32 × Mem) => XM l E (RX3, "readEither", cX3_readEither, 5) (some .boolean) (n + 4) 24 [some (.ref 142), some (.int a1), some (.int i1), some (.int i2), some (.int s.1)] [] s.2 M' (some (.int r))) (fun s t hb hk he => by
              obtain ⟨i8, M9⟩ := s
              show XM l E (RX3, "readEither", cX3_readEither, 5) (some .boolean) (n + 4) 24 [some (.ref 142), some (.int a1), some (.int i1), some (.int i2), some (.int i8)] [] M9 M' (some (.int r))
              change w_X3_readEither_24 r_X3_readCondition a1 i8 M9 = some t at hb
              unfold w_X3_readEither_24 at hb
              refine ex_iload dX3_readEither_24 rfl ?_
              refine ex_sipush 400 dX3_readEither_26 kS_400 ?_
              refine ex_icmp_ge 79 dX3_readEither_29 (by decide) (fun c10 => ?_) (fun c10 => ?_)
              · rw [if_pos c10] at hb
                refine ex_mskL [true, true, true, true, false] (L2 := [some (.ref 142), some (.int a1), some (.int i1), some (.int i2), none]) rfl ?_
                cases hb
                cases (he _ rfl) <;> exact hx
              · rw [if_neg c10] at hb
                refine ex_aload_n dX3_readEither_32 rfl ?_
                refine mx_getr 3 136 dX3_readEither_33 fl_X3_18 oc_at_142 (rf_3_0 oc_at_142) ?_
                obtain ⟨x11, qx11, hb⟩ := b1E hb
                refine mx_cVi [] [] 136 9 x11 dX3_readEither_36 cl_X3_42 im_X9_type cy_X9_type (oc_3_0 oc_at_142) rfl (Nat.le_of_ble_eq_true rfl) (by omega) (t_X9_type l E M9 qx11) ?_
                refine ex_sipush 313 dX3_readEither_39 kS_313 ?_
                refine ex_icmp_ne 79 dX3_readEither_42 (by decide) (fun c12 => ?_) (fun c12 => ?_)
                · rw [if_neg c12] at hb
                  refine ex_mskL [true, true, true, true, false] (L2 := [some (.ref 142), some (.int a1), some (.int i1), some (.int i2), none]) rfl ?_
                  cases hb
                  cases (he _ rfl) <;> exact hx
                · rw [if_pos c12] at hb
                  refine ex_aload_n dX3_readEither_45 rfl ?_
                  refine mx_getr 3 136 dX3_readEither_46 fl_X3_18 oc_at_142 (rf_3_0 oc_at_142) ?_
                  obtain ⟨M13, eM13, hb⟩ := ltE hb
                  refine mx_cVv [] [] 136 9 dX3_readEither_49 cl_X3_57 im_X9_take cy_X9_take (oc_3_0 oc_at_142) rfl (Nat.le_of_ble_eq_true rfl) (by omega) (t_X9_take l E M9 eM13.symm) ?_
                  refine ex_aload_n dX3_readEither_52 rfl ?_
                  refine ex_iload_n dX3_readEither_53 rfl ?_
                  obtain ⟨M14, x15, qx15, hb⟩ := b2E hb
                  refine mx_cVi [.int a1] [] 142 3 x15 dX3_readEither_54 cl_X3_79 im_X3_readCondition cy_X3_readCondition oc_at_142 rfl (Nat.le_of_ble_eq_true rfl) (by omega) (h_X3_readCondition a1 M13 qx15) ?_
                  refine ex_if_ne 62 dX3_readEither_57 (by decide) (fun c16 => ?_) (fun c16 => ?_)
                  · rw [if_neg c16] at hb
                    refine ex_aload_n dX3_readEither_62 rfl ?_
                    refine mx_getr 3 143 dX3_readEither_63 fl_X3_12 oc_at_142 (rf_3_1 oc_at_142) ?_
                    refine ex_sipush 313 dX3_readEither_66 kS_313 ?_
                    refine ex_iconst 0 dX3_readEither_69 kI_0 ?_
                    obtain ⟨M17, qM17, hb⟩ := b1E hb
                    refine mx_cVv [.int 313, .int 0] [] 143 2 dX3_readEither_70 cl_X3_82 im_X2_addStep cy_X2_addStep (oc_3_1 oc_at_142) rfl (Nat.le_of_ble_eq_true rfl) (by omega) (t_X2_addStep l E 143 313 0 (oc_3_1 oc_at_142) M14 qM17) ?_
                    refine ex_iinc 1 (L2 := [some (.ref 142), some (.int a1), some (.int i1), some (.int i2), some (.int (i8 + 1))]) dX3_readEither_73 rfl kI_1 (by decide) rfl ?_
                    refine ex_goto 24 dX3_readEither_76 (by decide) ?_
                    refine ex_mskL [true, true, true, true, true] (L2 := [some (.ref 142), some (.int a1), some (.int i1), some (.int i2), some (.int (i8 + 1))]) rfl ?_
                    cases hb
                    exact hk ((i8 + 1), M17) rfl
                  · rw [if_pos c16] at hb
                    refine ex_mskL [false, false, false, false, false] (L2 := [none, none, none, none, none]) rfl ?_
                    cases hb
                    cases (he _ rfl) <;> exact hx)
            exact key FU (0, M5) hlq18
        · rw [if_pos c7] at hb
          refine ex_mskL [false, false, false, false, false] (L2 := [none, none, none, none, none]) rfl ?_
          cases hb
          cases (he _ rfl) <;> exact hx)
    exact key FU (0, 0, M) hlq29
def gr_X3_readCondition_X3_readEither : Nat → (Int32 → Mem → Option (Mem × Int32)) × (Int32 → Mem → Option (Mem × Int32))
  | 0 => ((fun _ _ => none), (fun _ _ => none))
  | n + 1 => ((F_X3_readCondition (gr_X3_readCondition_X3_readEither n).1 (gr_X3_readCondition_X3_readEither n).2), (F_X3_readEither (gr_X3_readCondition_X3_readEither n).1 (gr_X3_readCondition_X3_readEither n).2))
def f_X3_readCondition (n : Nat) (a1 : Int32) (M : Mem) : Option (Mem × Int32) := (gr_X3_readCondition_X3_readEither n).1 a1 M
def f_X3_readEither (n : Nat) (a1 : Int32) (M : Mem) : Option (Mem × Int32) := (gr_X3_readCondition_X3_readEither n).2 a1 M
theorem tg_X3_readCondition_X3_readEither (l : Launch) (E : EV) : ∀ n : Nat, (∀ (a1 : Int32) (M : Mem) {M' : Mem} {r : Int32}, f_X3_readCondition n a1 M = some (M', r) → RunM l E yX3_readCondition cX3_readCondition 5 (some .boolean) (n + 3) [.ref 142, .int a1] M M' (some (.int r))) ∧ (∀ (a1 : Int32) (M : Mem) {M' : Mem} {r : Int32}, f_X3_readEither n a1 M = some (M', r) → RunM l E yX3_readEither cX3_readEither 5 (some .boolean) (n + 3) [.ref 142, .int a1] M M' (some (.int r)))
  | 0 => ⟨(by intros; rename_i h; cases h), (by intros; rename_i h; cases h)⟩
  | n + 1 => by
    have ih := tg_X3_readCondition_X3_readEither l E n
    refine ⟨?_, ?_⟩
    · intro a1 M M' r h
      exact T_X3_readCondition l E n _ _ ih.1 ih.2 a1 M h
    · intro a1 M M' r h
      exact T_X3_readEither l E n _ _ ih.1 ih.2 a1 M h
theorem t_X3_readCondition (l : Launch) (E : EV) (n : Nat) (a1 : Int32) (M : Mem) {M' : Mem} {r : Int32} (h : f_X3_readCondition n a1 M = some (M', r)) : RunM l E yX3_readCondition cX3_readCondition 5 (some .boolean) (n + 3) [.ref 142, .int a1] M M' (some (.int r)) := (tg_X3_readCondition_X3_readEither l E n).1 a1 M h
theorem t_X3_readEither (l : Launch) (E : EV) (n : Nat) (a1 : Int32) (M : Mem) {M' : Mem} {r : Int32} (h : f_X3_readEither n a1 M = some (M', r)) : RunM l E yX3_readEither cX3_readEither 5 (some .boolean) (n + 3) [.ref 142, .int a1] M M' (some (.int r)) := (tg_X3_readCondition_X3_readEither l E n).2 a1 M h
def f_X3_readLine (M : Mem) : Option (Mem × Int32) :=
  b1 (f_X9_type M) fun x1 => if (f_X10_within x1 307 310) = 0 then (b2 (f_X9_fails 1 M) fun M27 x28 => b1 (gz x28) fun x29 => some (M27, x29)) else (if (f_X2_isFull 143 M) = 0 then (lt (f_X9_take M) fun M4 => b1 (f_X2_beginLine 143 x1 M4) fun M5 => b2 (f_X3_readSum M5) fun M6 x7 => if x7 = 0 then (some (M6, 0)) else (b1 (f_X2_beginWhen 143 M6) fun M9 => b1 (f_X9_type M9) fun x10 => if x10 = 311 then (lt (f_X9_take M9) fun M16 => b2 (f_X3_readEither 40 0 M16) fun M17 x18 => if x18 = 0 then (some (M17, 0)) else (b1 (f_X2_closeLine 143 M17) fun M20 => b2 (f_X9_takes 59 M20) fun M21 x22 => b1 (gz x22) fun x23 => some (M21, x23))) else (b1 (f_X2_closeLine 143 M9) fun M12 => b2 (f_X9_takes 59 M12) fun M13 x14 => b1 (gz x14) fun x15 => some (M13, x15)))) else (b2 (f_X9_fails 3 M) fun M24 x25 => b1 (gz x25) fun x26 => some (M24, x26)))
set_option maxRecDepth 100000 in
set_option maxHeartbeats 4000000 in
theorem t_X3_readLine (l : Launch) (E : EV) (M : Mem) {M' : Mem} {r : Int32} (h : f_X3_readLine M = some (M', r)) : RunM l E yX3_readLine cX3_readLine 2 (some .boolean) 44 [.ref 142] M M' (some (.int r)) := by
  refine RunM.of (by decide) (Nat.le_of_ble_eq_true rfl) ?_
  show XM l E (RX3, "readLine", cX3_readLine, 2) (some .boolean) 44 0 [some (.ref 142), none] [] M M' (some (.int r))
  unfold f_X3_readLine at h
  refine ex_aload_n dX3_readLine_0 rfl ?_
  refine mx_getr 3 136 dX3_readLine_1 fl_X3_18 oc_at_142 (rf_3_0 oc_at_142) ?_
  obtain ⟨x1, qx1, h⟩ := b1E h
  refine mx_cVi [] [] 136 9 x1 dX3_readLine_4 cl_X3_42 im_X9_type cy_X9_type (oc_3_0 oc_at_142) rfl (Nat.le_of_ble_eq_true rfl) (by decide) (t_X9_type l E M qx1) ?_
  refine ex_istore_n (L2 := [some (.ref 142), some (.int x1)]) dX3_readLine_7 (by decide) rfl ?_
  refine ex_iload_n dX3_readLine_8 rfl ?_
  refine ex_sipush 307 dX3_readLine_9 kS_307 ?_
  refine ex_sipush 310 dX3_readLine_12 kS_310 ?_
  refine mx_cSi [.int x1, .int 307, .int 310] [] (f_X10_within x1 307 310) dX3_readLine_15 cl_X3_46 sm_X10_within rfl (Nat.le_of_ble_eq_true rfl) (by decide) (t_X10_within l E x1 307 310 M rfl) ?_
  refine ex_if_ne 30 dX3_readLine_18 (by decide) (fun c2 => ?_) (fun c2 => ?_)
  · rw [if_neg c2] at h
    refine ex_aload_n dX3_readLine_30 rfl ?_
    refine mx_getr 3 143 dX3_readLine_31 fl_X3_12 oc_at_142 (rf_3_1 oc_at_142) ?_
    refine mx_cVi [] [] 143 2 (f_X2_isFull 143 M) dX3_readLine_34 cl_X3_54 im_X2_isFull cy_X2_isFull (oc_3_1 oc_at_142) rfl (Nat.le_of_ble_eq_true rfl) (by decide) (t_X2_isFull l E 143 (oc_3_1 oc_at_142) M rfl) ?_
    refine ex_if_eq 49 dX3_readLine_37 (by decide) (fun c3 => ?_) (fun c3 => ?_)
    · rw [if_pos c3] at h
      refine ex_aload_n dX3_readLine_49 rfl ?_
      refine mx_getr 3 136 dX3_readLine_50 fl_X3_18 oc_at_142 (rf_3_0 oc_at_142) ?_
      obtain ⟨M4, eM4, h⟩ := ltE h
      refine mx_cVv [] [] 136 9 dX3_readLine_53 cl_X3_57 im_X9_take cy_X9_take (oc_3_0 oc_at_142) rfl (Nat.le_of_ble_eq_true rfl) (by decide) (t_X9_take l E M eM4.symm) ?_
      refine ex_aload_n dX3_readLine_56 rfl ?_
      refine mx_getr 3 143 dX3_readLine_57 fl_X3_12 oc_at_142 (rf_3_1 oc_at_142) ?_
      refine ex_iload_n dX3_readLine_60 rfl ?_
      obtain ⟨M5, qM5, h⟩ := b1E h
      refine mx_cVv [.int x1] [] 143 2 dX3_readLine_61 cl_X3_60 im_X2_beginLine cy_X2_beginLine (oc_3_1 oc_at_142) rfl (Nat.le_of_ble_eq_true rfl) (by decide) (t_X2_beginLine l E 143 x1 (oc_3_1 oc_at_142) M4 qM5) ?_
      refine ex_aload_n dX3_readLine_64 rfl ?_
      obtain ⟨M6, x7, qx7, h⟩ := b2E h
      refine mx_cVi [] [] 142 3 x7 dX3_readLine_65 cl_X3_64 im_X3_readSum cy_X3_readSum oc_at_142 rfl (Nat.le_of_ble_eq_true rfl) (by decide) (t_X3_readSum l E M5 qx7) ?_
      refine ex_if_ne 73 dX3_readLine_68 (by decide) (fun c8 => ?_) (fun c8 => ?_)
      · rw [if_neg c8] at h
        refine ex_aload_n dX3_readLine_73 rfl ?_
        refine mx_getr 3 143 dX3_readLine_74 fl_X3_12 oc_at_142 (rf_3_1 oc_at_142) ?_
        obtain ⟨M9, qM9, h⟩ := b1E h
        refine mx_cVv [] [] 143 2 dX3_readLine_77 cl_X3_67 im_X2_beginWhen cy_X2_beginWhen (oc_3_1 oc_at_142) rfl (Nat.le_of_ble_eq_true rfl) (by decide) (t_X2_beginWhen l E 143 (oc_3_1 oc_at_142) M6 qM9) ?_
        refine ex_aload_n dX3_readLine_80 rfl ?_
        refine mx_getr 3 136 dX3_readLine_81 fl_X3_18 oc_at_142 (rf_3_0 oc_at_142) ?_
        obtain ⟨x10, qx10, h⟩ := b1E h
        refine mx_cVi [] [] 136 9 x10 dX3_readLine_84 cl_X3_42 im_X9_type cy_X9_type (oc_3_0 oc_at_142) rfl (Nat.le_of_ble_eq_true rfl) (by decide) (t_X9_type l E M9 qx10) ?_
        refine ex_sipush 311 dX3_readLine_87 kS_311 ?_
        refine ex_icmp_ne 110 dX3_readLine_90 (by decide) (fun c11 => ?_) (fun c11 => ?_)
        · rw [if_neg c11] at h
          refine ex_aload_n dX3_readLine_110 rfl ?_
          refine mx_getr 3 143 dX3_readLine_111 fl_X3_12 oc_at_142 (rf_3_1 oc_at_142) ?_
          obtain ⟨M12, qM12, h⟩ := b1E h
          refine mx_cVv [] [] 143 2 dX3_readLine_114 cl_X3_73 im_X2_closeLine cy_X2_closeLine (oc_3_1 oc_at_142) rfl (Nat.le_of_ble_eq_true rfl) (by decide) (t_X2_closeLine l E 143 (oc_3_1 oc_at_142) M9 qM12) ?_
          refine ex_aload_n dX3_readLine_117 rfl ?_
          refine mx_getr 3 136 dX3_readLine_118 fl_X3_18 oc_at_142 (rf_3_0 oc_at_142) ?_
          refine ex_bipush 59 dX3_readLine_121 kB_59 ?_
          obtain ⟨M13, x14, qx14, h⟩ := b2E h
          refine mx_cVi [.int 59] [] 136 9 x14 dX3_readLine_123 cl_X3_76 im_X9_takes cy_X9_takes (oc_3_0 oc_at_142) rfl (Nat.le_of_ble_eq_true rfl) (by decide) (t_X9_takes l E 59 M12 qx14) ?_
          obtain ⟨x15, qx15, h⟩ := b1E h
          obtain ⟨ex15, nx15⟩ := gzE qx15
          rw [← ex15] at h
          cases h
          exact mx_reti .boolean dX3_readLine_126 ⟨rfl, nx15⟩
        · rw [if_pos c11] at h
          refine ex_aload_n dX3_readLine_93 rfl ?_
          refine mx_getr 3 136 dX3_readLine_94 fl_X3_18 oc_at_142 (rf_3_0 oc_at_142) ?_
          obtain ⟨M16, eM16, h⟩ := ltE h
          refine mx_cVv [] [] 136 9 dX3_readLine_97 cl_X3_57 im_X9_take cy_X9_take (oc_3_0 oc_at_142) rfl (Nat.le_of_ble_eq_true rfl) (by decide) (t_X9_take l E M9 eM16.symm) ?_
          refine ex_aload_n dX3_readLine_100 rfl ?_
          refine ex_iconst 0 dX3_readLine_101 kI_0 ?_
          obtain ⟨M17, x18, qx18, h⟩ := b2E h
          refine mx_cVi [.int 0] [] 142 3 x18 dX3_readLine_102 cl_X3_70 im_X3_readEither cy_X3_readEither oc_at_142 rfl (Nat.le_of_ble_eq_true rfl) (by decide) (t_X3_readEither l E 40 0 M16 qx18) ?_
          refine ex_if_ne 110 dX3_readLine_105 (by decide) (fun c19 => ?_) (fun c19 => ?_)
          · rw [if_neg c19] at h
            refine ex_aload_n dX3_readLine_110 rfl ?_
            refine mx_getr 3 143 dX3_readLine_111 fl_X3_12 oc_at_142 (rf_3_1 oc_at_142) ?_
            obtain ⟨M20, qM20, h⟩ := b1E h
            refine mx_cVv [] [] 143 2 dX3_readLine_114 cl_X3_73 im_X2_closeLine cy_X2_closeLine (oc_3_1 oc_at_142) rfl (Nat.le_of_ble_eq_true rfl) (by decide) (t_X2_closeLine l E 143 (oc_3_1 oc_at_142) M17 qM20) ?_
            refine ex_aload_n dX3_readLine_117 rfl ?_
            refine mx_getr 3 136 dX3_readLine_118 fl_X3_18 oc_at_142 (rf_3_0 oc_at_142) ?_
            refine ex_bipush 59 dX3_readLine_121 kB_59 ?_
            obtain ⟨M21, x22, qx22, h⟩ := b2E h
            refine mx_cVi [.int 59] [] 136 9 x22 dX3_readLine_123 cl_X3_76 im_X9_takes cy_X9_takes (oc_3_0 oc_at_142) rfl (Nat.le_of_ble_eq_true rfl) (by decide) (t_X9_takes l E 59 M20 qx22) ?_
            obtain ⟨x23, qx23, h⟩ := b1E h
            obtain ⟨ex23, nx23⟩ := gzE qx23
            rw [← ex23] at h
            cases h
            exact mx_reti .boolean dX3_readLine_126 ⟨rfl, nx23⟩
          · rw [if_pos c19] at h
            refine ex_iconst 0 dX3_readLine_108 kI_0 ?_
            cases h
            exact mx_reti .boolean dX3_readLine_109 ⟨rfl, by decide⟩
      · rw [if_pos c8] at h
        refine ex_iconst 0 dX3_readLine_71 kI_0 ?_
        cases h
        exact mx_reti .boolean dX3_readLine_72 ⟨rfl, by decide⟩
    · rw [if_neg c3] at h
      refine ex_aload_n dX3_readLine_40 rfl ?_
      refine mx_getr 3 136 dX3_readLine_41 fl_X3_18 oc_at_142 (rf_3_0 oc_at_142) ?_
      refine ex_iconst 3 dX3_readLine_44 kI_3 ?_
      obtain ⟨M24, x25, qx25, h⟩ := b2E h
      refine mx_cVi [.int 3] [] 136 9 x25 dX3_readLine_45 cl_X3_50 im_X9_fails cy_X9_fails (oc_3_0 oc_at_142) rfl (Nat.le_of_ble_eq_true rfl) (by decide) (t_X9_fails l E 3 M qx25) ?_
      obtain ⟨x26, qx26, h⟩ := b1E h
      obtain ⟨ex26, nx26⟩ := gzE qx26
      rw [← ex26] at h
      cases h
      exact mx_reti .boolean dX3_readLine_48 ⟨rfl, nx26⟩
  · rw [if_pos c2] at h
    refine ex_aload_n dX3_readLine_21 rfl ?_
    refine mx_getr 3 136 dX3_readLine_22 fl_X3_18 oc_at_142 (rf_3_0 oc_at_142) ?_
    refine ex_iconst 1 dX3_readLine_25 kI_1 ?_
    obtain ⟨M27, x28, qx28, h⟩ := b2E h
    refine mx_cVi [.int 1] [] 136 9 x28 dX3_readLine_26 cl_X3_50 im_X9_fails cy_X9_fails (oc_3_0 oc_at_142) rfl (Nat.le_of_ble_eq_true rfl) (by decide) (t_X9_fails l E 1 M qx28) ?_
    obtain ⟨x29, qx29, h⟩ := b1E h
    obtain ⟨ex29, nx29⟩ := gzE qx29
    rw [← ex29] at h
    cases h
    exact mx_reti .boolean dX3_readLine_29 ⟨rfl, nx29⟩
def w_X3_tell_9 (i2 : Int32) (M3 : Mem) : Option ((Int32 × Mem) ⊕ ((Mem) ⊕ (Mem))) :=
  if 16 < i2 then (some (.inr (.inr M3))) else (b1 (f_X9_atEnd M3) fun x5 => if x5 = 0 then (b2 (f_X3_readLine M3) fun M7 x8 => if x8 = 0 then (some (.inr (.inl M7))) else (some (.inl ((i2 + 1), M7)))) else (some (.inr (.inr M3))))
def f_X3_tell (a1 : Nat) (M : Mem) : Option (Mem × Int32) :=
  lt (f_X2_empty 143 M) fun M1 => b1 (lp (fun s => w_X3_tell_9 s.1 s.2) FU (0, M1)) fun q10 => match q10 with | .inl u11 => (some (u11, (-1))) | .inr u12 => (b1 (f_X2_copyFrom a1 143 u12) fun M13 => some (M13, (M13 a1 7)))
set_option maxRecDepth 100000 in
set_option maxHeartbeats 4000000 in
theorem t_X3_tell (l : Launch) (E : EV) (a1 : Nat) (ha1 : oc a1 = some 2) (M : Mem) {M' : Mem} {r : Int32} (h : f_X3_tell a1 M = some (M', r)) : RunM l E yX3_tell cX3_tell 3 (some .int) 45 [.ref 142, .ref a1] M M' (some (.int r)) := by
  refine RunM.of (by decide) (Nat.le_of_ble_eq_true rfl) ?_
  show XM l E (RX3, "tell", cX3_tell, 3) (some .int) 45 0 [some (.ref 142), some (.ref a1), none] [] M M' (some (.int r))
  unfold f_X3_tell at h
  refine ex_aload_n dX3_tell_0 rfl ?_
  refine mx_getr 3 143 dX3_tell_1 fl_X3_12 oc_at_142 (rf_3_1 oc_at_142) ?_
  obtain ⟨M1, eM1, h⟩ := ltE h
  refine mx_cVv [] [] 143 2 dX3_tell_4 cl_X3_22 im_X2_empty cy_X2_empty (oc_3_1 oc_at_142) rfl (Nat.le_of_ble_eq_true rfl) (by decide) (t_X2_empty l E 143 (oc_3_1 oc_at_142) M eM1.symm) ?_
  refine ex_iconst 0 dX3_tell_7 kI_0 ?_
  refine ex_istore_n (L2 := [some (.ref 142), some (.ref a1), some (.int 0)]) dX3_tell_8 (by decide) rfl ?_
  refine ex_mskL [true, true, true] (L2 := [some (.ref 142), some (.ref a1), some (.int 0)]) rfl ?_
  obtain ⟨q10, hlq10, h⟩ := b1E h
  rcases q10 with u11 | u12
  · dsimp only at h
    have hx : XM l E (RX3, "tell", cX3_tell, 3) (some .int) 45 32 [none, none, none] [] u11 M' (some (.int r)) := by
      refine ex_iconst (-1) dX3_tell_32 kI_m1 ?_
      cases h
      exact mx_reti .int dX3_tell_33 ⟨rfl, rfl⟩
    clear h
    have key : ∀ (k : Nat) (s : Int32 × Mem), lp (fun s => w_X3_tell_9 s.1 s.2) k s = some (.inl u11) → XM l E (RX3, "tell", cX3_tell, 3) (some .int) 45 9 [some (.ref 142), some (.ref a1), some (.int s.1)] [] s.2 M' (some (.int r)) := lp_ind (P := fun (s : Int32 × Mem) => XM l E (RX3, "tell", cX3_tell, 3) (some .int) 45 9 [some (.ref 142), some (.ref a1), some (.int s.1)] [] s.2 M' (some (.int r))) (fun s t hb hk he => by
      obtain ⟨i2, M3⟩ := s
      show XM l E (RX3, "tell", cX3_tell, 3) (some .int) 45 9 [some (.ref 142), some (.ref a1), some (.int i2)] [] M3 M' (some (.int r))
      change w_X3_tell_9 i2 M3 = some t at hb
      unfold w_X3_tell_9 at hb
      refine ex_iload_n dX3_tell_9 rfl ?_
      refine ex_bipush 16 dX3_tell_10 kB_16 ?_
      refine ex_icmp_gt 40 dX3_tell_12 (by decide) (fun c4 => ?_) (fun c4 => ?_)
      · rw [if_pos c4] at hb
        refine ex_mskL [true, true, false] (L2 := [some (.ref 142), some (.ref a1), none]) rfl ?_
        cases hb
        cases (he _ rfl) <;> exact hx
      · rw [if_neg c4] at hb
        refine ex_aload_n dX3_tell_15 rfl ?_
        refine mx_getr 3 136 dX3_tell_16 fl_X3_18 oc_at_142 (rf_3_0 oc_at_142) ?_
        obtain ⟨x5, qx5, hb⟩ := b1E hb
        refine mx_cVi [] [] 136 9 x5 dX3_tell_19 cl_X3_25 im_X9_atEnd cy_X9_atEnd (oc_3_0 oc_at_142) rfl (Nat.le_of_ble_eq_true rfl) (by decide) (t_X9_atEnd l E M3 qx5) ?_
        refine ex_if_ne 40 dX3_tell_22 (by decide) (fun c6 => ?_) (fun c6 => ?_)
        · rw [if_neg c6] at hb
          refine ex_mskL [true, true, false] (L2 := [some (.ref 142), some (.ref a1), none]) rfl ?_
          cases hb
          cases (he _ rfl) <;> exact hx
        · rw [if_pos c6] at hb
          refine ex_aload_n dX3_tell_25 rfl ?_
          obtain ⟨M7, x8, qx8, hb⟩ := b2E hb
          refine mx_cVi [] [] 142 3 x8 dX3_tell_26 cl_X3_31 im_X3_readLine cy_X3_readLine oc_at_142 rfl (Nat.le_of_ble_eq_true rfl) (by decide) (t_X3_readLine l E M3 qx8) ?_
          refine ex_if_ne 34 dX3_tell_29 (by decide) (fun c9 => ?_) (fun c9 => ?_)
          · rw [if_neg c9] at hb
            refine ex_iinc 1 (L2 := [some (.ref 142), some (.ref a1), some (.int (i2 + 1))]) dX3_tell_34 rfl kI_1 (by decide) rfl ?_
            refine ex_goto 9 dX3_tell_37 (by decide) ?_
            refine ex_mskL [true, true, true] (L2 := [some (.ref 142), some (.ref a1), some (.int (i2 + 1))]) rfl ?_
            cases hb
            exact hk ((i2 + 1), M7) rfl
          · rw [if_pos c9] at hb
            refine ex_mskL [false, false, false] (L2 := [none, none, none]) rfl ?_
            cases hb
            cases (he _ rfl) <;> exact hx)
    exact key FU (0, M1) hlq10
  · dsimp only at h
    have hx : XM l E (RX3, "tell", cX3_tell, 3) (some .int) 45 40 [some (.ref 142), some (.ref a1), none] [] u12 M' (some (.int r)) := by
      refine ex_aload_n dX3_tell_40 rfl ?_
      refine ex_aload_n dX3_tell_41 rfl ?_
      refine mx_getr 3 143 dX3_tell_42 fl_X3_12 oc_at_142 (rf_3_1 oc_at_142) ?_
      obtain ⟨M13, qM13, h⟩ := b1E h
      refine mx_cVv [.ref 143] [] a1 2 dX3_tell_45 cl_X3_34 im_X2_copyFrom cy_X2_copyFrom ha1 rfl (Nat.le_of_ble_eq_true rfl) (by decide) (t_X2_copyFrom l E a1 143 ha1 (oc_3_1 oc_at_142) u12 qM13) ?_
      refine ex_aload_n dX3_tell_48 rfl ?_
      refine mx_geti 2 dX3_tell_49 fl_X3_38 ha1 (isi_2_7 ha1) ?_
      cases h
      exact mx_reti .int dX3_tell_52 ⟨rfl, rfl⟩
    clear h
    have key : ∀ (k : Nat) (s : Int32 × Mem), lp (fun s => w_X3_tell_9 s.1 s.2) k s = some (.inr u12) → XM l E (RX3, "tell", cX3_tell, 3) (some .int) 45 9 [some (.ref 142), some (.ref a1), some (.int s.1)] [] s.2 M' (some (.int r)) := lp_ind (P := fun (s : Int32 × Mem) => XM l E (RX3, "tell", cX3_tell, 3) (some .int) 45 9 [some (.ref 142), some (.ref a1), some (.int s.1)] [] s.2 M' (some (.int r))) (fun s t hb hk he => by
      obtain ⟨i2, M3⟩ := s
      show XM l E (RX3, "tell", cX3_tell, 3) (some .int) 45 9 [some (.ref 142), some (.ref a1), some (.int i2)] [] M3 M' (some (.int r))
      change w_X3_tell_9 i2 M3 = some t at hb
      unfold w_X3_tell_9 at hb
      refine ex_iload_n dX3_tell_9 rfl ?_
      refine ex_bipush 16 dX3_tell_10 kB_16 ?_
      refine ex_icmp_gt 40 dX3_tell_12 (by decide) (fun c4 => ?_) (fun c4 => ?_)
      · rw [if_pos c4] at hb
        refine ex_mskL [true, true, false] (L2 := [some (.ref 142), some (.ref a1), none]) rfl ?_
        cases hb
        cases (he _ rfl) <;> exact hx
      · rw [if_neg c4] at hb
        refine ex_aload_n dX3_tell_15 rfl ?_
        refine mx_getr 3 136 dX3_tell_16 fl_X3_18 oc_at_142 (rf_3_0 oc_at_142) ?_
        obtain ⟨x5, qx5, hb⟩ := b1E hb
        refine mx_cVi [] [] 136 9 x5 dX3_tell_19 cl_X3_25 im_X9_atEnd cy_X9_atEnd (oc_3_0 oc_at_142) rfl (Nat.le_of_ble_eq_true rfl) (by decide) (t_X9_atEnd l E M3 qx5) ?_
        refine ex_if_ne 40 dX3_tell_22 (by decide) (fun c6 => ?_) (fun c6 => ?_)
        · rw [if_neg c6] at hb
          refine ex_mskL [true, true, false] (L2 := [some (.ref 142), some (.ref a1), none]) rfl ?_
          cases hb
          cases (he _ rfl) <;> exact hx
        · rw [if_pos c6] at hb
          refine ex_aload_n dX3_tell_25 rfl ?_
          obtain ⟨M7, x8, qx8, hb⟩ := b2E hb
          refine mx_cVi [] [] 142 3 x8 dX3_tell_26 cl_X3_31 im_X3_readLine cy_X3_readLine oc_at_142 rfl (Nat.le_of_ble_eq_true rfl) (by decide) (t_X3_readLine l E M3 qx8) ?_
          refine ex_if_ne 34 dX3_tell_29 (by decide) (fun c9 => ?_) (fun c9 => ?_)
          · rw [if_neg c9] at hb
            refine ex_iinc 1 (L2 := [some (.ref 142), some (.ref a1), some (.int (i2 + 1))]) dX3_tell_34 rfl kI_1 (by decide) rfl ?_
            refine ex_goto 9 dX3_tell_37 (by decide) ?_
            refine ex_mskL [true, true, true] (L2 := [some (.ref 142), some (.ref a1), some (.int (i2 + 1))]) rfl ?_
            cases hb
            exact hk ((i2 + 1), M7) rfl
          · rw [if_pos c9] at hb
            refine ex_mskL [false, false, false] (L2 := [none, none, none]) rfl ?_
            cases hb
            cases (he _ rfl) <;> exact hx)
    exact key FU (0, M1) hlq10
def f_X8_empty (o : Nat) (M : Mem) : (Mem × Int32) :=
  lt (up2 M o 3 0) fun M1 => (M1, (M1 o 3))
set_option maxRecDepth 100000 in
set_option maxHeartbeats 4000000 in
theorem t_X8_empty (l : Launch) (E : EV) (o : Nat) (ho : oc o = some 8) (M : Mem) {M' : Mem} {r : Int32} (h : f_X8_empty o M = (M', r)) : RunM l E yX8_empty cX8_empty 1 (some .int) 0 [.ref o] M M' (some (.int r)) := by
  refine RunM.of (by decide) (Nat.le_of_ble_eq_true rfl) ?_
  show XM l E (RX8, "empty", cX8_empty, 1) (some .int) 0 0 [some (.ref o)] [] M M' (some (.int r))
  unfold f_X8_empty at h
  refine ex_aload_n dX8_empty_0 rfl ?_
  refine ex_iconst 0 dX8_empty_1 kI_0 ?_
  obtain ⟨M1, eM1, h⟩ := ltE h
  refine mx_puti 8 dX8_empty_2 fl_X8_22 rfl ⟨rfl, rfl⟩ ho (isi_8_3 ho) ?_
  rw [← eM1]
  refine ex_aload_n dX8_empty_5 rfl ?_
  refine mx_geti 8 dX8_empty_6 fl_X8_22 ho (isi_8_3 ho) ?_
  cases h
  exact mx_reti .int dX8_empty_9 ⟨rfl, rfl⟩
def f_X8_isFull (o : Nat) (M : Mem) : (Int32) :=
  lt ((if (M o 3) < (M o 0) then 0 else 1) : Int32) fun x2 => x2
theorem z_X8_isFull (o : Nat) (M : Mem) : f_X8_isFull o M = 0 ∨ f_X8_isFull o M = 1 := by
  unfold f_X8_isFull
  (repeat' split) <;> first | exact Or.inl rfl | exact Or.inr rfl
set_option maxRecDepth 100000 in
set_option maxHeartbeats 4000000 in
theorem t_X8_isFull (l : Launch) (E : EV) (o : Nat) (ho : oc o = some 8) (M : Mem) {r : Int32} (h : f_X8_isFull o M = r) : RunM l E yX8_isFull cX8_isFull 1 (some .boolean) 0 [.ref o] M M (some (.int r)) := by
  refine RunM.of (by decide) (Nat.le_of_ble_eq_true rfl) ?_
  show XM l E (RX8, "isFull", cX8_isFull, 1) (some .boolean) 0 0 [some (.ref o)] [] M M (some (.int r))
  unfold f_X8_isFull at h
  refine ex_aload_n dX8_isFull_0 rfl ?_
  refine mx_geti 8 dX8_isFull_1 fl_X8_22 ho (isi_8_3 ho) ?_
  refine ex_aload_n dX8_isFull_4 rfl ?_
  refine mx_geti 8 dX8_isFull_5 fl_X8_9 ho (isi_8_0 ho) ?_
  obtain ⟨x2, ex2, h⟩ := ltE h
  have Jx2 : XM l E (RX8, "isFull", cX8_isFull, 1) (some .boolean) 0 16 [some (.ref o)] [.int x2] M M (some (.int r)) := by
    subst h
    exact mx_reti .boolean dX8_isFull_16 ⟨rfl, nzB (by rw [ex2]; (repeat' split) <;> simp)⟩
  clear h
  refine ex_icmp_lt 15 dX8_isFull_8 (by decide) (fun c1 => ?_) (fun c1 => ?_)
  · rw [if_pos c1] at ex2
    refine ex_iconst 0 dX8_isFull_15 kI_0 ?_
    subst ex2
    exact Jx2
  · rw [if_neg c1] at ex2
    refine ex_iconst 1 dX8_isFull_11 kI_1 ?_
    refine ex_goto 16 dX8_isFull_12 (by decide) ?_
    subst ex2
    exact Jx2
def f_X8_put (o : Nat) (a1 : Int32) (a2 : Int32) (a3 : Int32) (M : Mem) : Option (Mem) :=
  b1 (f_X8_cellOf o a1 a2 M) fun x1 => if x1 < 0 then (some M) else (b1 (wr M (o + 1) x1 a3) fun M3 => some M3)
set_option maxRecDepth 100000 in
set_option maxHeartbeats 4000000 in
theorem t_X8_put (l : Launch) (E : EV) (o : Nat) (a1 : Int32) (a2 : Int32) (a3 : Int32) (ho : oc o = some 8) (M : Mem) {M' : Mem} (h : f_X8_put o a1 a2 a3 M = some M') : RunM l E yX8_put cX8_put 5 none 1 [.ref o, .int a1, .int a2, .int a3] M M' none := by
  refine RunM.of (by decide) (Nat.le_of_ble_eq_true rfl) ?_
  show XM l E (RX8, "put", cX8_put, 5) none 1 0 [some (.ref o), some (.int a1), some (.int a2), some (.int a3), none] [] M M' none
  unfold f_X8_put at h
  refine ex_aload_n dX8_put_0 rfl ?_
  refine ex_iload_n dX8_put_1 rfl ?_
  refine ex_iload_n dX8_put_2 rfl ?_
  obtain ⟨x1, qx1, h⟩ := b1E h
  refine mx_cVi [.int a1, .int a2] [] o 8 x1 dX8_put_3 cl_X8_25 im_X8_cellOf cy_X8_cellOf ho rfl (Nat.le_of_ble_eq_true rfl) (by decide) (t_X8_cellOf l E o a1 a2 ho M qx1) ?_
  refine ex_istore (L2 := [some (.ref o), some (.int a1), some (.int a2), some (.int a3), some (.int x1)]) dX8_put_6 (by decide) rfl ?_
  refine ex_iload dX8_put_8 rfl ?_
  refine ex_if_lt 21 dX8_put_10 (by decide) (fun c2 => ?_) (fun c2 => ?_)
  · rw [if_pos c2] at h
    cases h
    exact mx_retv dX8_put_21 rfl
  · rw [if_neg c2] at h
    refine ex_aload_n dX8_put_13 rfl ?_
    refine mx_getr 8 (o + 1) dX8_put_14 fl_X8_18 ho (rf_8_2 ho) ?_
    refine ex_iload dX8_put_17 rfl ?_
    refine ex_iload_n dX8_put_19 rfl ?_
    obtain ⟨M3, qM3, h⟩ := b1E h
    refine mx_iast M3 dX8_put_20 qM3 ?_
    cases h
    exact mx_retv dX8_put_21 rfl
def w_X8_addEmpty_21 (o : Nat) (i3 : Int32) (M4 : Mem) : Option ((Int32 × Mem) ⊕ (Mem)) :=
  if (M4 o 1) ≤ i3 then (some (.inr M4)) else (b1 (f_X8_put o ((M4 o 3) - 1) i3 0 M4) fun M6 => some (.inl ((i3 + 1), M6)))
def f_X8_addEmpty (o : Nat) (M : Mem) : Option (Mem × Int32) :=
  if (f_X8_isFull o M) = 0 then (lt (up2 M o 3 ((M o 3) + 1)) fun M2 => b1 (lp (fun s => w_X8_addEmpty_21 o s.1 s.2) FU (0, M2)) fun q7 => some (q7, ((q7 o 3) - 1))) else (some (M, (-1)))
set_option maxRecDepth 100000 in
set_option maxHeartbeats 4000000 in
theorem t_X8_addEmpty (l : Launch) (E : EV) (o : Nat) (ho : oc o = some 8) (M : Mem) {M' : Mem} {r : Int32} (h : f_X8_addEmpty o M = some (M', r)) : RunM l E yX8_addEmpty cX8_addEmpty 2 (some .int) 2 [.ref o] M M' (some (.int r)) := by
  refine RunM.of (by decide) (Nat.le_of_ble_eq_true rfl) ?_
  show XM l E (RX8, "addEmpty", cX8_addEmpty, 2) (some .int) 2 0 [some (.ref o), none] [] M M' (some (.int r))
  unfold f_X8_addEmpty at h
  refine ex_aload_n dX8_addEmpty_0 rfl ?_
  refine mx_cVi [] [] o 8 (f_X8_isFull o M) dX8_addEmpty_1 cl_X8_29 im_X8_isFull cy_X8_isFull ho rfl (Nat.le_of_ble_eq_true rfl) (by decide) (t_X8_isFull l E o ho M rfl) ?_
  refine ex_if_eq 9 dX8_addEmpty_4 (by decide) (fun c1 => ?_) (fun c1 => ?_)
  · rw [if_pos c1] at h
    refine ex_aload_n dX8_addEmpty_9 rfl ?_
    refine ex_dup dX8_addEmpty_10 rfl ?_
    refine mx_geti 8 dX8_addEmpty_11 fl_X8_22 ho (isi_8_3 ho) ?_
    refine ex_iconst 1 dX8_addEmpty_14 kI_1 ?_
    refine ex_iadd dX8_addEmpty_15 ?_
    obtain ⟨M2, eM2, h⟩ := ltE h
    refine mx_puti 8 dX8_addEmpty_16 fl_X8_22 rfl ⟨rfl, rfl⟩ ho (isi_8_3 ho) ?_
    rw [← eM2]
    refine ex_iconst 0 dX8_addEmpty_19 kI_0 ?_
    refine ex_istore_n (L2 := [some (.ref o), some (.int 0)]) dX8_addEmpty_20 (by decide) rfl ?_
    refine ex_mskL [true, true] (L2 := [some (.ref o), some (.int 0)]) rfl ?_
    obtain ⟨q7, hlq7, h⟩ := b1E h
    have hx : XM l E (RX8, "addEmpty", cX8_addEmpty, 2) (some .int) 2 47 [some (.ref o), none] [] q7 M' (some (.int r)) := by
      refine ex_aload_n dX8_addEmpty_47 rfl ?_
      refine mx_geti 8 dX8_addEmpty_48 fl_X8_22 ho (isi_8_3 ho) ?_
      refine ex_iconst 1 dX8_addEmpty_51 kI_1 ?_
      refine ex_isub dX8_addEmpty_52 ?_
      cases h
      exact mx_reti .int dX8_addEmpty_53 ⟨rfl, rfl⟩
    clear h
    have key : ∀ (k : Nat) (s : Int32 × Mem), lp (fun s => w_X8_addEmpty_21 o s.1 s.2) k s = some q7 → XM l E (RX8, "addEmpty", cX8_addEmpty, 2) (some .int) 2 21 [some (.ref o), some (.int s.1)] [] s.2 M' (some (.int r)) := lp_ind (P := fun (s : Int32 × Mem) => XM l E (RX8, "addEmpty", cX8_addEmpty, 2) (some .int) 2 21 [some (.ref o), some (.int s.1)] [] s.2 M' (some (.int r))) (fun s t hb hk he => by
      obtain ⟨i3, M4⟩ := s
      show XM l E (RX8, "addEmpty", cX8_addEmpty, 2) (some .int) 2 21 [some (.ref o), some (.int i3)] [] M4 M' (some (.int r))
      change w_X8_addEmpty_21 o i3 M4 = some t at hb
      unfold w_X8_addEmpty_21 at hb
      refine ex_iload_n dX8_addEmpty_21 rfl ?_
      refine ex_aload_n dX8_addEmpty_22 rfl ?_
      refine mx_geti 8 dX8_addEmpty_23 fl_X8_15 ho (isi_8_1 ho) ?_
      refine ex_icmp_ge 47 dX8_addEmpty_26 (by decide) (fun c5 => ?_) (fun c5 => ?_)
      · rw [if_pos c5] at hb
        refine ex_mskL [true, false] (L2 := [some (.ref o), none]) rfl ?_
        cases hb
        cases (he _ rfl) <;> exact hx
      · rw [if_neg c5] at hb
        refine ex_aload_n dX8_addEmpty_29 rfl ?_
        refine ex_aload_n dX8_addEmpty_30 rfl ?_
        refine mx_geti 8 dX8_addEmpty_31 fl_X8_22 ho (isi_8_3 ho) ?_
        refine ex_iconst 1 dX8_addEmpty_34 kI_1 ?_
        refine ex_isub dX8_addEmpty_35 ?_
        refine ex_iload_n dX8_addEmpty_36 rfl ?_
        refine ex_iconst 0 dX8_addEmpty_37 kI_0 ?_
        obtain ⟨M6, qM6, hb⟩ := b1E hb
        refine mx_cVv [.int ((M4 o 3) - 1), .int i3, .int 0] [] o 8 dX8_addEmpty_38 cl_X8_33 im_X8_put cy_X8_put ho rfl (Nat.le_of_ble_eq_true rfl) (by decide) (t_X8_put l E o ((M4 o 3) - 1) i3 0 ho M4 qM6) ?_
        refine ex_iinc 1 (L2 := [some (.ref o), some (.int (i3 + 1))]) dX8_addEmpty_41 rfl kI_1 (by decide) rfl ?_
        refine ex_goto 21 dX8_addEmpty_44 (by decide) ?_
        refine ex_mskL [true, true] (L2 := [some (.ref o), some (.int (i3 + 1))]) rfl ?_
        cases hb
        exact hk ((i3 + 1), M6) rfl)
    exact key FU (0, M2) hlq7
  · rw [if_neg c1] at h
    refine ex_iconst (-1) dX8_addEmpty_7 kI_m1 ?_
    cases h
    exact mx_reti .int dX8_addEmpty_8 ⟨rfl, rfl⟩
def f_X4_begins (a1 : Int32) (a2 : Nat) (M : Mem) : Option (Mem × Int32) :=
  b1 (f_X9_type M) fun x1 => if x1 = a1 then (b2 (f_X8_addEmpty a2 M) fun M3 x4 => if x4 = (-1) then (b2 (f_X9_fails 3 M3) fun M7 x8 => b1 (gz x8) fun x9 => some (M7, x9)) else (lt (f_X9_take M3) fun M6 => some (M6, 1))) else (b2 (f_X9_fails 1 M) fun M10 x11 => b1 (gz x11) fun x12 => some (M10, x12))
set_option maxRecDepth 100000 in
set_option maxHeartbeats 4000000 in
theorem t_X4_begins (l : Launch) (E : EV) (a1 : Int32) (a2 : Nat) (ha2 : oc a2 = some 8) (M : Mem) {M' : Mem} {r : Int32} (h : f_X4_begins a1 a2 M = some (M', r)) : RunM l E yX4_begins cX4_begins 3 (some .boolean) 3 [.ref 141, .int a1, .ref a2] M M' (some (.int r)) := by
  refine RunM.of (by decide) (Nat.le_of_ble_eq_true rfl) ?_
  show XM l E (RX4, "begins", cX4_begins, 3) (some .boolean) 3 0 [some (.ref 141), some (.int a1), some (.ref a2)] [] M M' (some (.int r))
  unfold f_X4_begins at h
  refine ex_aload_n dX4_begins_0 rfl ?_
  refine mx_getr 4 136 dX4_begins_1 fl_X4_9 oc_at_141 (rf_4_0 oc_at_141) ?_
  obtain ⟨x1, qx1, h⟩ := b1E h
  refine mx_cVi [] [] 136 9 x1 dX4_begins_4 cl_X4_64 im_X9_type cy_X9_type (oc_4_0 oc_at_141) rfl (Nat.le_of_ble_eq_true rfl) (by decide) (t_X9_type l E M qx1) ?_
  refine ex_iload_n dX4_begins_7 rfl ?_
  refine ex_icmp_eq 20 dX4_begins_8 (by decide) (fun c2 => ?_) (fun c2 => ?_)
  · rw [if_pos c2] at h
    refine ex_aload_n dX4_begins_20 rfl ?_
    obtain ⟨M3, x4, qx4, h⟩ := b2E h
    refine mx_cVi [] [] a2 8 x4 dX4_begins_21 cl_X4_80 im_X8_addEmpty cy_X8_addEmpty ha2 rfl (Nat.le_of_ble_eq_true rfl) (by decide) (t_X8_addEmpty l E a2 ha2 M qx4) ?_
    refine ex_iconst (-1) dX4_begins_24 kI_m1 ?_
    refine ex_icmp_ne 37 dX4_begins_25 (by decide) (fun c5 => ?_) (fun c5 => ?_)
    · rw [if_neg c5] at h
      refine ex_aload_n dX4_begins_37 rfl ?_
      refine mx_getr 4 136 dX4_begins_38 fl_X4_9 oc_at_141 (rf_4_0 oc_at_141) ?_
      obtain ⟨M6, eM6, h⟩ := ltE h
      refine mx_cVv [] [] 136 9 dX4_begins_41 cl_X4_77 im_X9_take cy_X9_take (oc_4_0 oc_at_141) rfl (Nat.le_of_ble_eq_true rfl) (by decide) (t_X9_take l E M3 eM6.symm) ?_
      refine ex_iconst 1 dX4_begins_44 kI_1 ?_
      cases h
      exact mx_reti .boolean dX4_begins_45 ⟨rfl, by decide⟩
    · rw [if_pos c5] at h
      refine ex_aload_n dX4_begins_28 rfl ?_
      refine mx_getr 4 136 dX4_begins_29 fl_X4_9 oc_at_141 (rf_4_0 oc_at_141) ?_
      refine ex_iconst 3 dX4_begins_32 kI_3 ?_
      obtain ⟨M7, x8, qx8, h⟩ := b2E h
      refine mx_cVi [.int 3] [] 136 9 x8 dX4_begins_33 cl_X4_74 im_X9_fails cy_X9_fails (oc_4_0 oc_at_141) rfl (Nat.le_of_ble_eq_true rfl) (by decide) (t_X9_fails l E 3 M3 qx8) ?_
      obtain ⟨x9, qx9, h⟩ := b1E h
      obtain ⟨ex9, nx9⟩ := gzE qx9
      rw [← ex9] at h
      cases h
      exact mx_reti .boolean dX4_begins_36 ⟨rfl, nx9⟩
  · rw [if_neg c2] at h
    refine ex_aload_n dX4_begins_11 rfl ?_
    refine mx_getr 4 136 dX4_begins_12 fl_X4_9 oc_at_141 (rf_4_0 oc_at_141) ?_
    refine ex_iconst 1 dX4_begins_15 kI_1 ?_
    obtain ⟨M10, x11, qx11, h⟩ := b2E h
    refine mx_cVi [.int 1] [] 136 9 x11 dX4_begins_16 cl_X4_74 im_X9_fails cy_X9_fails (oc_4_0 oc_at_141) rfl (Nat.le_of_ble_eq_true rfl) (by decide) (t_X9_fails l E 1 M qx11) ?_
    obtain ⟨x12, qx12, h⟩ := b1E h
    obtain ⟨ex12, nx12⟩ := gzE qx12
    rw [← ex12] at h
    cases h
    exact mx_reti .boolean dX4_begins_19 ⟨rfl, nx12⟩
def f_X4_takesNumber (a1 : Nat) (a2 : Int32) (a3 : Int32) (a4 : Int32) (M : Mem) : Option (Mem × Int32) :=
  b1 (f_X9_type M) fun x1 => if x1 = 256 then (b1 (f_X9_value M) fun x3 => if (f_X10_within x3 a3 a4) = 0 then (b2 (f_X9_fails 2 M) fun M8 x9 => b1 (gz x9) fun x10 => some (M8, x10)) else (b1 (f_X9_value M) fun x5 => b1 (f_X8_put a1 ((M a1 3) - 1) a2 x5 M) fun M6 => lt (f_X9_take M6) fun M7 => some (M7, 1))) else (b2 (f_X9_fails 1 M) fun M11 x12 => b1 (gz x12) fun x13 => some (M11, x13))
set_option maxRecDepth 100000 in
set_option maxHeartbeats 4000000 in
theorem t_X4_takesNumber (l : Launch) (E : EV) (a1 : Nat) (a2 : Int32) (a3 : Int32) (a4 : Int32) (ha1 : oc a1 = some 8) (M : Mem) {M' : Mem} {r : Int32} (h : f_X4_takesNumber a1 a2 a3 a4 M = some (M', r)) : RunM l E yX4_takesNumber cX4_takesNumber 5 (some .boolean) 2 [.ref 141, .ref a1, .int a2, .int a3, .int a4] M M' (some (.int r)) := by
  refine RunM.of (by decide) (Nat.le_of_ble_eq_true rfl) ?_
  show XM l E (RX4, "takesNumber", cX4_takesNumber, 5) (some .boolean) 2 0 [some (.ref 141), some (.ref a1), some (.int a2), some (.int a3), some (.int a4)] [] M M' (some (.int r))
  unfold f_X4_takesNumber at h
  refine ex_aload_n dX4_takesNumber_0 rfl ?_
  refine mx_getr 4 136 dX4_takesNumber_1 fl_X4_9 oc_at_141 (rf_4_0 oc_at_141) ?_
  obtain ⟨x1, qx1, h⟩ := b1E h
  refine mx_cVi [] [] 136 9 x1 dX4_takesNumber_4 cl_X4_64 im_X9_type cy_X9_type (oc_4_0 oc_at_141) rfl (Nat.le_of_ble_eq_true rfl) (by decide) (t_X9_type l E M qx1) ?_
  refine ex_sipush 256 dX4_takesNumber_7 kS_256 ?_
  refine ex_icmp_eq 22 dX4_takesNumber_10 (by decide) (fun c2 => ?_) (fun c2 => ?_)
  · rw [if_pos c2] at h
    refine ex_aload_n dX4_takesNumber_22 rfl ?_
    refine mx_getr 4 136 dX4_takesNumber_23 fl_X4_9 oc_at_141 (rf_4_0 oc_at_141) ?_
    obtain ⟨x3, qx3, h⟩ := b1E h
    refine mx_cVi [] [] 136 9 x3 dX4_takesNumber_26 cl_X4_67 im_X9_value cy_X9_value (oc_4_0 oc_at_141) rfl (Nat.le_of_ble_eq_true rfl) (by decide) (t_X9_value l E M qx3) ?_
    refine ex_iload_n dX4_takesNumber_29 rfl ?_
    refine ex_iload dX4_takesNumber_30 rfl ?_
    refine mx_cSi [.int x3, .int a3, .int a4] [] (f_X10_within x3 a3 a4) dX4_takesNumber_32 cl_X4_83 sm_X10_within rfl (Nat.le_of_ble_eq_true rfl) (by decide) (t_X10_within l E x3 a3 a4 M rfl) ?_
    refine ex_if_ne 47 dX4_takesNumber_35 (by decide) (fun c4 => ?_) (fun c4 => ?_)
    · rw [if_neg c4] at h
      refine ex_aload_n dX4_takesNumber_47 rfl ?_
      refine ex_aload_n dX4_takesNumber_48 rfl ?_
      refine mx_geti 8 dX4_takesNumber_49 fl_X4_60 ha1 (isi_8_3 ha1) ?_
      refine ex_iconst 1 dX4_takesNumber_52 kI_1 ?_
      refine ex_isub dX4_takesNumber_53 ?_
      refine ex_iload_n dX4_takesNumber_54 rfl ?_
      refine ex_aload_n dX4_takesNumber_55 rfl ?_
      refine mx_getr 4 136 dX4_takesNumber_56 fl_X4_9 oc_at_141 (rf_4_0 oc_at_141) ?_
      obtain ⟨x5, qx5, h⟩ := b1E h
      refine mx_cVi [] [.int a2, .int ((M a1 3) - 1), .ref a1] 136 9 x5 dX4_takesNumber_59 cl_X4_67 im_X9_value cy_X9_value (oc_4_0 oc_at_141) rfl (Nat.le_of_ble_eq_true rfl) (by decide) (t_X9_value l E M qx5) ?_
      obtain ⟨M6, qM6, h⟩ := b1E h
      refine mx_cVv [.int ((M a1 3) - 1), .int a2, .int x5] [] a1 8 dX4_takesNumber_62 cl_X4_87 im_X8_put cy_X8_put ha1 rfl (Nat.le_of_ble_eq_true rfl) (by decide) (t_X8_put l E a1 ((M a1 3) - 1) a2 x5 ha1 M qM6) ?_
      refine ex_aload_n dX4_takesNumber_65 rfl ?_
      refine mx_getr 4 136 dX4_takesNumber_66 fl_X4_9 oc_at_141 (rf_4_0 oc_at_141) ?_
      obtain ⟨M7, eM7, h⟩ := ltE h
      refine mx_cVv [] [] 136 9 dX4_takesNumber_69 cl_X4_77 im_X9_take cy_X9_take (oc_4_0 oc_at_141) rfl (Nat.le_of_ble_eq_true rfl) (by decide) (t_X9_take l E M6 eM7.symm) ?_
      refine ex_iconst 1 dX4_takesNumber_72 kI_1 ?_
      cases h
      exact mx_reti .boolean dX4_takesNumber_73 ⟨rfl, by decide⟩
    · rw [if_pos c4] at h
      refine ex_aload_n dX4_takesNumber_38 rfl ?_
      refine mx_getr 4 136 dX4_takesNumber_39 fl_X4_9 oc_at_141 (rf_4_0 oc_at_141) ?_
      refine ex_iconst 2 dX4_takesNumber_42 kI_2 ?_
      obtain ⟨M8, x9, qx9, h⟩ := b2E h
      refine mx_cVi [.int 2] [] 136 9 x9 dX4_takesNumber_43 cl_X4_74 im_X9_fails cy_X9_fails (oc_4_0 oc_at_141) rfl (Nat.le_of_ble_eq_true rfl) (by decide) (t_X9_fails l E 2 M qx9) ?_
      obtain ⟨x10, qx10, h⟩ := b1E h
      obtain ⟨ex10, nx10⟩ := gzE qx10
      rw [← ex10] at h
      cases h
      exact mx_reti .boolean dX4_takesNumber_46 ⟨rfl, nx10⟩
  · rw [if_neg c2] at h
    refine ex_aload_n dX4_takesNumber_13 rfl ?_
    refine mx_getr 4 136 dX4_takesNumber_14 fl_X4_9 oc_at_141 (rf_4_0 oc_at_141) ?_
    refine ex_iconst 1 dX4_takesNumber_17 kI_1 ?_
    obtain ⟨M11, x12, qx12, h⟩ := b2E h
    refine mx_cVi [.int 1] [] 136 9 x12 dX4_takesNumber_18 cl_X4_74 im_X9_fails cy_X9_fails (oc_4_0 oc_at_141) rfl (Nat.le_of_ble_eq_true rfl) (by decide) (t_X9_fails l E 1 M qx12) ?_
    obtain ⟨x13, qx13, h⟩ := b1E h
    obtain ⟨ex13, nx13⟩ := gzE qx13
    rw [← ex13] at h
    cases h
    exact mx_reti .boolean dX4_takesNumber_21 ⟨rfl, nx13⟩
def f_X4_readKind (a1 : Nat) (M : Mem) : Option (Mem × Int32) :=
  b2 (f_X4_begins 300 a1 M) fun M1 x2 => if x2 = 0 then (some (M1, 0)) else (b2 (f_X4_takesNumber a1 0 1 99 M1) fun M4 x5 => if x5 = 0 then (some (M4, 0)) else (b2 (f_X9_takes 315 M4) fun M7 x8 => if x8 = 0 then (some (M7, 0)) else (b2 (f_X4_takesNumber a1 1 1 30 M7) fun M10 x11 => if x11 = 0 then (some (M10, 0)) else (b2 (f_X9_takes 59 M10) fun M13 x14 => if x14 = 0 then (some (M13, 0)) else (some (M13, 1))))))
set_option maxRecDepth 100000 in
set_option maxHeartbeats 4000000 in
theorem t_X4_readKind (l : Launch) (E : EV) (a1 : Nat) (ha1 : oc a1 = some 8) (M : Mem) {M' : Mem} {r : Int32} (h : f_X4_readKind a1 M = some (M', r)) : RunM l E yX4_readKind cX4_readKind 2 (some .boolean) 4 [.ref 141, .ref a1] M M' (some (.int r)) := by
  refine RunM.of (by decide) (Nat.le_of_ble_eq_true rfl) ?_
  show XM l E (RX4, "readKind", cX4_readKind, 2) (some .boolean) 4 0 [some (.ref 141), some (.ref a1)] [] M M' (some (.int r))
  unfold f_X4_readKind at h
  refine ex_aload_n dX4_readKind_0 rfl ?_
  refine ex_sipush 300 dX4_readKind_1 kS_300 ?_
  refine ex_aload_n dX4_readKind_4 rfl ?_
  obtain ⟨M1, x2, qx2, h⟩ := b2E h
  refine mx_cVi [.int 300, .ref a1] [] 141 4 x2 dX4_readKind_5 cl_X4_45 im_X4_begins cy_X4_begins oc_at_141 rfl (Nat.le_of_ble_eq_true rfl) (by decide) (t_X4_begins l E 300 a1 ha1 M qx2) ?_
  refine ex_if_eq 64 dX4_readKind_8 (by decide) (fun c3 => ?_) (fun c3 => ?_)
  · rw [if_pos c3] at h
    refine ex_iconst 0 dX4_readKind_64 kI_0 ?_
    cases h
    exact mx_reti .boolean dX4_readKind_65 ⟨rfl, by decide⟩
  · rw [if_neg c3] at h
    refine ex_aload_n dX4_readKind_11 rfl ?_
    refine ex_aload_n dX4_readKind_12 rfl ?_
    refine ex_iconst 0 dX4_readKind_13 kI_0 ?_
    refine ex_iconst 1 dX4_readKind_14 kI_1 ?_
    refine ex_bipush 99 dX4_readKind_15 kB_99 ?_
    obtain ⟨M4, x5, qx5, h⟩ := b2E h
    refine mx_cVi [.ref a1, .int 0, .int 1, .int 99] [] 141 4 x5 dX4_readKind_17 cl_X4_49 im_X4_takesNumber cy_X4_takesNumber oc_at_141 rfl (Nat.le_of_ble_eq_true rfl) (by decide) (t_X4_takesNumber l E a1 0 1 99 ha1 M1 qx5) ?_
    refine ex_if_eq 64 dX4_readKind_20 (by decide) (fun c6 => ?_) (fun c6 => ?_)
    · rw [if_pos c6] at h
      refine ex_iconst 0 dX4_readKind_64 kI_0 ?_
      cases h
      exact mx_reti .boolean dX4_readKind_65 ⟨rfl, by decide⟩
    · rw [if_neg c6] at h
      refine ex_aload_n dX4_readKind_23 rfl ?_
      refine mx_getr 4 136 dX4_readKind_24 fl_X4_9 oc_at_141 (rf_4_0 oc_at_141) ?_
      refine ex_sipush 315 dX4_readKind_27 kS_315 ?_
      obtain ⟨M7, x8, qx8, h⟩ := b2E h
      refine mx_cVi [.int 315] [] 136 9 x8 dX4_readKind_30 cl_X4_53 im_X9_takes cy_X9_takes (oc_4_0 oc_at_141) rfl (Nat.le_of_ble_eq_true rfl) (by decide) (t_X9_takes l E 315 M4 qx8) ?_
      refine ex_if_eq 64 dX4_readKind_33 (by decide) (fun c9 => ?_) (fun c9 => ?_)
      · rw [if_pos c9] at h
        refine ex_iconst 0 dX4_readKind_64 kI_0 ?_
        cases h
        exact mx_reti .boolean dX4_readKind_65 ⟨rfl, by decide⟩
      · rw [if_neg c9] at h
        refine ex_aload_n dX4_readKind_36 rfl ?_
        refine ex_aload_n dX4_readKind_37 rfl ?_
        refine ex_iconst 1 dX4_readKind_38 kI_1 ?_
        refine ex_iconst 1 dX4_readKind_39 kI_1 ?_
        refine ex_bipush 30 dX4_readKind_40 kB_30 ?_
        obtain ⟨M10, x11, qx11, h⟩ := b2E h
        refine mx_cVi [.ref a1, .int 1, .int 1, .int 30] [] 141 4 x11 dX4_readKind_42 cl_X4_49 im_X4_takesNumber cy_X4_takesNumber oc_at_141 rfl (Nat.le_of_ble_eq_true rfl) (by decide) (t_X4_takesNumber l E a1 1 1 30 ha1 M7 qx11) ?_
        refine ex_if_eq 64 dX4_readKind_45 (by decide) (fun c12 => ?_) (fun c12 => ?_)
        · rw [if_pos c12] at h
          refine ex_iconst 0 dX4_readKind_64 kI_0 ?_
          cases h
          exact mx_reti .boolean dX4_readKind_65 ⟨rfl, by decide⟩
        · rw [if_neg c12] at h
          refine ex_aload_n dX4_readKind_48 rfl ?_
          refine mx_getr 4 136 dX4_readKind_49 fl_X4_9 oc_at_141 (rf_4_0 oc_at_141) ?_
          refine ex_bipush 59 dX4_readKind_52 kB_59 ?_
          obtain ⟨M13, x14, qx14, h⟩ := b2E h
          refine mx_cVi [.int 59] [] 136 9 x14 dX4_readKind_54 cl_X4_53 im_X9_takes cy_X9_takes (oc_4_0 oc_at_141) rfl (Nat.le_of_ble_eq_true rfl) (by decide) (t_X9_takes l E 59 M10 qx14) ?_
          refine ex_if_eq 64 dX4_readKind_57 (by decide) (fun c15 => ?_) (fun c15 => ?_)
          · rw [if_pos c15] at h
            refine ex_iconst 0 dX4_readKind_64 kI_0 ?_
            cases h
            exact mx_reti .boolean dX4_readKind_65 ⟨rfl, by decide⟩
          · rw [if_neg c15] at h
            refine ex_iconst 1 dX4_readKind_60 kI_1 ?_
            refine ex_goto 65 dX4_readKind_61 (by decide) ?_
            cases h
            exact mx_reti .boolean dX4_readKind_65 ⟨rfl, by decide⟩
def f_X4_readFeast (a1 : Nat) (a2 : Int32) (M : Mem) : Option (Mem × Int32) :=
  b2 (f_X4_begins 316 a1 M) fun M1 x2 => if x2 = 0 then (some (M1, 0)) else (b2 (f_X4_takesNumber a1 0 0 999 M1) fun M4 x5 => if x5 = 0 then (some (M4, 0)) else (b2 (f_X9_takes 317 M4) fun M7 x8 => if x8 = 0 then (some (M7, 0)) else (b2 (f_X4_takesNumber a1 1 0 (a2 - 1) M7) fun M10 x11 => if x11 = 0 then (some (M10, 0)) else (b2 (f_X9_takes 318 M10) fun M13 x14 => if x14 = 0 then (some (M13, 0)) else (b2 (f_X4_takesNumber a1 2 1 20 M13) fun M16 x17 => if x17 = 0 then (some (M16, 0)) else (b2 (f_X9_takes 59 M16) fun M19 x20 => if x20 = 0 then (some (M19, 0)) else (some (M19, 1))))))))
set_option maxRecDepth 100000 in
set_option maxHeartbeats 4000000 in
theorem t_X4_readFeast (l : Launch) (E : EV) (a1 : Nat) (a2 : Int32) (ha1 : oc a1 = some 8) (M : Mem) {M' : Mem} {r : Int32} (h : f_X4_readFeast a1 a2 M = some (M', r)) : RunM l E yX4_readFeast cX4_readFeast 3 (some .boolean) 4 [.ref 141, .ref a1, .int a2] M M' (some (.int r)) := by
  refine RunM.of (by decide) (Nat.le_of_ble_eq_true rfl) ?_
  show XM l E (RX4, "readFeast", cX4_readFeast, 3) (some .boolean) 4 0 [some (.ref 141), some (.ref a1), some (.int a2)] [] M M' (some (.int r))
  unfold f_X4_readFeast at h
  refine ex_aload_n dX4_readFeast_0 rfl ?_
  refine ex_sipush 316 dX4_readFeast_1 kS_316 ?_
  refine ex_aload_n dX4_readFeast_4 rfl ?_
  obtain ⟨M1, x2, qx2, h⟩ := b2E h
  refine mx_cVi [.int 316, .ref a1] [] 141 4 x2 dX4_readFeast_5 cl_X4_45 im_X4_begins cy_X4_begins oc_at_141 rfl (Nat.le_of_ble_eq_true rfl) (by decide) (t_X4_begins l E 316 a1 ha1 M qx2) ?_
  refine ex_if_eq 91 dX4_readFeast_8 (by decide) (fun c3 => ?_) (fun c3 => ?_)
  · rw [if_pos c3] at h
    refine ex_iconst 0 dX4_readFeast_91 kI_0 ?_
    cases h
    exact mx_reti .boolean dX4_readFeast_92 ⟨rfl, by decide⟩
  · rw [if_neg c3] at h
    refine ex_aload_n dX4_readFeast_11 rfl ?_
    refine ex_aload_n dX4_readFeast_12 rfl ?_
    refine ex_iconst 0 dX4_readFeast_13 kI_0 ?_
    refine ex_iconst 0 dX4_readFeast_14 kI_0 ?_
    refine ex_sipush 999 dX4_readFeast_15 kS_999 ?_
    obtain ⟨M4, x5, qx5, h⟩ := b2E h
    refine mx_cVi [.ref a1, .int 0, .int 0, .int 999] [] 141 4 x5 dX4_readFeast_18 cl_X4_49 im_X4_takesNumber cy_X4_takesNumber oc_at_141 rfl (Nat.le_of_ble_eq_true rfl) (by decide) (t_X4_takesNumber l E a1 0 0 999 ha1 M1 qx5) ?_
    refine ex_if_eq 91 dX4_readFeast_21 (by decide) (fun c6 => ?_) (fun c6 => ?_)
    · rw [if_pos c6] at h
      refine ex_iconst 0 dX4_readFeast_91 kI_0 ?_
      cases h
      exact mx_reti .boolean dX4_readFeast_92 ⟨rfl, by decide⟩
    · rw [if_neg c6] at h
      refine ex_aload_n dX4_readFeast_24 rfl ?_
      refine mx_getr 4 136 dX4_readFeast_25 fl_X4_9 oc_at_141 (rf_4_0 oc_at_141) ?_
      refine ex_sipush 317 dX4_readFeast_28 kS_317 ?_
      obtain ⟨M7, x8, qx8, h⟩ := b2E h
      refine mx_cVi [.int 317] [] 136 9 x8 dX4_readFeast_31 cl_X4_53 im_X9_takes cy_X9_takes (oc_4_0 oc_at_141) rfl (Nat.le_of_ble_eq_true rfl) (by decide) (t_X9_takes l E 317 M4 qx8) ?_
      refine ex_if_eq 91 dX4_readFeast_34 (by decide) (fun c9 => ?_) (fun c9 => ?_)
      · rw [if_pos c9] at h
        refine ex_iconst 0 dX4_readFeast_91 kI_0 ?_
        cases h
        exact mx_reti .boolean dX4_readFeast_92 ⟨rfl, by decide⟩
      · rw [if_neg c9] at h
        refine ex_aload_n dX4_readFeast_37 rfl ?_
        refine ex_aload_n dX4_readFeast_38 rfl ?_
        refine ex_iconst 1 dX4_readFeast_39 kI_1 ?_
        refine ex_iconst 0 dX4_readFeast_40 kI_0 ?_
        refine ex_iload_n dX4_readFeast_41 rfl ?_
        refine ex_iconst 1 dX4_readFeast_42 kI_1 ?_
        refine ex_isub dX4_readFeast_43 ?_
        obtain ⟨M10, x11, qx11, h⟩ := b2E h
        refine mx_cVi [.ref a1, .int 1, .int 0, .int (a2 - 1)] [] 141 4 x11 dX4_readFeast_44 cl_X4_49 im_X4_takesNumber cy_X4_takesNumber oc_at_141 rfl (Nat.le_of_ble_eq_true rfl) (by decide) (t_X4_takesNumber l E a1 1 0 (a2 - 1) ha1 M7 qx11) ?_
        refine ex_if_eq 91 dX4_readFeast_47 (by decide) (fun c12 => ?_) (fun c12 => ?_)
        · rw [if_pos c12] at h
          refine ex_iconst 0 dX4_readFeast_91 kI_0 ?_
          cases h
          exact mx_reti .boolean dX4_readFeast_92 ⟨rfl, by decide⟩
        · rw [if_neg c12] at h
          refine ex_aload_n dX4_readFeast_50 rfl ?_
          refine mx_getr 4 136 dX4_readFeast_51 fl_X4_9 oc_at_141 (rf_4_0 oc_at_141) ?_
          refine ex_sipush 318 dX4_readFeast_54 kS_318 ?_
          obtain ⟨M13, x14, qx14, h⟩ := b2E h
          refine mx_cVi [.int 318] [] 136 9 x14 dX4_readFeast_57 cl_X4_53 im_X9_takes cy_X9_takes (oc_4_0 oc_at_141) rfl (Nat.le_of_ble_eq_true rfl) (by decide) (t_X9_takes l E 318 M10 qx14) ?_
          refine ex_if_eq 91 dX4_readFeast_60 (by decide) (fun c15 => ?_) (fun c15 => ?_)
          · rw [if_pos c15] at h
            refine ex_iconst 0 dX4_readFeast_91 kI_0 ?_
            cases h
            exact mx_reti .boolean dX4_readFeast_92 ⟨rfl, by decide⟩
          · rw [if_neg c15] at h
            refine ex_aload_n dX4_readFeast_63 rfl ?_
            refine ex_aload_n dX4_readFeast_64 rfl ?_
            refine ex_iconst 2 dX4_readFeast_65 kI_2 ?_
            refine ex_iconst 1 dX4_readFeast_66 kI_1 ?_
            refine ex_bipush 20 dX4_readFeast_67 kB_20 ?_
            obtain ⟨M16, x17, qx17, h⟩ := b2E h
            refine mx_cVi [.ref a1, .int 2, .int 1, .int 20] [] 141 4 x17 dX4_readFeast_69 cl_X4_49 im_X4_takesNumber cy_X4_takesNumber oc_at_141 rfl (Nat.le_of_ble_eq_true rfl) (by decide) (t_X4_takesNumber l E a1 2 1 20 ha1 M13 qx17) ?_
            refine ex_if_eq 91 dX4_readFeast_72 (by decide) (fun c18 => ?_) (fun c18 => ?_)
            · rw [if_pos c18] at h
              refine ex_iconst 0 dX4_readFeast_91 kI_0 ?_
              cases h
              exact mx_reti .boolean dX4_readFeast_92 ⟨rfl, by decide⟩
            · rw [if_neg c18] at h
              refine ex_aload_n dX4_readFeast_75 rfl ?_
              refine mx_getr 4 136 dX4_readFeast_76 fl_X4_9 oc_at_141 (rf_4_0 oc_at_141) ?_
              refine ex_bipush 59 dX4_readFeast_79 kB_59 ?_
              obtain ⟨M19, x20, qx20, h⟩ := b2E h
              refine mx_cVi [.int 59] [] 136 9 x20 dX4_readFeast_81 cl_X4_53 im_X9_takes cy_X9_takes (oc_4_0 oc_at_141) rfl (Nat.le_of_ble_eq_true rfl) (by decide) (t_X9_takes l E 59 M16 qx20) ?_
              refine ex_if_eq 91 dX4_readFeast_84 (by decide) (fun c21 => ?_) (fun c21 => ?_)
              · rw [if_pos c21] at h
                refine ex_iconst 0 dX4_readFeast_91 kI_0 ?_
                cases h
                exact mx_reti .boolean dX4_readFeast_92 ⟨rfl, by decide⟩
              · rw [if_neg c21] at h
                refine ex_iconst 1 dX4_readFeast_87 kI_1 ?_
                refine ex_goto 92 dX4_readFeast_88 (by decide) ?_
                cases h
                exact mx_reti .boolean dX4_readFeast_92 ⟨rfl, by decide⟩
