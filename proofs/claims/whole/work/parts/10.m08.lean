def w_X11_product_9 (M4 : Mem) : Option ((Mem) ⊕ ((Mem) ⊕ (Mem) ⊕ (Mem) ⊕ (Mem))) :=
  if ((M4 155 18) = 142 ∨ (M4 155 18) = 147) then (lt ((if (M4 155 18) = 147 then 1 else 0) : Int32) fun x9 => b1 (f_X11_next0 M4) fun M10 => if x9 = 0 then (b2 (f_X11_unit M10) fun M12 x13 => if x13 = 0 then (some (.inr (.inr (.inr (.inl M12))))) else (b1 (f_X11_lay 25 0 M12) fun M15 => some (.inl M15))) else (if (M10 155 18) = 2 then (if (M10 155 20) = 0 then (some (.inr (.inr (.inl M10)))) else (b1 (f_X11_next0 M10) fun M18 => b1 (f_X11_lay 26 (M10 155 20) M18) fun M19 => some (.inl M19))) else (some (.inr (.inl M10))))) else (some (.inr (.inr (.inr (.inr M4)))))
def f_X11_product (M : Mem) : Option (Mem × Int32) :=
  b2 (f_X11_unit M) fun M1 x2 => if x2 = 0 then (some (M1, 0)) else (b1 (lp (fun s => w_X11_product_9 s) FU M1) fun q20 => match q20 with | .inl u21 => (lt (f_X11_bad 1 u21) fun p22 => b1 (gz p22.2) fun x23 => some (p22.1, x23)) | .inr u29 => (match u29 with | .inl u24 => (lt (f_X11_bad 2 u24) fun p25 => b1 (gz p25.2) fun x26 => some (p25.1, x26)) | .inr u30 => (match u30 with | .inl u27 => (some (u27, 0)) | .inr u28 => (some (u28, 1)))))
set_option maxRecDepth 100000 in
set_option maxHeartbeats 4000000 in
theorem t_X11_product (l : Launch) (E : EV) (M : Mem) {M' : Mem} {r : Int32} (h : f_X11_product M = some (M', r)) : RunM l E yX11_product cX11_product 3 (some .boolean) 12 [.ref 155] M M' (some (.int r)) := by
  refine RunM.of (by decide) (Nat.le_of_ble_eq_true rfl) ?_
  show XM l E (RX11, "product", cX11_product, 3) (some .boolean) 12 0 [some (.ref 155), none, none] [] M M' (some (.int r))
  unfold f_X11_product at h
  refine ex_aload_n dX11_product_0 rfl ?_
  obtain ⟨M1, x2, qx2, h⟩ := b2E h
  refine mx_cVi [] [] 155 11 x2 dX11_product_1 cl_X11_202 im_X11_unit cy_X11_unit oc_at_155 rfl (Nat.le_of_ble_eq_true rfl) (by decide) (t_X11_unit l E M qx2) ?_
  refine ex_if_ne 9 dX11_product_4 (by decide) (fun c3 => ?_) (fun c3 => ?_)
  · rw [if_neg c3] at h
    refine ex_mskL [true, false, false] (L2 := [some (.ref 155), none, none]) rfl ?_
    obtain ⟨q20, hlq20, h⟩ := b1E h
    rcases q20 with u21 | u24 | u27 | u28
    · dsimp only at h
      have hx : XM l E (RX11, "product", cX11_product, 3) (some .boolean) 12 66 [some (.ref 155), none, none] [] u21 M' (some (.int r)) := by
        refine ex_aload_n dX11_product_66 rfl ?_
        refine ex_iconst 1 dX11_product_67 kI_1 ?_
        obtain ⟨p22, ep22, h⟩ := ltE h
        refine mx_cVi [.int 1] [] 155 11 p22.2 dX11_product_68 cl_X11_182 im_X11_bad cy_X11_bad oc_at_155 rfl (Nat.le_of_ble_eq_true rfl) (by decide) (t_X11_bad l E 1 u21 ep22.symm) ?_
        obtain ⟨x23, qx23, h⟩ := b1E h
        obtain ⟨ex23, nx23⟩ := gzE qx23
        rw [← ex23] at h
        cases h
        exact mx_reti .boolean dX11_product_71 ⟨rfl, nx23⟩
      clear h
      have key : ∀ (k : Nat) (s : Mem), lp (fun s => w_X11_product_9 s) k s = some (.inl u21) → XM l E (RX11, "product", cX11_product, 3) (some .boolean) 12 9 [some (.ref 155), none, none] [] s M' (some (.int r)) := lp_ind (P := fun (s : Mem) => XM l E (RX11, "product", cX11_product, 3) (some .boolean) 12 9 [some (.ref 155), none, none] [] s M' (some (.int r))) (fun s t hb hk he => by
        revert hb hk he; generalize s = M4; intro hb hk he
        show XM l E (RX11, "product", cX11_product, 3) (some .boolean) 12 9 [some (.ref 155), none, none] [] M4 M' (some (.int r))
        change w_X11_product_9 M4 = some t at hb
        unfold w_X11_product_9 at hb
        refine ex_aload_n dX11_product_9 rfl ?_
        refine mx_geti 11 dX11_product_10 fl_X11_160 oc_at_155 (isi_11_18 oc_at_155) ?_
        refine ex_sipush 142 dX11_product_13 kS_142 ?_
        have JXC7 : ((M4 155 18) = 142 ∨ (M4 155 18) = 147) → XM l E (RX11, "product", cX11_product, 3) (some .boolean) 12 29 [some (.ref 155), none, none] [] M4 M' (some (.int r)) := fun C7 => by
          rw [if_pos C7] at hb
          refine ex_aload_n dX11_product_29 rfl ?_
          refine mx_geti 11 dX11_product_30 fl_X11_160 oc_at_155 (isi_11_18 oc_at_155) ?_
          refine ex_sipush 147 dX11_product_33 kS_147 ?_
          obtain ⟨x9, ex9, hb⟩ := ltE hb
          have Jx9 : XM l E (RX11, "product", cX11_product, 3) (some .boolean) 12 44 [some (.ref 155), none, none] [.int x9] M4 M' (some (.int r)) := by
            refine ex_istore_n (L2 := [some (.ref 155), some (.int x9), none]) dX11_product_44 (by decide) rfl ?_
            refine ex_aload_n dX11_product_45 rfl ?_
            obtain ⟨M10, qM10, hb⟩ := b1E hb
            refine mx_cVv [] [] 155 11 dX11_product_46 cl_X11_185 im_X11_next0 cy_X11_next0 oc_at_155 rfl (Nat.le_of_ble_eq_true rfl) (by decide) (t_X11_next0 l E M4 qM10) ?_
            refine ex_iload_n dX11_product_49 rfl ?_
            refine ex_if_eq 96 dX11_product_50 (by decide) (fun c11 => ?_) (fun c11 => ?_)
            · rw [if_pos c11] at hb
              refine ex_aload_n dX11_product_96 rfl ?_
              obtain ⟨M12, x13, qx13, hb⟩ := b2E hb
              refine mx_cVi [] [] 155 11 x13 dX11_product_97 cl_X11_202 im_X11_unit cy_X11_unit oc_at_155 rfl (Nat.le_of_ble_eq_true rfl) (by decide) (t_X11_unit l E M10 qx13) ?_
              refine ex_if_ne 105 dX11_product_100 (by decide) (fun c14 => ?_) (fun c14 => ?_)
              · rw [if_neg c14] at hb
                refine ex_aload_n dX11_product_105 rfl ?_
                refine ex_bipush 25 dX11_product_106 kB_25 ?_
                refine ex_iconst 0 dX11_product_108 kI_0 ?_
                obtain ⟨M15, qM15, hb⟩ := b1E hb
                refine mx_cVv [.int 25, .int 0] [] 155 11 dX11_product_109 cl_X11_198 im_X11_lay cy_X11_lay oc_at_155 rfl (Nat.le_of_ble_eq_true rfl) (by decide) (t_X11_lay l E 25 0 M12 qM15) ?_
                refine ex_goto 9 dX11_product_112 (by decide) ?_
                refine ex_mskL [true, false, false] (L2 := [some (.ref 155), none, none]) rfl ?_
                cases hb
                exact hk M15 rfl
              · rw [if_pos c14] at hb
                refine ex_mskL [false, false, false] (L2 := [none, none, none]) rfl ?_
                cases hb
                cases (he _ rfl) <;> exact hx
            · rw [if_neg c11] at hb
              refine ex_aload_n dX11_product_53 rfl ?_
              refine mx_geti 11 dX11_product_54 fl_X11_173 oc_at_155 (isi_11_20 oc_at_155) ?_
              refine ex_istore_n (L2 := [some (.ref 155), some (.int x9), some (.int (M10 155 20))]) dX11_product_57 (by decide) rfl ?_
              refine ex_aload_n dX11_product_58 rfl ?_
              refine mx_geti 11 dX11_product_59 fl_X11_160 oc_at_155 (isi_11_18 oc_at_155) ?_
              refine ex_iconst 2 dX11_product_62 kI_2 ?_
              refine ex_icmp_eq 72 dX11_product_63 (by decide) (fun c16 => ?_) (fun c16 => ?_)
              · rw [if_pos c16] at hb
                refine ex_iload_n dX11_product_72 rfl ?_
                refine ex_if_ne 82 dX11_product_73 (by decide) (fun c17 => ?_) (fun c17 => ?_)
                · rw [if_neg c17] at hb
                  refine ex_aload_n dX11_product_82 rfl ?_
                  obtain ⟨M18, qM18, hb⟩ := b1E hb
                  refine mx_cVv [] [] 155 11 dX11_product_83 cl_X11_185 im_X11_next0 cy_X11_next0 oc_at_155 rfl (Nat.le_of_ble_eq_true rfl) (by decide) (t_X11_next0 l E M10 qM18) ?_
                  refine ex_aload_n dX11_product_86 rfl ?_
                  refine ex_bipush 26 dX11_product_87 kB_26 ?_
                  refine ex_iload_n dX11_product_89 rfl ?_
                  obtain ⟨M19, qM19, hb⟩ := b1E hb
                  refine mx_cVv [.int 26, .int (M10 155 20)] [] 155 11 dX11_product_90 cl_X11_198 im_X11_lay cy_X11_lay oc_at_155 rfl (Nat.le_of_ble_eq_true rfl) (by decide) (t_X11_lay l E 26 (M10 155 20) M18 qM19) ?_
                  refine ex_goto 112 dX11_product_93 (by decide) ?_
                  refine ex_goto 9 dX11_product_112 (by decide) ?_
                  refine ex_mskL [true, false, false] (L2 := [some (.ref 155), none, none]) rfl ?_
                  cases hb
                  exact hk M19 rfl
                · rw [if_pos c17] at hb
                  refine ex_mskL [true, false, false] (L2 := [some (.ref 155), none, none]) rfl ?_
                  cases hb
                  cases (he _ rfl) <;> exact hx
              · rw [if_neg c16] at hb
                refine ex_mskL [true, false, false] (L2 := [some (.ref 155), none, none]) rfl ?_
                cases hb
                cases (he _ rfl) <;> exact hx
          clear hb
          refine ex_icmp_ne 43 dX11_product_36 (by decide) (fun c8 => ?_) (fun c8 => ?_)
          · rw [if_neg c8] at ex9
            refine ex_iconst 0 dX11_product_43 kI_0 ?_
            subst ex9
            exact Jx9
          · rw [if_pos c8] at ex9
            refine ex_iconst 1 dX11_product_39 kI_1 ?_
            refine ex_goto 44 dX11_product_40 (by decide) ?_
            subst ex9
            exact Jx9
        have JYC7 : ¬ (((M4 155 18) = 142 ∨ (M4 155 18) = 147)) → XM l E (RX11, "product", cX11_product, 3) (some .boolean) 12 115 [some (.ref 155), none, none] [] M4 M' (some (.int r)) := fun C7 => by
          rw [if_neg C7] at hb
          refine ex_mskL [false, false, false] (L2 := [none, none, none]) rfl ?_
          cases hb
          cases (he _ rfl) <;> exact hx
        clear hb
        refine ex_icmp_eq 29 dX11_product_16 (by decide) (fun c5 => ?_) (fun c5 => ?_)
        · exact JXC7 (Or.inl c5)
        · refine ex_aload_n dX11_product_19 rfl ?_
          refine mx_geti 11 dX11_product_20 fl_X11_160 oc_at_155 (isi_11_18 oc_at_155) ?_
          refine ex_sipush 147 dX11_product_23 kS_147 ?_
          refine ex_icmp_ne 115 dX11_product_26 (by decide) (fun c6 => ?_) (fun c6 => ?_)
          · exact JYC7 (fun z => z.elim c5 c6)
          · exact JXC7 (Or.inr c6))
      exact key FU M1 hlq20
    · dsimp only at h
      have hx : XM l E (RX11, "product", cX11_product, 3) (some .boolean) 12 76 [some (.ref 155), none, none] [] u24 M' (some (.int r)) := by
        refine ex_aload_n dX11_product_76 rfl ?_
        refine ex_iconst 2 dX11_product_77 kI_2 ?_
        obtain ⟨p25, ep25, h⟩ := ltE h
        refine mx_cVi [.int 2] [] 155 11 p25.2 dX11_product_78 cl_X11_182 im_X11_bad cy_X11_bad oc_at_155 rfl (Nat.le_of_ble_eq_true rfl) (by decide) (t_X11_bad l E 2 u24 ep25.symm) ?_
        obtain ⟨x26, qx26, h⟩ := b1E h
        obtain ⟨ex26, nx26⟩ := gzE qx26
        rw [← ex26] at h
        cases h
        exact mx_reti .boolean dX11_product_81 ⟨rfl, nx26⟩
      clear h
      have key : ∀ (k : Nat) (s : Mem), lp (fun s => w_X11_product_9 s) k s = some (.inr (.inl u24)) → XM l E (RX11, "product", cX11_product, 3) (some .boolean) 12 9 [some (.ref 155), none, none] [] s M' (some (.int r)) := lp_ind (P := fun (s : Mem) => XM l E (RX11, "product", cX11_product, 3) (some .boolean) 12 9 [some (.ref 155), none, none] [] s M' (some (.int r))) (fun s t hb hk he => by
        revert hb hk he; generalize s = M4; intro hb hk he
        show XM l E (RX11, "product", cX11_product, 3) (some .boolean) 12 9 [some (.ref 155), none, none] [] M4 M' (some (.int r))
        change w_X11_product_9 M4 = some t at hb
        unfold w_X11_product_9 at hb
        refine ex_aload_n dX11_product_9 rfl ?_
        refine mx_geti 11 dX11_product_10 fl_X11_160 oc_at_155 (isi_11_18 oc_at_155) ?_
        refine ex_sipush 142 dX11_product_13 kS_142 ?_
        have JXC7 : ((M4 155 18) = 142 ∨ (M4 155 18) = 147) → XM l E (RX11, "product", cX11_product, 3) (some .boolean) 12 29 [some (.ref 155), none, none] [] M4 M' (some (.int r)) := fun C7 => by
          rw [if_pos C7] at hb
          refine ex_aload_n dX11_product_29 rfl ?_
          refine mx_geti 11 dX11_product_30 fl_X11_160 oc_at_155 (isi_11_18 oc_at_155) ?_
          refine ex_sipush 147 dX11_product_33 kS_147 ?_
          obtain ⟨x9, ex9, hb⟩ := ltE hb
          have Jx9 : XM l E (RX11, "product", cX11_product, 3) (some .boolean) 12 44 [some (.ref 155), none, none] [.int x9] M4 M' (some (.int r)) := by
            refine ex_istore_n (L2 := [some (.ref 155), some (.int x9), none]) dX11_product_44 (by decide) rfl ?_
            refine ex_aload_n dX11_product_45 rfl ?_
            obtain ⟨M10, qM10, hb⟩ := b1E hb
            refine mx_cVv [] [] 155 11 dX11_product_46 cl_X11_185 im_X11_next0 cy_X11_next0 oc_at_155 rfl (Nat.le_of_ble_eq_true rfl) (by decide) (t_X11_next0 l E M4 qM10) ?_
            refine ex_iload_n dX11_product_49 rfl ?_
            refine ex_if_eq 96 dX11_product_50 (by decide) (fun c11 => ?_) (fun c11 => ?_)
            · rw [if_pos c11] at hb
              refine ex_aload_n dX11_product_96 rfl ?_
              obtain ⟨M12, x13, qx13, hb⟩ := b2E hb
              refine mx_cVi [] [] 155 11 x13 dX11_product_97 cl_X11_202 im_X11_unit cy_X11_unit oc_at_155 rfl (Nat.le_of_ble_eq_true rfl) (by decide) (t_X11_unit l E M10 qx13) ?_
              refine ex_if_ne 105 dX11_product_100 (by decide) (fun c14 => ?_) (fun c14 => ?_)
              · rw [if_neg c14] at hb
                refine ex_aload_n dX11_product_105 rfl ?_
                refine ex_bipush 25 dX11_product_106 kB_25 ?_
                refine ex_iconst 0 dX11_product_108 kI_0 ?_
                obtain ⟨M15, qM15, hb⟩ := b1E hb
                refine mx_cVv [.int 25, .int 0] [] 155 11 dX11_product_109 cl_X11_198 im_X11_lay cy_X11_lay oc_at_155 rfl (Nat.le_of_ble_eq_true rfl) (by decide) (t_X11_lay l E 25 0 M12 qM15) ?_
                refine ex_goto 9 dX11_product_112 (by decide) ?_
                refine ex_mskL [true, false, false] (L2 := [some (.ref 155), none, none]) rfl ?_
                cases hb
                exact hk M15 rfl
              · rw [if_pos c14] at hb
                refine ex_mskL [false, false, false] (L2 := [none, none, none]) rfl ?_
                cases hb
                cases (he _ rfl) <;> exact hx
            · rw [if_neg c11] at hb
              refine ex_aload_n dX11_product_53 rfl ?_
              refine mx_geti 11 dX11_product_54 fl_X11_173 oc_at_155 (isi_11_20 oc_at_155) ?_
              refine ex_istore_n (L2 := [some (.ref 155), some (.int x9), some (.int (M10 155 20))]) dX11_product_57 (by decide) rfl ?_
              refine ex_aload_n dX11_product_58 rfl ?_
              refine mx_geti 11 dX11_product_59 fl_X11_160 oc_at_155 (isi_11_18 oc_at_155) ?_
              refine ex_iconst 2 dX11_product_62 kI_2 ?_
              refine ex_icmp_eq 72 dX11_product_63 (by decide) (fun c16 => ?_) (fun c16 => ?_)
              · rw [if_pos c16] at hb
                refine ex_iload_n dX11_product_72 rfl ?_
                refine ex_if_ne 82 dX11_product_73 (by decide) (fun c17 => ?_) (fun c17 => ?_)
                · rw [if_neg c17] at hb
                  refine ex_aload_n dX11_product_82 rfl ?_
                  obtain ⟨M18, qM18, hb⟩ := b1E hb
                  refine mx_cVv [] [] 155 11 dX11_product_83 cl_X11_185 im_X11_next0 cy_X11_next0 oc_at_155 rfl (Nat.le_of_ble_eq_true rfl) (by decide) (t_X11_next0 l E M10 qM18) ?_
                  refine ex_aload_n dX11_product_86 rfl ?_
                  refine ex_bipush 26 dX11_product_87 kB_26 ?_
                  refine ex_iload_n dX11_product_89 rfl ?_
                  obtain ⟨M19, qM19, hb⟩ := b1E hb
                  refine mx_cVv [.int 26, .int (M10 155 20)] [] 155 11 dX11_product_90 cl_X11_198 im_X11_lay cy_X11_lay oc_at_155 rfl (Nat.le_of_ble_eq_true rfl) (by decide) (t_X11_lay l E 26 (M10 155 20) M18 qM19) ?_
                  refine ex_goto 112 dX11_product_93 (by decide) ?_
                  refine ex_goto 9 dX11_product_112 (by decide) ?_
                  refine ex_mskL [true, false, false] (L2 := [some (.ref 155), none, none]) rfl ?_
                  cases hb
                  exact hk M19 rfl
                · rw [if_pos c17] at hb
                  refine ex_mskL [true, false, false] (L2 := [some (.ref 155), none, none]) rfl ?_
                  cases hb
                  cases (he _ rfl) <;> exact hx
              · rw [if_neg c16] at hb
                refine ex_mskL [true, false, false] (L2 := [some (.ref 155), none, none]) rfl ?_
                cases hb
                cases (he _ rfl) <;> exact hx
          clear hb
          refine ex_icmp_ne 43 dX11_product_36 (by decide) (fun c8 => ?_) (fun c8 => ?_)
          · rw [if_neg c8] at ex9
            refine ex_iconst 0 dX11_product_43 kI_0 ?_
            subst ex9
            exact Jx9
          · rw [if_pos c8] at ex9
            refine ex_iconst 1 dX11_product_39 kI_1 ?_
            refine ex_goto 44 dX11_product_40 (by decide) ?_
            subst ex9
            exact Jx9
        have JYC7 : ¬ (((M4 155 18) = 142 ∨ (M4 155 18) = 147)) → XM l E (RX11, "product", cX11_product, 3) (some .boolean) 12 115 [some (.ref 155), none, none] [] M4 M' (some (.int r)) := fun C7 => by
          rw [if_neg C7] at hb
          refine ex_mskL [false, false, false] (L2 := [none, none, none]) rfl ?_
          cases hb
          cases (he _ rfl) <;> exact hx
        clear hb
        refine ex_icmp_eq 29 dX11_product_16 (by decide) (fun c5 => ?_) (fun c5 => ?_)
        · exact JXC7 (Or.inl c5)
        · refine ex_aload_n dX11_product_19 rfl ?_
          refine mx_geti 11 dX11_product_20 fl_X11_160 oc_at_155 (isi_11_18 oc_at_155) ?_
          refine ex_sipush 147 dX11_product_23 kS_147 ?_
          refine ex_icmp_ne 115 dX11_product_26 (by decide) (fun c6 => ?_) (fun c6 => ?_)
          · exact JYC7 (fun z => z.elim c5 c6)
          · exact JXC7 (Or.inr c6))
      exact key FU M1 hlq20
    · dsimp only at h
      have hx : XM l E (RX11, "product", cX11_product, 3) (some .boolean) 12 103 [none, none, none] [] u27 M' (some (.int r)) := by
        refine ex_iconst 0 dX11_product_103 kI_0 ?_
        cases h
        exact mx_reti .boolean dX11_product_104 ⟨rfl, by decide⟩
      clear h
      have key : ∀ (k : Nat) (s : Mem), lp (fun s => w_X11_product_9 s) k s = some (.inr (.inr (.inl u27))) → XM l E (RX11, "product", cX11_product, 3) (some .boolean) 12 9 [some (.ref 155), none, none] [] s M' (some (.int r)) := lp_ind (P := fun (s : Mem) => XM l E (RX11, "product", cX11_product, 3) (some .boolean) 12 9 [some (.ref 155), none, none] [] s M' (some (.int r))) (fun s t hb hk he => by
        revert hb hk he; generalize s = M4; intro hb hk he
        show XM l E (RX11, "product", cX11_product, 3) (some .boolean) 12 9 [some (.ref 155), none, none] [] M4 M' (some (.int r))
        change w_X11_product_9 M4 = some t at hb
        unfold w_X11_product_9 at hb
        refine ex_aload_n dX11_product_9 rfl ?_
        refine mx_geti 11 dX11_product_10 fl_X11_160 oc_at_155 (isi_11_18 oc_at_155) ?_
        refine ex_sipush 142 dX11_product_13 kS_142 ?_
        have JXC7 : ((M4 155 18) = 142 ∨ (M4 155 18) = 147) → XM l E (RX11, "product", cX11_product, 3) (some .boolean) 12 29 [some (.ref 155), none, none] [] M4 M' (some (.int r)) := fun C7 => by
          rw [if_pos C7] at hb
          refine ex_aload_n dX11_product_29 rfl ?_
          refine mx_geti 11 dX11_product_30 fl_X11_160 oc_at_155 (isi_11_18 oc_at_155) ?_
          refine ex_sipush 147 dX11_product_33 kS_147 ?_
          obtain ⟨x9, ex9, hb⟩ := ltE hb
          have Jx9 : XM l E (RX11, "product", cX11_product, 3) (some .boolean) 12 44 [some (.ref 155), none, none] [.int x9] M4 M' (some (.int r)) := by
            refine ex_istore_n (L2 := [some (.ref 155), some (.int x9), none]) dX11_product_44 (by decide) rfl ?_
            refine ex_aload_n dX11_product_45 rfl ?_
            obtain ⟨M10, qM10, hb⟩ := b1E hb
            refine mx_cVv [] [] 155 11 dX11_product_46 cl_X11_185 im_X11_next0 cy_X11_next0 oc_at_155 rfl (Nat.le_of_ble_eq_true rfl) (by decide) (t_X11_next0 l E M4 qM10) ?_
            refine ex_iload_n dX11_product_49 rfl ?_
            refine ex_if_eq 96 dX11_product_50 (by decide) (fun c11 => ?_) (fun c11 => ?_)
            · rw [if_pos c11] at hb
              refine ex_aload_n dX11_product_96 rfl ?_
              obtain ⟨M12, x13, qx13, hb⟩ := b2E hb
              refine mx_cVi [] [] 155 11 x13 dX11_product_97 cl_X11_202 im_X11_unit cy_X11_unit oc_at_155 rfl (Nat.le_of_ble_eq_true rfl) (by decide) (t_X11_unit l E M10 qx13) ?_
              refine ex_if_ne 105 dX11_product_100 (by decide) (fun c14 => ?_) (fun c14 => ?_)
              · rw [if_neg c14] at hb
                refine ex_aload_n dX11_product_105 rfl ?_
                refine ex_bipush 25 dX11_product_106 kB_25 ?_
                refine ex_iconst 0 dX11_product_108 kI_0 ?_
                obtain ⟨M15, qM15, hb⟩ := b1E hb
                refine mx_cVv [.int 25, .int 0] [] 155 11 dX11_product_109 cl_X11_198 im_X11_lay cy_X11_lay oc_at_155 rfl (Nat.le_of_ble_eq_true rfl) (by decide) (t_X11_lay l E 25 0 M12 qM15) ?_
                refine ex_goto 9 dX11_product_112 (by decide) ?_
                refine ex_mskL [true, false, false] (L2 := [some (.ref 155), none, none]) rfl ?_
                cases hb
                exact hk M15 rfl
              · rw [if_pos c14] at hb
                refine ex_mskL [false, false, false] (L2 := [none, none, none]) rfl ?_
                cases hb
                cases (he _ rfl) <;> exact hx
            · rw [if_neg c11] at hb
              refine ex_aload_n dX11_product_53 rfl ?_
              refine mx_geti 11 dX11_product_54 fl_X11_173 oc_at_155 (isi_11_20 oc_at_155) ?_
              refine ex_istore_n (L2 := [some (.ref 155), some (.int x9), some (.int (M10 155 20))]) dX11_product_57 (by decide) rfl ?_
              refine ex_aload_n dX11_product_58 rfl ?_
              refine mx_geti 11 dX11_product_59 fl_X11_160 oc_at_155 (isi_11_18 oc_at_155) ?_
              refine ex_iconst 2 dX11_product_62 kI_2 ?_
              refine ex_icmp_eq 72 dX11_product_63 (by decide) (fun c16 => ?_) (fun c16 => ?_)
              · rw [if_pos c16] at hb
                refine ex_iload_n dX11_product_72 rfl ?_
                refine ex_if_ne 82 dX11_product_73 (by decide) (fun c17 => ?_) (fun c17 => ?_)
                · rw [if_neg c17] at hb
                  refine ex_aload_n dX11_product_82 rfl ?_
                  obtain ⟨M18, qM18, hb⟩ := b1E hb
                  refine mx_cVv [] [] 155 11 dX11_product_83 cl_X11_185 im_X11_next0 cy_X11_next0 oc_at_155 rfl (Nat.le_of_ble_eq_true rfl) (by decide) (t_X11_next0 l E M10 qM18) ?_
                  refine ex_aload_n dX11_product_86 rfl ?_
                  refine ex_bipush 26 dX11_product_87 kB_26 ?_
                  refine ex_iload_n dX11_product_89 rfl ?_
                  obtain ⟨M19, qM19, hb⟩ := b1E hb
                  refine mx_cVv [.int 26, .int (M10 155 20)] [] 155 11 dX11_product_90 cl_X11_198 im_X11_lay cy_X11_lay oc_at_155 rfl (Nat.le_of_ble_eq_true rfl) (by decide) (t_X11_lay l E 26 (M10 155 20) M18 qM19) ?_
                  refine ex_goto 112 dX11_product_93 (by decide) ?_
                  refine ex_goto 9 dX11_product_112 (by decide) ?_
                  refine ex_mskL [true, false, false] (L2 := [some (.ref 155), none, none]) rfl ?_
                  cases hb
                  exact hk M19 rfl
                · rw [if_pos c17] at hb
                  refine ex_mskL [true, false, false] (L2 := [some (.ref 155), none, none]) rfl ?_
                  cases hb
                  cases (he _ rfl) <;> exact hx
              · rw [if_neg c16] at hb
                refine ex_mskL [true, false, false] (L2 := [some (.ref 155), none, none]) rfl ?_
                cases hb
                cases (he _ rfl) <;> exact hx
          clear hb
          refine ex_icmp_ne 43 dX11_product_36 (by decide) (fun c8 => ?_) (fun c8 => ?_)
          · rw [if_neg c8] at ex9
            refine ex_iconst 0 dX11_product_43 kI_0 ?_
            subst ex9
            exact Jx9
          · rw [if_pos c8] at ex9
            refine ex_iconst 1 dX11_product_39 kI_1 ?_
            refine ex_goto 44 dX11_product_40 (by decide) ?_
            subst ex9
            exact Jx9
        have JYC7 : ¬ (((M4 155 18) = 142 ∨ (M4 155 18) = 147)) → XM l E (RX11, "product", cX11_product, 3) (some .boolean) 12 115 [some (.ref 155), none, none] [] M4 M' (some (.int r)) := fun C7 => by
          rw [if_neg C7] at hb
          refine ex_mskL [false, false, false] (L2 := [none, none, none]) rfl ?_
          cases hb
          cases (he _ rfl) <;> exact hx
        clear hb
        refine ex_icmp_eq 29 dX11_product_16 (by decide) (fun c5 => ?_) (fun c5 => ?_)
        · exact JXC7 (Or.inl c5)
        · refine ex_aload_n dX11_product_19 rfl ?_
          refine mx_geti 11 dX11_product_20 fl_X11_160 oc_at_155 (isi_11_18 oc_at_155) ?_
          refine ex_sipush 147 dX11_product_23 kS_147 ?_
          refine ex_icmp_ne 115 dX11_product_26 (by decide) (fun c6 => ?_) (fun c6 => ?_)
          · exact JYC7 (fun z => z.elim c5 c6)
          · exact JXC7 (Or.inr c6))
      exact key FU M1 hlq20
    · dsimp only at h
      have hx : XM l E (RX11, "product", cX11_product, 3) (some .boolean) 12 115 [none, none, none] [] u28 M' (some (.int r)) := by
        refine ex_iconst 1 dX11_product_115 kI_1 ?_
        cases h
        exact mx_reti .boolean dX11_product_116 ⟨rfl, by decide⟩
      clear h
      have key : ∀ (k : Nat) (s : Mem), lp (fun s => w_X11_product_9 s) k s = some (.inr (.inr (.inr u28))) → XM l E (RX11, "product", cX11_product, 3) (some .boolean) 12 9 [some (.ref 155), none, none] [] s M' (some (.int r)) := lp_ind (P := fun (s : Mem) => XM l E (RX11, "product", cX11_product, 3) (some .boolean) 12 9 [some (.ref 155), none, none] [] s M' (some (.int r))) (fun s t hb hk he => by
        revert hb hk he; generalize s = M4; intro hb hk he
        show XM l E (RX11, "product", cX11_product, 3) (some .boolean) 12 9 [some (.ref 155), none, none] [] M4 M' (some (.int r))
        change w_X11_product_9 M4 = some t at hb
        unfold w_X11_product_9 at hb
        refine ex_aload_n dX11_product_9 rfl ?_
        refine mx_geti 11 dX11_product_10 fl_X11_160 oc_at_155 (isi_11_18 oc_at_155) ?_
        refine ex_sipush 142 dX11_product_13 kS_142 ?_
        have JXC7 : ((M4 155 18) = 142 ∨ (M4 155 18) = 147) → XM l E (RX11, "product", cX11_product, 3) (some .boolean) 12 29 [some (.ref 155), none, none] [] M4 M' (some (.int r)) := fun C7 => by
          rw [if_pos C7] at hb
          refine ex_aload_n dX11_product_29 rfl ?_
          refine mx_geti 11 dX11_product_30 fl_X11_160 oc_at_155 (isi_11_18 oc_at_155) ?_
          refine ex_sipush 147 dX11_product_33 kS_147 ?_
          obtain ⟨x9, ex9, hb⟩ := ltE hb
          have Jx9 : XM l E (RX11, "product", cX11_product, 3) (some .boolean) 12 44 [some (.ref 155), none, none] [.int x9] M4 M' (some (.int r)) := by
            refine ex_istore_n (L2 := [some (.ref 155), some (.int x9), none]) dX11_product_44 (by decide) rfl ?_
            refine ex_aload_n dX11_product_45 rfl ?_
            obtain ⟨M10, qM10, hb⟩ := b1E hb
            refine mx_cVv [] [] 155 11 dX11_product_46 cl_X11_185 im_X11_next0 cy_X11_next0 oc_at_155 rfl (Nat.le_of_ble_eq_true rfl) (by decide) (t_X11_next0 l E M4 qM10) ?_
            refine ex_iload_n dX11_product_49 rfl ?_
            refine ex_if_eq 96 dX11_product_50 (by decide) (fun c11 => ?_) (fun c11 => ?_)
            · rw [if_pos c11] at hb
              refine ex_aload_n dX11_product_96 rfl ?_
              obtain ⟨M12, x13, qx13, hb⟩ := b2E hb
              refine mx_cVi [] [] 155 11 x13 dX11_product_97 cl_X11_202 im_X11_unit cy_X11_unit oc_at_155 rfl (Nat.le_of_ble_eq_true rfl) (by decide) (t_X11_unit l E M10 qx13) ?_
              refine ex_if_ne 105 dX11_product_100 (by decide) (fun c14 => ?_) (fun c14 => ?_)
              · rw [if_neg c14] at hb
                refine ex_aload_n dX11_product_105 rfl ?_
                refine ex_bipush 25 dX11_product_106 kB_25 ?_
                refine ex_iconst 0 dX11_product_108 kI_0 ?_
                obtain ⟨M15, qM15, hb⟩ := b1E hb
                refine mx_cVv [.int 25, .int 0] [] 155 11 dX11_product_109 cl_X11_198 im_X11_lay cy_X11_lay oc_at_155 rfl (Nat.le_of_ble_eq_true rfl) (by decide) (t_X11_lay l E 25 0 M12 qM15) ?_
                refine ex_goto 9 dX11_product_112 (by decide) ?_
                refine ex_mskL [true, false, false] (L2 := [some (.ref 155), none, none]) rfl ?_
                cases hb
                exact hk M15 rfl
              · rw [if_pos c14] at hb
                refine ex_mskL [false, false, false] (L2 := [none, none, none]) rfl ?_
                cases hb
                cases (he _ rfl) <;> exact hx
            · rw [if_neg c11] at hb
              refine ex_aload_n dX11_product_53 rfl ?_
              refine mx_geti 11 dX11_product_54 fl_X11_173 oc_at_155 (isi_11_20 oc_at_155) ?_
              refine ex_istore_n (L2 := [some (.ref 155), some (.int x9), some (.int (M10 155 20))]) dX11_product_57 (by decide) rfl ?_
              refine ex_aload_n dX11_product_58 rfl ?_
              refine mx_geti 11 dX11_product_59 fl_X11_160 oc_at_155 (isi_11_18 oc_at_155) ?_
              refine ex_iconst 2 dX11_product_62 kI_2 ?_
              refine ex_icmp_eq 72 dX11_product_63 (by decide) (fun c16 => ?_) (fun c16 => ?_)
              · rw [if_pos c16] at hb
                refine ex_iload_n dX11_product_72 rfl ?_
                refine ex_if_ne 82 dX11_product_73 (by decide) (fun c17 => ?_) (fun c17 => ?_)
                · rw [if_neg c17] at hb
                  refine ex_aload_n dX11_product_82 rfl ?_
                  obtain ⟨M18, qM18, hb⟩ := b1E hb
                  refine mx_cVv [] [] 155 11 dX11_product_83 cl_X11_185 im_X11_next0 cy_X11_next0 oc_at_155 rfl (Nat.le_of_ble_eq_true rfl) (by decide) (t_X11_next0 l E M10 qM18) ?_
                  refine ex_aload_n dX11_product_86 rfl ?_
                  refine ex_bipush 26 dX11_product_87 kB_26 ?_
                  refine ex_iload_n dX11_product_89 rfl ?_
                  obtain ⟨M19, qM19, hb⟩ := b1E hb
                  refine mx_cVv [.int 26, .int (M10 155 20)] [] 155 11 dX11_product_90 cl_X11_198 im_X11_lay cy_X11_lay oc_at_155 rfl (Nat.le_of_ble_eq_true rfl) (by decide) (t_X11_lay l E 26 (M10 155 20) M18 qM19) ?_
                  refine ex_goto 112 dX11_product_93 (by decide) ?_
                  refine ex_goto 9 dX11_product_112 (by decide) ?_
                  refine ex_mskL [true, false, false] (L2 := [some (.ref 155), none, none]) rfl ?_
                  cases hb
                  exact hk M19 rfl
                · rw [if_pos c17] at hb
                  refine ex_mskL [true, false, false] (L2 := [some (.ref 155), none, none]) rfl ?_
                  cases hb
                  cases (he _ rfl) <;> exact hx
              · rw [if_neg c16] at hb
                refine ex_mskL [true, false, false] (L2 := [some (.ref 155), none, none]) rfl ?_
                cases hb
                cases (he _ rfl) <;> exact hx
          clear hb
          refine ex_icmp_ne 43 dX11_product_36 (by decide) (fun c8 => ?_) (fun c8 => ?_)
          · rw [if_neg c8] at ex9
            refine ex_iconst 0 dX11_product_43 kI_0 ?_
            subst ex9
            exact Jx9
          · rw [if_pos c8] at ex9
            refine ex_iconst 1 dX11_product_39 kI_1 ?_
            refine ex_goto 44 dX11_product_40 (by decide) ?_
            subst ex9
            exact Jx9
        have JYC7 : ¬ (((M4 155 18) = 142 ∨ (M4 155 18) = 147)) → XM l E (RX11, "product", cX11_product, 3) (some .boolean) 12 115 [some (.ref 155), none, none] [] M4 M' (some (.int r)) := fun C7 => by
          rw [if_neg C7] at hb
          refine ex_mskL [false, false, false] (L2 := [none, none, none]) rfl ?_
          cases hb
          cases (he _ rfl) <;> exact hx
        clear hb
        refine ex_icmp_eq 29 dX11_product_16 (by decide) (fun c5 => ?_) (fun c5 => ?_)
        · exact JXC7 (Or.inl c5)
        · refine ex_aload_n dX11_product_19 rfl ?_
          refine mx_geti 11 dX11_product_20 fl_X11_160 oc_at_155 (isi_11_18 oc_at_155) ?_
          refine ex_sipush 147 dX11_product_23 kS_147 ?_
          refine ex_icmp_ne 115 dX11_product_26 (by decide) (fun c6 => ?_) (fun c6 => ?_)
          · exact JYC7 (fun z => z.elim c5 c6)
          · exact JXC7 (Or.inr c6))
      exact key FU M1 hlq20
  · rw [if_pos c3] at h
    refine ex_iconst 0 dX11_product_7 kI_0 ?_
    cases h
    exact mx_reti .boolean dX11_product_8 ⟨rfl, by decide⟩
def w_X11_sumUp_9 (M4 : Mem) : Option ((Mem) ⊕ ((Mem) ⊕ (Mem))) :=
  if ((M4 155 18) = 143 ∨ (M4 155 18) = 145) then (lt ((if (M4 155 18) = 143 then 23 else 24) : Int32) fun x9 => b1 (f_X11_next0 M4) fun M10 => b2 (f_X11_product M10) fun M11 x12 => if x12 = 0 then (some (.inr (.inl M11))) else (b1 (f_X11_lay x9 0 M11) fun M14 => some (.inl M14))) else (some (.inr (.inr M4)))
def f_X11_sumUp (M : Mem) : Option (Mem × Int32) :=
  b2 (f_X11_product M) fun M1 x2 => if x2 = 0 then (some (M1, 0)) else (b1 (lp (fun s => w_X11_sumUp_9 s) FU M1) fun q15 => match q15 with | .inl u16 => (some (u16, 0)) | .inr u17 => (some (u17, 1)))
set_option maxRecDepth 100000 in
set_option maxHeartbeats 4000000 in
theorem t_X11_sumUp (l : Launch) (E : EV) (M : Mem) {M' : Mem} {r : Int32} (h : f_X11_sumUp M = some (M', r)) : RunM l E yX11_sumUp cX11_sumUp 2 (some .boolean) 13 [.ref 155] M M' (some (.int r)) := by
  refine RunM.of (by decide) (Nat.le_of_ble_eq_true rfl) ?_
  show XM l E (RX11, "sumUp", cX11_sumUp, 2) (some .boolean) 13 0 [some (.ref 155), none] [] M M' (some (.int r))
  unfold f_X11_sumUp at h
  refine ex_aload_n dX11_sumUp_0 rfl ?_
  obtain ⟨M1, x2, qx2, h⟩ := b2E h
  refine mx_cVi [] [] 155 11 x2 dX11_sumUp_1 cl_X11_194 im_X11_product cy_X11_product oc_at_155 rfl (Nat.le_of_ble_eq_true rfl) (by decide) (t_X11_product l E M qx2) ?_
  refine ex_if_ne 9 dX11_sumUp_4 (by decide) (fun c3 => ?_) (fun c3 => ?_)
  · rw [if_neg c3] at h
    refine ex_mskL [true, false] (L2 := [some (.ref 155), none]) rfl ?_
    obtain ⟨q15, hlq15, h⟩ := b1E h
    rcases q15 with u16 | u17
    · dsimp only at h
      have hx : XM l E (RX11, "sumUp", cX11_sumUp, 2) (some .boolean) 13 58 [none, none] [] u16 M' (some (.int r)) := by
        refine ex_iconst 0 dX11_sumUp_58 kI_0 ?_
        cases h
        exact mx_reti .boolean dX11_sumUp_59 ⟨rfl, by decide⟩
      clear h
      have key : ∀ (k : Nat) (s : Mem), lp (fun s => w_X11_sumUp_9 s) k s = some (.inl u16) → XM l E (RX11, "sumUp", cX11_sumUp, 2) (some .boolean) 13 9 [some (.ref 155), none] [] s M' (some (.int r)) := lp_ind (P := fun (s : Mem) => XM l E (RX11, "sumUp", cX11_sumUp, 2) (some .boolean) 13 9 [some (.ref 155), none] [] s M' (some (.int r))) (fun s t hb hk he => by
        revert hb hk he; generalize s = M4; intro hb hk he
        show XM l E (RX11, "sumUp", cX11_sumUp, 2) (some .boolean) 13 9 [some (.ref 155), none] [] M4 M' (some (.int r))
        change w_X11_sumUp_9 M4 = some t at hb
        unfold w_X11_sumUp_9 at hb
        refine ex_aload_n dX11_sumUp_9 rfl ?_
        refine mx_geti 11 dX11_sumUp_10 fl_X11_160 oc_at_155 (isi_11_18 oc_at_155) ?_
        refine ex_sipush 143 dX11_sumUp_13 kS_143 ?_
        have JXC7 : ((M4 155 18) = 143 ∨ (M4 155 18) = 145) → XM l E (RX11, "sumUp", cX11_sumUp, 2) (some .boolean) 13 29 [some (.ref 155), none] [] M4 M' (some (.int r)) := fun C7 => by
          rw [if_pos C7] at hb
          refine ex_aload_n dX11_sumUp_29 rfl ?_
          refine mx_geti 11 dX11_sumUp_30 fl_X11_160 oc_at_155 (isi_11_18 oc_at_155) ?_
          refine ex_sipush 143 dX11_sumUp_33 kS_143 ?_
          obtain ⟨x9, ex9, hb⟩ := ltE hb
          have Jx9 : XM l E (RX11, "sumUp", cX11_sumUp, 2) (some .boolean) 13 46 [some (.ref 155), none] [.int x9] M4 M' (some (.int r)) := by
            refine ex_istore_n (L2 := [some (.ref 155), some (.int x9)]) dX11_sumUp_46 (by decide) rfl ?_
            refine ex_aload_n dX11_sumUp_47 rfl ?_
            obtain ⟨M10, qM10, hb⟩ := b1E hb
            refine mx_cVv [] [] 155 11 dX11_sumUp_48 cl_X11_185 im_X11_next0 cy_X11_next0 oc_at_155 rfl (Nat.le_of_ble_eq_true rfl) (by decide) (t_X11_next0 l E M4 qM10) ?_
            refine ex_aload_n dX11_sumUp_51 rfl ?_
            obtain ⟨M11, x12, qx12, hb⟩ := b2E hb
            refine mx_cVi [] [] 155 11 x12 dX11_sumUp_52 cl_X11_194 im_X11_product cy_X11_product oc_at_155 rfl (Nat.le_of_ble_eq_true rfl) (by decide) (t_X11_product l E M10 qx12) ?_
            refine ex_if_ne 60 dX11_sumUp_55 (by decide) (fun c13 => ?_) (fun c13 => ?_)
            · rw [if_neg c13] at hb
              refine ex_aload_n dX11_sumUp_60 rfl ?_
              refine ex_iload_n dX11_sumUp_61 rfl ?_
              refine ex_iconst 0 dX11_sumUp_62 kI_0 ?_
              obtain ⟨M14, qM14, hb⟩ := b1E hb
              refine mx_cVv [.int x9, .int 0] [] 155 11 dX11_sumUp_63 cl_X11_198 im_X11_lay cy_X11_lay oc_at_155 rfl (Nat.le_of_ble_eq_true rfl) (by decide) (t_X11_lay l E x9 0 M11 qM14) ?_
              refine ex_goto 9 dX11_sumUp_66 (by decide) ?_
              refine ex_mskL [true, false] (L2 := [some (.ref 155), none]) rfl ?_
              cases hb
              exact hk M14 rfl
            · rw [if_pos c13] at hb
              refine ex_mskL [false, false] (L2 := [none, none]) rfl ?_
              cases hb
              cases (he _ rfl) <;> exact hx
          clear hb
          refine ex_icmp_ne 44 dX11_sumUp_36 (by decide) (fun c8 => ?_) (fun c8 => ?_)
          · rw [if_neg c8] at ex9
            refine ex_bipush 24 dX11_sumUp_44 kB_24 ?_
            subst ex9
            exact Jx9
          · rw [if_pos c8] at ex9
            refine ex_bipush 23 dX11_sumUp_39 kB_23 ?_
            refine ex_goto 46 dX11_sumUp_41 (by decide) ?_
            subst ex9
            exact Jx9
        have JYC7 : ¬ (((M4 155 18) = 143 ∨ (M4 155 18) = 145)) → XM l E (RX11, "sumUp", cX11_sumUp, 2) (some .boolean) 13 69 [some (.ref 155), none] [] M4 M' (some (.int r)) := fun C7 => by
          rw [if_neg C7] at hb
          refine ex_mskL [false, false] (L2 := [none, none]) rfl ?_
          cases hb
          cases (he _ rfl) <;> exact hx
        clear hb
        refine ex_icmp_eq 29 dX11_sumUp_16 (by decide) (fun c5 => ?_) (fun c5 => ?_)
        · exact JXC7 (Or.inl c5)
        · refine ex_aload_n dX11_sumUp_19 rfl ?_
          refine mx_geti 11 dX11_sumUp_20 fl_X11_160 oc_at_155 (isi_11_18 oc_at_155) ?_
          refine ex_sipush 145 dX11_sumUp_23 kS_145 ?_
          refine ex_icmp_ne 69 dX11_sumUp_26 (by decide) (fun c6 => ?_) (fun c6 => ?_)
          · exact JYC7 (fun z => z.elim c5 c6)
          · exact JXC7 (Or.inr c6))
      exact key FU M1 hlq15
    · dsimp only at h
      have hx : XM l E (RX11, "sumUp", cX11_sumUp, 2) (some .boolean) 13 69 [none, none] [] u17 M' (some (.int r)) := by
        refine ex_iconst 1 dX11_sumUp_69 kI_1 ?_
        cases h
        exact mx_reti .boolean dX11_sumUp_70 ⟨rfl, by decide⟩
      clear h
      have key : ∀ (k : Nat) (s : Mem), lp (fun s => w_X11_sumUp_9 s) k s = some (.inr u17) → XM l E (RX11, "sumUp", cX11_sumUp, 2) (some .boolean) 13 9 [some (.ref 155), none] [] s M' (some (.int r)) := lp_ind (P := fun (s : Mem) => XM l E (RX11, "sumUp", cX11_sumUp, 2) (some .boolean) 13 9 [some (.ref 155), none] [] s M' (some (.int r))) (fun s t hb hk he => by
        revert hb hk he; generalize s = M4; intro hb hk he
        show XM l E (RX11, "sumUp", cX11_sumUp, 2) (some .boolean) 13 9 [some (.ref 155), none] [] M4 M' (some (.int r))
        change w_X11_sumUp_9 M4 = some t at hb
        unfold w_X11_sumUp_9 at hb
        refine ex_aload_n dX11_sumUp_9 rfl ?_
        refine mx_geti 11 dX11_sumUp_10 fl_X11_160 oc_at_155 (isi_11_18 oc_at_155) ?_
        refine ex_sipush 143 dX11_sumUp_13 kS_143 ?_
        have JXC7 : ((M4 155 18) = 143 ∨ (M4 155 18) = 145) → XM l E (RX11, "sumUp", cX11_sumUp, 2) (some .boolean) 13 29 [some (.ref 155), none] [] M4 M' (some (.int r)) := fun C7 => by
          rw [if_pos C7] at hb
          refine ex_aload_n dX11_sumUp_29 rfl ?_
          refine mx_geti 11 dX11_sumUp_30 fl_X11_160 oc_at_155 (isi_11_18 oc_at_155) ?_
          refine ex_sipush 143 dX11_sumUp_33 kS_143 ?_
          obtain ⟨x9, ex9, hb⟩ := ltE hb
          have Jx9 : XM l E (RX11, "sumUp", cX11_sumUp, 2) (some .boolean) 13 46 [some (.ref 155), none] [.int x9] M4 M' (some (.int r)) := by
            refine ex_istore_n (L2 := [some (.ref 155), some (.int x9)]) dX11_sumUp_46 (by decide) rfl ?_
            refine ex_aload_n dX11_sumUp_47 rfl ?_
            obtain ⟨M10, qM10, hb⟩ := b1E hb
            refine mx_cVv [] [] 155 11 dX11_sumUp_48 cl_X11_185 im_X11_next0 cy_X11_next0 oc_at_155 rfl (Nat.le_of_ble_eq_true rfl) (by decide) (t_X11_next0 l E M4 qM10) ?_
            refine ex_aload_n dX11_sumUp_51 rfl ?_
            obtain ⟨M11, x12, qx12, hb⟩ := b2E hb
            refine mx_cVi [] [] 155 11 x12 dX11_sumUp_52 cl_X11_194 im_X11_product cy_X11_product oc_at_155 rfl (Nat.le_of_ble_eq_true rfl) (by decide) (t_X11_product l E M10 qx12) ?_
            refine ex_if_ne 60 dX11_sumUp_55 (by decide) (fun c13 => ?_) (fun c13 => ?_)
            · rw [if_neg c13] at hb
              refine ex_aload_n dX11_sumUp_60 rfl ?_
              refine ex_iload_n dX11_sumUp_61 rfl ?_
              refine ex_iconst 0 dX11_sumUp_62 kI_0 ?_
              obtain ⟨M14, qM14, hb⟩ := b1E hb
              refine mx_cVv [.int x9, .int 0] [] 155 11 dX11_sumUp_63 cl_X11_198 im_X11_lay cy_X11_lay oc_at_155 rfl (Nat.le_of_ble_eq_true rfl) (by decide) (t_X11_lay l E x9 0 M11 qM14) ?_
              refine ex_goto 9 dX11_sumUp_66 (by decide) ?_
              refine ex_mskL [true, false] (L2 := [some (.ref 155), none]) rfl ?_
              cases hb
              exact hk M14 rfl
            · rw [if_pos c13] at hb
              refine ex_mskL [false, false] (L2 := [none, none]) rfl ?_
              cases hb
              cases (he _ rfl) <;> exact hx
          clear hb
          refine ex_icmp_ne 44 dX11_sumUp_36 (by decide) (fun c8 => ?_) (fun c8 => ?_)
          · rw [if_neg c8] at ex9
            refine ex_bipush 24 dX11_sumUp_44 kB_24 ?_
            subst ex9
            exact Jx9
          · rw [if_pos c8] at ex9
            refine ex_bipush 23 dX11_sumUp_39 kB_23 ?_
            refine ex_goto 46 dX11_sumUp_41 (by decide) ?_
            subst ex9
            exact Jx9
        have JYC7 : ¬ (((M4 155 18) = 143 ∨ (M4 155 18) = 145)) → XM l E (RX11, "sumUp", cX11_sumUp, 2) (some .boolean) 13 69 [some (.ref 155), none] [] M4 M' (some (.int r)) := fun C7 => by
          rw [if_neg C7] at hb
          refine ex_mskL [false, false] (L2 := [none, none]) rfl ?_
          cases hb
          cases (he _ rfl) <;> exact hx
        clear hb
        refine ex_icmp_eq 29 dX11_sumUp_16 (by decide) (fun c5 => ?_) (fun c5 => ?_)
        · exact JXC7 (Or.inl c5)
        · refine ex_aload_n dX11_sumUp_19 rfl ?_
          refine mx_geti 11 dX11_sumUp_20 fl_X11_160 oc_at_155 (isi_11_18 oc_at_155) ?_
          refine ex_sipush 145 dX11_sumUp_23 kS_145 ?_
          refine ex_icmp_ne 69 dX11_sumUp_26 (by decide) (fun c6 => ?_) (fun c6 => ?_)
          · exact JYC7 (fun z => z.elim c5 c6)
          · exact JXC7 (Or.inr c6))
      exact key FU M1 hlq15
  · rw [if_pos c3] at h
    refine ex_iconst 0 dX11_sumUp_7 kI_0 ?_
    cases h
    exact mx_reti .boolean dX11_sumUp_8 ⟨rfl, by decide⟩
def w_X11_any_9 (r_X11_every : Mem → Option (Mem × Int32)) (M4 : Mem) : Option ((Mem) ⊕ ((Mem) ⊕ (Mem))) :=
  if (M4 155 18) = 4 then (b1 (f_X11_next0 M4) fun M6 => b2 (r_X11_every M6) fun M7 x8 => if x8 = 0 then (some (.inr (.inl M7))) else (b1 (f_X11_lay 32 0 M7) fun M10 => some (.inl M10))) else (some (.inr (.inr M4)))
def F_X11_any (r_X11_any : Mem → Option (Mem × Int32)) (r_X11_every : Mem → Option (Mem × Int32)) (r_X11_oneTest : Mem → Option (Mem × Int32)) (M : Mem) : Option (Mem × Int32) :=
  b2 (r_X11_every M) fun M1 x2 => if x2 = 0 then (some (M1, 0)) else (b1 (lp (fun s => w_X11_any_9 r_X11_every s) FU M1) fun q11 => match q11 with | .inl u12 => (some (u12, 0)) | .inr u13 => (some (u13, 1)))
set_option maxRecDepth 100000 in
set_option maxHeartbeats 4000000 in
theorem T_X11_any (l : Launch) (E : EV) (n : Nat) (r_X11_any : Mem → Option (Mem × Int32)) (r_X11_every : Mem → Option (Mem × Int32)) (r_X11_oneTest : Mem → Option (Mem × Int32)) (h_X11_any : ∀ (M : Mem) {M' : Mem} {r : Int32}, r_X11_any M = some (M', r) → RunM l E yX11_any cX11_any 1 (some .boolean) (n + 14) [.ref 155] M M' (some (.int r))) (h_X11_every : ∀ (M : Mem) {M' : Mem} {r : Int32}, r_X11_every M = some (M', r) → RunM l E yX11_every cX11_every 1 (some .boolean) (n + 14) [.ref 155] M M' (some (.int r))) (h_X11_oneTest : ∀ (M : Mem) {M' : Mem} {r : Int32}, r_X11_oneTest M = some (M', r) → RunM l E yX11_oneTest cX11_oneTest 2 (some .boolean) (n + 14) [.ref 155] M M' (some (.int r))) (M : Mem) {M' : Mem} {r : Int32} (h : F_X11_any r_X11_any r_X11_every r_X11_oneTest M = some (M', r)) : RunM l E yX11_any cX11_any 1 (some .boolean) (n + 15) [.ref 155] M M' (some (.int r)) := by
  refine RunM.of (by decide) (Nat.le_of_ble_eq_true rfl) ?_
  show XM l E (RX11, "any", cX11_any, 1) (some .boolean) (n + 15) 0 [some (.ref 155)] [] M M' (some (.int r))
  unfold F_X11_any at h
  refine ex_aload_n dX11_any_0 rfl ?_
  obtain ⟨M1, x2, qx2, h⟩ := b2E h
  refine mx_cVi [] [] 155 11 x2 dX11_any_1 cl_X11_205 im_X11_every cy_X11_every oc_at_155 rfl (Nat.le_of_ble_eq_true rfl) (by omega) (h_X11_every M qx2) ?_
  refine ex_if_ne 9 dX11_any_4 (by decide) (fun c3 => ?_) (fun c3 => ?_)
  · rw [if_neg c3] at h
    refine ex_mskL [true] (L2 := [some (.ref 155)]) rfl ?_
    obtain ⟨q11, hlq11, h⟩ := b1E h
    rcases q11 with u12 | u13
    · dsimp only at h
      have hx : XM l E (RX11, "any", cX11_any, 1) (some .boolean) (n + 15) 28 [none] [] u12 M' (some (.int r)) := by
        refine ex_iconst 0 dX11_any_28 kI_0 ?_
        cases h
        exact mx_reti .boolean dX11_any_29 ⟨rfl, by decide⟩
      clear h
      have key : ∀ (k : Nat) (s : Mem), lp (fun s => w_X11_any_9 r_X11_every s) k s = some (.inl u12) → XM l E (RX11, "any", cX11_any, 1) (some .boolean) (n + 15) 9 [some (.ref 155)] [] s M' (some (.int r)) := lp_ind (P := fun (s : Mem) => XM l E (RX11, "any", cX11_any, 1) (some .boolean) (n + 15) 9 [some (.ref 155)] [] s M' (some (.int r))) (fun s t hb hk he => by
        revert hb hk he; generalize s = M4; intro hb hk he
        show XM l E (RX11, "any", cX11_any, 1) (some .boolean) (n + 15) 9 [some (.ref 155)] [] M4 M' (some (.int r))
        change w_X11_any_9 r_X11_every M4 = some t at hb
        unfold w_X11_any_9 at hb
        refine ex_aload_n dX11_any_9 rfl ?_
        refine mx_geti 11 dX11_any_10 fl_X11_160 oc_at_155 (isi_11_18 oc_at_155) ?_
        refine ex_iconst 4 dX11_any_13 kI_4 ?_
        refine ex_icmp_ne 40 dX11_any_14 (by decide) (fun c5 => ?_) (fun c5 => ?_)
        · rw [if_neg c5] at hb
          refine ex_mskL [false] (L2 := [none]) rfl ?_
          cases hb
          cases (he _ rfl) <;> exact hx
        · rw [if_pos c5] at hb
          refine ex_aload_n dX11_any_17 rfl ?_
          obtain ⟨M6, qM6, hb⟩ := b1E hb
          refine mx_cVv [] [] 155 11 dX11_any_18 cl_X11_185 im_X11_next0 cy_X11_next0 oc_at_155 rfl (Nat.le_of_ble_eq_true rfl) (by omega) (t_X11_next0 l E M4 qM6) ?_
          refine ex_aload_n dX11_any_21 rfl ?_
          obtain ⟨M7, x8, qx8, hb⟩ := b2E hb
          refine mx_cVi [] [] 155 11 x8 dX11_any_22 cl_X11_205 im_X11_every cy_X11_every oc_at_155 rfl (Nat.le_of_ble_eq_true rfl) (by omega) (h_X11_every M6 qx8) ?_
          refine ex_if_ne 30 dX11_any_25 (by decide) (fun c9 => ?_) (fun c9 => ?_)
          · rw [if_neg c9] at hb
            refine ex_aload_n dX11_any_30 rfl ?_
            refine ex_bipush 32 dX11_any_31 kB_32 ?_
            refine ex_iconst 0 dX11_any_33 kI_0 ?_
            obtain ⟨M10, qM10, hb⟩ := b1E hb
            refine mx_cVv [.int 32, .int 0] [] 155 11 dX11_any_34 cl_X11_198 im_X11_lay cy_X11_lay oc_at_155 rfl (Nat.le_of_ble_eq_true rfl) (by omega) (t_X11_lay l E 32 0 M7 qM10) ?_
            refine ex_goto 9 dX11_any_37 (by decide) ?_
            refine ex_mskL [true] (L2 := [some (.ref 155)]) rfl ?_
            cases hb
            exact hk M10 rfl
          · rw [if_pos c9] at hb
            refine ex_mskL [false] (L2 := [none]) rfl ?_
            cases hb
            cases (he _ rfl) <;> exact hx)
      exact key FU M1 hlq11
    · dsimp only at h
      have hx : XM l E (RX11, "any", cX11_any, 1) (some .boolean) (n + 15) 40 [none] [] u13 M' (some (.int r)) := by
        refine ex_iconst 1 dX11_any_40 kI_1 ?_
        cases h
        exact mx_reti .boolean dX11_any_41 ⟨rfl, by decide⟩
      clear h
      have key : ∀ (k : Nat) (s : Mem), lp (fun s => w_X11_any_9 r_X11_every s) k s = some (.inr u13) → XM l E (RX11, "any", cX11_any, 1) (some .boolean) (n + 15) 9 [some (.ref 155)] [] s M' (some (.int r)) := lp_ind (P := fun (s : Mem) => XM l E (RX11, "any", cX11_any, 1) (some .boolean) (n + 15) 9 [some (.ref 155)] [] s M' (some (.int r))) (fun s t hb hk he => by
        revert hb hk he; generalize s = M4; intro hb hk he
        show XM l E (RX11, "any", cX11_any, 1) (some .boolean) (n + 15) 9 [some (.ref 155)] [] M4 M' (some (.int r))
        change w_X11_any_9 r_X11_every M4 = some t at hb
        unfold w_X11_any_9 at hb
        refine ex_aload_n dX11_any_9 rfl ?_
        refine mx_geti 11 dX11_any_10 fl_X11_160 oc_at_155 (isi_11_18 oc_at_155) ?_
        refine ex_iconst 4 dX11_any_13 kI_4 ?_
        refine ex_icmp_ne 40 dX11_any_14 (by decide) (fun c5 => ?_) (fun c5 => ?_)
        · rw [if_neg c5] at hb
          refine ex_mskL [false] (L2 := [none]) rfl ?_
          cases hb
          cases (he _ rfl) <;> exact hx
        · rw [if_pos c5] at hb
          refine ex_aload_n dX11_any_17 rfl ?_
          obtain ⟨M6, qM6, hb⟩ := b1E hb
          refine mx_cVv [] [] 155 11 dX11_any_18 cl_X11_185 im_X11_next0 cy_X11_next0 oc_at_155 rfl (Nat.le_of_ble_eq_true rfl) (by omega) (t_X11_next0 l E M4 qM6) ?_
          refine ex_aload_n dX11_any_21 rfl ?_
          obtain ⟨M7, x8, qx8, hb⟩ := b2E hb
          refine mx_cVi [] [] 155 11 x8 dX11_any_22 cl_X11_205 im_X11_every cy_X11_every oc_at_155 rfl (Nat.le_of_ble_eq_true rfl) (by omega) (h_X11_every M6 qx8) ?_
          refine ex_if_ne 30 dX11_any_25 (by decide) (fun c9 => ?_) (fun c9 => ?_)
          · rw [if_neg c9] at hb
            refine ex_aload_n dX11_any_30 rfl ?_
            refine ex_bipush 32 dX11_any_31 kB_32 ?_
            refine ex_iconst 0 dX11_any_33 kI_0 ?_
            obtain ⟨M10, qM10, hb⟩ := b1E hb
            refine mx_cVv [.int 32, .int 0] [] 155 11 dX11_any_34 cl_X11_198 im_X11_lay cy_X11_lay oc_at_155 rfl (Nat.le_of_ble_eq_true rfl) (by omega) (t_X11_lay l E 32 0 M7 qM10) ?_
            refine ex_goto 9 dX11_any_37 (by decide) ?_
            refine ex_mskL [true] (L2 := [some (.ref 155)]) rfl ?_
            cases hb
            exact hk M10 rfl
          · rw [if_pos c9] at hb
            refine ex_mskL [false] (L2 := [none]) rfl ?_
            cases hb
            cases (he _ rfl) <;> exact hx)
      exact key FU M1 hlq11
  · rw [if_pos c3] at h
    refine ex_iconst 0 dX11_any_7 kI_0 ?_
    cases h
    exact mx_reti .boolean dX11_any_8 ⟨rfl, by decide⟩
def w_X11_every_9 (r_X11_oneTest : Mem → Option (Mem × Int32)) (M4 : Mem) : Option ((Mem) ⊕ ((Mem) ⊕ (Mem))) :=
  if (M4 155 18) = 5 then (b1 (f_X11_next0 M4) fun M6 => b2 (r_X11_oneTest M6) fun M7 x8 => if x8 = 0 then (some (.inr (.inl M7))) else (b1 (f_X11_lay 31 0 M7) fun M10 => some (.inl M10))) else (some (.inr (.inr M4)))
def F_X11_every (r_X11_any : Mem → Option (Mem × Int32)) (r_X11_every : Mem → Option (Mem × Int32)) (r_X11_oneTest : Mem → Option (Mem × Int32)) (M : Mem) : Option (Mem × Int32) :=
  b2 (r_X11_oneTest M) fun M1 x2 => if x2 = 0 then (some (M1, 0)) else (b1 (lp (fun s => w_X11_every_9 r_X11_oneTest s) FU M1) fun q11 => match q11 with | .inl u12 => (some (u12, 0)) | .inr u13 => (some (u13, 1)))
set_option maxRecDepth 100000 in
set_option maxHeartbeats 4000000 in
theorem T_X11_every (l : Launch) (E : EV) (n : Nat) (r_X11_any : Mem → Option (Mem × Int32)) (r_X11_every : Mem → Option (Mem × Int32)) (r_X11_oneTest : Mem → Option (Mem × Int32)) (h_X11_any : ∀ (M : Mem) {M' : Mem} {r : Int32}, r_X11_any M = some (M', r) → RunM l E yX11_any cX11_any 1 (some .boolean) (n + 14) [.ref 155] M M' (some (.int r))) (h_X11_every : ∀ (M : Mem) {M' : Mem} {r : Int32}, r_X11_every M = some (M', r) → RunM l E yX11_every cX11_every 1 (some .boolean) (n + 14) [.ref 155] M M' (some (.int r))) (h_X11_oneTest : ∀ (M : Mem) {M' : Mem} {r : Int32}, r_X11_oneTest M = some (M', r) → RunM l E yX11_oneTest cX11_oneTest 2 (some .boolean) (n + 14) [.ref 155] M M' (some (.int r))) (M : Mem) {M' : Mem} {r : Int32} (h : F_X11_every r_X11_any r_X11_every r_X11_oneTest M = some (M', r)) : RunM l E yX11_every cX11_every 1 (some .boolean) (n + 15) [.ref 155] M M' (some (.int r)) := by
  refine RunM.of (by decide) (Nat.le_of_ble_eq_true rfl) ?_
  show XM l E (RX11, "every", cX11_every, 1) (some .boolean) (n + 15) 0 [some (.ref 155)] [] M M' (some (.int r))
  unfold F_X11_every at h
  refine ex_aload_n dX11_every_0 rfl ?_
  obtain ⟨M1, x2, qx2, h⟩ := b2E h
  refine mx_cVi [] [] 155 11 x2 dX11_every_1 cl_X11_208 im_X11_oneTest cy_X11_oneTest oc_at_155 rfl (Nat.le_of_ble_eq_true rfl) (by omega) (h_X11_oneTest M qx2) ?_
  refine ex_if_ne 9 dX11_every_4 (by decide) (fun c3 => ?_) (fun c3 => ?_)
  · rw [if_neg c3] at h
    refine ex_mskL [true] (L2 := [some (.ref 155)]) rfl ?_
    obtain ⟨q11, hlq11, h⟩ := b1E h
    rcases q11 with u12 | u13
    · dsimp only at h
      have hx : XM l E (RX11, "every", cX11_every, 1) (some .boolean) (n + 15) 28 [none] [] u12 M' (some (.int r)) := by
        refine ex_iconst 0 dX11_every_28 kI_0 ?_
        cases h
        exact mx_reti .boolean dX11_every_29 ⟨rfl, by decide⟩
      clear h
      have key : ∀ (k : Nat) (s : Mem), lp (fun s => w_X11_every_9 r_X11_oneTest s) k s = some (.inl u12) → XM l E (RX11, "every", cX11_every, 1) (some .boolean) (n + 15) 9 [some (.ref 155)] [] s M' (some (.int r)) := lp_ind (P := fun (s : Mem) => XM l E (RX11, "every", cX11_every, 1) (some .boolean) (n + 15) 9 [some (.ref 155)] [] s M' (some (.int r))) (fun s t hb hk he => by
        revert hb hk he; generalize s = M4; intro hb hk he
        show XM l E (RX11, "every", cX11_every, 1) (some .boolean) (n + 15) 9 [some (.ref 155)] [] M4 M' (some (.int r))
        change w_X11_every_9 r_X11_oneTest M4 = some t at hb
        unfold w_X11_every_9 at hb
        refine ex_aload_n dX11_every_9 rfl ?_
        refine mx_geti 11 dX11_every_10 fl_X11_160 oc_at_155 (isi_11_18 oc_at_155) ?_
        refine ex_iconst 5 dX11_every_13 kI_5 ?_
        refine ex_icmp_ne 40 dX11_every_14 (by decide) (fun c5 => ?_) (fun c5 => ?_)
        · rw [if_neg c5] at hb
          refine ex_mskL [false] (L2 := [none]) rfl ?_
          cases hb
          cases (he _ rfl) <;> exact hx
        · rw [if_pos c5] at hb
          refine ex_aload_n dX11_every_17 rfl ?_
          obtain ⟨M6, qM6, hb⟩ := b1E hb
          refine mx_cVv [] [] 155 11 dX11_every_18 cl_X11_185 im_X11_next0 cy_X11_next0 oc_at_155 rfl (Nat.le_of_ble_eq_true rfl) (by omega) (t_X11_next0 l E M4 qM6) ?_
          refine ex_aload_n dX11_every_21 rfl ?_
          obtain ⟨M7, x8, qx8, hb⟩ := b2E hb
          refine mx_cVi [] [] 155 11 x8 dX11_every_22 cl_X11_208 im_X11_oneTest cy_X11_oneTest oc_at_155 rfl (Nat.le_of_ble_eq_true rfl) (by omega) (h_X11_oneTest M6 qx8) ?_
          refine ex_if_ne 30 dX11_every_25 (by decide) (fun c9 => ?_) (fun c9 => ?_)
          · rw [if_neg c9] at hb
            refine ex_aload_n dX11_every_30 rfl ?_
            refine ex_bipush 31 dX11_every_31 kB_31 ?_
            refine ex_iconst 0 dX11_every_33 kI_0 ?_
            obtain ⟨M10, qM10, hb⟩ := b1E hb
            refine mx_cVv [.int 31, .int 0] [] 155 11 dX11_every_34 cl_X11_198 im_X11_lay cy_X11_lay oc_at_155 rfl (Nat.le_of_ble_eq_true rfl) (by omega) (t_X11_lay l E 31 0 M7 qM10) ?_
            refine ex_goto 9 dX11_every_37 (by decide) ?_
            refine ex_mskL [true] (L2 := [some (.ref 155)]) rfl ?_
            cases hb
            exact hk M10 rfl
          · rw [if_pos c9] at hb
            refine ex_mskL [false] (L2 := [none]) rfl ?_
            cases hb
            cases (he _ rfl) <;> exact hx)
      exact key FU M1 hlq11
    · dsimp only at h
      have hx : XM l E (RX11, "every", cX11_every, 1) (some .boolean) (n + 15) 40 [none] [] u13 M' (some (.int r)) := by
        refine ex_iconst 1 dX11_every_40 kI_1 ?_
        cases h
        exact mx_reti .boolean dX11_every_41 ⟨rfl, by decide⟩
      clear h
      have key : ∀ (k : Nat) (s : Mem), lp (fun s => w_X11_every_9 r_X11_oneTest s) k s = some (.inr u13) → XM l E (RX11, "every", cX11_every, 1) (some .boolean) (n + 15) 9 [some (.ref 155)] [] s M' (some (.int r)) := lp_ind (P := fun (s : Mem) => XM l E (RX11, "every", cX11_every, 1) (some .boolean) (n + 15) 9 [some (.ref 155)] [] s M' (some (.int r))) (fun s t hb hk he => by
        revert hb hk he; generalize s = M4; intro hb hk he
        show XM l E (RX11, "every", cX11_every, 1) (some .boolean) (n + 15) 9 [some (.ref 155)] [] M4 M' (some (.int r))
        change w_X11_every_9 r_X11_oneTest M4 = some t at hb
        unfold w_X11_every_9 at hb
        refine ex_aload_n dX11_every_9 rfl ?_
        refine mx_geti 11 dX11_every_10 fl_X11_160 oc_at_155 (isi_11_18 oc_at_155) ?_
        refine ex_iconst 5 dX11_every_13 kI_5 ?_
        refine ex_icmp_ne 40 dX11_every_14 (by decide) (fun c5 => ?_) (fun c5 => ?_)
        · rw [if_neg c5] at hb
          refine ex_mskL [false] (L2 := [none]) rfl ?_
          cases hb
          cases (he _ rfl) <;> exact hx
        · rw [if_pos c5] at hb
          refine ex_aload_n dX11_every_17 rfl ?_
          obtain ⟨M6, qM6, hb⟩ := b1E hb
          refine mx_cVv [] [] 155 11 dX11_every_18 cl_X11_185 im_X11_next0 cy_X11_next0 oc_at_155 rfl (Nat.le_of_ble_eq_true rfl) (by omega) (t_X11_next0 l E M4 qM6) ?_
          refine ex_aload_n dX11_every_21 rfl ?_
          obtain ⟨M7, x8, qx8, hb⟩ := b2E hb
          refine mx_cVi [] [] 155 11 x8 dX11_every_22 cl_X11_208 im_X11_oneTest cy_X11_oneTest oc_at_155 rfl (Nat.le_of_ble_eq_true rfl) (by omega) (h_X11_oneTest M6 qx8) ?_
          refine ex_if_ne 30 dX11_every_25 (by decide) (fun c9 => ?_) (fun c9 => ?_)
          · rw [if_neg c9] at hb
            refine ex_aload_n dX11_every_30 rfl ?_
            refine ex_bipush 31 dX11_every_31 kB_31 ?_
            refine ex_iconst 0 dX11_every_33 kI_0 ?_
            obtain ⟨M10, qM10, hb⟩ := b1E hb
            refine mx_cVv [.int 31, .int 0] [] 155 11 dX11_every_34 cl_X11_198 im_X11_lay cy_X11_lay oc_at_155 rfl (Nat.le_of_ble_eq_true rfl) (by omega) (t_X11_lay l E 31 0 M7 qM10) ?_
            refine ex_goto 9 dX11_every_37 (by decide) ?_
            refine ex_mskL [true] (L2 := [some (.ref 155)]) rfl ?_
            cases hb
            exact hk M10 rfl
          · rw [if_pos c9] at hb
            refine ex_mskL [false] (L2 := [none]) rfl ?_
            cases hb
            cases (he _ rfl) <;> exact hx)
      exact key FU M1 hlq11
  · rw [if_pos c3] at h
    refine ex_iconst 0 dX11_every_7 kI_0 ?_
    cases h
    exact mx_reti .boolean dX11_every_8 ⟨rfl, by decide⟩
def F_X11_oneTest (r_X11_any : Mem → Option (Mem × Int32)) (r_X11_every : Mem → Option (Mem × Int32)) (r_X11_oneTest : Mem → Option (Mem × Int32)) (M : Mem) : Option (Mem × Int32) :=
  if (M 155 18) = 6 then (b2 (f_X11_opens M) fun M28 x29 => if x29 = 0 then (some (M28, 0)) else (b2 (r_X11_oneTest M28) fun M31 x32 => if x32 = 0 then (some (M31, 0)) else (lt (up2 M31 155 24 ((M31 155 24) - 1)) fun M34 => b1 (f_X11_lay 30 0 M34) fun M35 => some (M35, 1)))) else (if (M 155 18) = 140 then (b2 (f_X11_opens M) fun M18 x19 => if x19 = 0 then (some (M18, 0)) else (b2 (r_X11_any M18) fun M21 x22 => if x22 = 0 then (some (M21, 0)) else (b2 (f_X11_need 141 M21) fun M24 x25 => if x25 = 0 then (some (M24, 0)) else (lt (up2 M24 155 24 ((M24 155 24) - 1)) fun M27 => some (M27, 1))))) else (b2 (f_X11_sumUp M) fun M3 x4 => if x4 = 0 then (some (M3, 0)) else (lt ((if (M3 155 18) = 160 then 27 else (if (M3 155 18) = 161 then 28 else (if (M3 155 18) = 162 then 29 else (-1)))) : Int32) fun x9 => if x9 = (-1) then (lt (f_X11_bad 1 M3) fun p16 => b1 (gz p16.2) fun x17 => some (p16.1, x17)) else (b1 (f_X11_next0 M3) fun M11 => b2 (f_X11_sumUp M11) fun M12 x13 => if x13 = 0 then (some (M12, 0)) else (b1 (f_X11_lay x9 0 M12) fun M15 => some (M15, 1))))))
set_option maxRecDepth 100000 in
set_option maxHeartbeats 4000000 in
theorem T_X11_oneTest (l : Launch) (E : EV) (n : Nat) (r_X11_any : Mem → Option (Mem × Int32)) (r_X11_every : Mem → Option (Mem × Int32)) (r_X11_oneTest : Mem → Option (Mem × Int32)) (h_X11_any : ∀ (M : Mem) {M' : Mem} {r : Int32}, r_X11_any M = some (M', r) → RunM l E yX11_any cX11_any 1 (some .boolean) (n + 14) [.ref 155] M M' (some (.int r))) (h_X11_every : ∀ (M : Mem) {M' : Mem} {r : Int32}, r_X11_every M = some (M', r) → RunM l E yX11_every cX11_every 1 (some .boolean) (n + 14) [.ref 155] M M' (some (.int r))) (h_X11_oneTest : ∀ (M : Mem) {M' : Mem} {r : Int32}, r_X11_oneTest M = some (M', r) → RunM l E yX11_oneTest cX11_oneTest 2 (some .boolean) (n + 14) [.ref 155] M M' (some (.int r))) (M : Mem) {M' : Mem} {r : Int32} (h : F_X11_oneTest r_X11_any r_X11_every r_X11_oneTest M = some (M', r)) : RunM l E yX11_oneTest cX11_oneTest 2 (some .boolean) (n + 15) [.ref 155] M M' (some (.int r)) := by
  refine RunM.of (by decide) (Nat.le_of_ble_eq_true rfl) ?_
  show XM l E (RX11, "oneTest", cX11_oneTest, 2) (some .boolean) (n + 15) 0 [some (.ref 155), none] [] M M' (some (.int r))
  unfold F_X11_oneTest at h
  refine ex_aload_n dX11_oneTest_0 rfl ?_
  refine mx_geti 11 dX11_oneTest_1 fl_X11_160 oc_at_155 (isi_11_18 oc_at_155) ?_
  refine ex_bipush 6 dX11_oneTest_4 kB_6 ?_
  refine ex_icmp_ne 44 dX11_oneTest_6 (by decide) (fun c1 => ?_) (fun c1 => ?_)
  · rw [if_neg c1] at h
    refine ex_aload_n dX11_oneTest_44 rfl ?_
    refine mx_geti 11 dX11_oneTest_45 fl_X11_160 oc_at_155 (isi_11_18 oc_at_155) ?_
    refine ex_sipush 140 dX11_oneTest_48 kS_140 ?_
    refine ex_icmp_ne 92 dX11_oneTest_51 (by decide) (fun c2 => ?_) (fun c2 => ?_)
    · rw [if_neg c2] at h
      refine ex_aload_n dX11_oneTest_92 rfl ?_
      obtain ⟨M3, x4, qx4, h⟩ := b2E h
      refine mx_cVi [] [] 155 11 x4 dX11_oneTest_93 cl_X11_220 im_X11_sumUp cy_X11_sumUp oc_at_155 rfl (Nat.le_of_ble_eq_true rfl) (by omega) (t_X11_sumUp l E M qx4) ?_
      refine ex_if_ne 101 dX11_oneTest_96 (by decide) (fun c5 => ?_) (fun c5 => ?_)
      · rw [if_neg c5] at h
        refine ex_aload_n dX11_oneTest_101 rfl ?_
        refine mx_geti 11 dX11_oneTest_102 fl_X11_160 oc_at_155 (isi_11_18 oc_at_155) ?_
        refine ex_sipush 160 dX11_oneTest_105 kS_160 ?_
        obtain ⟨x9, ex9, h⟩ := ltE h
        have Jx9 : XM l E (RX11, "oneTest", cX11_oneTest, 2) (some .boolean) (n + 15) 147 [some (.ref 155), none] [.int x9] M3 M' (some (.int r)) := by
          refine ex_istore_n (L2 := [some (.ref 155), some (.int x9)]) dX11_oneTest_147 (by decide) rfl ?_
          refine ex_iload_n dX11_oneTest_148 rfl ?_
          refine ex_iconst (-1) dX11_oneTest_149 kI_m1 ?_
          refine ex_icmp_ne 159 dX11_oneTest_150 (by decide) (fun c10 => ?_) (fun c10 => ?_)
          · rw [if_neg c10] at h
            refine ex_aload_n dX11_oneTest_159 rfl ?_
            obtain ⟨M11, qM11, h⟩ := b1E h
            refine mx_cVv [] [] 155 11 dX11_oneTest_160 cl_X11_185 im_X11_next0 cy_X11_next0 oc_at_155 rfl (Nat.le_of_ble_eq_true rfl) (by omega) (t_X11_next0 l E M3 qM11) ?_
            refine ex_aload_n dX11_oneTest_163 rfl ?_
            obtain ⟨M12, x13, qx13, h⟩ := b2E h
            refine mx_cVi [] [] 155 11 x13 dX11_oneTest_164 cl_X11_220 im_X11_sumUp cy_X11_sumUp oc_at_155 rfl (Nat.le_of_ble_eq_true rfl) (by omega) (t_X11_sumUp l E M11 qx13) ?_
            refine ex_if_ne 172 dX11_oneTest_167 (by decide) (fun c14 => ?_) (fun c14 => ?_)
            · rw [if_neg c14] at h
              refine ex_aload_n dX11_oneTest_172 rfl ?_
              refine ex_iload_n dX11_oneTest_173 rfl ?_
              refine ex_iconst 0 dX11_oneTest_174 kI_0 ?_
              obtain ⟨M15, qM15, h⟩ := b1E h
              refine mx_cVv [.int x9, .int 0] [] 155 11 dX11_oneTest_175 cl_X11_198 im_X11_lay cy_X11_lay oc_at_155 rfl (Nat.le_of_ble_eq_true rfl) (by omega) (t_X11_lay l E x9 0 M12 qM15) ?_
              refine ex_iconst 1 dX11_oneTest_178 kI_1 ?_
              cases h
              exact mx_reti .boolean dX11_oneTest_179 ⟨rfl, by decide⟩
            · rw [if_pos c14] at h
              refine ex_iconst 0 dX11_oneTest_170 kI_0 ?_
              cases h
              exact mx_reti .boolean dX11_oneTest_171 ⟨rfl, by decide⟩
          · rw [if_pos c10] at h
            refine ex_aload_n dX11_oneTest_153 rfl ?_
            refine ex_iconst 1 dX11_oneTest_154 kI_1 ?_
            obtain ⟨p16, ep16, h⟩ := ltE h
            refine mx_cVi [.int 1] [] 155 11 p16.2 dX11_oneTest_155 cl_X11_182 im_X11_bad cy_X11_bad oc_at_155 rfl (Nat.le_of_ble_eq_true rfl) (by omega) (t_X11_bad l E 1 M3 ep16.symm) ?_
            obtain ⟨x17, qx17, h⟩ := b1E h
            obtain ⟨ex17, nx17⟩ := gzE qx17
            rw [← ex17] at h
            cases h
            exact mx_reti .boolean dX11_oneTest_158 ⟨rfl, nx17⟩
        clear h
        refine ex_icmp_ne 116 dX11_oneTest_108 (by decide) (fun c6 => ?_) (fun c6 => ?_)
        · rw [if_neg c6] at ex9
          refine ex_aload_n dX11_oneTest_116 rfl ?_
          refine mx_geti 11 dX11_oneTest_117 fl_X11_160 oc_at_155 (isi_11_18 oc_at_155) ?_
          refine ex_sipush 161 dX11_oneTest_120 kS_161 ?_
          refine ex_icmp_ne 131 dX11_oneTest_123 (by decide) (fun c7 => ?_) (fun c7 => ?_)
          · rw [if_neg c7] at ex9
            refine ex_aload_n dX11_oneTest_131 rfl ?_
            refine mx_geti 11 dX11_oneTest_132 fl_X11_160 oc_at_155 (isi_11_18 oc_at_155) ?_
            refine ex_sipush 162 dX11_oneTest_135 kS_162 ?_
            refine ex_icmp_ne 146 dX11_oneTest_138 (by decide) (fun c8 => ?_) (fun c8 => ?_)
            · rw [if_neg c8] at ex9
              refine ex_iconst (-1) dX11_oneTest_146 kI_m1 ?_
              subst ex9
              exact Jx9
            · rw [if_pos c8] at ex9
              refine ex_bipush 29 dX11_oneTest_141 kB_29 ?_
              refine ex_goto 147 dX11_oneTest_143 (by decide) ?_
              subst ex9
              exact Jx9
          · rw [if_pos c7] at ex9
            refine ex_bipush 28 dX11_oneTest_126 kB_28 ?_
            refine ex_goto 147 dX11_oneTest_128 (by decide) ?_
            subst ex9
            exact Jx9
        · rw [if_pos c6] at ex9
          refine ex_bipush 27 dX11_oneTest_111 kB_27 ?_
          refine ex_goto 147 dX11_oneTest_113 (by decide) ?_
          subst ex9
          exact Jx9
      · rw [if_pos c5] at h
        refine ex_iconst 0 dX11_oneTest_99 kI_0 ?_
        cases h
        exact mx_reti .boolean dX11_oneTest_100 ⟨rfl, by decide⟩
    · rw [if_pos c2] at h
      refine ex_aload_n dX11_oneTest_54 rfl ?_
      obtain ⟨M18, x19, qx19, h⟩ := b2E h
      refine mx_cVi [] [] 155 11 x19 dX11_oneTest_55 cl_X11_211 im_X11_opens cy_X11_opens oc_at_155 rfl (Nat.le_of_ble_eq_true rfl) (by omega) (t_X11_opens l E M qx19) ?_
      refine ex_if_eq 78 dX11_oneTest_58 (by decide) (fun c20 => ?_) (fun c20 => ?_)
      · rw [if_pos c20] at h
        refine ex_iconst 0 dX11_oneTest_78 kI_0 ?_
        cases h
        exact mx_reti .boolean dX11_oneTest_79 ⟨rfl, by decide⟩
      · rw [if_neg c20] at h
        refine ex_aload_n dX11_oneTest_61 rfl ?_
        obtain ⟨M21, x22, qx22, h⟩ := b2E h
        refine mx_cVi [] [] 155 11 x22 dX11_oneTest_62 cl_X11_214 im_X11_any cy_X11_any oc_at_155 rfl (Nat.le_of_ble_eq_true rfl) (by omega) (h_X11_any M18 qx22) ?_
        refine ex_if_eq 78 dX11_oneTest_65 (by decide) (fun c23 => ?_) (fun c23 => ?_)
        · rw [if_pos c23] at h
          refine ex_iconst 0 dX11_oneTest_78 kI_0 ?_
          cases h
          exact mx_reti .boolean dX11_oneTest_79 ⟨rfl, by decide⟩
        · rw [if_neg c23] at h
          refine ex_aload_n dX11_oneTest_68 rfl ?_
          refine ex_sipush 141 dX11_oneTest_69 kS_141 ?_
          obtain ⟨M24, x25, qx25, h⟩ := b2E h
          refine mx_cVi [.int 141] [] 155 11 x25 dX11_oneTest_72 cl_X11_217 im_X11_need cy_X11_need oc_at_155 rfl (Nat.le_of_ble_eq_true rfl) (by omega) (t_X11_need l E 141 M21 qx25) ?_
          refine ex_if_ne 80 dX11_oneTest_75 (by decide) (fun c26 => ?_) (fun c26 => ?_)
          · rw [if_neg c26] at h
            refine ex_aload_n dX11_oneTest_80 rfl ?_
            refine ex_dup dX11_oneTest_81 rfl ?_
            refine mx_geti 11 dX11_oneTest_82 fl_X11_191 oc_at_155 (isi_11_24 oc_at_155) ?_
            refine ex_iconst 1 dX11_oneTest_85 kI_1 ?_
            refine ex_isub dX11_oneTest_86 ?_
            obtain ⟨M27, eM27, h⟩ := ltE h
            refine mx_puti 11 dX11_oneTest_87 fl_X11_191 rfl ⟨rfl, rfl⟩ oc_at_155 (isi_11_24 oc_at_155) ?_
            rw [← eM27]
            refine ex_iconst 1 dX11_oneTest_90 kI_1 ?_
            cases h
            exact mx_reti .boolean dX11_oneTest_91 ⟨rfl, by decide⟩
          · rw [if_pos c26] at h
            refine ex_iconst 0 dX11_oneTest_78 kI_0 ?_
            cases h
            exact mx_reti .boolean dX11_oneTest_79 ⟨rfl, by decide⟩
  · rw [if_pos c1] at h
    refine ex_aload_n dX11_oneTest_9 rfl ?_
    obtain ⟨M28, x29, qx29, h⟩ := b2E h
    refine mx_cVi [] [] 155 11 x29 dX11_oneTest_10 cl_X11_211 im_X11_opens cy_X11_opens oc_at_155 rfl (Nat.le_of_ble_eq_true rfl) (by omega) (t_X11_opens l E M qx29) ?_
    refine ex_if_eq 23 dX11_oneTest_13 (by decide) (fun c30 => ?_) (fun c30 => ?_)
    · rw [if_pos c30] at h
      refine ex_iconst 0 dX11_oneTest_23 kI_0 ?_
      cases h
      exact mx_reti .boolean dX11_oneTest_24 ⟨rfl, by decide⟩
    · rw [if_neg c30] at h
      refine ex_aload_n dX11_oneTest_16 rfl ?_
      obtain ⟨M31, x32, qx32, h⟩ := b2E h
      refine mx_cVi [] [] 155 11 x32 dX11_oneTest_17 cl_X11_208 im_X11_oneTest cy_X11_oneTest oc_at_155 rfl (Nat.le_of_ble_eq_true rfl) (by omega) (h_X11_oneTest M28 qx32) ?_
      refine ex_if_ne 25 dX11_oneTest_20 (by decide) (fun c33 => ?_) (fun c33 => ?_)
      · rw [if_neg c33] at h
        refine ex_aload_n dX11_oneTest_25 rfl ?_
        refine ex_dup dX11_oneTest_26 rfl ?_
        refine mx_geti 11 dX11_oneTest_27 fl_X11_191 oc_at_155 (isi_11_24 oc_at_155) ?_
        refine ex_iconst 1 dX11_oneTest_30 kI_1 ?_
        refine ex_isub dX11_oneTest_31 ?_
        obtain ⟨M34, eM34, h⟩ := ltE h
        refine mx_puti 11 dX11_oneTest_32 fl_X11_191 rfl ⟨rfl, rfl⟩ oc_at_155 (isi_11_24 oc_at_155) ?_
        rw [← eM34]
        refine ex_aload_n dX11_oneTest_35 rfl ?_
        refine ex_bipush 30 dX11_oneTest_36 kB_30 ?_
        refine ex_iconst 0 dX11_oneTest_38 kI_0 ?_
        obtain ⟨M35, qM35, h⟩ := b1E h
        refine mx_cVv [.int 30, .int 0] [] 155 11 dX11_oneTest_39 cl_X11_198 im_X11_lay cy_X11_lay oc_at_155 rfl (Nat.le_of_ble_eq_true rfl) (by omega) (t_X11_lay l E 30 0 M34 qM35) ?_
        refine ex_iconst 1 dX11_oneTest_42 kI_1 ?_
        cases h
        exact mx_reti .boolean dX11_oneTest_43 ⟨rfl, by decide⟩
      · rw [if_pos c33] at h
        refine ex_iconst 0 dX11_oneTest_23 kI_0 ?_
        cases h
        exact mx_reti .boolean dX11_oneTest_24 ⟨rfl, by decide⟩
def gr_X11_any_X11_every_X11_oneTest : Nat → (Mem → Option (Mem × Int32)) × (Mem → Option (Mem × Int32)) × (Mem → Option (Mem × Int32))
  | 0 => ((fun _ => none), (fun _ => none), (fun _ => none))
  | n + 1 => ((F_X11_any (gr_X11_any_X11_every_X11_oneTest n).1 (gr_X11_any_X11_every_X11_oneTest n).2.1 (gr_X11_any_X11_every_X11_oneTest n).2.2), (F_X11_every (gr_X11_any_X11_every_X11_oneTest n).1 (gr_X11_any_X11_every_X11_oneTest n).2.1 (gr_X11_any_X11_every_X11_oneTest n).2.2), (F_X11_oneTest (gr_X11_any_X11_every_X11_oneTest n).1 (gr_X11_any_X11_every_X11_oneTest n).2.1 (gr_X11_any_X11_every_X11_oneTest n).2.2))
def f_X11_any (n : Nat) (M : Mem) : Option (Mem × Int32) := (gr_X11_any_X11_every_X11_oneTest n).1 M
def f_X11_every (n : Nat) (M : Mem) : Option (Mem × Int32) := (gr_X11_any_X11_every_X11_oneTest n).2.1 M
def f_X11_oneTest (n : Nat) (M : Mem) : Option (Mem × Int32) := (gr_X11_any_X11_every_X11_oneTest n).2.2 M
theorem tg_X11_any_X11_every_X11_oneTest (l : Launch) (E : EV) : ∀ n : Nat, (∀ (M : Mem) {M' : Mem} {r : Int32}, f_X11_any n M = some (M', r) → RunM l E yX11_any cX11_any 1 (some .boolean) (n + 14) [.ref 155] M M' (some (.int r))) ∧ (∀ (M : Mem) {M' : Mem} {r : Int32}, f_X11_every n M = some (M', r) → RunM l E yX11_every cX11_every 1 (some .boolean) (n + 14) [.ref 155] M M' (some (.int r))) ∧ (∀ (M : Mem) {M' : Mem} {r : Int32}, f_X11_oneTest n M = some (M', r) → RunM l E yX11_oneTest cX11_oneTest 2 (some .boolean) (n + 14) [.ref 155] M M' (some (.int r)))
  | 0 => ⟨(by intros; rename_i h; cases h), (by intros; rename_i h; cases h), (by intros; rename_i h; cases h)⟩
  | n + 1 => by
    have ih := tg_X11_any_X11_every_X11_oneTest l E n
    refine ⟨?_, ?_, ?_⟩
    · intro  M M' r h
      exact T_X11_any l E n _ _ _ ih.1 ih.2.1 ih.2.2 M h
    · intro  M M' r h
      exact T_X11_every l E n _ _ _ ih.1 ih.2.1 ih.2.2 M h
    · intro  M M' r h
      exact T_X11_oneTest l E n _ _ _ ih.1 ih.2.1 ih.2.2 M h
theorem t_X11_any (l : Launch) (E : EV) (n : Nat) (M : Mem) {M' : Mem} {r : Int32} (h : f_X11_any n M = some (M', r)) : RunM l E yX11_any cX11_any 1 (some .boolean) (n + 14) [.ref 155] M M' (some (.int r)) := (tg_X11_any_X11_every_X11_oneTest l E n).1 M h
theorem t_X11_every (l : Launch) (E : EV) (n : Nat) (M : Mem) {M' : Mem} {r : Int32} (h : f_X11_every n M = some (M', r)) : RunM l E yX11_every cX11_every 1 (some .boolean) (n + 14) [.ref 155] M M' (some (.int r)) := (tg_X11_any_X11_every_X11_oneTest l E n).2.1 M h
theorem t_X11_oneTest (l : Launch) (E : EV) (n : Nat) (M : Mem) {M' : Mem} {r : Int32} (h : f_X11_oneTest n M = some (M', r)) : RunM l E yX11_oneTest cX11_oneTest 2 (some .boolean) (n + 14) [.ref 155] M M' (some (.int r)) := (tg_X11_any_X11_every_X11_oneTest l E n).2.2 M h
def f_X11_aLine (M : Mem) : Option (Mem × Int32) :=
  if (f_X11_isIn (M 155 18) 20 23) = 0 then (lt (f_X11_bad 1 M) fun p26 => b1 (gz p26.2) fun x27 => some (p26.1, x27)) else (if (M 155 13) = 16 then (lt (f_X11_bad 3 M) fun p24 => b1 (gz p24.2) fun x25 => some (p24.1, x25)) else (lt (up2 M 155 24 0) fun M3 => b1 (wr M3 160 ((4 * (M3 155 13)) + 3) (M3 155 18)) fun M4 => b1 (f_X11_next0 M4) fun M5 => b1 (wr M5 160 (4 * (M5 155 13)) (M5 155 14)) fun M6 => b2 (f_X11_sumUp M6) fun M7 x8 => if x8 = 0 then (some (M7, 0)) else (b1 (wr M7 160 ((4 * (M7 155 13)) + 1) (M7 155 14)) fun M10 => if (M10 155 18) = 3 then (b1 (f_X11_next0 M10) fun M16 => b2 (f_X11_any 40 M16) fun M17 x18 => if x18 = 0 then (some (M17, 0)) else (b1 (wr M17 160 ((4 * (M17 155 13)) + 2) (M17 155 14)) fun M20 => b2 (f_X11_need 159 M20) fun M21 x22 => b1 (gz x22) fun x23 => some (M21, x23))) else (b1 (wr M10 160 ((4 * (M10 155 13)) + 2) (M10 155 14)) fun M12 => b2 (f_X11_need 159 M12) fun M13 x14 => b1 (gz x14) fun x15 => some (M13, x15)))))
set_option maxRecDepth 100000 in
set_option maxHeartbeats 4000000 in
theorem t_X11_aLine (l : Launch) (E : EV) (M : Mem) {M' : Mem} {r : Int32} (h : f_X11_aLine M = some (M', r)) : RunM l E yX11_aLine cX11_aLine 1 (some .boolean) 55 [.ref 155] M M' (some (.int r)) := by
  refine RunM.of (by decide) (Nat.le_of_ble_eq_true rfl) ?_
  show XM l E (RX11, "aLine", cX11_aLine, 1) (some .boolean) 55 0 [some (.ref 155)] [] M M' (some (.int r))
  unfold f_X11_aLine at h
  refine ex_aload_n dX11_aLine_0 rfl ?_
  refine mx_geti 11 dX11_aLine_1 fl_X11_160 oc_at_155 (isi_11_18 oc_at_155) ?_
  refine ex_bipush 20 dX11_aLine_4 kB_20 ?_
  refine ex_bipush 23 dX11_aLine_6 kB_23 ?_
  refine mx_cSi [.int (M 155 18), .int 20, .int 23] [] (f_X11_isIn (M 155 18) 20 23) dX11_aLine_8 cl_X11_53 sm_X11_isIn rfl (Nat.le_of_ble_eq_true rfl) (by decide) (t_X11_isIn l E (M 155 18) 20 23 M rfl) ?_
  refine ex_if_ne 20 dX11_aLine_11 (by decide) (fun c1 => ?_) (fun c1 => ?_)
  · rw [if_neg c1] at h
    refine ex_aload_n dX11_aLine_20 rfl ?_
    refine mx_geti 11 dX11_aLine_21 fl_X11_223 oc_at_155 (isi_11_13 oc_at_155) ?_
    refine ex_bipush 16 dX11_aLine_24 kB_16 ?_
    refine ex_icmp_ne 35 dX11_aLine_26 (by decide) (fun c2 => ?_) (fun c2 => ?_)
    · rw [if_neg c2] at h
      refine ex_aload_n dX11_aLine_35 rfl ?_
      refine ex_iconst 0 dX11_aLine_36 kI_0 ?_
      obtain ⟨M3, eM3, h⟩ := ltE h
      refine mx_puti 11 dX11_aLine_37 fl_X11_191 rfl ⟨rfl, rfl⟩ oc_at_155 (isi_11_24 oc_at_155) ?_
      rw [← eM3]
      refine ex_aload_n dX11_aLine_40 rfl ?_
      refine mx_getr 11 160 dX11_aLine_41 fl_X11_22 oc_at_155 (rf_11_6 oc_at_155) ?_
      refine ex_iconst 4 dX11_aLine_44 kI_4 ?_
      refine ex_aload_n dX11_aLine_45 rfl ?_
      refine mx_geti 11 dX11_aLine_46 fl_X11_223 oc_at_155 (isi_11_13 oc_at_155) ?_
      refine ex_imul dX11_aLine_49 ?_
      refine ex_iconst 3 dX11_aLine_50 kI_3 ?_
      refine ex_iadd dX11_aLine_51 ?_
      refine ex_aload_n dX11_aLine_52 rfl ?_
      refine mx_geti 11 dX11_aLine_53 fl_X11_160 oc_at_155 (isi_11_18 oc_at_155) ?_
      obtain ⟨M4, qM4, h⟩ := b1E h
      refine mx_iast M4 dX11_aLine_56 qM4 ?_
      refine ex_aload_n dX11_aLine_57 rfl ?_
      obtain ⟨M5, qM5, h⟩ := b1E h
      refine mx_cVv [] [] 155 11 dX11_aLine_58 cl_X11_185 im_X11_next0 cy_X11_next0 oc_at_155 rfl (Nat.le_of_ble_eq_true rfl) (by decide) (t_X11_next0 l E M4 qM5) ?_
      refine ex_aload_n dX11_aLine_61 rfl ?_
      refine mx_getr 11 160 dX11_aLine_62 fl_X11_22 oc_at_155 (rf_11_6 oc_at_155) ?_
      refine ex_iconst 4 dX11_aLine_65 kI_4 ?_
      refine ex_aload_n dX11_aLine_66 rfl ?_
      refine mx_geti 11 dX11_aLine_67 fl_X11_223 oc_at_155 (isi_11_13 oc_at_155) ?_
      refine ex_imul dX11_aLine_70 ?_
      refine ex_aload_n dX11_aLine_71 rfl ?_
      refine mx_geti 11 dX11_aLine_72 fl_X11_188 oc_at_155 (isi_11_14 oc_at_155) ?_
      obtain ⟨M6, qM6, h⟩ := b1E h
      refine mx_iast M6 dX11_aLine_75 qM6 ?_
      refine ex_aload_n dX11_aLine_76 rfl ?_
      obtain ⟨M7, x8, qx8, h⟩ := b2E h
      refine mx_cVi [] [] 155 11 x8 dX11_aLine_77 cl_X11_220 im_X11_sumUp cy_X11_sumUp oc_at_155 rfl (Nat.le_of_ble_eq_true rfl) (by decide) (t_X11_sumUp l E M6 qx8) ?_
      refine ex_if_ne 85 dX11_aLine_80 (by decide) (fun c9 => ?_) (fun c9 => ?_)
      · rw [if_neg c9] at h
        refine ex_aload_n dX11_aLine_85 rfl ?_
        refine mx_getr 11 160 dX11_aLine_86 fl_X11_22 oc_at_155 (rf_11_6 oc_at_155) ?_
        refine ex_iconst 4 dX11_aLine_89 kI_4 ?_
        refine ex_aload_n dX11_aLine_90 rfl ?_
        refine mx_geti 11 dX11_aLine_91 fl_X11_223 oc_at_155 (isi_11_13 oc_at_155) ?_
        refine ex_imul dX11_aLine_94 ?_
        refine ex_iconst 1 dX11_aLine_95 kI_1 ?_
        refine ex_iadd dX11_aLine_96 ?_
        refine ex_aload_n dX11_aLine_97 rfl ?_
        refine mx_geti 11 dX11_aLine_98 fl_X11_188 oc_at_155 (isi_11_14 oc_at_155) ?_
        obtain ⟨M10, qM10, h⟩ := b1E h
        refine mx_iast M10 dX11_aLine_101 qM10 ?_
        refine ex_aload_n dX11_aLine_102 rfl ?_
        refine mx_geti 11 dX11_aLine_103 fl_X11_160 oc_at_155 (isi_11_18 oc_at_155) ?_
        refine ex_iconst 3 dX11_aLine_106 kI_3 ?_
        refine ex_icmp_ne 123 dX11_aLine_107 (by decide) (fun c11 => ?_) (fun c11 => ?_)
        · rw [if_neg c11] at h
          refine ex_aload_n dX11_aLine_123 rfl ?_
          refine mx_getr 11 160 dX11_aLine_124 fl_X11_22 oc_at_155 (rf_11_6 oc_at_155) ?_
          refine ex_iconst 4 dX11_aLine_127 kI_4 ?_
          refine ex_aload_n dX11_aLine_128 rfl ?_
          refine mx_geti 11 dX11_aLine_129 fl_X11_223 oc_at_155 (isi_11_13 oc_at_155) ?_
          refine ex_imul dX11_aLine_132 ?_
          refine ex_iconst 2 dX11_aLine_133 kI_2 ?_
          refine ex_iadd dX11_aLine_134 ?_
          refine ex_aload_n dX11_aLine_135 rfl ?_
          refine mx_geti 11 dX11_aLine_136 fl_X11_188 oc_at_155 (isi_11_14 oc_at_155) ?_
          obtain ⟨M12, qM12, h⟩ := b1E h
          refine mx_iast M12 dX11_aLine_139 qM12 ?_
          refine ex_aload_n dX11_aLine_140 rfl ?_
          refine ex_sipush 159 dX11_aLine_141 kS_159 ?_
          obtain ⟨M13, x14, qx14, h⟩ := b2E h
          refine mx_cVi [.int 159] [] 155 11 x14 dX11_aLine_144 cl_X11_217 im_X11_need cy_X11_need oc_at_155 rfl (Nat.le_of_ble_eq_true rfl) (by decide) (t_X11_need l E 159 M12 qx14) ?_
          obtain ⟨x15, qx15, h⟩ := b1E h
          obtain ⟨ex15, nx15⟩ := gzE qx15
          rw [← ex15] at h
          cases h
          exact mx_reti .boolean dX11_aLine_147 ⟨rfl, nx15⟩
        · rw [if_pos c11] at h
          refine ex_aload_n dX11_aLine_110 rfl ?_
          obtain ⟨M16, qM16, h⟩ := b1E h
          refine mx_cVv [] [] 155 11 dX11_aLine_111 cl_X11_185 im_X11_next0 cy_X11_next0 oc_at_155 rfl (Nat.le_of_ble_eq_true rfl) (by decide) (t_X11_next0 l E M10 qM16) ?_
          refine ex_aload_n dX11_aLine_114 rfl ?_
          obtain ⟨M17, x18, qx18, h⟩ := b2E h
          refine mx_cVi [] [] 155 11 x18 dX11_aLine_115 cl_X11_214 im_X11_any cy_X11_any oc_at_155 rfl (Nat.le_of_ble_eq_true rfl) (by decide) (t_X11_any l E 40 M16 qx18) ?_
          refine ex_if_ne 123 dX11_aLine_118 (by decide) (fun c19 => ?_) (fun c19 => ?_)
          · rw [if_neg c19] at h
            refine ex_aload_n dX11_aLine_123 rfl ?_
            refine mx_getr 11 160 dX11_aLine_124 fl_X11_22 oc_at_155 (rf_11_6 oc_at_155) ?_
            refine ex_iconst 4 dX11_aLine_127 kI_4 ?_
            refine ex_aload_n dX11_aLine_128 rfl ?_
            refine mx_geti 11 dX11_aLine_129 fl_X11_223 oc_at_155 (isi_11_13 oc_at_155) ?_
            refine ex_imul dX11_aLine_132 ?_
            refine ex_iconst 2 dX11_aLine_133 kI_2 ?_
            refine ex_iadd dX11_aLine_134 ?_
            refine ex_aload_n dX11_aLine_135 rfl ?_
            refine mx_geti 11 dX11_aLine_136 fl_X11_188 oc_at_155 (isi_11_14 oc_at_155) ?_
            obtain ⟨M20, qM20, h⟩ := b1E h
            refine mx_iast M20 dX11_aLine_139 qM20 ?_
            refine ex_aload_n dX11_aLine_140 rfl ?_
            refine ex_sipush 159 dX11_aLine_141 kS_159 ?_
            obtain ⟨M21, x22, qx22, h⟩ := b2E h
            refine mx_cVi [.int 159] [] 155 11 x22 dX11_aLine_144 cl_X11_217 im_X11_need cy_X11_need oc_at_155 rfl (Nat.le_of_ble_eq_true rfl) (by decide) (t_X11_need l E 159 M20 qx22) ?_
            obtain ⟨x23, qx23, h⟩ := b1E h
            obtain ⟨ex23, nx23⟩ := gzE qx23
            rw [← ex23] at h
            cases h
            exact mx_reti .boolean dX11_aLine_147 ⟨rfl, nx23⟩
          · rw [if_pos c19] at h
            refine ex_iconst 0 dX11_aLine_121 kI_0 ?_
            cases h
            exact mx_reti .boolean dX11_aLine_122 ⟨rfl, by decide⟩
      · rw [if_pos c9] at h
        refine ex_iconst 0 dX11_aLine_83 kI_0 ?_
        cases h
        exact mx_reti .boolean dX11_aLine_84 ⟨rfl, by decide⟩
    · rw [if_pos c2] at h
      refine ex_aload_n dX11_aLine_29 rfl ?_
      refine ex_iconst 3 dX11_aLine_30 kI_3 ?_
      obtain ⟨p24, ep24, h⟩ := ltE h
      refine mx_cVi [.int 3] [] 155 11 p24.2 dX11_aLine_31 cl_X11_182 im_X11_bad cy_X11_bad oc_at_155 rfl (Nat.le_of_ble_eq_true rfl) (by decide) (t_X11_bad l E 3 M ep24.symm) ?_
      obtain ⟨x25, qx25, h⟩ := b1E h
      obtain ⟨ex25, nx25⟩ := gzE qx25
      rw [← ex25] at h
      cases h
      exact mx_reti .boolean dX11_aLine_34 ⟨rfl, nx25⟩
  · rw [if_pos c1] at h
    refine ex_aload_n dX11_aLine_14 rfl ?_
    refine ex_iconst 1 dX11_aLine_15 kI_1 ?_
    obtain ⟨p26, ep26, h⟩ := ltE h
    refine mx_cVi [.int 1] [] 155 11 p26.2 dX11_aLine_16 cl_X11_182 im_X11_bad cy_X11_bad oc_at_155 rfl (Nat.le_of_ble_eq_true rfl) (by decide) (t_X11_bad l E 1 M ep26.symm) ?_
    obtain ⟨x27, qx27, h⟩ := b1E h
    obtain ⟨ex27, nx27⟩ := gzE qx27
    rw [← ex27] at h
    cases h
    exact mx_reti .boolean dX11_aLine_19 ⟨rfl, nx27⟩
def w_X11_readsLaw_12 (i3 : Int32) (M4 : Mem) : Option ((Int32 × Mem) ⊕ (Int32 × Mem)) :=
  if (i3 = 0 ∨ (M4 155 18) = 0) then (some (.inr (i3, M4))) else (b2 (f_X11_aLine M4) fun M8 x9 => lt ((if x9 = 0 then 0 else 1) : Int32) fun x11 => lt (up2 M8 155 13 ((M8 155 13) + x11)) fun M12 => some (.inl (x9, M12)))
def f_X11_readsLaw (M : Mem) : Option (Mem × Int32) :=
  lt (up2 M 155 13 0) fun M1 => lt (up2 M1 155 14 0) fun M2 => b1 (lp (fun s => w_X11_readsLaw_12 s.1 s.2) FU (1, M2)) fun q13 => b1 (gz q13.1) fun x16 => some (q13.2, x16)
set_option maxRecDepth 100000 in
set_option maxHeartbeats 4000000 in
theorem t_X11_readsLaw (l : Launch) (E : EV) (M : Mem) {M' : Mem} {r : Int32} (h : f_X11_readsLaw M = some (M', r)) : RunM l E yX11_readsLaw cX11_readsLaw 2 (some .boolean) 56 [.ref 155] M M' (some (.int r)) := by
  refine RunM.of (by decide) (Nat.le_of_ble_eq_true rfl) ?_
  show XM l E (RX11, "readsLaw", cX11_readsLaw, 2) (some .boolean) 56 0 [some (.ref 155), none] [] M M' (some (.int r))
  unfold f_X11_readsLaw at h
  refine ex_aload_n dX11_readsLaw_0 rfl ?_
  refine ex_iconst 0 dX11_readsLaw_1 kI_0 ?_
  obtain ⟨M1, eM1, h⟩ := ltE h
  refine mx_puti 11 dX11_readsLaw_2 fl_X11_223 rfl ⟨rfl, rfl⟩ oc_at_155 (isi_11_13 oc_at_155) ?_
  rw [← eM1]
  refine ex_aload_n dX11_readsLaw_5 rfl ?_
  refine ex_iconst 0 dX11_readsLaw_6 kI_0 ?_
  obtain ⟨M2, eM2, h⟩ := ltE h
  refine mx_puti 11 dX11_readsLaw_7 fl_X11_188 rfl ⟨rfl, rfl⟩ oc_at_155 (isi_11_14 oc_at_155) ?_
  rw [← eM2]
  refine ex_iconst 1 dX11_readsLaw_10 kI_1 ?_
  refine ex_istore_n (L2 := [some (.ref 155), some (.int 1)]) dX11_readsLaw_11 (by decide) rfl ?_
  refine ex_mskL [true, true] (L2 := [some (.ref 155), some (.int 1)]) rfl ?_
  obtain ⟨q13, hlq13, h⟩ := b1E h
  obtain ⟨y14, M15⟩ := q13
  dsimp only at h
  have hx : XM l E (RX11, "readsLaw", cX11_readsLaw, 2) (some .boolean) 56 49 [none, some (.int y14)] [] M15 M' (some (.int r)) := by
    refine ex_iload_n dX11_readsLaw_49 rfl ?_
    obtain ⟨x16, qx16, h⟩ := b1E h
    obtain ⟨ex16, nx16⟩ := gzE qx16
    rw [← ex16] at h
    cases h
    exact mx_reti .boolean dX11_readsLaw_50 ⟨rfl, nx16⟩
  clear h
  have key : ∀ (k : Nat) (s : Int32 × Mem), lp (fun s => w_X11_readsLaw_12 s.1 s.2) k s = some (y14, M15) → XM l E (RX11, "readsLaw", cX11_readsLaw, 2) (some .boolean) 56 12 [some (.ref 155), some (.int s.1)] [] s.2 M' (some (.int r)) := lp_ind (P := fun (s : Int32 × Mem) => XM l E (RX11, "readsLaw", cX11_readsLaw, 2) (some .boolean) 56 12 [some (.ref 155), some (.int s.1)] [] s.2 M' (some (.int r))) (fun s t hb hk he => by
    obtain ⟨i3, M4⟩ := s
    show XM l E (RX11, "readsLaw", cX11_readsLaw, 2) (some .boolean) 56 12 [some (.ref 155), some (.int i3)] [] M4 M' (some (.int r))
    change w_X11_readsLaw_12 i3 M4 = some t at hb
    unfold w_X11_readsLaw_12 at hb
    refine ex_iload_n dX11_readsLaw_12 rfl ?_
    have JXC7 : (i3 = 0 ∨ (M4 155 18) = 0) → XM l E (RX11, "readsLaw", cX11_readsLaw, 2) (some .boolean) 56 49 [some (.ref 155), some (.int i3)] [] M4 M' (some (.int r)) := fun C7 => by
      rw [if_pos C7] at hb
      refine ex_mskL [false, true] (L2 := [none, some (.int i3)]) rfl ?_
      cases hb
      cases (he _ rfl) <;> exact hx
    have JYC7 : ¬ ((i3 = 0 ∨ (M4 155 18) = 0)) → XM l E (RX11, "readsLaw", cX11_readsLaw, 2) (some .boolean) 56 24 [some (.ref 155), some (.int i3)] [.ref 155] M4 M' (some (.int r)) := fun C7 => by
      rw [if_neg C7] at hb
      obtain ⟨M8, x9, qx9, hb⟩ := b2E hb
      refine mx_cVi [] [] 155 11 x9 dX11_readsLaw_24 cl_X11_226 im_X11_aLine cy_X11_aLine oc_at_155 rfl (Nat.le_of_ble_eq_true rfl) (by decide) (t_X11_aLine l E M4 qx9) ?_
      refine ex_istore_n (L2 := [some (.ref 155), some (.int x9)]) dX11_readsLaw_27 (by decide) rfl ?_
      refine ex_aload_n dX11_readsLaw_28 rfl ?_
      refine ex_dup dX11_readsLaw_29 rfl ?_
      refine mx_geti 11 dX11_readsLaw_30 fl_X11_223 oc_at_155 (isi_11_13 oc_at_155) ?_
      refine ex_iload_n dX11_readsLaw_33 rfl ?_
      obtain ⟨x11, ex11, hb⟩ := ltE hb
      have Jx11 : XM l E (RX11, "readsLaw", cX11_readsLaw, 2) (some .boolean) 56 42 [some (.ref 155), some (.int x9)] [.int x11, .int (M8 155 13), .ref 155] M8 M' (some (.int r)) := by
        refine ex_iadd dX11_readsLaw_42 ?_
        obtain ⟨M12, eM12, hb⟩ := ltE hb
        refine mx_puti 11 dX11_readsLaw_43 fl_X11_223 rfl ⟨rfl, rfl⟩ oc_at_155 (isi_11_13 oc_at_155) ?_
        rw [← eM12]
        refine ex_goto 12 dX11_readsLaw_46 (by decide) ?_
        refine ex_mskL [true, true] (L2 := [some (.ref 155), some (.int x9)]) rfl ?_
        cases hb
        exact hk (x9, M12) rfl
      clear hb
      refine ex_if_eq 41 dX11_readsLaw_34 (by decide) (fun c10 => ?_) (fun c10 => ?_)
      · rw [if_pos c10] at ex11
        refine ex_iconst 0 dX11_readsLaw_41 kI_0 ?_
        subst ex11
        exact Jx11
      · rw [if_neg c10] at ex11
        refine ex_iconst 1 dX11_readsLaw_37 kI_1 ?_
        refine ex_goto 42 dX11_readsLaw_38 (by decide) ?_
        subst ex11
        exact Jx11
    clear hb
    refine ex_if_eq 49 dX11_readsLaw_13 (by decide) (fun c5 => ?_) (fun c5 => ?_)
    · exact JXC7 (Or.inl c5)
    · refine ex_aload_n dX11_readsLaw_16 rfl ?_
      refine mx_geti 11 dX11_readsLaw_17 fl_X11_160 oc_at_155 (isi_11_18 oc_at_155) ?_
      refine ex_if_eq 49 dX11_readsLaw_20 (by decide) (fun c6 => ?_) (fun c6 => ?_)
      · exact JXC7 (Or.inr c6)
      · refine ex_aload_n dX11_readsLaw_23 rfl ?_
        exact JYC7 (fun z => z.elim c5 c6))
  exact key FU (1, M2) hlq13
def f_X11_number (a1 : Int32) (a2 : Int32) (a3 : Int32) (M : Mem) : Option (Mem × Int32) :=
  if (M 155 18) = 2 then (if (f_X11_isIn (M 155 20) a2 a3) = 0 then (lt (f_X11_bad 2 M) fun p5 => b1 (gz p5.2) fun x6 => some (p5.1, x6)) else (b1 (wr M 162 a1 (M 155 20)) fun M3 => b1 (f_X11_next0 M3) fun M4 => some (M4, 1))) else (lt (f_X11_bad 1 M) fun p7 => b1 (gz p7.2) fun x8 => some (p7.1, x8))
set_option maxRecDepth 100000 in
set_option maxHeartbeats 4000000 in
theorem t_X11_number (l : Launch) (E : EV) (a1 : Int32) (a2 : Int32) (a3 : Int32) (M : Mem) {M' : Mem} {r : Int32} (h : f_X11_number a1 a2 a3 M = some (M', r)) : RunM l E yX11_number cX11_number 4 (some .boolean) 11 [.ref 155, .int a1, .int a2, .int a3] M M' (some (.int r)) := by
  refine RunM.of (by decide) (Nat.le_of_ble_eq_true rfl) ?_
  show XM l E (RX11, "number", cX11_number, 4) (some .boolean) 11 0 [some (.ref 155), some (.int a1), some (.int a2), some (.int a3)] [] M M' (some (.int r))
  unfold f_X11_number at h
  refine ex_aload_n dX11_number_0 rfl ?_
  refine mx_geti 11 dX11_number_1 fl_X11_160 oc_at_155 (isi_11_18 oc_at_155) ?_
  refine ex_iconst 2 dX11_number_4 kI_2 ?_
  refine ex_icmp_eq 14 dX11_number_5 (by decide) (fun c1 => ?_) (fun c1 => ?_)
  · rw [if_pos c1] at h
    refine ex_aload_n dX11_number_14 rfl ?_
    refine mx_geti 11 dX11_number_15 fl_X11_173 oc_at_155 (isi_11_20 oc_at_155) ?_
    refine ex_iload_n dX11_number_18 rfl ?_
    refine ex_iload_n dX11_number_19 rfl ?_
    refine mx_cSi [.int (M 155 20), .int a2, .int a3] [] (f_X11_isIn (M 155 20) a2 a3) dX11_number_20 cl_X11_53 sm_X11_isIn rfl (Nat.le_of_ble_eq_true rfl) (by decide) (t_X11_isIn l E (M 155 20) a2 a3 M rfl) ?_
    refine ex_if_ne 32 dX11_number_23 (by decide) (fun c2 => ?_) (fun c2 => ?_)
    · rw [if_neg c2] at h
      refine ex_aload_n dX11_number_32 rfl ?_
      refine mx_getr 11 162 dX11_number_33 fl_X11_28 oc_at_155 (rf_11_8 oc_at_155) ?_
      refine ex_iload_n dX11_number_36 rfl ?_
      refine ex_aload_n dX11_number_37 rfl ?_
      refine mx_geti 11 dX11_number_38 fl_X11_173 oc_at_155 (isi_11_20 oc_at_155) ?_
      obtain ⟨M3, qM3, h⟩ := b1E h
      refine mx_iast M3 dX11_number_41 qM3 ?_
      refine ex_aload_n dX11_number_42 rfl ?_
      obtain ⟨M4, qM4, h⟩ := b1E h
      refine mx_cVv [] [] 155 11 dX11_number_43 cl_X11_185 im_X11_next0 cy_X11_next0 oc_at_155 rfl (Nat.le_of_ble_eq_true rfl) (by decide) (t_X11_next0 l E M3 qM4) ?_
      refine ex_iconst 1 dX11_number_46 kI_1 ?_
      cases h
      exact mx_reti .boolean dX11_number_47 ⟨rfl, by decide⟩
    · rw [if_pos c2] at h
      refine ex_aload_n dX11_number_26 rfl ?_
      refine ex_iconst 2 dX11_number_27 kI_2 ?_
      obtain ⟨p5, ep5, h⟩ := ltE h
      refine mx_cVi [.int 2] [] 155 11 p5.2 dX11_number_28 cl_X11_182 im_X11_bad cy_X11_bad oc_at_155 rfl (Nat.le_of_ble_eq_true rfl) (by decide) (t_X11_bad l E 2 M ep5.symm) ?_
      obtain ⟨x6, qx6, h⟩ := b1E h
      obtain ⟨ex6, nx6⟩ := gzE qx6
      rw [← ex6] at h
      cases h
      exact mx_reti .boolean dX11_number_31 ⟨rfl, nx6⟩
  · rw [if_neg c1] at h
    refine ex_aload_n dX11_number_8 rfl ?_
    refine ex_iconst 1 dX11_number_9 kI_1 ?_
    obtain ⟨p7, ep7, h⟩ := ltE h
    refine mx_cVi [.int 1] [] 155 11 p7.2 dX11_number_10 cl_X11_182 im_X11_bad cy_X11_bad oc_at_155 rfl (Nat.le_of_ble_eq_true rfl) (by decide) (t_X11_bad l E 1 M ep7.symm) ?_
    obtain ⟨x8, qx8, h⟩ := b1E h
    obtain ⟨ex8, nx8⟩ := gzE qx8
    rw [← ex8] at h
    cases h
    exact mx_reti .boolean dX11_number_13 ⟨rfl, nx8⟩
def f_X11_told (a1 : Int32) (a2 : Int32) (a3 : Int32) (a4 : Int32) (M : Mem) : Option (Mem × Int32) :=
  b2 (f_X11_need a2 M) fun M1 x2 => if x2 = 0 then (some (M1, 0)) else (b2 (f_X11_number a1 a3 a4 M1) fun M4 x5 => if x5 = 0 then (some (M4, 0)) else (some (M4, 1)))
set_option maxRecDepth 100000 in
set_option maxHeartbeats 4000000 in
theorem t_X11_told (l : Launch) (E : EV) (a1 : Int32) (a2 : Int32) (a3 : Int32) (a4 : Int32) (M : Mem) {M' : Mem} {r : Int32} (h : f_X11_told a1 a2 a3 a4 M = some (M', r)) : RunM l E yX11_told cX11_told 5 (some .boolean) 12 [.ref 155, .int a1, .int a2, .int a3, .int a4] M M' (some (.int r)) := by
  refine RunM.of (by decide) (Nat.le_of_ble_eq_true rfl) ?_
  show XM l E (RX11, "told", cX11_told, 5) (some .boolean) 12 0 [some (.ref 155), some (.int a1), some (.int a2), some (.int a3), some (.int a4)] [] M M' (some (.int r))
  unfold f_X11_told at h
  refine ex_aload_n dX11_told_0 rfl ?_
  refine ex_iload_n dX11_told_1 rfl ?_
  obtain ⟨M1, x2, qx2, h⟩ := b2E h
  refine mx_cVi [.int a2] [] 155 11 x2 dX11_told_2 cl_X11_217 im_X11_need cy_X11_need oc_at_155 rfl (Nat.le_of_ble_eq_true rfl) (by decide) (t_X11_need l E a2 M qx2) ?_
  refine ex_if_eq 23 dX11_told_5 (by decide) (fun c3 => ?_) (fun c3 => ?_)
  · rw [if_pos c3] at h
    refine ex_iconst 0 dX11_told_23 kI_0 ?_
    cases h
    exact mx_reti .boolean dX11_told_24 ⟨rfl, by decide⟩
  · rw [if_neg c3] at h
    refine ex_aload_n dX11_told_8 rfl ?_
    refine ex_iload_n dX11_told_9 rfl ?_
    refine ex_iload_n dX11_told_10 rfl ?_
    refine ex_iload dX11_told_11 rfl ?_
    obtain ⟨M4, x5, qx5, h⟩ := b2E h
    refine mx_cVi [.int a1, .int a3, .int a4] [] 155 11 x5 dX11_told_13 cl_X11_229 im_X11_number cy_X11_number oc_at_155 rfl (Nat.le_of_ble_eq_true rfl) (by decide) (t_X11_number l E a1 a3 a4 M1 qx5) ?_
    refine ex_if_eq 23 dX11_told_16 (by decide) (fun c6 => ?_) (fun c6 => ?_)
    · rw [if_pos c6] at h
      refine ex_iconst 0 dX11_told_23 kI_0 ?_
      cases h
      exact mx_reti .boolean dX11_told_24 ⟨rfl, by decide⟩
    · rw [if_neg c6] at h
      refine ex_iconst 1 dX11_told_19 kI_1 ?_
      refine ex_goto 24 dX11_told_20 (by decide) ?_
      cases h
      exact mx_reti .boolean dX11_told_24 ⟨rfl, by decide⟩
def f_X11_aKind (M : Mem) : Option (Mem × Int32) :=
  b2 (f_X11_told (2 * (M 155 15)) 7 1 99 M) fun M1 x2 => if x2 = 0 then (some (M1, 0)) else (b2 (f_X11_told ((2 * (M1 155 15)) + 1) 8 1 30 M1) fun M4 x5 => if x5 = 0 then (some (M4, 0)) else (some (M4, 1)))
set_option maxRecDepth 100000 in
set_option maxHeartbeats 4000000 in
theorem t_X11_aKind (l : Launch) (E : EV) (M : Mem) {M' : Mem} {r : Int32} (h : f_X11_aKind M = some (M', r)) : RunM l E yX11_aKind cX11_aKind 1 (some .boolean) 13 [.ref 155] M M' (some (.int r)) := by
  refine RunM.of (by decide) (Nat.le_of_ble_eq_true rfl) ?_
  show XM l E (RX11, "aKind", cX11_aKind, 1) (some .boolean) 13 0 [some (.ref 155)] [] M M' (some (.int r))
  unfold f_X11_aKind at h
  refine ex_aload_n dX11_aKind_0 rfl ?_
  refine ex_iconst 2 dX11_aKind_1 kI_2 ?_
  refine ex_aload_n dX11_aKind_2 rfl ?_
  refine mx_geti 11 dX11_aKind_3 fl_X11_232 oc_at_155 (isi_11_15 oc_at_155) ?_
  refine ex_imul dX11_aKind_6 ?_
  refine ex_bipush 7 dX11_aKind_7 kB_7 ?_
  refine ex_iconst 1 dX11_aKind_9 kI_1 ?_
  refine ex_bipush 99 dX11_aKind_10 kB_99 ?_
  obtain ⟨M1, x2, qx2, h⟩ := b2E h
  refine mx_cVi [.int (2 * (M 155 15)), .int 7, .int 1, .int 99] [] 155 11 x2 dX11_aKind_12 cl_X11_235 im_X11_told cy_X11_told oc_at_155 rfl (Nat.le_of_ble_eq_true rfl) (by decide) (t_X11_told l E (2 * (M 155 15)) 7 1 99 M qx2) ?_
  refine ex_if_eq 42 dX11_aKind_15 (by decide) (fun c3 => ?_) (fun c3 => ?_)
  · rw [if_pos c3] at h
    refine ex_iconst 0 dX11_aKind_42 kI_0 ?_
    cases h
    exact mx_reti .boolean dX11_aKind_43 ⟨rfl, by decide⟩
  · rw [if_neg c3] at h
    refine ex_aload_n dX11_aKind_18 rfl ?_
    refine ex_iconst 2 dX11_aKind_19 kI_2 ?_
    refine ex_aload_n dX11_aKind_20 rfl ?_
    refine mx_geti 11 dX11_aKind_21 fl_X11_232 oc_at_155 (isi_11_15 oc_at_155) ?_
    refine ex_imul dX11_aKind_24 ?_
    refine ex_iconst 1 dX11_aKind_25 kI_1 ?_
    refine ex_iadd dX11_aKind_26 ?_
    refine ex_bipush 8 dX11_aKind_27 kB_8 ?_
    refine ex_iconst 1 dX11_aKind_29 kI_1 ?_
    refine ex_bipush 30 dX11_aKind_30 kB_30 ?_
    obtain ⟨M4, x5, qx5, h⟩ := b2E h
    refine mx_cVi [.int ((2 * (M1 155 15)) + 1), .int 8, .int 1, .int 30] [] 155 11 x5 dX11_aKind_32 cl_X11_235 im_X11_told cy_X11_told oc_at_155 rfl (Nat.le_of_ble_eq_true rfl) (by decide) (t_X11_told l E ((2 * (M1 155 15)) + 1) 8 1 30 M1 qx5) ?_
    refine ex_if_eq 42 dX11_aKind_35 (by decide) (fun c6 => ?_) (fun c6 => ?_)
    · rw [if_pos c6] at h
      refine ex_iconst 0 dX11_aKind_42 kI_0 ?_
      cases h
      exact mx_reti .boolean dX11_aKind_43 ⟨rfl, by decide⟩
    · rw [if_neg c6] at h
      refine ex_iconst 1 dX11_aKind_38 kI_1 ?_
      refine ex_goto 43 dX11_aKind_39 (by decide) ?_
      cases h
      exact mx_reti .boolean dX11_aKind_43 ⟨rfl, by decide⟩
def f_X11_aFeast (M : Mem) : Option (Mem × Int32) :=
  b2 (f_X11_told (3 * (M 155 15)) 9 0 999 M) fun M1 x2 => if x2 = 0 then (some (M1, 0)) else (b2 (f_X11_told ((3 * (M1 155 15)) + 1) 10 0 ((M1 156 80) - 1) M1) fun M4 x5 => if x5 = 0 then (some (M4, 0)) else (b2 (f_X11_told ((3 * (M4 155 15)) + 2) 11 1 20 M4) fun M7 x8 => if x8 = 0 then (some (M7, 0)) else (some (M7, 1))))
set_option maxRecDepth 100000 in
set_option maxHeartbeats 4000000 in
theorem t_X11_aFeast (l : Launch) (E : EV) (M : Mem) {M' : Mem} {r : Int32} (h : f_X11_aFeast M = some (M', r)) : RunM l E yX11_aFeast cX11_aFeast 1 (some .boolean) 13 [.ref 155] M M' (some (.int r)) := by
  refine RunM.of (by decide) (Nat.le_of_ble_eq_true rfl) ?_
  show XM l E (RX11, "aFeast", cX11_aFeast, 1) (some .boolean) 13 0 [some (.ref 155)] [] M M' (some (.int r))
  unfold f_X11_aFeast at h
  refine ex_aload_n dX11_aFeast_0 rfl ?_
  refine ex_iconst 3 dX11_aFeast_1 kI_3 ?_
  refine ex_aload_n dX11_aFeast_2 rfl ?_
  refine mx_geti 11 dX11_aFeast_3 fl_X11_232 oc_at_155 (isi_11_15 oc_at_155) ?_
  refine ex_imul dX11_aFeast_6 ?_
  refine ex_bipush 9 dX11_aFeast_7 kB_9 ?_
  refine ex_iconst 0 dX11_aFeast_9 kI_0 ?_
  refine ex_sipush 999 dX11_aFeast_10 kS_999 ?_
  obtain ⟨M1, x2, qx2, h⟩ := b2E h
  refine mx_cVi [.int (3 * (M 155 15)), .int 9, .int 0, .int 999] [] 155 11 x2 dX11_aFeast_13 cl_X11_235 im_X11_told cy_X11_told oc_at_155 rfl (Nat.le_of_ble_eq_true rfl) (by decide) (t_X11_told l E (3 * (M 155 15)) 9 0 999 M qx2) ?_
  refine ex_if_eq 70 dX11_aFeast_16 (by decide) (fun c3 => ?_) (fun c3 => ?_)
  · rw [if_pos c3] at h
    refine ex_iconst 0 dX11_aFeast_70 kI_0 ?_
    cases h
    exact mx_reti .boolean dX11_aFeast_71 ⟨rfl, by decide⟩
  · rw [if_neg c3] at h
    refine ex_aload_n dX11_aFeast_19 rfl ?_
    refine ex_iconst 3 dX11_aFeast_20 kI_3 ?_
    refine ex_aload_n dX11_aFeast_21 rfl ?_
    refine mx_geti 11 dX11_aFeast_22 fl_X11_232 oc_at_155 (isi_11_15 oc_at_155) ?_
    refine ex_imul dX11_aFeast_25 ?_
    refine ex_iconst 1 dX11_aFeast_26 kI_1 ?_
    refine ex_iadd dX11_aFeast_27 ?_
    refine ex_bipush 10 dX11_aFeast_28 kB_10 ?_
    refine ex_iconst 0 dX11_aFeast_30 kI_0 ?_
    refine ex_aload_n dX11_aFeast_31 rfl ?_
    refine mx_getr 11 156 dX11_aFeast_32 fl_X11_7 oc_at_155 (rf_11_0 oc_at_155) ?_
    refine ex_bipush 80 dX11_aFeast_35 kB_80 ?_
    refine mx_iald (M1 156 80) dX11_aFeast_37 (rdc_156_80 _) ?_
    refine ex_iconst 1 dX11_aFeast_38 kI_1 ?_
    refine ex_isub dX11_aFeast_39 ?_
    obtain ⟨M4, x5, qx5, h⟩ := b2E h
    refine mx_cVi [.int ((3 * (M1 155 15)) + 1), .int 10, .int 0, .int ((M1 156 80) - 1)] [] 155 11 x5 dX11_aFeast_40 cl_X11_235 im_X11_told cy_X11_told oc_at_155 rfl (Nat.le_of_ble_eq_true rfl) (by decide) (t_X11_told l E ((3 * (M1 155 15)) + 1) 10 0 ((M1 156 80) - 1) M1 qx5) ?_
    refine ex_if_eq 70 dX11_aFeast_43 (by decide) (fun c6 => ?_) (fun c6 => ?_)
    · rw [if_pos c6] at h
      refine ex_iconst 0 dX11_aFeast_70 kI_0 ?_
      cases h
      exact mx_reti .boolean dX11_aFeast_71 ⟨rfl, by decide⟩
    · rw [if_neg c6] at h
      refine ex_aload_n dX11_aFeast_46 rfl ?_
      refine ex_iconst 3 dX11_aFeast_47 kI_3 ?_
      refine ex_aload_n dX11_aFeast_48 rfl ?_
      refine mx_geti 11 dX11_aFeast_49 fl_X11_232 oc_at_155 (isi_11_15 oc_at_155) ?_
      refine ex_imul dX11_aFeast_52 ?_
      refine ex_iconst 2 dX11_aFeast_53 kI_2 ?_
      refine ex_iadd dX11_aFeast_54 ?_
      refine ex_bipush 11 dX11_aFeast_55 kB_11 ?_
      refine ex_iconst 1 dX11_aFeast_57 kI_1 ?_
      refine ex_bipush 20 dX11_aFeast_58 kB_20 ?_
      obtain ⟨M7, x8, qx8, h⟩ := b2E h
      refine mx_cVi [.int ((3 * (M4 155 15)) + 2), .int 11, .int 1, .int 20] [] 155 11 x8 dX11_aFeast_60 cl_X11_235 im_X11_told cy_X11_told oc_at_155 rfl (Nat.le_of_ble_eq_true rfl) (by decide) (t_X11_told l E ((3 * (M4 155 15)) + 2) 11 1 20 M4 qx8) ?_
      refine ex_if_eq 70 dX11_aFeast_63 (by decide) (fun c9 => ?_) (fun c9 => ?_)
      · rw [if_pos c9] at h
        refine ex_iconst 0 dX11_aFeast_70 kI_0 ?_
        cases h
        exact mx_reti .boolean dX11_aFeast_71 ⟨rfl, by decide⟩
      · rw [if_neg c9] at h
        refine ex_iconst 1 dX11_aFeast_66 kI_1 ?_
        refine ex_goto 71 dX11_aFeast_67 (by decide) ?_
        cases h
        exact mx_reti .boolean dX11_aFeast_71 ⟨rfl, by decide⟩
def f_X11_aWant (M : Mem) : Option (Mem × Int32) :=
  b2 (f_X11_told (4 * (M 155 15)) 12 0 ((M 156 80) - 1) M) fun M1 x2 => if x2 = 0 then (some (M1, 0)) else (b2 (f_X11_number ((4 * (M 155 15)) + 1) 1 99 M1) fun M4 x5 => if x5 = 0 then (some (M4, 0)) else (b2 (f_X11_told ((4 * (M 155 15)) + 2) 13 0 999 M4) fun M7 x8 => if x8 = 0 then (some (M7, 0)) else (b2 (f_X11_told ((4 * (M 155 15)) + 3) 14 0 999 M7) fun M10 x11 => if x11 = 0 then (some (M10, 0)) else (some (M10, 1)))))
set_option maxRecDepth 100000 in
set_option maxHeartbeats 4000000 in
theorem t_X11_aWant (l : Launch) (E : EV) (M : Mem) {M' : Mem} {r : Int32} (h : f_X11_aWant M = some (M', r)) : RunM l E yX11_aWant cX11_aWant 2 (some .boolean) 13 [.ref 155] M M' (some (.int r)) := by
  refine RunM.of (by decide) (Nat.le_of_ble_eq_true rfl) ?_
  show XM l E (RX11, "aWant", cX11_aWant, 2) (some .boolean) 13 0 [some (.ref 155), none] [] M M' (some (.int r))
  unfold f_X11_aWant at h
  refine ex_iconst 4 dX11_aWant_0 kI_4 ?_
  refine ex_aload_n dX11_aWant_1 rfl ?_
  refine mx_geti 11 dX11_aWant_2 fl_X11_232 oc_at_155 (isi_11_15 oc_at_155) ?_
  refine ex_imul dX11_aWant_5 ?_
  refine ex_istore_n (L2 := [some (.ref 155), some (.int (4 * (M 155 15)))]) dX11_aWant_6 (by decide) rfl ?_
  refine ex_aload_n dX11_aWant_7 rfl ?_
  refine ex_iload_n dX11_aWant_8 rfl ?_
  refine ex_bipush 12 dX11_aWant_9 kB_12 ?_
  refine ex_iconst 0 dX11_aWant_11 kI_0 ?_
  refine ex_aload_n dX11_aWant_12 rfl ?_
  refine mx_getr 11 156 dX11_aWant_13 fl_X11_7 oc_at_155 (rf_11_0 oc_at_155) ?_
  refine ex_bipush 80 dX11_aWant_16 kB_80 ?_
  refine mx_iald (M 156 80) dX11_aWant_18 (rdc_156_80 _) ?_
  refine ex_iconst 1 dX11_aWant_19 kI_1 ?_
  refine ex_isub dX11_aWant_20 ?_
  obtain ⟨M1, x2, qx2, h⟩ := b2E h
  refine mx_cVi [.int (4 * (M 155 15)), .int 12, .int 0, .int ((M 156 80) - 1)] [] 155 11 x2 dX11_aWant_21 cl_X11_235 im_X11_told cy_X11_told oc_at_155 rfl (Nat.le_of_ble_eq_true rfl) (by decide) (t_X11_told l E (4 * (M 155 15)) 12 0 ((M 156 80) - 1) M qx2) ?_
  refine ex_if_eq 76 dX11_aWant_24 (by decide) (fun c3 => ?_) (fun c3 => ?_)
  · rw [if_pos c3] at h
    refine ex_iconst 0 dX11_aWant_76 kI_0 ?_
    cases h
    exact mx_reti .boolean dX11_aWant_77 ⟨rfl, by decide⟩
  · rw [if_neg c3] at h
    refine ex_aload_n dX11_aWant_27 rfl ?_
    refine ex_iload_n dX11_aWant_28 rfl ?_
    refine ex_iconst 1 dX11_aWant_29 kI_1 ?_
    refine ex_iadd dX11_aWant_30 ?_
    refine ex_iconst 1 dX11_aWant_31 kI_1 ?_
    refine ex_bipush 99 dX11_aWant_32 kB_99 ?_
    obtain ⟨M4, x5, qx5, h⟩ := b2E h
    refine mx_cVi [.int ((4 * (M 155 15)) + 1), .int 1, .int 99] [] 155 11 x5 dX11_aWant_34 cl_X11_229 im_X11_number cy_X11_number oc_at_155 rfl (Nat.le_of_ble_eq_true rfl) (by decide) (t_X11_number l E ((4 * (M 155 15)) + 1) 1 99 M1 qx5) ?_
    refine ex_if_eq 76 dX11_aWant_37 (by decide) (fun c6 => ?_) (fun c6 => ?_)
    · rw [if_pos c6] at h
      refine ex_iconst 0 dX11_aWant_76 kI_0 ?_
      cases h
      exact mx_reti .boolean dX11_aWant_77 ⟨rfl, by decide⟩
    · rw [if_neg c6] at h
      refine ex_aload_n dX11_aWant_40 rfl ?_
      refine ex_iload_n dX11_aWant_41 rfl ?_
      refine ex_iconst 2 dX11_aWant_42 kI_2 ?_
      refine ex_iadd dX11_aWant_43 ?_
      refine ex_bipush 13 dX11_aWant_44 kB_13 ?_
      refine ex_iconst 0 dX11_aWant_46 kI_0 ?_
      refine ex_sipush 999 dX11_aWant_47 kS_999 ?_
      obtain ⟨M7, x8, qx8, h⟩ := b2E h
      refine mx_cVi [.int ((4 * (M 155 15)) + 2), .int 13, .int 0, .int 999] [] 155 11 x8 dX11_aWant_50 cl_X11_235 im_X11_told cy_X11_told oc_at_155 rfl (Nat.le_of_ble_eq_true rfl) (by decide) (t_X11_told l E ((4 * (M 155 15)) + 2) 13 0 999 M4 qx8) ?_
      refine ex_if_eq 76 dX11_aWant_53 (by decide) (fun c9 => ?_) (fun c9 => ?_)
      · rw [if_pos c9] at h
        refine ex_iconst 0 dX11_aWant_76 kI_0 ?_
        cases h
        exact mx_reti .boolean dX11_aWant_77 ⟨rfl, by decide⟩
      · rw [if_neg c9] at h
        refine ex_aload_n dX11_aWant_56 rfl ?_
        refine ex_iload_n dX11_aWant_57 rfl ?_
        refine ex_iconst 3 dX11_aWant_58 kI_3 ?_
        refine ex_iadd dX11_aWant_59 ?_
        refine ex_bipush 14 dX11_aWant_60 kB_14 ?_
        refine ex_iconst 0 dX11_aWant_62 kI_0 ?_
        refine ex_sipush 999 dX11_aWant_63 kS_999 ?_
        obtain ⟨M10, x11, qx11, h⟩ := b2E h
        refine mx_cVi [.int ((4 * (M 155 15)) + 3), .int 14, .int 0, .int 999] [] 155 11 x11 dX11_aWant_66 cl_X11_235 im_X11_told cy_X11_told oc_at_155 rfl (Nat.le_of_ble_eq_true rfl) (by decide) (t_X11_told l E ((4 * (M 155 15)) + 3) 14 0 999 M7 qx11) ?_
        refine ex_if_eq 76 dX11_aWant_69 (by decide) (fun c12 => ?_) (fun c12 => ?_)
        · rw [if_pos c12] at h
          refine ex_iconst 0 dX11_aWant_76 kI_0 ?_
          cases h
          exact mx_reti .boolean dX11_aWant_77 ⟨rfl, by decide⟩
        · rw [if_neg c12] at h
          refine ex_iconst 1 dX11_aWant_72 kI_1 ?_
          refine ex_goto 77 dX11_aWant_73 (by decide) ?_
          cases h
          exact mx_reti .boolean dX11_aWant_77 ⟨rfl, by decide⟩
