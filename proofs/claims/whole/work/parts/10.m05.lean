def w_X6_firstMissed_2 (o : Nat) (M : Mem) (i1 : Int32) : Option ((Int32) ⊕ ((Int32) ⊕ (Unit))) :=
  if (M (o + 5) 3) ≤ i1 then (some (.inr (.inr ()))) else (b1 (f_X8_at (o + 5) i1 2 M) fun x3 => if x3 = (M o 10) then (b1 (f_X8_at (o + 5) i1 4 M) fun x5 => if x5 = 0 then (some (.inr (.inl i1))) else (some (.inl (i1 + 1)))) else (some (.inl (i1 + 1))))
def f_X6_firstMissed (o : Nat) (M : Mem) : Option (Int32) :=
  b1 (lp (fun s => w_X6_firstMissed_2 o M s) FU 0) fun q7 => match q7 with | .inl u8 => (some u8) | .inr u9 => (some (-1))
set_option maxRecDepth 100000 in
set_option maxHeartbeats 4000000 in
theorem t_X6_firstMissed (l : Launch) (E : EV) (o : Nat) (ho : oc o = some 6) (M : Mem) {r : Int32} (h : f_X6_firstMissed o M = some r) : RunM l E yX6_firstMissed cX6_firstMissed 2 (some .int) 2 [.ref o] M M (some (.int r)) := by
  refine RunM.of (by decide) (Nat.le_of_ble_eq_true rfl) ?_
  show XM l E (RX6, "firstMissed", cX6_firstMissed, 2) (some .int) 2 0 [some (.ref o), none] [] M M (some (.int r))
  unfold f_X6_firstMissed at h
  refine ex_iconst 0 dX6_firstMissed_0 kI_0 ?_
  refine ex_istore_n (L2 := [some (.ref o), some (.int 0)]) dX6_firstMissed_1 (by decide) rfl ?_
  refine ex_mskL [true, true] (L2 := [some (.ref o), some (.int 0)]) rfl ?_
  obtain ⟨q7, hlq7, h⟩ := b1E h
  rcases q7 with u8 | ⟨⟩
  · dsimp only at h
    have hx : XM l E (RX6, "firstMissed", cX6_firstMissed, 2) (some .int) 2 41 [none, some (.int u8)] [] M M (some (.int r)) := by
      refine ex_iload_n dX6_firstMissed_41 rfl ?_
      cases h
      exact mx_reti .int dX6_firstMissed_42 ⟨rfl, rfl⟩
    clear h
    have key : ∀ (k : Nat) (s : Int32), lp (fun s => w_X6_firstMissed_2 o M s) k s = some (.inl u8) → XM l E (RX6, "firstMissed", cX6_firstMissed, 2) (some .int) 2 2 [some (.ref o), some (.int s)] [] M M (some (.int r)) := lp_ind (P := fun (s : Int32) => XM l E (RX6, "firstMissed", cX6_firstMissed, 2) (some .int) 2 2 [some (.ref o), some (.int s)] [] M M (some (.int r))) (fun s t hb hk he => by
      revert hb hk he; generalize s = i1; intro hb hk he
      show XM l E (RX6, "firstMissed", cX6_firstMissed, 2) (some .int) 2 2 [some (.ref o), some (.int i1)] [] M M (some (.int r))
      change w_X6_firstMissed_2 o M i1 = some t at hb
      unfold w_X6_firstMissed_2 at hb
      refine ex_iload_n dX6_firstMissed_2 rfl ?_
      refine ex_aload_n dX6_firstMissed_3 rfl ?_
      refine mx_getr 6 (o + 5) dX6_firstMissed_4 fl_X6_23 ho (rf_6_2 ho) ?_
      refine mx_geti 8 dX6_firstMissed_7 fl_X6_116 (oc_6_2 ho) (isi_8_3 (oc_6_2 ho)) ?_
      refine ex_icmp_ge 49 dX6_firstMissed_10 (by decide) (fun c2 => ?_) (fun c2 => ?_)
      · rw [if_pos c2] at hb
        refine ex_mskL [false, false] (L2 := [none, none]) rfl ?_
        cases hb
        cases (he _ rfl) <;> exact hx
      · rw [if_neg c2] at hb
        refine ex_aload_n dX6_firstMissed_13 rfl ?_
        refine mx_getr 6 (o + 5) dX6_firstMissed_14 fl_X6_23 ho (rf_6_2 ho) ?_
        refine ex_iload_n dX6_firstMissed_17 rfl ?_
        refine ex_iconst 2 dX6_firstMissed_18 kI_2 ?_
        obtain ⟨x3, qx3, hb⟩ := b1E hb
        refine mx_cVi [.int i1, .int 2] [] (o + 5) 8 x3 dX6_firstMissed_19 cl_X6_90 im_X8_at cy_X8_at (oc_6_2 ho) rfl (Nat.le_of_ble_eq_true rfl) (by decide) (t_X8_at l E (o + 5) i1 2 (oc_6_2 ho) M qx3) ?_
        refine ex_aload_n dX6_firstMissed_22 rfl ?_
        refine mx_geti 6 dX6_firstMissed_23 fl_X6_67 ho (isi_6_10 ho) ?_
        refine ex_icmp_ne 43 dX6_firstMissed_26 (by decide) (fun c4 => ?_) (fun c4 => ?_)
        · rw [if_neg c4] at hb
          refine ex_iinc 1 (L2 := [some (.ref o), some (.int (i1 + 1))]) dX6_firstMissed_43 rfl kI_1 (by decide) rfl ?_
          refine ex_goto 2 dX6_firstMissed_46 (by decide) ?_
          refine ex_mskL [true, true] (L2 := [some (.ref o), some (.int (i1 + 1))]) rfl ?_
          cases hb
          exact hk (i1 + 1) rfl
        · rw [if_pos c4] at hb
          refine ex_aload_n dX6_firstMissed_29 rfl ?_
          refine mx_getr 6 (o + 5) dX6_firstMissed_30 fl_X6_23 ho (rf_6_2 ho) ?_
          refine ex_iload_n dX6_firstMissed_33 rfl ?_
          refine ex_iconst 4 dX6_firstMissed_34 kI_4 ?_
          obtain ⟨x5, qx5, hb⟩ := b1E hb
          refine mx_cVi [.int i1, .int 4] [] (o + 5) 8 x5 dX6_firstMissed_35 cl_X6_90 im_X8_at cy_X8_at (oc_6_2 ho) rfl (Nat.le_of_ble_eq_true rfl) (by decide) (t_X8_at l E (o + 5) i1 4 (oc_6_2 ho) M qx5) ?_
          refine ex_if_ne 43 dX6_firstMissed_38 (by decide) (fun c6 => ?_) (fun c6 => ?_)
          · rw [if_neg c6] at hb
            refine ex_iinc 1 (L2 := [some (.ref o), some (.int (i1 + 1))]) dX6_firstMissed_43 rfl kI_1 (by decide) rfl ?_
            refine ex_goto 2 dX6_firstMissed_46 (by decide) ?_
            refine ex_mskL [true, true] (L2 := [some (.ref o), some (.int (i1 + 1))]) rfl ?_
            cases hb
            exact hk (i1 + 1) rfl
          · rw [if_pos c6] at hb
            refine ex_mskL [false, true] (L2 := [none, some (.int i1)]) rfl ?_
            cases hb
            cases (he _ rfl) <;> exact hx)
    exact key FU 0 hlq7
  · dsimp only at h
    have hx : XM l E (RX6, "firstMissed", cX6_firstMissed, 2) (some .int) 2 49 [none, none] [] M M (some (.int r)) := by
      refine ex_iconst (-1) dX6_firstMissed_49 kI_m1 ?_
      cases h
      exact mx_reti .int dX6_firstMissed_50 ⟨rfl, rfl⟩
    clear h
    have key : ∀ (k : Nat) (s : Int32), lp (fun s => w_X6_firstMissed_2 o M s) k s = some (.inr ()) → XM l E (RX6, "firstMissed", cX6_firstMissed, 2) (some .int) 2 2 [some (.ref o), some (.int s)] [] M M (some (.int r)) := lp_ind (P := fun (s : Int32) => XM l E (RX6, "firstMissed", cX6_firstMissed, 2) (some .int) 2 2 [some (.ref o), some (.int s)] [] M M (some (.int r))) (fun s t hb hk he => by
      revert hb hk he; generalize s = i1; intro hb hk he
      show XM l E (RX6, "firstMissed", cX6_firstMissed, 2) (some .int) 2 2 [some (.ref o), some (.int i1)] [] M M (some (.int r))
      change w_X6_firstMissed_2 o M i1 = some t at hb
      unfold w_X6_firstMissed_2 at hb
      refine ex_iload_n dX6_firstMissed_2 rfl ?_
      refine ex_aload_n dX6_firstMissed_3 rfl ?_
      refine mx_getr 6 (o + 5) dX6_firstMissed_4 fl_X6_23 ho (rf_6_2 ho) ?_
      refine mx_geti 8 dX6_firstMissed_7 fl_X6_116 (oc_6_2 ho) (isi_8_3 (oc_6_2 ho)) ?_
      refine ex_icmp_ge 49 dX6_firstMissed_10 (by decide) (fun c2 => ?_) (fun c2 => ?_)
      · rw [if_pos c2] at hb
        refine ex_mskL [false, false] (L2 := [none, none]) rfl ?_
        cases hb
        cases (he _ rfl) <;> exact hx
      · rw [if_neg c2] at hb
        refine ex_aload_n dX6_firstMissed_13 rfl ?_
        refine mx_getr 6 (o + 5) dX6_firstMissed_14 fl_X6_23 ho (rf_6_2 ho) ?_
        refine ex_iload_n dX6_firstMissed_17 rfl ?_
        refine ex_iconst 2 dX6_firstMissed_18 kI_2 ?_
        obtain ⟨x3, qx3, hb⟩ := b1E hb
        refine mx_cVi [.int i1, .int 2] [] (o + 5) 8 x3 dX6_firstMissed_19 cl_X6_90 im_X8_at cy_X8_at (oc_6_2 ho) rfl (Nat.le_of_ble_eq_true rfl) (by decide) (t_X8_at l E (o + 5) i1 2 (oc_6_2 ho) M qx3) ?_
        refine ex_aload_n dX6_firstMissed_22 rfl ?_
        refine mx_geti 6 dX6_firstMissed_23 fl_X6_67 ho (isi_6_10 ho) ?_
        refine ex_icmp_ne 43 dX6_firstMissed_26 (by decide) (fun c4 => ?_) (fun c4 => ?_)
        · rw [if_neg c4] at hb
          refine ex_iinc 1 (L2 := [some (.ref o), some (.int (i1 + 1))]) dX6_firstMissed_43 rfl kI_1 (by decide) rfl ?_
          refine ex_goto 2 dX6_firstMissed_46 (by decide) ?_
          refine ex_mskL [true, true] (L2 := [some (.ref o), some (.int (i1 + 1))]) rfl ?_
          cases hb
          exact hk (i1 + 1) rfl
        · rw [if_pos c4] at hb
          refine ex_aload_n dX6_firstMissed_29 rfl ?_
          refine mx_getr 6 (o + 5) dX6_firstMissed_30 fl_X6_23 ho (rf_6_2 ho) ?_
          refine ex_iload_n dX6_firstMissed_33 rfl ?_
          refine ex_iconst 4 dX6_firstMissed_34 kI_4 ?_
          obtain ⟨x5, qx5, hb⟩ := b1E hb
          refine mx_cVi [.int i1, .int 4] [] (o + 5) 8 x5 dX6_firstMissed_35 cl_X6_90 im_X8_at cy_X8_at (oc_6_2 ho) rfl (Nat.le_of_ble_eq_true rfl) (by decide) (t_X8_at l E (o + 5) i1 4 (oc_6_2 ho) M qx5) ?_
          refine ex_if_ne 43 dX6_firstMissed_38 (by decide) (fun c6 => ?_) (fun c6 => ?_)
          · rw [if_neg c6] at hb
            refine ex_iinc 1 (L2 := [some (.ref o), some (.int (i1 + 1))]) dX6_firstMissed_43 rfl kI_1 (by decide) rfl ?_
            refine ex_goto 2 dX6_firstMissed_46 (by decide) ?_
            refine ex_mskL [true, true] (L2 := [some (.ref o), some (.int (i1 + 1))]) rfl ?_
            cases hb
            exact hk (i1 + 1) rfl
          · rw [if_pos c6] at hb
            refine ex_mskL [false, true] (L2 := [none, some (.int i1)]) rfl ?_
            cases hb
            cases (he _ rfl) <;> exact hx)
    exact key FU 0 hlq7
def f_X6_draw (o : Nat) (a1 : Int32) (M : Mem) : Option (Mem × Int32) :=
  lt (up2 M o 9 ((1664525 * (M o 9)) + 1013904223)) fun M1 => if a1 ≤ 0 then (some (M1, 0)) else (if a1 = 0 then none else some (M1, ((ush (M1 o 9) 8) - (ush (M1 o 9) 8) / a1 * a1)))
set_option maxRecDepth 100000 in
set_option maxHeartbeats 4000000 in
theorem t_X6_draw (l : Launch) (E : EV) (o : Nat) (a1 : Int32) (ho : oc o = some 6) (M : Mem) {M' : Mem} {r : Int32} (h : f_X6_draw o a1 M = some (M', r)) : RunM l E yX6_draw cX6_draw 2 (some .int) 0 [.ref o, .int a1] M M' (some (.int r)) := by
  refine RunM.of (by decide) (Nat.le_of_ble_eq_true rfl) ?_
  show XM l E (RX6, "draw", cX6_draw, 2) (some .int) 0 0 [some (.ref o), some (.int a1)] [] M M' (some (.int r))
  unfold f_X6_draw at h
  refine ex_aload_n dX6_draw_0 rfl ?_
  refine ex_ldc 1664525 dX6_draw_1 (tb (i := 742) (by decide +kernel)) ?_
  refine ex_aload_n dX6_draw_3 rfl ?_
  refine mx_geti 6 dX6_draw_4 fl_X6_64 ho (isi_6_9 ho) ?_
  refine ex_imul dX6_draw_7 ?_
  refine ex_ldc 1013904223 dX6_draw_8 (tb (i := 743) (by decide +kernel)) ?_
  refine ex_iadd dX6_draw_10 ?_
  obtain ⟨M1, eM1, h⟩ := ltE h
  refine mx_puti 6 dX6_draw_11 fl_X6_64 rfl ⟨rfl, rfl⟩ ho (isi_6_9 ho) ?_
  rw [← eM1]
  refine ex_iload_n dX6_draw_14 rfl ?_
  refine ex_if_le 30 dX6_draw_15 (by decide) (fun c2 => ?_) (fun c2 => ?_)
  · rw [if_pos c2] at h
    refine ex_iconst 0 dX6_draw_30 kI_0 ?_
    cases h
    exact mx_reti .int dX6_draw_31 ⟨rfl, rfl⟩
  · rw [if_neg c2] at h
    refine ex_aload_n dX6_draw_18 rfl ?_
    refine mx_geti 6 dX6_draw_19 fl_X6_64 ho (isi_6_9 ho) ?_
    refine ex_bipush 8 dX6_draw_22 kB_8 ?_
    refine ex_iushr dX6_draw_24 ?_
    refine ex_iload_n dX6_draw_25 rfl ?_
    by_cases c3 : a1 = 0
    · rw [if_pos c3] at h; cases h
    rw [if_neg c3] at h
    refine ex_irem dX6_draw_26 c3 ?_
    refine ex_goto 31 dX6_draw_27 (by decide) ?_
    cases h
    exact mx_reti .int dX6_draw_31 ⟨rfl, rfl⟩
def f_X6_isSpoilt (o : Nat) (a1 : Int32) (M : Mem) : Option (Mem × Int32) :=
  b2 (f_X6_spoilOf o a1 M) fun M1 x2 => if x2 ≤ 0 then (some (M1, 0)) else (b2 (f_X6_draw o 1000 M1) fun M4 x5 => if x2 ≤ x5 then (some (M4, 0)) else (some (M4, 1)))
set_option maxRecDepth 100000 in
set_option maxHeartbeats 4000000 in
theorem t_X6_isSpoilt (l : Launch) (E : EV) (o : Nat) (a1 : Int32) (ho : oc o = some 6) (M : Mem) {M' : Mem} {r : Int32} (h : f_X6_isSpoilt o a1 M = some (M', r)) : RunM l E yX6_isSpoilt cX6_isSpoilt 3 (some .boolean) 5 [.ref o, .int a1] M M' (some (.int r)) := by
  refine RunM.of (by decide) (Nat.le_of_ble_eq_true rfl) ?_
  show XM l E (RX6, "isSpoilt", cX6_isSpoilt, 3) (some .boolean) 5 0 [some (.ref o), some (.int a1), none] [] M M' (some (.int r))
  unfold f_X6_isSpoilt at h
  refine ex_aload_n dX6_isSpoilt_0 rfl ?_
  refine ex_iload_n dX6_isSpoilt_1 rfl ?_
  obtain ⟨M1, x2, qx2, h⟩ := b2E h
  refine mx_cVi [.int a1] [] o 6 x2 dX6_isSpoilt_2 cl_X6_182 im_X6_spoilOf cy_X6_spoilOf ho rfl (Nat.le_of_ble_eq_true rfl) (by decide) (t_X6_spoilOf l E o a1 ho M qx2) ?_
  refine ex_istore_n (L2 := [some (.ref o), some (.int a1), some (.int x2)]) dX6_isSpoilt_5 (by decide) rfl ?_
  refine ex_iload_n dX6_isSpoilt_6 rfl ?_
  refine ex_if_le 25 dX6_isSpoilt_7 (by decide) (fun c3 => ?_) (fun c3 => ?_)
  · rw [if_pos c3] at h
    refine ex_iconst 0 dX6_isSpoilt_25 kI_0 ?_
    cases h
    exact mx_reti .boolean dX6_isSpoilt_26 ⟨rfl, by decide⟩
  · rw [if_neg c3] at h
    refine ex_aload_n dX6_isSpoilt_10 rfl ?_
    refine ex_sipush 1000 dX6_isSpoilt_11 kS_1000 ?_
    obtain ⟨M4, x5, qx5, h⟩ := b2E h
    refine mx_cVi [.int 1000] [] o 6 x5 dX6_isSpoilt_14 cl_X6_185 im_X6_draw cy_X6_draw ho rfl (Nat.le_of_ble_eq_true rfl) (by decide) (t_X6_draw l E o 1000 ho M1 qx5) ?_
    refine ex_iload_n dX6_isSpoilt_17 rfl ?_
    refine ex_icmp_ge 25 dX6_isSpoilt_18 (by decide) (fun c6 => ?_) (fun c6 => ?_)
    · rw [if_pos c6] at h
      refine ex_iconst 0 dX6_isSpoilt_25 kI_0 ?_
      cases h
      exact mx_reti .boolean dX6_isSpoilt_26 ⟨rfl, by decide⟩
    · rw [if_neg c6] at h
      refine ex_iconst 1 dX6_isSpoilt_21 kI_1 ?_
      refine ex_goto 26 dX6_isSpoilt_22 (by decide) ?_
      cases h
      exact mx_reti .boolean dX6_isSpoilt_26 ⟨rfl, by decide⟩
def f_X6_lose (o : Nat) (a1 : Int32) (a2 : Int32) (M : Mem) : Option (Mem) :=
  b1 (f_X8_at (o + 9) a1 0 M) fun x1 => b1 (f_X8_at (o + 9) a1 1 M) fun x2 => b2 (f_X8_add (o + 11) (M o 10) a2 x1 x2 M) fun M3 x4 => b1 (f_X8_drop (o + 9) a1 M3) fun M5 => some M5
set_option maxRecDepth 100000 in
set_option maxHeartbeats 4000000 in
theorem t_X6_lose (l : Launch) (E : EV) (o : Nat) (a1 : Int32) (a2 : Int32) (ho : oc o = some 6) (M : Mem) {M' : Mem} (h : f_X6_lose o a1 a2 M = some M') : RunM l E yX6_lose cX6_lose 3 none 4 [.ref o, .int a1, .int a2] M M' none := by
  refine RunM.of (by decide) (Nat.le_of_ble_eq_true rfl) ?_
  show XM l E (RX6, "lose", cX6_lose, 3) none 4 0 [some (.ref o), some (.int a1), some (.int a2)] [] M M' none
  unfold f_X6_lose at h
  refine ex_aload_n dX6_lose_0 rfl ?_
  refine mx_getr 6 (o + 11) dX6_lose_1 fl_X6_32 ho (rf_6_5 ho) ?_
  refine ex_aload_n dX6_lose_4 rfl ?_
  refine mx_geti 6 dX6_lose_5 fl_X6_67 ho (isi_6_10 ho) ?_
  refine ex_iload_n dX6_lose_8 rfl ?_
  refine ex_aload_n dX6_lose_9 rfl ?_
  refine mx_getr 6 (o + 9) dX6_lose_10 fl_X6_29 ho (rf_6_4 ho) ?_
  refine ex_iload_n dX6_lose_13 rfl ?_
  refine ex_iconst 0 dX6_lose_14 kI_0 ?_
  obtain ⟨x1, qx1, h⟩ := b1E h
  refine mx_cVi [.int a1, .int 0] [.int a2, .int (M o 10), .ref (o + 11)] (o + 9) 8 x1 dX6_lose_15 cl_X6_90 im_X8_at cy_X8_at (oc_6_4 ho) rfl (Nat.le_of_ble_eq_true rfl) (by decide) (t_X8_at l E (o + 9) a1 0 (oc_6_4 ho) M qx1) ?_
  refine ex_aload_n dX6_lose_18 rfl ?_
  refine mx_getr 6 (o + 9) dX6_lose_19 fl_X6_29 ho (rf_6_4 ho) ?_
  refine ex_iload_n dX6_lose_22 rfl ?_
  refine ex_iconst 1 dX6_lose_23 kI_1 ?_
  obtain ⟨x2, qx2, h⟩ := b1E h
  refine mx_cVi [.int a1, .int 1] [.int x1, .int a2, .int (M o 10), .ref (o + 11)] (o + 9) 8 x2 dX6_lose_24 cl_X6_90 im_X8_at cy_X8_at (oc_6_4 ho) rfl (Nat.le_of_ble_eq_true rfl) (by decide) (t_X8_at l E (o + 9) a1 1 (oc_6_4 ho) M qx2) ?_
  obtain ⟨M3, x4, qx4, h⟩ := b2E h
  refine mx_cVi [.int (M o 10), .int a2, .int x1, .int x2] [] (o + 11) 8 x4 dX6_lose_27 cl_X6_125 im_X8_add cy_X8_add (oc_6_5 ho) rfl (Nat.le_of_ble_eq_true rfl) (by decide) (t_X8_add l E (o + 11) (M o 10) a2 x1 x2 (oc_6_5 ho) M qx4) ?_
  refine ex_pop dX6_lose_30 rfl ?_
  refine ex_aload_n dX6_lose_31 rfl ?_
  refine mx_getr 6 (o + 9) dX6_lose_32 fl_X6_29 ho (rf_6_4 ho) ?_
  refine ex_iload_n dX6_lose_35 rfl ?_
  obtain ⟨M5, qM5, h⟩ := b1E h
  refine mx_cVv [.int a1] [] (o + 9) 8 dX6_lose_36 cl_X6_141 im_X8_drop cy_X8_drop (oc_6_4 ho) rfl (Nat.le_of_ble_eq_true rfl) (by decide) (t_X8_drop l E (o + 9) a1 (oc_6_4 ho) M3 qM5) ?_
  cases h
  exact mx_retv dX6_lose_39 rfl
def w_X6_inspectorsCome_24 (o : Nat) (M2 : Mem) (i5 : Int32) : Option ((Int32) ⊕ ((Int32) ⊕ (Unit))) :=
  if (M2 (o + 9) 3) ≤ i5 then (some (.inr (.inr ()))) else (b1 (f_X8_at (o + 9) i5 4 M2) fun x7 => if x7 = 1 then (some (.inr (.inl i5))) else (some (.inl (i5 + 1))))
def f_X6_inspectorsCome (o : Nat) (M : Mem) : Option (Mem) :=
  if (M o 13) ≤ 0 then (some M) else (b2 (f_X6_draw o 1000 M) fun M2 x3 => if x3 < (M2 o 13) then (b1 (lp (fun s => w_X6_inspectorsCome_24 o M2 s) FU 0) fun q9 => match q9 with | .inl u10 => (b1 (f_X6_lose o u10 7 M2) fun M11 => lt (up2 M11 o 12 ((M11 o 12) + 1)) fun M12 => lt (up2 M12 o 11 ((M12 o 11) - 50)) fun M13 => some M13) | .inr u14 => (some M2)) else (some M2))
set_option maxRecDepth 100000 in
set_option maxHeartbeats 4000000 in
theorem t_X6_inspectorsCome (l : Launch) (E : EV) (o : Nat) (ho : oc o = some 6) (M : Mem) {M' : Mem} (h : f_X6_inspectorsCome o M = some M') : RunM l E yX6_inspectorsCome cX6_inspectorsCome 2 none 5 [.ref o] M M' none := by
  refine RunM.of (by decide) (Nat.le_of_ble_eq_true rfl) ?_
  show XM l E (RX6, "inspectorsCome", cX6_inspectorsCome, 2) none 5 0 [some (.ref o), none] [] M M' none
  unfold f_X6_inspectorsCome at h
  refine ex_aload_n dX6_inspectorsCome_0 rfl ?_
  refine mx_geti 6 dX6_inspectorsCome_1 fl_X6_73 ho (isi_6_13 ho) ?_
  refine ex_if_le 21 dX6_inspectorsCome_4 (by decide) (fun c1 => ?_) (fun c1 => ?_)
  · rw [if_pos c1] at h
    cases h
    exact mx_retv dX6_inspectorsCome_21 rfl
  · rw [if_neg c1] at h
    refine ex_aload_n dX6_inspectorsCome_7 rfl ?_
    refine ex_sipush 1000 dX6_inspectorsCome_8 kS_1000 ?_
    obtain ⟨M2, x3, qx3, h⟩ := b2E h
    refine mx_cVi [.int 1000] [] o 6 x3 dX6_inspectorsCome_11 cl_X6_185 im_X6_draw cy_X6_draw ho rfl (Nat.le_of_ble_eq_true rfl) (by decide) (t_X6_draw l E o 1000 ho M qx3) ?_
    refine ex_aload_n dX6_inspectorsCome_14 rfl ?_
    refine mx_geti 6 dX6_inspectorsCome_15 fl_X6_73 ho (isi_6_13 ho) ?_
    refine ex_icmp_lt 22 dX6_inspectorsCome_18 (by decide) (fun c4 => ?_) (fun c4 => ?_)
    · rw [if_pos c4] at h
      refine ex_iconst 0 dX6_inspectorsCome_22 kI_0 ?_
      refine ex_istore_n (L2 := [some (.ref o), some (.int 0)]) dX6_inspectorsCome_23 (by decide) rfl ?_
      refine ex_mskL [true, true] (L2 := [some (.ref o), some (.int 0)]) rfl ?_
      obtain ⟨q9, hlq9, h⟩ := b1E h
      rcases q9 with u10 | ⟨⟩
      · dsimp only at h
        have hx : XM l E (RX6, "inspectorsCome", cX6_inspectorsCome, 2) none 5 48 [some (.ref o), some (.int u10)] [] M2 M' none := by
          refine ex_aload_n dX6_inspectorsCome_48 rfl ?_
          refine ex_iload_n dX6_inspectorsCome_49 rfl ?_
          refine ex_bipush 7 dX6_inspectorsCome_50 kB_7 ?_
          obtain ⟨M11, qM11, h⟩ := b1E h
          refine mx_cVv [.int u10, .int 7] [] o 6 dX6_inspectorsCome_52 cl_X6_173 im_X6_lose cy_X6_lose ho rfl (Nat.le_of_ble_eq_true rfl) (by decide) (t_X6_lose l E o u10 7 ho M2 qM11) ?_
          refine ex_aload_n dX6_inspectorsCome_55 rfl ?_
          refine ex_dup dX6_inspectorsCome_56 rfl ?_
          refine mx_geti 6 dX6_inspectorsCome_57 fl_X6_70 ho (isi_6_12 ho) ?_
          refine ex_iconst 1 dX6_inspectorsCome_60 kI_1 ?_
          refine ex_iadd dX6_inspectorsCome_61 ?_
          obtain ⟨M12, eM12, h⟩ := ltE h
          refine mx_puti 6 dX6_inspectorsCome_62 fl_X6_70 rfl ⟨rfl, rfl⟩ ho (isi_6_12 ho) ?_
          rw [← eM12]
          refine ex_aload_n dX6_inspectorsCome_65 rfl ?_
          refine ex_dup dX6_inspectorsCome_66 rfl ?_
          refine mx_geti 6 dX6_inspectorsCome_67 fl_X6_53 ho (isi_6_11 ho) ?_
          refine ex_bipush 50 dX6_inspectorsCome_70 kB_50 ?_
          refine ex_isub dX6_inspectorsCome_72 ?_
          obtain ⟨M13, eM13, h⟩ := ltE h
          refine mx_puti 6 dX6_inspectorsCome_73 fl_X6_53 rfl ⟨rfl, rfl⟩ ho (isi_6_11 ho) ?_
          rw [← eM13]
          cases h
          exact mx_retv dX6_inspectorsCome_76 rfl
        clear h
        have key : ∀ (k : Nat) (s : Int32), lp (fun s => w_X6_inspectorsCome_24 o M2 s) k s = some (.inl u10) → XM l E (RX6, "inspectorsCome", cX6_inspectorsCome, 2) none 5 24 [some (.ref o), some (.int s)] [] M2 M' none := lp_ind (P := fun (s : Int32) => XM l E (RX6, "inspectorsCome", cX6_inspectorsCome, 2) none 5 24 [some (.ref o), some (.int s)] [] M2 M' none) (fun s t hb hk he => by
          revert hb hk he; generalize s = i5; intro hb hk he
          show XM l E (RX6, "inspectorsCome", cX6_inspectorsCome, 2) none 5 24 [some (.ref o), some (.int i5)] [] M2 M' none
          change w_X6_inspectorsCome_24 o M2 i5 = some t at hb
          unfold w_X6_inspectorsCome_24 at hb
          refine ex_iload_n dX6_inspectorsCome_24 rfl ?_
          refine ex_aload_n dX6_inspectorsCome_25 rfl ?_
          refine mx_getr 6 (o + 9) dX6_inspectorsCome_26 fl_X6_29 ho (rf_6_4 ho) ?_
          refine mx_geti 8 dX6_inspectorsCome_29 fl_X6_116 (oc_6_4 ho) (isi_8_3 (oc_6_4 ho)) ?_
          refine ex_icmp_ge 83 dX6_inspectorsCome_32 (by decide) (fun c6 => ?_) (fun c6 => ?_)
          · rw [if_pos c6] at hb
            refine ex_mskL [false, false] (L2 := [none, none]) rfl ?_
            cases hb
            cases (he _ rfl) <;> exact hx
          · rw [if_neg c6] at hb
            refine ex_aload_n dX6_inspectorsCome_35 rfl ?_
            refine mx_getr 6 (o + 9) dX6_inspectorsCome_36 fl_X6_29 ho (rf_6_4 ho) ?_
            refine ex_iload_n dX6_inspectorsCome_39 rfl ?_
            refine ex_iconst 4 dX6_inspectorsCome_40 kI_4 ?_
            obtain ⟨x7, qx7, hb⟩ := b1E hb
            refine mx_cVi [.int i5, .int 4] [] (o + 9) 8 x7 dX6_inspectorsCome_41 cl_X6_90 im_X8_at cy_X8_at (oc_6_4 ho) rfl (Nat.le_of_ble_eq_true rfl) (by decide) (t_X8_at l E (o + 9) i5 4 (oc_6_4 ho) M2 qx7) ?_
            refine ex_iconst 1 dX6_inspectorsCome_44 kI_1 ?_
            refine ex_icmp_ne 77 dX6_inspectorsCome_45 (by decide) (fun c8 => ?_) (fun c8 => ?_)
            · rw [if_neg c8] at hb
              refine ex_iinc 1 (L2 := [some (.ref o), some (.int (i5 + 1))]) dX6_inspectorsCome_77 rfl kI_1 (by decide) rfl ?_
              refine ex_goto 24 dX6_inspectorsCome_80 (by decide) ?_
              refine ex_mskL [true, true] (L2 := [some (.ref o), some (.int (i5 + 1))]) rfl ?_
              cases hb
              exact hk (i5 + 1) rfl
            · rw [if_pos c8] at hb
              refine ex_mskL [true, true] (L2 := [some (.ref o), some (.int i5)]) rfl ?_
              cases hb
              cases (he _ rfl) <;> exact hx)
        exact key FU 0 hlq9
      · dsimp only at h
        have hx : XM l E (RX6, "inspectorsCome", cX6_inspectorsCome, 2) none 5 83 [none, none] [] M2 M' none := by
          cases h
          exact mx_retv dX6_inspectorsCome_83 rfl
        clear h
        have key : ∀ (k : Nat) (s : Int32), lp (fun s => w_X6_inspectorsCome_24 o M2 s) k s = some (.inr ()) → XM l E (RX6, "inspectorsCome", cX6_inspectorsCome, 2) none 5 24 [some (.ref o), some (.int s)] [] M2 M' none := lp_ind (P := fun (s : Int32) => XM l E (RX6, "inspectorsCome", cX6_inspectorsCome, 2) none 5 24 [some (.ref o), some (.int s)] [] M2 M' none) (fun s t hb hk he => by
          revert hb hk he; generalize s = i5; intro hb hk he
          show XM l E (RX6, "inspectorsCome", cX6_inspectorsCome, 2) none 5 24 [some (.ref o), some (.int i5)] [] M2 M' none
          change w_X6_inspectorsCome_24 o M2 i5 = some t at hb
          unfold w_X6_inspectorsCome_24 at hb
          refine ex_iload_n dX6_inspectorsCome_24 rfl ?_
          refine ex_aload_n dX6_inspectorsCome_25 rfl ?_
          refine mx_getr 6 (o + 9) dX6_inspectorsCome_26 fl_X6_29 ho (rf_6_4 ho) ?_
          refine mx_geti 8 dX6_inspectorsCome_29 fl_X6_116 (oc_6_4 ho) (isi_8_3 (oc_6_4 ho)) ?_
          refine ex_icmp_ge 83 dX6_inspectorsCome_32 (by decide) (fun c6 => ?_) (fun c6 => ?_)
          · rw [if_pos c6] at hb
            refine ex_mskL [false, false] (L2 := [none, none]) rfl ?_
            cases hb
            cases (he _ rfl) <;> exact hx
          · rw [if_neg c6] at hb
            refine ex_aload_n dX6_inspectorsCome_35 rfl ?_
            refine mx_getr 6 (o + 9) dX6_inspectorsCome_36 fl_X6_29 ho (rf_6_4 ho) ?_
            refine ex_iload_n dX6_inspectorsCome_39 rfl ?_
            refine ex_iconst 4 dX6_inspectorsCome_40 kI_4 ?_
            obtain ⟨x7, qx7, hb⟩ := b1E hb
            refine mx_cVi [.int i5, .int 4] [] (o + 9) 8 x7 dX6_inspectorsCome_41 cl_X6_90 im_X8_at cy_X8_at (oc_6_4 ho) rfl (Nat.le_of_ble_eq_true rfl) (by decide) (t_X8_at l E (o + 9) i5 4 (oc_6_4 ho) M2 qx7) ?_
            refine ex_iconst 1 dX6_inspectorsCome_44 kI_1 ?_
            refine ex_icmp_ne 77 dX6_inspectorsCome_45 (by decide) (fun c8 => ?_) (fun c8 => ?_)
            · rw [if_neg c8] at hb
              refine ex_iinc 1 (L2 := [some (.ref o), some (.int (i5 + 1))]) dX6_inspectorsCome_77 rfl kI_1 (by decide) rfl ?_
              refine ex_goto 24 dX6_inspectorsCome_80 (by decide) ?_
              refine ex_mskL [true, true] (L2 := [some (.ref o), some (.int (i5 + 1))]) rfl ?_
              cases hb
              exact hk (i5 + 1) rfl
            · rw [if_pos c8] at hb
              refine ex_mskL [true, true] (L2 := [some (.ref o), some (.int i5)]) rfl ?_
              cases hb
              cases (he _ rfl) <;> exact hx)
        exact key FU 0 hlq9
    · rw [if_neg c4] at h
      cases h
      exact mx_retv dX6_inspectorsCome_21 rfl
def f_X6_dogsCome (o : Nat) (M : Mem) : Option (Mem) :=
  if ((M o 14) ≤ 0 ∨ (M (o + 9) 3) ≤ 0) then (some M) else (b2 (f_X6_draw o 1000 M) fun M4 x5 => if (M4 o 14) ≤ x5 then (some M4) else (b2 (f_X6_draw o (M4 (o + 9) 3) M4) fun M7 x8 => b1 (f_X6_lose o x8 8 M7) fun M9 => some M9))
set_option maxRecDepth 100000 in
set_option maxHeartbeats 4000000 in
theorem t_X6_dogsCome (l : Launch) (E : EV) (o : Nat) (ho : oc o = some 6) (M : Mem) {M' : Mem} (h : f_X6_dogsCome o M = some M') : RunM l E yX6_dogsCome cX6_dogsCome 1 none 5 [.ref o] M M' none := by
  refine RunM.of (by decide) (Nat.le_of_ble_eq_true rfl) ?_
  show XM l E (RX6, "dogsCome", cX6_dogsCome, 1) none 5 0 [some (.ref o)] [] M M' none
  unfold f_X6_dogsCome at h
  refine ex_aload_n dX6_dogsCome_0 rfl ?_
  refine mx_geti 6 dX6_dogsCome_1 fl_X6_76 ho (isi_6_14 ho) ?_
  have JXC3 : ((M o 14) ≤ 0 ∨ (M (o + 9) 3) ≤ 0) → XM l E (RX6, "dogsCome", cX6_dogsCome, 1) none 5 48 [some (.ref o)] [] M M' none := fun C3 => by
    rw [if_pos C3] at h
    cases h
    exact mx_retv dX6_dogsCome_48 rfl
  have JYC3 : ¬ (((M o 14) ≤ 0 ∨ (M (o + 9) 3) ≤ 0)) → XM l E (RX6, "dogsCome", cX6_dogsCome, 1) none 5 21 [some (.ref o)] [.int 1000, .ref o] M M' none := fun C3 => by
    rw [if_neg C3] at h
    obtain ⟨M4, x5, qx5, h⟩ := b2E h
    refine mx_cVi [.int 1000] [] o 6 x5 dX6_dogsCome_21 cl_X6_185 im_X6_draw cy_X6_draw ho rfl (Nat.le_of_ble_eq_true rfl) (by decide) (t_X6_draw l E o 1000 ho M qx5) ?_
    refine ex_aload_n dX6_dogsCome_24 rfl ?_
    refine mx_geti 6 dX6_dogsCome_25 fl_X6_76 ho (isi_6_14 ho) ?_
    refine ex_icmp_ge 48 dX6_dogsCome_28 (by decide) (fun c6 => ?_) (fun c6 => ?_)
    · rw [if_pos c6] at h
      cases h
      exact mx_retv dX6_dogsCome_48 rfl
    · rw [if_neg c6] at h
      refine ex_aload_n dX6_dogsCome_31 rfl ?_
      refine ex_aload_n dX6_dogsCome_32 rfl ?_
      refine ex_aload_n dX6_dogsCome_33 rfl ?_
      refine mx_getr 6 (o + 9) dX6_dogsCome_34 fl_X6_29 ho (rf_6_4 ho) ?_
      refine mx_geti 8 dX6_dogsCome_37 fl_X6_116 (oc_6_4 ho) (isi_8_3 (oc_6_4 ho)) ?_
      obtain ⟨M7, x8, qx8, h⟩ := b2E h
      refine mx_cVi [.int (M4 (o + 9) 3)] [.ref o] o 6 x8 dX6_dogsCome_40 cl_X6_185 im_X6_draw cy_X6_draw ho rfl (Nat.le_of_ble_eq_true rfl) (by decide) (t_X6_draw l E o (M4 (o + 9) 3) ho M4 qx8) ?_
      refine ex_bipush 8 dX6_dogsCome_43 kB_8 ?_
      obtain ⟨M9, qM9, h⟩ := b1E h
      refine mx_cVv [.int x8, .int 8] [] o 6 dX6_dogsCome_45 cl_X6_173 im_X6_lose cy_X6_lose ho rfl (Nat.le_of_ble_eq_true rfl) (by decide) (t_X6_lose l E o x8 8 ho M7 qM9) ?_
      cases h
      exact mx_retv dX6_dogsCome_48 rfl
  clear h
  refine ex_if_le 48 dX6_dogsCome_4 (by decide) (fun c1 => ?_) (fun c1 => ?_)
  · exact JXC3 (Or.inl c1)
  · refine ex_aload_n dX6_dogsCome_7 rfl ?_
    refine mx_getr 6 (o + 9) dX6_dogsCome_8 fl_X6_29 ho (rf_6_4 ho) ?_
    refine mx_geti 8 dX6_dogsCome_11 fl_X6_116 (oc_6_4 ho) (isi_8_3 (oc_6_4 ho)) ?_
    refine ex_if_le 48 dX6_dogsCome_14 (by decide) (fun c2 => ?_) (fun c2 => ?_)
    · exact JXC3 (Or.inr c2)
    · refine ex_aload_n dX6_dogsCome_17 rfl ?_
      refine ex_sipush 1000 dX6_dogsCome_18 kS_1000 ?_
      exact JYC3 (fun z => z.elim c1 c2)
def w_X6_endDay_13 (o : Nat) (a1 : Int32) (M : Mem) (i1 : Int32) (i2 : Int32) (M3 : Mem) : Option ((Int32 × Int32 × Mem) ⊕ (Mem)) :=
  if (M (o + 9) 3) ≤ i2 then (some (.inr M3)) else (b1 (f_X6_isTooOld o i1 0 M3) fun x5 => if x5 = 0 then (if a1 = 0 then (b2 (f_X6_isSpoilt o i1 M3) fun M9 x10 => if x10 = 0 then (some (.inl ((i1 + 1), (i2 + 1), M9))) else (b1 (f_X6_lose o i1 6 M9) fun M12 => some (.inl (i1, (i2 + 1), M12)))) else (some (.inl ((i1 + 1), (i2 + 1), M3)))) else (b1 (f_X6_lose o i1 6 M3) fun M7 => some (.inl (i1, (i2 + 1), M7))))
def f_X6_endDay (o : Nat) (a1 : Int32) (M : Mem) : Option (Mem) :=
  b1 (lp (fun s => w_X6_endDay_13 o a1 M s.1 s.2.1 s.2.2) FU (0, 0, M)) fun q13 => if a1 = 0 then (b1 (f_X6_inspectorsCome o q13) fun M16 => b1 (f_X6_dogsCome o M16) fun M17 => lt (up2 M17 o 10 ((M17 o 10) + 1)) fun M18 => some M18) else (lt (up2 q13 o 10 ((q13 o 10) + 1)) fun M15 => some M15)
set_option maxRecDepth 100000 in
set_option maxHeartbeats 4000000 in
theorem t_X6_endDay (l : Launch) (E : EV) (o : Nat) (a1 : Int32) (ho : oc o = some 6) (M : Mem) {M' : Mem} (h : f_X6_endDay o a1 M = some M') : RunM l E yX6_endDay cX6_endDay 5 none 6 [.ref o, .int a1] M M' none := by
  refine RunM.of (by decide) (Nat.le_of_ble_eq_true rfl) ?_
  show XM l E (RX6, "endDay", cX6_endDay, 5) none 6 0 [some (.ref o), some (.int a1), none, none, none] [] M M' none
  unfold f_X6_endDay at h
  refine ex_iconst 0 dX6_endDay_0 kI_0 ?_
  refine ex_istore_n (L2 := [some (.ref o), some (.int a1), some (.int 0), none, none]) dX6_endDay_1 (by decide) rfl ?_
  refine ex_aload_n dX6_endDay_2 rfl ?_
  refine mx_getr 6 (o + 9) dX6_endDay_3 fl_X6_29 ho (rf_6_4 ho) ?_
  refine mx_geti 8 dX6_endDay_6 fl_X6_116 (oc_6_4 ho) (isi_8_3 (oc_6_4 ho)) ?_
  refine ex_istore_n (L2 := [some (.ref o), some (.int a1), some (.int 0), some (.int (M (o + 9) 3)), none]) dX6_endDay_9 (by decide) rfl ?_
  refine ex_iconst 0 dX6_endDay_10 kI_0 ?_
  refine ex_istore (L2 := [some (.ref o), some (.int a1), some (.int 0), some (.int (M (o + 9) 3)), some (.int 0)]) dX6_endDay_11 (by decide) rfl ?_
  refine ex_mskL [true, true, true, true, true] (L2 := [some (.ref o), some (.int a1), some (.int 0), some (.int (M (o + 9) 3)), some (.int 0)]) rfl ?_
  obtain ⟨q13, hlq13, h⟩ := b1E h
  have hx : XM l E (RX6, "endDay", cX6_endDay, 5) none 6 59 [some (.ref o), some (.int a1), none, none, none] [] q13 M' none := by
    refine ex_iload_n dX6_endDay_59 rfl ?_
    refine ex_if_ne 71 dX6_endDay_60 (by decide) (fun c14 => ?_) (fun c14 => ?_)
    · rw [if_neg c14] at h
      refine ex_aload_n dX6_endDay_71 rfl ?_
      refine ex_dup dX6_endDay_72 rfl ?_
      refine mx_geti 6 dX6_endDay_73 fl_X6_67 ho (isi_6_10 ho) ?_
      refine ex_iconst 1 dX6_endDay_76 kI_1 ?_
      refine ex_iadd dX6_endDay_77 ?_
      obtain ⟨M15, eM15, h⟩ := ltE h
      refine mx_puti 6 dX6_endDay_78 fl_X6_67 rfl ⟨rfl, rfl⟩ ho (isi_6_10 ho) ?_
      rw [← eM15]
      cases h
      exact mx_retv dX6_endDay_81 rfl
    · rw [if_pos c14] at h
      refine ex_aload_n dX6_endDay_63 rfl ?_
      obtain ⟨M16, qM16, h⟩ := b1E h
      refine mx_cVv [] [] o 6 dX6_endDay_64 cl_X6_176 im_X6_inspectorsCome cy_X6_inspectorsCome ho rfl (Nat.le_of_ble_eq_true rfl) (by decide) (t_X6_inspectorsCome l E o ho q13 qM16) ?_
      refine ex_aload_n dX6_endDay_67 rfl ?_
      obtain ⟨M17, qM17, h⟩ := b1E h
      refine mx_cVv [] [] o 6 dX6_endDay_68 cl_X6_179 im_X6_dogsCome cy_X6_dogsCome ho rfl (Nat.le_of_ble_eq_true rfl) (by decide) (t_X6_dogsCome l E o ho M16 qM17) ?_
      refine ex_aload_n dX6_endDay_71 rfl ?_
      refine ex_dup dX6_endDay_72 rfl ?_
      refine mx_geti 6 dX6_endDay_73 fl_X6_67 ho (isi_6_10 ho) ?_
      refine ex_iconst 1 dX6_endDay_76 kI_1 ?_
      refine ex_iadd dX6_endDay_77 ?_
      obtain ⟨M18, eM18, h⟩ := ltE h
      refine mx_puti 6 dX6_endDay_78 fl_X6_67 rfl ⟨rfl, rfl⟩ ho (isi_6_10 ho) ?_
      rw [← eM18]
      cases h
      exact mx_retv dX6_endDay_81 rfl
  clear h
  have key : ∀ (k : Nat) (s : Int32 × Int32 × Mem), lp (fun s => w_X6_endDay_13 o a1 M s.1 s.2.1 s.2.2) k s = some q13 → XM l E (RX6, "endDay", cX6_endDay, 5) none 6 13 [some (.ref o), some (.int a1), some (.int s.1), some (.int (M (o + 9) 3)), some (.int s.2.1)] [] s.2.2 M' none := lp_ind (P := fun (s : Int32 × Int32 × Mem) => XM l E (RX6, "endDay", cX6_endDay, 5) none 6 13 [some (.ref o), some (.int a1), some (.int s.1), some (.int (M (o + 9) 3)), some (.int s.2.1)] [] s.2.2 M' none) (fun s t hb hk he => by
    obtain ⟨i1, i2, M3⟩ := s
    show XM l E (RX6, "endDay", cX6_endDay, 5) none 6 13 [some (.ref o), some (.int a1), some (.int i1), some (.int (M (o + 9) 3)), some (.int i2)] [] M3 M' none
    change w_X6_endDay_13 o a1 M i1 i2 M3 = some t at hb
    unfold w_X6_endDay_13 at hb
    refine ex_iload dX6_endDay_13 rfl ?_
    refine ex_iload_n dX6_endDay_15 rfl ?_
    refine ex_icmp_ge 59 dX6_endDay_16 (by decide) (fun c4 => ?_) (fun c4 => ?_)
    · rw [if_pos c4] at hb
      refine ex_mskL [true, true, false, false, false] (L2 := [some (.ref o), some (.int a1), none, none, none]) rfl ?_
      cases hb
      cases (he _ rfl) <;> exact hx
    · rw [if_neg c4] at hb
      refine ex_aload_n dX6_endDay_19 rfl ?_
      refine ex_iload_n dX6_endDay_20 rfl ?_
      refine ex_iconst 0 dX6_endDay_21 kI_0 ?_
      obtain ⟨x5, qx5, hb⟩ := b1E hb
      refine mx_cVi [.int i1, .int 0] [] o 6 x5 dX6_endDay_22 cl_X6_167 im_X6_isTooOld cy_X6_isTooOld ho rfl (Nat.le_of_ble_eq_true rfl) (by decide) (t_X6_isTooOld l E o i1 0 ho M3 qx5) ?_
      refine ex_if_ne 40 dX6_endDay_25 (by decide) (fun c6 => ?_) (fun c6 => ?_)
      · rw [if_neg c6] at hb
        refine ex_aload_n dX6_endDay_40 rfl ?_
        refine ex_iload_n dX6_endDay_41 rfl ?_
        refine ex_bipush 6 dX6_endDay_42 kB_6 ?_
        obtain ⟨M7, qM7, hb⟩ := b1E hb
        refine mx_cVv [.int i1, .int 6] [] o 6 dX6_endDay_44 cl_X6_173 im_X6_lose cy_X6_lose ho rfl (Nat.le_of_ble_eq_true rfl) (by decide) (t_X6_lose l E o i1 6 ho M3 qM7) ?_
        refine ex_goto 53 dX6_endDay_47 (by decide) ?_
        refine ex_iinc 1 (L2 := [some (.ref o), some (.int a1), some (.int i1), some (.int (M (o + 9) 3)), some (.int (i2 + 1))]) dX6_endDay_53 rfl kI_1 (by decide) rfl ?_
        refine ex_goto 13 dX6_endDay_56 (by decide) ?_
        refine ex_mskL [true, true, true, true, true] (L2 := [some (.ref o), some (.int a1), some (.int i1), some (.int (M (o + 9) 3)), some (.int (i2 + 1))]) rfl ?_
        cases hb
        exact hk (i1, (i2 + 1), M7) rfl
      · rw [if_pos c6] at hb
        refine ex_iload_n dX6_endDay_28 rfl ?_
        refine ex_if_ne 50 dX6_endDay_29 (by decide) (fun c8 => ?_) (fun c8 => ?_)
        · rw [if_neg c8] at hb
          refine ex_iinc 1 (L2 := [some (.ref o), some (.int a1), some (.int (i1 + 1)), some (.int (M (o + 9) 3)), some (.int i2)]) dX6_endDay_50 rfl kI_1 (by decide) rfl ?_
          refine ex_iinc 1 (L2 := [some (.ref o), some (.int a1), some (.int (i1 + 1)), some (.int (M (o + 9) 3)), some (.int (i2 + 1))]) dX6_endDay_53 rfl kI_1 (by decide) rfl ?_
          refine ex_goto 13 dX6_endDay_56 (by decide) ?_
          refine ex_mskL [true, true, true, true, true] (L2 := [some (.ref o), some (.int a1), some (.int (i1 + 1)), some (.int (M (o + 9) 3)), some (.int (i2 + 1))]) rfl ?_
          cases hb
          exact hk ((i1 + 1), (i2 + 1), M3) rfl
        · rw [if_pos c8] at hb
          refine ex_aload_n dX6_endDay_32 rfl ?_
          refine ex_iload_n dX6_endDay_33 rfl ?_
          obtain ⟨M9, x10, qx10, hb⟩ := b2E hb
          refine mx_cVi [.int i1] [] o 6 x10 dX6_endDay_34 cl_X6_170 im_X6_isSpoilt cy_X6_isSpoilt ho rfl (Nat.le_of_ble_eq_true rfl) (by decide) (t_X6_isSpoilt l E o i1 ho M3 qx10) ?_
          refine ex_if_eq 50 dX6_endDay_37 (by decide) (fun c11 => ?_) (fun c11 => ?_)
          · rw [if_pos c11] at hb
            refine ex_iinc 1 (L2 := [some (.ref o), some (.int a1), some (.int (i1 + 1)), some (.int (M (o + 9) 3)), some (.int i2)]) dX6_endDay_50 rfl kI_1 (by decide) rfl ?_
            refine ex_iinc 1 (L2 := [some (.ref o), some (.int a1), some (.int (i1 + 1)), some (.int (M (o + 9) 3)), some (.int (i2 + 1))]) dX6_endDay_53 rfl kI_1 (by decide) rfl ?_
            refine ex_goto 13 dX6_endDay_56 (by decide) ?_
            refine ex_mskL [true, true, true, true, true] (L2 := [some (.ref o), some (.int a1), some (.int (i1 + 1)), some (.int (M (o + 9) 3)), some (.int (i2 + 1))]) rfl ?_
            cases hb
            exact hk ((i1 + 1), (i2 + 1), M9) rfl
          · rw [if_neg c11] at hb
            refine ex_aload_n dX6_endDay_40 rfl ?_
            refine ex_iload_n dX6_endDay_41 rfl ?_
            refine ex_bipush 6 dX6_endDay_42 kB_6 ?_
            obtain ⟨M12, qM12, hb⟩ := b1E hb
            refine mx_cVv [.int i1, .int 6] [] o 6 dX6_endDay_44 cl_X6_173 im_X6_lose cy_X6_lose ho rfl (Nat.le_of_ble_eq_true rfl) (by decide) (t_X6_lose l E o i1 6 ho M9 qM12) ?_
            refine ex_goto 53 dX6_endDay_47 (by decide) ?_
            refine ex_iinc 1 (L2 := [some (.ref o), some (.int a1), some (.int i1), some (.int (M (o + 9) 3)), some (.int (i2 + 1))]) dX6_endDay_53 rfl kI_1 (by decide) rfl ?_
            refine ex_goto 13 dX6_endDay_56 (by decide) ?_
            refine ex_mskL [true, true, true, true, true] (L2 := [some (.ref o), some (.int a1), some (.int i1), some (.int (M (o + 9) 3)), some (.int (i2 + 1))]) rfl ?_
            cases hb
            exact hk (i1, (i2 + 1), M12) rfl)
  exact key FU (0, 0, M) hlq13
def w_X6_metSet_4 (o : Nat) (M : Mem) (i1 : Int32) (i2 : Int32) : Option ((Int32 × Int32) ⊕ (Int32)) :=
  if (M (o + 5) 3) ≤ i2 then (some (.inr i1)) else (b1 (f_X8_at (o + 5) i2 4 M) fun x4 => if x4 = 1 then (lt (i1 ||| (1 <<< (i2 &&& 31))) fun x6 => some (.inl (x6, (i2 + 1)))) else (some (.inl (i1, (i2 + 1)))))
def f_X6_metSet (o : Nat) (M : Mem) : Option (Int32) :=
  b1 (lp (fun s => w_X6_metSet_4 o M s.1 s.2) FU (0, 0)) fun q7 => some q7
set_option maxRecDepth 100000 in
set_option maxHeartbeats 4000000 in
theorem t_X6_metSet (l : Launch) (E : EV) (o : Nat) (ho : oc o = some 6) (M : Mem) {r : Int32} (h : f_X6_metSet o M = some r) : RunM l E yX6_metSet cX6_metSet 3 (some .int) 2 [.ref o] M M (some (.int r)) := by
  refine RunM.of (by decide) (Nat.le_of_ble_eq_true rfl) ?_
  show XM l E (RX6, "metSet", cX6_metSet, 3) (some .int) 2 0 [some (.ref o), none, none] [] M M (some (.int r))
  unfold f_X6_metSet at h
  refine ex_iconst 0 dX6_metSet_0 kI_0 ?_
  refine ex_istore_n (L2 := [some (.ref o), some (.int 0), none]) dX6_metSet_1 (by decide) rfl ?_
  refine ex_iconst 0 dX6_metSet_2 kI_0 ?_
  refine ex_istore_n (L2 := [some (.ref o), some (.int 0), some (.int 0)]) dX6_metSet_3 (by decide) rfl ?_
  refine ex_mskL [true, true, true] (L2 := [some (.ref o), some (.int 0), some (.int 0)]) rfl ?_
  obtain ⟨q7, hlq7, h⟩ := b1E h
  have hx : XM l E (RX6, "metSet", cX6_metSet, 3) (some .int) 2 40 [none, some (.int q7), none] [] M M (some (.int r)) := by
    refine ex_iload_n dX6_metSet_40 rfl ?_
    cases h
    exact mx_reti .int dX6_metSet_41 ⟨rfl, rfl⟩
  clear h
  have key : ∀ (k : Nat) (s : Int32 × Int32), lp (fun s => w_X6_metSet_4 o M s.1 s.2) k s = some q7 → XM l E (RX6, "metSet", cX6_metSet, 3) (some .int) 2 4 [some (.ref o), some (.int s.1), some (.int s.2)] [] M M (some (.int r)) := lp_ind (P := fun (s : Int32 × Int32) => XM l E (RX6, "metSet", cX6_metSet, 3) (some .int) 2 4 [some (.ref o), some (.int s.1), some (.int s.2)] [] M M (some (.int r))) (fun s t hb hk he => by
    obtain ⟨i1, i2⟩ := s
    show XM l E (RX6, "metSet", cX6_metSet, 3) (some .int) 2 4 [some (.ref o), some (.int i1), some (.int i2)] [] M M (some (.int r))
    change w_X6_metSet_4 o M i1 i2 = some t at hb
    unfold w_X6_metSet_4 at hb
    refine ex_iload_n dX6_metSet_4 rfl ?_
    refine ex_aload_n dX6_metSet_5 rfl ?_
    refine mx_getr 6 (o + 5) dX6_metSet_6 fl_X6_23 ho (rf_6_2 ho) ?_
    refine mx_geti 8 dX6_metSet_9 fl_X6_116 (oc_6_2 ho) (isi_8_3 (oc_6_2 ho)) ?_
    refine ex_icmp_ge 40 dX6_metSet_12 (by decide) (fun c3 => ?_) (fun c3 => ?_)
    · rw [if_pos c3] at hb
      refine ex_mskL [false, true, false] (L2 := [none, some (.int i1), none]) rfl ?_
      cases hb
      cases (he _ rfl) <;> exact hx
    · rw [if_neg c3] at hb
      refine ex_aload_n dX6_metSet_15 rfl ?_
      refine mx_getr 6 (o + 5) dX6_metSet_16 fl_X6_23 ho (rf_6_2 ho) ?_
      refine ex_iload_n dX6_metSet_19 rfl ?_
      refine ex_iconst 4 dX6_metSet_20 kI_4 ?_
      obtain ⟨x4, qx4, hb⟩ := b1E hb
      refine mx_cVi [.int i2, .int 4] [] (o + 5) 8 x4 dX6_metSet_21 cl_X6_90 im_X8_at cy_X8_at (oc_6_2 ho) rfl (Nat.le_of_ble_eq_true rfl) (by decide) (t_X8_at l E (o + 5) i2 4 (oc_6_2 ho) M qx4) ?_
      refine ex_iconst 1 dX6_metSet_24 kI_1 ?_
      refine ex_icmp_ne 34 dX6_metSet_25 (by decide) (fun c5 => ?_) (fun c5 => ?_)
      · rw [if_neg c5] at hb
        refine ex_iinc 1 (L2 := [some (.ref o), some (.int i1), some (.int (i2 + 1))]) dX6_metSet_34 rfl kI_1 (by decide) rfl ?_
        refine ex_goto 4 dX6_metSet_37 (by decide) ?_
        refine ex_mskL [true, true, true] (L2 := [some (.ref o), some (.int i1), some (.int (i2 + 1))]) rfl ?_
        cases hb
        exact hk (i1, (i2 + 1)) rfl
      · rw [if_pos c5] at hb
        refine ex_iload_n dX6_metSet_28 rfl ?_
        refine ex_iconst 1 dX6_metSet_29 kI_1 ?_
        refine ex_iload_n dX6_metSet_30 rfl ?_
        refine ex_ishl dX6_metSet_31 ?_
        refine ex_ior dX6_metSet_32 ?_
        obtain ⟨x6, ex6, hb⟩ := ltE hb
        rw [← ex6]
        refine ex_istore_n (L2 := [some (.ref o), some (.int x6), some (.int i2)]) dX6_metSet_33 (by decide) rfl ?_
        refine ex_iinc 1 (L2 := [some (.ref o), some (.int x6), some (.int (i2 + 1))]) dX6_metSet_34 rfl kI_1 (by decide) rfl ?_
        refine ex_goto 4 dX6_metSet_37 (by decide) ?_
        refine ex_mskL [true, true, true] (L2 := [some (.ref o), some (.int x6), some (.int (i2 + 1))]) rfl ?_
        cases hb
        exact hk (x6, (i2 + 1)) rfl)
  exact key FU (0, 0) hlq7
def w_X6_putMetSet_2 (o : Nat) (a1 : Int32) (i1 : Int32) (M2 : Mem) : Option ((Int32 × Mem) ⊕ (Mem)) :=
  if (M2 (o + 5) 3) ≤ i1 then (some (.inr M2)) else (lt ((if (f_X10_isIn a1 i1) = 0 then 0 else 1) : Int32) fun x5 => b1 (f_X8_put (o + 5) i1 4 x5 M2) fun M6 => some (.inl ((i1 + 1), M6)))
def f_X6_putMetSet (o : Nat) (a1 : Int32) (M : Mem) : Option (Mem) :=
  b1 (lp (fun s => w_X6_putMetSet_2 o a1 s.1 s.2) FU (0, M)) fun q7 => some q7
set_option maxRecDepth 100000 in
set_option maxHeartbeats 4000000 in
theorem t_X6_putMetSet (l : Launch) (E : EV) (o : Nat) (a1 : Int32) (ho : oc o = some 6) (M : Mem) {M' : Mem} (h : f_X6_putMetSet o a1 M = some M') : RunM l E yX6_putMetSet cX6_putMetSet 3 none 2 [.ref o, .int a1] M M' none := by
  refine RunM.of (by decide) (Nat.le_of_ble_eq_true rfl) ?_
  show XM l E (RX6, "putMetSet", cX6_putMetSet, 3) none 2 0 [some (.ref o), some (.int a1), none] [] M M' none
  unfold f_X6_putMetSet at h
  refine ex_iconst 0 dX6_putMetSet_0 kI_0 ?_
  refine ex_istore_n (L2 := [some (.ref o), some (.int a1), some (.int 0)]) dX6_putMetSet_1 (by decide) rfl ?_
  refine ex_mskL [true, true, true] (L2 := [some (.ref o), some (.int a1), some (.int 0)]) rfl ?_
  obtain ⟨q7, hlq7, h⟩ := b1E h
  have hx : XM l E (RX6, "putMetSet", cX6_putMetSet, 3) none 2 41 [none, none, none] [] q7 M' none := by
    cases h
    exact mx_retv dX6_putMetSet_41 rfl
  clear h
  have key : ∀ (k : Nat) (s : Int32 × Mem), lp (fun s => w_X6_putMetSet_2 o a1 s.1 s.2) k s = some q7 → XM l E (RX6, "putMetSet", cX6_putMetSet, 3) none 2 2 [some (.ref o), some (.int a1), some (.int s.1)] [] s.2 M' none := lp_ind (P := fun (s : Int32 × Mem) => XM l E (RX6, "putMetSet", cX6_putMetSet, 3) none 2 2 [some (.ref o), some (.int a1), some (.int s.1)] [] s.2 M' none) (fun s t hb hk he => by
    obtain ⟨i1, M2⟩ := s
    show XM l E (RX6, "putMetSet", cX6_putMetSet, 3) none 2 2 [some (.ref o), some (.int a1), some (.int i1)] [] M2 M' none
    change w_X6_putMetSet_2 o a1 i1 M2 = some t at hb
    unfold w_X6_putMetSet_2 at hb
    refine ex_iload_n dX6_putMetSet_2 rfl ?_
    refine ex_aload_n dX6_putMetSet_3 rfl ?_
    refine mx_getr 6 (o + 5) dX6_putMetSet_4 fl_X6_23 ho (rf_6_2 ho) ?_
    refine mx_geti 8 dX6_putMetSet_7 fl_X6_116 (oc_6_2 ho) (isi_8_3 (oc_6_2 ho)) ?_
    refine ex_icmp_ge 41 dX6_putMetSet_10 (by decide) (fun c3 => ?_) (fun c3 => ?_)
    · rw [if_pos c3] at hb
      refine ex_mskL [false, false, false] (L2 := [none, none, none]) rfl ?_
      cases hb
      cases (he _ rfl) <;> exact hx
    · rw [if_neg c3] at hb
      refine ex_aload_n dX6_putMetSet_13 rfl ?_
      refine mx_getr 6 (o + 5) dX6_putMetSet_14 fl_X6_23 ho (rf_6_2 ho) ?_
      refine ex_iload_n dX6_putMetSet_17 rfl ?_
      refine ex_iconst 4 dX6_putMetSet_18 kI_4 ?_
      refine ex_iload_n dX6_putMetSet_19 rfl ?_
      refine ex_iload_n dX6_putMetSet_20 rfl ?_
      refine mx_cSi [.int a1, .int i1] [.int 4, .int i1, .ref (o + 5)] (f_X10_isIn a1 i1) dX6_putMetSet_21 cl_X6_158 sm_X10_isIn rfl (Nat.le_of_ble_eq_true rfl) (by decide) (t_X10_isIn l E a1 i1 M2 rfl) ?_
      obtain ⟨x5, ex5, hb⟩ := ltE hb
      have Jx5 : XM l E (RX6, "putMetSet", cX6_putMetSet, 3) none 2 32 [some (.ref o), some (.int a1), some (.int i1)] [.int x5, .int 4, .int i1, .ref (o + 5)] M2 M' none := by
        obtain ⟨M6, qM6, hb⟩ := b1E hb
        refine mx_cVv [.int i1, .int 4, .int x5] [] (o + 5) 8 dX6_putMetSet_32 cl_X6_129 im_X8_put cy_X8_put (oc_6_2 ho) rfl (Nat.le_of_ble_eq_true rfl) (by decide) (t_X8_put l E (o + 5) i1 4 x5 (oc_6_2 ho) M2 qM6) ?_
        refine ex_iinc 1 (L2 := [some (.ref o), some (.int a1), some (.int (i1 + 1))]) dX6_putMetSet_35 rfl kI_1 (by decide) rfl ?_
        refine ex_goto 2 dX6_putMetSet_38 (by decide) ?_
        refine ex_mskL [true, true, true] (L2 := [some (.ref o), some (.int a1), some (.int (i1 + 1))]) rfl ?_
        cases hb
        exact hk ((i1 + 1), M6) rfl
      clear hb
      refine ex_if_eq 31 dX6_putMetSet_24 (by decide) (fun c4 => ?_) (fun c4 => ?_)
      · rw [if_pos c4] at ex5
        refine ex_iconst 0 dX6_putMetSet_31 kI_0 ?_
        subst ex5
        exact Jx5
      · rw [if_neg c4] at ex5
        refine ex_iconst 1 dX6_putMetSet_27 kI_1 ?_
        refine ex_goto 32 dX6_putMetSet_28 (by decide) ?_
        subst ex5
        exact Jx5)
  exact key FU (0, M) hlq7
def w_X6_guestsLeavingMost_12 (o : Nat) (a1 : Int32) (i3 : Int32) (i4 : Int32) (i5 : Int32) (M6 : Mem) : Option ((Int32 × Int32 × Int32 × Mem) ⊕ (Int32 × Mem)) :=
  if 20 < i5 then (some (.inr (i3, M6))) else (b2 (f_X6_leftByFeast o a1 i5 M6) fun M8 x9 => if x9 ≤ i4 then (some (.inl (i3, i4, (i5 + 1), M8))) else (some (.inl (i5, x9, (i5 + 1), M8))))
def f_X6_guestsLeavingMost (o : Nat) (a1 : Int32) (M : Mem) : Option (Mem × Int32) :=
  b2 (f_X6_leftByFeast o a1 1 M) fun M1 x2 => b1 (lp (fun s => w_X6_guestsLeavingMost_12 o a1 s.1 s.2.1 s.2.2.1 s.2.2.2) FU (1, x2, 2, M1)) fun q11 => some (q11.2, q11.1)
set_option maxRecDepth 100000 in
set_option maxHeartbeats 4000000 in
theorem t_X6_guestsLeavingMost (l : Launch) (E : EV) (o : Nat) (a1 : Int32) (ho : oc o = some 6) (M : Mem) {M' : Mem} {r : Int32} (h : f_X6_guestsLeavingMost o a1 M = some (M', r)) : RunM l E yX6_guestsLeavingMost cX6_guestsLeavingMost 6 (some .int) 4 [.ref o, .int a1] M M' (some (.int r)) := by
  refine RunM.of (by decide) (Nat.le_of_ble_eq_true rfl) ?_
  show XM l E (RX6, "guestsLeavingMost", cX6_guestsLeavingMost, 6) (some .int) 4 0 [some (.ref o), some (.int a1), none, none, none, none] [] M M' (some (.int r))
  unfold f_X6_guestsLeavingMost at h
  refine ex_iconst 1 dX6_guestsLeavingMost_0 kI_1 ?_
  refine ex_istore_n (L2 := [some (.ref o), some (.int a1), some (.int 1), none, none, none]) dX6_guestsLeavingMost_1 (by decide) rfl ?_
  refine ex_aload_n dX6_guestsLeavingMost_2 rfl ?_
  refine ex_iload_n dX6_guestsLeavingMost_3 rfl ?_
  refine ex_iconst 1 dX6_guestsLeavingMost_4 kI_1 ?_
  obtain ⟨M1, x2, qx2, h⟩ := b2E h
  refine mx_cVi [.int a1, .int 1] [] o 6 x2 dX6_guestsLeavingMost_5 cl_X6_119 im_X6_leftByFeast cy_X6_leftByFeast ho rfl (Nat.le_of_ble_eq_true rfl) (by decide) (t_X6_leftByFeast l E o a1 1 ho M qx2) ?_
  refine ex_istore_n (L2 := [some (.ref o), some (.int a1), some (.int 1), some (.int x2), none, none]) dX6_guestsLeavingMost_8 (by decide) rfl ?_
  refine ex_iconst 2 dX6_guestsLeavingMost_9 kI_2 ?_
  refine ex_istore (L2 := [some (.ref o), some (.int a1), some (.int 1), some (.int x2), some (.int 2), none]) dX6_guestsLeavingMost_10 (by decide) rfl ?_
  refine ex_mskL [true, true, true, true, true, false] (L2 := [some (.ref o), some (.int a1), some (.int 1), some (.int x2), some (.int 2), none]) rfl ?_
  obtain ⟨q11, hlq11, h⟩ := b1E h
  obtain ⟨y12, M13⟩ := q11
  dsimp only at h
  have hx : XM l E (RX6, "guestsLeavingMost", cX6_guestsLeavingMost, 6) (some .int) 4 46 [none, none, some (.int y12), none, none, none] [] M13 M' (some (.int r)) := by
    refine ex_iload_n dX6_guestsLeavingMost_46 rfl ?_
    cases h
    exact mx_reti .int dX6_guestsLeavingMost_47 ⟨rfl, rfl⟩
  clear h
  have key : ∀ (k : Nat) (s : Int32 × Int32 × Int32 × Mem), lp (fun s => w_X6_guestsLeavingMost_12 o a1 s.1 s.2.1 s.2.2.1 s.2.2.2) k s = some (y12, M13) → XM l E (RX6, "guestsLeavingMost", cX6_guestsLeavingMost, 6) (some .int) 4 12 [some (.ref o), some (.int a1), some (.int s.1), some (.int s.2.1), some (.int s.2.2.1), none] [] s.2.2.2 M' (some (.int r)) := lp_ind (P := fun (s : Int32 × Int32 × Int32 × Mem) => XM l E (RX6, "guestsLeavingMost", cX6_guestsLeavingMost, 6) (some .int) 4 12 [some (.ref o), some (.int a1), some (.int s.1), some (.int s.2.1), some (.int s.2.2.1), none] [] s.2.2.2 M' (some (.int r))) (fun s t hb hk he => by
    obtain ⟨i3, i4, i5, M6⟩ := s
    show XM l E (RX6, "guestsLeavingMost", cX6_guestsLeavingMost, 6) (some .int) 4 12 [some (.ref o), some (.int a1), some (.int i3), some (.int i4), some (.int i5), none] [] M6 M' (some (.int r))
    change w_X6_guestsLeavingMost_12 o a1 i3 i4 i5 M6 = some t at hb
    unfold w_X6_guestsLeavingMost_12 at hb
    refine ex_iload dX6_guestsLeavingMost_12 rfl ?_
    refine ex_bipush 20 dX6_guestsLeavingMost_14 kB_20 ?_
    refine ex_icmp_gt 46 dX6_guestsLeavingMost_16 (by decide) (fun c7 => ?_) (fun c7 => ?_)
    · rw [if_pos c7] at hb
      refine ex_mskL [false, false, true, false, false, false] (L2 := [none, none, some (.int i3), none, none, none]) rfl ?_
      cases hb
      cases (he _ rfl) <;> exact hx
    · rw [if_neg c7] at hb
      refine ex_aload_n dX6_guestsLeavingMost_19 rfl ?_
      refine ex_iload_n dX6_guestsLeavingMost_20 rfl ?_
      refine ex_iload dX6_guestsLeavingMost_21 rfl ?_
      obtain ⟨M8, x9, qx9, hb⟩ := b2E hb
      refine mx_cVi [.int a1, .int i5] [] o 6 x9 dX6_guestsLeavingMost_23 cl_X6_119 im_X6_leftByFeast cy_X6_leftByFeast ho rfl (Nat.le_of_ble_eq_true rfl) (by decide) (t_X6_leftByFeast l E o a1 i5 ho M6 qx9) ?_
      refine ex_istore (L2 := [some (.ref o), some (.int a1), some (.int i3), some (.int i4), some (.int i5), some (.int x9)]) dX6_guestsLeavingMost_26 (by decide) rfl ?_
      refine ex_iload dX6_guestsLeavingMost_28 rfl ?_
      refine ex_iload_n dX6_guestsLeavingMost_30 rfl ?_
      refine ex_icmp_le 40 dX6_guestsLeavingMost_31 (by decide) (fun c10 => ?_) (fun c10 => ?_)
      · rw [if_pos c10] at hb
        refine ex_iinc 1 (L2 := [some (.ref o), some (.int a1), some (.int i3), some (.int i4), some (.int (i5 + 1)), some (.int x9)]) dX6_guestsLeavingMost_40 rfl kI_1 (by decide) rfl ?_
        refine ex_goto 12 dX6_guestsLeavingMost_43 (by decide) ?_
        refine ex_mskL [true, true, true, true, true, false] (L2 := [some (.ref o), some (.int a1), some (.int i3), some (.int i4), some (.int (i5 + 1)), none]) rfl ?_
        cases hb
        exact hk (i3, i4, (i5 + 1), M8) rfl
      · rw [if_neg c10] at hb
        refine ex_iload dX6_guestsLeavingMost_34 rfl ?_
        refine ex_istore_n (L2 := [some (.ref o), some (.int a1), some (.int i3), some (.int x9), some (.int i5), some (.int x9)]) dX6_guestsLeavingMost_36 (by decide) rfl ?_
        refine ex_iload dX6_guestsLeavingMost_37 rfl ?_
        refine ex_istore_n (L2 := [some (.ref o), some (.int a1), some (.int i5), some (.int x9), some (.int i5), some (.int x9)]) dX6_guestsLeavingMost_39 (by decide) rfl ?_
        refine ex_iinc 1 (L2 := [some (.ref o), some (.int a1), some (.int i5), some (.int x9), some (.int (i5 + 1)), some (.int x9)]) dX6_guestsLeavingMost_40 rfl kI_1 (by decide) rfl ?_
        refine ex_goto 12 dX6_guestsLeavingMost_43 (by decide) ?_
        refine ex_mskL [true, true, true, true, true, false] (L2 := [some (.ref o), some (.int a1), some (.int i5), some (.int x9), some (.int (i5 + 1)), none]) rfl ?_
        cases hb
        exact hk (i5, x9, (i5 + 1), M8) rfl)
  exact key FU (1, x2, 2, M1) hlq11
def w_X6_feastsLeaving_4 (o : Nat) (a1 : Int32) (i1 : Int32) (i2 : Int32) (M3 : Mem) : Option ((Int32 × Int32 × Mem) ⊕ (Int32 × Mem)) :=
  if (M3 (o + 3) 3) ≤ i2 then (some (.inr (i1, M3))) else (b1 (f_X8_at (o + 3) i2 1 M3) fun x5 => b1 (f_X8_at (o + 3) i2 2 M3) fun x6 => b2 (f_X6_leftByFeast o x5 x6 M3) fun M7 x8 => if x8 = a1 then (lt (i1 ||| (1 <<< (i2 &&& 31))) fun x10 => some (.inl (x10, (i2 + 1), M7))) else (some (.inl (i1, (i2 + 1), M7))))
def f_X6_feastsLeaving (o : Nat) (a1 : Int32) (M : Mem) : Option (Mem × Int32) :=
  b1 (lp (fun s => w_X6_feastsLeaving_4 o a1 s.1 s.2.1 s.2.2) FU (0, 0, M)) fun q11 => some (q11.2, q11.1)
set_option maxRecDepth 100000 in
set_option maxHeartbeats 4000000 in
theorem t_X6_feastsLeaving (l : Launch) (E : EV) (o : Nat) (a1 : Int32) (ho : oc o = some 6) (M : Mem) {M' : Mem} {r : Int32} (h : f_X6_feastsLeaving o a1 M = some (M', r)) : RunM l E yX6_feastsLeaving cX6_feastsLeaving 4 (some .int) 4 [.ref o, .int a1] M M' (some (.int r)) := by
  refine RunM.of (by decide) (Nat.le_of_ble_eq_true rfl) ?_
  show XM l E (RX6, "feastsLeaving", cX6_feastsLeaving, 4) (some .int) 4 0 [some (.ref o), some (.int a1), none, none] [] M M' (some (.int r))
  unfold f_X6_feastsLeaving at h
  refine ex_iconst 0 dX6_feastsLeaving_0 kI_0 ?_
  refine ex_istore_n (L2 := [some (.ref o), some (.int a1), some (.int 0), none]) dX6_feastsLeaving_1 (by decide) rfl ?_
  refine ex_iconst 0 dX6_feastsLeaving_2 kI_0 ?_
  refine ex_istore_n (L2 := [some (.ref o), some (.int a1), some (.int 0), some (.int 0)]) dX6_feastsLeaving_3 (by decide) rfl ?_
  refine ex_mskL [true, true, true, true] (L2 := [some (.ref o), some (.int a1), some (.int 0), some (.int 0)]) rfl ?_
  obtain ⟨q11, hlq11, h⟩ := b1E h
  obtain ⟨y12, M13⟩ := q11
  dsimp only at h
  have hx : XM l E (RX6, "feastsLeaving", cX6_feastsLeaving, 4) (some .int) 4 53 [none, none, some (.int y12), none] [] M13 M' (some (.int r)) := by
    refine ex_iload_n dX6_feastsLeaving_53 rfl ?_
    cases h
    exact mx_reti .int dX6_feastsLeaving_54 ⟨rfl, rfl⟩
  clear h
  have key : ∀ (k : Nat) (s : Int32 × Int32 × Mem), lp (fun s => w_X6_feastsLeaving_4 o a1 s.1 s.2.1 s.2.2) k s = some (y12, M13) → XM l E (RX6, "feastsLeaving", cX6_feastsLeaving, 4) (some .int) 4 4 [some (.ref o), some (.int a1), some (.int s.1), some (.int s.2.1)] [] s.2.2 M' (some (.int r)) := lp_ind (P := fun (s : Int32 × Int32 × Mem) => XM l E (RX6, "feastsLeaving", cX6_feastsLeaving, 4) (some .int) 4 4 [some (.ref o), some (.int a1), some (.int s.1), some (.int s.2.1)] [] s.2.2 M' (some (.int r))) (fun s t hb hk he => by
    obtain ⟨i1, i2, M3⟩ := s
    show XM l E (RX6, "feastsLeaving", cX6_feastsLeaving, 4) (some .int) 4 4 [some (.ref o), some (.int a1), some (.int i1), some (.int i2)] [] M3 M' (some (.int r))
    change w_X6_feastsLeaving_4 o a1 i1 i2 M3 = some t at hb
    unfold w_X6_feastsLeaving_4 at hb
    refine ex_iload_n dX6_feastsLeaving_4 rfl ?_
    refine ex_aload_n dX6_feastsLeaving_5 rfl ?_
    refine mx_getr 6 (o + 3) dX6_feastsLeaving_6 fl_X6_20 ho (rf_6_1 ho) ?_
    refine mx_geti 8 dX6_feastsLeaving_9 fl_X6_116 (oc_6_1 ho) (isi_8_3 (oc_6_1 ho)) ?_
    refine ex_icmp_ge 53 dX6_feastsLeaving_12 (by decide) (fun c4 => ?_) (fun c4 => ?_)
    · rw [if_pos c4] at hb
      refine ex_mskL [false, false, true, false] (L2 := [none, none, some (.int i1), none]) rfl ?_
      cases hb
      cases (he _ rfl) <;> exact hx
    · rw [if_neg c4] at hb
      refine ex_aload_n dX6_feastsLeaving_15 rfl ?_
      refine ex_aload_n dX6_feastsLeaving_16 rfl ?_
      refine mx_getr 6 (o + 3) dX6_feastsLeaving_17 fl_X6_20 ho (rf_6_1 ho) ?_
      refine ex_iload_n dX6_feastsLeaving_20 rfl ?_
      refine ex_iconst 1 dX6_feastsLeaving_21 kI_1 ?_
      obtain ⟨x5, qx5, hb⟩ := b1E hb
      refine mx_cVi [.int i2, .int 1] [.ref o] (o + 3) 8 x5 dX6_feastsLeaving_22 cl_X6_90 im_X8_at cy_X8_at (oc_6_1 ho) rfl (Nat.le_of_ble_eq_true rfl) (by decide) (t_X8_at l E (o + 3) i2 1 (oc_6_1 ho) M3 qx5) ?_
      refine ex_aload_n dX6_feastsLeaving_25 rfl ?_
      refine mx_getr 6 (o + 3) dX6_feastsLeaving_26 fl_X6_20 ho (rf_6_1 ho) ?_
      refine ex_iload_n dX6_feastsLeaving_29 rfl ?_
      refine ex_iconst 2 dX6_feastsLeaving_30 kI_2 ?_
      obtain ⟨x6, qx6, hb⟩ := b1E hb
      refine mx_cVi [.int i2, .int 2] [.int x5, .ref o] (o + 3) 8 x6 dX6_feastsLeaving_31 cl_X6_90 im_X8_at cy_X8_at (oc_6_1 ho) rfl (Nat.le_of_ble_eq_true rfl) (by decide) (t_X8_at l E (o + 3) i2 2 (oc_6_1 ho) M3 qx6) ?_
      obtain ⟨M7, x8, qx8, hb⟩ := b2E hb
      refine mx_cVi [.int x5, .int x6] [] o 6 x8 dX6_feastsLeaving_34 cl_X6_119 im_X6_leftByFeast cy_X6_leftByFeast ho rfl (Nat.le_of_ble_eq_true rfl) (by decide) (t_X6_leftByFeast l E o x5 x6 ho M3 qx8) ?_
      refine ex_iload_n dX6_feastsLeaving_37 rfl ?_
      refine ex_icmp_ne 47 dX6_feastsLeaving_38 (by decide) (fun c9 => ?_) (fun c9 => ?_)
      · rw [if_neg c9] at hb
        refine ex_iinc 1 (L2 := [some (.ref o), some (.int a1), some (.int i1), some (.int (i2 + 1))]) dX6_feastsLeaving_47 rfl kI_1 (by decide) rfl ?_
        refine ex_goto 4 dX6_feastsLeaving_50 (by decide) ?_
        refine ex_mskL [true, true, true, true] (L2 := [some (.ref o), some (.int a1), some (.int i1), some (.int (i2 + 1))]) rfl ?_
        cases hb
        exact hk (i1, (i2 + 1), M7) rfl
      · rw [if_pos c9] at hb
        refine ex_iload_n dX6_feastsLeaving_41 rfl ?_
        refine ex_iconst 1 dX6_feastsLeaving_42 kI_1 ?_
        refine ex_iload_n dX6_feastsLeaving_43 rfl ?_
        refine ex_ishl dX6_feastsLeaving_44 ?_
        refine ex_ior dX6_feastsLeaving_45 ?_
        obtain ⟨x10, ex10, hb⟩ := ltE hb
        rw [← ex10]
        refine ex_istore_n (L2 := [some (.ref o), some (.int a1), some (.int x10), some (.int i2)]) dX6_feastsLeaving_46 (by decide) rfl ?_
        refine ex_iinc 1 (L2 := [some (.ref o), some (.int a1), some (.int x10), some (.int (i2 + 1))]) dX6_feastsLeaving_47 rfl kI_1 (by decide) rfl ?_
        refine ex_goto 4 dX6_feastsLeaving_50 (by decide) ?_
        refine ex_mskL [true, true, true, true] (L2 := [some (.ref o), some (.int a1), some (.int x10), some (.int (i2 + 1))]) rfl ?_
        cases hb
        exact hk (x10, (i2 + 1), M7) rfl)
  exact key FU (0, 0, M) hlq11
def w_X6_feastsOfKind_5 (o : Nat) (a1 : Int32) (a2 : Int32) (M : Mem) (i1 : Int32) (i2 : Int32) : Option ((Int32 × Int32) ⊕ (Int32)) :=
  if (M (o + 3) 3) ≤ i2 then (some (.inr i1)) else (if (f_X10_isIn a1 i2) = 0 then (some (.inl (i1, (i2 + 1)))) else (b1 (f_X8_at (o + 3) i2 1 M) fun x5 => if x5 = a2 then (some (.inl ((i1 + 1), (i2 + 1)))) else (some (.inl (i1, (i2 + 1))))))
def f_X6_feastsOfKind (o : Nat) (a1 : Int32) (a2 : Int32) (M : Mem) : Option (Int32) :=
  b1 (lp (fun s => w_X6_feastsOfKind_5 o a1 a2 M s.1 s.2) FU (0, 0)) fun q7 => some q7
set_option maxRecDepth 100000 in
set_option maxHeartbeats 4000000 in
theorem t_X6_feastsOfKind (l : Launch) (E : EV) (o : Nat) (a1 : Int32) (a2 : Int32) (ho : oc o = some 6) (M : Mem) {r : Int32} (h : f_X6_feastsOfKind o a1 a2 M = some r) : RunM l E yX6_feastsOfKind cX6_feastsOfKind 5 (some .int) 2 [.ref o, .int a1, .int a2] M M (some (.int r)) := by
  refine RunM.of (by decide) (Nat.le_of_ble_eq_true rfl) ?_
  show XM l E (RX6, "feastsOfKind", cX6_feastsOfKind, 5) (some .int) 2 0 [some (.ref o), some (.int a1), some (.int a2), none, none] [] M M (some (.int r))
  unfold f_X6_feastsOfKind at h
  refine ex_iconst 0 dX6_feastsOfKind_0 kI_0 ?_
  refine ex_istore_n (L2 := [some (.ref o), some (.int a1), some (.int a2), some (.int 0), none]) dX6_feastsOfKind_1 (by decide) rfl ?_
  refine ex_iconst 0 dX6_feastsOfKind_2 kI_0 ?_
  refine ex_istore (L2 := [some (.ref o), some (.int a1), some (.int a2), some (.int 0), some (.int 0)]) dX6_feastsOfKind_3 (by decide) rfl ?_
  refine ex_mskL [true, true, true, true, true] (L2 := [some (.ref o), some (.int a1), some (.int a2), some (.int 0), some (.int 0)]) rfl ?_
  obtain ⟨q7, hlq7, h⟩ := b1E h
  have hx : XM l E (RX6, "feastsOfKind", cX6_feastsOfKind, 5) (some .int) 2 49 [none, none, none, some (.int q7), none] [] M M (some (.int r)) := by
    refine ex_iload_n dX6_feastsOfKind_49 rfl ?_
    cases h
    exact mx_reti .int dX6_feastsOfKind_50 ⟨rfl, rfl⟩
  clear h
  have key : ∀ (k : Nat) (s : Int32 × Int32), lp (fun s => w_X6_feastsOfKind_5 o a1 a2 M s.1 s.2) k s = some q7 → XM l E (RX6, "feastsOfKind", cX6_feastsOfKind, 5) (some .int) 2 5 [some (.ref o), some (.int a1), some (.int a2), some (.int s.1), some (.int s.2)] [] M M (some (.int r)) := lp_ind (P := fun (s : Int32 × Int32) => XM l E (RX6, "feastsOfKind", cX6_feastsOfKind, 5) (some .int) 2 5 [some (.ref o), some (.int a1), some (.int a2), some (.int s.1), some (.int s.2)] [] M M (some (.int r))) (fun s t hb hk he => by
    obtain ⟨i1, i2⟩ := s
    show XM l E (RX6, "feastsOfKind", cX6_feastsOfKind, 5) (some .int) 2 5 [some (.ref o), some (.int a1), some (.int a2), some (.int i1), some (.int i2)] [] M M (some (.int r))
    change w_X6_feastsOfKind_5 o a1 a2 M i1 i2 = some t at hb
    unfold w_X6_feastsOfKind_5 at hb
    refine ex_iload dX6_feastsOfKind_5 rfl ?_
    refine ex_aload_n dX6_feastsOfKind_7 rfl ?_
    refine mx_getr 6 (o + 3) dX6_feastsOfKind_8 fl_X6_20 ho (rf_6_1 ho) ?_
    refine mx_geti 8 dX6_feastsOfKind_11 fl_X6_116 (oc_6_1 ho) (isi_8_3 (oc_6_1 ho)) ?_
    refine ex_icmp_ge 49 dX6_feastsOfKind_14 (by decide) (fun c3 => ?_) (fun c3 => ?_)
    · rw [if_pos c3] at hb
      refine ex_mskL [false, false, false, true, false] (L2 := [none, none, none, some (.int i1), none]) rfl ?_
      cases hb
      cases (he _ rfl) <;> exact hx
    · rw [if_neg c3] at hb
      refine ex_iload_n dX6_feastsOfKind_17 rfl ?_
      refine ex_iload dX6_feastsOfKind_18 rfl ?_
      refine mx_cSi [.int a1, .int i2] [] (f_X10_isIn a1 i2) dX6_feastsOfKind_20 cl_X6_158 sm_X10_isIn rfl (Nat.le_of_ble_eq_true rfl) (by decide) (t_X10_isIn l E a1 i2 M rfl) ?_
      refine ex_if_eq 43 dX6_feastsOfKind_23 (by decide) (fun c4 => ?_) (fun c4 => ?_)
      · rw [if_pos c4] at hb
        refine ex_iinc 1 (L2 := [some (.ref o), some (.int a1), some (.int a2), some (.int i1), some (.int (i2 + 1))]) dX6_feastsOfKind_43 rfl kI_1 (by decide) rfl ?_
        refine ex_goto 5 dX6_feastsOfKind_46 (by decide) ?_
        refine ex_mskL [true, true, true, true, true] (L2 := [some (.ref o), some (.int a1), some (.int a2), some (.int i1), some (.int (i2 + 1))]) rfl ?_
        cases hb
        exact hk (i1, (i2 + 1)) rfl
      · rw [if_neg c4] at hb
        refine ex_aload_n dX6_feastsOfKind_26 rfl ?_
        refine mx_getr 6 (o + 3) dX6_feastsOfKind_27 fl_X6_20 ho (rf_6_1 ho) ?_
        refine ex_iload dX6_feastsOfKind_30 rfl ?_
        refine ex_iconst 1 dX6_feastsOfKind_32 kI_1 ?_
        obtain ⟨x5, qx5, hb⟩ := b1E hb
        refine mx_cVi [.int i2, .int 1] [] (o + 3) 8 x5 dX6_feastsOfKind_33 cl_X6_90 im_X8_at cy_X8_at (oc_6_1 ho) rfl (Nat.le_of_ble_eq_true rfl) (by decide) (t_X8_at l E (o + 3) i2 1 (oc_6_1 ho) M qx5) ?_
        refine ex_iload_n dX6_feastsOfKind_36 rfl ?_
        refine ex_icmp_ne 43 dX6_feastsOfKind_37 (by decide) (fun c6 => ?_) (fun c6 => ?_)
        · rw [if_neg c6] at hb
          refine ex_iinc 1 (L2 := [some (.ref o), some (.int a1), some (.int a2), some (.int i1), some (.int (i2 + 1))]) dX6_feastsOfKind_43 rfl kI_1 (by decide) rfl ?_
          refine ex_goto 5 dX6_feastsOfKind_46 (by decide) ?_
          refine ex_mskL [true, true, true, true, true] (L2 := [some (.ref o), some (.int a1), some (.int a2), some (.int i1), some (.int (i2 + 1))]) rfl ?_
          cases hb
          exact hk (i1, (i2 + 1)) rfl
        · rw [if_pos c6] at hb
          refine ex_iinc 1 (L2 := [some (.ref o), some (.int a1), some (.int a2), some (.int (i1 + 1)), some (.int i2)]) dX6_feastsOfKind_40 rfl kI_1 (by decide) rfl ?_
          refine ex_iinc 1 (L2 := [some (.ref o), some (.int a1), some (.int a2), some (.int (i1 + 1)), some (.int (i2 + 1))]) dX6_feastsOfKind_43 rfl kI_1 (by decide) rfl ?_
          refine ex_goto 5 dX6_feastsOfKind_46 (by decide) ?_
          refine ex_mskL [true, true, true, true, true] (L2 := [some (.ref o), some (.int a1), some (.int a2), some (.int (i1 + 1)), some (.int (i2 + 1))]) rfl ?_
          cases hb
          exact hk ((i1 + 1), (i2 + 1)) rfl)
  exact key FU (0, 0) hlq7
def w_X6_kindParting_22 (o : Nat) (a1 : Int32) (M : Mem) (i3 : Int32) (i4 : Int32) (i5 : Int32) : Option ((Int32 × Int32 × Int32) ⊕ (Int32)) :=
  if (M (o + 1) 3) ≤ i5 then (some (.inr i3)) else (b1 (f_X6_feastsOfKind o a1 i5 M) fun x7 => lt (f_J9_max_7cf53 x7 ((f_J6_bitCount_0f7a4 a1) - x7)) fun x8 => if i4 ≤ x8 then (some (.inl (i3, i4, (i5 + 1)))) else (some (.inl (i5, x8, (i5 + 1)))))
def f_X6_kindParting (o : Nat) (a1 : Int32) (M : Mem) : Option (Int32) :=
  if 2 ≤ (f_J6_bitCount_0f7a4 a1) then (lt ((f_J6_bitCount_0f7a4 a1) + 1) fun x2 => b1 (lp (fun s => w_X6_kindParting_22 o a1 M s.1 s.2.1 s.2.2) FU ((-1), x2, 0)) fun q10 => some q10) else (some (-1))
set_option maxRecDepth 100000 in
set_option maxHeartbeats 4000000 in
theorem t_X6_kindParting (l : Launch) (E : EV) (o : Nat) (a1 : Int32) (ho : oc o = some 6) (M : Mem) {r : Int32} (h : f_X6_kindParting o a1 M = some r) : RunM l E yX6_kindParting cX6_kindParting 8 (some .int) 3 [.ref o, .int a1] M M (some (.int r)) := by
  refine RunM.of (by decide) (Nat.le_of_ble_eq_true rfl) ?_
  show XM l E (RX6, "kindParting", cX6_kindParting, 8) (some .int) 3 0 [some (.ref o), some (.int a1), none, none, none, none, none, none] [] M M (some (.int r))
  unfold f_X6_kindParting at h
  refine ex_iload_n dX6_kindParting_0 rfl ?_
  refine mx_cSi [.int a1] [] (f_J6_bitCount_0f7a4 a1) dX6_kindParting_1 cl_X6_162 sm_J6_bitCount_0f7a4 rfl (Nat.le_of_ble_eq_true rfl) (by decide) (t_J6_bitCount_0f7a4 l E a1 M rfl) ?_
  refine ex_istore_n (L2 := [some (.ref o), some (.int a1), some (.int (f_J6_bitCount_0f7a4 a1)), none, none, none, none, none]) dX6_kindParting_4 (by decide) rfl ?_
  refine ex_iload_n dX6_kindParting_5 rfl ?_
  refine ex_iconst 2 dX6_kindParting_6 kI_2 ?_
  refine ex_icmp_ge 12 dX6_kindParting_7 (by decide) (fun c1 => ?_) (fun c1 => ?_)
  · rw [if_pos c1] at h
    refine ex_iconst (-1) dX6_kindParting_12 kI_m1 ?_
    refine ex_istore_n (L2 := [some (.ref o), some (.int a1), some (.int (f_J6_bitCount_0f7a4 a1)), some (.int (-1)), none, none, none, none]) dX6_kindParting_13 (by decide) rfl ?_
    refine ex_iload_n dX6_kindParting_14 rfl ?_
    refine ex_iconst 1 dX6_kindParting_15 kI_1 ?_
    refine ex_iadd dX6_kindParting_16 ?_
    obtain ⟨x2, ex2, h⟩ := ltE h
    rw [← ex2]
    refine ex_istore (L2 := [some (.ref o), some (.int a1), some (.int (f_J6_bitCount_0f7a4 a1)), some (.int (-1)), some (.int x2), none, none, none]) dX6_kindParting_17 (by decide) rfl ?_
    refine ex_iconst 0 dX6_kindParting_19 kI_0 ?_
    refine ex_istore (L2 := [some (.ref o), some (.int a1), some (.int (f_J6_bitCount_0f7a4 a1)), some (.int (-1)), some (.int x2), some (.int 0), none, none]) dX6_kindParting_20 (by decide) rfl ?_
    refine ex_mskL [true, true, true, true, true, true, false, false] (L2 := [some (.ref o), some (.int a1), some (.int (f_J6_bitCount_0f7a4 a1)), some (.int (-1)), some (.int x2), some (.int 0), none, none]) rfl ?_
    obtain ⟨q10, hlq10, h⟩ := b1E h
    have hx : XM l E (RX6, "kindParting", cX6_kindParting, 8) (some .int) 3 74 [none, none, none, some (.int q10), none, none, none, none] [] M M (some (.int r)) := by
      refine ex_iload_n dX6_kindParting_74 rfl ?_
      cases h
      exact mx_reti .int dX6_kindParting_75 ⟨rfl, rfl⟩
    clear h
    have key : ∀ (k : Nat) (s : Int32 × Int32 × Int32), lp (fun s => w_X6_kindParting_22 o a1 M s.1 s.2.1 s.2.2) k s = some q10 → XM l E (RX6, "kindParting", cX6_kindParting, 8) (some .int) 3 22 [some (.ref o), some (.int a1), some (.int (f_J6_bitCount_0f7a4 a1)), some (.int s.1), some (.int s.2.1), some (.int s.2.2), none, none] [] M M (some (.int r)) := lp_ind (P := fun (s : Int32 × Int32 × Int32) => XM l E (RX6, "kindParting", cX6_kindParting, 8) (some .int) 3 22 [some (.ref o), some (.int a1), some (.int (f_J6_bitCount_0f7a4 a1)), some (.int s.1), some (.int s.2.1), some (.int s.2.2), none, none] [] M M (some (.int r))) (fun s t hb hk he => by
      obtain ⟨i3, i4, i5⟩ := s
      show XM l E (RX6, "kindParting", cX6_kindParting, 8) (some .int) 3 22 [some (.ref o), some (.int a1), some (.int (f_J6_bitCount_0f7a4 a1)), some (.int i3), some (.int i4), some (.int i5), none, none] [] M M (some (.int r))
      change w_X6_kindParting_22 o a1 M i3 i4 i5 = some t at hb
      unfold w_X6_kindParting_22 at hb
      refine ex_iload dX6_kindParting_22 rfl ?_
      refine ex_aload_n dX6_kindParting_24 rfl ?_
      refine mx_getr 6 (o + 1) dX6_kindParting_25 fl_X6_14 ho (rf_6_0 ho) ?_
      refine mx_geti 8 dX6_kindParting_28 fl_X6_116 (oc_6_0 ho) (isi_8_3 (oc_6_0 ho)) ?_
      refine ex_icmp_ge 74 dX6_kindParting_31 (by decide) (fun c6 => ?_) (fun c6 => ?_)
      · rw [if_pos c6] at hb
        refine ex_mskL [false, false, false, true, false, false, false, false] (L2 := [none, none, none, some (.int i3), none, none, none, none]) rfl ?_
        cases hb
        cases (he _ rfl) <;> exact hx
      · rw [if_neg c6] at hb
        refine ex_aload_n dX6_kindParting_34 rfl ?_
        refine ex_iload_n dX6_kindParting_35 rfl ?_
        refine ex_iload dX6_kindParting_36 rfl ?_
        obtain ⟨x7, qx7, hb⟩ := b1E hb
        refine mx_cVi [.int a1, .int i5] [] o 6 x7 dX6_kindParting_38 cl_X6_190 im_X6_feastsOfKind cy_X6_feastsOfKind ho rfl (Nat.le_of_ble_eq_true rfl) (by decide) (t_X6_feastsOfKind l E o a1 i5 ho M qx7) ?_
        refine ex_istore (L2 := [some (.ref o), some (.int a1), some (.int (f_J6_bitCount_0f7a4 a1)), some (.int i3), some (.int i4), some (.int i5), some (.int x7), none]) dX6_kindParting_41 (by decide) rfl ?_
        refine ex_iload dX6_kindParting_43 rfl ?_
        refine ex_iload_n dX6_kindParting_45 rfl ?_
        refine ex_iload dX6_kindParting_46 rfl ?_
        refine ex_isub dX6_kindParting_48 ?_
        refine mx_max dX6_kindParting_49 (tb (i := 646) (by decide +kernel)) (by decide) (Nat.le_of_ble_eq_true rfl) ?_
        obtain ⟨x8, ex8, hb⟩ := ltE hb
        rw [← ex8]
        refine ex_istore (L2 := [some (.ref o), some (.int a1), some (.int (f_J6_bitCount_0f7a4 a1)), some (.int i3), some (.int i4), some (.int i5), some (.int x7), some (.int x8)]) dX6_kindParting_52 (by decide) rfl ?_
        refine ex_iload dX6_kindParting_54 rfl ?_
        refine ex_iload dX6_kindParting_56 rfl ?_
        refine ex_icmp_ge 68 dX6_kindParting_58 (by decide) (fun c9 => ?_) (fun c9 => ?_)
        · rw [if_pos c9] at hb
          refine ex_iinc 1 (L2 := [some (.ref o), some (.int a1), some (.int (f_J6_bitCount_0f7a4 a1)), some (.int i3), some (.int i4), some (.int (i5 + 1)), some (.int x7), some (.int x8)]) dX6_kindParting_68 rfl kI_1 (by decide) rfl ?_
          refine ex_goto 22 dX6_kindParting_71 (by decide) ?_
          refine ex_mskL [true, true, true, true, true, true, false, false] (L2 := [some (.ref o), some (.int a1), some (.int (f_J6_bitCount_0f7a4 a1)), some (.int i3), some (.int i4), some (.int (i5 + 1)), none, none]) rfl ?_
          cases hb
          exact hk (i3, i4, (i5 + 1)) rfl
        · rw [if_neg c9] at hb
          refine ex_iload dX6_kindParting_61 rfl ?_
          refine ex_istore (L2 := [some (.ref o), some (.int a1), some (.int (f_J6_bitCount_0f7a4 a1)), some (.int i3), some (.int x8), some (.int i5), some (.int x7), some (.int x8)]) dX6_kindParting_63 (by decide) rfl ?_
          refine ex_iload dX6_kindParting_65 rfl ?_
          refine ex_istore_n (L2 := [some (.ref o), some (.int a1), some (.int (f_J6_bitCount_0f7a4 a1)), some (.int i5), some (.int x8), some (.int i5), some (.int x7), some (.int x8)]) dX6_kindParting_67 (by decide) rfl ?_
          refine ex_iinc 1 (L2 := [some (.ref o), some (.int a1), some (.int (f_J6_bitCount_0f7a4 a1)), some (.int i5), some (.int x8), some (.int (i5 + 1)), some (.int x7), some (.int x8)]) dX6_kindParting_68 rfl kI_1 (by decide) rfl ?_
          refine ex_goto 22 dX6_kindParting_71 (by decide) ?_
          refine ex_mskL [true, true, true, true, true, true, false, false] (L2 := [some (.ref o), some (.int a1), some (.int (f_J6_bitCount_0f7a4 a1)), some (.int i5), some (.int x8), some (.int (i5 + 1)), none, none]) rfl ?_
          cases hb
          exact hk (i5, x8, (i5 + 1)) rfl)
    exact key FU ((-1), x2, 0) hlq10
  · rw [if_neg c1] at h
    refine ex_iconst (-1) dX6_kindParting_10 kI_m1 ?_
    cases h
    exact mx_reti .int dX6_kindParting_11 ⟨rfl, rfl⟩
def w_X6_bestWait_7 (o : Nat) (a1 : Int32) (i1 : Int32) (i2 : Int32) (i3 : Int32) (M4 : Mem) : Option ((Int32 × Int32 × Int32 × Mem) ⊕ (Int32 × Mem)) :=
  if 30 < i3 then (some (.inr (i1, M4))) else (b1 (f_X6_isTooOld o a1 i3 M4) fun x6 => if x6 = 0 then (b2 (f_X6_priceOf o a1 i3 M4) fun M8 x9 => if x9 ≤ i2 then (some (.inl (i1, i2, (i3 + 1), M8))) else (some (.inl (i3, x9, (i3 + 1), M8)))) else (some (.inr (i1, M4))))
def f_X6_bestWait (o : Nat) (a1 : Int32) (M : Mem) : Option (Mem × Int32) :=
  b1 (lp (fun s => w_X6_bestWait_7 o a1 s.1 s.2.1 s.2.2.1 s.2.2.2) FU (0, (-1), 0, M)) fun q11 => some (q11.2, q11.1)
set_option maxRecDepth 100000 in
set_option maxHeartbeats 4000000 in
theorem t_X6_bestWait (l : Launch) (E : EV) (o : Nat) (a1 : Int32) (ho : oc o = some 6) (M : Mem) {M' : Mem} {r : Int32} (h : f_X6_bestWait o a1 M = some (M', r)) : RunM l E yX6_bestWait cX6_bestWait 6 (some .int) 5 [.ref o, .int a1] M M' (some (.int r)) := by
  refine RunM.of (by decide) (Nat.le_of_ble_eq_true rfl) ?_
  show XM l E (RX6, "bestWait", cX6_bestWait, 6) (some .int) 5 0 [some (.ref o), some (.int a1), none, none, none, none] [] M M' (some (.int r))
  unfold f_X6_bestWait at h
  refine ex_iconst 0 dX6_bestWait_0 kI_0 ?_
  refine ex_istore_n (L2 := [some (.ref o), some (.int a1), some (.int 0), none, none, none]) dX6_bestWait_1 (by decide) rfl ?_
  refine ex_iconst (-1) dX6_bestWait_2 kI_m1 ?_
  refine ex_istore_n (L2 := [some (.ref o), some (.int a1), some (.int 0), some (.int (-1)), none, none]) dX6_bestWait_3 (by decide) rfl ?_
  refine ex_iconst 0 dX6_bestWait_4 kI_0 ?_
  refine ex_istore (L2 := [some (.ref o), some (.int a1), some (.int 0), some (.int (-1)), some (.int 0), none]) dX6_bestWait_5 (by decide) rfl ?_
  refine ex_mskL [true, true, true, true, true, false] (L2 := [some (.ref o), some (.int a1), some (.int 0), some (.int (-1)), some (.int 0), none]) rfl ?_
  obtain ⟨q11, hlq11, h⟩ := b1E h
  obtain ⟨y12, M13⟩ := q11
  dsimp only at h
  have hx : XM l E (RX6, "bestWait", cX6_bestWait, 6) (some .int) 5 51 [none, none, some (.int y12), none, none, none] [] M13 M' (some (.int r)) := by
    refine ex_iload_n dX6_bestWait_51 rfl ?_
    cases h
    exact mx_reti .int dX6_bestWait_52 ⟨rfl, rfl⟩
  clear h
  have key : ∀ (k : Nat) (s : Int32 × Int32 × Int32 × Mem), lp (fun s => w_X6_bestWait_7 o a1 s.1 s.2.1 s.2.2.1 s.2.2.2) k s = some (y12, M13) → XM l E (RX6, "bestWait", cX6_bestWait, 6) (some .int) 5 7 [some (.ref o), some (.int a1), some (.int s.1), some (.int s.2.1), some (.int s.2.2.1), none] [] s.2.2.2 M' (some (.int r)) := lp_ind (P := fun (s : Int32 × Int32 × Int32 × Mem) => XM l E (RX6, "bestWait", cX6_bestWait, 6) (some .int) 5 7 [some (.ref o), some (.int a1), some (.int s.1), some (.int s.2.1), some (.int s.2.2.1), none] [] s.2.2.2 M' (some (.int r))) (fun s t hb hk he => by
    obtain ⟨i1, i2, i3, M4⟩ := s
    show XM l E (RX6, "bestWait", cX6_bestWait, 6) (some .int) 5 7 [some (.ref o), some (.int a1), some (.int i1), some (.int i2), some (.int i3), none] [] M4 M' (some (.int r))
    change w_X6_bestWait_7 o a1 i1 i2 i3 M4 = some t at hb
    unfold w_X6_bestWait_7 at hb
    refine ex_iload dX6_bestWait_7 rfl ?_
    refine ex_bipush 30 dX6_bestWait_9 kB_30 ?_
    refine ex_icmp_gt 51 dX6_bestWait_11 (by decide) (fun c5 => ?_) (fun c5 => ?_)
    · rw [if_pos c5] at hb
      refine ex_mskL [false, false, true, false, false, false] (L2 := [none, none, some (.int i1), none, none, none]) rfl ?_
      cases hb
      cases (he _ rfl) <;> exact hx
    · rw [if_neg c5] at hb
      refine ex_aload_n dX6_bestWait_14 rfl ?_
      refine ex_iload_n dX6_bestWait_15 rfl ?_
      refine ex_iload dX6_bestWait_16 rfl ?_
      obtain ⟨x6, qx6, hb⟩ := b1E hb
      refine mx_cVi [.int a1, .int i3] [] o 6 x6 dX6_bestWait_18 cl_X6_167 im_X6_isTooOld cy_X6_isTooOld ho rfl (Nat.le_of_ble_eq_true rfl) (by decide) (t_X6_isTooOld l E o a1 i3 ho M4 qx6) ?_
      refine ex_if_ne 51 dX6_bestWait_21 (by decide) (fun c7 => ?_) (fun c7 => ?_)
      · rw [if_neg c7] at hb
        refine ex_mskL [false, false, true, false, false, false] (L2 := [none, none, some (.int i1), none, none, none]) rfl ?_
        cases hb
        cases (he _ rfl) <;> exact hx
      · rw [if_pos c7] at hb
        refine ex_aload_n dX6_bestWait_24 rfl ?_
        refine ex_iload_n dX6_bestWait_25 rfl ?_
        refine ex_iload dX6_bestWait_26 rfl ?_
        obtain ⟨M8, x9, qx9, hb⟩ := b2E hb
        refine mx_cVi [.int a1, .int i3] [] o 6 x9 dX6_bestWait_28 cl_X6_145 im_X6_priceOf cy_X6_priceOf ho rfl (Nat.le_of_ble_eq_true rfl) (by decide) (t_X6_priceOf l E o a1 i3 ho M4 qx9) ?_
        refine ex_istore (L2 := [some (.ref o), some (.int a1), some (.int i1), some (.int i2), some (.int i3), some (.int x9)]) dX6_bestWait_31 (by decide) rfl ?_
        refine ex_iload dX6_bestWait_33 rfl ?_
        refine ex_iload_n dX6_bestWait_35 rfl ?_
        refine ex_icmp_le 45 dX6_bestWait_36 (by decide) (fun c10 => ?_) (fun c10 => ?_)
        · rw [if_pos c10] at hb
          refine ex_iinc 1 (L2 := [some (.ref o), some (.int a1), some (.int i1), some (.int i2), some (.int (i3 + 1)), some (.int x9)]) dX6_bestWait_45 rfl kI_1 (by decide) rfl ?_
          refine ex_goto 7 dX6_bestWait_48 (by decide) ?_
          refine ex_mskL [true, true, true, true, true, false] (L2 := [some (.ref o), some (.int a1), some (.int i1), some (.int i2), some (.int (i3 + 1)), none]) rfl ?_
          cases hb
          exact hk (i1, i2, (i3 + 1), M8) rfl
        · rw [if_neg c10] at hb
          refine ex_iload dX6_bestWait_39 rfl ?_
          refine ex_istore_n (L2 := [some (.ref o), some (.int a1), some (.int i1), some (.int x9), some (.int i3), some (.int x9)]) dX6_bestWait_41 (by decide) rfl ?_
          refine ex_iload dX6_bestWait_42 rfl ?_
          refine ex_istore_n (L2 := [some (.ref o), some (.int a1), some (.int i3), some (.int x9), some (.int i3), some (.int x9)]) dX6_bestWait_44 (by decide) rfl ?_
          refine ex_iinc 1 (L2 := [some (.ref o), some (.int a1), some (.int i3), some (.int x9), some (.int (i3 + 1)), some (.int x9)]) dX6_bestWait_45 rfl kI_1 (by decide) rfl ?_
          refine ex_goto 7 dX6_bestWait_48 (by decide) ?_
          refine ex_mskL [true, true, true, true, true, false] (L2 := [some (.ref o), some (.int a1), some (.int i3), some (.int x9), some (.int (i3 + 1)), none]) rfl ?_
          cases hb
          exact hk (i3, x9, (i3 + 1), M8) rfl)
  exact key FU (0, (-1), 0, M) hlq11
def f_X7_forget (M : Mem) : (Mem) :=
  lt (up2 M 115 2 0) fun M1 => M1
set_option maxRecDepth 100000 in
set_option maxHeartbeats 4000000 in
theorem t_X7_forget (l : Launch) (E : EV) (M : Mem) {M' : Mem} (h : f_X7_forget M = M') : RunM l E yX7_forget cX7_forget 1 none 0 [.ref 115] M M' none := by
  refine RunM.of (by decide) (Nat.le_of_ble_eq_true rfl) ?_
  show XM l E (RX7, "forget", cX7_forget, 1) none 0 0 [some (.ref 115)] [] M M' none
  unfold f_X7_forget at h
  refine ex_aload_n dX7_forget_0 rfl ?_
  refine ex_iconst 0 dX7_forget_1 kI_0 ?_
  obtain ⟨M1, eM1, h⟩ := ltE h
  refine mx_puti 7 dX7_forget_2 fl_X7_25 rfl ⟨rfl, rfl⟩ oc_at_115 (isi_7_2 oc_at_115) ?_
  rw [← eM1]
  cases h
  exact mx_retv dX7_forget_5 rfl
def f_X7_keep (a1 : Nat) (M : Mem) : Option (Mem) :=
  if ((M 115 3) < 0 ∨ ¬ ((M 115 3) < 6)) then (lt (up2 M 115 3 0) fun M4 => b1 (rr 116 (M4 115 3)) fun r5 => b1 (f_X8_copyFrom r5 (a1 + 9) M4) fun M6 => b1 (rr 117 (M6 115 3)) fun r7 => b1 (wr M6 r7 0 (M6 a1 9)) fun M8 => b1 (wr M8 r7 1 (M8 a1 10)) fun M9 => b1 (wr M9 r7 2 (M9 a1 11)) fun M10 => b1 (wr M10 r7 3 (M10 a1 12)) fun M11 => b1 (wr M11 r7 4 (M11 a1 15)) fun M12 => b1 (f_X6_metSet a1 M12) fun x13 => b1 (wr M12 r7 5 x13) fun M14 => b1 (wr M14 r7 6 (M14 (a1 + 11) 3)) fun M15 => lt (up2 M15 115 3 (((M15 115 3) + 1) - ((M15 115 3) + 1) / 6 * 6)) fun M16 => lt (up2 M16 115 2 (f_J9_min_7cf53 6 ((M16 115 2) + 1))) fun M17 => some M17) else (b1 (rr 116 (M 115 3)) fun r18 => b1 (f_X8_copyFrom r18 (a1 + 9) M) fun M19 => b1 (rr 117 (M19 115 3)) fun r20 => b1 (wr M19 r20 0 (M19 a1 9)) fun M21 => b1 (wr M21 r20 1 (M21 a1 10)) fun M22 => b1 (wr M22 r20 2 (M22 a1 11)) fun M23 => b1 (wr M23 r20 3 (M23 a1 12)) fun M24 => b1 (wr M24 r20 4 (M24 a1 15)) fun M25 => b1 (f_X6_metSet a1 M25) fun x26 => b1 (wr M25 r20 5 x26) fun M27 => b1 (wr M27 r20 6 (M27 (a1 + 11) 3)) fun M28 => lt (up2 M28 115 3 (((M28 115 3) + 1) - ((M28 115 3) + 1) / 6 * 6)) fun M29 => lt (up2 M29 115 2 (f_J9_min_7cf53 6 ((M29 115 2) + 1))) fun M30 => some M30)
set_option maxRecDepth 100000 in
set_option maxHeartbeats 4000000 in
theorem t_X7_keep (l : Launch) (E : EV) (a1 : Nat) (ha1 : oc a1 = some 6) (M : Mem) {M' : Mem} (h : f_X7_keep a1 M = some M') : RunM l E yX7_keep cX7_keep 3 none 3 [.ref 115, .ref a1] M M' none := by
  refine RunM.of (by decide) (Nat.le_of_ble_eq_true rfl) ?_
  show XM l E (RX7, "keep", cX7_keep, 3) none 3 0 [some (.ref 115), some (.ref a1), none] [] M M' none
  unfold f_X7_keep at h
  refine ex_aload_n dX7_keep_0 rfl ?_
  refine mx_geti 7 dX7_keep_1 fl_X7_29 oc_at_115 (isi_7_3 oc_at_115) ?_
  have JXC3 : ((M 115 3) < 0 ∨ ¬ ((M 115 3) < 6)) → XM l E (RX7, "keep", cX7_keep, 3) none 3 16 [some (.ref 115), some (.ref a1), none] [] M M' none := fun C3 => by
    rw [if_pos C3] at h
    refine ex_aload_n dX7_keep_16 rfl ?_
    refine ex_iconst 0 dX7_keep_17 kI_0 ?_
    obtain ⟨M4, eM4, h⟩ := ltE h
    refine mx_puti 7 dX7_keep_18 fl_X7_29 rfl ⟨rfl, rfl⟩ oc_at_115 (isi_7_3 oc_at_115) ?_
    rw [← eM4]
    refine ex_aload_n dX7_keep_21 rfl ?_
    refine mx_getr 7 116 dX7_keep_22 fl_X7_13 oc_at_115 (rf_7_0 oc_at_115) ?_
    refine ex_aload_n dX7_keep_25 rfl ?_
    refine mx_geti 7 dX7_keep_26 fl_X7_29 oc_at_115 (isi_7_3 oc_at_115) ?_
    obtain ⟨r5, qr5, h⟩ := b1E h
    refine mx_aald r5 dX7_keep_29 qr5 ?_
    refine ex_aload_n dX7_keep_30 rfl ?_
    refine mx_getr 6 (a1 + 9) dX7_keep_31 fl_X7_32 ha1 (rf_6_4 ha1) ?_
    obtain ⟨M6, qM6, h⟩ := b1E h
    refine mx_cVv [.ref (a1 + 9)] [] r5 8 dX7_keep_34 cl_X7_37 im_X8_copyFrom cy_X8_copyFrom (rr_116 qr5) rfl (Nat.le_of_ble_eq_true rfl) (by decide) (t_X8_copyFrom l E r5 (a1 + 9) (rr_116 qr5) (oc_6_4 ha1) M4 qM6) ?_
    refine ex_aload_n dX7_keep_37 rfl ?_
    refine mx_getr 7 117 dX7_keep_38 fl_X7_19 oc_at_115 (rf_7_1 oc_at_115) ?_
    refine ex_aload_n dX7_keep_41 rfl ?_
    refine mx_geti 7 dX7_keep_42 fl_X7_29 oc_at_115 (isi_7_3 oc_at_115) ?_
    obtain ⟨r7, qr7, h⟩ := b1E h
    refine mx_aald r7 dX7_keep_45 qr7 ?_
    refine ex_astore_n (L2 := [some (.ref 115), some (.ref a1), some (.ref r7)]) dX7_keep_46 (by decide) rfl ?_
    refine ex_aload_n dX7_keep_47 rfl ?_
    refine ex_iconst 0 dX7_keep_48 kI_0 ?_
    refine ex_aload_n dX7_keep_49 rfl ?_
    refine mx_geti 6 dX7_keep_50 fl_X7_41 ha1 (isi_6_9 ha1) ?_
    obtain ⟨M8, qM8, h⟩ := b1E h
    refine mx_iast M8 dX7_keep_53 qM8 ?_
    refine ex_aload_n dX7_keep_54 rfl ?_
    refine ex_iconst 1 dX7_keep_55 kI_1 ?_
    refine ex_aload_n dX7_keep_56 rfl ?_
    refine mx_geti 6 dX7_keep_57 fl_X7_44 ha1 (isi_6_10 ha1) ?_
    obtain ⟨M9, qM9, h⟩ := b1E h
    refine mx_iast M9 dX7_keep_60 qM9 ?_
    refine ex_aload_n dX7_keep_61 rfl ?_
    refine ex_iconst 2 dX7_keep_62 kI_2 ?_
    refine ex_aload_n dX7_keep_63 rfl ?_
    refine mx_geti 6 dX7_keep_64 fl_X7_47 ha1 (isi_6_11 ha1) ?_
    obtain ⟨M10, qM10, h⟩ := b1E h
    refine mx_iast M10 dX7_keep_67 qM10 ?_
    refine ex_aload_n dX7_keep_68 rfl ?_
    refine ex_iconst 3 dX7_keep_69 kI_3 ?_
    refine ex_aload_n dX7_keep_70 rfl ?_
    refine mx_geti 6 dX7_keep_71 fl_X7_50 ha1 (isi_6_12 ha1) ?_
    obtain ⟨M11, qM11, h⟩ := b1E h
    refine mx_iast M11 dX7_keep_74 qM11 ?_
    refine ex_aload_n dX7_keep_75 rfl ?_
    refine ex_iconst 4 dX7_keep_76 kI_4 ?_
    refine ex_aload_n dX7_keep_77 rfl ?_
    refine mx_geti 6 dX7_keep_78 fl_X7_53 ha1 (isi_6_15 ha1) ?_
    obtain ⟨M12, qM12, h⟩ := b1E h
    refine mx_iast M12 dX7_keep_81 qM12 ?_
    refine ex_aload_n dX7_keep_82 rfl ?_
    refine ex_iconst 5 dX7_keep_83 kI_5 ?_
    refine ex_aload_n dX7_keep_84 rfl ?_
    obtain ⟨x13, qx13, h⟩ := b1E h
    refine mx_cVi [] [.int 5, .ref r7] a1 6 x13 dX7_keep_85 cl_X7_56 im_X6_metSet cy_X6_metSet ha1 rfl (Nat.le_of_ble_eq_true rfl) (by decide) (t_X6_metSet l E a1 ha1 M12 qx13) ?_
    obtain ⟨M14, qM14, h⟩ := b1E h
    refine mx_iast M14 dX7_keep_88 qM14 ?_
    refine ex_aload_n dX7_keep_89 rfl ?_
    refine ex_bipush 6 dX7_keep_90 kB_6 ?_
    refine ex_aload_n dX7_keep_92 rfl ?_
    refine mx_getr 6 (a1 + 11) dX7_keep_93 fl_X7_60 ha1 (rf_6_5 ha1) ?_
    refine mx_geti 8 dX7_keep_96 fl_X7_63 (oc_6_5 ha1) (isi_8_3 (oc_6_5 ha1)) ?_
    obtain ⟨M15, qM15, h⟩ := b1E h
    refine mx_iast M15 dX7_keep_99 qM15 ?_
    refine ex_aload_n dX7_keep_100 rfl ?_
    refine ex_aload_n dX7_keep_101 rfl ?_
    refine mx_geti 7 dX7_keep_102 fl_X7_29 oc_at_115 (isi_7_3 oc_at_115) ?_
    refine ex_iconst 1 dX7_keep_105 kI_1 ?_
    refine ex_iadd dX7_keep_106 ?_
    refine ex_bipush 6 dX7_keep_107 kB_6 ?_
    refine ex_irem dX7_keep_109 (by decide) ?_
    obtain ⟨M16, eM16, h⟩ := ltE h
    refine mx_puti 7 dX7_keep_110 fl_X7_29 rfl ⟨rfl, rfl⟩ oc_at_115 (isi_7_3 oc_at_115) ?_
    rw [← eM16]
    refine ex_aload_n dX7_keep_113 rfl ?_
    refine ex_bipush 6 dX7_keep_114 kB_6 ?_
    refine ex_aload_n dX7_keep_116 rfl ?_
    refine mx_geti 7 dX7_keep_117 fl_X7_25 oc_at_115 (isi_7_2 oc_at_115) ?_
    refine ex_iconst 1 dX7_keep_120 kI_1 ?_
    refine ex_iadd dX7_keep_121 ?_
    refine mx_min dX7_keep_122 (tb (i := 553) (by decide +kernel)) (by decide) (Nat.le_of_ble_eq_true rfl) ?_
    obtain ⟨M17, eM17, h⟩ := ltE h
    refine mx_puti 7 dX7_keep_125 fl_X7_25 rfl ⟨rfl, rfl⟩ oc_at_115 (isi_7_2 oc_at_115) ?_
    rw [← eM17]
    cases h
    exact mx_retv dX7_keep_128 rfl
  have JYC3 : ¬ (((M 115 3) < 0 ∨ ¬ ((M 115 3) < 6))) → XM l E (RX7, "keep", cX7_keep, 3) none 3 21 [some (.ref 115), some (.ref a1), none] [] M M' none := fun C3 => by
    rw [if_neg C3] at h
    refine ex_aload_n dX7_keep_21 rfl ?_
    refine mx_getr 7 116 dX7_keep_22 fl_X7_13 oc_at_115 (rf_7_0 oc_at_115) ?_
    refine ex_aload_n dX7_keep_25 rfl ?_
    refine mx_geti 7 dX7_keep_26 fl_X7_29 oc_at_115 (isi_7_3 oc_at_115) ?_
    obtain ⟨r18, qr18, h⟩ := b1E h
    refine mx_aald r18 dX7_keep_29 qr18 ?_
    refine ex_aload_n dX7_keep_30 rfl ?_
    refine mx_getr 6 (a1 + 9) dX7_keep_31 fl_X7_32 ha1 (rf_6_4 ha1) ?_
    obtain ⟨M19, qM19, h⟩ := b1E h
    refine mx_cVv [.ref (a1 + 9)] [] r18 8 dX7_keep_34 cl_X7_37 im_X8_copyFrom cy_X8_copyFrom (rr_116 qr18) rfl (Nat.le_of_ble_eq_true rfl) (by decide) (t_X8_copyFrom l E r18 (a1 + 9) (rr_116 qr18) (oc_6_4 ha1) M qM19) ?_
    refine ex_aload_n dX7_keep_37 rfl ?_
    refine mx_getr 7 117 dX7_keep_38 fl_X7_19 oc_at_115 (rf_7_1 oc_at_115) ?_
    refine ex_aload_n dX7_keep_41 rfl ?_
    refine mx_geti 7 dX7_keep_42 fl_X7_29 oc_at_115 (isi_7_3 oc_at_115) ?_
    obtain ⟨r20, qr20, h⟩ := b1E h
    refine mx_aald r20 dX7_keep_45 qr20 ?_
    refine ex_astore_n (L2 := [some (.ref 115), some (.ref a1), some (.ref r20)]) dX7_keep_46 (by decide) rfl ?_
    refine ex_aload_n dX7_keep_47 rfl ?_
    refine ex_iconst 0 dX7_keep_48 kI_0 ?_
    refine ex_aload_n dX7_keep_49 rfl ?_
    refine mx_geti 6 dX7_keep_50 fl_X7_41 ha1 (isi_6_9 ha1) ?_
    obtain ⟨M21, qM21, h⟩ := b1E h
    refine mx_iast M21 dX7_keep_53 qM21 ?_
    refine ex_aload_n dX7_keep_54 rfl ?_
    refine ex_iconst 1 dX7_keep_55 kI_1 ?_
    refine ex_aload_n dX7_keep_56 rfl ?_
    refine mx_geti 6 dX7_keep_57 fl_X7_44 ha1 (isi_6_10 ha1) ?_
    obtain ⟨M22, qM22, h⟩ := b1E h
    refine mx_iast M22 dX7_keep_60 qM22 ?_
    refine ex_aload_n dX7_keep_61 rfl ?_
    refine ex_iconst 2 dX7_keep_62 kI_2 ?_
    refine ex_aload_n dX7_keep_63 rfl ?_
    refine mx_geti 6 dX7_keep_64 fl_X7_47 ha1 (isi_6_11 ha1) ?_
    obtain ⟨M23, qM23, h⟩ := b1E h
    refine mx_iast M23 dX7_keep_67 qM23 ?_
    refine ex_aload_n dX7_keep_68 rfl ?_
    refine ex_iconst 3 dX7_keep_69 kI_3 ?_
    refine ex_aload_n dX7_keep_70 rfl ?_
    refine mx_geti 6 dX7_keep_71 fl_X7_50 ha1 (isi_6_12 ha1) ?_
    obtain ⟨M24, qM24, h⟩ := b1E h
    refine mx_iast M24 dX7_keep_74 qM24 ?_
    refine ex_aload_n dX7_keep_75 rfl ?_
    refine ex_iconst 4 dX7_keep_76 kI_4 ?_
    refine ex_aload_n dX7_keep_77 rfl ?_
    refine mx_geti 6 dX7_keep_78 fl_X7_53 ha1 (isi_6_15 ha1) ?_
    obtain ⟨M25, qM25, h⟩ := b1E h
    refine mx_iast M25 dX7_keep_81 qM25 ?_
    refine ex_aload_n dX7_keep_82 rfl ?_
    refine ex_iconst 5 dX7_keep_83 kI_5 ?_
    refine ex_aload_n dX7_keep_84 rfl ?_
    obtain ⟨x26, qx26, h⟩ := b1E h
    refine mx_cVi [] [.int 5, .ref r20] a1 6 x26 dX7_keep_85 cl_X7_56 im_X6_metSet cy_X6_metSet ha1 rfl (Nat.le_of_ble_eq_true rfl) (by decide) (t_X6_metSet l E a1 ha1 M25 qx26) ?_
    obtain ⟨M27, qM27, h⟩ := b1E h
    refine mx_iast M27 dX7_keep_88 qM27 ?_
    refine ex_aload_n dX7_keep_89 rfl ?_
    refine ex_bipush 6 dX7_keep_90 kB_6 ?_
    refine ex_aload_n dX7_keep_92 rfl ?_
    refine mx_getr 6 (a1 + 11) dX7_keep_93 fl_X7_60 ha1 (rf_6_5 ha1) ?_
    refine mx_geti 8 dX7_keep_96 fl_X7_63 (oc_6_5 ha1) (isi_8_3 (oc_6_5 ha1)) ?_
    obtain ⟨M28, qM28, h⟩ := b1E h
    refine mx_iast M28 dX7_keep_99 qM28 ?_
    refine ex_aload_n dX7_keep_100 rfl ?_
    refine ex_aload_n dX7_keep_101 rfl ?_
    refine mx_geti 7 dX7_keep_102 fl_X7_29 oc_at_115 (isi_7_3 oc_at_115) ?_
    refine ex_iconst 1 dX7_keep_105 kI_1 ?_
    refine ex_iadd dX7_keep_106 ?_
    refine ex_bipush 6 dX7_keep_107 kB_6 ?_
    refine ex_irem dX7_keep_109 (by decide) ?_
    obtain ⟨M29, eM29, h⟩ := ltE h
    refine mx_puti 7 dX7_keep_110 fl_X7_29 rfl ⟨rfl, rfl⟩ oc_at_115 (isi_7_3 oc_at_115) ?_
    rw [← eM29]
    refine ex_aload_n dX7_keep_113 rfl ?_
    refine ex_bipush 6 dX7_keep_114 kB_6 ?_
    refine ex_aload_n dX7_keep_116 rfl ?_
    refine mx_geti 7 dX7_keep_117 fl_X7_25 oc_at_115 (isi_7_2 oc_at_115) ?_
    refine ex_iconst 1 dX7_keep_120 kI_1 ?_
    refine ex_iadd dX7_keep_121 ?_
    refine mx_min dX7_keep_122 (tb (i := 553) (by decide +kernel)) (by decide) (Nat.le_of_ble_eq_true rfl) ?_
    obtain ⟨M30, eM30, h⟩ := ltE h
    refine mx_puti 7 dX7_keep_125 fl_X7_25 rfl ⟨rfl, rfl⟩ oc_at_115 (isi_7_2 oc_at_115) ?_
    rw [← eM30]
    cases h
    exact mx_retv dX7_keep_128 rfl
  clear h
  refine ex_if_lt 16 dX7_keep_4 (by decide) (fun c1 => ?_) (fun c1 => ?_)
  · exact JXC3 (Or.inl c1)
  · refine ex_aload_n dX7_keep_7 rfl ?_
    refine mx_geti 7 dX7_keep_8 fl_X7_29 oc_at_115 (isi_7_3 oc_at_115) ?_
    refine ex_bipush 6 dX7_keep_11 kB_6 ?_
    refine ex_icmp_lt 21 dX7_keep_13 (by decide) (fun c2 => ?_) (fun c2 => ?_)
    · exact JYC3 (fun z => z.elim c1 (fun z => z c2))
    · exact JXC3 (Or.inr c2)
def f_X8_keepFirst (o : Nat) (a1 : Int32) (M : Mem) : (Mem) :=
  if (a1 < 0 ∨ (M o 3) ≤ a1) then (M) else (lt (up2 M o 3 a1) fun M4 => M4)
set_option maxRecDepth 100000 in
set_option maxHeartbeats 4000000 in
theorem t_X8_keepFirst (l : Launch) (E : EV) (o : Nat) (a1 : Int32) (ho : oc o = some 8) (M : Mem) {M' : Mem} (h : f_X8_keepFirst o a1 M = M') : RunM l E yX8_keepFirst cX8_keepFirst 2 none 0 [.ref o, .int a1] M M' none := by
  refine RunM.of (by decide) (Nat.le_of_ble_eq_true rfl) ?_
  show XM l E (RX8, "keepFirst", cX8_keepFirst, 2) none 0 0 [some (.ref o), some (.int a1)] [] M M' none
  unfold f_X8_keepFirst at h
  refine ex_iload_n dX8_keepFirst_0 rfl ?_
  have JXC3 : (a1 < 0 ∨ (M o 3) ≤ a1) → XM l E (RX8, "keepFirst", cX8_keepFirst, 2) none 0 17 [some (.ref o), some (.int a1)] [] M M' none := fun C3 => by
    rw [if_pos C3] at h
    cases h
    exact mx_retv dX8_keepFirst_17 rfl
  have JYC3 : ¬ ((a1 < 0 ∨ (M o 3) ≤ a1)) → XM l E (RX8, "keepFirst", cX8_keepFirst, 2) none 0 14 [some (.ref o), some (.int a1)] [.int a1, .ref o] M M' none := fun C3 => by
    rw [if_neg C3] at h
    obtain ⟨M4, eM4, h⟩ := ltE h
    refine mx_puti 8 dX8_keepFirst_14 fl_X8_22 rfl ⟨rfl, rfl⟩ ho (isi_8_3 ho) ?_
    rw [← eM4]
    cases h
    exact mx_retv dX8_keepFirst_17 rfl
  clear h
  refine ex_if_lt 17 dX8_keepFirst_1 (by decide) (fun c1 => ?_) (fun c1 => ?_)
  · exact JXC3 (Or.inl c1)
  · refine ex_iload_n dX8_keepFirst_4 rfl ?_
    refine ex_aload_n dX8_keepFirst_5 rfl ?_
    refine mx_geti 8 dX8_keepFirst_6 fl_X8_22 ho (isi_8_3 ho) ?_
    refine ex_icmp_ge 17 dX8_keepFirst_9 (by decide) (fun c2 => ?_) (fun c2 => ?_)
    · exact JXC3 (Or.inr c2)
    · refine ex_aload_n dX8_keepFirst_12 rfl ?_
      refine ex_iload_n dX8_keepFirst_13 rfl ?_
      exact JYC3 (fun z => z.elim c1 c2)
def f_X7_giveBack (a1 : Nat) (M : Mem) : Option (Mem × Int32) :=
  if 0 < (M 115 2) then (lt (up2 M 115 2 ((M 115 2) - 1)) fun M2 => if ((M2 115 3) ≤ 0 ∨ ¬ ((M2 115 3) < 6)) then (lt (up2 M2 115 3 5) fun M6 => b1 (rr 116 (M6 115 3)) fun r7 => b1 (f_X8_copyFrom (a1 + 9) r7 M6) fun M8 => b1 (rr 117 (M8 115 3)) fun r9 => b1 (rd M8 r9 0) fun x10 => lt (up2 M8 a1 9 x10) fun M11 => b1 (rd M11 r9 1) fun x12 => lt (up2 M11 a1 10 x12) fun M13 => b1 (rd M13 r9 2) fun x14 => lt (up2 M13 a1 11 x14) fun M15 => b1 (rd M15 r9 3) fun x16 => lt (up2 M15 a1 12 x16) fun M17 => b1 (rd M17 r9 4) fun x18 => lt (up2 M17 a1 15 x18) fun M19 => b1 (rd M19 r9 5) fun x20 => b1 (f_X6_putMetSet a1 x20 M19) fun M21 => b1 (rd M21 r9 6) fun x22 => lt (f_X8_keepFirst (a1 + 11) x22 M21) fun M23 => some (M23, 1)) else (lt (up2 M2 115 3 ((M2 115 3) - 1)) fun M24 => b1 (rr 116 (M24 115 3)) fun r25 => b1 (f_X8_copyFrom (a1 + 9) r25 M24) fun M26 => b1 (rr 117 (M26 115 3)) fun r27 => b1 (rd M26 r27 0) fun x28 => lt (up2 M26 a1 9 x28) fun M29 => b1 (rd M29 r27 1) fun x30 => lt (up2 M29 a1 10 x30) fun M31 => b1 (rd M31 r27 2) fun x32 => lt (up2 M31 a1 11 x32) fun M33 => b1 (rd M33 r27 3) fun x34 => lt (up2 M33 a1 12 x34) fun M35 => b1 (rd M35 r27 4) fun x36 => lt (up2 M35 a1 15 x36) fun M37 => b1 (rd M37 r27 5) fun x38 => b1 (f_X6_putMetSet a1 x38 M37) fun M39 => b1 (rd M39 r27 6) fun x40 => lt (f_X8_keepFirst (a1 + 11) x40 M39) fun M41 => some (M41, 1))) else (some (M, 0))
set_option maxRecDepth 100000 in
set_option maxHeartbeats 4000000 in
theorem t_X7_giveBack (l : Launch) (E : EV) (a1 : Nat) (ha1 : oc a1 = some 6) (M : Mem) {M' : Mem} {r : Int32} (h : f_X7_giveBack a1 M = some (M', r)) : RunM l E yX7_giveBack cX7_giveBack 3 (some .boolean) 3 [.ref 115, .ref a1] M M' (some (.int r)) := by
  refine RunM.of (by decide) (Nat.le_of_ble_eq_true rfl) ?_
  show XM l E (RX7, "giveBack", cX7_giveBack, 3) (some .boolean) 3 0 [some (.ref 115), some (.ref a1), none] [] M M' (some (.int r))
  unfold f_X7_giveBack at h
  refine ex_aload_n dX7_giveBack_0 rfl ?_
  refine mx_geti 7 dX7_giveBack_1 fl_X7_25 oc_at_115 (isi_7_2 oc_at_115) ?_
  refine ex_if_gt 9 dX7_giveBack_4 (by decide) (fun c1 => ?_) (fun c1 => ?_)
  · rw [if_pos c1] at h
    refine ex_aload_n dX7_giveBack_9 rfl ?_
    refine ex_dup dX7_giveBack_10 rfl ?_
    refine mx_geti 7 dX7_giveBack_11 fl_X7_25 oc_at_115 (isi_7_2 oc_at_115) ?_
    refine ex_iconst 1 dX7_giveBack_14 kI_1 ?_
    refine ex_isub dX7_giveBack_15 ?_
    obtain ⟨M2, eM2, h⟩ := ltE h
    refine mx_puti 7 dX7_giveBack_16 fl_X7_25 rfl ⟨rfl, rfl⟩ oc_at_115 (isi_7_2 oc_at_115) ?_
    rw [← eM2]
    refine ex_aload_n dX7_giveBack_19 rfl ?_
    refine ex_aload_n dX7_giveBack_20 rfl ?_
    refine mx_geti 7 dX7_giveBack_21 fl_X7_29 oc_at_115 (isi_7_3 oc_at_115) ?_
    have JXC5 : ((M2 115 3) ≤ 0 ∨ ¬ ((M2 115 3) < 6)) → XM l E (RX7, "giveBack", cX7_giveBack, 3) (some .boolean) 3 36 [some (.ref 115), some (.ref a1), none] [.ref 115] M2 M' (some (.int r)) := fun C5 => by
      rw [if_pos C5] at h
      refine ex_iconst 5 dX7_giveBack_36 kI_5 ?_
      refine ex_goto 46 dX7_giveBack_37 (by decide) ?_
      obtain ⟨M6, eM6, h⟩ := ltE h
      refine mx_puti 7 dX7_giveBack_46 fl_X7_29 rfl ⟨rfl, rfl⟩ oc_at_115 (isi_7_3 oc_at_115) ?_
      rw [← eM6]
      refine ex_aload_n dX7_giveBack_49 rfl ?_
      refine mx_getr 6 (a1 + 9) dX7_giveBack_50 fl_X7_32 ha1 (rf_6_4 ha1) ?_
      refine ex_aload_n dX7_giveBack_53 rfl ?_
      refine mx_getr 7 116 dX7_giveBack_54 fl_X7_13 oc_at_115 (rf_7_0 oc_at_115) ?_
      refine ex_aload_n dX7_giveBack_57 rfl ?_
      refine mx_geti 7 dX7_giveBack_58 fl_X7_29 oc_at_115 (isi_7_3 oc_at_115) ?_
      obtain ⟨r7, qr7, h⟩ := b1E h
      refine mx_aald r7 dX7_giveBack_61 qr7 ?_
      obtain ⟨M8, qM8, h⟩ := b1E h
      refine mx_cVv [.ref r7] [] (a1 + 9) 8 dX7_giveBack_62 cl_X7_37 im_X8_copyFrom cy_X8_copyFrom (oc_6_4 ha1) rfl (Nat.le_of_ble_eq_true rfl) (by decide) (t_X8_copyFrom l E (a1 + 9) r7 (oc_6_4 ha1) (rr_116 qr7) M6 qM8) ?_
      refine ex_aload_n dX7_giveBack_65 rfl ?_
      refine mx_getr 7 117 dX7_giveBack_66 fl_X7_19 oc_at_115 (rf_7_1 oc_at_115) ?_
      refine ex_aload_n dX7_giveBack_69 rfl ?_
      refine mx_geti 7 dX7_giveBack_70 fl_X7_29 oc_at_115 (isi_7_3 oc_at_115) ?_
      obtain ⟨r9, qr9, h⟩ := b1E h
      refine mx_aald r9 dX7_giveBack_73 qr9 ?_
      refine ex_astore_n (L2 := [some (.ref 115), some (.ref a1), some (.ref r9)]) dX7_giveBack_74 (by decide) rfl ?_
      refine ex_aload_n dX7_giveBack_75 rfl ?_
      refine ex_aload_n dX7_giveBack_76 rfl ?_
      refine ex_iconst 0 dX7_giveBack_77 kI_0 ?_
      obtain ⟨x10, qx10, h⟩ := b1E h
      refine mx_iald x10 dX7_giveBack_78 qx10 ?_
      obtain ⟨M11, eM11, h⟩ := ltE h
      refine mx_puti 6 dX7_giveBack_79 fl_X7_41 rfl ⟨rfl, rfl⟩ ha1 (isi_6_9 ha1) ?_
      rw [← eM11]
      refine ex_aload_n dX7_giveBack_82 rfl ?_
      refine ex_aload_n dX7_giveBack_83 rfl ?_
      refine ex_iconst 1 dX7_giveBack_84 kI_1 ?_
      obtain ⟨x12, qx12, h⟩ := b1E h
      refine mx_iald x12 dX7_giveBack_85 qx12 ?_
      obtain ⟨M13, eM13, h⟩ := ltE h
      refine mx_puti 6 dX7_giveBack_86 fl_X7_44 rfl ⟨rfl, rfl⟩ ha1 (isi_6_10 ha1) ?_
      rw [← eM13]
      refine ex_aload_n dX7_giveBack_89 rfl ?_
      refine ex_aload_n dX7_giveBack_90 rfl ?_
      refine ex_iconst 2 dX7_giveBack_91 kI_2 ?_
      obtain ⟨x14, qx14, h⟩ := b1E h
      refine mx_iald x14 dX7_giveBack_92 qx14 ?_
      obtain ⟨M15, eM15, h⟩ := ltE h
      refine mx_puti 6 dX7_giveBack_93 fl_X7_47 rfl ⟨rfl, rfl⟩ ha1 (isi_6_11 ha1) ?_
      rw [← eM15]
      refine ex_aload_n dX7_giveBack_96 rfl ?_
      refine ex_aload_n dX7_giveBack_97 rfl ?_
      refine ex_iconst 3 dX7_giveBack_98 kI_3 ?_
      obtain ⟨x16, qx16, h⟩ := b1E h
      refine mx_iald x16 dX7_giveBack_99 qx16 ?_
      obtain ⟨M17, eM17, h⟩ := ltE h
      refine mx_puti 6 dX7_giveBack_100 fl_X7_50 rfl ⟨rfl, rfl⟩ ha1 (isi_6_12 ha1) ?_
      rw [← eM17]
      refine ex_aload_n dX7_giveBack_103 rfl ?_
      refine ex_aload_n dX7_giveBack_104 rfl ?_
      refine ex_iconst 4 dX7_giveBack_105 kI_4 ?_
      obtain ⟨x18, qx18, h⟩ := b1E h
      refine mx_iald x18 dX7_giveBack_106 qx18 ?_
      obtain ⟨M19, eM19, h⟩ := ltE h
      refine mx_puti 6 dX7_giveBack_107 fl_X7_53 rfl ⟨rfl, rfl⟩ ha1 (isi_6_15 ha1) ?_
      rw [← eM19]
      refine ex_aload_n dX7_giveBack_110 rfl ?_
      refine ex_aload_n dX7_giveBack_111 rfl ?_
      refine ex_iconst 5 dX7_giveBack_112 kI_5 ?_
      obtain ⟨x20, qx20, h⟩ := b1E h
      refine mx_iald x20 dX7_giveBack_113 qx20 ?_
      obtain ⟨M21, qM21, h⟩ := b1E h
      refine mx_cVv [.int x20] [] a1 6 dX7_giveBack_114 cl_X7_72 im_X6_putMetSet cy_X6_putMetSet ha1 rfl (Nat.le_of_ble_eq_true rfl) (by decide) (t_X6_putMetSet l E a1 x20 ha1 M19 qM21) ?_
      refine ex_aload_n dX7_giveBack_117 rfl ?_
      refine mx_getr 6 (a1 + 11) dX7_giveBack_118 fl_X7_60 ha1 (rf_6_5 ha1) ?_
      refine ex_aload_n dX7_giveBack_121 rfl ?_
      refine ex_bipush 6 dX7_giveBack_122 kB_6 ?_
      obtain ⟨x22, qx22, h⟩ := b1E h
      refine mx_iald x22 dX7_giveBack_124 qx22 ?_
      obtain ⟨M23, eM23, h⟩ := ltE h
      refine mx_cVv [.int x22] [] (a1 + 11) 8 dX7_giveBack_125 cl_X7_76 im_X8_keepFirst cy_X8_keepFirst (oc_6_5 ha1) rfl (Nat.le_of_ble_eq_true rfl) (by decide) (t_X8_keepFirst l E (a1 + 11) x22 (oc_6_5 ha1) M21 eM23.symm) ?_
      refine ex_iconst 1 dX7_giveBack_128 kI_1 ?_
      cases h
      exact mx_reti .boolean dX7_giveBack_129 ⟨rfl, by decide⟩
    have JYC5 : ¬ (((M2 115 3) ≤ 0 ∨ ¬ ((M2 115 3) < 6))) → XM l E (RX7, "giveBack", cX7_giveBack, 3) (some .boolean) 3 46 [some (.ref 115), some (.ref a1), none] [.int ((M2 115 3) - 1), .ref 115] M2 M' (some (.int r)) := fun C5 => by
      rw [if_neg C5] at h
      obtain ⟨M24, eM24, h⟩ := ltE h
      refine mx_puti 7 dX7_giveBack_46 fl_X7_29 rfl ⟨rfl, rfl⟩ oc_at_115 (isi_7_3 oc_at_115) ?_
      rw [← eM24]
      refine ex_aload_n dX7_giveBack_49 rfl ?_
      refine mx_getr 6 (a1 + 9) dX7_giveBack_50 fl_X7_32 ha1 (rf_6_4 ha1) ?_
      refine ex_aload_n dX7_giveBack_53 rfl ?_
      refine mx_getr 7 116 dX7_giveBack_54 fl_X7_13 oc_at_115 (rf_7_0 oc_at_115) ?_
      refine ex_aload_n dX7_giveBack_57 rfl ?_
      refine mx_geti 7 dX7_giveBack_58 fl_X7_29 oc_at_115 (isi_7_3 oc_at_115) ?_
      obtain ⟨r25, qr25, h⟩ := b1E h
      refine mx_aald r25 dX7_giveBack_61 qr25 ?_
      obtain ⟨M26, qM26, h⟩ := b1E h
      refine mx_cVv [.ref r25] [] (a1 + 9) 8 dX7_giveBack_62 cl_X7_37 im_X8_copyFrom cy_X8_copyFrom (oc_6_4 ha1) rfl (Nat.le_of_ble_eq_true rfl) (by decide) (t_X8_copyFrom l E (a1 + 9) r25 (oc_6_4 ha1) (rr_116 qr25) M24 qM26) ?_
      refine ex_aload_n dX7_giveBack_65 rfl ?_
      refine mx_getr 7 117 dX7_giveBack_66 fl_X7_19 oc_at_115 (rf_7_1 oc_at_115) ?_
      refine ex_aload_n dX7_giveBack_69 rfl ?_
      refine mx_geti 7 dX7_giveBack_70 fl_X7_29 oc_at_115 (isi_7_3 oc_at_115) ?_
      obtain ⟨r27, qr27, h⟩ := b1E h
      refine mx_aald r27 dX7_giveBack_73 qr27 ?_
      refine ex_astore_n (L2 := [some (.ref 115), some (.ref a1), some (.ref r27)]) dX7_giveBack_74 (by decide) rfl ?_
      refine ex_aload_n dX7_giveBack_75 rfl ?_
      refine ex_aload_n dX7_giveBack_76 rfl ?_
      refine ex_iconst 0 dX7_giveBack_77 kI_0 ?_
      obtain ⟨x28, qx28, h⟩ := b1E h
      refine mx_iald x28 dX7_giveBack_78 qx28 ?_
      obtain ⟨M29, eM29, h⟩ := ltE h
      refine mx_puti 6 dX7_giveBack_79 fl_X7_41 rfl ⟨rfl, rfl⟩ ha1 (isi_6_9 ha1) ?_
      rw [← eM29]
      refine ex_aload_n dX7_giveBack_82 rfl ?_
      refine ex_aload_n dX7_giveBack_83 rfl ?_
      refine ex_iconst 1 dX7_giveBack_84 kI_1 ?_
      obtain ⟨x30, qx30, h⟩ := b1E h
      refine mx_iald x30 dX7_giveBack_85 qx30 ?_
      obtain ⟨M31, eM31, h⟩ := ltE h
      refine mx_puti 6 dX7_giveBack_86 fl_X7_44 rfl ⟨rfl, rfl⟩ ha1 (isi_6_10 ha1) ?_
      rw [← eM31]
      refine ex_aload_n dX7_giveBack_89 rfl ?_
      refine ex_aload_n dX7_giveBack_90 rfl ?_
      refine ex_iconst 2 dX7_giveBack_91 kI_2 ?_
      obtain ⟨x32, qx32, h⟩ := b1E h
      refine mx_iald x32 dX7_giveBack_92 qx32 ?_
      obtain ⟨M33, eM33, h⟩ := ltE h
      refine mx_puti 6 dX7_giveBack_93 fl_X7_47 rfl ⟨rfl, rfl⟩ ha1 (isi_6_11 ha1) ?_
      rw [← eM33]
      refine ex_aload_n dX7_giveBack_96 rfl ?_
      refine ex_aload_n dX7_giveBack_97 rfl ?_
      refine ex_iconst 3 dX7_giveBack_98 kI_3 ?_
      obtain ⟨x34, qx34, h⟩ := b1E h
      refine mx_iald x34 dX7_giveBack_99 qx34 ?_
      obtain ⟨M35, eM35, h⟩ := ltE h
      refine mx_puti 6 dX7_giveBack_100 fl_X7_50 rfl ⟨rfl, rfl⟩ ha1 (isi_6_12 ha1) ?_
      rw [← eM35]
      refine ex_aload_n dX7_giveBack_103 rfl ?_
      refine ex_aload_n dX7_giveBack_104 rfl ?_
      refine ex_iconst 4 dX7_giveBack_105 kI_4 ?_
      obtain ⟨x36, qx36, h⟩ := b1E h
      refine mx_iald x36 dX7_giveBack_106 qx36 ?_
      obtain ⟨M37, eM37, h⟩ := ltE h
      refine mx_puti 6 dX7_giveBack_107 fl_X7_53 rfl ⟨rfl, rfl⟩ ha1 (isi_6_15 ha1) ?_
      rw [← eM37]
      refine ex_aload_n dX7_giveBack_110 rfl ?_
      refine ex_aload_n dX7_giveBack_111 rfl ?_
      refine ex_iconst 5 dX7_giveBack_112 kI_5 ?_
      obtain ⟨x38, qx38, h⟩ := b1E h
      refine mx_iald x38 dX7_giveBack_113 qx38 ?_
      obtain ⟨M39, qM39, h⟩ := b1E h
      refine mx_cVv [.int x38] [] a1 6 dX7_giveBack_114 cl_X7_72 im_X6_putMetSet cy_X6_putMetSet ha1 rfl (Nat.le_of_ble_eq_true rfl) (by decide) (t_X6_putMetSet l E a1 x38 ha1 M37 qM39) ?_
      refine ex_aload_n dX7_giveBack_117 rfl ?_
      refine mx_getr 6 (a1 + 11) dX7_giveBack_118 fl_X7_60 ha1 (rf_6_5 ha1) ?_
      refine ex_aload_n dX7_giveBack_121 rfl ?_
      refine ex_bipush 6 dX7_giveBack_122 kB_6 ?_
      obtain ⟨x40, qx40, h⟩ := b1E h
      refine mx_iald x40 dX7_giveBack_124 qx40 ?_
      obtain ⟨M41, eM41, h⟩ := ltE h
      refine mx_cVv [.int x40] [] (a1 + 11) 8 dX7_giveBack_125 cl_X7_76 im_X8_keepFirst cy_X8_keepFirst (oc_6_5 ha1) rfl (Nat.le_of_ble_eq_true rfl) (by decide) (t_X8_keepFirst l E (a1 + 11) x40 (oc_6_5 ha1) M39 eM41.symm) ?_
      refine ex_iconst 1 dX7_giveBack_128 kI_1 ?_
      cases h
      exact mx_reti .boolean dX7_giveBack_129 ⟨rfl, by decide⟩
    clear h
    refine ex_if_le 36 dX7_giveBack_24 (by decide) (fun c3 => ?_) (fun c3 => ?_)
    · exact JXC5 (Or.inl c3)
    · refine ex_aload_n dX7_giveBack_27 rfl ?_
      refine mx_geti 7 dX7_giveBack_28 fl_X7_29 oc_at_115 (isi_7_3 oc_at_115) ?_
      refine ex_bipush 6 dX7_giveBack_31 kB_6 ?_
      refine ex_icmp_lt 40 dX7_giveBack_33 (by decide) (fun c4 => ?_) (fun c4 => ?_)
      · refine ex_aload_n dX7_giveBack_40 rfl ?_
        refine mx_geti 7 dX7_giveBack_41 fl_X7_29 oc_at_115 (isi_7_3 oc_at_115) ?_
        refine ex_iconst 1 dX7_giveBack_44 kI_1 ?_
        refine ex_isub dX7_giveBack_45 ?_
        exact JYC5 (fun z => z.elim c3 (fun z => z c4))
      · exact JXC5 (Or.inr c4)
  · rw [if_neg c1] at h
    refine ex_iconst 0 dX7_giveBack_7 kI_0 ?_
    cases h
    exact mx_reti .boolean dX7_giveBack_8 ⟨rfl, by decide⟩
def f_X8_addTold (o : Nat) (a1 : Int32) (a2 : Int32) (a3 : Int32) (a4 : Int32) (M : Mem) : Option (Mem × Int32) :=
  b2 (f_X8_add o a1 a2 a3 a4 M) fun M1 x2 => lt ((if x2 = (-1) then (-1) else (M1 o 3)) : Int32) fun x4 => some (M1, x4)
set_option maxRecDepth 100000 in
set_option maxHeartbeats 4000000 in
theorem t_X8_addTold (l : Launch) (E : EV) (o : Nat) (a1 : Int32) (a2 : Int32) (a3 : Int32) (a4 : Int32) (ho : oc o = some 8) (M : Mem) {M' : Mem} {r : Int32} (h : f_X8_addTold o a1 a2 a3 a4 M = some (M', r)) : RunM l E yX8_addTold cX8_addTold 5 (some .int) 4 [.ref o, .int a1, .int a2, .int a3, .int a4] M M' (some (.int r)) := by
  refine RunM.of (by decide) (Nat.le_of_ble_eq_true rfl) ?_
  show XM l E (RX8, "addTold", cX8_addTold, 5) (some .int) 4 0 [some (.ref o), some (.int a1), some (.int a2), some (.int a3), some (.int a4)] [] M M' (some (.int r))
  unfold f_X8_addTold at h
  refine ex_aload_n dX8_addTold_0 rfl ?_
  refine ex_iload_n dX8_addTold_1 rfl ?_
  refine ex_iload_n dX8_addTold_2 rfl ?_
  refine ex_iload_n dX8_addTold_3 rfl ?_
  refine ex_iload dX8_addTold_4 rfl ?_
  obtain ⟨M1, x2, qx2, h⟩ := b2E h
  refine mx_cVi [.int a1, .int a2, .int a3, .int a4] [] o 8 x2 dX8_addTold_6 cl_X8_41 im_X8_add cy_X8_add ho rfl (Nat.le_of_ble_eq_true rfl) (by decide) (t_X8_add l E o a1 a2 a3 a4 ho M qx2) ?_
  refine ex_iconst (-1) dX8_addTold_9 kI_m1 ?_
  obtain ⟨x4, ex4, h⟩ := ltE h
  have Jx4 : XM l E (RX8, "addTold", cX8_addTold, 5) (some .int) 4 21 [some (.ref o), some (.int a1), some (.int a2), some (.int a3), some (.int a4)] [.int x4] M1 M' (some (.int r)) := by
    cases h
    exact mx_reti .int dX8_addTold_21 ⟨rfl, rfl⟩
  clear h
  refine ex_icmp_ne 17 dX8_addTold_10 (by decide) (fun c3 => ?_) (fun c3 => ?_)
  · rw [if_neg c3] at ex4
    refine ex_aload_n dX8_addTold_17 rfl ?_
    refine mx_geti 8 dX8_addTold_18 fl_X8_22 ho (isi_8_3 ho) ?_
    subst ex4
    exact Jx4
  · rw [if_pos c3] at ex4
    refine ex_iconst (-1) dX8_addTold_13 kI_m1 ?_
    refine ex_goto 21 dX8_addTold_14 (by decide) ?_
    subst ex4
    exact Jx4
def f_X9_hasRoomFor (a1 : Int32) (M : Mem) : (Int32) :=
  lt ((if 400 < ((M 136 4) + a1) then 0 else 1) : Int32) fun x2 => x2
theorem z_X9_hasRoomFor (a1 : Int32) (M : Mem) : f_X9_hasRoomFor a1 M = 0 ∨ f_X9_hasRoomFor a1 M = 1 := by
  unfold f_X9_hasRoomFor
  (repeat' split) <;> first | exact Or.inl rfl | exact Or.inr rfl
set_option maxRecDepth 100000 in
set_option maxHeartbeats 4000000 in
theorem t_X9_hasRoomFor (l : Launch) (E : EV) (a1 : Int32) (M : Mem) {r : Int32} (h : f_X9_hasRoomFor a1 M = r) : RunM l E yX9_hasRoomFor cX9_hasRoomFor 2 (some .boolean) 0 [.ref 136, .int a1] M M (some (.int r)) := by
  refine RunM.of (by decide) (Nat.le_of_ble_eq_true rfl) ?_
  show XM l E (RX9, "hasRoomFor", cX9_hasRoomFor, 2) (some .boolean) 0 0 [some (.ref 136), some (.int a1)] [] M M (some (.int r))
  unfold f_X9_hasRoomFor at h
  refine ex_aload_n dX9_hasRoomFor_0 rfl ?_
  refine mx_geti 9 dX9_hasRoomFor_1 fl_X9_28 oc_at_136 (isi_9_4 oc_at_136) ?_
  refine ex_iload_n dX9_hasRoomFor_4 rfl ?_
  refine ex_iadd dX9_hasRoomFor_5 ?_
  refine ex_sipush 400 dX9_hasRoomFor_6 kS_400 ?_
  obtain ⟨x2, ex2, h⟩ := ltE h
  have Jx2 : XM l E (RX9, "hasRoomFor", cX9_hasRoomFor, 2) (some .boolean) 0 17 [some (.ref 136), some (.int a1)] [.int x2] M M (some (.int r)) := by
    subst h
    exact mx_reti .boolean dX9_hasRoomFor_17 ⟨rfl, nzB (by rw [ex2]; (repeat' split) <;> simp)⟩
  clear h
  refine ex_icmp_gt 16 dX9_hasRoomFor_9 (by decide) (fun c1 => ?_) (fun c1 => ?_)
  · rw [if_pos c1] at ex2
    refine ex_iconst 0 dX9_hasRoomFor_16 kI_0 ?_
    subst ex2
    exact Jx2
  · rw [if_neg c1] at ex2
    refine ex_iconst 1 dX9_hasRoomFor_12 kI_1 ?_
    refine ex_goto 17 dX9_hasRoomFor_13 (by decide) ?_
    subst ex2
    exact Jx2
def w_X9_addNumber_3 (a1 : Int32) (i1 : Int32) (M2 : Mem) : Option ((Int32 × Mem) ⊕ (Mem)) :=
  if (i1 < 0 ∨ ((M2 136 4) < 0 ∨ 400 ≤ (M2 136 4))) then (some (.inr M2)) else (b1 (wr M2 137 (M2 136 4) ((ush a1 i1) &&& 255)) fun M7 => lt (up2 M7 136 4 ((M7 136 4) + 1)) fun M8 => some (.inl ((i1 + (-8)), M8)))
def f_X9_addNumber (a1 : Int32) (M : Mem) : Option (Mem) :=
  b1 (lp (fun s => w_X9_addNumber_3 a1 s.1 s.2) FU (24, M)) fun q9 => some q9
set_option maxRecDepth 100000 in
set_option maxHeartbeats 4000000 in
theorem t_X9_addNumber (l : Launch) (E : EV) (a1 : Int32) (M : Mem) {M' : Mem} (h : f_X9_addNumber a1 M = some M') : RunM l E yX9_addNumber cX9_addNumber 3 none 0 [.ref 136, .int a1] M M' none := by
  refine RunM.of (by decide) (Nat.le_of_ble_eq_true rfl) ?_
  show XM l E (RX9, "addNumber", cX9_addNumber, 3) none 0 0 [some (.ref 136), some (.int a1), none] [] M M' none
  unfold f_X9_addNumber at h
  refine ex_bipush 24 dX9_addNumber_0 kB_24 ?_
  refine ex_istore_n (L2 := [some (.ref 136), some (.int a1), some (.int 24)]) dX9_addNumber_2 (by decide) rfl ?_
  refine ex_mskL [true, true, true] (L2 := [some (.ref 136), some (.int a1), some (.int 24)]) rfl ?_
  obtain ⟨q9, hlq9, h⟩ := b1E h
  have hx : XM l E (RX9, "addNumber", cX9_addNumber, 3) none 0 56 [none, none, none] [] q9 M' none := by
    cases h
    exact mx_retv dX9_addNumber_56 rfl
  clear h
  have key : ∀ (k : Nat) (s : Int32 × Mem), lp (fun s => w_X9_addNumber_3 a1 s.1 s.2) k s = some q9 → XM l E (RX9, "addNumber", cX9_addNumber, 3) none 0 3 [some (.ref 136), some (.int a1), some (.int s.1)] [] s.2 M' none := lp_ind (P := fun (s : Int32 × Mem) => XM l E (RX9, "addNumber", cX9_addNumber, 3) none 0 3 [some (.ref 136), some (.int a1), some (.int s.1)] [] s.2 M' none) (fun s t hb hk he => by
    obtain ⟨i1, M2⟩ := s
    show XM l E (RX9, "addNumber", cX9_addNumber, 3) none 0 3 [some (.ref 136), some (.int a1), some (.int i1)] [] M2 M' none
    change w_X9_addNumber_3 a1 i1 M2 = some t at hb
    unfold w_X9_addNumber_3 at hb
    refine ex_iload_n dX9_addNumber_3 rfl ?_
    have JXC6 : (i1 < 0 ∨ ((M2 136 4) < 0 ∨ 400 ≤ (M2 136 4))) → XM l E (RX9, "addNumber", cX9_addNumber, 3) none 0 56 [some (.ref 136), some (.int a1), some (.int i1)] [] M2 M' none := fun C6 => by
      rw [if_pos C6] at hb
      refine ex_mskL [false, false, false] (L2 := [none, none, none]) rfl ?_
      cases hb
      cases (he _ rfl) <;> exact hx
    have JYC6 : ¬ ((i1 < 0 ∨ ((M2 136 4) < 0 ∨ 400 ≤ (M2 136 4)))) → XM l E (RX9, "addNumber", cX9_addNumber, 3) none 0 39 [some (.ref 136), some (.int a1), some (.int i1)] [.int ((ush a1 i1) &&& 255), .int (M2 136 4), .ref 137] M2 M' none := fun C6 => by
      rw [if_neg C6] at hb
      obtain ⟨M7, qM7, hb⟩ := b1E hb
      refine mx_iast M7 dX9_addNumber_39 qM7 ?_
      refine ex_aload_n dX9_addNumber_40 rfl ?_
      refine ex_dup dX9_addNumber_41 rfl ?_
      refine mx_geti 9 dX9_addNumber_42 fl_X9_28 oc_at_136 (isi_9_4 oc_at_136) ?_
      refine ex_iconst 1 dX9_addNumber_45 kI_1 ?_
      refine ex_iadd dX9_addNumber_46 ?_
      obtain ⟨M8, eM8, hb⟩ := ltE hb
      refine mx_puti 9 dX9_addNumber_47 fl_X9_28 rfl ⟨rfl, rfl⟩ oc_at_136 (isi_9_4 oc_at_136) ?_
      rw [← eM8]
      refine ex_iinc (-8) (L2 := [some (.ref 136), some (.int a1), some (.int (i1 + (-8)))]) dX9_addNumber_50 rfl kI_m8 (by decide) rfl ?_
      refine ex_goto 3 dX9_addNumber_53 (by decide) ?_
      refine ex_mskL [true, true, true] (L2 := [some (.ref 136), some (.int a1), some (.int (i1 + (-8)))]) rfl ?_
      cases hb
      exact hk ((i1 + (-8)), M8) rfl
    clear hb
    refine ex_if_lt 56 dX9_addNumber_4 (by decide) (fun c3 => ?_) (fun c3 => ?_)
    · exact JXC6 (Or.inl c3)
    · refine ex_aload_n dX9_addNumber_7 rfl ?_
      refine mx_geti 9 dX9_addNumber_8 fl_X9_28 oc_at_136 (isi_9_4 oc_at_136) ?_
      refine ex_if_lt 56 dX9_addNumber_11 (by decide) (fun c4 => ?_) (fun c4 => ?_)
      · exact JXC6 (Or.inr (Or.inl c4))
      · refine ex_aload_n dX9_addNumber_14 rfl ?_
        refine mx_geti 9 dX9_addNumber_15 fl_X9_28 oc_at_136 (isi_9_4 oc_at_136) ?_
        refine ex_sipush 400 dX9_addNumber_18 kS_400 ?_
        refine ex_icmp_ge 56 dX9_addNumber_21 (by decide) (fun c5 => ?_) (fun c5 => ?_)
        · exact JXC6 (Or.inr (Or.inr c5))
        · refine ex_aload_n dX9_addNumber_24 rfl ?_
          refine mx_getr 9 137 dX9_addNumber_25 fl_X9_9 oc_at_136 (rf_9_0 oc_at_136) ?_
          refine ex_aload_n dX9_addNumber_28 rfl ?_
          refine mx_geti 9 dX9_addNumber_29 fl_X9_28 oc_at_136 (isi_9_4 oc_at_136) ?_
          refine ex_iload_n dX9_addNumber_32 rfl ?_
          refine ex_iload_n dX9_addNumber_33 rfl ?_
          refine ex_iushr dX9_addNumber_34 ?_
          refine ex_sipush 255 dX9_addNumber_35 kS_255 ?_
          refine ex_iand dX9_addNumber_38 ?_
          exact JYC6 (fun z => z.elim c3 (fun z => z.elim c4 c5)))
  exact key FU (24, M) hlq9
def f_X9_byteAt (a1 : Int32) (M : Mem) : Option (Int32) :=
  if (a1 < 0 ∨ ((M 136 4) ≤ a1 ∨ 400 ≤ a1)) then (some (-1)) else (b1 (rd M 137 a1) fun x5 => some x5)
set_option maxRecDepth 100000 in
set_option maxHeartbeats 4000000 in
theorem t_X9_byteAt (l : Launch) (E : EV) (a1 : Int32) (M : Mem) {r : Int32} (h : f_X9_byteAt a1 M = some r) : RunM l E yX9_byteAt cX9_byteAt 2 (some .int) 0 [.ref 136, .int a1] M M (some (.int r)) := by
  refine RunM.of (by decide) (Nat.le_of_ble_eq_true rfl) ?_
  show XM l E (RX9, "byteAt", cX9_byteAt, 2) (some .int) 0 0 [some (.ref 136), some (.int a1)] [] M M (some (.int r))
  unfold f_X9_byteAt at h
  refine ex_iload_n dX9_byteAt_0 rfl ?_
  have JXC4 : (a1 < 0 ∨ ((M 136 4) ≤ a1 ∨ 400 ≤ a1)) → XM l E (RX9, "byteAt", cX9_byteAt, 2) (some .int) 0 28 [some (.ref 136), some (.int a1)] [] M M (some (.int r)) := fun C4 => by
    rw [if_pos C4] at h
    refine ex_iconst (-1) dX9_byteAt_28 kI_m1 ?_
    cases h
    exact mx_reti .int dX9_byteAt_29 ⟨rfl, rfl⟩
  have JYC4 : ¬ ((a1 < 0 ∨ ((M 136 4) ≤ a1 ∨ 400 ≤ a1))) → XM l E (RX9, "byteAt", cX9_byteAt, 2) (some .int) 0 24 [some (.ref 136), some (.int a1)] [.int a1, .ref 137] M M (some (.int r)) := fun C4 => by
    rw [if_neg C4] at h
    obtain ⟨x5, qx5, h⟩ := b1E h
    refine mx_iald x5 dX9_byteAt_24 qx5 ?_
    refine ex_goto 29 dX9_byteAt_25 (by decide) ?_
    cases h
    exact mx_reti .int dX9_byteAt_29 ⟨rfl, rfl⟩
  clear h
  refine ex_if_lt 28 dX9_byteAt_1 (by decide) (fun c1 => ?_) (fun c1 => ?_)
  · exact JXC4 (Or.inl c1)
  · refine ex_iload_n dX9_byteAt_4 rfl ?_
    refine ex_aload_n dX9_byteAt_5 rfl ?_
    refine mx_geti 9 dX9_byteAt_6 fl_X9_28 oc_at_136 (isi_9_4 oc_at_136) ?_
    refine ex_icmp_ge 28 dX9_byteAt_9 (by decide) (fun c2 => ?_) (fun c2 => ?_)
    · exact JXC4 (Or.inr (Or.inl c2))
    · refine ex_iload_n dX9_byteAt_12 rfl ?_
      refine ex_sipush 400 dX9_byteAt_13 kS_400 ?_
      refine ex_icmp_ge 28 dX9_byteAt_16 (by decide) (fun c3 => ?_) (fun c3 => ?_)
      · exact JXC4 (Or.inr (Or.inr c3))
      · refine ex_aload_n dX9_byteAt_19 rfl ?_
        refine mx_getr 9 137 dX9_byteAt_20 fl_X9_9 oc_at_136 (rf_9_0 oc_at_136) ?_
        refine ex_iload_n dX9_byteAt_23 rfl ?_
        exact JYC4 (fun z => z.elim c1 (fun z => z.elim c2 c3))
def f_X9_isBlank (a1 : Int32) : (Int32) :=
  if (a1 = 32 ∨ a1 = 10) then (1) else (0)
theorem z_X9_isBlank (a1 : Int32) : f_X9_isBlank a1 = 0 ∨ f_X9_isBlank a1 = 1 := by
  unfold f_X9_isBlank
  (repeat' split) <;> first | exact Or.inl rfl | exact Or.inr rfl
set_option maxRecDepth 100000 in
set_option maxHeartbeats 4000000 in
theorem t_X9_isBlank (l : Launch) (E : EV) (a1 : Int32) (M : Mem) {r : Int32} (h : f_X9_isBlank a1 = r) : RunM l E yX9_isBlank cX9_isBlank 1 (some .boolean) 0 [.int a1] M M (some (.int r)) := by
  refine RunM.of (by decide) (Nat.le_of_ble_eq_true rfl) ?_
  show XM l E (RX9, "isBlank", cX9_isBlank, 1) (some .boolean) 0 0 [some (.int a1)] [] M M (some (.int r))
  unfold f_X9_isBlank at h
  refine ex_iload_n dX9_isBlank_0 rfl ?_
  refine ex_bipush 32 dX9_isBlank_1 kB_32 ?_
  have JXC3 : (a1 = 32 ∨ a1 = 10) → XM l E (RX9, "isBlank", cX9_isBlank, 1) (some .boolean) 0 12 [some (.int a1)] [] M M (some (.int r)) := fun C3 => by
    rw [if_pos C3] at h
    refine ex_iconst 1 dX9_isBlank_12 kI_1 ?_
    refine ex_goto 17 dX9_isBlank_13 (by decide) ?_
    subst h
    exact mx_reti .boolean dX9_isBlank_17 ⟨rfl, by decide⟩
  have JYC3 : ¬ ((a1 = 32 ∨ a1 = 10)) → XM l E (RX9, "isBlank", cX9_isBlank, 1) (some .boolean) 0 17 [some (.int a1)] [.int 0] M M (some (.int r)) := fun C3 => by
    rw [if_neg C3] at h
    subst h
    exact mx_reti .boolean dX9_isBlank_17 ⟨rfl, by decide⟩
  clear h
  refine ex_icmp_eq 12 dX9_isBlank_3 (by decide) (fun c1 => ?_) (fun c1 => ?_)
  · exact JXC3 (Or.inl c1)
  · refine ex_iload_n dX9_isBlank_6 rfl ?_
    refine ex_bipush 10 dX9_isBlank_7 kB_10 ?_
    refine ex_icmp_ne 16 dX9_isBlank_9 (by decide) (fun c2 => ?_) (fun c2 => ?_)
    · refine ex_iconst 0 dX9_isBlank_16 kI_0 ?_
      exact JYC3 (fun z => z.elim c1 c2)
    · exact JXC3 (Or.inr c2)
def f_X9_isLetter (a1 : Int32) : (Int32) :=
  if ((f_X10_within a1 97 122) = 0 ∧ (f_X10_within a1 65 90) = 0) then (0) else (1)
theorem z_X9_isLetter (a1 : Int32) : f_X9_isLetter a1 = 0 ∨ f_X9_isLetter a1 = 1 := by
  unfold f_X9_isLetter
  (repeat' split) <;> first | exact Or.inl rfl | exact Or.inr rfl | exact z_X10_within _ _ _
set_option maxRecDepth 100000 in
set_option maxHeartbeats 4000000 in
theorem t_X9_isLetter (l : Launch) (E : EV) (a1 : Int32) (M : Mem) {r : Int32} (h : f_X9_isLetter a1 = r) : RunM l E yX9_isLetter cX9_isLetter 1 (some .boolean) 1 [.int a1] M M (some (.int r)) := by
  refine RunM.of (by decide) (Nat.le_of_ble_eq_true rfl) ?_
  show XM l E (RX9, "isLetter", cX9_isLetter, 1) (some .boolean) 1 0 [some (.int a1)] [] M M (some (.int r))
  unfold f_X9_isLetter at h
  refine ex_iload_n dX9_isLetter_0 rfl ?_
  refine ex_bipush 97 dX9_isLetter_1 kB_97 ?_
  refine ex_bipush 122 dX9_isLetter_3 kB_122 ?_
  refine mx_cSi [.int a1, .int 97, .int 122] [] (f_X10_within a1 97 122) dX9_isLetter_5 cl_X9_74 sm_X10_within rfl (Nat.le_of_ble_eq_true rfl) (by decide) (t_X10_within l E a1 97 122 M rfl) ?_
  have JXC3 : ((f_X10_within a1 97 122) = 0 ∧ (f_X10_within a1 65 90) = 0) → XM l E (RX9, "isLetter", cX9_isLetter, 1) (some .boolean) 1 27 [some (.int a1)] [.int 0] M M (some (.int r)) := fun C3 => by
    rw [if_pos C3] at h
    subst h
    exact mx_reti .boolean dX9_isLetter_27 ⟨rfl, by decide⟩
  have JYC3 : ¬ (((f_X10_within a1 97 122) = 0 ∧ (f_X10_within a1 65 90) = 0)) → XM l E (RX9, "isLetter", cX9_isLetter, 1) (some .boolean) 1 22 [some (.int a1)] [] M M (some (.int r)) := fun C3 => by
    rw [if_neg C3] at h
    refine ex_iconst 1 dX9_isLetter_22 kI_1 ?_
    refine ex_goto 27 dX9_isLetter_23 (by decide) ?_
    subst h
    exact mx_reti .boolean dX9_isLetter_27 ⟨rfl, by decide⟩
  clear h
  refine ex_if_ne 22 dX9_isLetter_8 (by decide) (fun c1 => ?_) (fun c1 => ?_)
  · exact JYC3 (fun z => c1 z.1)
  · refine ex_iload_n dX9_isLetter_11 rfl ?_
    refine ex_bipush 65 dX9_isLetter_12 kB_65 ?_
    refine ex_bipush 90 dX9_isLetter_14 kB_90 ?_
    refine mx_cSi [.int a1, .int 65, .int 90] [] (f_X10_within a1 65 90) dX9_isLetter_16 cl_X9_74 sm_X10_within rfl (Nat.le_of_ble_eq_true rfl) (by decide) (t_X10_within l E a1 65 90 M rfl) ?_
    refine ex_if_eq 26 dX9_isLetter_19 (by decide) (fun c2 => ?_) (fun c2 => ?_)
    · refine ex_iconst 0 dX9_isLetter_26 kI_0 ?_
      exact JXC3 ⟨c1, c2⟩
    · exact JYC3 (fun z => c2 z.2)
def w_X9_behindLetters_2 (M : Mem) (i1 : Int32) : Option ((Int32) ⊕ (Int32)) :=
  if (M 136 4) ≤ i1 then (some (.inr i1)) else (b1 (f_X9_byteAt i1 M) fun x3 => if (f_X9_isLetter x3) = 0 then (some (.inr i1)) else (some (.inl (i1 + 1))))
def f_X9_behindLetters (a1 : Int32) (M : Mem) : Option (Int32) :=
  b1 (lp (fun s => w_X9_behindLetters_2 M s) FU a1) fun q5 => some q5
set_option maxRecDepth 100000 in
set_option maxHeartbeats 4000000 in
theorem t_X9_behindLetters (l : Launch) (E : EV) (a1 : Int32) (M : Mem) {r : Int32} (h : f_X9_behindLetters a1 M = some r) : RunM l E yX9_behindLetters cX9_behindLetters 3 (some .int) 2 [.ref 136, .int a1] M M (some (.int r)) := by
  refine RunM.of (by decide) (Nat.le_of_ble_eq_true rfl) ?_
  show XM l E (RX9, "behindLetters", cX9_behindLetters, 3) (some .int) 2 0 [some (.ref 136), some (.int a1), none] [] M M (some (.int r))
  unfold f_X9_behindLetters at h
  refine ex_iload_n dX9_behindLetters_0 rfl ?_
  refine ex_istore_n (L2 := [some (.ref 136), some (.int a1), some (.int a1)]) dX9_behindLetters_1 (by decide) rfl ?_
  refine ex_mskL [true, false, true] (L2 := [some (.ref 136), none, some (.int a1)]) rfl ?_
  obtain ⟨q5, hlq5, h⟩ := b1E h
  have hx : XM l E (RX9, "behindLetters", cX9_behindLetters, 3) (some .int) 2 27 [none, none, some (.int q5)] [] M M (some (.int r)) := by
    refine ex_iload_n dX9_behindLetters_27 rfl ?_
    cases h
    exact mx_reti .int dX9_behindLetters_28 ⟨rfl, rfl⟩
  clear h
  have key : ∀ (k : Nat) (s : Int32), lp (fun s => w_X9_behindLetters_2 M s) k s = some q5 → XM l E (RX9, "behindLetters", cX9_behindLetters, 3) (some .int) 2 2 [some (.ref 136), none, some (.int s)] [] M M (some (.int r)) := lp_ind (P := fun (s : Int32) => XM l E (RX9, "behindLetters", cX9_behindLetters, 3) (some .int) 2 2 [some (.ref 136), none, some (.int s)] [] M M (some (.int r))) (fun s t hb hk he => by
    revert hb hk he; generalize s = i1; intro hb hk he
    show XM l E (RX9, "behindLetters", cX9_behindLetters, 3) (some .int) 2 2 [some (.ref 136), none, some (.int i1)] [] M M (some (.int r))
    change w_X9_behindLetters_2 M i1 = some t at hb
    unfold w_X9_behindLetters_2 at hb
    refine ex_iload_n dX9_behindLetters_2 rfl ?_
    refine ex_aload_n dX9_behindLetters_3 rfl ?_
    refine mx_geti 9 dX9_behindLetters_4 fl_X9_28 oc_at_136 (isi_9_4 oc_at_136) ?_
    refine ex_icmp_ge 27 dX9_behindLetters_7 (by decide) (fun c2 => ?_) (fun c2 => ?_)
    · rw [if_pos c2] at hb
      refine ex_mskL [false, false, true] (L2 := [none, none, some (.int i1)]) rfl ?_
      cases hb
      cases (he _ rfl) <;> exact hx
    · rw [if_neg c2] at hb
      refine ex_aload_n dX9_behindLetters_10 rfl ?_
      refine ex_iload_n dX9_behindLetters_11 rfl ?_
      obtain ⟨x3, qx3, hb⟩ := b1E hb
      refine mx_cVi [.int i1] [] 136 9 x3 dX9_behindLetters_12 cl_X9_40 im_X9_byteAt cy_X9_byteAt oc_at_136 rfl (Nat.le_of_ble_eq_true rfl) (by decide) (t_X9_byteAt l E i1 M qx3) ?_
      refine mx_cSi [.int x3] [] (f_X9_isLetter x3) dX9_behindLetters_15 cl_X9_55 sm_X9_isLetter rfl (Nat.le_of_ble_eq_true rfl) (by decide) (t_X9_isLetter l E x3 M rfl) ?_
      refine ex_if_eq 27 dX9_behindLetters_18 (by decide) (fun c4 => ?_) (fun c4 => ?_)
      · rw [if_pos c4] at hb
        refine ex_mskL [false, false, true] (L2 := [none, none, some (.int i1)]) rfl ?_
        cases hb
        cases (he _ rfl) <;> exact hx
      · rw [if_neg c4] at hb
        refine ex_iinc 1 (L2 := [some (.ref 136), none, some (.int (i1 + 1))]) dX9_behindLetters_21 rfl kI_1 (by decide) rfl ?_
        refine ex_goto 2 dX9_behindLetters_24 (by decide) ?_
        refine ex_mskL [true, false, true] (L2 := [some (.ref 136), none, some (.int (i1 + 1))]) rfl ?_
        cases hb
        exact hk (i1 + 1) rfl)
  exact key FU a1 hlq5
def w_X9_isWordAt_3 (a1 : Int32) (a2 : Int32) (a3 : Int32) (M : Mem) (i1 : Int32) : Option ((Int32) ⊕ ((Unit) ⊕ (Unit))) :=
  if a3 ≤ i1 then (some (.inr (.inr ()))) else (b1 (strLn 1000001) fun x3 => if x3 ≤ i1 then (some (.inr (.inr ()))) else (b1 (strAt 1000001 i1) fun x5 => b1 (f_X9_byteAt ((a1 + i1) - a2) M) fun x6 => if x5 = x6 then (some (.inl (i1 + 1))) else (some (.inr (.inl ())))))
def f_X9_isWordAt (a1 : Int32) (a2 : Int32) (a3 : Int32) (M : Mem) : Option (Int32) :=
  b1 (lp (fun s => w_X9_isWordAt_3 a1 a2 a3 M s) FU a2) fun q8 => match q8 with | .inl u9 => (some 0) | .inr u10 => (some 1)
set_option maxRecDepth 100000 in
set_option maxHeartbeats 4000000 in
theorem t_X9_isWordAt (l : Launch) (E : EV) (a1 : Int32) (a2 : Int32) (a3 : Int32) (M : Mem) {r : Int32} (h : f_X9_isWordAt a1 a2 a3 M = some r) : RunM l E yX9_isWordAt cX9_isWordAt 5 (some .boolean) 6 [.ref 136, .int a1, .int a2, .int a3] M M (some (.int r)) := by
  refine RunM.of (by decide) (Nat.le_of_ble_eq_true rfl) ?_
  show XM l E (RX9, "isWordAt", cX9_isWordAt, 5) (some .boolean) 6 0 [some (.ref 136), some (.int a1), some (.int a2), some (.int a3), none] [] M M (some (.int r))
  unfold f_X9_isWordAt at h
  refine ex_iload_n dX9_isWordAt_0 rfl ?_
  refine ex_istore (L2 := [some (.ref 136), some (.int a1), some (.int a2), some (.int a3), some (.int a2)]) dX9_isWordAt_1 (by decide) rfl ?_
  refine ex_mskL [true, true, true, true, true] (L2 := [some (.ref 136), some (.int a1), some (.int a2), some (.int a3), some (.int a2)]) rfl ?_
  obtain ⟨q8, hlq8, h⟩ := b1E h
  rcases q8 with ⟨⟩ | ⟨⟩
  · dsimp only at h
    have hx : XM l E (RX9, "isWordAt", cX9_isWordAt, 5) (some .boolean) 6 39 [none, none, none, none, none] [] M M (some (.int r)) := by
      refine ex_iconst 0 dX9_isWordAt_39 kI_0 ?_
      cases h
      exact mx_reti .boolean dX9_isWordAt_40 ⟨rfl, by decide⟩
    clear h
    have key : ∀ (k : Nat) (s : Int32), lp (fun s => w_X9_isWordAt_3 a1 a2 a3 M s) k s = some (.inl ()) → XM l E (RX9, "isWordAt", cX9_isWordAt, 5) (some .boolean) 6 3 [some (.ref 136), some (.int a1), some (.int a2), some (.int a3), some (.int s)] [] M M (some (.int r)) := lp_ind (P := fun (s : Int32) => XM l E (RX9, "isWordAt", cX9_isWordAt, 5) (some .boolean) 6 3 [some (.ref 136), some (.int a1), some (.int a2), some (.int a3), some (.int s)] [] M M (some (.int r))) (fun s t hb hk he => by
      revert hb hk he; generalize s = i1; intro hb hk he
      show XM l E (RX9, "isWordAt", cX9_isWordAt, 5) (some .boolean) 6 3 [some (.ref 136), some (.int a1), some (.int a2), some (.int a3), some (.int i1)] [] M M (some (.int r))
      change w_X9_isWordAt_3 a1 a2 a3 M i1 = some t at hb
      unfold w_X9_isWordAt_3 at hb
      refine ex_iload dX9_isWordAt_3 rfl ?_
      refine ex_iload_n dX9_isWordAt_5 rfl ?_
      refine ex_icmp_ge 47 dX9_isWordAt_6 (by decide) (fun c2 => ?_) (fun c2 => ?_)
      · rw [if_pos c2] at hb
        refine ex_mskL [false, false, false, false, false] (L2 := [none, none, none, none, none]) rfl ?_
        cases hb
        cases (he _ rfl) <;> exact hx
      · rw [if_neg c2] at hb
        refine ex_iload dX9_isWordAt_9 rfl ?_
        refine ex_ldcS 0 dX9_isWordAt_11 rfl ?_
        obtain ⟨x3, qx3, hb⟩ := b1E hb
        refine mx_cJi [] [.int i1] 1000001 x3 dX9_isWordAt_13 cl_X9_80 im_J0_length_8abf5 rfl (Nat.le_of_ble_eq_true rfl) (by decide) (sLnOK qx3) (t_J0_length_8abf5 l E M 1000001 qx3) ?_
        refine ex_icmp_ge 47 dX9_isWordAt_16 (by decide) (fun c4 => ?_) (fun c4 => ?_)
        · rw [if_pos c4] at hb
          refine ex_mskL [false, false, false, false, false] (L2 := [none, none, none, none, none]) rfl ?_
          cases hb
          cases (he _ rfl) <;> exact hx
        · rw [if_neg c4] at hb
          refine ex_ldcS 0 dX9_isWordAt_19 rfl ?_
          refine ex_iload dX9_isWordAt_21 rfl ?_
          obtain ⟨x5, qx5, hb⟩ := b1E hb
          refine mx_cJi [.int i1] [] 1000001 x5 dX9_isWordAt_23 cl_X9_85 im_J0_charAt_5068e rfl (Nat.le_of_ble_eq_true rfl) (by decide) (sAtOK qx5) (t_J0_charAt_5068e l E M 1000001 i1 qx5) ?_
          refine ex_aload_n dX9_isWordAt_26 rfl ?_
          refine ex_iload_n dX9_isWordAt_27 rfl ?_
          refine ex_iload dX9_isWordAt_28 rfl ?_
          refine ex_iadd dX9_isWordAt_30 ?_
          refine ex_iload_n dX9_isWordAt_31 rfl ?_
          refine ex_isub dX9_isWordAt_32 ?_
          obtain ⟨x6, qx6, hb⟩ := b1E hb
          refine mx_cVi [.int ((a1 + i1) - a2)] [.int x5] 136 9 x6 dX9_isWordAt_33 cl_X9_40 im_X9_byteAt cy_X9_byteAt oc_at_136 rfl (Nat.le_of_ble_eq_true rfl) (by decide) (t_X9_byteAt l E ((a1 + i1) - a2) M qx6) ?_
          refine ex_icmp_eq 41 dX9_isWordAt_36 (by decide) (fun c7 => ?_) (fun c7 => ?_)
          · rw [if_pos c7] at hb
            refine ex_iinc 1 (L2 := [some (.ref 136), some (.int a1), some (.int a2), some (.int a3), some (.int (i1 + 1))]) dX9_isWordAt_41 rfl kI_1 (by decide) rfl ?_
            refine ex_goto 3 dX9_isWordAt_44 (by decide) ?_
            refine ex_mskL [true, true, true, true, true] (L2 := [some (.ref 136), some (.int a1), some (.int a2), some (.int a3), some (.int (i1 + 1))]) rfl ?_
            cases hb
            exact hk (i1 + 1) rfl
          · rw [if_neg c7] at hb
            refine ex_mskL [false, false, false, false, false] (L2 := [none, none, none, none, none]) rfl ?_
            cases hb
            cases (he _ rfl) <;> exact hx)
    exact key FU a2 hlq8
  · dsimp only at h
    have hx : XM l E (RX9, "isWordAt", cX9_isWordAt, 5) (some .boolean) 6 47 [none, none, none, none, none] [] M M (some (.int r)) := by
      refine ex_iconst 1 dX9_isWordAt_47 kI_1 ?_
      cases h
      exact mx_reti .boolean dX9_isWordAt_48 ⟨rfl, by decide⟩
    clear h
    have key : ∀ (k : Nat) (s : Int32), lp (fun s => w_X9_isWordAt_3 a1 a2 a3 M s) k s = some (.inr ()) → XM l E (RX9, "isWordAt", cX9_isWordAt, 5) (some .boolean) 6 3 [some (.ref 136), some (.int a1), some (.int a2), some (.int a3), some (.int s)] [] M M (some (.int r)) := lp_ind (P := fun (s : Int32) => XM l E (RX9, "isWordAt", cX9_isWordAt, 5) (some .boolean) 6 3 [some (.ref 136), some (.int a1), some (.int a2), some (.int a3), some (.int s)] [] M M (some (.int r))) (fun s t hb hk he => by
      revert hb hk he; generalize s = i1; intro hb hk he
      show XM l E (RX9, "isWordAt", cX9_isWordAt, 5) (some .boolean) 6 3 [some (.ref 136), some (.int a1), some (.int a2), some (.int a3), some (.int i1)] [] M M (some (.int r))
      change w_X9_isWordAt_3 a1 a2 a3 M i1 = some t at hb
      unfold w_X9_isWordAt_3 at hb
      refine ex_iload dX9_isWordAt_3 rfl ?_
      refine ex_iload_n dX9_isWordAt_5 rfl ?_
      refine ex_icmp_ge 47 dX9_isWordAt_6 (by decide) (fun c2 => ?_) (fun c2 => ?_)
      · rw [if_pos c2] at hb
        refine ex_mskL [false, false, false, false, false] (L2 := [none, none, none, none, none]) rfl ?_
        cases hb
        cases (he _ rfl) <;> exact hx
      · rw [if_neg c2] at hb
        refine ex_iload dX9_isWordAt_9 rfl ?_
        refine ex_ldcS 0 dX9_isWordAt_11 rfl ?_
        obtain ⟨x3, qx3, hb⟩ := b1E hb
        refine mx_cJi [] [.int i1] 1000001 x3 dX9_isWordAt_13 cl_X9_80 im_J0_length_8abf5 rfl (Nat.le_of_ble_eq_true rfl) (by decide) (sLnOK qx3) (t_J0_length_8abf5 l E M 1000001 qx3) ?_
        refine ex_icmp_ge 47 dX9_isWordAt_16 (by decide) (fun c4 => ?_) (fun c4 => ?_)
        · rw [if_pos c4] at hb
          refine ex_mskL [false, false, false, false, false] (L2 := [none, none, none, none, none]) rfl ?_
          cases hb
          cases (he _ rfl) <;> exact hx
        · rw [if_neg c4] at hb
          refine ex_ldcS 0 dX9_isWordAt_19 rfl ?_
          refine ex_iload dX9_isWordAt_21 rfl ?_
          obtain ⟨x5, qx5, hb⟩ := b1E hb
          refine mx_cJi [.int i1] [] 1000001 x5 dX9_isWordAt_23 cl_X9_85 im_J0_charAt_5068e rfl (Nat.le_of_ble_eq_true rfl) (by decide) (sAtOK qx5) (t_J0_charAt_5068e l E M 1000001 i1 qx5) ?_
          refine ex_aload_n dX9_isWordAt_26 rfl ?_
          refine ex_iload_n dX9_isWordAt_27 rfl ?_
          refine ex_iload dX9_isWordAt_28 rfl ?_
          refine ex_iadd dX9_isWordAt_30 ?_
          refine ex_iload_n dX9_isWordAt_31 rfl ?_
          refine ex_isub dX9_isWordAt_32 ?_
          obtain ⟨x6, qx6, hb⟩ := b1E hb
          refine mx_cVi [.int ((a1 + i1) - a2)] [.int x5] 136 9 x6 dX9_isWordAt_33 cl_X9_40 im_X9_byteAt cy_X9_byteAt oc_at_136 rfl (Nat.le_of_ble_eq_true rfl) (by decide) (t_X9_byteAt l E ((a1 + i1) - a2) M qx6) ?_
          refine ex_icmp_eq 41 dX9_isWordAt_36 (by decide) (fun c7 => ?_) (fun c7 => ?_)
          · rw [if_pos c7] at hb
            refine ex_iinc 1 (L2 := [some (.ref 136), some (.int a1), some (.int a2), some (.int a3), some (.int (i1 + 1))]) dX9_isWordAt_41 rfl kI_1 (by decide) rfl ?_
            refine ex_goto 3 dX9_isWordAt_44 (by decide) ?_
            refine ex_mskL [true, true, true, true, true] (L2 := [some (.ref 136), some (.int a1), some (.int a2), some (.int a3), some (.int (i1 + 1))]) rfl ?_
            cases hb
            exact hk (i1 + 1) rfl
          · rw [if_neg c7] at hb
            refine ex_mskL [false, false, false, false, false] (L2 := [none, none, none, none, none]) rfl ?_
            cases hb
            cases (he _ rfl) <;> exact hx)
    exact key FU a2 hlq8
def w_X9_wordBetween_10 (a1 : Int32) (a2 : Int32) (M : Mem) (i1 : Int32) (i2 : Int32) (i3 : Int32) : Option ((Int32 × Int32 × Int32) ⊕ ((Int32) ⊕ (Unit))) :=
  b1 (strLn 1000001) fun x4 => if x4 ≤ i3 then (some (.inr (.inr ()))) else (b1 (strAt 1000001 i3) fun x6 => if x6 = 32 then (if (i3 - i2) = (a2 - a1) then (b1 (f_X9_isWordAt a1 i2 i3 M) fun x9 => if x9 = 0 then (some (.inl ((i1 + 1), (i3 + 1), (i3 + 1)))) else (some (.inr (.inl i1)))) else (some (.inl ((i1 + 1), (i3 + 1), (i3 + 1))))) else (some (.inl (i1, i2, (i3 + 1)))))
def f_X9_wordBetween (a1 : Int32) (a2 : Int32) (M : Mem) : Option (Int32) :=
  b1 (lp (fun s => w_X9_wordBetween_10 a1 a2 M s.1 s.2.1 s.2.2) FU (300, 0, 0)) fun q11 => match q11 with | .inl u12 => (some u12) | .inr u13 => (some 257)
set_option maxRecDepth 100000 in
set_option maxHeartbeats 4000000 in
theorem t_X9_wordBetween (l : Launch) (E : EV) (a1 : Int32) (a2 : Int32) (M : Mem) {r : Int32} (h : f_X9_wordBetween a1 a2 M = some r) : RunM l E yX9_wordBetween cX9_wordBetween 6 (some .int) 7 [.ref 136, .int a1, .int a2] M M (some (.int r)) := by
  refine RunM.of (by decide) (Nat.le_of_ble_eq_true rfl) ?_
  show XM l E (RX9, "wordBetween", cX9_wordBetween, 6) (some .int) 7 0 [some (.ref 136), some (.int a1), some (.int a2), none, none, none] [] M M (some (.int r))
  unfold f_X9_wordBetween at h
  refine ex_sipush 300 dX9_wordBetween_0 kS_300 ?_
  refine ex_istore_n (L2 := [some (.ref 136), some (.int a1), some (.int a2), some (.int 300), none, none]) dX9_wordBetween_3 (by decide) rfl ?_
  refine ex_iconst 0 dX9_wordBetween_4 kI_0 ?_
  refine ex_istore (L2 := [some (.ref 136), some (.int a1), some (.int a2), some (.int 300), some (.int 0), none]) dX9_wordBetween_5 (by decide) rfl ?_
  refine ex_iconst 0 dX9_wordBetween_7 kI_0 ?_
  refine ex_istore (L2 := [some (.ref 136), some (.int a1), some (.int a2), some (.int 300), some (.int 0), some (.int 0)]) dX9_wordBetween_8 (by decide) rfl ?_
  refine ex_mskL [true, true, true, true, true, true] (L2 := [some (.ref 136), some (.int a1), some (.int a2), some (.int 300), some (.int 0), some (.int 0)]) rfl ?_
  obtain ⟨q11, hlq11, h⟩ := b1E h
  rcases q11 with u12 | ⟨⟩
  · dsimp only at h
    have hx : XM l E (RX9, "wordBetween", cX9_wordBetween, 6) (some .int) 7 55 [none, none, none, some (.int u12), none, none] [] M M (some (.int r)) := by
      refine ex_iload_n dX9_wordBetween_55 rfl ?_
      cases h
      exact mx_reti .int dX9_wordBetween_56 ⟨rfl, rfl⟩
    clear h
    have key : ∀ (k : Nat) (s : Int32 × Int32 × Int32), lp (fun s => w_X9_wordBetween_10 a1 a2 M s.1 s.2.1 s.2.2) k s = some (.inl u12) → XM l E (RX9, "wordBetween", cX9_wordBetween, 6) (some .int) 7 10 [some (.ref 136), some (.int a1), some (.int a2), some (.int s.1), some (.int s.2.1), some (.int s.2.2)] [] M M (some (.int r)) := lp_ind (P := fun (s : Int32 × Int32 × Int32) => XM l E (RX9, "wordBetween", cX9_wordBetween, 6) (some .int) 7 10 [some (.ref 136), some (.int a1), some (.int a2), some (.int s.1), some (.int s.2.1), some (.int s.2.2)] [] M M (some (.int r))) (fun s t hb hk he => by
      obtain ⟨i1, i2, i3⟩ := s
      show XM l E (RX9, "wordBetween", cX9_wordBetween, 6) (some .int) 7 10 [some (.ref 136), some (.int a1), some (.int a2), some (.int i1), some (.int i2), some (.int i3)] [] M M (some (.int r))
      change w_X9_wordBetween_10 a1 a2 M i1 i2 i3 = some t at hb
      unfold w_X9_wordBetween_10 at hb
      refine ex_iload dX9_wordBetween_10 rfl ?_
      refine ex_ldcS 0 dX9_wordBetween_12 rfl ?_
      obtain ⟨x4, qx4, hb⟩ := b1E hb
      refine mx_cJi [] [.int i3] 1000001 x4 dX9_wordBetween_14 cl_X9_80 im_J0_length_8abf5 rfl (Nat.le_of_ble_eq_true rfl) (by decide) (sLnOK qx4) (t_J0_length_8abf5 l E M 1000001 qx4) ?_
      refine ex_icmp_ge 72 dX9_wordBetween_17 (by decide) (fun c5 => ?_) (fun c5 => ?_)
      · rw [if_pos c5] at hb
        refine ex_mskL [false, false, false, false, false, false] (L2 := [none, none, none, none, none, none]) rfl ?_
        cases hb
        cases (he _ rfl) <;> exact hx
      · rw [if_neg c5] at hb
        refine ex_ldcS 0 dX9_wordBetween_20 rfl ?_
        refine ex_iload dX9_wordBetween_22 rfl ?_
        obtain ⟨x6, qx6, hb⟩ := b1E hb
        refine mx_cJi [.int i3] [] 1000001 x6 dX9_wordBetween_24 cl_X9_85 im_J0_charAt_5068e rfl (Nat.le_of_ble_eq_true rfl) (by decide) (sAtOK qx6) (t_J0_charAt_5068e l E M 1000001 i3 qx6) ?_
        refine ex_bipush 32 dX9_wordBetween_27 kB_32 ?_
        refine ex_icmp_ne 66 dX9_wordBetween_29 (by decide) (fun c7 => ?_) (fun c7 => ?_)
        · rw [if_neg c7] at hb
          refine ex_iinc 1 (L2 := [some (.ref 136), some (.int a1), some (.int a2), some (.int i1), some (.int i2), some (.int (i3 + 1))]) dX9_wordBetween_66 rfl kI_1 (by decide) rfl ?_
          refine ex_goto 10 dX9_wordBetween_69 (by decide) ?_
          refine ex_mskL [true, true, true, true, true, true] (L2 := [some (.ref 136), some (.int a1), some (.int a2), some (.int i1), some (.int i2), some (.int (i3 + 1))]) rfl ?_
          cases hb
          exact hk (i1, i2, (i3 + 1)) rfl
        · rw [if_pos c7] at hb
          refine ex_iload dX9_wordBetween_32 rfl ?_
          refine ex_iload dX9_wordBetween_34 rfl ?_
          refine ex_isub dX9_wordBetween_36 ?_
          refine ex_iload_n dX9_wordBetween_37 rfl ?_
          refine ex_iload_n dX9_wordBetween_38 rfl ?_
          refine ex_isub dX9_wordBetween_39 ?_
          refine ex_icmp_ne 57 dX9_wordBetween_40 (by decide) (fun c8 => ?_) (fun c8 => ?_)
          · rw [if_neg c8] at hb
            refine ex_iinc 1 (L2 := [some (.ref 136), some (.int a1), some (.int a2), some (.int (i1 + 1)), some (.int i2), some (.int i3)]) dX9_wordBetween_57 rfl kI_1 (by decide) rfl ?_
            refine ex_iload dX9_wordBetween_60 rfl ?_
            refine ex_iconst 1 dX9_wordBetween_62 kI_1 ?_
            refine ex_iadd dX9_wordBetween_63 ?_
            refine ex_istore (L2 := [some (.ref 136), some (.int a1), some (.int a2), some (.int (i1 + 1)), some (.int (i3 + 1)), some (.int i3)]) dX9_wordBetween_64 (by decide) rfl ?_
            refine ex_iinc 1 (L2 := [some (.ref 136), some (.int a1), some (.int a2), some (.int (i1 + 1)), some (.int (i3 + 1)), some (.int (i3 + 1))]) dX9_wordBetween_66 rfl kI_1 (by decide) rfl ?_
            refine ex_goto 10 dX9_wordBetween_69 (by decide) ?_
            refine ex_mskL [true, true, true, true, true, true] (L2 := [some (.ref 136), some (.int a1), some (.int a2), some (.int (i1 + 1)), some (.int (i3 + 1)), some (.int (i3 + 1))]) rfl ?_
            cases hb
            exact hk ((i1 + 1), (i3 + 1), (i3 + 1)) rfl
          · rw [if_pos c8] at hb
            refine ex_aload_n dX9_wordBetween_43 rfl ?_
            refine ex_iload_n dX9_wordBetween_44 rfl ?_
            refine ex_iload dX9_wordBetween_45 rfl ?_
            refine ex_iload dX9_wordBetween_47 rfl ?_
            obtain ⟨x9, qx9, hb⟩ := b1E hb
            refine mx_cVi [.int a1, .int i2, .int i3] [] 136 9 x9 dX9_wordBetween_49 cl_X9_89 im_X9_isWordAt cy_X9_isWordAt oc_at_136 rfl (Nat.le_of_ble_eq_true rfl) (by decide) (t_X9_isWordAt l E a1 i2 i3 M qx9) ?_
            refine ex_if_eq 57 dX9_wordBetween_52 (by decide) (fun c10 => ?_) (fun c10 => ?_)
            · rw [if_pos c10] at hb
              refine ex_iinc 1 (L2 := [some (.ref 136), some (.int a1), some (.int a2), some (.int (i1 + 1)), some (.int i2), some (.int i3)]) dX9_wordBetween_57 rfl kI_1 (by decide) rfl ?_
              refine ex_iload dX9_wordBetween_60 rfl ?_
              refine ex_iconst 1 dX9_wordBetween_62 kI_1 ?_
              refine ex_iadd dX9_wordBetween_63 ?_
              refine ex_istore (L2 := [some (.ref 136), some (.int a1), some (.int a2), some (.int (i1 + 1)), some (.int (i3 + 1)), some (.int i3)]) dX9_wordBetween_64 (by decide) rfl ?_
              refine ex_iinc 1 (L2 := [some (.ref 136), some (.int a1), some (.int a2), some (.int (i1 + 1)), some (.int (i3 + 1)), some (.int (i3 + 1))]) dX9_wordBetween_66 rfl kI_1 (by decide) rfl ?_
              refine ex_goto 10 dX9_wordBetween_69 (by decide) ?_
              refine ex_mskL [true, true, true, true, true, true] (L2 := [some (.ref 136), some (.int a1), some (.int a2), some (.int (i1 + 1)), some (.int (i3 + 1)), some (.int (i3 + 1))]) rfl ?_
              cases hb
              exact hk ((i1 + 1), (i3 + 1), (i3 + 1)) rfl
            · rw [if_neg c10] at hb
              refine ex_mskL [false, false, false, true, false, false] (L2 := [none, none, none, some (.int i1), none, none]) rfl ?_
              cases hb
              cases (he _ rfl) <;> exact hx)
    exact key FU (300, 0, 0) hlq11
  · dsimp only at h
    have hx : XM l E (RX9, "wordBetween", cX9_wordBetween, 6) (some .int) 7 72 [none, none, none, none, none, none] [] M M (some (.int r)) := by
      refine ex_sipush 257 dX9_wordBetween_72 kS_257 ?_
      cases h
      exact mx_reti .int dX9_wordBetween_75 ⟨rfl, rfl⟩
    clear h
    have key : ∀ (k : Nat) (s : Int32 × Int32 × Int32), lp (fun s => w_X9_wordBetween_10 a1 a2 M s.1 s.2.1 s.2.2) k s = some (.inr ()) → XM l E (RX9, "wordBetween", cX9_wordBetween, 6) (some .int) 7 10 [some (.ref 136), some (.int a1), some (.int a2), some (.int s.1), some (.int s.2.1), some (.int s.2.2)] [] M M (some (.int r)) := lp_ind (P := fun (s : Int32 × Int32 × Int32) => XM l E (RX9, "wordBetween", cX9_wordBetween, 6) (some .int) 7 10 [some (.ref 136), some (.int a1), some (.int a2), some (.int s.1), some (.int s.2.1), some (.int s.2.2)] [] M M (some (.int r))) (fun s t hb hk he => by
      obtain ⟨i1, i2, i3⟩ := s
      show XM l E (RX9, "wordBetween", cX9_wordBetween, 6) (some .int) 7 10 [some (.ref 136), some (.int a1), some (.int a2), some (.int i1), some (.int i2), some (.int i3)] [] M M (some (.int r))
      change w_X9_wordBetween_10 a1 a2 M i1 i2 i3 = some t at hb
      unfold w_X9_wordBetween_10 at hb
      refine ex_iload dX9_wordBetween_10 rfl ?_
      refine ex_ldcS 0 dX9_wordBetween_12 rfl ?_
      obtain ⟨x4, qx4, hb⟩ := b1E hb
      refine mx_cJi [] [.int i3] 1000001 x4 dX9_wordBetween_14 cl_X9_80 im_J0_length_8abf5 rfl (Nat.le_of_ble_eq_true rfl) (by decide) (sLnOK qx4) (t_J0_length_8abf5 l E M 1000001 qx4) ?_
      refine ex_icmp_ge 72 dX9_wordBetween_17 (by decide) (fun c5 => ?_) (fun c5 => ?_)
      · rw [if_pos c5] at hb
        refine ex_mskL [false, false, false, false, false, false] (L2 := [none, none, none, none, none, none]) rfl ?_
        cases hb
        cases (he _ rfl) <;> exact hx
      · rw [if_neg c5] at hb
        refine ex_ldcS 0 dX9_wordBetween_20 rfl ?_
        refine ex_iload dX9_wordBetween_22 rfl ?_
        obtain ⟨x6, qx6, hb⟩ := b1E hb
        refine mx_cJi [.int i3] [] 1000001 x6 dX9_wordBetween_24 cl_X9_85 im_J0_charAt_5068e rfl (Nat.le_of_ble_eq_true rfl) (by decide) (sAtOK qx6) (t_J0_charAt_5068e l E M 1000001 i3 qx6) ?_
        refine ex_bipush 32 dX9_wordBetween_27 kB_32 ?_
        refine ex_icmp_ne 66 dX9_wordBetween_29 (by decide) (fun c7 => ?_) (fun c7 => ?_)
        · rw [if_neg c7] at hb
          refine ex_iinc 1 (L2 := [some (.ref 136), some (.int a1), some (.int a2), some (.int i1), some (.int i2), some (.int (i3 + 1))]) dX9_wordBetween_66 rfl kI_1 (by decide) rfl ?_
          refine ex_goto 10 dX9_wordBetween_69 (by decide) ?_
          refine ex_mskL [true, true, true, true, true, true] (L2 := [some (.ref 136), some (.int a1), some (.int a2), some (.int i1), some (.int i2), some (.int (i3 + 1))]) rfl ?_
          cases hb
          exact hk (i1, i2, (i3 + 1)) rfl
        · rw [if_pos c7] at hb
          refine ex_iload dX9_wordBetween_32 rfl ?_
          refine ex_iload dX9_wordBetween_34 rfl ?_
          refine ex_isub dX9_wordBetween_36 ?_
          refine ex_iload_n dX9_wordBetween_37 rfl ?_
          refine ex_iload_n dX9_wordBetween_38 rfl ?_
          refine ex_isub dX9_wordBetween_39 ?_
          refine ex_icmp_ne 57 dX9_wordBetween_40 (by decide) (fun c8 => ?_) (fun c8 => ?_)
          · rw [if_neg c8] at hb
            refine ex_iinc 1 (L2 := [some (.ref 136), some (.int a1), some (.int a2), some (.int (i1 + 1)), some (.int i2), some (.int i3)]) dX9_wordBetween_57 rfl kI_1 (by decide) rfl ?_
            refine ex_iload dX9_wordBetween_60 rfl ?_
            refine ex_iconst 1 dX9_wordBetween_62 kI_1 ?_
            refine ex_iadd dX9_wordBetween_63 ?_
            refine ex_istore (L2 := [some (.ref 136), some (.int a1), some (.int a2), some (.int (i1 + 1)), some (.int (i3 + 1)), some (.int i3)]) dX9_wordBetween_64 (by decide) rfl ?_
            refine ex_iinc 1 (L2 := [some (.ref 136), some (.int a1), some (.int a2), some (.int (i1 + 1)), some (.int (i3 + 1)), some (.int (i3 + 1))]) dX9_wordBetween_66 rfl kI_1 (by decide) rfl ?_
            refine ex_goto 10 dX9_wordBetween_69 (by decide) ?_
            refine ex_mskL [true, true, true, true, true, true] (L2 := [some (.ref 136), some (.int a1), some (.int a2), some (.int (i1 + 1)), some (.int (i3 + 1)), some (.int (i3 + 1))]) rfl ?_
            cases hb
            exact hk ((i1 + 1), (i3 + 1), (i3 + 1)) rfl
          · rw [if_pos c8] at hb
            refine ex_aload_n dX9_wordBetween_43 rfl ?_
            refine ex_iload_n dX9_wordBetween_44 rfl ?_
            refine ex_iload dX9_wordBetween_45 rfl ?_
            refine ex_iload dX9_wordBetween_47 rfl ?_
            obtain ⟨x9, qx9, hb⟩ := b1E hb
            refine mx_cVi [.int a1, .int i2, .int i3] [] 136 9 x9 dX9_wordBetween_49 cl_X9_89 im_X9_isWordAt cy_X9_isWordAt oc_at_136 rfl (Nat.le_of_ble_eq_true rfl) (by decide) (t_X9_isWordAt l E a1 i2 i3 M qx9) ?_
            refine ex_if_eq 57 dX9_wordBetween_52 (by decide) (fun c10 => ?_) (fun c10 => ?_)
            · rw [if_pos c10] at hb
              refine ex_iinc 1 (L2 := [some (.ref 136), some (.int a1), some (.int a2), some (.int (i1 + 1)), some (.int i2), some (.int i3)]) dX9_wordBetween_57 rfl kI_1 (by decide) rfl ?_
              refine ex_iload dX9_wordBetween_60 rfl ?_
              refine ex_iconst 1 dX9_wordBetween_62 kI_1 ?_
              refine ex_iadd dX9_wordBetween_63 ?_
              refine ex_istore (L2 := [some (.ref 136), some (.int a1), some (.int a2), some (.int (i1 + 1)), some (.int (i3 + 1)), some (.int i3)]) dX9_wordBetween_64 (by decide) rfl ?_
              refine ex_iinc 1 (L2 := [some (.ref 136), some (.int a1), some (.int a2), some (.int (i1 + 1)), some (.int (i3 + 1)), some (.int (i3 + 1))]) dX9_wordBetween_66 rfl kI_1 (by decide) rfl ?_
              refine ex_goto 10 dX9_wordBetween_69 (by decide) ?_
              refine ex_mskL [true, true, true, true, true, true] (L2 := [some (.ref 136), some (.int a1), some (.int a2), some (.int (i1 + 1)), some (.int (i3 + 1)), some (.int (i3 + 1))]) rfl ?_
              cases hb
              exact hk ((i1 + 1), (i3 + 1), (i3 + 1)) rfl
            · rw [if_neg c10] at hb
              refine ex_mskL [false, false, false, true, false, false] (L2 := [none, none, none, some (.int i1), none, none]) rfl ?_
              cases hb
              cases (he _ rfl) <;> exact hx)
    exact key FU (300, 0, 0) hlq11
