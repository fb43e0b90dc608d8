/-! ===== THE JDK'S OWN: length and charAt of a string constant ===== -/
theorem strT : ∀ j, j < nS → lenS[j]? = some (lenS.getD j 0) ∧ bytS[j]? = some (bytS.getD j []) ∧ (bytS.getD j []).length = lenS.getD j 0 ∧ lenS.getD j 0 < 1000 ∧ ((bytS.getD j []).all fun b => decide (((b &&& 255).toUInt32 % 65536).toInt32 = b) && decide (narrow .char (.int b) = .int b)) = true := by decide +kernel
section RJ
variable {l : Launch} {E : EV} {X : MI} {d mc ms : Nat} {pc : Nat} {L : List (Option Value)} {st : List Value} {G : GH} {ce sl : Nat} {Po : GH → Option Value → Prop}
theorem strK {p : Program} {R : Room} {s : State} {m : MethodId} {meth : Method} {c : Code} (C : Cx E X d p R s m meth c) : vk_S nS lenS bytS (eK E) (eV E) (eA E) s s.heap := C.2.2.2.2.2.1.2.2.1.1.kept (fun a ha _ => C.2.2.2.2.2.2.1.2 a ha)
theorem ex_valS {index j : Nat} (hd : decode X.2.2.1 pc = .ok (.getfield index, 3)) (hj : j < nS) (hw : Cond.fieldLink X.1 index "java/lang/String" "value" "[B" ∈ lw_tbl) (kk : Ex l E X d mc ms (pc + 3) L (.ref (2000001 + j) :: st) G ce sl Po) : Ex l E X d mc ms pc L (.ref (1000001 + j) :: st) G ce sl Po := by
  intro p e R s m args below meth c H locs ls Q C h1 h2 hlv hH hz hq
  have K := kk p e R s m args below meth c H locs ls Q C h1 h2 hlv hH hz hq
  simp only [List.map_cons, rv, al_str hj, al_byt] at K ⊢
  exact vk_getf C.1 C.2.1 ((strK C).1 j hj).2.2.1 hH.2 C.2.2.2.1 (C.2.2.2.2.2.1.word hw rfl) (fun _ h => h) hd K
theorem ex_codS {index j : Nat} (hd : decode X.2.2.1 pc = .ok (.getfield index, 3)) (hj : j < nS) (hw : Cond.fieldLink X.1 index "java/lang/String" "coder" "B" ∈ lw_tbl) (kk : Ex l E X d mc ms (pc + 3) L (.int 0 :: st) G ce sl Po) : Ex l E X d mc ms pc L (.ref (1000001 + j) :: st) G ce sl Po := by
  intro p e R s m args below meth c H locs ls Q C h1 h2 hlv hH hz hq
  have K := kk p e R s m args below meth c H locs ls Q C h1 h2 hlv hH hz hq
  simp only [List.map_cons, rv, al_str hj] at K ⊢
  exact vk_getf C.1 C.2.1 ((strK C).1 j hj).2.1 hH.2 C.2.2.2.1 (C.2.2.2.2.2.1.word hw rfl) (fun _ h => h) hd K
theorem ex_lenS {j : Nat} (hd : decode X.2.2.1 pc = .ok (.arraylength, 1)) (hj : j < nS) (kk : Ex l E X d mc ms (pc + 1) L (.int (Int32.ofNat (lenS.getD j 0)) :: st) G ce sl Po) : Ex l E X d mc ms pc L (.ref (2000001 + j) :: st) G ce sl Po := by
  intro p e R s m args below meth c H locs ls Q C h1 h2 hlv hH hz hq
  have K := kk p e R s m args below meth c H locs ls Q C h1 h2 hlv hH hz hq
  simp only [List.map_cons, rv, al_byt] at K ⊢
  exact va_tlen C.1 C.2.1 ((strK C).1 j hj).2.2.2 hH.2 rfl hd K
theorem ex_balS {j : Nat} {i : Int32} (hd : decode X.2.2.1 pc = .ok (.baload, 1)) (hj : j < nS) (hin : vp_in i (lenS.getD j 0)) (kk : Ex l E X d mc ms (pc + 1) L (.int ((bytS.getD j []).getD i.toNatClampNeg 0) :: st) G ce sl Po) : Ex l E X d mc ms pc L (.int i :: .ref (2000001 + j) :: st) G ce sl Po := by
  intro p e R s m args below meth c H locs ls Q C h1 h2 hlv hH hz hq
  have K := kk p e R s m args below meth c H locs ls Q C h1 h2 hlv hH hz hq
  simp only [List.map_cons, rv, al_byt] at K ⊢
  exact va_tb C.1 C.2.1 ((strK C).1 j hj).2.2.2 hH.2 hin rfl hd K
theorem ex_getsC {index : Nat} (hd : decode X.2.2.1 pc = .ok (.getstatic index, 3)) (hw : Cond.fieldLink X.1 index "java/lang/String" "COMPACT_STRINGS" "Z" ∈ lw_tbl) (kk : Ex l E X d mc ms (pc + 3) L (.int 1 :: st) G ce sl Po) : Ex l E X d mc ms pc L st G ce sl Po := by
  intro p e R s m args below meth c H locs ls Q C h1 h2 hlv hH hz hq
  have K := kk p e R s m args below meth c H locs ls Q C h1 h2 hlv hH hz hq
  exact va_gets C.1 C.2.1 (C.2.2.2.2.2.1.2.2.2.2.1.1.kept (fun a ha _ => C.2.2.2.2.2.2.1.2 a ha)) hH.2 C.2.2.2.1 (C.2.2.2.2.2.1.word hw rfl) (fun _ h => h) hd K
theorem ex_getsF {index : Nat} (hd : decode X.2.2.1 pc = .ok (.getstatic index, 3)) (hw : Cond.fieldLink X.1 index "jdk/internal/util/Preconditions" "SIOOBE_FORMATTER" "Ljava/util/function/BiFunction;" ∈ lw_tbl) (k1 : Ex l E X d mc ms (pc + 3) L (.null :: st) G ce sl Po) (k2 : Ex l E X d mc ms (pc + 3) L (.ref 2000025 :: st) G ce sl Po) : Ex l E X d mc ms pc L st G ce sl Po := by
  intro p e R s m args below meth c H locs ls Q C h1 h2 hlv hH hz hq
  rcases C.2.2.2.2.2.1.2.2.2.2.1.2 with hZ | hZ
  · exact va_gets C.1 C.2.1 (hZ.kept (fun a ha _ => C.2.2.2.2.2.2.1.2 a ha)) hH.2 C.2.2.2.1 (C.2.2.2.2.2.1.word hw rfl) (fun _ h => h) hd (k1 p e R s m args below meth c H locs ls Q C h1 h2 hlv hH hz hq)
  · have K := k2 p e R s m args below meth c H locs ls Q C h1 h2 hlv hH hz hq
    simp only [List.map_cons, rv, show al E 2000025 = eV E 24 from al_byt (j := 24)] at K
    exact va_gets C.1 C.2.1 (hZ.kept (fun a ha _ => C.2.2.2.2.2.2.1.2 a ha)) hH.2 C.2.2.2.1 (C.2.2.2.2.2.1.word hw rfl) (fun _ h => h) hd K
theorem ex_i2c {x : Int32} (hd : decode X.2.2.1 pc = .ok (.i2c, 1)) (kk : Ex l E X d mc ms (pc + 1) L (.int ((x.toUInt32 % 65536).toInt32) :: st) G ce sl Po) : Ex l E X d mc ms pc L (.int x :: st) G ce sl Po := by
  intro p e R s m args below meth c H locs ls Q C h1 h2 hlv hH hz hq
  exact lv_i2c C.1 C.2.1 hd rfl (kk p e R s m args below meth c H locs ls Q C h1 h2 hlv hH hz hq)
end RJ
set_option maxRecDepth 100000 in
theorem t_coder (l : Launch) (E : EV) (M : Mem) (j : Nat) (hj : j < nS) : RunM l E yJ0_coder_7d493 cJ0_coder_7d493 1 (some .byte) 0 [.ref (1000001 + j)] M M (some (.int 0)) := by
  refine RunM.of (by decide) (Nat.le_of_ble_eq_true rfl) ?_
  show XM l E (RJ0, "coder", cJ0_coder_7d493, 1) (some .byte) 0 0 [some (.ref (1000001 + j))] [] M M (some (.int 0))
  refine ex_getsC dJ0_coder_7d493_0 (tb (i := 812) (by decide +kernel)) ?_
  refine ex_if_eq 13 dJ0_coder_7d493_3 (by decide) (fun z => absurd z (by decide)) (fun _ => ?_)
  refine ex_aload_n dJ0_coder_7d493_6 rfl ?_
  refine ex_codS dJ0_coder_7d493_7 hj (tb (i := 1922) (by decide +kernel)) ?_
  refine ex_goto 14 dJ0_coder_7d493_10 (by decide) ?_
  exact mx_reti .byte dJ0_coder_7d493_14 ⟨rfl, by decide⟩
set_option maxRecDepth 100000 in
theorem t_latin (l : Launch) (E : EV) (M : Mem) (j : Nat) (hj : j < nS) : RunM l E yJ0_isLatin1_aae02 cJ0_isLatin1_aae02 1 (some .boolean) 0 [.ref (1000001 + j)] M M (some (.int 1)) := by
  refine RunM.of (by decide) (Nat.le_of_ble_eq_true rfl) ?_
  show XM l E (RJ0, "isLatin1", cJ0_isLatin1_aae02, 1) (some .boolean) 0 0 [some (.ref (1000001 + j))] [] M M (some (.int 1))
  refine ex_getsC dJ0_isLatin1_aae02_0 (tb (i := 812) (by decide +kernel)) ?_
  refine ex_if_eq 17 dJ0_isLatin1_aae02_3 (by decide) (fun z => absurd z (by decide)) (fun _ => ?_)
  refine ex_aload_n dJ0_isLatin1_aae02_6 rfl ?_
  refine ex_codS dJ0_isLatin1_aae02_7 hj (tb (i := 1922) (by decide +kernel)) ?_
  refine ex_if_ne 17 dJ0_isLatin1_aae02_10 (by decide) (fun z => absurd rfl z) (fun _ => ?_)
  refine ex_iconst 1 dJ0_isLatin1_aae02_13 (by decide) ?_
  refine ex_goto 18 dJ0_isLatin1_aae02_14 (by decide) ?_
  exact mx_reti .boolean dJ0_isLatin1_aae02_18 ⟨rfl, by decide⟩
set_option maxRecDepth 100000 in
theorem t_J0_length_8abf5 (l : Launch) (E : EV) (M : Mem) (s : Nat) {r : Int32} (h : strLn s = some r) : RunM l E yJ0_length_8abf5 cJ0_length_8abf5 1 (some .int) 1 [.ref s] M M (some (.int r)) := by
  obtain ⟨-, j, hj, rfl⟩ := sLnOK h
  obtain ⟨t1, -, -, t4, -⟩ := strT j hj
  have hr : Int32.ofNat (lenS.getD j 0) = r := by
    unfold strLn at h
    rw [if_pos (by omega), show 1000001 + j - 1000001 = j by omega, t1] at h
    exact Option.some.inj h
  refine RunM.of (by decide) (Nat.le_of_ble_eq_true rfl) ?_
  show XM l E (RJ0, "length", cJ0_length_8abf5, 1) (some .int) 1 0 [some (.ref (1000001 + j))] [] M M (some (.int r))
  refine ex_aload_n dJ0_length_8abf5_0 rfl ?_
  refine ex_valS dJ0_length_8abf5_1 hj (tb (i := 1921) (by decide +kernel)) ?_
  refine ex_lenS dJ0_length_8abf5_4 hj ?_
  refine ex_aload_n dJ0_length_8abf5_5 rfl ?_
  refine mx_cJi [] [.int (Int32.ofNat (lenS.getD j 0))] (1000001 + j) 0 dJ0_length_8abf5_6 cl_J0_335 im_J0_coder_7d493 rfl (Nat.le_of_ble_eq_true rfl) (by decide) ⟨rfl, j, hj, rfl⟩ (t_coder l E M j hj) ?_
  refine ex_ishr dJ0_length_8abf5_9 ?_
  have e : Int32.ofNat (lenS.getD j 0) >>> ((0 : Int32) &&& 31) = r := by
    rw [← hr]
    exact sc_shr0 (n := lenS.getD j 0) (by omega)
  rw [e]
  exact mx_reti .int dJ0_length_8abf5_10 ⟨rfl, rfl⟩
set_option maxRecDepth 100000 in
theorem t_chkN (l : Launch) (E : EV) (M : Mem) (i n : Int32) (h0 : ¬ i < 0) (h1 : i < n) : RunM l E yJ3_checkIndex_8e157 cJ3_checkIndex_8e157 3 (some .int) 0 [.int i, .int n, .null] M M (some (.int i)) := by
  refine RunM.of (by decide) (Nat.le_of_ble_eq_true rfl) ?_
  show XM l E (RJ3, "checkIndex", cJ3_checkIndex_8e157, 3) (some .int) 0 0 [some (.int i), some (.int n), some .null] [] M M (some (.int i))
  refine ex_iload_n dJ3_checkIndex_8e157_0 rfl ?_
  refine ex_if_lt 9 dJ3_checkIndex_8e157_1 (by decide) (fun z => absurd z h0) (fun _ => ?_)
  refine ex_iload_n dJ3_checkIndex_8e157_4 rfl ?_
  refine ex_iload_n dJ3_checkIndex_8e157_5 rfl ?_
  refine ex_icmp_lt 16 dJ3_checkIndex_8e157_6 (by decide) (fun _ => ?_) (fun z => absurd h1 z)
  refine ex_iload_n dJ3_checkIndex_8e157_16 rfl ?_
  exact mx_reti .int dJ3_checkIndex_8e157_17 ⟨rfl, rfl⟩
set_option maxRecDepth 100000 in
theorem t_chkR (l : Launch) (E : EV) (M : Mem) (i n : Int32) (k : Nat) (h0 : ¬ i < 0) (h1 : i < n) : RunM l E yJ3_checkIndex_8e157 cJ3_checkIndex_8e157 3 (some .int) 0 [.int i, .int n, .ref k] M M (some (.int i)) := by
  refine RunM.of (by decide) (Nat.le_of_ble_eq_true rfl) ?_
  show XM l E (RJ3, "checkIndex", cJ3_checkIndex_8e157, 3) (some .int) 0 0 [some (.int i), some (.int n), some (.ref k)] [] M M (some (.int i))
  refine ex_iload_n dJ3_checkIndex_8e157_0 rfl ?_
  refine ex_if_lt 9 dJ3_checkIndex_8e157_1 (by decide) (fun z => absurd z h0) (fun _ => ?_)
  refine ex_iload_n dJ3_checkIndex_8e157_4 rfl ?_
  refine ex_iload_n dJ3_checkIndex_8e157_5 rfl ?_
  refine ex_icmp_lt 16 dJ3_checkIndex_8e157_6 (by decide) (fun _ => ?_) (fun z => absurd h1 z)
  refine ex_iload_n dJ3_checkIndex_8e157_16 rfl ?_
  exact mx_reti .int dJ3_checkIndex_8e157_17 ⟨rfl, rfl⟩
set_option maxRecDepth 100000 in
theorem t_chkS (l : Launch) (E : EV) (M : Mem) (i n : Int32) (h0 : ¬ i < 0) (h1 : i < n) : RunM l E yJ0_checkIndex_df160 cJ0_checkIndex_df160 2 none 1 [.int i, .int n] M M none := by
  refine RunM.of (by decide) (Nat.le_of_ble_eq_true rfl) ?_
  show XM l E (RJ0, "checkIndex", cJ0_checkIndex_df160, 2) none 1 0 [some (.int i), some (.int n)] [] M M none
  refine ex_iload_n dJ0_checkIndex_df160_0 rfl ?_
  refine ex_iload_n dJ0_checkIndex_df160_1 rfl ?_
  refine ex_getsF dJ0_checkIndex_df160_2 (tb (i := 828) (by decide +kernel)) ?_ ?_
  · refine mx_cSi [.int i, .int n, .null] [] i dJ0_checkIndex_df160_5 cl_J0_1059 sm_J3_checkIndex_8e157 rfl (Nat.le_of_ble_eq_true rfl) (by decide) (t_chkN l E M i n h0 h1) ?_
    refine ex_pop dJ0_checkIndex_df160_8 rfl ?_
    exact mx_retv dJ0_checkIndex_df160_9 rfl
  · refine mx_cSi [.int i, .int n, .ref 2000025] [] i dJ0_checkIndex_df160_5 cl_J0_1059 sm_J3_checkIndex_8e157 rfl (Nat.le_of_ble_eq_true rfl) (by decide) (t_chkR l E M i n 2000025 h0 h1) ?_
    refine ex_pop dJ0_checkIndex_df160_8 rfl ?_
    exact mx_retv dJ0_checkIndex_df160_9 rfl
set_option maxRecDepth 100000 in
theorem t_J0_charAt_5068e (l : Launch) (E : EV) (M : Mem) (s : Nat) (k : Int32) {r : Int32} (h : strAt s k = some r) : RunM l E yJ0_charAt_5068e cJ0_charAt_5068e 2 (some .char) 5 [.ref s, .int k] M M (some (.int r)) := by
  obtain ⟨-, j, hj, rfl⟩ := sAtOK h
  obtain ⟨-, t2, t3, t4, t5⟩ := strT j hj
  have hr : inb k (lenS.getD j 0) = true ∧ (bytS.getD j [])[k.toNatClampNeg]? = some r := by
    unfold strAt at h
    rw [if_pos (by omega), show 1000001 + j - 1000001 = j by omega, t2] at h
    dsimp only at h
    split at h
    · rename_i q
      rw [t3] at q
      exact ⟨q, h⟩
    · cases h
  obtain ⟨hin, hb⟩ := hr
  have hin2 := inb_in hin
  have hb2 : (bytS.getD j []).getD k.toNatClampNeg 0 = r := by rw [List.getD_eq_getElem?_getD, hb]; rfl
  have hbr := List.all_eq_true.mp t5 r (List.mem_of_getElem? hb)
  simp only [Bool.and_eq_true, decide_eq_true_eq] at hbr
  have h0 : ¬ k < 0 := fun q => hin2 (Or.inl q)
  have h1 : k < Int32.ofNat (lenS.getD j 0) := by
    have := (vp_in_iff.mp hin2).2
    have e := nI_toInt (n := lenS.getD j 0) (by omega)
    exact Int32.lt_iff_toInt_lt.mpr (by show k.toInt < (nI (lenS.getD j 0)).toInt; rw [e]; exact this)
  have hL : RunM l E yJ1_charAt_3b067 cJ1_charAt_3b067 2 (some .char) 2 [.ref (2000001 + j), .int k] M M (some (.int r)) := by
    refine RunM.of (by decide) (Nat.le_of_ble_eq_true rfl) ?_
    show XM l E (RJ1, "charAt", cJ1_charAt_3b067, 2) (some .char) 2 0 [some (.ref (2000001 + j)), some (.int k)] [] M M (some (.int r))
    refine ex_iload_n dJ1_charAt_3b067_0 rfl ?_
    refine ex_aload_n dJ1_charAt_3b067_1 rfl ?_
    refine ex_lenS dJ1_charAt_3b067_2 hj ?_
    refine mx_cSv [.int k, .int (Int32.ofNat (lenS.getD j 0))] [] dJ1_charAt_3b067_3 cl_J1_9 sm_J0_checkIndex_df160 rfl (Nat.le_of_ble_eq_true rfl) (by decide) (t_chkS l E M k (Int32.ofNat (lenS.getD j 0)) h0 h1) ?_
    refine ex_aload_n dJ1_charAt_3b067_6 rfl ?_
    refine ex_iload_n dJ1_charAt_3b067_7 rfl ?_
    refine ex_balS dJ1_charAt_3b067_8 hj hin2 ?_
    refine ex_sipush 255 dJ1_charAt_3b067_9 (by decide) ?_
    refine ex_iand dJ1_charAt_3b067_12 ?_
    refine ex_i2c dJ1_charAt_3b067_13 ?_
    rw [hb2, hbr.1]
    exact mx_reti .char dJ1_charAt_3b067_14 ⟨rfl, hbr.2⟩
  refine RunM.of (by decide) (Nat.le_of_ble_eq_true rfl) ?_
  show XM l E (RJ0, "charAt", cJ0_charAt_5068e, 2) (some .char) 5 0 [some (.ref (1000001 + j)), some (.int k)] [] M M (some (.int r))
  refine ex_aload_n dJ0_charAt_5068e_0 rfl ?_
  refine mx_cJi [] [] (1000001 + j) 1 dJ0_charAt_5068e_1 cl_J0_492 im_J0_isLatin1_aae02 rfl (Nat.le_of_ble_eq_true rfl) (by decide) ⟨rfl, j, hj, rfl⟩ (t_latin l E M j hj) ?_
  refine ex_if_eq 16 dJ0_charAt_5068e_4 (by decide) (fun z => absurd z (by decide)) (fun _ => ?_)
  refine ex_aload_n dJ0_charAt_5068e_7 rfl ?_
  refine ex_valS dJ0_charAt_5068e_8 hj (tb (i := 1921) (by decide +kernel)) ?_
  refine ex_iload_n dJ0_charAt_5068e_11 rfl ?_
  refine mx_cSi [.ref (2000001 + j), .int k] [] r dJ0_charAt_5068e_12 cl_J0_495 sm_J1_charAt_3b067 rfl (Nat.le_of_ble_eq_true rfl) (by decide) hL ?_
  exact mx_reti .char dJ0_charAt_5068e_15 ⟨rfl, hbr.2⟩
