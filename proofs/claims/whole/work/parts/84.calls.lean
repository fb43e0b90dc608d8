/-! ===== PURE PART: the law, call by call ===== -/
theorem ls_rd {E : EV} {i : Nat} (C : i + 6 ≤ eL E) (hL : eL E ≤ 3072) : rdS E (nI i) = some (eX E i) ∧ rdS E (nI i + 1) = some (eX E (i + 1)) ∧ rdS E (nI i + 2) = some (eX E (i + 2)) ∧ rdS E (nI i + 3) = some (eX E (i + 3)) ∧ rdS E (nI i + 4) = some (eX E (i + 4)) ∧ rdS E (nI i + 5) = some (eX E (i + 5)) ∧ nI i + 6 = nI (i + 6) ∧ ¬ ((Int32.ofNat (eL E)) - 6) < nI i := by
  have rd1 : ∀ j, j < 6 → rdS E (nI (i + j)) = some (eX E (i + j)) := by
    intro j hj
    unfold rdS
    rw [if_pos (inb_nI (by omega) (by omega)), nI_clamp (by omega)]
  have a1 : nI i + 1 = nI (i + 1) := nI_add i 1
  have a2 : nI i + 2 = nI (i + 2) := nI_add i 2
  have a3 : nI i + 3 = nI (i + 3) := nI_add i 3
  have a4 : nI i + 4 = nI (i + 4) := nI_add i 4
  have a5 : nI i + 5 = nI (i + 5) := nI_add i 5
  have a6 : nI i + 6 = nI (i + 6) := nI_add i 6
  have e6 : (Int32.ofNat (eL E)) - 6 = nI (eL E - 6) := nI_sub (a := eL E) (b := 6) (by omega)
  refine ⟨rd1 0 (by omega), by rw [a1]; exact rd1 1 (by omega), by rw [a2]; exact rd1 2 (by omega), by rw [a3]; exact rd1 3 (by omega), by rw [a4]; exact rd1 4 (by omega), by rw [a5]; exact rd1 5 (by omega), a6, ?_⟩
  rw [e6, nI_lt_iff (by omega) (by omega)]; omega
set_option maxRecDepth 100000 in
set_option maxHeartbeats 4000000 in
theorem ls_0 {E : EV} {i : Nat} {M : Mem} (C : i + 6 ≤ eL E) (hL : eL E ≤ 3072) (h : Inv M) (hd : eX E i &&& 63 = nI 0) : ∃ M', w_L_law_18 E (nI i) M = some (.inl (nI (i + 6), M')) ∧ Inv M' := by
  obtain ⟨r0, r1, r2, r3, r4, r5, r6, hcond⟩ := ls_rd C hL
  obtain ⟨M1, M2, r, e1, e2, hI⟩ := c_state (eX E (i + 1)) h
  have e1 : f_X10_state (eX E (i + 1)) M = (M1, r) := by injection e1
  have e2 : f_X11_state (eX E (i + 1)) M1 = (M2, r) := by injection e2
  refine ⟨M2, ?_, hI⟩
  unfold w_L_law_18
  rw [if_neg hcond, r0, b1_some, hd, if_neg (by decide), if_pos (by decide), r1, b1_some, lt_eq, b1_some, lt_eq, e1]
  try simp only
  rw [e2]
  try simp only
  rw [if_pos (by first | rfl | trivial), r6]
set_option maxRecDepth 100000 in
set_option maxHeartbeats 4000000 in
theorem ls_1 {E : EV} {i : Nat} {M : Mem} (C : i + 6 ≤ eL E) (hL : eL E ≤ 3072) (h : Inv M) (hd : eX E i &&& 63 = nI 1) : ∃ M', w_L_law_18 E (nI i) M = some (.inl (nI (i + 6), M')) ∧ Inv M' := by
  obtain ⟨r0, r1, r2, r3, r4, r5, r6, hcond⟩ := ls_rd C hL
  obtain ⟨M1, M2, r, e1, e2, hI⟩ := c_set (eX E (i + 1)) (eX E (i + 2)) h
  have e1 : f_X10_set (eX E (i + 1)) (eX E (i + 2)) M = (M1, r) := by injection e1
  refine ⟨M2, ?_, hI⟩
  unfold w_L_law_18
  rw [if_neg hcond, r0, b1_some, hd, if_neg (by decide), if_neg (by decide), if_pos (by decide), r1, r2, b1_some, b1_some, lt_eq, b1_some, b1_some, e1]
  try simp only
  rw [e2, b2_some, if_pos rfl, r6]
set_option maxRecDepth 100000 in
set_option maxHeartbeats 4000000 in
theorem ls_2 {E : EV} {i : Nat} {M : Mem} (C : i + 6 ≤ eL E) (hL : eL E ≤ 3072) (h : Inv M) (hd : eX E i &&& 63 = nI 2) : ∃ M', w_L_law_18 E (nI i) M = some (.inl (nI (i + 6), M')) ∧ Inv M' := by
  obtain ⟨r0, r1, r2, r3, r4, r5, r6, hcond⟩ := ls_rd C hL
  obtain ⟨M1, M2, r, e1, e2, hI⟩ := c_feast (eX E (i + 1)) (eX E (i + 2)) h
  refine ⟨M2, ?_, hI⟩
  unfold w_L_law_18
  rw [if_neg hcond, r0, b1_some, hd, if_neg (by decide), if_neg (by decide), if_neg (by decide), if_pos (by decide), r1, r2, b1_some, b1_some, e1, b2_some, b1_some, b1_some, e2, b2_some, if_pos rfl, r6]
set_option maxRecDepth 100000 in
set_option maxHeartbeats 4000000 in
theorem ls_3 {E : EV} {i : Nat} {M : Mem} (C : i + 6 ≤ eL E) (hL : eL E ≤ 3072) (h : Inv M) (hd : eX E i &&& 63 = nI 3) : ∃ M', w_L_law_18 E (nI i) M = some (.inl (nI (i + 6), M')) ∧ Inv M' := by
  obtain ⟨r0, r1, r2, r3, r4, r5, r6, hcond⟩ := ls_rd C hL
  obtain ⟨M1, M2, r, e1, e2, hI⟩ := c_forge (eX E (i + 1)) (eX E (i + 2)) h
  refine ⟨M2, ?_, hI⟩
  unfold w_L_law_18
  rw [if_neg hcond, r0, b1_some, hd, if_neg (by decide), if_neg (by decide), if_neg (by decide), if_neg (by decide), if_pos (by decide), r1, r2, b1_some, b1_some, e1, b2_some, b1_some, b1_some, e2, b2_some, if_pos rfl, r6]
set_option maxRecDepth 100000 in
set_option maxHeartbeats 4000000 in
theorem ls_4 {E : EV} {i : Nat} {M : Mem} (C : i + 6 ≤ eL E) (hL : eL E ≤ 3072) (h : Inv M) (hd : eX E i &&& 63 = nI 4) : ∃ M', w_L_law_18 E (nI i) M = some (.inl (nI (i + 6), M')) ∧ Inv M' := by
  obtain ⟨r0, r1, r2, r3, r4, r5, r6, hcond⟩ := ls_rd C hL
  obtain ⟨M1, M2, r, e1, e2, hI⟩ := c_cut (eX E (i + 1)) (eX E (i + 2)) h
  refine ⟨M2, ?_, hI⟩
  unfold w_L_law_18
  rw [if_neg hcond, r0, b1_some, hd, if_neg (by decide), if_neg (by decide), if_neg (by decide), if_neg (by decide), if_neg (by decide), if_pos (by decide), r1, r2, b1_some, b1_some, e1, b2_some, b1_some, b1_some, e2, b2_some, if_pos rfl, r6]
set_option maxRecDepth 100000 in
set_option maxHeartbeats 4000000 in
theorem ls_5 {E : EV} {i : Nat} {M : Mem} (C : i + 6 ≤ eL E) (hL : eL E ≤ 3072) (h : Inv M) (hd : eX E i &&& 63 = nI 5) : ∃ M', w_L_law_18 E (nI i) M = some (.inl (nI (i + 6), M')) ∧ Inv M' := by
  obtain ⟨r0, r1, r2, r3, r4, r5, r6, hcond⟩ := ls_rd C hL
  obtain ⟨M1, M2, r, e1, e2, hI⟩ := c_join (eX E (i + 1)) (eX E (i + 2)) h
  refine ⟨M2, ?_, hI⟩
  unfold w_L_law_18
  rw [if_neg hcond, r0, b1_some, hd, if_neg (by decide), if_neg (by decide), if_neg (by decide), if_neg (by decide), if_neg (by decide), if_neg (by decide), if_pos (by decide), r1, r2, b1_some, b1_some, e1, b2_some, b1_some, b1_some, e2, b2_some, if_pos rfl, r6]
set_option maxRecDepth 100000 in
set_option maxHeartbeats 4000000 in
theorem ls_6 {E : EV} {i : Nat} {M : Mem} (C : i + 6 ≤ eL E) (hL : eL E ≤ 3072) (h : Inv M) (hd : eX E i &&& 63 = nI 6) : ∃ M', w_L_law_18 E (nI i) M = some (.inl (nI (i + 6), M')) ∧ Inv M' := by
  obtain ⟨r0, r1, r2, r3, r4, r5, r6, hcond⟩ := ls_rd C hL
  obtain ⟨M1, M2, r, e1, e2, hI⟩ := c_sell (eX E (i + 1)) h
  refine ⟨M2, ?_, hI⟩
  unfold w_L_law_18
  rw [if_neg hcond, r0, b1_some, hd, if_neg (by decide), if_neg (by decide), if_neg (by decide), if_neg (by decide), if_neg (by decide), if_neg (by decide), if_neg (by decide), if_pos (by decide), r1, b1_some, e1, b2_some, b1_some, e2, b2_some, if_pos rfl, r6]
set_option maxRecDepth 100000 in
set_option maxHeartbeats 4000000 in
theorem ls_7 {E : EV} {i : Nat} {M : Mem} (C : i + 6 ≤ eL E) (hL : eL E ≤ 3072) (h : Inv M) (hd : eX E i &&& 63 = nI 7) : ∃ M', w_L_law_18 E (nI i) M = some (.inl (nI (i + 6), M')) ∧ Inv M' := by
  obtain ⟨r0, r1, r2, r3, r4, r5, r6, hcond⟩ := ls_rd C hL
  obtain ⟨M1, M2, r, e1, e2, hI⟩ := c_days (eX E (i + 1)) h
  refine ⟨M2, ?_, hI⟩
  unfold w_L_law_18
  rw [if_neg hcond, r0, b1_some, hd, if_neg (by decide), if_neg (by decide), if_neg (by decide), if_neg (by decide), if_neg (by decide), if_neg (by decide), if_neg (by decide), if_neg (by decide), if_pos (by decide), r1, b1_some, e1, b2_some, b1_some, e2, b2_some, if_pos rfl, r6]
set_option maxRecDepth 100000 in
set_option maxHeartbeats 4000000 in
theorem ls_8 {E : EV} {i : Nat} {M : Mem} (C : i + 6 ≤ eL E) (hL : eL E ≤ 3072) (h : Inv M) (hd : eX E i &&& 63 = nI 8) : ∃ M', w_L_law_18 E (nI i) M = some (.inl (nI (i + 6), M')) ∧ Inv M' := by
  obtain ⟨r0, r1, r2, r3, r4, r5, r6, hcond⟩ := ls_rd C hL
  obtain ⟨M1, M2, r, e1, e2, hI⟩ := c_feed (eX E (i + 1)) (eX E (i + 2)) (eX E (i + 3)) (eX E (i + 4)) (eX E (i + 5)) h
  refine ⟨M2, ?_, hI⟩
  unfold w_L_law_18
  rw [if_neg hcond, r0, b1_some, hd, if_neg (by decide), if_neg (by decide), if_neg (by decide), if_neg (by decide), if_neg (by decide), if_neg (by decide), if_neg (by decide), if_neg (by decide), if_neg (by decide), if_pos (by decide), r1, r2, r3, r4, r5, b1_some, b1_some, b1_some, b1_some, b1_some, e1, b2_some, b1_some, b1_some, b1_some, b1_some, b1_some, e2, b2_some, if_pos rfl, r6]
set_option maxRecDepth 100000 in
set_option maxHeartbeats 4000000 in
theorem ls_9 {E : EV} {i : Nat} {M : Mem} (C : i + 6 ≤ eL E) (hL : eL E ≤ 3072) (h : Inv M) (hd : eX E i &&& 63 = nI 9) : ∃ M', w_L_law_18 E (nI i) M = some (.inl (nI (i + 6), M')) ∧ Inv M' := by
  obtain ⟨r0, r1, r2, r3, r4, r5, r6, hcond⟩ := ls_rd C hL
  obtain ⟨M1, M2, r, e1, e2, hI⟩ := c_end (eX E (i + 1)) h
  have e1 : f_X10_end (eX E (i + 1)) M = (M1, r) := by injection e1
  have e2 : f_X11_end (eX E (i + 1)) M1 = (M2, r) := by injection e2
  refine ⟨M2, ?_, hI⟩
  unfold w_L_law_18
  rw [if_neg hcond, r0, b1_some, hd, if_neg (by decide), if_neg (by decide), if_neg (by decide), if_neg (by decide), if_neg (by decide), if_neg (by decide), if_neg (by decide), if_neg (by decide), if_neg (by decide), if_neg (by decide), if_pos (by decide), r1, b1_some, lt_eq, b1_some, lt_eq, e1]
  try simp only
  rw [e2]
  try simp only
  rw [if_pos (by first | rfl | trivial), r6]
set_option maxRecDepth 100000 in
set_option maxHeartbeats 4000000 in
theorem ls_10 {E : EV} {i : Nat} {M : Mem} (C : i + 6 ≤ eL E) (hL : eL E ≤ 3072) (h : Inv M) (hd : eX E i &&& 63 = nI 10) : ∃ M', w_L_law_18 E (nI i) M = some (.inl (nI (i + 6), M')) ∧ Inv M' := by
  obtain ⟨r0, r1, r2, r3, r4, r5, r6, hcond⟩ := ls_rd C hL
  obtain ⟨M1, M2, r, e1, e2, hI⟩ := c_text (eX E (i + 1)) h
  refine ⟨M2, ?_, hI⟩
  unfold w_L_law_18
  rw [if_neg hcond, r0, b1_some, hd, if_neg (by decide), if_neg (by decide), if_neg (by decide), if_neg (by decide), if_neg (by decide), if_neg (by decide), if_neg (by decide), if_neg (by decide), if_neg (by decide), if_neg (by decide), if_neg (by decide), if_pos (by decide), r1, b1_some, e1, b2_some, b1_some, e2, b2_some, if_pos rfl, r6]
set_option maxRecDepth 100000 in
set_option maxHeartbeats 4000000 in
theorem ls_11 {E : EV} {i : Nat} {M : Mem} (C : i + 6 ≤ eL E) (hL : eL E ≤ 3072) (h : Inv M) (hd : eX E i &&& 63 = nI 11) : ∃ M', w_L_law_18 E (nI i) M = some (.inl (nI (i + 6), M')) ∧ Inv M' := by
  obtain ⟨r0, r1, r2, r3, r4, r5, r6, hcond⟩ := ls_rd C hL
  have e := c_fault (eX E (i + 1)) h
  refine ⟨M, ?_, h⟩
  unfold w_L_law_18
  rw [if_neg hcond, r0, b1_some, hd, if_neg (by decide), if_neg (by decide), if_neg (by decide), if_neg (by decide), if_neg (by decide), if_neg (by decide), if_neg (by decide), if_neg (by decide), if_neg (by decide), if_neg (by decide), if_neg (by decide), if_neg (by decide), if_pos (by decide), r1, b1_some, b1_some, if_pos e, r6]
set_option maxRecDepth 100000 in
set_option maxHeartbeats 4000000 in
theorem ls_12 {E : EV} {i : Nat} {M : Mem} (C : i + 6 ≤ eL E) (hL : eL E ≤ 3072) (h : Inv M) (hd : eX E i &&& 63 = nI 12) : ∃ M', w_L_law_18 E (nI i) M = some (.inl (nI (i + 6), M')) ∧ Inv M' := by
  obtain ⟨r0, r1, r2, r3, r4, r5, r6, hcond⟩ := ls_rd C hL
  obtain ⟨M1, M2, r, e1, e2, hI⟩ := c_remain (eX E (i + 1)) (eX E (i + 2)) h
  refine ⟨M2, ?_, hI⟩
  unfold w_L_law_18
  rw [if_neg hcond, r0, b1_some, hd, if_neg (by decide), if_neg (by decide), if_neg (by decide), if_neg (by decide), if_neg (by decide), if_neg (by decide), if_neg (by decide), if_neg (by decide), if_neg (by decide), if_neg (by decide), if_neg (by decide), if_neg (by decide), if_neg (by decide), if_pos (by decide), r1, r2, b1_some, b1_some, e1, b2_some, b1_some, b1_some, e2, b2_some, if_pos rfl, r6]
set_option maxRecDepth 100000 in
set_option maxHeartbeats 4000000 in
theorem ls_13 {E : EV} {i : Nat} {M : Mem} (C : i + 6 ≤ eL E) (hL : eL E ≤ 3072) (h : Inv M) (hd : eX E i &&& 63 = nI 13) : ∃ M', w_L_law_18 E (nI i) M = some (.inl (nI (i + 6), M')) ∧ Inv M' := by
  obtain ⟨r0, r1, r2, r3, r4, r5, r6, hcond⟩ := ls_rd C hL
  obtain ⟨r, e1, e2⟩ := c_kind (eX E (i + 1)) (eX E (i + 2)) h
  refine ⟨M, ?_, h⟩
  unfold w_L_law_18
  rw [if_neg hcond, r0, b1_some, hd, if_neg (by decide), if_neg (by decide), if_neg (by decide), if_neg (by decide), if_neg (by decide), if_neg (by decide), if_neg (by decide), if_neg (by decide), if_neg (by decide), if_neg (by decide), if_neg (by decide), if_neg (by decide), if_neg (by decide), if_neg (by decide), if_pos (by decide), r1, r2, b1_some, b1_some, e1, b1_some, b1_some, b1_some, e2, b1_some, if_pos rfl, r6]
set_option maxRecDepth 100000 in
set_option maxHeartbeats 4000000 in
theorem ls_14 {E : EV} {i : Nat} {M : Mem} (C : i + 6 ≤ eL E) (hL : eL E ≤ 3072) (h : Inv M) (hd : eX E i &&& 63 = nI 14) : ∃ M', w_L_law_18 E (nI i) M = some (.inl (nI (i + 6), M')) ∧ Inv M' := by
  obtain ⟨r0, r1, r2, r3, r4, r5, r6, hcond⟩ := ls_rd C hL
  obtain ⟨M1, M2, r, e1, e2, hI⟩ := c_left (eX E (i + 1)) (eX E (i + 2)) (if eX E (i + 3) = 0 then 0 else 1) h
  refine ⟨M2, ?_, hI⟩
  unfold w_L_law_18
  rw [if_neg hcond, r0, b1_some, hd, if_neg (by decide), if_neg (by decide), if_neg (by decide), if_neg (by decide), if_neg (by decide), if_neg (by decide), if_neg (by decide), if_neg (by decide), if_neg (by decide), if_neg (by decide), if_neg (by decide), if_neg (by decide), if_neg (by decide), if_neg (by decide), if_neg (by decide), if_pos (by decide), r1, r2, r3, b1_some, b1_some, b1_some, lt_eq, e1, b2_some, b1_some, b1_some, b1_some, lt_eq, e2, b2_some, if_pos rfl, r6]
set_option maxRecDepth 100000 in
set_option maxHeartbeats 4000000 in
theorem ls_15 {E : EV} {i : Nat} {M : Mem} (C : i + 6 ≤ eL E) (hL : eL E ≤ 3072) (h : Inv M) (hd : eX E i &&& 63 = nI 15) : ∃ M', w_L_law_18 E (nI i) M = some (.inl (nI (i + 6), M')) ∧ Inv M' := by
  obtain ⟨r0, r1, r2, r3, r4, r5, r6, hcond⟩ := ls_rd C hL
  obtain ⟨r, e1, e2⟩ := c_want (eX E (i + 1)) (eX E (i + 2)) h
  refine ⟨M, ?_, h⟩
  unfold w_L_law_18
  rw [if_neg hcond, r0, b1_some, hd, if_neg (by decide), if_neg (by decide), if_neg (by decide), if_neg (by decide), if_neg (by decide), if_neg (by decide), if_neg (by decide), if_neg (by decide), if_neg (by decide), if_neg (by decide), if_neg (by decide), if_neg (by decide), if_neg (by decide), if_neg (by decide), if_neg (by decide), if_neg (by decide), if_pos (by decide), r1, r2, b1_some, b1_some, e1, b1_some, b1_some, b1_some, e2, b1_some, if_pos rfl, r6]
set_option maxRecDepth 100000 in
set_option maxHeartbeats 4000000 in
theorem ls_16 {E : EV} {i : Nat} {M : Mem} (C : i + 6 ≤ eL E) (hL : eL E ≤ 3072) (h : Inv M) (hd : eX E i &&& 63 = nI 16) : ∃ M', w_L_law_18 E (nI i) M = some (.inl (nI (i + 6), M')) ∧ Inv M' := by
  obtain ⟨r0, r1, r2, r3, r4, r5, r6, hcond⟩ := ls_rd C hL
  obtain ⟨r, e1, e2⟩ := c_book (eX E (i + 1)) (eX E (i + 2)) h
  refine ⟨M, ?_, h⟩
  unfold w_L_law_18
  rw [if_neg hcond, r0, b1_some, hd, if_neg (by decide), if_neg (by decide), if_neg (by decide), if_neg (by decide), if_neg (by decide), if_neg (by decide), if_neg (by decide), if_neg (by decide), if_neg (by decide), if_neg (by decide), if_neg (by decide), if_neg (by decide), if_neg (by decide), if_neg (by decide), if_neg (by decide), if_neg (by decide), if_neg (by decide), if_pos (by decide), r1, r2, b1_some, b1_some, e1, b1_some, b1_some, b1_some, e2, b1_some, if_pos rfl, r6]
set_option maxRecDepth 100000 in
set_option maxHeartbeats 4000000 in
theorem ls_17 {E : EV} {i : Nat} {M : Mem} (C : i + 6 ≤ eL E) (hL : eL E ≤ 3072) (h : Inv M) (hd : eX E i &&& 63 = nI 17) : ∃ M', w_L_law_18 E (nI i) M = some (.inl (nI (i + 6), M')) ∧ Inv M' := by
  obtain ⟨r0, r1, r2, r3, r4, r5, r6, hcond⟩ := ls_rd C hL
  obtain ⟨M1, M2, r, e1, e2, hI⟩ := c_goes (eX E (i + 1)) (eX E (i + 2)) h
  refine ⟨M2, ?_, hI⟩
  unfold w_L_law_18
  rw [if_neg hcond, r0, b1_some, hd, if_neg (by decide), if_neg (by decide), if_neg (by decide), if_neg (by decide), if_neg (by decide), if_neg (by decide), if_neg (by decide), if_neg (by decide), if_neg (by decide), if_neg (by decide), if_neg (by decide), if_neg (by decide), if_neg (by decide), if_neg (by decide), if_neg (by decide), if_neg (by decide), if_neg (by decide), if_neg (by decide), if_pos (by decide), r1, r2, b1_some, b1_some, e1, b2_some, b1_some, b1_some, e2, b2_some, if_pos rfl, r6]
set_option maxRecDepth 100000 in
set_option maxHeartbeats 4000000 in
theorem ls_18 {E : EV} {i : Nat} {M : Mem} (C : i + 6 ≤ eL E) (hL : eL E ≤ 3072) (h : Inv M) (hd : eX E i &&& 63 = nI 18) : ∃ M', w_L_law_18 E (nI i) M = some (.inl (nI (i + 6), M')) ∧ Inv M' := by
  obtain ⟨r0, r1, r2, r3, r4, r5, r6, hcond⟩ := ls_rd C hL
  obtain ⟨M1, M2, r, e1, e2, hI⟩ := c_joins (eX E (i + 1)) (eX E (i + 2)) (eX E (i + 3)) h
  obtain ⟨y, hy, e3⟩ := b1E e2
  cases e3
  refine ⟨_, ?_, hI⟩
  unfold w_L_law_18
  rw [if_neg hcond, r0, b1_some, hd, if_neg (by decide), if_neg (by decide), if_neg (by decide), if_neg (by decide), if_neg (by decide), if_neg (by decide), if_neg (by decide), if_neg (by decide), if_neg (by decide), if_neg (by decide), if_neg (by decide), if_neg (by decide), if_neg (by decide), if_neg (by decide), if_neg (by decide), if_neg (by decide), if_neg (by decide), if_neg (by decide), if_neg (by decide), if_pos (by decide), r1, r2, r3, b1_some, b1_some, b1_some, e1, b2_some, b1_some, b1_some, b1_some, hy, b1_some, if_pos rfl, r6]
set_option maxRecDepth 100000 in
set_option maxHeartbeats 4000000 in
theorem ls_19 {E : EV} {i : Nat} {M : Mem} (C : i + 6 ≤ eL E) (hL : eL E ≤ 3072) (h : Inv M) (hd : eX E i &&& 63 = nI 19) : ∃ M', w_L_law_18 E (nI i) M = some (.inl (nI (i + 6), M')) ∧ Inv M' := by
  obtain ⟨r0, r1, r2, r3, r4, r5, r6, hcond⟩ := ls_rd C hL
  obtain ⟨M1, M2, r, e1, e2, hI⟩ := c_most (eX E (i + 1)) (eX E (i + 2)) (eX E (i + 3)) h
  refine ⟨M2, ?_, hI⟩
  unfold w_L_law_18
  rw [if_neg hcond, r0, b1_some, hd, if_neg (by decide), if_neg (by decide), if_neg (by decide), if_neg (by decide), if_neg (by decide), if_neg (by decide), if_neg (by decide), if_neg (by decide), if_neg (by decide), if_neg (by decide), if_neg (by decide), if_neg (by decide), if_neg (by decide), if_neg (by decide), if_neg (by decide), if_neg (by decide), if_neg (by decide), if_neg (by decide), if_neg (by decide), if_neg (by decide), if_pos (by decide), r1, r2, r3, b1_some, b1_some, b1_some, e1, b2_some, b1_some, b1_some, b1_some, e2, b2_some, if_pos rfl, r6]
set_option maxRecDepth 100000 in
set_option maxHeartbeats 4000000 in
theorem ls_20 {E : EV} {i : Nat} {M : Mem} (C : i + 6 ≤ eL E) (hL : eL E ≤ 3072) (h : Inv M) (hd : eX E i &&& 63 = nI 20) : ∃ M', w_L_law_18 E (nI i) M = some (.inl (nI (i + 6), M')) ∧ Inv M' := by
  obtain ⟨r0, r1, r2, r3, r4, r5, r6, hcond⟩ := ls_rd C hL
  obtain ⟨M1, M2, r, e1, e2, hI⟩ := c_piece (eX E (i + 1)) (eX E (i + 2)) h
  refine ⟨M2, ?_, hI⟩
  unfold w_L_law_18
  rw [if_neg hcond, r0, b1_some, hd, if_neg (by decide), if_neg (by decide), if_neg (by decide), if_neg (by decide), if_neg (by decide), if_neg (by decide), if_neg (by decide), if_neg (by decide), if_neg (by decide), if_neg (by decide), if_neg (by decide), if_neg (by decide), if_neg (by decide), if_neg (by decide), if_neg (by decide), if_neg (by decide), if_neg (by decide), if_neg (by decide), if_neg (by decide), if_neg (by decide), if_neg (by decide), if_pos (by decide), r1, r2, b1_some, b1_some, e1, b2_some, b1_some, b1_some, e2, b2_some, if_pos rfl, r6]
set_option maxRecDepth 100000 in
set_option maxHeartbeats 4000000 in
theorem ls_21 {E : EV} {i : Nat} {M : Mem} (C : i + 6 ≤ eL E) (hL : eL E ≤ 3072) (h : Inv M) (hd : eX E i &&& 63 = nI 21) : ∃ M', w_L_law_18 E (nI i) M = some (.inl (nI (i + 6), M')) ∧ Inv M' := by
  obtain ⟨r0, r1, r2, r3, r4, r5, r6, hcond⟩ := ls_rd C hL
  obtain ⟨M1, M2, r, e1, e2, hI⟩ := c_cuts (eX E (i + 1)) (eX E (i + 2)) h
  refine ⟨M2, ?_, hI⟩
  unfold w_L_law_18
  rw [if_neg hcond, r0, b1_some, hd, if_neg (by decide), if_neg (by decide), if_neg (by decide), if_neg (by decide), if_neg (by decide), if_neg (by decide), if_neg (by decide), if_neg (by decide), if_neg (by decide), if_neg (by decide), if_neg (by decide), if_neg (by decide), if_neg (by decide), if_neg (by decide), if_neg (by decide), if_neg (by decide), if_neg (by decide), if_neg (by decide), if_neg (by decide), if_neg (by decide), if_neg (by decide), if_neg (by decide), if_pos (by decide), r1, r2, b1_some, b1_some, e1, b2_some, b1_some, b1_some, e2, b2_some, if_pos rfl, r6]
set_option maxRecDepth 100000 in
set_option maxHeartbeats 4000000 in
theorem ls_22 {E : EV} {i : Nat} {M : Mem} (C : i + 6 ≤ eL E) (hL : eL E ≤ 3072) (h : Inv M) (hd : eX E i &&& 63 = nI 22) : ∃ M', w_L_law_18 E (nI i) M = some (.inl (nI (i + 6), M')) ∧ Inv M' := by
  obtain ⟨r0, r1, r2, r3, r4, r5, r6, hcond⟩ := ls_rd C hL
  obtain ⟨M1, M2, r, e1, e2, hI⟩ := c_stalls (eX E (i + 1)) h
  refine ⟨M2, ?_, hI⟩
  unfold w_L_law_18
  rw [if_neg hcond, r0, b1_some, hd, if_neg (by decide), if_neg (by decide), if_neg (by decide), if_neg (by decide), if_neg (by decide), if_neg (by decide), if_neg (by decide), if_neg (by decide), if_neg (by decide), if_neg (by decide), if_neg (by decide), if_neg (by decide), if_neg (by decide), if_neg (by decide), if_neg (by decide), if_neg (by decide), if_neg (by decide), if_neg (by decide), if_neg (by decide), if_neg (by decide), if_neg (by decide), if_neg (by decide), if_neg (by decide), if_pos (by decide), r1, b1_some, e1, b2_some, b1_some, e2, b2_some, if_pos rfl, r6]
set_option maxRecDepth 100000 in
set_option maxHeartbeats 4000000 in
theorem ls_23 {E : EV} {i : Nat} {M : Mem} (C : i + 6 ≤ eL E) (hL : eL E ≤ 3072) (h : Inv M) (hd : eX E i &&& 63 = nI 23) : ∃ M', w_L_law_18 E (nI i) M = some (.inl (nI (i + 6), M')) ∧ Inv M' := by
  obtain ⟨r0, r1, r2, r3, r4, r5, r6, hcond⟩ := ls_rd C hL
  obtain ⟨M1, M2, r, e1, e2, hI⟩ := c_test (eX E (i + 1)) (eX E (i + 2)) h
  refine ⟨M2, ?_, hI⟩
  unfold w_L_law_18
  rw [if_neg hcond, r0, b1_some, hd, if_neg (by decide), if_neg (by decide), if_neg (by decide), if_neg (by decide), if_neg (by decide), if_neg (by decide), if_neg (by decide), if_neg (by decide), if_neg (by decide), if_neg (by decide), if_neg (by decide), if_neg (by decide), if_neg (by decide), if_neg (by decide), if_neg (by decide), if_neg (by decide), if_neg (by decide), if_neg (by decide), if_neg (by decide), if_neg (by decide), if_neg (by decide), if_neg (by decide), if_neg (by decide), if_neg (by decide), if_pos (by decide), r1, r2, b1_some, b1_some, e1, b2_some, b1_some, b1_some, e2, b2_some, if_pos rfl, r6]
set_option maxRecDepth 100000 in
set_option maxHeartbeats 4000000 in
theorem ls_24 {E : EV} {i : Nat} {M : Mem} (C : i + 6 ≤ eL E) (hL : eL E ≤ 3072) (h : Inv M) (hd : eX E i &&& 63 = nI 24) : ∃ M', w_L_law_18 E (nI i) M = some (.inl (nI (i + 6), M')) ∧ Inv M' := by
  obtain ⟨r0, r1, r2, r3, r4, r5, r6, hcond⟩ := ls_rd C hL
  obtain ⟨r, e1, e2⟩ := c_forged (eX E (i + 1)) (eX E (i + 2)) (eX E (i + 3)) h
  refine ⟨M, ?_, h⟩
  unfold w_L_law_18
  rw [if_neg hcond, r0, b1_some, hd, if_neg (by decide), if_neg (by decide), if_neg (by decide), if_neg (by decide), if_neg (by decide), if_neg (by decide), if_neg (by decide), if_neg (by decide), if_neg (by decide), if_neg (by decide), if_neg (by decide), if_neg (by decide), if_neg (by decide), if_neg (by decide), if_neg (by decide), if_neg (by decide), if_neg (by decide), if_neg (by decide), if_neg (by decide), if_neg (by decide), if_neg (by decide), if_neg (by decide), if_neg (by decide), if_neg (by decide), if_neg (by decide), if_pos (by decide), r1, r2, r3, b1_some, b1_some, b1_some, e1, b1_some, b1_some, b1_some, b1_some, e2, b1_some, if_pos rfl, r6]
set_option maxRecDepth 100000 in
set_option maxHeartbeats 4000000 in
theorem ls_25 {E : EV} {i : Nat} {M : Mem} (C : i + 6 ≤ eL E) (hL : eL E ≤ 3072) (h : Inv M) (hd : eX E i &&& 63 = nI 25) : ∃ M', w_L_law_18 E (nI i) M = some (.inl (nI (i + 6), M')) ∧ Inv M' := by
  obtain ⟨r0, r1, r2, r3, r4, r5, r6, hcond⟩ := ls_rd C hL
  obtain ⟨r, e1, e2⟩ := c_lookAt (eX E (i + 1)) h
  refine ⟨M, ?_, h⟩
  unfold w_L_law_18
  rw [if_neg hcond, r0, b1_some, hd, if_neg (by decide), if_neg (by decide), if_neg (by decide), if_neg (by decide), if_neg (by decide), if_neg (by decide), if_neg (by decide), if_neg (by decide), if_neg (by decide), if_neg (by decide), if_neg (by decide), if_neg (by decide), if_neg (by decide), if_neg (by decide), if_neg (by decide), if_neg (by decide), if_neg (by decide), if_neg (by decide), if_neg (by decide), if_neg (by decide), if_neg (by decide), if_neg (by decide), if_neg (by decide), if_neg (by decide), if_neg (by decide), if_neg (by decide), if_pos (by decide), r1, b1_some, e1, b1_some, b1_some, e2, b1_some, if_pos rfl, r6]
set_option maxRecDepth 100000 in
set_option maxHeartbeats 4000000 in
theorem ls_26 {E : EV} {i : Nat} {M : Mem} (C : i + 6 ≤ eL E) (hL : eL E ≤ 3072) (h : Inv M) (hd : eX E i &&& 63 = nI 26) : ∃ M', w_L_law_18 E (nI i) M = some (.inl (nI (i + 6), M')) ∧ Inv M' := by
  obtain ⟨r0, r1, r2, r3, r4, r5, r6, hcond⟩ := ls_rd C hL
  obtain ⟨M1, M2, r, e1, e2, hI⟩ := c_crumbs (eX E (i + 1)) (eX E (i + 2)) h
  refine ⟨M2, ?_, hI⟩
  unfold w_L_law_18
  rw [if_neg hcond, r0, b1_some, hd, if_neg (by decide), if_neg (by decide), if_neg (by decide), if_neg (by decide), if_neg (by decide), if_neg (by decide), if_neg (by decide), if_neg (by decide), if_neg (by decide), if_neg (by decide), if_neg (by decide), if_neg (by decide), if_neg (by decide), if_neg (by decide), if_neg (by decide), if_neg (by decide), if_neg (by decide), if_neg (by decide), if_neg (by decide), if_neg (by decide), if_neg (by decide), if_neg (by decide), if_neg (by decide), if_neg (by decide), if_neg (by decide), if_neg (by decide), if_neg (by decide), if_pos (by decide), r1, r2, b1_some, b1_some, e1, b2_some, b1_some, b1_some, e2, b2_some, if_pos rfl, r6]
set_option maxRecDepth 100000 in
set_option maxHeartbeats 4000000 in
theorem ls_27 {E : EV} {i : Nat} {M : Mem} (C : i + 6 ≤ eL E) (hL : eL E ≤ 3072) (h : Inv M) (hd : eX E i &&& 63 = nI 27) : ∃ M', w_L_law_18 E (nI i) M = some (.inl (nI (i + 6), M')) ∧ Inv M' := by
  obtain ⟨r0, r1, r2, r3, r4, r5, r6, hcond⟩ := ls_rd C hL
  obtain ⟨M1, M2, r, e1, e2, hI⟩ := c_cooks (eX E (i + 1)) h
  refine ⟨M2, ?_, hI⟩
  unfold w_L_law_18
  rw [if_neg hcond, r0, b1_some, hd, if_neg (by decide), if_neg (by decide), if_neg (by decide), if_neg (by decide), if_neg (by decide), if_neg (by decide), if_neg (by decide), if_neg (by decide), if_neg (by decide), if_neg (by decide), if_neg (by decide), if_neg (by decide), if_neg (by decide), if_neg (by decide), if_neg (by decide), if_neg (by decide), if_neg (by decide), if_neg (by decide), if_neg (by decide), if_neg (by decide), if_neg (by decide), if_neg (by decide), if_neg (by decide), if_neg (by decide), if_neg (by decide), if_neg (by decide), if_neg (by decide), if_neg (by decide), if_pos (by decide), r1, b1_some, e1, b2_some, b1_some, e2, b2_some, if_pos rfl, r6]
set_option maxRecDepth 100000 in
set_option maxHeartbeats 4000000 in
theorem ls_28 {E : EV} {i : Nat} {M : Mem} (C : i + 6 ≤ eL E) (hL : eL E ≤ 3072) (h : Inv M) (hd : eX E i &&& 63 = nI 28) : ∃ M', w_L_law_18 E (nI i) M = some (.inl (nI (i + 6), M')) ∧ Inv M' := by
  obtain ⟨r0, r1, r2, r3, r4, r5, r6, hcond⟩ := ls_rd C hL
  obtain ⟨M1, M2, r, e1, e2, hI⟩ := c_waits (eX E (i + 1)) (eX E (i + 2)) h
  refine ⟨M2, ?_, hI⟩
  unfold w_L_law_18
  rw [if_neg hcond, r0, b1_some, hd, if_neg (by decide), if_neg (by decide), if_neg (by decide), if_neg (by decide), if_neg (by decide), if_neg (by decide), if_neg (by decide), if_neg (by decide), if_neg (by decide), if_neg (by decide), if_neg (by decide), if_neg (by decide), if_neg (by decide), if_neg (by decide), if_neg (by decide), if_neg (by decide), if_neg (by decide), if_neg (by decide), if_neg (by decide), if_neg (by decide), if_neg (by decide), if_neg (by decide), if_neg (by decide), if_neg (by decide), if_neg (by decide), if_neg (by decide), if_neg (by decide), if_neg (by decide), if_neg (by decide), if_pos (by decide), r1, r2, b1_some, b1_some, e1, b2_some, b1_some, b1_some, e2, b2_some, if_pos rfl, r6]
set_option maxRecDepth 100000 in
set_option maxHeartbeats 4000000 in
theorem ls_29 {E : EV} {i : Nat} {M : Mem} (C : i + 6 ≤ eL E) (hL : eL E ≤ 3072) (h : Inv M) (hd : eX E i &&& 63 = nI 29) : ∃ M', w_L_law_18 E (nI i) M = some (.inl (nI (i + 6), M')) ∧ Inv M' := by
  obtain ⟨r0, r1, r2, r3, r4, r5, r6, hcond⟩ := ls_rd C hL
  obtain ⟨M1, M2, r, e1, e2, hI⟩ := c_limit (eX E (i + 1)) h
  refine ⟨M2, ?_, hI⟩
  unfold w_L_law_18
  rw [if_neg hcond, r0, b1_some, hd, if_neg (by decide), if_neg (by decide), if_neg (by decide), if_neg (by decide), if_neg (by decide), if_neg (by decide), if_neg (by decide), if_neg (by decide), if_neg (by decide), if_neg (by decide), if_neg (by decide), if_neg (by decide), if_neg (by decide), if_neg (by decide), if_neg (by decide), if_neg (by decide), if_neg (by decide), if_neg (by decide), if_neg (by decide), if_neg (by decide), if_neg (by decide), if_neg (by decide), if_neg (by decide), if_neg (by decide), if_neg (by decide), if_neg (by decide), if_neg (by decide), if_neg (by decide), if_neg (by decide), if_neg (by decide), if_pos (by decide), r1, b1_some, e1, b2_some, b1_some, e2, b2_some, if_pos rfl, r6]
set_option maxRecDepth 100000 in
set_option maxHeartbeats 4000000 in
theorem ls_30 {E : EV} {i : Nat} {M : Mem} (C : i + 6 ≤ eL E) (hL : eL E ≤ 3072) (h : Inv M) (hd : eX E i &&& 63 = nI 30) : ∃ M', w_L_law_18 E (nI i) M = some (.inl (nI (i + 6), M')) ∧ Inv M' := by
  obtain ⟨r0, r1, r2, r3, r4, r5, r6, hcond⟩ := ls_rd C hL
  obtain ⟨r, e1, e2⟩ := c_dusk (eX E (i + 1)) (eX E (i + 2)) (eX E (i + 3)) h
  refine ⟨M, ?_, h⟩
  unfold w_L_law_18
  rw [if_neg hcond, r0, b1_some, hd, if_neg (by decide), if_neg (by decide), if_neg (by decide), if_neg (by decide), if_neg (by decide), if_neg (by decide), if_neg (by decide), if_neg (by decide), if_neg (by decide), if_neg (by decide), if_neg (by decide), if_neg (by decide), if_neg (by decide), if_neg (by decide), if_neg (by decide), if_neg (by decide), if_neg (by decide), if_neg (by decide), if_neg (by decide), if_neg (by decide), if_neg (by decide), if_neg (by decide), if_neg (by decide), if_neg (by decide), if_neg (by decide), if_neg (by decide), if_neg (by decide), if_neg (by decide), if_neg (by decide), if_neg (by decide), if_neg (by decide), if_pos (by decide), r1, r2, r3, b1_some, b1_some, b1_some, e1, b1_some, b1_some, b1_some, b1_some, e2, b1_some, if_pos rfl, r6]
set_option maxRecDepth 100000 in
set_option maxHeartbeats 4000000 in
theorem ls_31 {E : EV} {i : Nat} {M : Mem} (C : i + 6 ≤ eL E) (hL : eL E ≤ 3072) (h : Inv M) (hd : eX E i &&& 63 = nI 31) : ∃ M', w_L_law_18 E (nI i) M = some (.inl (nI (i + 6), M')) ∧ Inv M' := by
  obtain ⟨r0, r1, r2, r3, r4, r5, r6, hcond⟩ := ls_rd C hL
  obtain ⟨M1, M2, r, e1, e2, hI⟩ := c_trade (eX E (i + 1)) (eX E (i + 2)) (eX E (i + 3)) (eX E (i + 4)) h
  refine ⟨M2, ?_, hI⟩
  unfold w_L_law_18
  rw [if_neg hcond, r0, b1_some, hd, if_neg (by decide), if_neg (by decide), if_neg (by decide), if_neg (by decide), if_neg (by decide), if_neg (by decide), if_neg (by decide), if_neg (by decide), if_neg (by decide), if_neg (by decide), if_neg (by decide), if_neg (by decide), if_neg (by decide), if_neg (by decide), if_neg (by decide), if_neg (by decide), if_neg (by decide), if_neg (by decide), if_neg (by decide), if_neg (by decide), if_neg (by decide), if_neg (by decide), if_neg (by decide), if_neg (by decide), if_neg (by decide), if_neg (by decide), if_neg (by decide), if_neg (by decide), if_neg (by decide), if_neg (by decide), if_neg (by decide), if_neg (by decide), if_pos (by decide), r1, r2, r3, r4, b1_some, b1_some, b1_some, b1_some, e1, b2_some, b1_some, b1_some, b1_some, b1_some, e2, b2_some, if_pos rfl, r6]
set_option maxRecDepth 100000 in
set_option maxHeartbeats 4000000 in
theorem ls_32 {E : EV} {i : Nat} {M : Mem} (C : i + 6 ≤ eL E) (hL : eL E ≤ 3072) (h : Inv M) (hd : eX E i &&& 63 = nI 32) : ∃ M', w_L_law_18 E (nI i) M = some (.inl (nI (i + 6), M')) ∧ Inv M' := by
  obtain ⟨r0, r1, r2, r3, r4, r5, r6, hcond⟩ := ls_rd C hL
  obtain ⟨r, e1, e2⟩ := c_ring (eX E (i + 1)) (eX E (i + 2)) h
  refine ⟨M, ?_, h⟩
  unfold w_L_law_18
  rw [if_neg hcond, r0, b1_some, hd, if_neg (by decide), if_neg (by decide), if_neg (by decide), if_neg (by decide), if_neg (by decide), if_neg (by decide), if_neg (by decide), if_neg (by decide), if_neg (by decide), if_neg (by decide), if_neg (by decide), if_neg (by decide), if_neg (by decide), if_neg (by decide), if_neg (by decide), if_neg (by decide), if_neg (by decide), if_neg (by decide), if_neg (by decide), if_neg (by decide), if_neg (by decide), if_neg (by decide), if_neg (by decide), if_neg (by decide), if_neg (by decide), if_neg (by decide), if_neg (by decide), if_neg (by decide), if_neg (by decide), if_neg (by decide), if_neg (by decide), if_neg (by decide), if_neg (by decide), if_pos (by decide), r1, r2, b1_some, b1_some, e1, b1_some, b1_some, b1_some, e2, b1_some, if_pos rfl, r6]
set_option maxRecDepth 100000 in
set_option maxHeartbeats 4000000 in
theorem ls_33 {E : EV} {i : Nat} {M : Mem} (C : i + 6 ≤ eL E) (hL : eL E ≤ 3072) (h : Inv M) (hd : eX E i &&& 63 = nI 33) : ∃ M', w_L_law_18 E (nI i) M = some (.inl (nI (i + 6), M')) ∧ Inv M' := by
  obtain ⟨r0, r1, r2, r3, r4, r5, r6, hcond⟩ := ls_rd C hL
  obtain ⟨M1, M2, r, e1, e2, hI⟩ := c_back (eX E (i + 1)) h
  obtain ⟨y, hy, e3⟩ := b1E e2
  cases e3
  refine ⟨_, ?_, hI⟩
  unfold w_L_law_18
  rw [if_neg hcond, r0, b1_some, hd, if_neg (by decide), if_neg (by decide), if_neg (by decide), if_neg (by decide), if_neg (by decide), if_neg (by decide), if_neg (by decide), if_neg (by decide), if_neg (by decide), if_neg (by decide), if_neg (by decide), if_neg (by decide), if_neg (by decide), if_neg (by decide), if_neg (by decide), if_neg (by decide), if_neg (by decide), if_neg (by decide), if_neg (by decide), if_neg (by decide), if_neg (by decide), if_neg (by decide), if_neg (by decide), if_neg (by decide), if_neg (by decide), if_neg (by decide), if_neg (by decide), if_neg (by decide), if_neg (by decide), if_neg (by decide), if_neg (by decide), if_neg (by decide), if_neg (by decide), if_neg (by decide), if_pos (by decide), r1, b1_some, e1, b2_some, b1_some, hy, b1_some, if_pos rfl, r6]
set_option maxRecDepth 100000 in
set_option maxHeartbeats 4000000 in
theorem ls_34 {E : EV} {i : Nat} {M : Mem} (C : i + 6 ≤ eL E) (hL : eL E ≤ 3072) (h : Inv M) (hd : eX E i &&& 63 = nI 34) : ∃ M', w_L_law_18 E (nI i) M = some (.inl (nI (i + 6), M')) ∧ Inv M' := by
  obtain ⟨r0, r1, r2, r3, r4, r5, r6, hcond⟩ := ls_rd C hL
  obtain ⟨M1, M2, r, e1, e2, hI⟩ := c_undo  h
  refine ⟨M2, ?_, hI⟩
  unfold w_L_law_18
  rw [if_neg hcond, r0, b1_some, hd, if_neg (by decide), if_neg (by decide), if_neg (by decide), if_neg (by decide), if_neg (by decide), if_neg (by decide), if_neg (by decide), if_neg (by decide), if_neg (by decide), if_neg (by decide), if_neg (by decide), if_neg (by decide), if_neg (by decide), if_neg (by decide), if_neg (by decide), if_neg (by decide), if_neg (by decide), if_neg (by decide), if_neg (by decide), if_neg (by decide), if_neg (by decide), if_neg (by decide), if_neg (by decide), if_neg (by decide), if_neg (by decide), if_neg (by decide), if_neg (by decide), if_neg (by decide), if_neg (by decide), if_neg (by decide), if_neg (by decide), if_neg (by decide), if_neg (by decide), if_neg (by decide), if_neg (by decide), if_pos (by decide), e1, b2_some, e2, b2_some, if_pos rfl, r6]
set_option maxRecDepth 100000 in
set_option maxHeartbeats 4000000 in
theorem ls_35 {E : EV} {i : Nat} {M : Mem} (C : i + 6 ≤ eL E) (hL : eL E ≤ 3072) (h : Inv M) (hd : eX E i &&& 63 = nI 35) : ∃ M', w_L_law_18 E (nI i) M = some (.inl (nI (i + 6), M')) ∧ Inv M' := by
  obtain ⟨r0, r1, r2, r3, r4, r5, r6, hcond⟩ := ls_rd C hL
  obtain ⟨M1, M2, r, e1, e2, hI⟩ := c_image (if eX E (i + 1) = 0 then 0 else 1) h
  refine ⟨M2, ?_, hI⟩
  unfold w_L_law_18
  rw [if_neg hcond, r0, b1_some, hd, if_neg (by decide), if_neg (by decide), if_neg (by decide), if_neg (by decide), if_neg (by decide), if_neg (by decide), if_neg (by decide), if_neg (by decide), if_neg (by decide), if_neg (by decide), if_neg (by decide), if_neg (by decide), if_neg (by decide), if_neg (by decide), if_neg (by decide), if_neg (by decide), if_neg (by decide), if_neg (by decide), if_neg (by decide), if_neg (by decide), if_neg (by decide), if_neg (by decide), if_neg (by decide), if_neg (by decide), if_neg (by decide), if_neg (by decide), if_neg (by decide), if_neg (by decide), if_neg (by decide), if_neg (by decide), if_neg (by decide), if_neg (by decide), if_neg (by decide), if_neg (by decide), if_neg (by decide), if_neg (by decide), if_pos (by decide), r1, b1_some, lt_eq, e1, b2_some, b1_some, lt_eq, e2, b2_some, if_pos rfl, r6]
set_option maxRecDepth 100000 in
set_option maxHeartbeats 4000000 in
theorem ls_36 {E : EV} {i : Nat} {M : Mem} (C : i + 6 ≤ eL E) (hL : eL E ≤ 3072) (h : Inv M) (hd : eX E i &&& 63 = nI 36) : ∃ M', w_L_law_18 E (nI i) M = some (.inl (nI (i + 6), M')) ∧ Inv M' := by
  obtain ⟨r0, r1, r2, r3, r4, r5, r6, hcond⟩ := ls_rd C hL
  obtain ⟨r, e1, e2⟩ := c_look (eX E (i + 1)) h
  refine ⟨M, ?_, h⟩
  unfold w_L_law_18
  rw [if_neg hcond, r0, b1_some, hd, if_neg (by decide), if_neg (by decide), if_neg (by decide), if_neg (by decide), if_neg (by decide), if_neg (by decide), if_neg (by decide), if_neg (by decide), if_neg (by decide), if_neg (by decide), if_neg (by decide), if_neg (by decide), if_neg (by decide), if_neg (by decide), if_neg (by decide), if_neg (by decide), if_neg (by decide), if_neg (by decide), if_neg (by decide), if_neg (by decide), if_neg (by decide), if_neg (by decide), if_neg (by decide), if_neg (by decide), if_neg (by decide), if_neg (by decide), if_neg (by decide), if_neg (by decide), if_neg (by decide), if_neg (by decide), if_neg (by decide), if_neg (by decide), if_neg (by decide), if_neg (by decide), if_neg (by decide), if_neg (by decide), if_neg (by decide), if_pos (by decide), r1, b1_some, e1, b1_some, b1_some, e2, b1_some, if_pos rfl, r6]
