/-! ===== PURE PART: rows of ints ===== -/
abbrev Tb : Type := Nat × (Nat → Nat → Int32)
/-- the rows at o: most, width, and what stands in them -/
def RR (o m w : Nat) (T : Tb) (M : Mem) : Prop := la (o + 1) = some (m * w) ∧ (m ≤ 150 ∧ w ≤ 7 ∧ T.1 ≤ m) ∧ (M o 0 = nI m ∧ M o 1 = nI w ∧ M o 3 = nI T.1) ∧ ∀ r c, r < T.1 → c < w → M (o + 1) (r * w + c) = T.2 r c
theorem RR.congr {o m w : Nat} {T : Tb} {M M' : Mem} (h : RR o m w T M) (h0 : M' o = M o) (h1 : M' (o + 1) = M (o + 1)) : RR o m w T M' := by
  unfold RR; rw [h0, h1]; exact h
theorem RR.out {o m w lo hi : Nat} {T : Tb} {M M' : Mem} (h : RR o m w T M) (hx : Out lo hi M M') (ho : o + 1 < lo ∨ hi ≤ o) : RR o m w T M' :=
  h.congr (hx o (by omega)) (hx (o + 1) (by omega))
theorem row_lt {r c w m n : Nat} (hr : r < n) (hc : c < w) (hn : n ≤ m) : r * w + c < m * w := by
  have h1 : (r + 1) * w ≤ m * w := Nat.mul_le_mul_right w (by omega)
  rw [Nat.add_mul, Nat.one_mul] at h1
  omega
theorem mw_le {m w : Nat} (hm : m ≤ 150) (hw : w ≤ 7) : m * w ≤ 1050 := Nat.mul_le_mul hm hw
theorem row_inj {r c r' c' w : Nat} (hc : c < w) (hc' : c' < w) (h : r * w + c = r' * w + c') : r = r' ∧ c = c' := by
  rcases Nat.lt_trichotomy r r' with q | q | q
  · have h1 : (r + 1) * w ≤ r' * w := Nat.mul_le_mul_right w (by omega)
    rw [Nat.add_mul, Nat.one_mul] at h1
    omega
  · subst q; exact ⟨rfl, by omega⟩
  · have h1 : (r' + 1) * w ≤ r * w := Nat.mul_le_mul_right w (by omega)
    rw [Nat.add_mul, Nat.one_mul] at h1
    omega
section ROWS
variable {o m w : Nat} {T : Tb} {M : Mem}
theorem RR.cnt (h : RR o m w T M) : M o 3 = nI T.1 := h.2.2.1.2.2
theorem RR.le (h : RR o m w T M) : T.1 ≤ m := h.2.1.2.2
theorem RR.le2 (h : RR o m w T M) : T.1 ≤ 150 := Nat.le_trans h.2.1.2.2 h.2.1.1
theorem cellOf_in (h : RR o m w T M) {r c : Nat} (hr : r < T.1) (hc : c < w) : f_X8_cellOf o (nI r) (nI c) M = some (nI (r * w + c)) := by
  obtain ⟨hl, ⟨hm, hw, hT⟩, ⟨h0, h1, h3⟩, hx⟩ := h
  have hlt := row_lt hr hc hT
  have hb := mw_le hm hw
  have hln : ln (o + 1) = some (nI (m * w)) := by unfold ln; rw [hl]; rfl
  unfold f_X8_cellOf
  rw [h1, h3, hln, nI_mul, nI_add]
  rw [if_neg (by
    rintro (q | q | q | q)
    · exact nI_nneg (by omega) q
    · rw [nI_le_iff (by omega) (by omega)] at q; omega
    · exact nI_nneg (by omega) q
    · rw [nI_lt_iff (by omega) (by omega)] at q; omega)]
  simp only [b1_some, lt_eq]
  rw [if_neg (by rw [nI_le_iff (by omega) (by omega)]; omega)]
theorem cellOf_out (h : RR o m w T M) {r c : Int32} (q : r < 0 ∨ (nI T.1 ≤ r ∨ (c < 0 ∨ ¬ c < nI w))) : f_X8_cellOf o r c M = some (-1) := by
  obtain ⟨hl, ⟨hm, hw, hT⟩, ⟨h0, h1, h3⟩, hx⟩ := h
  unfold f_X8_cellOf
  rw [h1, h3, if_pos q]
theorem in_or_out (T : Tb) (w : Nat) (r c : Int32) (hT : T.1 < 2147483648) (hw : w < 2147483648) : (r < 0 ∨ (nI T.1 ≤ r ∨ (c < 0 ∨ ¬ c < nI w))) ∨ ∃ r' c', r' < T.1 ∧ c' < w ∧ r = nI r' ∧ c = nI c' := by
  by_cases q : r < 0 ∨ (nI T.1 ≤ r ∨ (c < 0 ∨ ¬ c < nI w))
  · exact .inl q
  · right
    rw [not_or, not_or, not_or, Decidable.not_not, Int32.not_lt, Int32.not_le, Int32.not_lt] at q
    obtain ⟨r', h1, h2⟩ := nI_below q.1 q.2.1 hT
    obtain ⟨c', h3, h4⟩ := nI_below q.2.2.1 q.2.2.2 hw
    exact ⟨r', c', h1, h3, h2, h4⟩
/-- what a row's column answers, at any two numbers -/
def tAt (T : Tb) (w : Nat) (r c : Int32) : Int32 := if r < 0 ∨ (nI T.1 ≤ r ∨ (c < 0 ∨ ¬ c < nI w)) then -1 else T.2 r.toInt.toNat c.toInt.toNat
theorem tAt_in {T : Tb} {w r c : Nat} (hr : r < T.1) (hc : c < w) (hT : T.1 ≤ 1000) (hw : w ≤ 1000) : tAt T w (nI r) (nI c) = T.2 r c := by
  unfold tAt
  rw [if_neg (by
    rintro (q | q | q | q)
    · exact nI_nneg (by omega) q
    · rw [nI_le_iff (by omega) (by omega)] at q; omega
    · exact nI_nneg (by omega) q
    · rw [nI_lt_iff (by omega) (by omega)] at q; omega), nI_toInt (by omega), nI_toInt (by omega)]
  rfl
theorem at_in (h : RR o m w T M) {r c : Nat} (hr : r < T.1) (hc : c < w) : f_X8_at o (nI r) (nI c) M = some (T.2 r c) := by
  have hb := mw_le h.2.1.1 h.2.1.2.1
  have hlt := row_lt hr hc h.le
  unfold f_X8_at
  rw [cellOf_in h hr hc, b1_some, if_neg (nI_nneg (by omega)), rd_nI h.1 hlt (by omega), b1_some, h.2.2.2 r c hr hc]
theorem at_out (h : RR o m w T M) {r c : Int32} (q : r < 0 ∨ (nI T.1 ≤ r ∨ (c < 0 ∨ ¬ c < nI w))) : f_X8_at o r c M = some (-1) := by
  unfold f_X8_at
  rw [cellOf_out h q, b1_some, if_pos neg1_lt]
theorem at_all (h : RR o m w T M) (r c : Int32) : f_X8_at o r c M = some (tAt T w r c) := by
  have h2 := h.le2
  have hw := h.2.1.2.1
  rcases in_or_out T w r c (by omega) (by omega) with q | ⟨r', c', h1, h3, rfl, rfl⟩
  · rw [at_out h q]; unfold tAt; rw [if_pos q]
  · rw [at_in h h1 h3, tAt_in h1 h3 (by omega) (by omega)]
def tPut (T : Tb) (r c : Nat) (v : Int32) : Tb := (T.1, fun r' c' => if r' = r ∧ c' = c then v else T.2 r' c')
theorem put_in (h : RR o m w T M) {r c : Nat} (v : Int32) (hr : r < T.1) (hc : c < w) : Wq (f_X8_put o (nI r) (nI c) v M) (fun M' => RR o m w (tPut T r c v) M' ∧ Out (o + 1) (o + 2) M M') := by
  have hb := mw_le h.2.1.1 h.2.1.2.1
  have hlt := row_lt hr hc h.le
  unfold f_X8_put
  rw [cellOf_in h hr hc, b1_some, if_neg (nI_nneg (by omega)), wr_nI h.1 hlt (by omega), b1_some]
  refine wq_some ⟨⟨h.1, h.2.1, ?_, ?_⟩, (Out.refl _ _ _).up (by omega) (by omega)⟩
  · rw [up2_cell _ _ _ (by omega)]; exact h.2.2.1
  · intro r' c' hr' hc'
    rw [up2_eq]
    show _ = if r' = r ∧ c' = c then v else T.2 r' c'
    by_cases e : r' = r ∧ c' = c
    · rw [if_pos e, if_pos ⟨rfl, by rw [e.1, e.2]⟩]
    · rw [if_neg e, if_neg (fun q => e (row_inj hc' hc q.2))]
      exact h.2.2.2 r' c' hr' hc'
theorem put_out (h : RR o m w T M) {r c : Int32} (v : Int32) (q : r < 0 ∨ (nI T.1 ≤ r ∨ (c < 0 ∨ ¬ c < nI w))) : f_X8_put o r c v M = some M := by
  unfold f_X8_put
  rw [cellOf_out h q, b1_some, if_pos neg1_lt]
theorem has_eq (h : RR o m w T M) (r : Int32) : f_X8_has o r M = if r < 0 ∨ nI T.1 ≤ r then 0 else 1 := by unfold f_X8_has; rw [h.cnt]
theorem isFull_eq (h : RR o m w T M) : f_X8_isFull o M = if T.1 < m then 0 else 1 := by
  have h2 := h.le2
  have h3 := h.2.1.1
  unfold f_X8_isFull
  rw [h.cnt, h.2.2.1.1, lt_eq]
  by_cases q : T.1 < m
  · rw [if_pos q, if_pos ((nI_lt_iff (by omega) (by omega)).2 q)]
  · rw [if_neg q, if_neg (fun e => q ((nI_lt_iff (by omega) (by omega)).1 e))]
def tCut (T : Tb) (n : Nat) : Tb := (n, T.2)
theorem RR.count (h : RR o m w T M) {n : Nat} (x : Int32) (hx : x = nI n) (hn : n ≤ T.1) : RR o m w (tCut T n) (up2 M o 3 x) := by
  subst hx
  refine ⟨h.1, ⟨h.2.1.1, h.2.1.2.1, Nat.le_trans hn h.le⟩, ⟨?_, ?_, up2_at _ _ _ _⟩, ?_⟩
  · rw [up2_slot _ _ _ (by omega)]; exact h.2.2.1.1
  · rw [up2_slot _ _ _ (by omega)]; exact h.2.2.1.2.1
  · intro r c hr hc
    rw [up2_cell _ _ _ (by omega)]
    exact h.2.2.2 r c (Nat.lt_of_lt_of_le hr hn) hc
theorem empty_ok (h : RR o m w T M) : (f_X8_empty o M).2 = 0 ∧ RR o m w (tCut T 0) (f_X8_empty o M).1 ∧ Out o (o + 1) M (f_X8_empty o M).1 := by
  unfold f_X8_empty
  rw [lt_eq]
  exact ⟨up2_at _ _ _ _, h.count 0 rfl (Nat.zero_le _), (Out.refl _ _ _).up (Nat.le_refl _) (by omega)⟩
/-- a row more -/
def tAdd (T : Tb) (v : Nat → Int32) : Tb := (T.1 + 1, fun r c => if r = T.1 then v c else T.2 r c)
theorem addEmpty_ok (h : RR o m w T M) (hf : T.1 < m) : Wq (f_X8_addEmpty o M) (fun p => p.2 = nI T.1 ∧ RR o m w (tAdd T (fun _ => 0)) p.1 ∧ Out o (o + 2) M p.1) := by
  have h2 := h.le2
  have hm := h.2.1.1
  have hw := h.2.1.2.1
  have hb := mw_le hm hw
  unfold f_X8_addEmpty
  rw [isFull_eq h, if_pos hf, if_pos rfl, lt_eq, h.cnt, nI_inc]
  refine wq_b1 (P := fun M' => RR o m w (tAdd T (fun _ => 0)) M' ∧ Out o (o + 2) M M') (lp_to (fun k s => s.1 = nI k ∧ (RR o m w (T.1 + 1, fun r c => if r = T.1 then s.2 (o + 1) (r * w + c) else T.2 r c) s.2 ∧ Out o (o + 2) M s.2) ∧ ∀ c, c < k → s.2 (o + 1) (T.1 * w + c) = 0) w ?_ ?_ _ ?_ (by omega)) ?_
  · rintro k ⟨i, N⟩ hk ⟨hi, ⟨hR, hO⟩, hz⟩
    simp only at hi hR hO hz
    subst hi
    unfold w_X8_addEmpty_21
    simp only
    rw [hR.2.2.1.2.1, if_neg (by rw [nI_le_iff (by omega) (by omega)]; omega), hR.cnt]
    simp only
    rw [nI_dec' (by omega), Nat.add_sub_cancel]
    obtain ⟨N', e, hR', hO'⟩ := put_in hR (r := T.1) (c := k) 0 (by simp) hk
    rw [e, b1_some]
    refine ⟨_, rfl, nI_inc k, ⟨?_, hO.trans (hO'.wide (by omega) (by omega))⟩, ?_⟩
    · refine ⟨hR'.1, hR'.2.1, hR'.2.2.1, ?_⟩
      intro r c hr hc
      simp only at hr ⊢
      by_cases q : r = T.1
      · rw [if_pos q]
      · rw [if_neg q]
        have := hR'.2.2.2 r c hr hc
        simp only [tPut] at this
        rw [if_neg (fun z => q z.1), if_neg q] at this
        exact this
    · intro c hc
      have := hR'.2.2.2 T.1 c (by simp [tPut]) (by omega)
      simp only [tPut] at this
      simp only
      rw [this]
      by_cases q : c = k
      · rw [if_pos ⟨trivial, q⟩]
      · rw [if_neg (fun z => q z.2), if_pos trivial]
        exact hz c (by omega)
  · rintro ⟨i, N⟩ ⟨hi, ⟨hR, hO⟩, hz⟩
    simp only at hi hR hO hz
    subst hi
    unfold w_X8_addEmpty_21
    simp only
    rw [hR.2.2.1.2.1, if_pos (by rw [nI_le_iff (by omega) (by omega)]; omega)]
    refine ⟨_, rfl, ⟨hR.1, hR.2.1, hR.2.2.1, ?_⟩, hO⟩
    intro r c hr hc
    simp only [tAdd] at hr ⊢
    by_cases q : r = T.1
    · rw [if_pos q, q]; exact hz c hc
    · rw [if_neg q]
      have := hR.2.2.2 r c hr hc
      simp only at this
      rw [if_neg q] at this
      exact this
  · refine ⟨rfl, ⟨?_, (Out.refl _ _ _).up (Nat.le_refl _) (by omega)⟩, fun c hc => absurd hc (Nat.not_lt_zero _)⟩
    refine ⟨h.1, ⟨hm, hw, hf⟩, ⟨?_, ?_, up2_at _ _ _ _⟩, ?_⟩
    · show up2 M o 3 _ o 0 = _
      rw [up2_slot _ _ _ (by omega)]; exact h.2.2.1.1
    · show up2 M o 3 _ o 1 = _
      rw [up2_slot _ _ _ (by omega)]; exact h.2.2.1.2.1
    · intro r c hr hc
      simp only at hr ⊢
      by_cases q : r = T.1
      · rw [if_pos q]
      · rw [if_neg q, up2_cell _ _ _ (by omega)]
        exact h.2.2.2 r c (by omega) hc
  · rintro N ⟨hR, hO⟩
    refine wq_some ⟨?_, hR, hO⟩
    simp only
    rw [hR.cnt]
    exact nI_dec' (by simp [tAdd])
theorem addEmpty_full (h : RR o m w T M) (hf : T.1 = m) : f_X8_addEmpty o M = some (M, -1) := by
  unfold f_X8_addEmpty
  rw [isFull_eq h, if_neg (show ¬ T.1 < m by omega), if_neg (by decide)]
/-- the four numbers of a row that is told, and zeros -/
def row4 (a b c d : Int32) : Nat → Int32 := fun j => if j = 0 then a else if j = 1 then b else if j = 2 then c else if j = 3 then d else 0
theorem RR.ext {T' : Tb} (h : RR o m w T M) (h1 : T'.1 = T.1) (h2 : ∀ r c, r < T.1 → c < w → T'.2 r c = T.2 r c) : RR o m w T' M := by
  refine ⟨h.1, ⟨h.2.1.1, h.2.1.2.1, by rw [h1]; exact h.le⟩, ⟨h.2.2.1.1, h.2.2.1.2.1, by rw [h1]; exact h.cnt⟩, ?_⟩
  intro r c hr hc
  rw [h1] at hr
  rw [h2 r c hr hc]
  exact h.2.2.2 r c hr hc
/-- put, in or out of the width -/
theorem put_any (h : RR o m w T M) {r c : Nat} (v : Int32) (hr : r < T.1) (hc : c < 100) : Wq (f_X8_put o (nI r) (nI c) v M) (fun M' => RR o m w (tPut T r c v) M' ∧ Out (o + 1) (o + 2) M M') := by
  by_cases q : c < w
  · exact put_in h v hr q
  · have hw := h.2.1.2.1
    rw [put_out h v (.inr (.inr (.inr (by rw [nI_lt_iff (by omega) (by omega)]; exact q))))]
    refine wq_some ⟨h.ext rfl ?_, Out.refl _ _ _⟩
    intro r' c' _ hc'
    simp only [tPut]
    rw [if_neg (by omega)]
theorem add_ok (h : RR o m w T M) (hf : T.1 < m) (a b c d : Int32) : Wq (f_X8_add o a b c d M) (fun p => p.2 = nI T.1 ∧ RR o m w (tAdd T (row4 a b c d)) p.1 ∧ Out o (o + 2) M p.1) := by
  unfold f_X8_add
  refine wq_b2 (addEmpty_ok h hf) ?_
  rintro M1 x ⟨hx, hR, hO⟩
  simp only at hx hR hO
  subst hx
  refine wq_b1 (put_any hR (r := T.1) (c := 0) a (by simp [tAdd]) (by omega)) ?_
  rintro M2 ⟨hR2, hO2⟩
  refine wq_b1 (put_any hR2 (r := T.1) (c := 1) b (by simp [tAdd, tPut]) (by omega)) ?_
  rintro M3 ⟨hR3, hO3⟩
  refine wq_b1 (put_any hR3 (r := T.1) (c := 2) c (by simp [tAdd, tPut]) (by omega)) ?_
  rintro M4 ⟨hR4, hO4⟩
  refine wq_b1 (put_any hR4 (r := T.1) (c := 3) d (by simp [tAdd, tPut]) (by omega)) ?_
  rintro M5 ⟨hR5, hO5⟩
  refine wq_some ⟨rfl, hR5.ext rfl ?_, (((hO.trans (hO2.wide (by omega) (by omega))).trans (hO3.wide (by omega) (by omega))).trans (hO4.wide (by omega) (by omega))).trans (hO5.wide (by omega) (by omega))⟩
  intro r j _ _
  simp only [tAdd, tPut, row4]
  by_cases q : r = T.1
  · simp only [q, true_and, if_true]
    by_cases j3 : j = 3
    · subst j3; simp
    · by_cases j2 : j = 2
      · subst j2; simp
      · by_cases j1 : j = 1
        · subst j1; simp
        · simp [j1, j2, j3]
  · simp [q]
theorem add_full (h : RR o m w T M) (hf : T.1 = m) (a b c d : Int32) : f_X8_add o a b c d M = some (M, -1) := by
  unfold f_X8_add
  rw [addEmpty_full h hf, b2_some, put_out h _ (.inl neg1_lt), b1_some, put_out h _ (.inl neg1_lt), b1_some, put_out h _ (.inl neg1_lt), b1_some, put_out h _ (.inl neg1_lt), b1_some]
/-- a row less -/
def tDrop (T : Tb) (i : Nat) : Tb := (T.1 - 1, fun r c => if r < i then T.2 r c else T.2 (r + 1) c)
theorem drop_ok (h : RR o m w T M) {i : Nat} (hi : i < T.1) : Wq (f_X8_drop o (nI i) M) (fun M' => RR o m w (tDrop T i) M' ∧ Out o (o + 2) M M') := by
  have h2 := h.le2
  have hw := h.2.1.2.1
  unfold f_X8_drop
  have hin : ¬ (nI i < 0 ∨ nI T.1 ≤ nI i) := by
    rintro (q | q)
    · exact nI_nneg (by omega) q
    · rw [nI_le_iff (by omega) (by omega)] at q; omega
  rw [has_eq h, if_neg hin, if_neg (by decide)]
  refine wq_b1 (P := fun M' => RR o m w (T.1, fun r c => if r < i ∨ r = T.1 - 1 then T.2 r c else T.2 (r + 1) c) M' ∧ Out o (o + 2) M M') (lp_to (fun k s => s.1 = nI (i + 1 + k) ∧ RR o m w (T.1, fun r c => if r < i ∨ i + k ≤ r then T.2 r c else T.2 (r + 1) c) s.2 ∧ Out o (o + 2) M s.2) (T.1 - 1 - i) ?_ ?_ _ ?_ (by omega)) ?_
  · rintro k ⟨j, N⟩ hk ⟨hj, hR, hO⟩
    simp only at hj hR hO
    subst hj
    unfold w_X8_drop_13
    simp only
    rw [hR.cnt, if_neg (by rw [nI_le_iff (by simp only; omega) (by omega)]; simp only; omega)]
    have inner := lp_to (body := fun s => w_X8_drop_23 o (nI (i + 1 + k)) s.1 s.2) (fun c s => s.1 = nI c ∧ RR o m w (T.1, fun r c' => if r < i ∨ i + k + 1 ≤ r ∨ (r = i + k ∧ c ≤ c') then T.2 r c' else T.2 (r + 1) c') s.2 ∧ Out o (o + 2) M s.2) w (Q := fun M' => RR o m w (T.1, fun r c' => if r < i ∨ i + (k + 1) ≤ r then T.2 r c' else T.2 (r + 1) c') M' ∧ Out o (o + 2) M M') (by
      rintro c ⟨j, N1⟩ hc ⟨hj, hR1, hO1⟩
      simp only at hj hR1 hO1
      subst hj
      unfold w_X8_drop_23
      simp only
      rw [hR1.2.2.1.2.1, if_neg (by rw [nI_le_iff (by omega) (by omega)]; omega), at_in hR1 (r := i + 1 + k) (c := c) (by simp only; omega) hc, b1_some]
      have e : nI (i + 1 + k) - 1 = nI (i + k) := by rw [nI_dec' (by omega)]; congr 1; omega
      rw [e]
      obtain ⟨N2, e2, hR2, hO2⟩ := put_in hR1 (r := i + k) (c := c) (T.2 (i + 1 + k) c) (by simp only; omega) hc
      simp only
      rw [if_pos (by omega), e2, b1_some]
      refine ⟨_, rfl, nI_inc c, hR2.ext rfl ?_, hO1.trans (hO2.wide (by omega) (by omega))⟩
      intro r c' hr hc'
      simp only [tPut]
      by_cases q : r = i + k ∧ c' = c
      · rw [if_pos q, if_neg (by omega), q.1, q.2, show i + 1 + k = i + k + 1 from by omega]
      · rw [if_neg q]
        by_cases q2 : r < i ∨ i + k + 1 ≤ r ∨ (r = i + k ∧ c ≤ c')
        · rw [if_pos q2, if_pos (by omega)]
        · rw [if_neg q2, if_neg (by omega)]) (by
      rintro ⟨j, N1⟩ ⟨hj, hR1, hO1⟩
      simp only at hj hR1 hO1
      subst hj
      unfold w_X8_drop_23
      simp only
      rw [hR1.2.2.1.2.1, if_pos (by rw [nI_le_iff (by omega) (by omega)]; omega)]
      refine ⟨_, rfl, hR1.ext rfl ?_, hO1⟩
      intro r c' hr hc'
      simp only
      by_cases q2 : r < i ∨ i + (k + 1) ≤ r
      · rw [if_pos q2, if_pos (by omega)]
      · rw [if_neg q2, if_neg (by omega)]) (0, N) ⟨rfl, hR.ext rfl (by
      intro r c' hr hc'
      simp only
      by_cases q2 : r < i ∨ i + k ≤ r
      · rw [if_pos q2, if_pos (by omega)]
      · rw [if_neg q2, if_neg (by omega)]), hO⟩ (by omega)
    obtain ⟨N', e, hR', hO'⟩ := inner
    rw [e, b1_some]
    exact ⟨_, rfl, by simp only; rw [nI_inc]; congr 1, hR', hO'⟩
  · rintro ⟨j, N⟩ ⟨hj, hR, hO⟩
    simp only at hj hR hO
    subst hj
    unfold w_X8_drop_13
    simp only
    rw [hR.cnt, if_pos (by rw [nI_le_iff (by simp only; omega) (by omega)]; simp only; omega)]
    refine ⟨_, rfl, hR.ext rfl ?_, hO⟩
    intro r c hr hc
    simp only at hr ⊢
    by_cases q : r < i ∨ r = T.1 - 1
    · rw [if_pos q, if_pos (by omega)]
    · rw [if_neg q, if_neg (by omega)]
  · refine ⟨by rw [nI_inc], h.ext rfl ?_, Out.refl _ _ _⟩
    intro r c hr hc
    simp only
    rw [if_pos (by omega)]
  · rintro N ⟨hR, hO⟩
    rw [lt_eq, hR.cnt]
    simp only
    have := hR.count (n := T.1 - 1) (nI T.1 - 1) (nI_dec' (by omega)) (by simp only; omega)
    refine wq_some ⟨this.ext rfl ?_, hO.up (Nat.le_refl _) (by omega)⟩
    intro r c hr hc
    simp only [tDrop, tCut] at hr ⊢
    by_cases q : r < i
    · rw [if_pos q, if_pos (by omega)]
    · rw [if_neg q, if_neg (by omega)]
theorem keepFirst_ok (h : RR o m w T M) {n : Nat} (hn : n ≤ T.1) : RR o m w (tCut T n) (f_X8_keepFirst o (nI n) M) ∧ Out o (o + 1) M (f_X8_keepFirst o (nI n) M) := by
  have h2 := h.le2
  unfold f_X8_keepFirst
  rw [h.cnt]
  by_cases q : n = T.1
  · rw [if_pos (.inr (by rw [nI_le_iff (by omega) (by omega)]; omega))]
    subst q
    exact ⟨h, Out.refl _ _ _⟩
  · rw [if_neg (by
      rintro (z | z)
      · exact nI_nneg (by omega) z
      · rw [nI_le_iff (by omega) (by omega)] at z; omega), lt_eq]
    exact ⟨h.count _ rfl hn, (Out.refl _ _ _).up (Nat.le_refl _) (by omega)⟩
theorem addTold_ok (h : RR o m w T M) (hf : T.1 < m) (a b c d : Int32) : Wq (f_X8_addTold o a b c d M) (fun p => p.2 = nI (T.1 + 1) ∧ RR o m w (tAdd T (row4 a b c d)) p.1 ∧ Out o (o + 2) M p.1) := by
  have h2 := h.le2
  unfold f_X8_addTold
  refine wq_b2 (add_ok h hf a b c d) ?_
  rintro M1 x ⟨hx, hR, hO⟩
  simp only at hx hR hO
  subst hx
  rw [lt_eq, if_neg (nI_neg1 (by omega))]
  exact wq_some ⟨hR.cnt, hR, hO⟩
theorem addTold_full (h : RR o m w T M) (hf : T.1 = m) (a b c d : Int32) : f_X8_addTold o a b c d M = some (M, -1) := by
  unfold f_X8_addTold
  rw [add_full h hf, b2_some, lt_eq, if_pos rfl]
theorem copyFrom_ok {o' : Nat} {T' : Tb} (h : RR o m w T M) (h' : RR o' m w T' M) (hne : o' + 1 < o ∨ o + 1 < o') : Wq (f_X8_copyFrom o o' M) (fun M' => RR o m w T' M' ∧ Out o (o + 2) M M') := by
  have hm := h.2.1.1
  have hw := h.2.1.2.1
  have hb := mw_le hm hw
  have h2' := h'.le2
  have hle : T'.1 * w ≤ m * w := Nat.mul_le_mul_right w h'.le
  have hln : ln (o + 1) = some (nI (m * w)) := by unfold ln; rw [h.1]; rfl
  have hln' : ln (o' + 1) = some (nI (m * w)) := by unfold ln; rw [h'.1]; rfl
  unfold f_X8_copyFrom
  rw [h.2.2.1.2.1, h'.2.2.1.2.1, if_pos rfl, h'.cnt, hln, hln', nI_mul]
  simp only [b1_some]
  rw [if_neg (by rw [nI_lt_iff (by omega) (by omega)]; omega), if_pos (by rw [nI_le_iff (by omega) (by omega)]; omega)]
  unfold cpy
  rw [h.1, h'.1]
  simp only
  rw [if_pos (by rw [nI_toInt (by omega), toInt_0]; omega), b1_some, lt_eq]
  refine wq_some ⟨⟨h.1, ⟨hm, hw, h'.le⟩, ⟨?_, ?_, ?_⟩, ?_⟩, ?_⟩
  · rw [up2_slot _ _ _ (by omega)]
    unfold upA
    rw [if_neg (by omega)]
    exact h.2.2.1.1
  · rw [up2_slot _ _ _ (by omega)]
    unfold upA
    rw [if_neg (by omega)]
    exact h.2.2.1.2.1
  · rw [up2_at]
    unfold upA
    rw [if_neg (by omega)]
    exact h'.cnt
  · intro r c hr hc
    rw [up2_cell _ _ _ (by omega)]
    unfold upA
    rw [if_pos rfl, nI_clamp (by omega), show (0 : Int32).toNatClampNeg = 0 from rfl]
    unfold va_cpy
    have hlt := row_lt (m := T'.1) hr hc (Nat.le_refl _)
    rw [if_pos ⟨Nat.zero_le _, by omega⟩, Nat.zero_add, Nat.sub_zero]
    exact h'.2.2.2 r c hr hc
  · intro a ha
    rw [up2_cell _ _ _ (by omega)]
    unfold upA
    rw [if_neg (by omega)]
end ROWS
