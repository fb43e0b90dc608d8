/-! ===== PURE PART: feed ===== -/
theorem nI_rep (x : Int32) : x = nI x.toBitVec.toNat := by
  apply Int32.toBitVec_inj.1
  show x.toBitVec = BitVec.ofNat 32 x.toBitVec.toNat
  rw [BitVec.ofNat_toNat, BitVec.setWidth_eq]
theorem byte_lt (x : Int32) : ∃ b, b < 256 ∧ x &&& 255 = nI b := by
  refine ⟨x.toBitVec.toNat &&& 255, ?_, ?_⟩
  · have : x.toBitVec.toNat &&& 255 ≤ 255 := Nat.and_le_right
    omega
  · conv => lhs; rw [nI_rep x]
    exact nI_and _ 255
theorem bit255 : ∀ i, i < 32 → 8 ≤ i → (255#32).getLsbD i = false := by decide
/-- a byte of a number is the same by either shift -/
theorem byte_eq (x : Int32) {s : Nat} (hs : s ≤ 24) : (ush x (nI s)) &&& 255 = (x >>> (nI s &&& 31)) &&& 255 := by
  rw [nI_and31 (by omega)]
  apply Int32.toBitVec_inj.1
  show (x.toBitVec >>> (UInt32.mod ((nI s).toUInt32 &&& Int32.toUInt32 31) 32).toBitVec) &&& 255#32 = (BitVec.sshiftRight' x.toBitVec ((BitVec.ofNat 32 s).smod 32)) &&& 255#32
  rw [smod32 s (by omega), BitVec.sshiftRight_eq', BitVec.ushiftRight_eq', ushk s (by omega), BitVec.toNat_ofNat, Nat.mod_eq_of_lt (show s < 2 ^ 32 by omega)]
  apply BitVec.eq_of_getLsbD_eq
  intro i hi
  rw [BitVec.getLsbD_and, BitVec.getLsbD_and, BitVec.getLsbD_ushiftRight, BitVec.getLsbD_sshiftRight]
  by_cases q : i < 8
  · rw [if_pos (by omega)]
    have : (!decide (32 ≤ i)) = true := by simp; omega
    rw [this, Bool.true_and]
  · rw [bit255 i hi (by omega), Bool.and_false, Bool.and_false]
def argF (a b c d e : Int32) (t : Nat) : Int32 := if t < 4 then a else if t < 8 then b else if t < 12 then c else if t < 16 then d else e
def btF (a b c d e : Int32) (t : Nat) : Int32 := (argF a b c d e t >>> (nI (24 - 8 * (t % 4)) &&& 31)) &&& 255
def tpF (a b c d e : Int32) (tp : Sk) : Sk := (tp.1 + 20, fun j => if j < tp.1 then tp.2 j else btF a b c d e (j - tp.1))
theorem la_137 : la 137 = some 400 := by decide +kernel
theorem la_163 : la 163 = some 400 := by decide +kernel
theorem addN_step {M : Mem} {n s : Nat} (x : Int32) (hn : M 136 4 = nI n) (h : n < 400) (hs : s ≤ 24) : w_X9_addNumber_3 x (nI s) M = some (.inl (nI s + (-8), up2 (up2 M 137 n ((x >>> (nI s &&& 31)) &&& 255)) 136 4 (nI (n + 1)))) := by
  unfold w_X9_addNumber_3
  rw [hn, if_neg (by
    rintro (q | q | q)
    · exact nI_nneg (by omega) q
    · exact nI_nneg (by omega) q
    · have q : nI 400 ≤ nI n := q
      rw [nI_le_iff (by omega) (by omega)] at q; omega), wr_nI la_137 h (by omega), b1_some, lt_eq, up2_cell _ _ _ (by omega), hn, nI_inc, byte_eq x hs]
theorem addNumber_ok {M : Mem} {n : Nat} (x : Int32) (hn : M 136 4 = nI n) (h : n + 4 ≤ 400) : Wq (f_X9_addNumber x M) (fun M' => M' 136 4 = nI (n + 4) ∧ (∀ j, j ≠ 4 → M' 136 j = M 136 j) ∧ (∀ y, M' 137 y = if n ≤ y ∧ y < n + 4 then (x >>> (nI (24 - 8 * (y - n)) &&& 31)) &&& 255 else M 137 y) ∧ Out 136 138 M M') := by
  have e1 := addN_step (n := n) (s := 24) x hn (by omega) (by omega)
  have e2 := addN_step (M := up2 (up2 M 137 n ((x >>> (nI 24 &&& 31)) &&& 255)) 136 4 (nI (n + 1))) (n := n + 1) (s := 16) x (up2_at _ _ _ _) (by omega) (by omega)
  have e3 := addN_step (M := up2 (up2 (up2 (up2 M 137 n ((x >>> (nI 24 &&& 31)) &&& 255)) 136 4 (nI (n + 1))) 137 (n + 1) ((x >>> (nI 16 &&& 31)) &&& 255)) 136 4 (nI (n + 1 + 1))) (n := n + 1 + 1) (s := 8) x (up2_at _ _ _ _) (by omega) (by omega)
  have e4 := addN_step (M := up2 (up2 (up2 (up2 (up2 (up2 M 137 n ((x >>> (nI 24 &&& 31)) &&& 255)) 136 4 (nI (n + 1))) 137 (n + 1) ((x >>> (nI 16 &&& 31)) &&& 255)) 136 4 (nI (n + 1 + 1))) 137 (n + 1 + 1) ((x >>> (nI 8 &&& 31)) &&& 255)) 136 4 (nI (n + 1 + 1 + 1))) (n := n + 1 + 1 + 1) (s := 0) x (up2_at _ _ _ _) (by omega) (by omega)
  unfold f_X9_addNumber
  refine wq_b1e (a := up2 (up2 (up2 (up2 (up2 (up2 (up2 (up2 M 137 n ((x >>> (nI 24 &&& 31)) &&& 255)) 136 4 (nI (n + 1))) 137 (n + 1) ((x >>> (nI 16 &&& 31)) &&& 255)) 136 4 (nI (n + 1 + 1))) 137 (n + 1 + 1) ((x >>> (nI 8 &&& 31)) &&& 255)) 136 4 (nI (n + 1 + 1 + 1))) 137 (n + 1 + 1 + 1) ((x >>> (nI 0 &&& 31)) &&& 255)) 136 4 (nI (n + 1 + 1 + 1 + 1))) ?_ ?_
  · show lp (fun s => w_X9_addNumber_3 x s.1 s.2) (999995 + 1 + 1 + 1 + 1 + 1) (nI 24, M) = _
    rw [lp_in (s := (nI 24, M)) e1, show nI 24 + (-8) = nI 16 from by decide, lp_in (s := (nI 16, _)) e2, show nI 16 + (-8) = nI 8 from by decide, lp_in (s := (nI 8, _)) e3, show nI 8 + (-8) = nI 0 from by decide, lp_in (s := (nI 0, _)) e4]
    refine lp_end ?_
    simp only [w_X9_addNumber_3]
    rw [if_pos (.inl (by decide))]
  · refine wq_some ⟨?_, ?_, ?_, ?_⟩
    · rw [up2_at]
    · intro j hj
      simp only [up2_cell _ _ _ (show (136 : Nat) ≠ 137 by omega), up2_slot _ 136 _ hj]
    · intro y
      simp only [up2_eq, true_and, show ¬ ((137 : Nat) = 136) by omega, false_and, if_false]
      by_cases q : n ≤ y ∧ y < n + 4
      · rw [if_pos q]
        have : y = n ∨ y = n + 1 ∨ y = n + 2 ∨ y = n + 3 := by omega
        rcases this with rfl | rfl | rfl | rfl
        · rw [if_neg (by omega), if_neg (by omega), if_neg (by omega), if_pos rfl, Nat.sub_self]
        · rw [if_neg (by omega), if_neg (by omega), if_pos rfl, show n + 1 - n = 1 from by omega]
        · rw [if_neg (by omega), if_pos rfl, show n + 2 - n = 2 from by omega]
        · rw [if_pos rfl, show n + 3 - n = 3 from by omega]
      · rw [if_neg q, if_neg (by omega), if_neg (by omega), if_neg (by omega), if_neg (by omega)]
    · refine Out.up (Out.up (Out.up (Out.up (Out.up (Out.up (Out.up (Out.up (Out.refl _ _ _) ?_ ?_) ?_ ?_) ?_ ?_) ?_ ?_) ?_ ?_) ?_ ?_) ?_ ?_) ?_ ?_ <;> omega
theorem feed_sh : ∀ k, k < 20 → (24 - (8 * (nI k - nI k / 4 * 4))) = nI (24 - 8 * (k % 4)) := by decide +kernel
theorem feed_m {M : Mem} {n : Nat} (a b c d e : Int32) (hn : M 155 16 = nI n) (h : n + 20 ≤ 400) : Wq (lp (fun s => w_X11_feed_18 a b c d e s.1 s.2) FU (0, M)) (fun M' => M' 155 16 = nI (n + 20) ∧ (∀ j, j ≠ 16 → M' 155 j = M 155 j) ∧ (∀ y, M' 163 y = if n ≤ y ∧ y < n + 20 then btF a b c d e (y - n) else M 163 y) ∧ ∀ q, q ≠ 155 → q ≠ 163 → M' q = M q) := by
  refine lp_to (fun k s => s.1 = nI k ∧ s.2 155 16 = nI (n + k) ∧ (∀ j, j ≠ 16 → s.2 155 j = M 155 j) ∧ (∀ y, s.2 163 y = if n ≤ y ∧ y < n + k then btF a b c d e (y - n) else M 163 y) ∧ ∀ q, q ≠ 155 → q ≠ 163 → s.2 q = M q) 20 ?_ ?_ _ ?_ (by omega)
  · rintro k ⟨i, N⟩ hk ⟨hi, h1, h2, h3, h4⟩
    simp only at hi h1 h2 h3 h4
    subst hi
    have ha : ((if 4 ≤ nI k then (if 8 ≤ nI k then (if 12 ≤ nI k then (if 16 ≤ nI k then e else d) else c) else b) else a) : Int32) = argF a b c d e k := by
      have c4 : (4 : Int32) ≤ nI k ↔ 4 ≤ k := nI_le_iff (a := 4) (by omega) (by omega)
      have c8 : (8 : Int32) ≤ nI k ↔ 8 ≤ k := nI_le_iff (a := 8) (by omega) (by omega)
      have c12 : (12 : Int32) ≤ nI k ↔ 12 ≤ k := nI_le_iff (a := 12) (by omega) (by omega)
      have c16 : (16 : Int32) ≤ nI k ↔ 16 ≤ k := nI_le_iff (a := 16) (by omega) (by omega)
      unfold argF
      by_cases q4 : 4 ≤ k
      · rw [if_pos (c4.2 q4), if_neg (show ¬ k < 4 by omega)]
        by_cases q8 : 8 ≤ k
        · rw [if_pos (c8.2 q8), if_neg (show ¬ k < 8 by omega)]
          by_cases q12 : 12 ≤ k
          · rw [if_pos (c12.2 q12), if_neg (show ¬ k < 12 by omega)]
            by_cases q16 : 16 ≤ k
            · rw [if_pos (c16.2 q16), if_neg (show ¬ k < 16 by omega)]
            · rw [if_neg (fun z => q16 (c16.1 z)), if_pos (show k < 16 by omega)]
          · rw [if_neg (fun z => q12 (c12.1 z)), if_pos (show k < 12 by omega)]
        · rw [if_neg (fun z => q8 (c8.1 z)), if_pos (show k < 8 by omega)]
      · rw [if_neg (fun z => q4 (c4.1 z)), if_pos (show k < 4 by omega)]
    unfold w_X11_feed_18
    simp only
    rw [if_neg (by
      intro q
      have q : nI 20 ≤ nI k := q
      rw [nI_le_iff (by omega) (by omega)] at q; omega), ha, lt_eq, feed_sh k hk, h1, wr_nI la_163 (by omega) (by omega), b1_some, lt_eq, up2_cell _ _ _ (by omega), h1, nI_inc, nI_inc]
    refine ⟨_, rfl, rfl, ?_, ?_, ?_, ?_⟩
    · simp only
      rw [up2_at]; rfl
    · intro j hj
      simp only
      rw [up2_slot _ _ _ hj, up2_cell _ _ _ (by omega)]
      exact h2 j hj
    · intro y
      simp only
      rw [up2_cell _ _ _ (by omega), up2_eq, h3]
      by_cases q : y = n + k
      · rw [if_pos ⟨rfl, q⟩, if_pos (by omega), q, Nat.add_sub_cancel_left]
        rfl
      · rw [if_neg (fun z => q z.2)]
        by_cases q2 : n ≤ y ∧ y < n + k
        · rw [if_pos q2, if_pos (by omega)]
        · rw [if_neg q2, if_neg (by omega)]
    · intro q h155 h163
      simp only
      rw [up2_cell _ _ _ h155, up2_cell _ _ _ h163]
      exact h4 q h155 h163
  · rintro ⟨i, N⟩ ⟨hi, h1, h2, h3, h4⟩
    simp only at hi h1 h2 h3 h4
    subst hi
    unfold w_X11_feed_18
    simp only
    rw [if_pos (by decide)]
    exact ⟨_, rfl, h1, h2, h3, h4⟩
  · refine ⟨rfl, hn, fun _ _ => rfl, ?_, fun _ _ _ => rfl⟩
    intro y
    simp only
    rw [if_neg (by omega)]
theorem c_feed (a b c d e : Int32) {M : Mem} (h : Inv M) : ∃ M1 M2 r, f_X10_feed a b c d e M = some (M1, r) ∧ f_X11_feed a b c d e M1 = some (M2, r) ∧ Inv M2 := by
  refine both_ok (fc := fun M => f_X10_feed a b c d e M) (fm := fun M => f_X11_feed a b c d e M) h ?_
  rintro ⟨A, I, P, tp, ft⟩ hC hM hG
  have hle : tp.1 ≤ 400 := hG.2.2.2.1
  have hl : M 136 4 = nI tp.1 := hC.2.2.2.2.2.1
  have i20 : nI tp.1 + 20 = nI (tp.1 + 20) := nI_add _ 20
  by_cases q : tp.1 + 20 ≤ 400
  · have hok : OKG (A, I, P, tpF a b c d e tp, ft) := by
      refine ⟨hG.1, hG.2.1, hG.2.2.1, q, ?_⟩
      intro j hj
      show ∃ x, x < 256 ∧ (if j < tp.1 then tp.2 j else btF a b c d e (j - tp.1)) = nI x
      by_cases z : j < tp.1
      · rw [if_pos z]; exact hG.2.2.2.2 j z
      · rw [if_neg z]; exact byte_lt _
    refine ⟨(A, I, P, tpF a b c d e tp, ft), nI (tp.1 + 20), hok, ?_, fun M1 hM1 => ?_⟩
    · show Wq (f_X10_feed a b c d e M) _
      unfold f_X10_feed f_X9_hasRoomFor
      rw [lt_eq, hl, i20, if_neg (by
        rw [if_neg (by
          intro z
          have z : nI 400 < nI (tp.1 + 20) := z
          rw [nI_lt_iff (by omega) (by omega)] at z; omega)]
        decide)]
      refine wq_b1 (addNumber_ok a hl (by omega)) ?_
      rintro M2 ⟨a1, a2, a3, a4⟩
      refine wq_b1 (addNumber_ok b a1 (by omega)) ?_
      rintro M3 ⟨b1, b2, b3, b4⟩
      refine wq_b1 (addNumber_ok c b1 (by omega)) ?_
      rintro M4 ⟨c1, c2, c3, c4⟩
      refine wq_b1 (addNumber_ok d c1 (by omega)) ?_
      rintro M5 ⟨d1, d2, d3, d4⟩
      refine wq_b1 (addNumber_ok e d1 (by omega)) ?_
      rintro M6 ⟨e1, e2, e3, e4⟩
      have hO : Out 136 138 M M6 := (((a4.trans b4).trans c4).trans d4).trans e4
      have hT : RTk (tpF a b c d e tp) ft M6 := by
        refine ⟨e1, ?_, ?_, ?_⟩
        · intro j hj
          have hj : j < tp.1 + 20 := hj
          show M6 137 j = if j < tp.1 then tp.2 j else btF a b c d e (j - tp.1)
          rw [e3, d3, c3, b3, a3]
          by_cases z : j < tp.1
          · rw [if_pos z, if_neg (by omega), if_neg (by omega), if_neg (by omega), if_neg (by omega), if_neg (by omega)]
            exact hC.2.2.2.2.2.2.1 j z
          · rw [if_neg z]
            unfold btF argF
            by_cases z4 : j - tp.1 < 4
            · rw [if_neg (by omega), if_neg (by omega), if_neg (by omega), if_neg (by omega), if_pos (by omega), if_pos z4, show (j - tp.1) % 4 = j - tp.1 from by omega]
            · by_cases z8 : j - tp.1 < 8
              · rw [if_neg (by omega), if_neg (by omega), if_neg (by omega), if_pos (by omega), if_neg z4, if_pos z8, show (j - tp.1) % 4 = j - (tp.1 + 4) from by omega]
              · by_cases z12 : j - tp.1 < 12
                · rw [if_neg (by omega), if_neg (by omega), if_pos (by omega), if_neg z4, if_neg z8, if_pos z12, show (j - tp.1) % 4 = j - (tp.1 + 4 + 4) from by omega]
                · by_cases z16 : j - tp.1 < 16
                  · rw [if_neg (by omega), if_pos (by omega), if_neg z4, if_neg z8, if_neg z12, if_pos z16, show (j - tp.1) % 4 = j - (tp.1 + 4 + 4 + 4) from by omega]
                  · rw [if_pos (by omega), if_neg z4, if_neg z8, if_neg z12, if_neg z16, show (j - tp.1) % 4 = j - (tp.1 + 4 + 4 + 4 + 4) from by omega]
        · rw [e2 7 (by omega), d2 7 (by omega), c2 7 (by omega), b2 7 (by omega), a2 7 (by omega)]
          exact hC.2.2.2.2.2.2.2.1
        · rw [e2 8 (by omega), d2 8 (by omega), c2 8 (by omega), b2 8 (by omega), a2 8 (by omega)]
          exact hC.2.2.2.2.2.2.2.2
      exact wq_some ⟨e1, hC.tok (hO.wide (by omega) (by omega)) hT, hO.hi (by omega)⟩
    · show Wq (f_X11_feed a b c d e M1) _
      have hl1 : M1 155 16 = nI tp.1 := hM1.2.2.2.1.1
      unfold f_X11_feed
      rw [hl1, i20, if_pos (show nI (tp.1 + 20) ≤ 400 from nI_le (b := 400) q (by omega))]
      refine wq_b1 (feed_m a b c d e hl1 q) ?_
      rintro N ⟨n1, n2, n3, n4⟩
      refine wq_some ⟨n1, hM1.upd155 (n4 156 (by omega) (by omega)) (n4 157 (by omega) (by omega)) (n2 5 (by omega)) ?_ ⟨n1, ?_⟩ ?_, fun x hx => n4 x (by omega) (by omega)⟩
      · have := hM1.2.2.1
        unfold RPm RSn at this ⊢
        simp only
        rw [n2 4 (by omega), n4 158 (by omega) (by omega)]
        exact this
      · intro j hj
        have hj : j < tp.1 + 20 := hj
        show N 163 j = if j < tp.1 then tp.2 j else btF a b c d e (j - tp.1)
        rw [n3]
        by_cases z : j < tp.1
        · rw [if_pos z, if_neg (by omega)]
          exact hM1.2.2.2.1.2 j z
        · rw [if_neg z, if_pos (by omega)]
      · simp only
        rw [n2 23 (by omega), n2 25 (by omega)]
        exact hM1.2.2.2.2
  · refine ⟨(A, I, P, tp, ft), -1, hG, ?_, fun M1 hM1 => ?_⟩
    · show Wq (f_X10_feed a b c d e M) _
      unfold f_X10_feed f_X9_hasRoomFor
      rw [lt_eq, hl, i20, if_pos (by rw [if_pos (show (400 : Int32) < nI (tp.1 + 20) from nI_lt (a := 400) (by omega) (by omega))])]
      exact wq_some ⟨rfl, hC, Hi.refl _⟩
    · show Wq (f_X11_feed a b c d e M1) _
      have hl1 : M1 155 16 = nI tp.1 := hM1.2.2.2.1.1
      unfold f_X11_feed
      rw [hl1, i20, if_neg (by
        intro z
        have z : nI (tp.1 + 20) ≤ nI 400 := z
        rw [nI_le_iff (by omega) (by omega)] at z; omega)]
      exact wq_some ⟨rfl, hM1, Lo.refl _⟩
