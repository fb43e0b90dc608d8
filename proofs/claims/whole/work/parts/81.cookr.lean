/-! ===== PURE PART: cooks, as they run ===== -/
theorem la_168 : la 168 = some 6 := by decide +kernel
theorem ng_zero {T : Tb} {r k : Nat} : ∀ j, (∀ j', j' < j → T.2 r (2 + 2 * j') ≠ nI k) → ngN T r k j = 0
  | 0, _ => rfl
  | j + 1, h => by
    show (if T.2 r (2 + 2 * j) = nI k then vN T r (3 + 2 * j) else ngN T r k j) = 0
    rw [if_neg (h j (by omega))]
    exact ng_zero j (fun j' hj' => h j' (by omega))
theorem nd_far {nk : Nat} {T : Tb} (h : okDsh nk T) {r : Nat} (hr : r < T.1) {k : Nat} (hk : nk ≤ k) (hk6 : k < 1000) (hn : nk ≤ 6) : ndN T r k = 0 := by
  obtain ⟨_, m, m1, m2, m3, m4, m5⟩ := dsh_v h hr
  unfold ndN
  rw [m3]
  refine ng_zero m (fun j hj e => ?_)
  obtain ⟨k', q1, q2, _⟩ := m4 j hj
  rw [q2, nI_eq_iff (by omega) (by omega)] at e
  omega
def stN (T : Tb) (k : Nat) : Nat := sN T (setG (isK T k) T.1) T.1
section CKM
variable {A : AS} {M : Mem} {nk : Nat}
theorem ckm_parts (h : RMm 156 A M) (hok : okDsh nk (A.2.1 3)) (hn6 : nk ≤ 6) {i : Nat} (hi : i < (A.2.1 3).1) {bs : Nat → Nat} {Q : Mem} (hQ : Out 168 169 M Q) (hb : ∀ k, k < 6 → Q 168 k = nI (bs k) ∧ bs k ≤ 2000) : Wq (lp (fun s => w_X11_cookedOf_70 (nI i) s.1 s.2) FU (0, Q)) (fun M' => Out 168 169 M M' ∧ ∀ k, k < 6 → M' 168 k = nI (bs k + ndN (A.2.1 3) i k)) := by
  have h12 : (A.2.1 3).1 ≤ 12 := (h.2.1 3 (by omega)).2.1
  obtain ⟨_, m, m1, m2, m3, m4, m5⟩ := dsh_v hok hi
  have ix : 187 + 10 * nI i = nI (187 + 10 * i) := idx2 187 10 i
  have ix1 : nI (187 + 10 * i) + 1 = nI (187 + 10 * i + 1) := nI_inc _
  have ix2 : nI (187 + 10 * i) + 2 = nI (187 + 10 * i + 2) := nI_add _ 2
  have ix3 : nI (187 + 10 * i) + 3 = nI (187 + 10 * i + 3) := nI_add _ 3
  have end' : ∀ k, ndN (A.2.1 3) i k = ngN (A.2.1 3) i k m := fun k => by unfold ndN; rw [m3]
  refine lp_to (fun j s => s.1 = nI j ∧ Out 168 169 M s.2 ∧ ∀ k, k < 6 → s.2 168 k = nI (bs k + ngN (A.2.1 3) i k j)) m ?_ ?_ _ ⟨rfl, hQ, fun k hk => by
    show Q 168 k = nI (bs k + 0)
    exact (hb k hk).1⟩ (by omega)
  · rintro j ⟨x, Q2⟩ hj ⟨hx, hO, hv⟩
    simp only at hx hO hv
    subst hx
    have hR := h.out hO (by omega)
    obtain ⟨κ, q1, q2, q3, q4⟩ := m4 j hj
    have e2 : 2 * nI j = nI (2 * j) := nI_mul 2 j
    have hng : ngN (A.2.1 3) i κ j = 0 := ng_zero j (fun j' hj' e => m5 j' j hj' hj (by rw [e, q2]))
    unfold w_X11_cookedOf_70
    try simp only
    rw [ix, ix1, rt_rd hR (k := 3) (r := i) (j := 1) (by omega) hi (by simp [twd]) (by simp [tbs, twd]; omega), b1_some, m2, if_neg (by rw [nI_le_iff (by omega) (by omega)]; omega), ix2, ix3, e2, nI_add, nI_add, rt_rd hR (k := 3) (r := i) (j := 2 + 2 * j) (by omega) hi (by simp [twd]; omega) (by simp [tbs, twd]; omega), b1_some, q2, rd_nI la_168 (by omega) (by omega), b1_some, rt_rd hR (k := 3) (r := i) (j := 3 + 2 * j) (by omega) hi (by simp [twd]; omega) (by simp [tbs, twd]; omega), b1_some, q3, hv κ (by omega), nI_add, wr_nI la_168 (by omega) (by omega), b1_some, nI_inc]
    refine ⟨_, rfl, rfl, hO.up (by omega) (by omega), fun k hk => ?_⟩
    try simp only
    show _ = nI (bs k + (if (A.2.1 3).2 i (2 + 2 * j) = nI k then vN (A.2.1 3) i (3 + 2 * j) else ngN (A.2.1 3) i k j))
    by_cases e : k = κ
    · rw [e, up2_at, if_pos q2, hng, Nat.add_zero]
    · rw [up2_slot _ _ _ e, if_neg (by rw [q2, nI_eq_iff (by omega) (by omega)]; exact fun y => e y.symm)]
      exact hv k hk
  · rintro ⟨x, Q2⟩ ⟨hx, hO, hv⟩
    simp only at hx hO hv
    subst hx
    have hR := h.out hO (by omega)
    unfold w_X11_cookedOf_70
    try simp only
    rw [ix, ix1, rt_rd hR (k := 3) (r := i) (j := 1) (by omega) hi (by simp [twd]) (by simp [tbs, twd]; omega), b1_some, m2, if_pos (by rw [nI_le_iff (by omega) (by omega)]; omega)]
    exact ⟨_, rfl, hO, fun k hk => by rw [hv k hk, end' k]⟩
theorem shbit0 {S i : Nat} (hS : S < 2147483648) (hi : i < 32) : ((nI S >>> (nI i &&& 31)) &&& 1 = 0) ↔ S.testBit i = false := by
  rw [nI_shr hS hi]
  have e : nI (S >>> i) &&& 1 = nI ((S >>> i) &&& 1) := nI_and _ 1
  rw [e, bit_mod]
  cases S.testBit i with
  | true => exact ⟨fun q => absurd q (by decide), fun q => by cases q⟩
  | false => exact ⟨fun _ => rfl, fun _ => rfl⟩
theorem cookedOf_ok (h : RMm 156 A M) (hok : okDsh nk (A.2.1 3)) (hnk : (A.2.1 0).1 = nk) (hn6 : nk ≤ 6) (hrem : okRem nk (A.2.1 4)) {S : Nat} (hS : S < 4096) : ∃ M' x, f_X11_cookedOf (nI S) M = some (M', x) ∧ Out 168 169 M M' ∧ (fea (A.2.1 3).1 (ndN (A.2.1 3)) (stN (A.2.1 4)) S → x = nI (zS (fun d => vN (A.2.1 3) d 0) S (A.2.1 3).1)) ∧ (¬ fea (A.2.1 3).1 (ndN (A.2.1 3)) (stN (A.2.1 4)) S → x = -1) := by
  have h12 : (A.2.1 3).1 ≤ 12 := (h.2.1 3 (by omega)).2.1
  have h14 : (A.2.1 4).1 ≤ 14 := (h.2.1 4 (by omega)).2.1
  have hst : ∀ k, stN (A.2.1 4) k ≤ 1386 := fun k => by
    have := sN_le hrem (setG (isK (A.2.1 4) k) (A.2.1 4).1) (A.2.1 4).1 (Nat.le_refl _)
    unfold stN; omega
  have hW : ∀ j, j ≤ (A.2.1 3).1 → zS (fun d => vN (A.2.1 3) d 0) S j ≤ j * 99 := fun j hj => zS_le j (fun d hd => (dsh_v hok (by omega : d < (A.2.1 3).1)).1.2.2)
  have hN : ∀ k j, j ≤ (A.2.1 3).1 → zS (fun d => ndN (A.2.1 3) d k) S j ≤ j * 99 := fun k j hj => zS_le j (fun d hd => (need_nI hok (by omega : d < (A.2.1 3).1) k).2)
  unfold f_X11_cookedOf
  obtain ⟨Q0, e0, o0, v0⟩ : Wq (lp (fun s => w_X11_cookedOf_2 s.1 s.2) FU (0, M)) (fun M' => Out 168 169 M M' ∧ ∀ k, k < 6 → M' 168 k = 0) := by
    refine lp_to (fun j s => s.1 = nI j ∧ Out 168 169 M s.2 ∧ ∀ k, k < j → s.2 168 k = 0) 6 ?_ ?_ _ ⟨rfl, Out.refl _ _ _, fun k hk => absurd hk (Nat.not_lt_zero _)⟩ (by omega)
    · rintro j ⟨x, Q⟩ hj ⟨hx, hO, hv⟩
      simp only at hx hO hv
      subst hx
      unfold w_X11_cookedOf_2
      try simp only
      rw [if_neg (by
        intro z
        have z : nI 6 ≤ nI j := z
        rw [nI_le_iff (by omega) (by omega)] at z; omega), wr_nI la_168 hj (by omega), b1_some, nI_inc]
      refine ⟨_, rfl, rfl, hO.up (by omega) (by omega), fun k hk => ?_⟩
      try simp only
      by_cases e : k = j
      · rw [e, up2_at]
      · rw [up2_slot _ _ _ e]; exact hv k (by omega)
    · rintro ⟨x, Q⟩ ⟨hx, hO, hv⟩
      simp only at hx hO hv
      subst hx
      unfold w_X11_cookedOf_2
      try simp only
      rw [if_pos (by decide)]
      exact ⟨_, rfl, hO, hv⟩
  rw [e0, b1_some]
  obtain ⟨⟨w1, Q1⟩, e1, hw, o1, v1⟩ : Wq (lp (fun s => w_X11_cookedOf_25 (nI S) s.1 s.2.1 s.2.2) FU (0, 0, Q0)) (fun p => p.1 = nI (zS (fun d => vN (A.2.1 3) d 0) S (A.2.1 3).1) ∧ Out 168 169 M p.2 ∧ ∀ k, k < 6 → p.2 168 k = nI (zS (fun d => ndN (A.2.1 3) d k) S (A.2.1 3).1)) := by
    refine lp_to (fun j s => s.1 = nI (zS (fun d => vN (A.2.1 3) d 0) S j) ∧ s.2.1 = nI j ∧ Out 168 169 M s.2.2 ∧ ∀ k, k < 6 → s.2.2 168 k = nI (zS (fun d => ndN (A.2.1 3) d k) S j)) (A.2.1 3).1 ?_ ?_ _ ⟨rfl, rfl, o0, fun k hk => v0 k hk⟩ (by omega)
    · rintro j ⟨w, x, Q⟩ hj ⟨hw, hx, hO, hv⟩
      simp only at hw hx hO hv
      subst hw
      subst hx
      have hR := h.out hO (by omega)
      have e86 : Q 156 86 = nI (A.2.1 3).1 := (hR.2.1 3 (by omega)).1
      unfold w_X11_cookedOf_25
      try simp only
      rw [e86, if_neg (by rw [nI_le_iff (by omega) (by omega)]; omega)]
      cases hb : S.testBit j with
      | false =>
        rw [if_pos ((shbit0 (by omega) (by omega)).2 hb), nI_inc]
        refine ⟨_, rfl, ?_, rfl, hO, fun k hk => ?_⟩
        · show _ = nI (zS (fun d => vN (A.2.1 3) d 0) S j + (if S.testBit j then vN (A.2.1 3) j 0 else 0))
          rw [hb]; simp
        · show _ = nI (zS (fun d => ndN (A.2.1 3) d k) S j + (if S.testBit j then ndN (A.2.1 3) j k else 0))
          rw [hb]; simp only [Bool.false_eq_true, if_false, Nat.add_zero]; exact hv k hk
      | true =>
        obtain ⟨⟨d1, d2, d3⟩, _⟩ := dsh_v hok hj
        have ix : 187 + 10 * nI j = nI (187 + 10 * j) := idx2 187 10 j
        obtain ⟨Q2, e2, o2, v2⟩ := ckm_parts h hok hn6 hj (bs := fun k => zS (fun d => ndN (A.2.1 3) d k) S j) hO (fun k hk => ⟨hv k hk, by have := hN k j (by omega); show zS _ S j ≤ 2000; omega⟩)
        rw [if_neg (fun y => by rw [shbit0 (by omega) (by omega), hb] at y; cases y), ix, rt_rd hR (k := 3) (r := j) (j := 0) (by omega) hj (by simp [twd]) (by simp [tbs, twd]; omega), b1_some, d1, e2, b1_some, nI_add, nI_inc]
        refine ⟨_, rfl, ?_, rfl, o2, fun k hk => ?_⟩
        · show _ = nI (zS (fun d => vN (A.2.1 3) d 0) S j + (if S.testBit j then vN (A.2.1 3) j 0 else 0))
          rw [hb]; rfl
        · show _ = nI (zS (fun d => ndN (A.2.1 3) d k) S j + (if S.testBit j then ndN (A.2.1 3) j k else 0))
          rw [hb]; exact v2 k hk
    · rintro ⟨w, x, Q⟩ ⟨hw, hx, hO, hv⟩
      simp only at hw hx hO hv
      subst hw
      subst hx
      have hR := h.out hO (by omega)
      have e86 : Q 156 86 = nI (A.2.1 3).1 := (hR.2.1 3 (by omega)).1
      unfold w_X11_cookedOf_25
      try simp only
      rw [e86, if_pos (by rw [nI_le_iff (by omega) (by omega)]; omega)]
      exact ⟨_, rfl, rfl, hO, hv⟩
  simp only at hw o1 v1
  rw [e1, b1_some]
  try simp only
  have hR1 := h.out o1 (by omega)
  have e80 : Q1 156 80 = nI nk := by rw [← hnk]; exact (hR1.2.1 0 (by omega)).1
  have hsum : ∀ k, f_X11_placesOf (nI k) Q1 = some (nI (setG (isK (A.2.1 4) k) (A.2.1 4).1)) ∧ f_X11_sumOf (nI (setG (isK (A.2.1 4) k) (A.2.1 4).1)) Q1 = some (nI (stN (A.2.1 4) k)) := by
    intro k
    have hl : setG (isK (A.2.1 4) k) (A.2.1 4).1 < 2147483648 := setG_lt31 _ (by omega)
    refine ⟨placesOf_ok hR1 k, ?_⟩
    rw [sumOf_ok hR1 hl, sum_nI hrem _ _ (Nat.le_refl _)]
    rfl
  have e3 := lp_first (body := fun s => w_X11_cookedOf_134 Q1 s) (fun k => decide (stN (A.2.1 4) k < zS (fun d => ndN (A.2.1 3) d k) S (A.2.1 3).1)) (fun r => match r with | some _ => Sum.inl () | none => Sum.inr ()) nk (by
    intro k hk hp
    have hp : ¬ stN (A.2.1 4) k < zS (fun d => ndN (A.2.1 3) d k) S (A.2.1 3).1 := by simpa using hp
    have b1' := hst k
    have b2' := hN k _ (Nat.le_refl _)
    unfold w_X11_cookedOf_134
    try simp only
    rw [e80, if_neg (by rw [nI_le_iff (by omega) (by omega)]; omega), rd_nI la_168 (by omega) (by omega), b1_some, (hsum k).1, b1_some, (hsum k).2, b1_some, v1 k (by omega), if_pos ((nI_le_iff (by omega) (by omega)).2 (by omega)), nI_inc]) (by
    intro k hk hp
    have hp : stN (A.2.1 4) k < zS (fun d => ndN (A.2.1 3) d k) S (A.2.1 3).1 := by simpa using hp
    have b1' := hst k
    have b2' := hN k _ (Nat.le_refl _)
    unfold w_X11_cookedOf_134
    try simp only
    rw [e80, if_neg (by rw [nI_le_iff (by omega) (by omega)]; omega), rd_nI la_168 (by omega) (by omega), b1_some, (hsum k).1, b1_some, (hsum k).2, b1_some, v1 k (by omega), if_neg (by rw [nI_le_iff (by omega) (by omega)]; omega)]) (by
    unfold w_X11_cookedOf_134
    try simp only
    rw [e80, if_pos (by rw [nI_le_iff (by omega) (by omega)]; omega)]) (by omega)
  rw [e3, b1_some]
  cases hf : firstF (fun k => decide (stN (A.2.1 4) k < zS (fun d => ndN (A.2.1 3) d k) S (A.2.1 3).1)) 0 nk with
  | none =>
    have hfe : fea (A.2.1 3).1 (ndN (A.2.1 3)) (stN (A.2.1 4)) S := by
      intro k hk
      rcases Nat.lt_or_ge k nk with y | y
      · have := firstF_none hf k (Nat.zero_le _) (by omega)
        have this : ¬ stN (A.2.1 4) k < zS (fun d => ndN (A.2.1 3) d k) S (A.2.1 3).1 := by simpa using this
        omega
      · have := zS_le (z := fun d => ndN (A.2.1 3) d k) (S := S) (b := 0) (A.2.1 3).1 (fun d hd => by rw [nd_far hok hd y (by omega) hn6]; exact Nat.le_refl _)
        omega
    exact ⟨Q1, w1, rfl, o1, fun _ => hw, fun y => absurd hfe y⟩
  | some m =>
    obtain ⟨_, h2, h3⟩ := firstF_lt hf
    have h3 : stN (A.2.1 4) m < zS (fun d => ndN (A.2.1 3) d m) S (A.2.1 3).1 := by simpa using h3
    exact ⟨Q1, -1, rfl, o1, fun y => by have := y m (by omega); omega, fun _ => rfl⟩
end CKM
/-- the best set of dishes -/
def bestC (m : Nat) (wv : Nat → Nat) (nd : Nat → Nat → Nat) (st : Nat → Nat) (n b : Nat) : Prop := fea m nd st b ∧ b < n ∧ ∀ C, C < n → fea m nd st C → zS wv C m < zS wv b m ∨ (zS wv C m = zS wv b m ∧ b ≤ C)
theorem bestC_uniq {m : Nat} {wv : Nat → Nat} {nd : Nat → Nat → Nat} {st : Nat → Nat} {n b b' : Nat} (h : bestC m wv nd st n b) (h' : bestC m wv nd st n b') : b = b' := by
  have h1 := h.2.2 b' h'.2.1 h'.1
  have h2 := h'.2.2 b h.2.1 h.1
  omega
theorem fea_0 (m : Nat) (nd : Nat → Nat → Nat) (st : Nat → Nat) : fea m nd st 0 := fun k _ => by rw [zS_zero]; exact Nat.zero_le _
theorem cooksm_run {A : AS} {M : Mem} {nk : Nat} (h : RMm 156 A M) (hok : okDsh nk (A.2.1 3)) (hnk : (A.2.1 0).1 = nk) (hn6 : nk ≤ 6) (hrem : okRem nk (A.2.1 4)) : Wq (lp (fun s => w_X11_cooks_18 s.1 s.2.1 s.2.2.1 s.2.2.2) FU (0, 0, 1, M)) (fun r => Out 168 169 M r.2.2 ∧ ∃ b, r.1 = nI b ∧ r.2.1 = nI (zS (fun d => vN (A.2.1 3) d 0) b (A.2.1 3).1) ∧ bestC (A.2.1 3).1 (fun d => vN (A.2.1 3) d 0) (ndN (A.2.1 3)) (stN (A.2.1 4)) (2 ^ (A.2.1 3).1) b) := by
  have h12 : (A.2.1 3).1 ≤ 12 := (h.2.1 3 (by omega)).2.1
  have hpw : 2 ^ (A.2.1 3).1 ≤ 4096 := pow2_le h12
  have hp1 : 0 < 2 ^ (A.2.1 3).1 := Nat.pow_pos (by omega)
  have eall : ((1 : Int32) <<< (nI (A.2.1 3).1 &&& 31)) = nI (2 ^ (A.2.1 3).1) := nI_shl _ (by omega)
  have hW : ∀ S, zS (fun d => vN (A.2.1 3) d 0) S (A.2.1 3).1 ≤ 1188 := fun S => by
    have := zS_le (S := S) (b := 99) (A.2.1 3).1 (fun d hd => (dsh_v hok hd).1.2.2)
    omega
  refine lp_to (fun k s => s.2.2.1 = nI (k + 1) ∧ Out 168 169 M s.2.2.2 ∧ ∃ b, s.1 = nI b ∧ s.2.1 = nI (zS (fun d => vN (A.2.1 3) d 0) b (A.2.1 3).1) ∧ bestC (A.2.1 3).1 (fun d => vN (A.2.1 3) d 0) (ndN (A.2.1 3)) (stN (A.2.1 4)) (k + 1) b) (2 ^ (A.2.1 3).1 - 1) ?_ ?_ _ ⟨rfl, Out.refl _ _ _, 0, rfl, by show (0 : Int32) = nI _; rw [zS_zero]; rfl, fea_0 _ _ _, by omega, fun C hC _ => by
    have : C = 0 := by omega
    rw [this]; exact .inr ⟨rfl, Nat.le_refl _⟩⟩ (by omega)
  · rintro k ⟨i2, i3, i4, Q⟩ hk ⟨h4, hO, b, hb, hw, f1, f2, f3⟩
    simp only at h4 hO hb hw
    subst h4
    subst hb
    subst hw
    have hR := h.out hO (by omega)
    have e86 : Q 156 86 = nI (A.2.1 3).1 := (hR.2.1 3 (by omega)).1
    have wb := hW b
    have wk := hW (k + 1)
    obtain ⟨M7, x8, c0, c1, c2, c3⟩ := cookedOf_ok hR hok hnk hn6 hrem (S := k + 1) (by omega)
    unfold w_X11_cooks_18
    try simp only
    rw [e86, eall, if_neg (by rw [nI_le_iff (by omega) (by omega)]; omega), c0, b2_some, nI_inc]
    by_cases hf : fea (A.2.1 3).1 (ndN (A.2.1 3)) (stN (A.2.1 4)) (k + 1)
    · rw [c2 hf]
      by_cases hgt : zS (fun d => vN (A.2.1 3) d 0) b (A.2.1 3).1 < zS (fun d => vN (A.2.1 3) d 0) (k + 1) (A.2.1 3).1
      · rw [if_pos ((nI_lt_iff (by omega) (by omega)).2 hgt)]
        refine ⟨_, rfl, rfl, hO.trans c1, k + 1, rfl, rfl, hf, by omega, fun C hC fC => ?_⟩
        by_cases e : C = k + 1
        · rw [e]; exact .inr ⟨rfl, Nat.le_refl _⟩
        · have := f3 C (by omega) fC
          left; omega
      · rw [if_neg (fun y => hgt ((nI_lt_iff (by omega) (by omega)).1 y))]
        refine ⟨_, rfl, rfl, hO.trans c1, b, rfl, rfl, f1, by omega, fun C hC fC => ?_⟩
        by_cases e : C = k + 1
        · rw [e]; omega
        · exact f3 C (by omega) fC
    · rw [c3 hf, if_neg (by
        intro y
        rw [Int32.lt_iff_toInt_lt, nI_toInt (by omega), toInt_m1] at y; omega)]
      refine ⟨_, rfl, rfl, hO.trans c1, b, rfl, rfl, f1, by omega, fun C hC fC => ?_⟩
      by_cases e : C = k + 1
      · rw [e] at fC; exact absurd fC hf
      · exact f3 C (by omega) fC
  · rintro ⟨i2, i3, i4, Q⟩ ⟨h4, hO, b, hb, hw, f1, f2, f3⟩
    simp only at h4 hO hb hw
    subst h4
    have hR := h.out hO (by omega)
    have e86 : Q 156 86 = nI (A.2.1 3).1 := (hR.2.1 3 (by omega)).1
    unfold w_X11_cooks_18
    try simp only
    rw [e86, eall, if_pos (by rw [nI_le_iff (by omega) (by omega)]; omega)]
    rw [show 2 ^ (A.2.1 3).1 - 1 + 1 = 2 ^ (A.2.1 3).1 from by omega] at f2 f3
    exact ⟨_, rfl, hO, b, hb, hw, f1, f2, f3⟩
theorem cookc_run {A : AS} {M : Mem} {nk : Nat} (h : RMk true 1 A M) (hok : okDsh nk (A.2.1 3)) (hrem : okRem nk (A.2.1 4)) : Wq (f_X0_cook 1 M) (fun M' => Out 151 155 M M' ∧ ∃ b, M' 151 4 = nI b ∧ M' 151 3 = nI (zS (fun d => vN (A.2.1 3) d 0) b (A.2.1 3).1) ∧ bestC (A.2.1 3).1 (fun d => vN (A.2.1 3) d 0) (ndN (A.2.1 3)) (stN (A.2.1 4)) (2 ^ (A.2.1 3).1) b) := by
  have h12 : (A.2.1 3).1 ≤ 12 := h.t3.le
  have h14 : (A.2.1 4).1 ≤ 14 := h.t4.le
  have hst : ∀ k, stN (A.2.1 4) k ≤ 1386 := fun k => by
    have := sN_le hrem (setG (isK (A.2.1 4) k) (A.2.1 4).1) (A.2.1 4).1 (Nat.le_refl _)
    unfold stN; omega
  have hwv : ∀ d, d < (A.2.1 3).1 → vN (A.2.1 3) d 0 ≤ 99 := fun d hd => (dsh_v hok hd).1.2.2
  unfold f_X0_cook
  obtain ⟨Q0, e0, o0, v0⟩ : Wq (lp (fun s => w_X0_cook_2 1 s.1 s.2) FU (0, M)) (fun M' => Out 154 155 M M' ∧ ∀ k, k < 6 → M' 154 k = nI (stN (A.2.1 4) k)) := by
    refine lp_to (fun j s => s.1 = nI j ∧ Out 154 155 M s.2 ∧ ∀ k, k < j → s.2 154 k = nI (stN (A.2.1 4) k)) 6 ?_ ?_ _ ⟨rfl, Out.refl _ _ _, fun k hk => absurd hk (Nat.not_lt_zero _)⟩ (by omega)
    · rintro j ⟨x, Q⟩ hj ⟨hx, hO, hv⟩
      simp only at hx hO hv
      subst hx
      have hR := h.out hO (by omega)
      have esz : f_X6_sizesOfKind 1 (nI j) Q = some (nI (stN (A.2.1 4) j)) := by
        rw [sizesOfKind_ok hR j]
        have : sumG (isK (A.2.1 4) j) (fun i => (A.2.1 4).2 i 1) (A.2.1 4).1 = sumG (fun i => (setG (isK (A.2.1 4) j) (A.2.1 4).1).testBit i) (fun i => (A.2.1 4).2 i 1) (A.2.1 4).1 := sumG_congr (fun i hi => by rw [setG_bit]; simp [hi])
        rw [this, sum_nI hrem _ _ (Nat.le_refl _)]
        rfl
      unfold w_X0_cook_2
      try simp only
      rw [if_neg (by
        intro z
        have z : nI 6 ≤ nI j := z
        rw [nI_le_iff (by omega) (by omega)] at z; omega), esz, b1_some, wr_nI la_154 hj (by omega), b1_some, nI_inc]
      refine ⟨_, rfl, rfl, hO.up (by omega) (by omega), fun k hk => ?_⟩
      try simp only
      by_cases e : k = j
      · rw [e, up2_at]
      · rw [up2_slot _ _ _ e]; exact hv k (by omega)
    · rintro ⟨x, Q⟩ ⟨hx, hO, hv⟩
      simp only at hx hO hv
      subst hx
      unfold w_X0_cook_2
      try simp only
      rw [if_pos (by decide)]
      exact ⟨_, rfl, hO, hv⟩
  have hT0 : RR (1 + 7) 12 7 (dishC (A.2.1 3)) Q0 := h.t3.out o0 (by omega)
  have e1 := lp_for (body := fun s : Int32 × Int32 => w_X0_cook_29 1 Q0 s.1 s.2) (fun j => (nI (preW (fun d => vN (A.2.1 3) d 0) j), nI j)) (A.2.1 3).1 (nI (preW (fun d => vN (A.2.1 3) d 0) (A.2.1 3).1)) (by
    intro j hj
    obtain ⟨⟨d1, d2, d3⟩, _⟩ := dsh_v hok hj
    have hat : f_X8_at (1 + 7) (nI j) 0 Q0 = some (nI (vN (A.2.1 3) j 0)) := by
      rw [at_lit hT0 0 rfl (r := j) hj (by omega), ← d1]
      rfl
    have hc : Q0 (1 + 7) 3 = nI (A.2.1 3).1 := hT0.cnt
    unfold w_X0_cook_29
    try simp only
    rw [hc, if_neg (by rw [nI_le_iff (by omega) (by omega)]; omega), hat, b1_some, nI_add, nI_inc]
    rfl) (by
    have hc : Q0 (1 + 7) 3 = nI (A.2.1 3).1 := hT0.cnt
    unfold w_X0_cook_29
    try simp only
    rw [hc, if_pos (by rw [nI_le_iff (by omega) (by omega)]; omega)]) (by omega)
  have e1 : lp (fun s : Int32 × Int32 => w_X0_cook_29 1 Q0 s.1 s.2) FU (0, 0) = _ := e1
  rw [e0, b1_some, e1, b1_some, lt_eq, lt_eq]
  generalize hM13 : up2 (up2 Q0 151 3 0) 151 4 0 = M13
  have o13 : Out 151 155 M M13 := by rw [← hM13]; exact ((o0.wide (by omega) (by omega)).up (by omega) (by omega)).up (by omega) (by omega)
  have hT13 : RR (1 + 7) 12 7 (dishC (A.2.1 3)) M13 := h.t3.out o13 (by omega)
  have hc : M13 (1 + 7) 3 = nI (A.2.1 3).1 := hT13.cnt
  have g3 : M13 151 3 = nI 0 := by rw [← hM13, up2_slot _ _ _ (by omega), up2_at]; rfl
  have g4 : M13 151 4 = nI 0 := by rw [← hM13, up2_at]; rfl
  have g54 : ∀ k, k < 6 → M13 154 k = nI (stN (A.2.1 4) k - zS (fun d => ndN (A.2.1 3) d k) 0 (A.2.1 3).1) := by
    intro k hk
    rw [← hM13, up2_cell _ _ _ (by omega), up2_cell _ _ _ (by omega), v0 k hk, zS_zero, Nat.sub_zero]
  have hrun := ck_run (T := A.2.1 3) hT13 (by omega) hok (st := stN (A.2.1 4)) (fun k _ => by have := hst k; omega) (A.2.1 3).1 40 0 0 0 M13 (by omega) (Nat.le_refl _) (Out.refl _ _ _) (fun i _ => by simp) (Nat.pow_pos (by omega)) (fea_0 _ _ _) g3 g4 (Nat.zero_le _) g54
  rw [zS_zero] at hrun
  rw [hc]
  refine wq_b1 hrun ?_
  rintro M14 ⟨q1, q2, mw, bd, q3, q4, q5, q6⟩
  refine wq_some ⟨o13.trans q1, bd, q4, ?_⟩
  rcases q6 with ⟨_, a⟩ | ⟨b1, b2, b3, b4, b5⟩
  · have := a 0 ⟨Nat.pow_pos (by omega), fun i _ => rfl⟩ (fea_0 _ _ _)
    exact absurd this (Nat.not_lt_zero _)
  · simp only at b1 b2 b3 b5
    rw [q3, b3]
    refine ⟨rfl, b2, b1.1, fun C hC fC => ?_⟩
    have := b5 C ⟨hC, fun i hi => by rw [Nat.testBit_lt_two_pow (Nat.lt_of_lt_of_le hC (pow2_le hi))]; simp⟩ fC
    rw [b3] at this
    exact this
theorem c_cooks (a : Int32) {M : Mem} (h : Inv M) : ∃ M1 M2 r, f_X10_cooks a M = some (M1, r) ∧ f_X11_cooks a M1 = some (M2, r) ∧ Inv M2 := by
  refine both_ok (fc := fun M => f_X10_cooks a M) (fm := fun M => f_X11_cooks a M) h ?_
  rintro ⟨A, I, P, tp, ft⟩ hC hM hG
  have hok : okDsh (A.2.1 0).1 (A.2.1 3) := hG.1.2.1.2.2.2.2
  have hrem : okRem (A.2.1 0).1 (A.2.1 4) := hG.1.2.1.2.1
  have hn6 : (A.2.1 0).1 ≤ 6 := hC.1.t0.le
  by_cases z : a < 0 ∨ (1 : Int32) < a
  · refine ⟨(A, I, P, tp, ft), -1, hG, ?_, fun M1 hM1 => ?_⟩
    · show Wq (f_X10_cooks a M) _
      unfold f_X10_cooks
      rw [if_pos ((within0 _ _ _).2 z)]
      exact wq_some ⟨rfl, hC, Hi.refl _⟩
    · show Wq (f_X11_cooks a M1) _
      unfold f_X11_cooks
      rw [if_pos ((isInm0 _ _ _).2 z)]
      exact wq_some ⟨rfl, hM1, Lo.refl _⟩
  · obtain ⟨Mc, c0, c1, b, c2, c3, c4⟩ := cookc_run hC.1 hok hrem
    refine ⟨(A, I, P, tp, ft), if a = 0 then nI (zS (fun d => vN (A.2.1 3) d 0) b (A.2.1 3).1) else nI b, hG, ?_, fun M1 hM1 => ?_⟩
    · show Wq (f_X10_cooks a M) _
      unfold f_X10_cooks
      rw [if_neg (fun y => z ((within0 _ _ _).1 y)), c0, b1_some, lt_eq, c2, c3]
      exact wq_some ⟨rfl, hC.scr c1 (by omega), c1.hi (by omega)⟩
    · show Wq (f_X11_cooks a M1) _
      obtain ⟨⟨r1, r2, Mr⟩, m0, m1, b', m2, m3, m4⟩ := cooksm_run hM1.1 hok rfl hn6 hrem
      simp only at m1 m2 m3
      have hbb := bestC_uniq c4 m4
      subst hbb
      unfold f_X11_cooks
      rw [if_neg (fun y => z ((isInm0 _ _ _).1 y)), m0, b1_some, lt_eq]
      have := hM1.scr2 m1 (by omega) (by omega)
      refine wq_some ⟨?_, this.1, this.2⟩
      simp only
      rw [m2, m3]
