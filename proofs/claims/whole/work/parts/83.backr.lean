/-! ===== PURE PART: back, as it runs ===== -/
theorem la_96 : la (79 + 17) = some 256 := by decide +kernel
theorem cn_popc {t S : Nat} (h : S < 2 ^ t) (ht : t ≤ 16) : popc S = cnS t S := by
  rw [popc_bits h ht]
  have : ∀ k, cntG (fun i => S.testBit i) k = zS (fun _ => 1) S k := by
    intro k
    induction k with
    | zero => rfl
    | succ k ih =>
      show cntG (fun i => S.testBit i) k + (if S.testBit k then 1 else 0) = zS (fun _ => 1) S k + (if S.testBit k then 1 else 0)
      rw [ih]
  exact this t
section BKC
variable {T : Tb} {M : Mem} {a : Nat}
theorem gains_ok (hT : RR (79 + 7) 8 4 T M) (hok : okTrd T) {S : Nat} (hS : S < 256) : f_X5_gains 79 (nI S) M = some (if gnB T S = true then 1 else 0) := by
  have h8 : T.1 ≤ 8 := hT.le
  have p9 : ∀ k, k ≤ T.1 → 9 ^ k ≤ 43046721 := fun k hk => pow9 (by omega)
  have hp2 : ∀ k, k ≤ T.1 → _ := fun k hk => pS_le (z := fun i => vN T i 2) (S := S) k (fun i hi => (trd_v hok (by omega : i < T.1)).2.2.1.2)
  have hp3 : ∀ k, k ≤ T.1 → _ := fun k hk => pS_le (z := fun i => vN T i 3) (S := S) k (fun i hi => (trd_v hok (by omega : i < T.1)).2.2.2.2)
  unfold f_X5_gains
  have key := lp_for (body := fun s : Int32 × Int32 × Int32 => w_X5_gains_7 79 (nI S) M s.1 s.2.1 s.2.2) (fun k => (nI (pS (fun i => vN T i 2) S k), nI (pS (fun i => vN T i 3) S k), nI k)) T.1 (nI (pS (fun i => vN T i 2) S T.1), nI (pS (fun i => vN T i 3) S T.1)) (by
    intro k hk
    obtain ⟨_, _, ⟨t2, t2'⟩, ⟨t3, t3'⟩⟩ := trd_v hok hk
    have hc : M (79 + 7) 3 = nI T.1 := hT.cnt
    unfold w_X5_gains_7
    try simp only
    rw [hc, if_neg (by rw [nI_le_iff (by omega) (by omega)]; omega), isIn_nI (by omega) (by omega), nI_inc]
    show _ = some (Sum.inl (nI (pS (fun i => vN T i 2) S k * (if S.testBit k then vN T k 2 else 1)), nI (pS (fun i => vN T i 3) S k * (if S.testBit k then vN T k 3 else 1)), nI (k + 1)))
    cases hb : S.testBit k with
    | false =>
      rw [if_pos (by decide)]
      simp
    | true =>
      rw [if_neg (by decide), at_lit hT 2 rfl hk (by omega), b1_some, at_lit hT 3 rfl hk (by omega), b1_some, t2, t3, nI_mul, nI_mul]
      simp) (by
    have hc : M (79 + 7) 3 = nI T.1 := hT.cnt
    unfold w_X5_gains_7
    try simp only
    rw [hc, if_pos (by rw [nI_le_iff (by omega) (by omega)]; omega)]) (by omega)
  have key : lp (fun s : Int32 × Int32 × Int32 => w_X5_gains_7 79 (nI S) M s.1 s.2.1 s.2.2) FU (1, 1, 0) = _ := key
  rw [key, b1_some, lt_eq]
  have h2 := hp2 T.1 (Nat.le_refl _)
  have h3 := hp3 T.1 (Nat.le_refl _)
  have h9 := p9 T.1 (Nat.le_refl _)
  try simp only
  unfold gnB
  by_cases q : pS (fun i => vN T i 2) S T.1 < pS (fun i => vN T i 3) S T.1
  · rw [if_neg (by rw [nI_le_iff (by omega) (by omega)]; omega), if_pos (by simpa using q)]
  · rw [if_pos (by rw [nI_le_iff (by omega) (by omega)]; omega), if_neg (by simpa using q)]
/-- where each set leads, as far as it was walked: from sets below s, and from s by its first k trades -/
def rcJ (T : Tb) (a s k : Nat) (M : Mem) : Prop := ∀ S, S < 2 ^ T.1 → ∃ v, M (79 + 17) S = nI v ∧ v < 64 ∧ ∀ κ, κ < 6 → (v.testBit κ = true ↔ ((S = 0 ∧ κ = a) ∨ ∃ i, i < T.1 ∧ S.testBit i = true ∧ (S ^^^ 2 ^ i < s ∨ (S ^^^ 2 ^ i = s ∧ i < k)) ∧ rcS T.1 a (fun i => vN T i 0) (fun i => vN T i 1) (S ^^^ 2 ^ i) (vN T i 0) ∧ vN T i 1 = κ))
theorem rcJ_at {s v : Nat} {κ : Nat} (hs : s < 2 ^ T.1) (hv : v.testBit κ = true ↔ ((s = 0 ∧ κ = a) ∨ ∃ i, i < T.1 ∧ s.testBit i = true ∧ (s ^^^ 2 ^ i < s ∨ (s ^^^ 2 ^ i = s ∧ i < 0)) ∧ rcS T.1 a (fun i => vN T i 0) (fun i => vN T i 1) (s ^^^ 2 ^ i) (vN T i 0) ∧ vN T i 1 = κ)) : v.testBit κ = true ↔ rcS T.1 a (fun i => vN T i 0) (fun i => vN T i 1) s κ := by
  rw [hv]
  constructor
  · rintro (⟨h1, h2⟩ | ⟨i, h1, h2, _, h4, h5⟩)
    · subst h1
      rw [h2]
      exact rc_zero
    · unfold rcS
      rw [cn_clr h1 h2]
      exact ⟨i, h1, h2, h4, h5⟩
  · intro h
    by_cases e : s = 0
    · subst e
      unfold rcS cnS at h
      rw [zS_zero] at h
      exact .inl h
    · right
      obtain ⟨p, hp⟩ := Nat.exists_testBit_of_ne_zero e
      have c := cn_clr (t := T.1) (bit_lt hs hp) hp
      unfold rcS at h
      rw [c] at h
      obtain ⟨i, h1, h2, h3, h4⟩ := h
      have c2 := cn_clr (t := T.1) h1 h2
      refine ⟨i, h1, h2, .inl (clr_lt h2), ?_, h4⟩
      unfold rcS
      rw [show cnS T.1 (s ^^^ 2 ^ i) = cnS T.1 (s ^^^ 2 ^ p) from by omega]
      exact h3
theorem walkOn_ok (hT : RR (79 + 7) 8 4 T M) (hok : okTrd T) (ha : a < 6) {s : Nat} (hs : s < 2 ^ T.1) (hJ : rcJ T a s 0 M) : Wq (f_X5_walkOn 79 (nI s) (nI (2 ^ T.1)) M) (fun M' => Out (79 + 17) (79 + 18) M M' ∧ rcJ T a (s + 1) 0 M') := by
  have h8 : T.1 ≤ 8 := hT.le
  have hpw : 2 ^ T.1 ≤ 256 := pow2_le h8
  unfold f_X5_walkOn
  refine wq_b1 (P := fun M' => Out (79 + 17) (79 + 18) M M' ∧ rcJ T a s T.1 M') (lp_to (fun k x => x.1 = nI k ∧ Out (79 + 17) (79 + 18) M x.2 ∧ rcJ T a s k x.2) T.1 ?_ ?_ _ ⟨rfl, Out.refl _ _ _, hJ⟩ (by omega)) ?_
  · rintro k ⟨i1, Q⟩ hk ⟨hi, hO, hq⟩
    simp only at hi hO hq
    subst hi
    have hTQ := hT.out hO (by omega)
    have hc : Q (79 + 7) 3 = nI T.1 := hTQ.cnt
    obtain ⟨⟨t0, t0'⟩, ⟨t1, t1'⟩, _⟩ := trd_v hok hk
    have e1 : nI s ||| ((1 : Int32) <<< (nI k &&& 31)) = nI (s ||| 2 ^ k) := by rw [nI_shl k (by omega), nI_or]
    have eln : ln (79 + 17) = some (nI 256) := by unfold ln; rw [la_96]; rfl
    have hlt : s ||| 2 ^ k < 2 ^ T.1 := Nat.or_lt_two_pow hs (Nat.pow_lt_pow_right (by omega) hk)
    -- nothing changes where the k-th trade doesn't go on
    have stay : (s.testBit k = true ∨ ¬ rcS T.1 a (fun i => vN T i 0) (fun i => vN T i 1) s (vN T k 0)) → rcJ T a s (k + 1) Q := by
      intro hno S hS
      obtain ⟨v, v1, v2, v3⟩ := hq S hS
      refine ⟨v, v1, v2, fun κ hκ => ?_⟩
      rw [v3 κ hκ]
      constructor
      · rintro (y | ⟨i, y1, y2, y3, y4, y5⟩)
        · exact .inl y
        · exact .inr ⟨i, y1, y2, by omega, y4, y5⟩
      · rintro (y | ⟨i, y1, y2, y3, y4, y5⟩)
        · exact .inl y
        · refine .inr ⟨i, y1, y2, ?_, y4, y5⟩
          rcases y3 with y | ⟨y, z⟩
          · exact .inl y
          · by_cases e : i = k
            · subst e
              exfalso
              rcases hno with w | w
              · have : (S ^^^ 2 ^ i).testBit i = false := by rw [bit_clear, if_pos rfl, y2]; rfl
                rw [y, w] at this
                cases this
              · rw [y] at y4
                exact w y4
            · exact .inr ⟨y, by omega⟩
    unfold w_X5_walkOn_2
    try simp only
    rw [hc, if_neg (by rw [nI_le_iff (by omega) (by omega)]; omega), lt_eq, e1, nI_inc]
    cases hb : s.testBit k with
    | true =>
      have es : s ||| 2 ^ k = s := by
        apply Nat.eq_of_testBit_eq
        intro j
        rw [Nat.testBit_or, Nat.testBit_two_pow]
        by_cases e : k = j
        · subst e; rw [hb]; simp
        · simp [e]
      rw [if_pos (.inl (by rw [es]))]
      exact ⟨_, rfl, rfl, hO, stay (.inl hb)⟩
    | false =>
      have hne : s ||| 2 ^ k ≠ s := by
        intro e
        have := or_bit s k
        rw [e, hb] at this
        cases this
      obtain ⟨v, v1, v2, v3⟩ := hq s hs
      have hvs : v.testBit (vN T k 0) = true ↔ rcS T.1 a (fun i => vN T i 0) (fun i => vN T i 1) s (vN T k 0) := by
        refine rcJ_at hs ?_
        rw [v3 _ t0']
        constructor
        · rintro (y | ⟨i, y1, y2, y3, y4, y5⟩)
          · exact .inl y
          · exact .inr ⟨i, y1, y2, .inl (clr_lt y2), y4, y5⟩
        · rintro (y | ⟨i, y1, y2, y3, y4, y5⟩)
          · exact .inl y
          · exact .inr ⟨i, y1, y2, .inl (clr_lt y2), y4, y5⟩
      rw [if_neg (by
        rintro (y | y)
        · rw [nI_eq_iff (by omega) (by omega)] at y; exact hne y
        · rw [nI_le_iff (by omega) (by omega)] at y; omega), eln, b1_some, if_neg (by rw [nI_le_iff (by omega) (by omega)]; omega), rd_nI la_96 (by omega) (by omega), b1_some, at_lit hTQ 0 rfl hk (by omega), b1_some, v1, t0, isIn_nI (by omega) (by omega)]
      cases hvb : v.testBit (vN T k 0) with
      | false =>
        rw [if_pos (by decide)]
        exact ⟨_, rfl, rfl, hO, stay (.inr (fun y => by rw [← hvs, hvb] at y; cases y))⟩
      | true =>
        have hrc := hvs.1 hvb
        obtain ⟨u, u1, u2, u3⟩ := hq (s ||| 2 ^ k) hlt
        have e2 : nI u ||| ((1 : Int32) <<< (nI (vN T k 1) &&& 31)) = nI (u ||| 2 ^ vN T k 1) := by rw [nI_shl _ (by omega), nI_or]
        rw [if_neg (by decide), rd_nI la_96 (by omega) (by omega), b1_some, at_lit hTQ 1 rfl hk (by omega), b1_some, u1, t1, e2, wr_nI la_96 (by omega) (by omega), b1_some]
        refine ⟨_, rfl, rfl, hO.up (by omega) (by omega), ?_⟩
        intro S hS
        try simp only
        by_cases eS : S = s ||| 2 ^ k
        · subst eS
          refine ⟨u ||| 2 ^ vN T k 1, up2_at _ _ _ _, Nat.or_lt_two_pow (n := 6) u2 (Nat.pow_lt_pow_right (by omega) t1'), fun κ hκ => ?_⟩
          rw [Nat.testBit_or, Nat.testBit_two_pow, Bool.or_eq_true, u3 κ hκ, decide_eq_true_eq]
          constructor
          · rintro ((y | ⟨i, y1, y2, y3, y4, y5⟩) | y)
            · exact .inl y
            · exact .inr ⟨i, y1, y2, by omega, y4, y5⟩
            · exact .inr ⟨k, hk, or_bit s k, .inr ⟨or_clr hb, by omega⟩, by rw [or_clr hb]; exact hrc, y⟩
          · rintro (y | ⟨i, y1, y2, y3, y4, y5⟩)
            · exact .inl (.inl y)
            · rcases y3 with y | ⟨y, z⟩
              · exact .inl (.inr ⟨i, y1, y2, .inl y, y4, y5⟩)
              · by_cases e : i = k
                · subst e
                  exact .inr y5
                · exact .inl (.inr ⟨i, y1, y2, .inr ⟨y, by omega⟩, y4, y5⟩)
        · obtain ⟨w, w1, w2, w3⟩ := hq S hS
          refine ⟨w, by rw [up2_slot _ _ _ eS]; exact w1, w2, fun κ hκ => ?_⟩
          rw [w3 κ hκ]
          constructor
          · rintro (y | ⟨i, y1, y2, y3, y4, y5⟩)
            · exact .inl y
            · exact .inr ⟨i, y1, y2, by omega, y4, y5⟩
          · rintro (y | ⟨i, y1, y2, y3, y4, y5⟩)
            · exact .inl y
            · refine .inr ⟨i, y1, y2, ?_, y4, y5⟩
              rcases y3 with y | ⟨y, z⟩
              · exact .inl y
              · by_cases e : i = k
                · subst e
                  exfalso
                  apply eS
                  rw [← clr_or y2, y]
                · exact .inr ⟨y, by omega⟩
  · rintro ⟨i1, Q⟩ ⟨hi, hO, hq⟩
    simp only at hi hO hq
    subst hi
    have hTQ := hT.out hO (by omega)
    have hc : Q (79 + 7) 3 = nI T.1 := hTQ.cnt
    unfold w_X5_walkOn_2
    try simp only
    rw [hc, if_pos (by rw [nI_le_iff (by omega) (by omega)]; omega)]
    exact ⟨_, rfl, hO, hq⟩
  · rintro Q ⟨hO, hq⟩
    refine wq_some ⟨hO, fun S hS => ?_⟩
    obtain ⟨v, v1, v2, v3⟩ := hq S hS
    refine ⟨v, v1, v2, fun κ hκ => ?_⟩
    rw [v3 κ hκ]
    constructor
    · rintro (y | ⟨i, y1, y2, y3, y4, y5⟩)
      · exact .inl y
      · exact .inr ⟨i, y1, y2, by omega, y4, y5⟩
    · rintro (y | ⟨i, y1, y2, y3, y4, y5⟩)
      · exact .inl y
      · exact .inr ⟨i, y1, y2, by omega, y4, y5⟩
def gdB (T : Tb) (a S : Nat) : Prop := goodB T.1 a (fun i => vN T i 0) (fun i => vN T i 1) (gnB T) S
/-- the fewest so far -/
def fwB (T : Tb) (a s : Nat) (x : Int32) : Prop := (x = -1 ∧ ∀ S, S < s → ¬ gdB T a S) ∨ ∃ c, x = nI c ∧ c ≤ 8 ∧ (∃ S, S < s ∧ gdB T a S ∧ cnS T.1 S = c) ∧ ∀ S, S < s → gdB T a S → c ≤ cnS T.1 S
theorem backc_run (hT : RR (79 + 7) 8 4 T M) (hok : okTrd T) (ha : a < 6) : Wq (f_X5_fewestTradesBack 79 (nI a) M) (fun p => Out (79 + 17) (79 + 18) M p.1 ∧ fwB T a (2 ^ T.1) p.2) := by
  have h8 : T.1 ≤ 8 := hT.le
  have hpw : 2 ^ T.1 ≤ 256 := pow2_le h8
  have hp1 : 0 < 2 ^ T.1 := Nat.pow_pos (by omega)
  have eln : ln (79 + 17) = some (nI 256) := by unfold ln; rw [la_96]; rfl
  have eall : ((1 : Int32) <<< (nI T.1 &&& 31)) = nI (2 ^ T.1) := nI_shl _ (by omega)
  have hc : M (79 + 7) 3 = nI T.1 := hT.cnt
  unfold f_X5_fewestTradesBack
  rw [eln, b1_some, lt_eq, hc, eall, nI_min (by omega) (by omega), Nat.min_eq_left hpw]
  obtain ⟨Q0, e0, o0, v0⟩ : Wq (lp (fun s => w_X5_fewestTradesBack_20 79 (nI (2 ^ T.1)) s.1 s.2) FU (0, M)) (fun M' => Out (79 + 17) (79 + 18) M M' ∧ ∀ S, S < 2 ^ T.1 → M' (79 + 17) S = nI 0) := by
    refine lp_to (fun j s => s.1 = nI j ∧ Out (79 + 17) (79 + 18) M s.2 ∧ ∀ S, S < j → s.2 (79 + 17) S = nI 0) (2 ^ T.1) ?_ ?_ _ ⟨rfl, Out.refl _ _ _, fun k hk => absurd hk (Nat.not_lt_zero _)⟩ (by omega)
    · rintro j ⟨x, Q⟩ hj ⟨hx, hO, hv⟩
      simp only at hx hO hv
      subst hx
      unfold w_X5_fewestTradesBack_20
      try simp only
      rw [if_neg (by rw [nI_le_iff (by omega) (by omega)]; omega), wr_nI la_96 (by omega) (by omega), b1_some, nI_inc]
      refine ⟨_, rfl, rfl, hO.up (by omega) (by omega), fun k hk => ?_⟩
      try simp only
      by_cases e : k = j
      · rw [e, up2_at]; rfl
      · rw [up2_slot _ _ _ e]; exact hv k (by omega)
    · rintro ⟨x, Q⟩ ⟨hx, hO, hv⟩
      simp only at hx hO hv
      subst hx
      unfold w_X5_fewestTradesBack_20
      try simp only
      rw [if_pos (by rw [nI_le_iff (by omega) (by omega)]; omega)]
      exact ⟨_, rfl, hO, hv⟩
  have eka : ((1 : Int32) <<< (nI a &&& 31)) = nI (2 ^ a) := nI_shl _ (by omega)
  rw [e0, b1_some, lt_eq, eka]
  generalize hM8 : up2 Q0 (79 + 17) 0 (nI (2 ^ a)) = M8
  have o8 : Out (79 + 17) (79 + 18) M M8 := by rw [← hM8]; exact o0.up (by omega) (by omega)
  have j8 : rcJ T a 0 0 M8 := by
    intro S hS
    by_cases e : S = 0
    · subst e
      refine ⟨2 ^ a, by rw [← hM8, up2_at], Nat.pow_lt_pow_right (by omega) ha, fun κ hκ => ?_⟩
      rw [Nat.testBit_two_pow, decide_eq_true_eq]
      constructor
      · intro y; exact .inl ⟨rfl, y.symm⟩
      · rintro (y | ⟨i, y1, y2, _⟩)
        · exact y.2.symm
        · simp at y2
    · refine ⟨0, by rw [← hM8, up2_slot _ _ _ e]; exact v0 S hS, by omega, fun κ hκ => ?_⟩
      constructor
      · intro y; simp at y
      · rintro (y | ⟨i, y1, y2, y3, _⟩)
        · exact absurd y.1 e
        · omega
  obtain ⟨⟨x, Q⟩, e1, q1, q2⟩ : Wq (lp (fun s => w_X5_fewestTradesBack_52 79 (nI a) (nI (2 ^ T.1)) s.1 s.2.1 s.2.2) FU (-1, 0, M8)) (fun p => Out (79 + 17) (79 + 18) M p.2 ∧ fwB T a (2 ^ T.1) p.1) := by
    refine lp_to (fun s x => x.2.1 = nI s ∧ Out (79 + 17) (79 + 18) M x.2.2 ∧ rcJ T a s 0 x.2.2 ∧ fwB T a s x.1) (2 ^ T.1) ?_ ?_ _ ⟨rfl, o8, j8, .inl ⟨rfl, fun S hS => absurd hS (Nat.not_lt_zero _)⟩⟩ (by omega)
    · rintro s ⟨i9, i10, Q⟩ hs ⟨hi, hO, hJ, hF⟩
      simp only at hi hO hJ hF
      subst hi
      have hTQ := hT.out hO (by omega)
      obtain ⟨v, v1, v2, v3⟩ := hJ s hs
      have hva := rcJ_at hs (v3 a ha)
      obtain ⟨Mw, w0, w1, w2⟩ := walkOn_ok hTQ hok ha hs hJ
      have hgn := gains_ok hTQ hok (S := s) (by omega)
      have hcn : cnS T.1 s ≤ 8 := Nat.le_trans (cn_le s T.1) h8
      have hpc : f_J6_bitCount_0f7a4 (nI s) = nI (cnS T.1 s) := by rw [bitCount_nI (by omega), cn_popc hs (by omega)]
      have keep : ¬ gdB T a s → fwB T a (s + 1) i9 := by
        intro hng
        rcases hF with ⟨f1, f2⟩ | ⟨c, f1, f0, ⟨S, f2, f3, f4⟩, f5⟩
        · refine .inl ⟨f1, fun S hS => ?_⟩
          by_cases e : S = s
          · rw [e]; exact hng
          · exact f2 S (by omega)
        · refine .inr ⟨c, f1, f0, ⟨S, by omega, f3, f4⟩, fun S' hS' hg => ?_⟩
          by_cases e : S' = s
          · rw [e] at hg; exact absurd hg hng
          · exact f5 S' (by omega) hg
      have keep2 : (∃ c, i9 = nI c ∧ c ≤ 8 ∧ c ≤ cnS T.1 s) → fwB T a (s + 1) i9 := by
        rintro ⟨c', y1, y2, y3⟩
        rcases hF with ⟨f1, f2⟩ | ⟨c, f1, f0, ⟨S, f2, f3, f4⟩, f5⟩
        · rw [f1] at y1
          exact absurd y1.symm (nI_neg1 (by omega))
        · have : c = c' := (nI_eq_iff (by omega) (by omega)).1 (f1.symm.trans y1)
          refine .inr ⟨c, f1, f0, ⟨S, by omega, f3, f4⟩, fun S' hS' hg => ?_⟩
          by_cases e : S' = s
          · rw [e]; omega
          · exact f5 S' (by omega) hg
      unfold w_X5_fewestTradesBack_52
      try simp only
      rw [if_neg (by rw [nI_le_iff (by omega) (by omega)]; omega), lt_eq, hpc, rd_nI la_96 (by omega) (by omega), b1_some, v1, isIn_nI (by omega) (by omega), w0, hgn, nI_inc]
      cases hb : v.testBit a with
      | false =>
        rw [if_pos (.inl (by decide)), b1_some]
        refine ⟨_, rfl, rfl, hO.trans w1, w2, keep (fun g => ?_)⟩
        have := hva.2 g.2.1
        rw [hb] at this
        cases this
      | true =>
        by_cases hle : ¬ (i9 = -1) ∧ i9 ≤ nI (cnS T.1 s)
        · rw [if_pos (.inr hle), b1_some]
          refine ⟨_, rfl, rfl, hO.trans w1, w2, keep2 ?_⟩
          rcases hF with ⟨f1, f2⟩ | ⟨c, f1, f0, f2, f5⟩
          · exact absurd f1 hle.1
          · refine ⟨c, f1, f0, ?_⟩
            have := hle.2
            rw [f1, nI_le_iff (by omega) (by omega)] at this
            exact this
        · rw [if_neg (by
            rintro (y | y)
            · exact absurd y (by decide)
            · exact hle y), b1_some]
          by_cases hgs : gnB T s = true
          · rw [if_pos hgs, if_neg (by decide), b1_some]
            refine ⟨_, rfl, rfl, hO.trans w1, w2, .inr ⟨cnS T.1 s, rfl, hcn, ⟨s, by omega, ⟨hs, hva.1 hb, hgs⟩, rfl⟩, fun S' hS' hg => ?_⟩⟩
            by_cases e : S' = s
            · rw [e]; exact Nat.le_refl _
            · rcases hF with ⟨f1, f2⟩ | ⟨c, f1, f0, f2, f5⟩
              · exact absurd hg (f2 S' (by omega))
              · have h1 := f5 S' (by omega) hg
                have h2 : ¬ c ≤ cnS T.1 s := fun y => hle ⟨by rw [f1]; exact nI_neg1 (by omega), by rw [f1, nI_le_iff (by omega) (by omega)]; exact y⟩
                omega
          · rw [if_neg hgs, if_pos rfl, b1_some]
            exact ⟨_, rfl, rfl, hO.trans w1, w2, keep (fun g => hgs g.2.2)⟩
    · rintro ⟨i9, i10, Q⟩ ⟨hi, hO, hJ, hF⟩
      simp only at hi hO hJ hF
      subst hi
      unfold w_X5_fewestTradesBack_52
      try simp only
      rw [if_pos (by rw [nI_le_iff (by omega) (by omega)]; omega)]
      exact ⟨_, rfl, hO, hF⟩
  rw [e1, b1_some]
  exact wq_some ⟨q1, q2⟩
end BKC
theorem gnB_zero (T : Tb) : gnB T 0 = false := by
  have : ∀ (z : Nat → Nat) n, pS z 0 n = 1 := by
    intro z n
    induction n with
    | zero => rfl
    | succ n ih =>
      show pS z 0 n * (if (0 : Nat).testBit n then z n else 1) = 1
      rw [ih]; simp
  unfold gnB
  rw [this, this]
  decide
theorem c_back (a : Int32) {M : Mem} (h : Inv M) : ∃ M1 M2 r, f_X10_back a M = some (M1, r) ∧ b1 (f_X11_back a M1) (fun x => some (M1, x)) = some (M2, r) ∧ Inv M2 := by
  refine both_ok (fc := fun M => f_X10_back a M) (fm := fun M => b1 (f_X11_back a M) (fun x => some (M, x))) h ?_
  rintro ⟨A, I, P, tp, ft⟩ hC hM hG
  have hT : RR (79 + 7) 8 4 (A.2.1 9) M := hC.2.1.2.2.2
  have hok : okTrd (A.2.1 9) := hG.1.2.2.1.2.2.2
  have h8 : (A.2.1 9).1 ≤ 8 := hT.le
  rcases rng_cases a 0 5 (by omega) (by omega) with z | ⟨x, _, hx, rfl⟩
  · refine ⟨(A, I, P, tp, ft), -1, hG, ?_, fun M1 hM1 => ?_⟩
    · show Wq (f_X10_back a M) _
      unfold f_X10_back f_X10_isTradeKind
      rw [if_pos (show f_X10_within a 0 5 = 0 from (within0 _ _ _).2 z)]
      exact wq_some ⟨rfl, hC, Hi.refl _⟩
    · show Wq (b1 (f_X11_back a M1) (fun x => some (M1, x))) _
      unfold f_X11_back f_X11_isOne
      rw [if_pos (show f_X11_isIn a 0 5 = 0 from (isInm0 _ _ _).2 z), b1_some]
      exact wq_some ⟨rfl, hM1, Lo.refl _⟩
  · have w0 : ¬ f_X10_within (nI x) 0 5 = 0 := by
      rw [within0]
      rintro (y | y)
      · exact nI_nneg (by omega) y
      · have y : nI 5 < nI x := y
        rw [nI_lt_iff (by omega) (by omega)] at y; omega
    have w1 : ¬ f_X11_isIn (nI x) 0 5 = 0 := by
      rw [isInm0]
      rintro (y | y)
      · exact nI_nneg (by omega) y
      · have y : nI 5 < nI x := y
        rw [nI_lt_iff (by omega) (by omega)] at y; omega
    obtain ⟨⟨Mc, rc⟩, c0, c1, c2⟩ := backc_run hT hok (a := x) (by omega)
    simp only at c1 c2
    have hV : rc = if bfT (A.2.1 9) x ((A.2.1 9).1 + 1) x 0 < 100000 then nI (bfT (A.2.1 9) x ((A.2.1 9).1 + 1) x 0) else -1 := by
      rcases c2 with ⟨f1, f2⟩ | ⟨c, f1, f0, ⟨S, f2, f3, f4⟩, f5⟩
      · rw [if_neg (fun y => by
          obtain ⟨S, s1, s2⟩ := back_all y
          exact f2 S s1.1 s1)]
        exact f1
      · have h1 := back_min (gnB_zero (A.2.1 9)) f3
        have h1 : bfT (A.2.1 9) x ((A.2.1 9).1 + 1) x 0 ≤ cnS (A.2.1 9).1 S := h1
        have hlt : bfT (A.2.1 9) x ((A.2.1 9).1 + 1) x 0 < 100000 := by omega
        obtain ⟨S2, s1, s2⟩ := back_all hlt
        have s2 : cnS (A.2.1 9).1 S2 = bfT (A.2.1 9) x ((A.2.1 9).1 + 1) x 0 := s2
        have h2 := f5 S2 s1.1 s1
        rw [if_pos hlt, f1]
        congr 1; omega
    have hle : bfT (A.2.1 9) x ((A.2.1 9).1 + 1) x 0 ≤ 100000 := by
      unfold bfT
      show (if _ then 0 else mnF _ _ _) ≤ 100000
      split
      · exact Nat.zero_le _
      · exact mn_far _ _ _
    refine ⟨(A, I, P, tp, ft), rc, hG, ?_, fun M1 hM1 => ?_⟩
    · show Wq (f_X10_back (nI x) M) _
      unfold f_X10_back f_X10_isTradeKind
      rw [if_neg w0, c0, b2_some]
      exact wq_some ⟨rfl, hC.scr c1 (by omega), c1.hi (by omega)⟩
    · show Wq (b1 (f_X11_back (nI x) M1) (fun x => some (M1, x))) _
      have hp : ∀ (z : Nat → Nat) n, pS z 0 n = 1 := by
        intro z n
        induction n with
        | zero => rfl
        | succ n ih =>
          show pS z 0 n * (if (0 : Nat).testBit n then z n else 1) = 1
          rw [ih]; simp
      have c00 : cnS (A.2.1 9).1 0 = 0 := zS_zero _ _
      have hR1 : RMm 156 A M1 := hM1.1
      have hr := backFrom_ok hR1 hok (a := x) (by omega) ((A.2.1 9).1 + 1) 40 x 0 (by omega) (Nat.pow_pos (by omega)) (by omega) (by omega)
      rw [hp, hp] at hr
      have hr : f_X11_backFrom 40 (nI x) (nI x) 0 1 1 M1 = some (nI (bfT (A.2.1 9) x ((A.2.1 9).1 + 1) x 0)) := hr
      unfold f_X11_back f_X11_isOne
      rw [if_neg w1, hr, b1_some, lt_eq, b1_some]
      refine wq_some ⟨?_, hM1, Lo.refl _⟩
      simp only
      rw [hV]
      by_cases y : bfT (A.2.1 9) x ((A.2.1 9).1 + 1) x 0 < 100000
      · rw [if_pos y, if_pos (by
          show nI _ < nI 100000
          rw [nI_lt_iff (by omega) (by omega)]; exact y)]
      · rw [if_neg y, if_neg (by
          intro q
          have q : nI (bfT (A.2.1 9) x ((A.2.1 9).1 + 1) x 0) < nI 100000 := q
          rw [nI_lt_iff (by omega) (by omega)] at q; exact y q)]
