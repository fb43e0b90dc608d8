/-! ===== PURE PART: ring, dusk, most ===== -/
theorem lp_firstS {σ ρ : Type} {body : σ → Option (σ ⊕ ρ)} (st : Nat → σ) (p : Nat → Bool) (f : Option Nat → ρ) : ∀ (n k fuel : Nat), (∀ j, k ≤ j → j < k + n → p j = false → body (st j) = some (.inl (st (j + 1)))) → (∀ j, k ≤ j → j < k + n → p j = true → body (st j) = some (.inr (f (some j)))) → body (st (k + n)) = some (.inr (f none)) → n < fuel → lp body fuel (st k) = some (f (firstF p k n))
  | n, k, 0, _, _, _, h => absurd h (Nat.not_lt_zero _)
  | 0, k, fuel + 1, _, _, h3, _ => lp_end h3
  | n + 1, k, fuel + 1, h1, h2, h3, h => by
    unfold firstF
    by_cases q : p k
    · rw [if_pos q]
      exact lp_end (h2 k (Nat.le_refl _) (by omega) q)
    · rw [if_neg q, lp_in (h1 k (Nat.le_refl _) (by omega) (by simpa using q))]
      exact lp_firstS st p f n (k + 1) fuel (fun j a b c => h1 j (by omega) (by omega) c) (fun j a b c => h2 j (by omega) (by omega) c) (by rw [show k + 1 + n = k + (n + 1) from by omega]; exact h3) (by omega)
theorem isIn_iff (a b : Int32) : f_X10_isIn a b = 0 ↔ ¬ ((a >>> (b &&& 31)) &&& 1 = 1) := by
  unfold f_X10_isIn
  rw [lt_eq]
  by_cases h : (a >>> (b &&& 31)) &&& 1 = 1
  · rw [if_pos h]; exact ⟨fun q => absurd q (by decide), fun q => absurd h q⟩
  · rw [if_neg h]; exact ⟨fun _ => h, fun _ => rfl⟩
def kbG (T : Tb) (s : Int32) : Nat → Int32
  | 0 => 0
  | k + 1 => if f_X10_isIn s (T.2 k 0) = 0 then kbG T s k else kbG T s k ||| ((1 : Int32) <<< (T.2 k 1 &&& 31))
theorem kindsBehind_ok {o : Nat} {T : Tb} {M : Mem} (hT : RR (o + 7) 8 4 T M) (s : Int32) : f_X5_kindsBehind o s M = some (kbG T s T.1) := by
  have hm : T.1 ≤ 8 := hT.le
  unfold f_X5_kindsBehind
  have key := lp_for (body := fun q : Int32 × Int32 => w_X5_kindsBehind_4 o s M q.1 q.2) (fun j => (kbG T s j, nI j)) T.1 (kbG T s T.1) (by
    intro j hj
    unfold w_X5_kindsBehind_4
    simp only
    rw [hT.cnt, if_neg (by rw [nI_le_iff (by omega) (by omega)]; omega), at_lit hT 0 rfl hj (by omega), b1_some]
    show _ = some (Sum.inl ((if f_X10_isIn s (T.2 j 0) = 0 then kbG T s j else kbG T s j ||| ((1 : Int32) <<< (T.2 j 1 &&& 31))), nI (j + 1)))
    by_cases q : f_X10_isIn s (T.2 j 0) = 0
    · rw [if_pos q, if_pos q, nI_inc]
    · rw [if_neg q, if_neg q, at_lit hT 1 rfl hj (by omega), b1_some, lt_eq, nI_inc]) (by
    unfold w_X5_kindsBehind_4
    simp only
    rw [hT.cnt, if_pos (by rw [nI_le_iff (by omega) (by omega)]; omega)]) (by omega)
  have key : lp (fun q : Int32 × Int32 => w_X5_kindsBehind_4 o s M q.1 q.2) FU (0, 0) = _ := key
  rw [key, b1_some]
theorem ringIn_ok {A : AS} {M : Mem} (h : RMm 156 A M) (s : Int32) : lp (fun q => w_X11_ring_48 M s q.1 q.2) FU (s, 0) = some (s ||| kbG (A.2.1 9) s (A.2.1 9).1) := by
  have hT := h.2.1 9 (by omega)
  have hn : M 156 90 = nI (A.2.1 9).1 := hT.1
  have hm : (A.2.1 9).1 ≤ 8 := hT.2.1
  have key := lp_for (body := fun q : Int32 × Int32 => w_X11_ring_48 M s q.1 q.2) (fun j => (s ||| kbG (A.2.1 9) s j, nI j)) (A.2.1 9).1 (s ||| kbG (A.2.1 9) s (A.2.1 9).1) (by
    intro j hj
    unfold w_X11_ring_48
    have i0 : (337 + (4 * nI j)) = nI (337 + 4 * j) := idx2 337 4 j
    have i1 : nI (337 + 4 * j) + 1 = nI (337 + 4 * j + 1) := nI_add _ 1
    simp only
    rw [hn, if_neg (by rw [nI_le_iff (by omega) (by omega)]; omega), i0, i1, rt_rd h (k := 9) (by omega) hj (j := 0) (by simp [twd]) (by simp [tbs, twd]; omega), b1_some]
    show _ = some (Sum.inl (s ||| (if f_X10_isIn s ((A.2.1 9).2 j 0) = 0 then kbG (A.2.1 9) s j else kbG (A.2.1 9) s j ||| ((1 : Int32) <<< ((A.2.1 9).2 j 1 &&& 31))), nI (j + 1)))
    by_cases q : f_X10_isIn s ((A.2.1 9).2 j 0) = 0
    · rw [if_neg ((isIn_iff _ _).1 q), if_pos q, Int32.or_zero, nI_inc]
    · rw [if_pos (Decidable.not_not.mp (fun z => q ((isIn_iff _ _).2 z))), if_neg q, rt_rd h (k := 9) (by omega) hj (j := 1) (by simp [twd]) (by simp [tbs, twd]; omega), b1_some, lt_eq, nI_inc, Int32.or_assoc]) (by
    unfold w_X11_ring_48
    simp only
    rw [hn, if_pos (by rw [nI_le_iff (by omega) (by omega)]; omega)]) (by omega)
  have key : lp (fun q : Int32 × Int32 => w_X11_ring_48 M s q.1 q.2) FU (s ||| 0, 0) = _ := key
  rw [Int32.or_zero] at key
  exact key
def ringS (T : Tb) (s : Int32) : Nat → Int32
  | 0 => s
  | k + 1 => ringS T s k ||| kbG T (ringS T s k) T.1
theorem c_ring (a b : Int32) {M : Mem} (h : Inv M) : ∃ r, f_X10_ring a b M = some r ∧ f_X11_ring a b M = some r := by
  obtain ⟨⟨A, I, P, tp, ft⟩, hC, hM, hG⟩ := h
  have hT : RR (79 + 7) 8 4 (A.2.1 9) M := hC.2.1.2.2.2
  have hR : RMm 156 A M := hM.1
  unfold f_X10_ring f_X11_ring f_X10_isTradeKind f_X11_isOne
  by_cases q : (f_X10_within a 0 5 = 0 ∨ f_X10_within b 0 5 = 0)
  · refine ⟨-1, by rw [if_pos q], ?_⟩
    rw [within0, within0] at q
    rw [if_pos (by rw [isInm0, isInm0]; exact q)]
  · rw [if_neg q]
    rw [within0, within0] at q
    rw [if_neg (by rw [isInm0, isInm0]; exact q)]
    have n6 : ∀ j, j < 0 + 6 → ¬ (6 : Int32) ≤ nI j := by
      intro j hj z
      have z : nI 6 ≤ nI j := z
      rw [nI_le_iff (by omega) (by omega)] at z; omega
    have k1 := lp_firstS (body := fun s : Int32 × Int32 => w_X5_fewestTradesTo_7 79 b M s.1 s.2) (fun j => (ringS (A.2.1 9) ((1 : Int32) <<< (a &&& 31)) j, nI j)) (fun j => decide (f_X10_isIn (ringS (A.2.1 9) ((1 : Int32) <<< (a &&& 31)) j) b ≠ 0)) (fun r => match r with | some j => .inl (nI j) | none => .inr ()) 6 0 FU (by
      intro j _ hj hp
      have hp : f_X10_isIn (ringS (A.2.1 9) ((1 : Int32) <<< (a &&& 31)) j) b = 0 := by simpa using hp
      unfold w_X5_fewestTradesTo_7
      simp only
      rw [if_neg (n6 j hj), if_pos hp, kindsBehind_ok hT, b1_some, nI_inc]
      rfl) (by
      intro j _ hj hp
      have hp : ¬ f_X10_isIn (ringS (A.2.1 9) ((1 : Int32) <<< (a &&& 31)) j) b = 0 := by simpa using hp
      unfold w_X5_fewestTradesTo_7
      simp only
      rw [if_neg (n6 j hj), if_neg hp]) (by
      unfold w_X5_fewestTradesTo_7
      simp only
      rw [if_pos (by decide)]) (by decide)
    have k2 := lp_firstS (body := fun s : Int32 × Int32 => w_X11_ring_23 b M s.1 s.2) (fun j => (ringS (A.2.1 9) ((1 : Int32) <<< (a &&& 31)) j, nI j)) (fun j => decide (f_X10_isIn (ringS (A.2.1 9) ((1 : Int32) <<< (a &&& 31)) j) b ≠ 0)) (fun r => match r with | some j => .inl (nI j) | none => .inr ()) 6 0 FU (by
      intro j _ hj hp
      have hp : f_X10_isIn (ringS (A.2.1 9) ((1 : Int32) <<< (a &&& 31)) j) b = 0 := by simpa using hp
      unfold w_X11_ring_23
      simp only
      rw [if_neg (n6 j hj), if_neg ((isIn_iff _ _).1 hp), ringIn_ok hR, b1_some, nI_inc]
      rfl) (by
      intro j _ hj hp
      have hp : ¬ f_X10_isIn (ringS (A.2.1 9) ((1 : Int32) <<< (a &&& 31)) j) b = 0 := by simpa using hp
      unfold w_X11_ring_23
      simp only
      rw [if_neg (n6 j hj), if_pos (Decidable.not_not.mp (fun z => hp ((isIn_iff _ _).2 z)))]) (by
      unfold w_X11_ring_23
      simp only
      rw [if_pos (by decide)]) (by decide)
    have k1 : lp (fun s : Int32 × Int32 => w_X5_fewestTradesTo_7 79 b M s.1 s.2) FU ((1 : Int32) <<< (a &&& 31), 0) = _ := k1
    have k2 : lp (fun s : Int32 × Int32 => w_X11_ring_23 b M s.1 s.2) FU ((1 : Int32) <<< (a &&& 31), 0) = _ := k2
    unfold f_X5_fewestTradesTo
    rw [k1, k2, b1_some, b1_some]
    cases firstF (fun j => decide (f_X10_isIn (ringS (A.2.1 9) ((1 : Int32) <<< (a &&& 31)) j) b ≠ 0)) 0 6 with
    | none => exact ⟨-1, rfl, rfl⟩
    | some j => exact ⟨nI j, rfl, rfl⟩
/-! dusk -/
def takerF (T : Tb) (x : Int32) : Option Nat := firstF (fun j => decide (¬ T.2 j 0 < x)) 0 T.1
def optI (r : Option Nat) : Int32 := match r with
  | some j => nI j
  | none => -1
theorem firstLimit_ok {o : Nat} {T : Tb} {M : Mem} (hT : RR (o + 5) 6 1 T M) {x : Int32} (hx : x ≠ -1) : f_X5_firstLimitAtLeast o x M = some (optI (takerF T x)) := by
  have hm : T.1 ≤ 6 := hT.le
  unfold f_X5_firstLimitAtLeast
  rw [if_neg hx]
  have key := lp_first (body := fun s => w_X5_firstLimitAtLeast_9 o x M s) (fun j => decide (¬ T.2 j 0 < x)) (fun r => match r with | some j => .inl (nI j) | none => .inr ()) T.1 (by
    intro j hj hp
    have hp : T.2 j 0 < x := by simpa using hp
    simp only [w_X5_firstLimitAtLeast_9]
    rw [hT.cnt, if_neg (by rw [nI_le_iff (by omega) (by omega)]; omega), at_lit hT 0 rfl hj (by omega), b1_some, if_pos hp, nI_inc]) (by
    intro j hj hp
    have hp : ¬ T.2 j 0 < x := by simpa using hp
    simp only [w_X5_firstLimitAtLeast_9]
    rw [hT.cnt, if_neg (by rw [nI_le_iff (by omega) (by omega)]; omega), at_lit hT 0 rfl hj (by omega), b1_some, if_neg hp]) (by
    simp only [w_X5_firstLimitAtLeast_9]
    rw [hT.cnt, if_pos (by rw [nI_le_iff (by omega) (by omega)]; omega)]) (by omega)
  rw [key, b1_some]
  unfold takerF
  cases firstF (fun j => decide (¬ T.2 j 0 < x)) 0 T.1 with
  | none => rfl
  | some j => rfl
theorem takerAt_ok {A : AS} {M : Mem} (h : RMm 156 A M) (x : Int32) : f_X11_takerAt x M = some (optI (takerF (A.2.1 8) x)) := by
  have hT := h.2.1 8 (by omega)
  have hn : M 156 89 = nI (A.2.1 8).1 := hT.1
  have hm : (A.2.1 8).1 ≤ 6 := hT.2.1
  unfold f_X11_takerAt
  have i0 : ∀ j, (331 + nI j) = nI (331 + j) := fun j => nI_add 331 j
  have key := lp_first (body := fun s => w_X11_takerAt_2 x M s) (fun j => decide (¬ (A.2.1 8).2 j 0 < x)) (fun r => match r with | some j => .inl (nI j) | none => .inr ()) (A.2.1 8).1 (by
    intro j hj hp
    have hp : (A.2.1 8).2 j 0 < x := by simpa using hp
    simp only [w_X11_takerAt_2]
    rw [hn, if_neg (by rw [nI_le_iff (by omega) (by omega)]; omega), i0, rt_rd h (k := 8) (by omega) hj (j := 0) (by simp [twd]) (by simp [tbs, twd]), b1_some, if_pos hp, nI_inc]) (by
    intro j hj hp
    have hp : ¬ (A.2.1 8).2 j 0 < x := by simpa using hp
    simp only [w_X11_takerAt_2]
    rw [hn, if_neg (by rw [nI_le_iff (by omega) (by omega)]; omega), i0, rt_rd h (k := 8) (by omega) hj (j := 0) (by simp [twd]) (by simp [tbs, twd]), b1_some, if_neg hp]) (by
    simp only [w_X11_takerAt_2]
    rw [hn, if_pos (by rw [nI_le_iff (by omega) (by omega)]; omega)]) (by omega)
  rw [key, b1_some]
  unfold takerF
  cases firstF (fun j => decide (¬ (A.2.1 8).2 j 0 < x)) 0 (A.2.1 8).1 with
  | none => rfl
  | some j => rfl
theorem optI_lt {r : Option Nat} : (∀ j, r = some j → j < 1000) → (optI r = -1 ↔ r = none) := by
  intro h
  cases r with
  | none => exact ⟨fun _ => rfl, fun _ => rfl⟩
  | some j => exact ⟨fun q => absurd q (nI_neg1 (by have := h j rfl; omega)), fun q => by cases q⟩
theorem taker_lt {T : Tb} {x : Int32} (hT : T.1 ≤ 150) : ∀ j, takerF T x = some j → j < 1000 := by
  intro j hj
  have := (firstF_lt hj).2.1
  omega
theorem nI_sub_toInt {a b : Nat} (ha : a < 1000000) (hb : b < 1000000) : (nI a - nI b).toInt = (a : Int) - b := by
  rw [Int32.toInt_sub, nI_toInt (by omega), nI_toInt (by omega)]
  apply Int.bmod_eq_of_le <;> omega
theorem c_dusk (a d w : Int32) {M : Mem} (h : Inv M) : ∃ r, f_X10_dusk a d w M = some r ∧ f_X11_dusk a d w M = some r := by
  obtain ⟨⟨A, I, P, tp, ft⟩, hC, hM, hG⟩ := h
  have hT : RR (79 + 5) 6 1 (A.2.1 8) M := hC.2.1.2.2.1
  have hR : RMm 156 A M := hM.1
  have hm : (A.2.1 8).1 ≤ 6 := hT.le
  unfold f_X10_dusk f_X11_dusk
  by_cases q : (f_X10_within a 1 999 = 0 ∨ (f_X10_within d 1 99 = 0 ∨ f_X10_within w 0 1 = 0))
  · refine ⟨-1, by rw [if_pos q], ?_⟩
    rw [within0, within0, within0] at q
    rw [if_pos (by rw [isInm0, isInm0, isInm0]; exact q)]
  · rw [if_neg q]
    rw [within0, within0, within0] at q
    rw [if_neg (by rw [isInm0, isInm0, isInm0]; exact q)]
    obtain ⟨a', a1, a2, rfl⟩ := rng_in (x := a) 1 999 rfl rfl (by omega) (by omega) (fun z => q (.inl z))
    obtain ⟨d', d1, d2, rfl⟩ := rng_in (x := d) 1 99 rfl rfl (by omega) (by omega) (fun z => q (.inr (.inl z)))
    -- N turns with a price of at least 1
    obtain ⟨N, hN1, hN2, hN3⟩ : ∃ N, N ≤ 999 ∧ (∀ k, k < N → k * d' + 1 ≤ a') ∧ a' ≤ N * d' := by
      have key : ∀ n, (∃ N, N ≤ n ∧ (∀ k, k < N → k * d' + 1 ≤ a') ∧ a' ≤ N * d') ∨ ∀ k, k < n + 1 → k * d' + 1 ≤ a' := by
        intro n
        induction n with
        | zero => right; intro k hk; rw [show k = 0 from by omega, Nat.zero_mul]; omega
        | succ n ih =>
          rcases ih with ⟨N, h1, h2, h3⟩ | ih
          · exact .inl ⟨N, by omega, h2, h3⟩
          · by_cases z : (n + 1) * d' + 1 ≤ a'
            · right
              intro k hk
              by_cases y : k = n + 1
              · rw [y]; exact z
              · exact ih k (by omega)
            · exact .inl ⟨n + 1, Nat.le_refl _, fun k hk => ih k hk, by omega⟩
      rcases key 999 with h | h
      · exact h
      · exfalso
        have := h 999 (by omega)
        have : 999 * 1 ≤ 999 * d' := Nat.mul_le_mul_left _ d1
        omega
    have hst : ∀ k, k < N → nI a' - nI (k * d') = nI (a' - k * d') := fun k hk => nI_sub (by have := hN2 k hk; omega)
    have hnext : ∀ k, k < N → (nI a' - nI (k * d')) - nI d' = nI a' - nI ((k + 1) * d') := by
      intro k hk
      have e : (k + 1) * d' = k * d' + d' := by rw [Nat.add_mul, Nat.one_mul]
      rw [Int32.sub_sub, nI_add, e]
    have hlast : nI a' - nI (N * d') < 1 := by
      have hb : N * d' ≤ 999 * 99 := Nat.mul_le_mul hN1 d2
      rw [Int32.lt_iff_toInt_lt, nI_sub_toInt (by omega) (by omega), show (1 : Int32).toInt = 1 from by decide]
      omega
    have hge : ∀ k, k < N → ¬ nI a' - nI (k * d') < 1 := by
      intro k hk z
      rw [hst k hk] at z
      have z : nI (a' - k * d') < nI 1 := z
      have := hN2 k hk
      rw [nI_lt_iff (by omega) (by omega)] at z
      omega
    have hne1 : ∀ k, k < N → nI a' - nI (k * d') ≠ -1 := fun k hk => by rw [hst k hk]; exact nI_neg1 (by omega)
    have hmax : f_J9_max_7cf53 1 (nI d') = nI d' := by
      unfold f_J9_max_7cf53
      by_cases z : (1 : Int32) < nI d'
      · rw [if_pos z]
      · rw [if_neg z]
        have z : ¬ nI 1 < nI d' := z
        rw [nI_lt_iff (by omega) (by omega)] at z
        rw [show d' = 1 from by omega]; rfl
    have tl : ∀ x : Int32, ∀ j, takerF (A.2.1 8) x = some j → j < 1000 := fun x => taker_lt (by omega)
    have k1 := lp_firstS (body := fun s => w_X5_priceTaken_2 79 (nI d') M s) (fun k => nI a' - nI (k * d')) (fun k => (takerF (A.2.1 8) (nI a' - nI (k * d'))).isSome) (fun r => match r with | some k => .inl (nI a' - nI (k * d')) | none => .inr ()) N 0 FU (by
      intro j _ hj hp
      have hj : j < N := by omega
      have hp : takerF (A.2.1 8) (nI a' - nI (j * d')) = none := by simpa using hp
      simp only [w_X5_priceTaken_2]
      rw [if_neg (hge j hj), firstLimit_ok hT (hne1 j hj), b1_some, hp, if_pos (show optI none = -1 from rfl), lt_eq, hmax, hnext j hj]) (by
      intro j _ hj hp
      have hj : j < N := by omega
      simp only [w_X5_priceTaken_2]
      rw [if_neg (hge j hj), firstLimit_ok hT (hne1 j hj), b1_some, if_neg (by
        rw [optI_lt (tl _)]
        intro z
        rw [z] at hp
        cases hp)]) (by
      simp only [w_X5_priceTaken_2, Nat.zero_add]
      rw [if_pos hlast]) (by unfold FU; omega)
    have k2 := lp_firstS (body := fun s => w_X11_dusk_35 (nI d') M s) (fun k => nI a' - nI (k * d')) (fun k => (takerF (A.2.1 8) (nI a' - nI (k * d'))).isSome) (fun r => match r with | some k => .inl (nI a' - nI (k * d')) | none => .inr ()) N 0 FU (by
      intro j _ hj hp
      have hj : j < N := by omega
      have hp : takerF (A.2.1 8) (nI a' - nI (j * d')) = none := by simpa using hp
      simp only [w_X11_dusk_35]
      rw [if_neg (hge j hj), takerAt_ok hR, b1_some, hp, if_pos (show optI none = -1 from rfl), hnext j hj]) (by
      intro j _ hj hp
      have hj : j < N := by omega
      simp only [w_X11_dusk_35]
      rw [if_neg (hge j hj), takerAt_ok hR, b1_some, if_neg (by
        rw [optI_lt (tl _)]
        intro z
        rw [z] at hp
        cases hp)]) (by
      simp only [w_X11_dusk_35, Nat.zero_add]
      rw [if_pos hlast]) (by unfold FU; omega)
    have z0 : nI a' - nI (0 * d') = nI a' := by rw [Nat.zero_mul]; exact nI_sub (b := 0) (Nat.zero_le _)
    rw [z0] at k1 k2
    unfold f_X5_priceTaken
    rw [k1, k2, b1_some, b1_some]
    cases hf : firstF (fun k => (takerF (A.2.1 8) (nI a' - nI (k * d'))).isSome) 0 N with
    | none =>
      refine ⟨-1, ?_, rfl⟩
      show b1 (some (-1)) _ = _
      rw [b1_some]
      by_cases z : w = 0
      · rw [if_pos z]
        have e : f_X5_firstLimitAtLeast 79 (-1) M = some (-1) := by unfold f_X5_firstLimitAtLeast; rw [if_pos rfl]
        rw [e, b1_some]
      · rw [if_neg z]
    | some k =>
      have hk : k < N := by have := (firstF_lt hf).2.1; omega
      show ∃ r, b1 (some (nI a' - nI (k * d'))) _ = _ ∧ (if w = 0 then b1 (f_X11_takerAt (nI a' - nI (k * d')) M) (fun x12 => some x12) else some (nI a' - nI (k * d'))) = _
      rw [b1_some]
      by_cases z : w = 0
      · rw [if_pos z, if_pos z, firstLimit_ok hT (hne1 k hk), takerAt_ok hR, b1_some]
        exact ⟨_, rfl, rfl⟩
      · rw [if_neg z, if_neg z]
        exact ⟨_, rfl, rfl⟩
/-! most -/
theorem firstF_congr {p p' : Nat → Bool} : ∀ (n k : Nat), (∀ j, k ≤ j → j < k + n → p j = p' j) → firstF p k n = firstF p' k n
  | 0, k, _ => rfl
  | n + 1, k, h => by
    unfold firstF
    rw [h k (Nat.le_refl _) (by omega), firstF_congr n (k + 1) (fun j a b => h j (by omega) (by omega))]
theorem firstF_succ (p : Nat → Bool) (k n : Nat) : firstF p k (n + 1) = if p k then some k else firstF p (k + 1) n := rfl
theorem feastsHeld_eq (left size : Int32) (hz : ¬ (size < 1 ∨ (999 : Int32) < size)) : ∃ r, f_X10_feastsHeld left size = some r ∧ f_X11_holds left size = some r := by
  have hj : ∀ n : Nat, ((nI n * left) * 9) / 10 = f_X11_joined (nI n * left) := fun n => by unfold f_X11_joined; rw [Int32.mul_comm]
  have n20 : ∀ j, j ≤ 20 → ¬ (20 : Int32) < nI j := by
    intro j hj z
    have z : nI 20 < nI j := z
    rw [nI_lt_iff (by omega) (by omega)] at z; omega
  obtain ⟨Q, hQ⟩ : ∃ Q : Nat → Bool, ∀ j, (Q j = true ↔ ¬ f_X11_joined (nI j * left) < size) := ⟨fun j => decide (¬ f_X11_joined (nI j * left) < size), fun j => decide_eq_true_iff⟩
  obtain ⟨P, hP⟩ : ∃ P : Nat → Bool, ∀ j, (P j = true ↔ ¬ (if nI j = 1 then left else f_X11_joined (nI j * left)) < size) := ⟨fun j => decide (¬ (if nI j = 1 then left else f_X11_joined (nI j * left)) < size), fun j => decide_eq_true_iff⟩
  have k1 := lp_firstG (body := fun s => w_X10_feastsHeld_22 left size s) Q (fun r => match r with | some j => .inl (nI j) | none => .inr ()) 19 2 FU (by
    intro j j1 j2 hp
    have hp : f_X11_joined (nI j * left) < size := Decidable.not_not.mp (fun z => by rw [(hQ j).2 z] at hp; cases hp)
    simp only [w_X10_feastsHeld_22]
    rw [if_neg (n20 j (by omega)), hj, if_pos hp, nI_inc]) (by
    intro j j1 j2 hp
    have hp := (hQ j).1 hp
    simp only [w_X10_feastsHeld_22]
    rw [if_neg (n20 j (by omega)), hj, if_neg hp]) (by
    simp only [w_X10_feastsHeld_22]
    rw [if_pos (by decide)]) (by decide)
  have k2 := lp_firstG (body := fun s => w_X11_holds_2 left size s) P (fun r => match r with | some j => .inl (nI j) | none => .inr ()) 20 1 FU (by
    intro j j1 j2 hp
    have hp : (if nI j = 1 then left else f_X11_joined (nI j * left)) < size := Decidable.not_not.mp (fun z => by rw [(hP j).2 z] at hp; cases hp)
    simp only [w_X11_holds_2]
    rw [if_neg (n20 j (by omega)), lt_eq, if_pos hp, nI_inc]) (by
    intro j j1 j2 hp
    have hp := (hP j).1 hp
    simp only [w_X11_holds_2]
    rw [if_neg (n20 j (by omega)), lt_eq, if_neg hp]) (by
    simp only [w_X11_holds_2]
    rw [if_pos (by decide)]) (by decide)
  have k1 : lp (fun s => w_X10_feastsHeld_22 left size s) FU 2 = _ := k1
  have k2 : lp (fun s => w_X11_holds_2 left size s) FU 1 = _ := k2
  have hPQ : ∀ j, 2 ≤ j → j < 2 + 19 → P j = Q j := by
    intro j h1 h2
    have e : ¬ nI j = 1 := by
      intro z
      have z : nI j = nI 1 := z
      rw [nI_eq_iff (by omega) (by omega)] at z; omega
    have h := hP j
    rw [if_neg e] at h
    exact Bool.eq_iff_iff.mpr (h.trans (hQ j).symm)
  have hP1 : P 1 = true ↔ ¬ left < size := by
    have h := hP 1
    rw [if_pos (show nI 1 = 1 from rfl)] at h
    exact h
  unfold f_X10_feastsHeld f_X11_holds
  rw [if_neg (by rw [within0]; exact hz), k1, k2, b1_some, b1_some, firstF_succ P 1 19, firstF_congr 19 2 hPQ]
  by_cases z : left < size
  · rw [if_pos z, if_neg (fun y => hP1.1 y z)]
    cases firstF Q 2 19 with
    | none => exact ⟨-1, rfl, rfl⟩
    | some j => exact ⟨nI j, rfl, rfl⟩
  · rw [if_neg z, if_pos (hP1.2 z)]
    exact ⟨1, rfl, rfl⟩
def mgB (A : AS) (k : Nat) : Nat → Nat
  | 0 => 1
  | j + 1 => if leftS A k (nI (j + 2)) ≤ leftS A k (nI (mgB A k j)) then mgB A k j else j + 2
theorem guestsLeavingMost_ok {t : Bool} {o : Nat} {A : AS} {M : Mem} (ho : MkAt o) (h : RMk t o A M) (hL : OKL A.2.2) {k : Nat} (hk : k < (A.2.1 0).1) : Wq (f_X6_guestsLeavingMost o (nI k) M) (fun p => p.2 = nI (mgB A k 19) ∧ Out (o + 20) (o + 26) M p.1) := by
  unfold f_X6_guestsLeavingMost
  refine wq_b2 (leftByFeast_ok ho h hL hk 1) ?_
  rintro M1 x ⟨hx, hO1⟩
  simp only at hx hO1
  subst hx
  refine wq_b1 (P := fun r => r.1 = nI (mgB A k 19) ∧ Out (o + 20) (o + 26) M r.2) (lp_to (fun j s => s.1 = nI (mgB A k j) ∧ s.2.1 = leftS A k (nI (mgB A k j)) ∧ s.2.2.1 = nI (j + 2) ∧ Out (o + 20) (o + 26) M s.2.2.2) 19 ?_ ?_ _ ⟨rfl, rfl, rfl, hO1⟩ (by omega)) (fun r hr => wq_some hr)
  · rintro j ⟨a, b, c, N⟩ hj ⟨ha, hb, hc, hO⟩
    simp only at ha hb hc hO
    subst ha hb hc
    unfold w_X6_guestsLeavingMost_12
    simp only
    rw [if_neg (by
      intro z
      have z : nI 20 < nI (j + 2) := z
      rw [nI_lt_iff (by omega) (by omega)] at z; omega)]
    obtain ⟨⟨N', y⟩, e1, e2, e3⟩ := leftByFeast_ok ho (h.out hO (by omega)) hL hk (nI (j + 2))
    simp only at e2 e3
    rw [e1, b2_some, e2]
    by_cases z : leftS A k (nI (j + 2)) ≤ leftS A k (nI (mgB A k j))
    · rw [if_pos z, nI_inc]
      have em : mgB A k (j + 1) = mgB A k j := by show (if _ then _ else _) = _; rw [if_pos z]
      exact ⟨_, rfl, by rw [em], by rw [em], rfl, hO.trans e3⟩
    · rw [if_neg z, nI_inc]
      have em : mgB A k (j + 1) = j + 2 := by show (if _ then _ else _) = _; rw [if_neg z]
      exact ⟨_, rfl, by rw [em], by rw [em], rfl, hO.trans e3⟩
  · rintro ⟨a, b, c, N⟩ ⟨ha, hb, hc, hO⟩
    simp only at ha hb hc hO
    subst ha hb hc
    unfold w_X6_guestsLeavingMost_12
    simp only
    rw [if_pos (by decide)]
    exact ⟨_, rfl, rfl, hO⟩
theorem mostGuests_ok {A : AS} {M : Mem} (h : RMm 156 A M) (hL : OKL A.2.2) {k : Nat} (hk : k < (A.2.1 0).1) : Wq (f_X11_mostGuests (nI k) M) (fun p => p.2 = nI (mgB A k 19) ∧ Out 164 166 M p.1) := by
  unfold f_X11_mostGuests
  refine wq_b1 (P := fun r => r.1 = nI (mgB A k 19) ∧ Out 164 166 M r.2) (lp_to (fun j s => s.1 = nI (mgB A k j) ∧ s.2.1 = nI (j + 2) ∧ Out 164 166 M s.2.2) 19 ?_ ?_ _ ⟨rfl, rfl, Out.refl _ _ _⟩ (by omega)) (fun r hr => wq_some hr)
  · rintro j ⟨a, c, N⟩ hj ⟨ha, hc, hO⟩
    simp only at ha hc hO
    subst ha hc
    unfold w_X11_mostGuests_4
    simp only
    rw [if_neg (by
      intro z
      have z : nI 20 < nI (j + 2) := z
      rw [nI_lt_iff (by omega) (by omega)] at z; omega)]
    obtain ⟨⟨N', y⟩, e1, e2, e3⟩ := leftOf_ok (h.out hO (by omega)) hL hk (nI (j + 2))
    simp only at e2 e3
    have hO' := hO.trans e3
    obtain ⟨⟨N2, y2⟩, g1, g2, g3⟩ := leftOf_ok (h.out hO' (by omega)) hL hk (nI (mgB A k j))
    simp only at g2 g3
    rw [e1, b2_some, g1, b2_some, e2, g2]
    by_cases z : leftS A k (nI (j + 2)) ≤ leftS A k (nI (mgB A k j))
    · rw [if_pos z, nI_inc]
      have em : mgB A k (j + 1) = mgB A k j := by show (if _ then _ else _) = _; rw [if_pos z]
      exact ⟨_, rfl, by rw [em], rfl, hO'.trans g3⟩
    · rw [if_neg z, nI_inc]
      have em : mgB A k (j + 1) = j + 2 := by show (if _ then _ else _) = _; rw [if_neg z]
      exact ⟨_, rfl, by rw [em], rfl, hO'.trans g3⟩
  · rintro ⟨a, c, N⟩ ⟨ha, hc, hO⟩
    simp only at ha hc hO
    subst ha hc
    unfold w_X11_mostGuests_4
    simp only
    rw [if_pos (by decide)]
    exact ⟨_, rfl, rfl, hO⟩
theorem c_most (a s w : Int32) {M : Mem} (h : Inv M) : ∃ M1 M2 r, f_X10_most a s w M = some (M1, r) ∧ f_X11_most a s w M1 = some (M2, r) ∧ Inv M2 := by
  refine both_ok (fc := fun M => f_X10_most a s w M) (fm := fun M => f_X11_most a s w M) h ?_
  rintro ⟨A, I, P, tp, ft⟩ hC hM hG
  have hle : (A.2.1 0).1 ≤ 150 := m_k hM (k := 0) (by omega)
  have hT := hC.1.t0
  have hn : ∀ M1, InvM (A, I, P, tp, ft) M1 → M1 156 80 = nI (A.2.1 0).1 := fun M1 h1 => ans_m 0 (by omega) h1
  have hL : OKL A.2.2 := hG.1.2.2.2
  by_cases q : (a < 0 ∨ nI (A.2.1 0).1 ≤ a) ∨ (w < 0 ∨ (2 : Int32) < w)
  · refine ⟨(A, I, P, tp, ft), -1, hG, ?_, fun M1 hM1 => ?_⟩
    · show Wq (f_X10_most a s w M) _
      unfold f_X10_most
      rw [if_pos (by rw [has0 hT, within0]; exact q)]
      exact wq_some ⟨rfl, hC, Hi.refl _⟩
    · show Wq (f_X11_most a s w M1) _
      unfold f_X11_most f_X11_isKind
      rw [hn M1 hM1, if_pos (by
        rw [isInm_pred (by omega), isInm0 w]
        exact q.imp id .inl)]
      exact wq_some ⟨rfl, hM1, Lo.refl _⟩
  · rcases idx_cases a (n := (A.2.1 0).1) (by omega) with z | ⟨k, hk, rfl⟩
    · exact absurd (.inl z) q
    · have c0 : ¬ (f_X8_has (1 + 1) (nI k) M = 0 ∨ f_X10_within w 0 2 = 0) := by rw [has0 hT, within0]; exact q
      obtain ⟨w', _, hw, rfl⟩ := rng_in (x := w) 0 2 rfl rfl (by omega) (by omega) (fun z => q (.inr z))
      have cls : ∀ (r : Int32) (g : Mem → Int32 → Int32 → Option (Mem × Int32)), (∀ N, g N (nI (mgB A k 19)) (leftS A k (nI (mgB A k 19))) = some (N, r)) → Wq (b2 (f_X6_guestsLeavingMost 1 (nI k) M) fun M4 x5 => b2 (f_X6_leftByFeast 1 (nI k) x5 M4) fun M7 x8 => g M7 x5 x8) (fun p => p.2 = r ∧ InvC (A, I, P, tp, ft) p.1 ∧ Hi M p.1) := by
        intro r g hg
        refine wq_b2 (guestsLeavingMost_ok mkAt_1 hC.1 hL hk) ?_
        rintro M4 x ⟨hx, hO⟩
        simp only at hx hO
        subst hx
        refine wq_b2 (leftByFeast_ok mkAt_1 (hC.1.out hO (by omega)) hL hk _) ?_
        rintro M7 y ⟨hy, hO2⟩
        simp only at hy hO2
        subst hy
        have e := hg M7
        have hO3 := hO.trans hO2
        exact wq_eq e ⟨rfl, hC.scr hO3 (by omega), hO3.hi (by omega)⟩
      have mdl : ∀ (M1 : Mem) (r : Int32) (g : Mem → Int32 → Int32 → Option (Mem × Int32)), InvM (A, I, P, tp, ft) M1 → (∀ N, g N (nI (mgB A k 19)) (leftS A k (nI (mgB A k 19))) = some (N, r)) → Wq (b2 (f_X11_mostGuests (nI k) M1) fun M6 x7 => b2 (f_X11_leftOf (nI k) x7 M6) fun M8 x9 => g M8 x7 x9) (fun p => p.2 = r ∧ InvM (A, I, P, tp, ft) p.1 ∧ Lo M1 p.1) := by
        intro M1 r g hM1 hg
        have hR : RMm 156 A M1 := hM1.1
        refine wq_b2 (mostGuests_ok hR hL hk) ?_
        rintro M4 x ⟨hx, hO⟩
        simp only at hx hO
        subst hx
        refine wq_b2 (leftOf_ok (hR.out hO (by omega)) hL hk _) ?_
        rintro M7 y ⟨hy, hO2⟩
        simp only at hy hO2
        subst hy
        have e := hg M7
        have hO3 := hO.trans hO2
        exact wq_eq e ⟨rfl, (hM1.scr hO3).1, (hM1.scr hO3).2⟩
      have hnz : ∀ M1, InvM (A, I, P, tp, ft) M1 → ¬ f_X11_isKind (nI k) M1 = 0 := by
        intro M1 h1 z
        unfold f_X11_isKind at z
        rw [hn M1 h1, isInm_pred (by omega)] at z
        exact q (.inl z)
      have : w' = 0 ∨ w' = 1 ∨ w' = 2 := by omega
      rcases this with rfl | rfl | rfl
      · refine ⟨(A, I, P, tp, ft), nI (mgB A k 19), hG, ?_, fun M1 hM1 => ?_⟩
        · show Wq (f_X10_most (nI k) s (nI 0) M) _
          unfold f_X10_most
          rw [if_neg c0]
          refine wq_b2 (guestsLeavingMost_ok mkAt_1 hC.1 hL hk) ?_
          rintro M4 x ⟨hx, hO⟩
          rw [if_pos (show nI 0 = 0 from rfl)]
          exact wq_some ⟨hx, hC.scr hO (by omega), hO.hi (by omega)⟩
        · show Wq (f_X11_most (nI k) s (nI 0) M1) _
          unfold f_X11_most
          rw [if_neg (by
            rintro (z | z | z)
            · exact hnz M1 hM1 z
            · exact absurd z (by decide)
            · exact absurd z.1 (by decide))]
          exact mdl M1 _ _ hM1 (fun N => by rw [if_pos (show nI 0 = 0 from rfl)])
      · refine ⟨(A, I, P, tp, ft), leftS A k (nI (mgB A k 19)), hG, ?_, fun M1 hM1 => ?_⟩
        · show Wq (f_X10_most (nI k) s (nI 1) M) _
          unfold f_X10_most
          rw [if_neg c0]
          have := cls (leftS A k (nI (mgB A k 19))) (fun N x y => some (N, y)) (fun N => rfl)
          simp only [if_neg (show ¬ nI 1 = 0 by decide), if_pos (show nI 1 = 1 from rfl)]
          exact this
        · show Wq (f_X11_most (nI k) s (nI 1) M1) _
          unfold f_X11_most
          rw [if_neg (by
            rintro (z | z | z)
            · exact hnz M1 hM1 z
            · exact absurd z (by decide)
            · exact absurd z.1 (by decide))]
          exact mdl M1 _ _ hM1 (fun N => by rw [if_neg (show ¬ nI 1 = 0 by decide), if_pos (show nI 1 = 1 from rfl)])
      · by_cases hs : s < 1 ∨ (999 : Int32) < s
        · refine ⟨(A, I, P, tp, ft), -1, hG, ?_, fun M1 hM1 => ?_⟩
          · show Wq (f_X10_most (nI k) s (nI 2) M) _
            unfold f_X10_most
            rw [if_neg c0]
            have := cls (-1) (fun N x y => b1 (f_X10_feastsHeld y s) fun x10 => some (N, x10)) (fun N => by unfold f_X10_feastsHeld; rw [if_pos ((within0 _ _ _).2 hs), b1_some])
            simp only [if_neg (show ¬ nI 2 = 0 by decide), if_neg (show ¬ nI 2 = 1 by decide)]
            exact this
          · show Wq (f_X11_most (nI k) s (nI 2) M1) _
            unfold f_X11_most
            rw [if_pos (.inr (.inr ⟨rfl, (isInm0 _ _ _).2 hs⟩))]
            exact wq_some ⟨rfl, hM1, Lo.refl _⟩
        · obtain ⟨r, r1, r2⟩ := feastsHeld_eq (leftS A k (nI (mgB A k 19))) s hs
          refine ⟨(A, I, P, tp, ft), r, hG, ?_, fun M1 hM1 => ?_⟩
          · show Wq (f_X10_most (nI k) s (nI 2) M) _
            unfold f_X10_most
            rw [if_neg c0]
            have := cls r (fun N x y => b1 (f_X10_feastsHeld y s) fun x10 => some (N, x10)) (fun N => by show b1 (f_X10_feastsHeld _ s) _ = _; rw [r1, b1_some])
            simp only [if_neg (show ¬ nI 2 = 0 by decide), if_neg (show ¬ nI 2 = 1 by decide)]
            exact this
          · show Wq (f_X11_most (nI k) s (nI 2) M1) _
            unfold f_X11_most
            rw [if_neg (by
              rintro (z | z | z)
              · exact hnz M1 hM1 z
              · exact absurd z (by decide)
              · exact hs ((isInm0 _ _ _).1 z.2))]
            exact mdl M1 _ _ hM1 (fun N => by rw [if_neg (show ¬ nI 2 = 0 by decide), if_neg (show ¬ nI 2 = 1 by decide), r2, b1_some])
