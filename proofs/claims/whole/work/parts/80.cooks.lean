/-! ===== PURE PART: cooks, as sets ===== -/
theorem zS_mono {z : Nat → Nat} {S S' : Nat} (h : sbs S S') : ∀ n, zS z S n ≤ zS z S' n
  | 0 => Nat.le_refl _
  | n + 1 => by
    have := zS_mono (z := z) h n
    show zS z S n + (if S.testBit n then z n else 0) ≤ zS z S' n + (if S'.testBit n then z n else 0)
    cases hs : S.testBit n with
    | true => rw [h n hs]; omega
    | false =>
      simp only [Bool.false_eq_true, if_false]
      omega
def preW (z : Nat → Nat) : Nat → Nat
  | 0 => 0
  | k + 1 => preW z k + z k
/-- sets that go on from a set, below a place -/
def cnd (m set L C : Nat) : Prop := C < 2 ^ m ∧ ∀ i, L ≤ i → C.testBit i = set.testBit i
def fea (m : Nat) (nd : Nat → Nat → Nat) (st : Nat → Nat) (S : Nat) : Prop := ∀ k, k < 6 → zS (fun d => nd d k) S m ≤ st k
theorem cnd_le {wv : Nat → Nat} {m set L C : Nat} (h : cnd m set L C) (hs : ∀ i, i < L → set.testBit i = false) : ∀ k, zS wv C k ≤ zS wv set k + preW wv (min k L)
  | 0 => by
    show 0 ≤ _
    exact Nat.zero_le _
  | k + 1 => by
    have ih := cnd_le h hs (wv := wv) k
    show zS wv C k + (if C.testBit k then wv k else 0) ≤ zS wv set k + (if set.testBit k then wv k else 0) + preW wv (min (k + 1) L)
    rcases Nat.lt_or_ge k L with q | q
    · rw [hs k q, show min (k + 1) L = k + 1 from by omega]
      rw [show min k L = k from by omega] at ih
      show _ ≤ _ + (preW wv k + wv k)
      simp only [Bool.false_eq_true, if_false]
      split <;> omega
    · rw [h.2 k q, show min (k + 1) L = L from by omega]
      rw [show min k L = L from by omega] at ih
      omega
/-- what stands behind a search -/
def ckP (m : Nat) (wv : Nat → Nat) (nd : Nat → Nat → Nat) (st : Nat → Nat) (set L : Nat) (x y : Nat × Nat) : Prop := (y = x ∧ ∀ C, cnd m set L C → fea m nd st C → zS wv C m < x.1) ∨ (cnd m set L y.2 ∧ fea m nd st y.2 ∧ y.1 = zS wv y.2 m ∧ x.1 ≤ y.1 ∧ ∀ C, cnd m set L C → fea m nd st C → zS wv C m < y.1 ∨ (zS wv C m = y.1 ∧ y.2 ≤ C))
theorem bit_lt_of {x y i : Nat} (h1 : x.testBit i = false) (h2 : y.testBit i = true) (h3 : ∀ j, i < j → x.testBit j = y.testBit j) : x < y := by
  have e : x >>> (i + 1) = y >>> (i + 1) := by
    apply Nat.eq_of_testBit_eq
    intro j
    rw [Nat.testBit_shiftRight, Nat.testBit_shiftRight]
    exact h3 _ (by omega)
  rw [Nat.shiftRight_eq_div_pow, Nat.shiftRight_eq_div_pow, Nat.pow_succ, ← Nat.div_div_eq_div_mul, ← Nat.div_div_eq_div_mul] at e
  rw [Nat.testBit_eq_decide_div_mod_eq] at h1 h2
  have h1 : ¬ x / 2 ^ i % 2 = 1 := by simpa using h1
  have h2 : y / 2 ^ i % 2 = 1 := by simpa using h2
  rcases Nat.lt_or_ge x y with z | z
  · exact z
  · have := Nat.div_le_div_right (c := 2 ^ i) z
    omega
section CKS
variable {m : Nat} {wv : Nat → Nat} {nd : Nat → Nat → Nat} {st : Nat → Nat} {set L : Nat}
theorem cnd_split {C : Nat} (h : cnd m set (L + 1) C) (hs : set.testBit L = false) : (C.testBit L = true ∧ cnd m (set ||| 2 ^ L) L C) ∨ (C.testBit L = false ∧ cnd m set L C) := by
  cases hb : C.testBit L with
  | true =>
    left
    refine ⟨rfl, h.1, fun i hi => ?_⟩
    rw [Nat.testBit_or, Nat.testBit_two_pow]
    by_cases e : i = L
    · subst e; rw [hb]; simp
    · rw [h.2 i (by omega)]
      have : ¬ L = i := fun q => e q.symm
      simp [this]
  | false =>
    right
    refine ⟨rfl, h.1, fun i hi => ?_⟩
    by_cases e : i = L
    · subst e; rw [hb, hs]
    · exact h.2 i (by omega)
theorem cnd_up1 {C : Nat} (h : cnd m (set ||| 2 ^ L) L C) : cnd m set (L + 1) C := ⟨h.1, fun i hi => by
  rw [h.2 i (by omega), Nat.testBit_or, Nat.testBit_two_pow]
  have : ¬ L = i := by omega
  simp [this]⟩
theorem cnd_bit1 {C : Nat} (h : cnd m (set ||| 2 ^ L) L C) : C.testBit L = true := by
  rw [h.2 L (Nat.le_refl _), Nat.testBit_or, Nat.testBit_two_pow]; simp
theorem cnd_up0 {C : Nat} (h : cnd m set L C) : cnd m set (L + 1) C := ⟨h.1, fun i hi => h.2 i (by omega)⟩
theorem ck_join {x y w : Nat × Nat} (hs : set.testBit L = false) (h1 : ckP m wv nd st (set ||| 2 ^ L) L x y) (h2 : ckP m wv nd st set L y w) : ckP m wv nd st set (L + 1) x w := by
  have agree : ∀ C C', cnd m (set ||| 2 ^ L) L C → cnd m set L C' → C' < C := by
    intro C C' c1 c2
    refine bit_lt_of (i := L) ?_ (cnd_bit1 c1) (fun j hj => ?_)
    · rw [c2.2 L (Nat.le_refl _), hs]
    · rw [c2.2 j (by omega), (cnd_up1 c1).2 j (by omega)]
  rcases h1 with ⟨rfl, a⟩ | ⟨a1, a2, a3, a4, a5⟩
  · rcases h2 with ⟨rfl, b⟩ | ⟨b1, b2, b3, b4, b5⟩
    · left
      refine ⟨rfl, fun C c f => ?_⟩
      rcases cnd_split c hs with ⟨_, q⟩ | ⟨_, q⟩
      · exact a C q f
      · exact b C q f
    · right
      refine ⟨cnd_up0 b1, b2, b3, b4, fun C c f => ?_⟩
      rcases cnd_split c hs with ⟨_, q⟩ | ⟨_, q⟩
      · have := a C q f
        omega
      · exact b5 C q f
  · rcases h2 with ⟨rfl, b⟩ | ⟨b1, b2, b3, b4, b5⟩
    · right
      refine ⟨cnd_up1 a1, a2, a3, a4, fun C c f => ?_⟩
      rcases cnd_split c hs with ⟨_, q⟩ | ⟨_, q⟩
      · exact a5 C q f
      · exact .inl (b C q f)
    · right
      refine ⟨cnd_up0 b1, b2, b3, by omega, fun C c f => ?_⟩
      rcases cnd_split c hs with ⟨_, q⟩ | ⟨_, q⟩
      · have h3 := a5 C q f
        have h4 := agree C w.2 q b1
        omega
      · exact b5 C q f
theorem ck_skip {x w : Nat × Nat} (hs : set.testBit L = false) (hlo : ∀ i, i < L → set.testBit i = false) (hno : ¬ fea m nd st (set ||| 2 ^ L)) (h2 : ckP m wv nd st set L x w) : ckP m wv nd st set (L + 1) x w := by
  have none : ∀ C, cnd m (set ||| 2 ^ L) L C → ¬ fea m nd st C := by
    intro C c f
    apply hno
    intro k hk
    refine Nat.le_trans (zS_mono (fun i hi => ?_) m) (f k hk)
    rcases Nat.lt_or_ge i L with q | q
    · rw [Nat.testBit_or, hlo i q, Nat.testBit_two_pow] at hi
      have : ¬ L = i := by omega
      simp [this] at hi
    · rw [c.2 i q]; exact hi
  rcases h2 with ⟨rfl, b⟩ | ⟨b1, b2, b3, b4, b5⟩
  · left
    refine ⟨rfl, fun C c f => ?_⟩
    rcases cnd_split c hs with ⟨_, q⟩ | ⟨_, q⟩
    · exact absurd f (none C q)
    · exact b C q f
  · right
    refine ⟨cnd_up0 b1, b2, b3, b4, fun C c f => ?_⟩
    rcases cnd_split c hs with ⟨_, q⟩ | ⟨_, q⟩
    · exact absurd f (none C q)
    · exact b5 C q f
theorem or_eq_xor (hs : set.testBit L = false) : set ||| 2 ^ L = set ^^^ 2 ^ L := by
  apply Nat.eq_of_testBit_eq
  intro i
  rw [Nat.testBit_or, Nat.testBit_xor, Nat.testBit_two_pow]
  by_cases e : L = i
  · subst e; rw [hs]; simp
  · simp [e]
theorem zS_or (hs : set.testBit L = false) (hL : L < m) (z : Nat → Nat) : zS z (set ||| 2 ^ L) m = zS z set m + z L := by
  have h1 : (set ||| 2 ^ L).testBit L = true := by rw [Nat.testBit_or, Nat.testBit_two_pow]; simp
  rw [zS_clear h1 m hL, or_eq_xor hs]
  have : set ^^^ 2 ^ L ^^^ 2 ^ L = set := by
    apply Nat.eq_of_testBit_eq
    intro i
    simp only [Nat.testBit_xor]
    cases set.testBit i <;> cases (2 ^ L).testBit i <;> rfl
  rw [this]
end CKS
/-! the class -/
def ngN (T : Tb) (r k : Nat) : Nat → Nat
  | 0 => 0
  | j + 1 => if T.2 r (2 + 2 * j) = nI k then vN T r (3 + 2 * j) else ngN T r k j
def ndN (T : Tb) (r k : Nat) : Nat := ngN T r k (T.2 r 1).toInt.toNat
theorem dsh_v {nk : Nat} {T : Tb} (h : okDsh nk T) {r : Nat} (hr : r < T.1) : (T.2 r 0 = nI (vN T r 0) ∧ 1 ≤ vN T r 0 ∧ vN T r 0 ≤ 99) ∧ ∃ m, m ≤ 4 ∧ T.2 r 1 = nI m ∧ (T.2 r 1).toInt.toNat = m ∧ (∀ j, j < m → ∃ k, k < nk ∧ T.2 r (2 + 2 * j) = nI k ∧ T.2 r (3 + 2 * j) = nI (vN T r (3 + 2 * j)) ∧ vN T r (3 + 2 * j) ≤ 99) ∧ (∀ j j', j < j' → j' < m → T.2 r (2 + 2 * j) ≠ T.2 r (2 + 2 * j')) := by
  obtain ⟨m, v, h1, h2, h3, h4, h5, h6, h7⟩ := h r hr
  have e : vN T r 0 = v := by unfold vN; rw [h4, nI_toInt (by omega)]; rfl
  refine ⟨by rw [e]; exact ⟨h4, h2, h3⟩, m, h1, h5, by rw [h5, nI_toInt (by omega)]; rfl, fun j hj => ?_, h7⟩
  obtain ⟨k, s, q1, q2, q3, q4, q5⟩ := h6 j hj
  have e2 : vN T r (3 + 2 * j) = s := by unfold vN; rw [q5, nI_toInt (by omega)]; rfl
  exact ⟨k, q1, q4, by rw [e2]; exact q5, by omega⟩
theorem need_nI {nk : Nat} {T : Tb} (h : okDsh nk T) {r : Nat} (hr : r < T.1) (k : Nat) : needD T r k = nI (ndN T r k) ∧ ndN T r k ≤ 99 := by
  obtain ⟨_, m, m1, m2, m3, m4, m5⟩ := dsh_v h hr
  unfold needD ndN
  rw [m3]
  have key : ∀ j, j ≤ m → needGo T r k j = nI (ngN T r k j) ∧ ngN T r k j ≤ 99 := by
    intro j
    induction j with
    | zero => intro _; exact ⟨rfl, Nat.zero_le _⟩
    | succ j ih =>
      intro hj
      obtain ⟨k', q1, q2, q3, q4⟩ := m4 j (by omega)
      show (if T.2 r (2 + 2 * j) = nI k then T.2 r (3 + 2 * j) else needGo T r k j) = nI (if T.2 r (2 + 2 * j) = nI k then vN T r (3 + 2 * j) else ngN T r k j) ∧ (if T.2 r (2 + 2 * j) = nI k then vN T r (3 + 2 * j) else ngN T r k j) ≤ 99
      by_cases e : T.2 r (2 + 2 * j) = nI k
      · rw [if_pos e, if_pos e]; exact ⟨q3, q4⟩
      · rw [if_neg e, if_neg e]; exact ih (by omega)
  exact key m (Nat.le_refl _)
theorem la_154 : la 154 = some 6 := by decide +kernel
theorem zS_le {z : Nat → Nat} {b S : Nat} : ∀ n, (∀ i, i < n → z i ≤ b) → zS z S n ≤ n * b
  | 0, _ => by show 0 ≤ _; exact Nat.zero_le _
  | n + 1, h => by
    have ih := zS_le (S := S) n (fun i hi => h i (by omega))
    have h2 := h n (by omega)
    show zS z S n + (if S.testBit n then z n else 0) ≤ (n + 1) * b
    rw [Nat.add_mul, Nat.one_mul]
    split <;> omega
section CKC
variable {T : Tb} {M : Mem} {nk a1 : Nat}
theorem canCook_ok (hT : RR a1 12 7 (dishC T) M) (hok : okDsh nk T) {d : Nat} (hd : d < T.1) {s : Nat → Nat} (hs : ∀ k, k < 6 → M 154 k = nI (s k) ∧ s k ≤ 2000) : ∃ x, f_X0_canCook a1 (nI d) M = some x ∧ (x = 0 ↔ ¬ ∀ k, k < 6 → ndN T d k ≤ s k) := by
  unfold f_X0_canCook
  have e := lp_first (body := fun i => w_X0_canCook_2 a1 (nI d) M i) (fun k => decide (s k < ndN T d k)) (fun r => match r with | some _ => Sum.inl () | none => Sum.inr ()) 6 (by
    intro k hk hp
    have hp : ¬ s k < ndN T d k := by simpa using hp
    have e1 : (1 : Int32) + nI k = nI (1 + k) := nI_add 1 k
    obtain ⟨n1, n2⟩ := need_nI hok hd k
    have hat : f_X8_at a1 (nI d) (nI (1 + k)) M = some (nI (ndN T d k)) := by
      rw [at_in hT (r := d) (c := 1 + k) hd (by omega), ← n1]
      show some (if 1 + k = 0 then T.2 d 0 else needD T d (1 + k - 1)) = _
      rw [if_neg (by omega), show 1 + k - 1 = k from by omega]
    unfold w_X0_canCook_2
    try simp only
    rw [if_neg (by
      intro z
      have z : nI 6 ≤ nI k := z
      rw [nI_le_iff (by omega) (by omega)] at z; omega), e1, hat, b1_some, rd_nI la_154 hk (by omega), b1_some, (hs k hk).1, if_pos ((nI_le_iff (by omega) (by have := (hs k hk).2; omega)).2 (by omega)), nI_inc]) (by
    intro k hk hp
    have hp : s k < ndN T d k := by simpa using hp
    have e1 : (1 : Int32) + nI k = nI (1 + k) := nI_add 1 k
    obtain ⟨n1, n2⟩ := need_nI hok hd k
    have hat : f_X8_at a1 (nI d) (nI (1 + k)) M = some (nI (ndN T d k)) := by
      rw [at_in hT (r := d) (c := 1 + k) hd (by omega), ← n1]
      show some (if 1 + k = 0 then T.2 d 0 else needD T d (1 + k - 1)) = _
      rw [if_neg (by omega), show 1 + k - 1 = k from by omega]
    unfold w_X0_canCook_2
    try simp only
    rw [if_neg (by
      intro z
      have z : nI 6 ≤ nI k := z
      rw [nI_le_iff (by omega) (by omega)] at z; omega), e1, hat, b1_some, rd_nI la_154 hk (by omega), b1_some, (hs k hk).1, if_neg (by rw [nI_le_iff (by omega) (by have := (hs k hk).2; omega)]; omega)]) (by
    unfold w_X0_canCook_2
    try simp only
    rw [if_pos (by decide)]) (by omega)
  rw [e, b1_some]
  cases hf : firstF (fun k => decide (s k < ndN T d k)) 0 6 with
  | none =>
    refine ⟨1, rfl, fun z => absurd z (by decide), fun z => absurd (fun k hk => ?_) z⟩
    have := firstF_none hf k (Nat.zero_le _) (by omega)
    have this : ¬ s k < ndN T d k := by simpa using this
    omega
  | some j =>
    refine ⟨0, rfl, fun _ z => ?_, fun _ => rfl⟩
    obtain ⟨_, h2, h3⟩ := firstF_lt hf
    have h3 : s j < ndN T d j := by simpa using h3
    have := z j (by omega)
    omega
theorem use_ok (hT : RR a1 12 7 (dishC T) M) (ha : a1 + 1 < 151) (hok : okDsh nk T) {d : Nat} (hd : d < T.1) (t : Int32) : Wq (f_X0_use a1 (nI d) t M) (fun M' => Out 154 155 M M' ∧ ∀ k, k < 6 → M' 154 k = M 154 k - (t * nI (ndN T d k))) := by
  unfold f_X0_use
  refine wq_b1 (P := fun M' => Out 154 155 M M' ∧ ∀ k, k < 6 → M' 154 k = M 154 k - (t * nI (ndN T d k))) (lp_to (fun k s => s.1 = nI k ∧ Out 154 155 M s.2 ∧ ∀ j, j < 6 → s.2 154 j = if j < k then M 154 j - (t * nI (ndN T d j)) else M 154 j) 6 ?_ ?_ _ ⟨rfl, Out.refl _ _ _, fun j _ => by rw [if_neg (Nat.not_lt_zero _)]⟩ (by omega)) ?_
  · rintro k ⟨i, Q⟩ hk ⟨hi, hO, hv⟩
    simp only at hi hO hv
    subst hi
    have e1 : (1 : Int32) + nI k = nI (1 + k) := nI_add 1 k
    obtain ⟨n1, n2⟩ := need_nI hok hd k
    have hTQ := hT.out hO (by omega)
    have hat : f_X8_at a1 (nI d) (nI (1 + k)) Q = some (nI (ndN T d k)) := by
      rw [at_in hTQ (r := d) (c := 1 + k) hd (by omega), ← n1]
      show some (if 1 + k = 0 then T.2 d 0 else needD T d (1 + k - 1)) = _
      rw [if_neg (by omega), show 1 + k - 1 = k from by omega]
    unfold w_X0_use_3
    try simp only
    rw [if_neg (by
      intro z
      have z : nI 6 ≤ nI k := z
      rw [nI_le_iff (by omega) (by omega)] at z; omega), rd_nI la_154 hk (by omega), b1_some, e1, hat, b1_some, wr_nI la_154 hk (by omega), b1_some, nI_inc]
    refine ⟨_, rfl, rfl, hO.up (by omega) (by omega), fun j hj => ?_⟩
    try simp only
    by_cases e : j = k
    · rw [e, up2_at, if_pos (by omega), hv k hk, if_neg (by omega)]
    · rw [up2_slot _ _ _ e, hv j hj]
      by_cases q : j < k
      · rw [if_pos q, if_pos (by omega)]
      · rw [if_neg q, if_neg (by omega)]
  · rintro ⟨i, Q⟩ ⟨hi, hO, hv⟩
    simp only at hi hO hv
    subst hi
    unfold w_X0_use_3
    try simp only
    rw [if_pos (by decide)]
    exact ⟨_, rfl, hO, fun k hk => by rw [hv k hk, if_pos hk]⟩
  · rintro Q h
    exact wq_some h
theorem ck_run {M0 : Mem} (hT : RR a1 12 7 (dishC T) M0) (ha : a1 + 1 < 151) (hok : okDsh nk T) {st : Nat → Nat} (hst : ∀ k, k < 6 → st k ≤ 1500) : ∀ (L g set mw bd : Nat) (M : Mem), L < g → L ≤ T.1 → Out 151 155 M0 M → (∀ i, i < L → set.testBit i = false) → set < 2 ^ T.1 → fea T.1 (ndN T) st set → M 151 3 = nI mw → M 151 4 = nI bd → mw ≤ 10000 → (∀ k, k < 6 → M 154 k = nI (st k - zS (fun d => ndN T d k) set T.1)) → Wq (gr_X0_cookFrom g a1 (nI L - 1) (nI (preW (fun d => vN T d 0) L)) (nI (zS (fun d => vN T d 0) set T.1)) (nI set) M) (fun M' => Out 151 155 M0 M' ∧ (∀ k, k < 6 → M' 154 k = M 154 k) ∧ ∃ mw' bd', M' 151 3 = nI mw' ∧ M' 151 4 = nI bd' ∧ mw' ≤ 10000 ∧ ckP T.1 (fun d => vN T d 0) (ndN T) st set L (mw, bd) (mw', bd'))
  | L, 0, set, mw, bd, M, h, _, _, _, _, _, _, _, _, _ => absurd h (Nat.not_lt_zero _)
  | L, g + 1, set, mw, bd, M, hg, hL, hO, hlo, hset, hfe, h3, h4, hmw, hstk => by
    have hT12 : T.1 ≤ 12 := hT.le
    have hpw : 2 ^ T.1 ≤ 4096 := pow2_le hT12
    have hwv : ∀ d, d < T.1 → vN T d 0 ≤ 99 := fun d hd => (dsh_v hok hd).1.2.2
    have hW : ∀ S, zS (fun d => vN T d 0) S T.1 ≤ 1188 := fun S => by
      have := zS_le (S := S) (b := 99) T.1 hwv
      omega
    have hpre : ∀ k, k ≤ T.1 → preW (fun d => vN T d 0) k ≤ k * 99 := by
      intro k
      induction k with
      | zero => intro _; exact Nat.zero_le _
      | succ k ih =>
        intro hk
        have h1 := ih (by omega)
        have h2 := hwv k (by omega)
        show preW (fun d => vN T d 0) k + vN T k 0 ≤ (k + 1) * 99
        omega
    have hpL := hpre L hL
    have hw0 := hW set
    show Wq (F_X0_cookFrom (gr_X0_cookFrom g) a1 (nI L - 1) (nI (preW (fun d => vN T d 0) L)) (nI (zS (fun d => vN T d 0) set T.1)) (nI set) M) _
    unfold F_X0_cookFrom
    rw [h3, nI_add]
    by_cases hpr : mw ≤ zS (fun d => vN T d 0) set T.1 + preW (fun d => vN T d 0) L
    · rw [if_pos ((nI_le_iff (by omega) (by omega)).2 hpr)]
      cases L with
      | zero =>
        rw [if_pos (.inl (by decide)), lt_eq, lt_eq]
        refine wq_some ⟨(hO.up (by omega) (by omega)).up (by omega) (by omega), fun k _ => by rw [up2_cell _ _ _ (by omega), up2_cell _ _ _ (by omega)], zS (fun d => vN T d 0) set T.1, set, by rw [up2_slot _ _ _ (by omega), up2_at], up2_at _ _ _ _, by omega, .inr ⟨⟨hset, fun i _ => rfl⟩, hfe, rfl, by
          have : preW (fun d => vN T d 0) 0 = 0 := rfl
          simp only; omega, fun C c f => ?_⟩⟩
        have : C = set := Nat.eq_of_testBit_eq (fun i => c.2 i (Nat.zero_le _))
        rw [this]
        exact .inr ⟨rfl, Nat.le_refl _⟩
      | succ L =>
        have hLT : L < T.1 := by omega
        have eL : nI (L + 1) - 1 = nI L := nI_dec' (by omega)
        obtain ⟨⟨d1, d2, d3⟩, _⟩ := dsh_v hok hLT
        have hTM := hT.out hO (by omega)
        have hat : f_X8_at a1 (nI L) 0 M = some (nI (vN T L 0)) := by
          rw [at_lit hTM 0 rfl (r := L) hLT (by omega), ← d1]
          rfl
        have hsL : set.testBit L = false := hlo L (by omega)
        have hlo' : ∀ i, i < L → set.testBit i = false := fun i hi => hlo i (by omega)
        have hnd : ∀ k, zS (fun d => ndN T d k) (set ||| 2 ^ L) T.1 = zS (fun d => ndN T d k) set T.1 + ndN T L k := fun k => zS_or hsL hLT _
        have epre : nI (preW (fun d => vN T d 0) (L + 1)) - nI (vN T L 0) = nI (preW (fun d => vN T d 0) L) := by
          show nI (preW (fun d => vN T d 0) L + vN T L 0) - nI (vN T L 0) = _
          rw [nI_sub (by omega)]; congr 1; omega
        obtain ⟨x8, c0, c1⟩ := canCook_ok hTM hok hLT (s := fun k => st k - zS (fun d => ndN T d k) set T.1) (fun k hk => ⟨hstk k hk, by have := hst k hk; show st k - _ ≤ 2000; omega⟩)
        have hcan : (∀ k, k < 6 → ndN T L k ≤ st k - zS (fun d => ndN T d k) set T.1) ↔ fea T.1 (ndN T) st (set ||| 2 ^ L) := by
          constructor
          · intro h k hk
            have h1 := h k hk
            have h2 := hfe k hk
            rw [hnd k]; omega
          · intro h k hk
            have h1 := h k hk
            rw [hnd k] at h1; omega
        rw [eL, if_neg (by
          rintro (z | z)
          · exact nI_nneg (by omega) z
          · apply z
            show nI L < nI 12
            rw [nI_lt_iff (by omega) (by omega)]; omega), hat, b1_some, c0, b1_some, epre]
        by_cases hx : x8 = 0
        · rw [if_pos hx]
          have hno : ¬ fea T.1 (ndN T) st (set ||| 2 ^ L) := fun y => (c1.1 hx) (hcan.2 y)
          refine wq_b1 (ck_run hT ha hok hst L g set mw bd M (by omega) (by omega) hO hlo' hset hfe h3 h4 hmw hstk) ?_
          rintro M10 ⟨q1, q2, mw', bd', q3, q4, q5, q6⟩
          exact wq_some ⟨q1, q2, mw', bd', q3, q4, q5, ck_skip hsL hlo' hno q6⟩
        · rw [if_neg hx]
          have hyes : fea T.1 (ndN T) st (set ||| 2 ^ L) := by
            apply hcan.1
            apply Classical.byContradiction
            intro y
            exact hx (c1.2 y)
          refine wq_b1 (use_ok hTM ha hok hLT 1) ?_
          rintro M11 ⟨u1, u2⟩
          have hO11 : Out 151 155 M0 M11 := hO.trans (u1.wide (by omega) (by omega))
          have e151 : M11 151 = M 151 := u1 151 (by omega)
          have eW : nI (zS (fun d => vN T d 0) set T.1) + nI (vN T L 0) = nI (zS (fun d => vN T d 0) (set ||| 2 ^ L) T.1) := by rw [nI_add, zS_or hsL hLT]
          have eset : nI set ||| ((1 : Int32) <<< (nI L &&& 31)) = nI (set ||| 2 ^ L) := by rw [nI_shl L (by omega), nI_or]
          have hlt2 : set ||| 2 ^ L < 2 ^ T.1 := Nat.or_lt_two_pow hset (Nat.pow_lt_pow_right (by omega) hLT)
          have hlo2 : ∀ i, i < L → (set ||| 2 ^ L).testBit i = false := by
            intro i hi
            rw [Nat.testBit_or, hlo' i hi, Nat.testBit_two_pow]
            have : ¬ L = i := by omega
            simp [this]
          have hstk11 : ∀ k, k < 6 → M11 154 k = nI (st k - zS (fun d => ndN T d k) (set ||| 2 ^ L) T.1) := by
            intro k hk
            have h1 := hyes k hk
            rw [hnd k] at h1 ⊢
            rw [u2 k hk, hstk k hk, Int32.one_mul, nI_sub (by omega)]
            congr 1; omega
          rw [eW, eset]
          refine wq_b1 (ck_run hT ha hok hst L g (set ||| 2 ^ L) mw bd M11 (by omega) (by omega) hO11 hlo2 hlt2 hyes (by rw [e151]; exact h3) (by rw [e151]; exact h4) hmw hstk11) ?_
          rintro M12 ⟨q1, q2, mw1, bd1, q3, q4, q5, q6⟩
          refine wq_b1 (use_ok (hT.out q1 (by omega)) ha hok hLT (-1)) ?_
          rintro M13 ⟨w1, w2⟩
          have e151' : M13 151 = M12 151 := w1 151 (by omega)
          have back : ∀ k, k < 6 → M13 154 k = M 154 k := by
            intro k hk
            have h1 := hyes k hk
            rw [hnd k] at h1
            have h2 := hstk11 k hk
            rw [hnd k] at h2
            rw [w2 k hk, q2 k hk, h2, hstk k hk, ← Int32.neg_eq_neg_one_mul, Int32.sub_neg, nI_add]
            congr 1; omega
          refine wq_b1 (ck_run hT ha hok hst L g set mw1 bd1 M13 (by omega) (by omega) (q1.trans (w1.wide (by omega) (by omega))) hlo' hset hfe (by rw [e151']; exact q3) (by rw [e151']; exact q4) q5 (fun k hk => by rw [back k hk]; exact hstk k hk)) ?_
          rintro M14 ⟨v1, v2, mw', bd', v3, v4, v5, v6⟩
          exact wq_some ⟨v1, fun k hk => by rw [v2 k hk]; exact back k hk, mw', bd', v3, v4, v5, ck_join hsL q6 v6⟩
    · rw [if_neg (fun z => hpr ((nI_le_iff (by omega) (by omega)).1 z))]
      refine wq_some ⟨hO, fun _ _ => rfl, mw, bd, h3, h4, hmw, .inl ⟨rfl, fun C c f => ?_⟩⟩
      have := cnd_le (wv := fun d => vN T d 0) c hlo T.1
      rw [Nat.min_eq_right hL] at this
      simp only
      omega
end CKC
