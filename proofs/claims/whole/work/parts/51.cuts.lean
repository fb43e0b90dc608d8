/-! ===== PURE PART: cuts ===== -/
theorem InvM.scr2 {A : AS} {r : Option AS × Ps × Sk × (Int32 × Int32)} {lo hi : Nat} {M M' : Mem} (h : InvM (A, r) M) (hO : Out lo hi M M') (h1 : 164 ≤ lo) (h2 : hi ≤ 169) : InvM (A, r) M' ∧ Lo M M' := by
  obtain ⟨I, P, tp, ft⟩ := r
  refine ⟨?_, hO.lo (by omega) h2⟩
  obtain ⟨k1, k2, k3, k4, k5, k6⟩ := h
  refine ⟨k1.out hO (by omega), ?_, ?_, ?_, ?_, ?_⟩
  · rw [hO 155 (by omega)]
    exact ⟨k2.1, fun J hJ => ⟨(k2.2 J hJ).1, (k2.2 J hJ).2.out hO (by omega)⟩⟩
  · unfold RPm RSn at k3 ⊢
    rw [hO 155 (by omega), hO 158 (by omega)]
    exact k3
  · rw [hO 155 (by omega), hO 163 (by omega)]; exact k4
  · rw [hO 155 (by omega)]; exact k5
  · rw [hO 155 (by omega)]; exact k6
def wI (f : Nat → Nat) (L V : Nat) (l : Nat) : Nat := if h : 1 ≤ L ∧ L ≤ l then max (f l) (V + wI f L V (l - L)) else f l
termination_by l
decreasing_by omega
def wC (n : Nat) (L V : Nat → Nat) : Nat → Nat → Nat
  | 0 => fun _ => 0
  | q + 1 => wI (wC n L V q) (L (n - 1 - q)) (V (n - 1 - q))
def wW (n : Nat) (L V : Nat → Nat) (p l : Nat) : Nat := wC n L V (n - p) l
theorem wI_le {f : Nat → Nat} {L V : Nat} (hL : 1 ≤ L) (hV : V ≤ 99) (hf : ∀ l, f l ≤ 99 * l) : ∀ l, wI f L V l ≤ 99 * l := by
  intro l
  induction l using Nat.strongRecOn with
  | _ l ih =>
    rw [wI]
    by_cases h : 1 ≤ L ∧ L ≤ l
    · rw [dif_pos h]
      have := ih (l - L) (by omega)
      have := hf l
      apply Nat.max_le.2
      exact ⟨by omega, by omega⟩
    · rw [dif_neg h]; exact hf l
section CUT
variable {n : Nat} {L V : Nat → Nat}
theorem wC_le (hL : ∀ p, p < n → 1 ≤ L p) (hV : ∀ p, p < n → V p ≤ 99) : ∀ q, q ≤ n → ∀ l, wC n L V q l ≤ 99 * l
  | 0, _, l => Nat.zero_le _
  | q + 1, h, l => wI_le (hL _ (by omega)) (hV _ (by omega)) (wC_le hL hV q (by omega)) l
theorem wW_le (hL : ∀ p, p < n → 1 ≤ L p) (hV : ∀ p, p < n → V p ≤ 99) (p l : Nat) : wW n L V p l ≤ 99 * l := wC_le hL hV _ (Nat.sub_le _ _) l
theorem wW_n (l : Nat) : wW n L V n l = 0 := by unfold wW; rw [Nat.sub_self]; rfl
theorem wW_step (hL : ∀ p, p < n → 1 ≤ L p) {p : Nat} (hp : p < n) (l : Nat) : wW n L V p l = if L p ≤ l then max (wW n L V (p + 1) l) (V p + wW n L V p (l - L p)) else wW n L V (p + 1) l := by
  unfold wW
  obtain ⟨q, hq⟩ : ∃ q, n - p = q + 1 := ⟨n - p - 1, by omega⟩
  have e1 : n - (p + 1) = q := by omega
  have e2 : n - 1 - q = p := by omega
  rw [hq, e1]
  show wI (wC n L V q) (L (n - 1 - q)) (V (n - 1 - q)) l = if L p ≤ l then max (wC n L V q l) (V p + wI (wC n L V q) (L (n - 1 - q)) (V (n - 1 - q)) (l - L p)) else wC n L V q l
  rw [e2, wI]
  have := hL p hp
  by_cases h : L p ≤ l
  · rw [dif_pos ⟨this, h⟩, if_pos h]
  · rw [dif_neg (fun z => h z.2), if_neg h]
theorem nI_max {a b : Nat} (ha : a < 2147483648) (hb : b < 2147483648) : f_J9_max_7cf53 (nI a) (nI b) = nI (max a b) := by
  unfold f_J9_max_7cf53
  by_cases h : a < b
  · rw [if_pos ((nI_lt_iff ha hb).2 h), Nat.max_eq_right (by omega)]
  · rw [if_neg (fun z => h ((nI_lt_iff ha hb).1 z)), Nat.max_eq_left (by omega)]
theorem nI_grt {a b : Nat} (ha : a < 2147483648) (hb : b < 2147483648) : f_X11_greater (nI a) (nI b) = nI (max a b) := by
  unfold f_X11_greater
  rw [lt_eq]
  by_cases h : a ≤ b
  · rw [if_pos ((nI_le_iff ha hb).2 h), Nat.max_eq_right h]
  · rw [if_neg (fun z => h ((nI_le_iff ha hb).1 z)), Nat.max_eq_left (by omega)]
theorem nI_min {a b : Nat} (ha : a < 2147483648) (hb : b < 2147483648) : f_J9_min_7cf53 (nI a) (nI b) = nI (min a b) := by
  unfold f_J9_min_7cf53
  by_cases h : b < a
  · rw [if_pos ((nI_lt_iff hb ha).2 h), Nat.min_eq_right (by omega)]
  · rw [if_neg (fun z => h ((nI_lt_iff hb ha).1 z)), Nat.min_eq_left (by omega)]
/-! pieces as numbers -/
def Pcs (T : Tb) (n : Nat) (L V : Nat → Nat) : Prop := T.1 = n ∧ n ≤ 6 ∧ (∀ p, p < n → 1 ≤ L p) ∧ (∀ p, p < n → L p ≤ 30) ∧ (∀ p, p < n → V p ≤ 99) ∧ (∀ p, p < n → T.2 p 0 = nI (L p)) ∧ ∀ p, p < n → T.2 p 1 = nI (V p)
theorem Pcs.cnt {T : Tb} (h : Pcs T n L V) : T.1 = n := h.1
theorem Pcs.n6 {T : Tb} (h : Pcs T n L V) : n ≤ 6 := h.2.1
theorem Pcs.l1 {T : Tb} (h : Pcs T n L V) : ∀ p, p < n → 1 ≤ L p := h.2.2.1
theorem Pcs.l2 {T : Tb} (h : Pcs T n L V) : ∀ p, p < n → L p ≤ 30 := h.2.2.2.1
theorem Pcs.v1 {T : Tb} (h : Pcs T n L V) : ∀ p, p < n → V p ≤ 99 := h.2.2.2.2.1
theorem Pcs.el {T : Tb} (h : Pcs T n L V) : ∀ p, p < n → T.2 p 0 = nI (L p) := h.2.2.2.2.2.1
theorem Pcs.ev {T : Tb} (h : Pcs T n L V) : ∀ p, p < n → T.2 p 1 = nI (V p) := h.2.2.2.2.2.2
theorem pcs_of {T : Tb} (h : okPie T) (h6 : T.1 ≤ 6) : ∃ L V, Pcs T T.1 L V := by
  refine ⟨fun p => (T.2 p 0).toInt.toNat, fun p => (T.2 p 1).toInt.toNat, rfl, h6, ?_, ?_, ?_, ?_, ?_⟩
  all_goals
    intro p hp
    obtain ⟨a, b, h1, h2, h3, h4, h5, h6⟩ := h p hp
    simp only
    first | rw [h5, nI_toInt (by omega)] | rw [h6, nI_toInt (by omega)]
    first | omega | rfl
theorem rr_88 : ∀ p, p < 7 → rr (79 + 9) (nI p) = some (89 + p) := by decide +kernel
theorem la_89 : ∀ p, p < 7 → la (89 + p) = some 100 := by decide +kernel
variable {T : Tb} {M : Mem}
theorem worthWith_ok (hP : Pcs T n L V) (hT : RR (79 + 1) 6 2 T M) {p l : Nat} (hp : p < n) (hl : l ≤ 99) (hr : ∀ l', l' < l → M (89 + p) l' = nI (wW n L V p l')) : f_X5_worthWith 79 (nI p) (nI l) M = some (if L p ≤ l then nI (V p + wW n L V p (l - L p)) else -1) := by
  have h6 := hP.n6
  have hc := hP.cnt
  have l1 := hP.l1 p hp
  have l2 := hP.l2 p hp
  unfold f_X5_worthWith
  rw [at_lit hT 0 rfl (by omega) (by omega), b1_some, hP.el p hp]
  by_cases h : L p ≤ l
  · rw [nI_sub h, if_neg (by
      rintro (z | z | z | z)
      · exact nI_nneg (by omega) z
      · have z : nI 6 < nI p := z
        rw [nI_lt_iff (by omega) (by omega)] at z; omega
      · exact nI_nneg (by omega) z
      · exact z ((nI_le_iff (b := 99) (by omega) (by omega)).2 (by omega))), at_lit hT 1 rfl (by omega) (by omega), b1_some, hP.ev p hp, rr_88 p (by omega), b1_some, rd_nI (la_89 p (by omega)) (by omega) (by omega), b1_some, hr _ (by omega), nI_add, if_pos h]
  · rw [if_pos, if_neg h]
    right; right; left
    rw [Int32.lt_iff_toInt_lt, Int32.toInt_sub, nI_toInt (by omega), nI_toInt (by omega), toInt_0]
    rw [Int.bmod_eq_of_le (by omega) (by omega)]
    omega
theorem sub1 (x : Int32) : x + (-1) = x - 1 := by rw [Int32.sub_eq_add_neg]
theorem weighBolt_ok (hP : Pcs T n L V) (hT : RR (79 + 1) 6 2 T M) {a : Nat} (ha : a ≤ 99) : Wq (f_X5_weighBolt 79 (nI a) M) (fun M' => Out 88 97 M M' ∧ ∀ p l, p ≤ n → l ≤ a → M' (89 + p) l = nI (wW n L V p l)) := by
  have h6 := hP.n6
  have hc := hP.cnt
  have bW : ∀ p l, l ≤ 99 → wW n L V p l < 10000 := fun p l hl => by have := wW_le hP.l1 hP.v1 p l; omega
  unfold f_X5_weighBolt
  have e0 : M (79 + 1) 3 = nI n := by rw [hT.cnt, hc]
  have e1 : f_J9_min_7cf53 (nI n) 6 = nI n := by rw [show (6 : Int32) = nI 6 from rfl, nI_min (by omega) (by omega), Nat.min_eq_left h6]
  rw [lt_eq, e0, e1]
  refine wq_b1 (P := fun M' => Out 88 97 M M' ∧ ∀ p l, p ≤ n → l ≤ a → M' (89 + p) l = nI (wW n L V p l)) (lp_to (fun k s => s.1 = nI k ∧ Out 88 97 M s.2 ∧ ∀ p l, p ≤ n → l < k → s.2 (89 + p) l = nI (wW n L V p l)) (a + 1) ?_ ?_ _ ⟨rfl, Out.refl _ _ _, fun p l _ h => absurd h (Nat.not_lt_zero _)⟩ (by omega)) (fun r hr => wq_some hr)
  · rintro k ⟨i, K⟩ hk ⟨hi, hO, hW⟩
    simp only at hi hO hW
    subst hi
    unfold w_X5_weighBolt_15
    simp only
    rw [if_neg (by
      rintro (z | z)
      · rw [nI_lt_iff (by omega) (by omega)] at z; omega
      · have z : nI 99 < nI k := z
        rw [nI_lt_iff (by omega) (by omega)] at z; omega), rr_88 n (by omega), b1_some, wr_nI (la_89 n (by omega)) (by omega) (by omega), b1_some]
    have key : Wq (lp (fun s => w_X5_weighBolt_40 79 (nI k) s.1 s.2) FU (nI n - 1, up2 K (89 + n) k 0)) (fun M' => Out 88 97 M M' ∧ ∀ p l, p ≤ n → l < k + 1 → M' (89 + p) l = nI (wW n L V p l)) := by
      refine lp_to (fun j s => s.1 = nI (n - j) - 1 ∧ Out 88 97 M s.2 ∧ (∀ p l, p ≤ n → l < k → s.2 (89 + p) l = nI (wW n L V p l)) ∧ ∀ p, n - j ≤ p → p ≤ n → s.2 (89 + p) k = nI (wW n L V p k)) n ?_ ?_ _ ⟨rfl, hO.up (by omega) (by omega), ?_, ?_⟩ (by omega)
      · rintro j ⟨i, K'⟩ hj ⟨hi, hO, hW, hU⟩
        simp only at hi hO hW hU
        rw [nI_dec' (by omega)] at hi
        obtain ⟨p, hp, hpn⟩ : ∃ p, n - j - 1 = p ∧ n - j = p + 1 := ⟨n - j - 1, rfl, by omega⟩
        rw [hp] at hi
        subst hi
        have hpn' : p < n := by omega
        unfold w_X5_weighBolt_40
        simp only
        have hT' := hT.out hO (by omega)
        rw [if_neg (nI_nneg (by omega)), nI_inc, rr_88 (p + 1) (by omega), b1_some, rd_nI (la_89 (p + 1) (by omega)) (by omega) (by omega), b1_some, rr_88 p (by omega), b1_some, worthWith_ok hP hT' hpn' (by omega) (fun l' hl' => hW p l' (by omega) hl'), b1_some, wr_nI (la_89 p (by omega)) (by omega) (by omega), b1_some, hU (p + 1) (by omega) (by omega)]
        have ev : f_J9_max_7cf53 (nI (wW n L V (p + 1) k)) (if L p ≤ k then nI (V p + wW n L V p (k - L p)) else -1) = nI (wW n L V p k) := by
          rw [wW_step hP.l1 hpn' k]
          have b1' := bW (p + 1) k (by omega)
          have b2' := bW p (k - L p) (by omega)
          have b3' := hP.v1 p hpn'
          by_cases h : L p ≤ k
          · rw [if_pos h, if_pos h, nI_max (by omega) (by omega)]
          · rw [if_neg h, if_neg h]
            unfold f_J9_max_7cf53
            rw [if_neg]
            rw [Int32.lt_iff_toInt_lt, nI_toInt (by omega), toInt_m1]; omega
        rw [ev]
        refine ⟨_, rfl, ?_, hO.up (by omega) (by omega), ?_, ?_⟩
        · show nI p + (-1) = nI (n - (j + 1)) - 1
          rw [show n - (j + 1) = p from by omega, sub1]
        · intro p' l hp' hl
          show up2 K' (89 + p) k _ (89 + p') l = _
          rw [up2_eq, if_neg (by omega)]
          exact hW p' l hp' hl
        · intro p' h1 h2
          show up2 K' (89 + p) k _ (89 + p') k = _
          rw [up2_eq]
          by_cases e : p' = p
          · subst e; rw [if_pos ⟨rfl, rfl⟩]
          · rw [if_neg (by omega)]; exact hU p' (by omega) h2
      · rintro ⟨i, K'⟩ ⟨hi, hO, hW, hU⟩
        simp only at hi hO hW hU
        rw [Nat.sub_self] at hi
        subst hi
        unfold w_X5_weighBolt_40
        simp only
        rw [if_pos (by decide)]
        refine ⟨_, rfl, hO, ?_⟩
        intro p l hp hl
        by_cases e : l = k
        · subst e; exact hU p (by omega) hp
        · exact hW p l hp (by omega)
      · intro p l hp hl
        show up2 K (89 + n) k 0 (89 + p) l = _
        rw [up2_eq, if_neg (by omega)]
        exact hW p l hp hl
      · intro p h1 h2
        have : p = n := by omega
        subst this
        show up2 K (89 + p) k 0 (89 + p) k = _
        rw [up2_at, wW_n]; rfl
    obtain ⟨M', e, h1, h2⟩ := key
    rw [e, b1_some, nI_inc]
    exact ⟨_, rfl, rfl, h1, h2⟩
  · rintro ⟨i, K⟩ ⟨hi, hO, hW⟩
    simp only at hi hO hW
    subst hi
    unfold w_X5_weighBolt_15
    simp only
    rw [if_pos (.inl ((nI_lt_iff (by omega) (by omega)).2 (by omega)))]
    exact ⟨_, rfl, hO, fun p l hp hl => hW p l hp (by omega)⟩
theorem la_166 : la 166 = some 700 := by decide +kernel
theorem laysCuts_ok {A : AS} (hP : Pcs (A.2.1 6) n L V) (hR : RMm 156 A M) {a : Nat} (ha : a ≤ 99) : Wq (f_X11_laysCuts (nI a) M) (fun M' => Out 166 167 M M' ∧ ∀ p l, p ≤ n → l ≤ a → M' 166 (100 * p + l) = nI (wW n L V p l)) := by
  have h6 := hP.n6
  have hc := hP.cnt
  have bW : ∀ p l, l ≤ 99 → wW n L V p l < 10000 := fun p l hl => by have := wW_le hP.l1 hP.v1 p l; omega
  have e0 : ∀ K, RMm 156 A K → K 156 87 = nI n := fun K h => by have : K 156 87 = nI (A.2.1 6).1 := (h.2.1 6 (by omega)).1; rw [this, hc]
  unfold f_X11_laysCuts
  rw [e0 M hR]
  refine wq_b1 (P := fun M' => Out 166 167 M M' ∧ ∀ p l, p ≤ n → l ≤ a → M' 166 (100 * p + l) = nI (wW n L V p l)) (lp_to (fun k s => s.1 = nI (n + 1 - k) - 1 ∧ Out 166 167 M s.2 ∧ ∀ p l, n + 1 - k ≤ p → p ≤ n → l ≤ a → s.2 166 (100 * p + l) = nI (wW n L V p l)) (n + 1) ?_ ?_ _ ⟨?_, Out.refl _ _ _, fun p l h1 h2 => by omega⟩ (by omega)) (fun r hr => wq_some hr)
  · rintro k ⟨i, K⟩ hk ⟨hi, hO, hW⟩
    simp only at hi hO hW
    rw [nI_dec' (by omega)] at hi
    obtain ⟨p, hp, hpn⟩ : ∃ p, n + 1 - k - 1 = p ∧ n + 1 - k = p + 1 := ⟨n + 1 - k - 1, rfl, by omega⟩
    rw [hp] at hi
    subst hi
    have hpn' : p ≤ n := by omega
    unfold w_X11_laysCuts_8
    simp only
    rw [if_neg (nI_nneg (by omega))]
    have key : Wq (lp (fun s => w_X11_laysCuts_14 (nI a) (nI p) s.1 s.2) FU (0, K)) (fun M' => Out 166 167 M M' ∧ ∀ p' l, p ≤ p' → p' ≤ n → l ≤ a → M' 166 (100 * p' + l) = nI (wW n L V p' l)) := by
      refine lp_to (fun j s => s.1 = nI j ∧ Out 166 167 M s.2 ∧ (∀ p' l, p + 1 ≤ p' → p' ≤ n → l ≤ a → s.2 166 (100 * p' + l) = nI (wW n L V p' l)) ∧ ∀ l, l < j → s.2 166 (100 * p + l) = nI (wW n L V p l)) (a + 1) ?_ ?_ _ ⟨rfl, hO, fun p' l h1 h2 h3 => hW p' l (by omega) h2 h3, fun l h => absurd h (Nat.not_lt_zero _)⟩ (by omega)
      · rintro j ⟨i, K'⟩ hj ⟨hi, hO, hW, hU⟩
        simp only at hi hO hW hU
        subst hi
        have hR' := hR.out hO (by omega)
        have ix : ((100 * nI p) + nI j) = nI (100 * p + j) := by rw [show (100 : Int32) = nI 100 from rfl, nI_mul, nI_add]
        have fin : ∀ K'' : Mem, K'' = up2 K' 166 (100 * p + j) (nI (wW n L V p j)) → (∃ s', (some (Sum.inl (nI j + 1, K'')) : Option ((Int32 × Mem) ⊕ Mem)) = some (.inl s') ∧ (s'.1 = nI (j + 1) ∧ Out 166 167 M s'.2 ∧ (∀ p' l, p + 1 ≤ p' → p' ≤ n → l ≤ a → s'.2 166 (100 * p' + l) = nI (wW n L V p' l)) ∧ ∀ l, l < j + 1 → s'.2 166 (100 * p + l) = nI (wW n L V p l))) := by
          rintro K'' rfl
          refine ⟨_, rfl, by rw [nI_inc], hO.up (by omega) (by omega), ?_, ?_⟩
          · intro p' l h1 h2 h3
            simp only
            rw [up2_eq, if_neg (by omega)]
            exact hW p' l h1 h2 h3
          · intro l hl
            simp only
            rw [up2_eq]
            by_cases e : l = j
            · subst e; rw [if_pos ⟨rfl, rfl⟩]
            · rw [if_neg (by omega)]; exact hU l (by omega)
        unfold w_X11_laysCuts_14
        simp only
        rw [if_neg (by rw [nI_lt_iff (by omega) (by omega)]; omega), e0 K' hR', ix]
        have w166 : ∀ x, wr K' 166 (nI (100 * p + j)) x = some (up2 K' 166 (100 * p + j) x) := fun x => wr_nI la_166 (by omega) (by omega)
        by_cases hpe : p = n
        · subst hpe
          rw [if_pos rfl, if_pos rfl, if_pos (show nI j < 100000 from (nI_lt_iff (b := 100000) (by omega) (by omega)).2 (by omega)), w166, b1_some]
          exact fin _ (by rw [wW_n]; rfl)
        · have hpl : p < n := by omega
          have hne : ¬ nI p = nI n := by rw [nI_eq_iff (by omega) (by omega)]; exact hpe
          have l1 := hP.l1 p hpl
          have l2 := hP.l2 p hpl
          have ix1 : ((100 * (nI p + 1)) + nI j) = nI (100 * (p + 1) + j) := by rw [nI_inc, show (100 : Int32) = nI 100 from rfl, nI_mul, nI_add]
          have ix2 : (307 + (2 * nI p)) = nI (307 + 2 * p) := idx2 307 2 p
          have ix3 : nI (307 + 2 * p) + 1 = nI (307 + 2 * p + 1) := nI_inc _
          rw [if_neg hne, ix1, rd_nI la_166 (by omega) (by omega), b1_some, if_neg hne, ix2, rt_rd hR' (k := 6) (r := p) (j := 0) (by omega) (by omega) (by simp [twd]) (by simp [tbs, twd]; omega), b1_some, hP.el p hpl, hW (p + 1) j (by omega) (by omega) (by omega)]
          have b1' := bW (p + 1) j (by omega)
          have b2' := bW p (j - L p) (by omega)
          have b3' := hP.v1 p hpl
          by_cases h : L p ≤ j
          · have ix4 : nI (100 * p + j) - nI (L p) = nI (100 * p + (j - L p)) := by rw [nI_sub (by omega)]; congr 1; omega
            rw [if_neg (by rw [nI_lt_iff (by omega) (by omega)]; omega), ix3, rt_rd hR' (k := 6) (r := p) (j := 1) (by omega) (by omega) (by simp [twd]) (by simp [tbs, twd]; omega), b1_some, ix4, rd_nI la_166 (by omega) (by omega), b1_some, hP.ev p hpl, hU _ (by omega), nI_add, nI_grt (by omega) (by omega), lt_eq, w166, b1_some]
            exact fin _ (by rw [wW_step hP.l1 hpl j, if_pos h])
          · rw [if_pos ((nI_lt_iff (by omega) (by omega)).2 (by omega)), w166, b1_some]
            exact fin _ (by rw [wW_step hP.l1 hpl j, if_neg h])
      · rintro ⟨i, K'⟩ ⟨hi, hO, hW, hU⟩
        simp only at hi hO hW hU
        subst hi
        unfold w_X11_laysCuts_14
        simp only
        rw [if_pos ((nI_lt_iff (by omega) (by omega)).2 (by omega))]
        refine ⟨_, rfl, hO, ?_⟩
        intro p' l h1 h2 h3
        by_cases e : p' = p
        · subst e; exact hU l (by omega)
        · exact hW p' l (by omega) h2 h3
    obtain ⟨M', e, h1, h2⟩ := key
    rw [e, b1_some]
    refine ⟨_, rfl, ?_, h1, ?_⟩
    · show nI p + (-1) = nI (n + 1 - (k + 1)) - 1
      rw [show n + 1 - (k + 1) = p from by omega, sub1]
    · intro p' l q1 q2 q3
      exact h2 p' l (by omega) q2 q3
  · rintro ⟨i, K⟩ ⟨hi, hO, hW⟩
    simp only at hi hO hW
    rw [Nat.sub_self] at hi
    subst hi
    unfold w_X11_laysCuts_8
    simp only
    rw [if_pos (by decide)]
    exact ⟨_, rfl, hO, fun p l hp hl => hW p l (by omega) hp hl⟩
  · show nI n = nI (n + 1 - 0) - 1
    rw [nI_dec' (by omega)]; rfl
/-! how many of each -/
def tkI (w : Nat → Nat) (L V : Nat) (l c : Nat) : Nat × Nat := if h : 1 ≤ L ∧ L ≤ l ∧ V + w (l - L) = w l then tkI w L V (l - L) (c + 1) else (l, c)
termination_by l
decreasing_by omega
theorem tkI_le (w : Nat → Nat) (L V : Nat) : ∀ l c, (tkI w L V l c).1 ≤ l := by
  intro l
  induction l using Nat.strongRecOn with
  | _ l ih =>
    intro c
    rw [tkI]
    by_cases h : 1 ≤ L ∧ L ≤ l ∧ V + w (l - L) = w l
    · rw [dif_pos h]
      have := ih (l - L) (by omega) (c + 1)
      omega
    · rw [dif_neg h]
      exact Nat.le_refl _
theorem lp_tk {body : Int32 × Int32 → Option ((Int32 × Int32) ⊕ (Int32 × Int32))} {w : Nat → Nat} {L V a : Nat} (hL : 1 ≤ L) (hb : ∀ l c, l ≤ a → body (nI l, nI c) = if L ≤ l ∧ V + w (l - L) = w l then some (.inl (nI (l - L), nI (c + 1))) else some (.inr (nI l, nI c))) : ∀ l c n, l ≤ a → l < n → lp body n (nI l, nI c) = some (nI (tkI w L V l c).1, nI (tkI w L V l c).2) := by
  intro l
  induction l using Nat.strongRecOn with
  | _ l ih =>
    intro c n hl hn
    obtain ⟨n, rfl⟩ : ∃ m, n = m + 1 := ⟨n - 1, by omega⟩
    rw [tkI]
    have hb := hb l c hl
    by_cases h : L ≤ l ∧ V + w (l - L) = w l
    · rw [if_pos h] at hb
      rw [dif_pos ⟨hL, h⟩, lp_in hb]
      exact ih (l - L) (by omega) (c + 1) n (by omega) (by omega)
    · rw [if_neg h] at hb
      rw [dif_neg (fun z => h z.2), lp_end hb]
def tkO (n : Nat) (L V : Nat → Nat) (a : Nat) : Nat → Nat × Nat
  | 0 => (a, 0)
  | k + 1 => tkI (wW n L V k) (L k) (V k) (tkO n L V a k).1 0
theorem tkO_le (a : Nat) : ∀ k, (tkO n L V a k).1 ≤ a
  | 0 => Nat.le_refl _
  | k + 1 => Nat.le_trans (tkI_le _ _ _ _ _) (tkO_le a k)
theorem piecesInBolt_ok (hP : Pcs T n L V) (hT : RR (79 + 1) 6 2 T M) {a q : Nat} (ha : a ≤ 99) (hq : q < n) (hW : ∀ p l, p ≤ n → l ≤ a → M (89 + p) l = nI (wW n L V p l)) : f_X5_piecesInBolt 79 (nI a) (nI q) M = some (nI (tkO n L V a (q + 1)).2) := by
  have h6 := hP.n6
  have hc := hP.cnt
  have bW : ∀ p l, l ≤ 99 → wW n L V p l < 10000 := fun p l hl => by have := wW_le hP.l1 hP.v1 p l; omega
  unfold f_X5_piecesInBolt
  have key := lp_for (body := fun s : Int32 × Int32 × Int32 => w_X5_piecesInBolt_8 79 (nI q) M s.1 s.2.1 s.2.2) (fun k => (nI (tkO n L V a k).1, nI (tkO n L V a k).2, nI k)) (q + 1) (nI (tkO n L V a (q + 1)).2) (by
    intro p hp
    have hpn : p < n := by omega
    have l1 := hP.l1 p hpn
    have l2 := hP.l2 p hpn
    have b3' := hP.v1 p hpn
    have hle := tkO_le (n := n) (L := L) (V := V) a p
    unfold w_X5_piecesInBolt_8
    simp only
    rw [if_neg (by
      rintro (z | z)
      · rw [nI_lt_iff (by omega) (by omega)] at z; omega
      · have z : nI 6 < nI p := z
        rw [nI_lt_iff (by omega) (by omega)] at z; omega)]
    have e := lp_tk (body := fun s => w_X5_piecesInBolt_24 79 M (nI p) s.1 s.2) (w := wW n L V p) (L := L p) (V := V p) (a := a) l1 (by
      intro l c hl
      have b1' := bW p l (by omega)
      have b2' := bW p (l - L p) (by omega)
      unfold w_X5_piecesInBolt_24
      simp only
      rw [if_neg (by
        rintro (z | z)
        · exact nI_nneg (by omega) z
        · have z : nI 99 < nI l := z
          rw [nI_lt_iff (by omega) (by omega)] at z; omega), worthWith_ok hP hT hpn (by omega) (fun l' hl' => hW p l' (by omega) (by omega)), b1_some, rr_88 p (by omega), b1_some, rd_nI (la_89 p (by omega)) (by omega) (by omega), b1_some, hW p l (by omega) hl]
      by_cases h : L p ≤ l
      · rw [if_pos h]
        by_cases h2 : V p + wW n L V p (l - L p) = wW n L V p l
        · rw [if_pos ((nI_eq_iff (by omega) (by omega)).2 h2), if_pos ⟨h, h2⟩, at_lit hT 0 rfl (by omega) (by omega), b1_some, lt_eq, hP.el p hpn, show (1 : Int32) = nI 1 from rfl, nI_max (by omega) (by omega), Nat.max_eq_right l1, nI_sub h, nI_add]
        · rw [if_neg (fun z => h2 ((nI_eq_iff (by omega) (by omega)).1 z)), if_neg (fun z => h2 z.2)]
      · rw [if_neg h, if_neg (fun z => nI_neg1 (by omega) z.symm), if_neg (fun z => h z.1)]) (tkO n L V a p).1 0 FU hle (by unfold FU; omega)
    have e : lp (fun s => w_X5_piecesInBolt_24 79 M (nI p) s.1 s.2) FU (nI (tkO n L V a p).1, 0) = _ := e
    rw [e, b1_some, nI_inc]
    rfl) (by
    unfold w_X5_piecesInBolt_8
    simp only
    rw [if_pos (.inl ((nI_lt_iff (by omega) (by omega)).2 (by omega)))]) (by omega)
  have key : lp (fun s : Int32 × Int32 × Int32 => w_X5_piecesInBolt_8 79 (nI q) M s.1 s.2.1 s.2.2) FU (nI a, 0, 0) = _ := key
  rw [key, b1_some]
theorem cutsm_ok {A : AS} (hP : Pcs (A.2.1 6) n L V) (hR : RMm 156 A M) {a q : Nat} (ha : a ≤ 99) (hq : q < n) (hW : ∀ p l, p ≤ n → l ≤ a → M 166 (100 * p + l) = nI (wW n L V p l)) : lp (fun s => w_X11_cuts_59 (nI (q + 10)) M s.1 s.2.1 s.2.2) FU (nI a, 0, 0) = some (nI (tkO n L V a (q + 1)).2) := by
  have h6 := hP.n6
  have hc := hP.cnt
  have bW : ∀ p l, l ≤ 99 → wW n L V p l < 10000 := fun p l hl => by have := wW_le hP.l1 hP.v1 p l; omega
  have eq10 : nI (q + 10) - 10 = nI q := by rw [show (10 : Int32) = nI 10 from rfl, nI_sub (by omega)]; congr 1
  have key := lp_for (body := fun s : Int32 × Int32 × Int32 => w_X11_cuts_59 (nI (q + 10)) M s.1 s.2.1 s.2.2) (fun k => (nI (tkO n L V a k).1, nI (tkO n L V a k).2, nI k)) (q + 1) (nI (tkO n L V a (q + 1)).2) (by
    intro p hp
    have hpn : p < n := by omega
    have l1 := hP.l1 p hpn
    have l2 := hP.l2 p hpn
    have b3' := hP.v1 p hpn
    have hle := tkO_le (n := n) (L := L) (V := V) a p
    unfold w_X11_cuts_59
    simp only
    have ix2 : (307 + (2 * nI p)) = nI (307 + 2 * p) := idx2 307 2 p
    have ix3 : nI (307 + 2 * p) + 1 = nI (307 + 2 * p + 1) := nI_inc _
    rw [eq10, if_neg (by rw [nI_lt_iff (by omega) (by omega)]; omega), ix2, rt_rd hR (k := 6) (r := p) (j := 0) (by omega) (by omega) (by simp [twd]) (by simp [tbs, twd]; omega), b1_some, hP.el p hpn]
    have e := lp_tk (body := fun s => w_X11_cuts_86 M (nI p) (nI (L p)) s.1 s.2) (w := wW n L V p) (L := L p) (V := V p) (a := a) l1 (by
      intro l c hl
      have b1' := bW p l (by omega)
      have b2' := bW p (l - L p) (by omega)
      unfold w_X11_cuts_86
      simp only
      have ix : ((100 * nI p) + nI l) = nI (100 * p + l) := by rw [show (100 : Int32) = nI 100 from rfl, nI_mul, nI_add]
      by_cases h : L p ≤ l
      · have ix4 : nI (100 * p + l) - nI (L p) = nI (100 * p + (l - L p)) := by rw [nI_sub (by omega)]; congr 1; omega
        rw [if_neg (by rw [nI_lt_iff (by omega) (by omega)]; omega), ix2, ix3, rt_rd hR (k := 6) (r := p) (j := 1) (by omega) (by omega) (by simp [twd]) (by simp [tbs, twd]; omega), b1_some, ix, ix4, rd_nI la_166 (by omega) (by omega), b1_some, rd_nI la_166 (by omega) (by omega), b1_some, hP.ev p hpn, hW p _ (by omega) (by omega), hW p _ (by omega) (by omega), nI_add, nI_sub h, nI_inc]
        by_cases h2 : V p + wW n L V p (l - L p) = wW n L V p l
        · rw [if_pos ((nI_eq_iff (by omega) (by omega)).2 h2), if_pos ⟨h, h2⟩]
        · rw [if_neg (fun z => h2 ((nI_eq_iff (by omega) (by omega)).1 z)), if_neg (fun z => h2 z.2)]
      · rw [if_pos ((nI_lt_iff (by omega) (by omega)).2 (by omega)), if_neg (fun z => h z.1)]) (tkO n L V a p).1 0 FU hle (by unfold FU; omega)
    have e : lp (fun s => w_X11_cuts_86 M (nI p) (nI (L p)) s.1 s.2) FU (nI (tkO n L V a p).1, 0) = _ := e
    rw [e, b1_some, nI_inc]
    rfl) (by
    unfold w_X11_cuts_59
    simp only
    rw [eq10, if_pos ((nI_lt_iff (by omega) (by omega)).2 (by omega))]) (by omega)
  exact key
end CUT
theorem c_cuts (a b : Int32) {M : Mem} (h : Inv M) : ∃ M1 M2 r, f_X10_cuts a b M = some (M1, r) ∧ f_X11_cuts a b M1 = some (M2, r) ∧ Inv M2 := by
  refine both_ok (fc := fun M => f_X10_cuts a b M) (fm := fun M => f_X11_cuts a b M) h ?_
  rintro ⟨A, I, P, tp, ft⟩ hC hM hG
  have hT : RR (79 + 1) 6 2 (A.2.1 6) M := hC.2.1.1
  have hle : (A.2.1 6).1 ≤ 6 := hT.le
  have hn : ∀ M1, InvM (A, I, P, tp, ft) M1 → M1 156 87 = nI (A.2.1 6).1 := fun M1 h1 => ans_m 6 (by omega) h1
  obtain ⟨L, V, hP⟩ : ∃ L V, Pcs (A.2.1 6) (A.2.1 6).1 L V := pcs_of hG.1.2.2.1.1 hle
  have bad : ∀ (hc : f_X10_within a 0 99 = 0 ∨ (¬ b = 0 ∧ (b < 10 ∨ f_X8_has (79 + 1) (b - 10) M = 0))) (hm : f_X11_isIn a 0 99 = 0 ∨ (¬ b = 0 ∧ f_X11_isIn b 10 (9 + nI (A.2.1 6).1) = 0)), ∃ G' r, OKG G' ∧ Wq (f_X10_cuts a b M) (fun p => p.2 = r ∧ InvC G' p.1 ∧ Hi M p.1) ∧ ∀ M1, InvM (A, I, P, tp, ft) M1 → Wq (f_X11_cuts a b M1) (fun p => p.2 = r ∧ InvM G' p.1 ∧ Lo M1 p.1) := by
    intro hc hm
    refine ⟨(A, I, P, tp, ft), -1, hG, ?_, fun M1 hM1 => ?_⟩
    · unfold f_X10_cuts
      rw [if_pos hc]
      exact wq_some ⟨rfl, hC, Hi.refl _⟩
    · unfold f_X11_cuts
      rw [hn M1 hM1, if_pos hm]
      exact wq_some ⟨rfl, hM1, Lo.refl _⟩
  have n9 : (9 : Int32) + nI (A.2.1 6).1 = nI (9 + (A.2.1 6).1) := by rw [show (9 : Int32) = nI 9 from rfl, nI_add]
  rcases rng_cases a 0 99 (by omega) (by omega) with z | ⟨k, _, hk, rfl⟩
  · exact bad (.inl ((within0 _ _ _).2 z)) (.inl ((isInm0 _ _ _).2 z))
  · have cw : ¬ f_X10_within (nI k) 0 99 = 0 := by
      rw [within0]
      rintro (z | z)
      · exact nI_nneg (by omega) z
      · have z : nI 99 < nI k := z
        rw [nI_lt_iff (by omega) (by omega)] at z; omega
    have mw : ¬ f_X11_isIn (nI k) 0 99 = 0 := by
      rw [isInm0]
      rintro (z | z)
      · exact nI_nneg (by omega) z
      · have z : nI 99 < nI k := z
        rw [nI_lt_iff (by omega) (by omega)] at z; omega
    by_cases b0 : b = 0
    · subst b0
      refine ⟨(A, I, P, tp, ft), nI (wW (A.2.1 6).1 L V 0 k), hG, ?_, fun M1 hM1 => ?_⟩
      · show Wq (f_X10_cuts (nI k) 0 M) _
        unfold f_X10_cuts
        rw [if_neg (by rintro (z | z); exact cw z; exact z.1 rfl)]
        refine wq_b1 (weighBolt_ok hP hT hk) ?_
        rintro M6 ⟨hO, hW⟩
        rw [if_pos rfl]
        unfold f_X5_boltWorth
        rw [if_neg (by
          rintro (z | z)
          · exact nI_nneg (by omega) z
          · have z : nI 99 < nI k := z
            rw [nI_lt_iff (by omega) (by omega)] at z; omega)]
        have e : rr (79 + 9) 0 = some 89 := rr_88 0 (by omega)
        have e2 : M6 89 k = _ := hW 0 k (Nat.zero_le _) (Nat.le_refl _)
        rw [e, b1_some, rd_nI (la_89 0 (by omega)) (by omega) (by omega), b1_some, b1_some, e2]
        exact wq_some ⟨rfl, hC.scr hO (by omega), hO.hi (by omega)⟩
      · show Wq (f_X11_cuts (nI k) 0 M1) _
        unfold f_X11_cuts
        rw [if_neg (by rintro (z | z); exact mw z; exact z.1 rfl)]
        refine wq_b1 (laysCuts_ok hP hM1.1 hk) ?_
        rintro M5 ⟨hO, hW⟩
        have e2 : M5 166 k = nI (wW (A.2.1 6).1 L V 0 k) := by have := hW 0 k (Nat.zero_le _) (Nat.le_refl _); rw [show 100 * 0 + k = k from by omega] at this; exact this
        rw [if_pos rfl, rd_nI la_166 (by omega) (by omega), b1_some, e2]
        have := hM1.scr2 hO (by omega) (by omega)
        exact wq_some ⟨rfl, this.1, this.2⟩
    · by_cases hq : b < 10 ∨ nI (9 + (A.2.1 6).1) < b
      · refine bad (.inr ⟨b0, ?_⟩) (.inr ⟨b0, ?_⟩)
        · by_cases z : b < 10
          · exact .inl z
          · right
            have y := hq.resolve_left z
            rw [Int32.lt_iff_toInt_lt] at z y
            rw [nI_toInt (by omega)] at y
            rw [show ((10 : Int32).toInt) = 10 from by decide] at z
            obtain ⟨w, hw, rfl⟩ : ∃ w, w < 2147483648 ∧ b = nI w := ⟨b.toInt.toNat, by have := b.toInt_lt; omega, nI_ofI (by omega)⟩
            rw [nI_toInt (by omega)] at z y
            rw [has0 hT, show (10 : Int32) = nI 10 from rfl, nI_sub (by omega)]
            right
            rw [nI_le_iff (by omega) (by omega)]; omega
        · rw [n9, isInm0]; exact hq
      · obtain ⟨q, hq2, hqe⟩ : ∃ q, q < (A.2.1 6).1 ∧ b = nI (q + 10) := by
          have z : ¬ b < 10 := fun z => hq (.inl z)
          have y : ¬ nI (9 + (A.2.1 6).1) < b := fun z => hq (.inr z)
          rw [Int32.lt_iff_toInt_lt] at z y
          rw [nI_toInt (by omega)] at y
          rw [show ((10 : Int32).toInt) = 10 from by decide] at z
          refine ⟨b.toInt.toNat - 10, by omega, ?_⟩
          rw [show b.toInt.toNat - 10 + 10 = b.toInt.toNat from by omega]
          exact nI_ofI (by omega)
        subst hqe
        have eq10 : nI (q + 10) - 10 = nI q := by rw [show (10 : Int32) = nI 10 from rfl, nI_sub (by omega)]; congr 1
        refine ⟨(A, I, P, tp, ft), nI (tkO (A.2.1 6).1 L V k (q + 1)).2, hG, ?_, fun M1 hM1 => ?_⟩
        · show Wq (f_X10_cuts (nI k) (nI (q + 10)) M) _
          unfold f_X10_cuts
          rw [eq10, if_neg (by
            rintro (z | ⟨_, z | z⟩)
            · exact cw z
            · exact hq (.inl z)
            · rw [has0 hT] at z
              exact idx_in hq2 (by omega) z)]
          refine wq_b1 (weighBolt_ok hP hT hk) ?_
          rintro M6 ⟨hO, hW⟩
          rw [if_neg b0, piecesInBolt_ok hP (hT.out hO (by omega)) hk hq2 hW, b1_some]
          exact wq_some ⟨rfl, hC.scr hO (by omega), hO.hi (by omega)⟩
        · show Wq (f_X11_cuts (nI k) (nI (q + 10)) M1) _
          unfold f_X11_cuts
          rw [hn M1 hM1, n9, if_neg (by
            rintro (z | ⟨_, z⟩)
            · exact mw z
            · rw [isInm0] at z; exact hq z)]
          refine wq_b1 (laysCuts_ok hP hM1.1 hk) ?_
          rintro M5 ⟨hO, hW⟩
          have hM5 := hM1.scr2 hO (by omega) (by omega)
          rw [if_neg b0, cutsm_ok hP hM5.1.1 hk hq2 hW, b1_some]
          exact wq_some ⟨rfl, hM5.1, hM5.2⟩
