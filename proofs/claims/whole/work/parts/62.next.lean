/-! ===== PURE PART: the tape as tokens, in the reference ===== -/
def sgB (c : Nat) : Bool := c == 59 || c == 43 || c == 45 || c == 42 || c == 47 || c == 40 || c == 41 || c == 60 || c == 61 || c == 62
def trW (r k : Nat) : Nat := if r = 0 then (if k = 0 then 7 else if k = 15 then 8 else 1) else if r = 1 then (if k ≤ 6 then 41 + k else if k ≤ 10 then 13 + k else if k ≤ 14 then k - 8 else 1) else if r = 2 then (if k = 16 then 9 else if k = 17 then 10 else if k = 18 then 11 else 1) else if r = 3 then (if k = 19 then 12 else if k = 20 then 13 else if k = 21 then 14 else 1) else (if k = 22 then 15 else 1)
/-- a token of the class as the reference calls it, reading a text -/
def trT (r t : Nat) : Nat := if t = 258 then 0 else if t = 257 then 1 else if t = 256 then 2 else if t < 256 then (if sgB t then 100 + t else 1) else if t < 300 then 1 else trW r (t - 300)
theorem m_sign : ∀ c, c < 256 → (sgB c = true ↔ (nI c = 59 ∨ (nI c = 43 ∨ (nI c = 45 ∨ (nI c = 42 ∨ (nI c = 47 ∨ (nI c = 40 ∨ (nI c = 41 ∨ (nI c = 60 ∨ (nI c = 61 ∨ nI c = 62)))))))))) := by decide +kernel
theorem up2_swap (M : Mem) (a : Nat) {i j : Nat} (x y : Int32) (h : i ≠ j) : up2 (up2 M a i x) a j y = up2 (up2 M a j y) a i x := by
  funext b k
  simp only [up2_eq]
  by_cases h1 : b = a ∧ k = j
  · rw [if_pos h1, if_neg (by omega), if_pos h1]
  · rw [if_neg h1, if_neg h1]
theorem up2_4 (M : Mem) (v q v' q' : Int32) : up2 (up2 (up2 (up2 M 155 20 v) 155 17 q) 155 20 v') 155 17 q' = up2 (up2 M 155 20 v') 155 17 q' := by
  rw [up2_swap (up2 M 155 20 v) 155 q v' (show (17 : Nat) ≠ 20 by omega), up2_up2, up2_up2]
section NXT
variable {B : Nat → Nat} {n : Nat} {M : Mem}
def TPm (B : Nat → Nat) (n : Nat) (M : Mem) : Prop := M 155 16 = nI n ∧ ∀ j, j < n → M 163 j = nI (B j)
theorem TPm.up {j : Nat} {x : Int32} (h : TPm B n M) (hj : j ≠ 16) : TPm B n (up2 M 155 j x) := by
  refine ⟨by rw [up2_slot _ _ _ (by omega)]; exact h.1, ?_⟩
  rw [up2_cell _ _ _ (by omega)]
  exact h.2
theorem see_ok (hB : okB B n) (h : TPm B n M) {p : Nat} (hp : p < n) : f_X11_see (nI p) M = some (nI (B p)) := by
  have h4 := hB.1
  unfold f_X11_see
  rw [h.1, if_neg (by rw [nI_le_iff (by omega) (by omega)]; omega), rd_nI la_163 (by omega) (by omega), b1_some, h.2 p hp]
theorem see_out (hB : okB B n) (h : TPm B n M) {p : Nat} (hp : n ≤ p) (h2 : p < 1000) : f_X11_see (nI p) M = some (-1) := by
  have h4 := hB.1
  unfold f_X11_see
  rw [h.1, if_pos (by rw [nI_le_iff (by omega) (by omega)]; omega)]
theorem is_ok (hB : okB B n) (h : TPm B n M) {s a b : Nat} {w : List Nat} (hl : strLn s = some (nI w.length)) (hw : w.length ≤ 10) (hc : ∀ i, i < w.length → strAt s (nI i) = some (nI (w.getD i 0)) ∧ w.getD i 0 < 256) (ha : M 155 19 = nI a) (hb : M 155 17 = nI b) (hab : a ≤ b) (hbn : b ≤ n) : f_X11_is s M = some (if w = bsT B a b then 1 else 0) := by
  have h4 := hB.1
  unfold f_X11_is
  rw [hl, b1_some, lt_eq, ha, hb, nI_sub hab]
  by_cases hlen : b - a = w.length
  · rw [if_pos (by rw [hlen])]
    have e := lp_inv (body := fun q : Int32 × Int32 => w_X11_is_24 s M q.1 q.2) (fun k q => q.2 = nI k ∧ ((q.1 = 1 ∧ ∀ j, j < k → w.getD j 0 = B (a + j)) ∨ (q.1 = 0 ∧ w ≠ bsT B a b))) w.length (Q := fun r => r = if w = bsT B a b then 1 else 0) (by
      rintro k ⟨i4, i5⟩ hk ⟨h5, hor⟩
      simp only at h5 hor
      subst h5
      unfold w_X11_is_24
      try simp only
      rw [hl, b1_some]
      rcases hor with ⟨h1, hm⟩ | ⟨h0, hne⟩
      · subst h1
        rcases Nat.lt_or_ge k w.length with z | z
        · rw [if_neg (by
            rintro (y | y)
            · rw [nI_le_iff (by omega) (by omega)] at y; omega
            · exact absurd y (by decide)), ha, nI_add, rd_nI la_163 (by omega) (by omega), b1_some, (hc k z).1, b1_some, lt_eq, h.2 (a + k) (by omega), nI_inc]
          refine .inl ⟨z, _, rfl, rfl, ?_⟩
          have b1' := hB.2 (a + k) (by omega)
          have b2' := (hc k z).2
          by_cases e : w.getD k 0 = B (a + k)
          · left
            refine ⟨by simp only; rw [if_pos (by rw [e])], fun j hj => ?_⟩
            by_cases ej : j = k
            · rw [ej]; exact e
            · exact hm j (by omega)
          · right
            refine ⟨by simp only; rw [if_neg (by rw [nI_eq_iff (by omega) (by omega)]; exact fun y => e y.symm)], fun y => e ?_⟩
            exact (bs_eq hlen).1 y k z
        · rw [if_pos (.inl (by rw [nI_le_iff (by omega) (by omega)]; omega))]
          refine .inr ⟨_, rfl, ?_⟩
          rw [if_pos ((bs_eq hlen).2 (fun j hj => hm j (by omega)))]
      · subst h0
        rw [if_pos (.inr rfl)]
        exact .inr ⟨_, rfl, by rw [if_neg hne]⟩) (1, 0) ⟨rfl, .inl ⟨rfl, fun j hj => absurd hj (Nat.not_lt_zero _)⟩⟩ (by omega)
    obtain ⟨r, e1, e2⟩ := e
    rw [e1, b1_some, e2]
    by_cases z : w = bsT B a b
    · rw [if_pos z]; rfl
    · rw [if_neg z]; rfl
  · have hne : ¬ w = bsT B a b := fun z => hlen (by rw [z, bs_len])
    rw [if_neg (by rw [nI_eq_iff (by omega) (by omega)]; exact hlen)]
    have e : lp (fun q : Int32 × Int32 => w_X11_is_24 s M q.1 q.2) FU (0, 0) = some 0 := lp_end (n := 999999) (by
      unfold w_X11_is_24
      try simp only
      rw [hl, b1_some, if_pos (by first | exact .inr rfl | exact .inr trivial)])
    rw [e, b1_some, if_neg hne]
    rfl
def strOK (s k : Nat) : Prop := strLn s = some (nI (wdk k).length) ∧ (wdk k).length ≤ 10 ∧ ∀ i, i < (wdk k).length → strAt s (nI i) = some (nI ((wdk k).getD i 0)) ∧ (wdk k).getD i 0 < 256
theorem str_all : strOK 1000002 0 ∧ strOK 1000003 15 ∧ strOK 1000004 11 ∧ strOK 1000005 12 ∧ strOK 1000006 13 ∧ strOK 1000007 14 ∧ strOK 1000008 7 ∧ strOK 1000009 8 ∧ strOK 1000010 9 ∧ strOK 1000011 10 ∧ strOK 1000012 1 ∧ strOK 1000013 2 ∧ strOK 1000014 3 ∧ strOK 1000015 4 ∧ strOK 1000016 5 ∧ strOK 1000017 6 ∧ strOK 1000018 16 ∧ strOK 1000019 17 ∧ strOK 1000020 18 ∧ strOK 1000021 19 ∧ strOK 1000022 20 ∧ strOK 1000023 21 ∧ strOK 1000024 22 := ⟨by unfold strOK; decide +kernel, by unfold strOK; decide +kernel, by unfold strOK; decide +kernel, by unfold strOK; decide +kernel, by unfold strOK; decide +kernel, by unfold strOK; decide +kernel, by unfold strOK; decide +kernel, by unfold strOK; decide +kernel, by unfold strOK; decide +kernel, by unfold strOK; decide +kernel, by unfold strOK; decide +kernel, by unfold strOK; decide +kernel, by unfold strOK; decide +kernel, by unfold strOK; decide +kernel, by unfold strOK; decide +kernel, by unfold strOK; decide +kernel, by unfold strOK; decide +kernel, by unfold strOK; decide +kernel, by unfold strOK; decide +kernel, by unfold strOK; decide +kernel, by unfold strOK; decide +kernel, by unfold strOK; decide +kernel, by unfold strOK; decide +kernel⟩
theorem word_ok (hB : okB B n) (h : TPm B n M) {r a b : Nat} (hr : r < 5) (h12 : M 155 12 = nI r) (ha : M 155 19 = nI a) (hb : M 155 17 = nI b) (hab : a ≤ b) (hbn : b ≤ n) : f_X11_word M = some (nI (trT r (wcode (bsT B a b)))) := by
  have isw : ∀ {s k : Nat}, k < 23 → strOK s k → f_X11_is s M = some (if wcode (bsT B a b) = 300 + k then 1 else 0) := by
    intro s k hk hs
    rw [is_ok hB h hs.1 hs.2.1 hs.2.2 ha hb hab hbn]
    by_cases z : wdk k = bsT B a b
    · rw [if_pos z, if_pos ((wcode_is hk).2 z)]
    · rw [if_neg z, if_neg (fun y => z ((wcode_is hk).1 y))]
  obtain ⟨s2, s3, s4, s5, s6, s7, s8, s9, s10, s11, s12, s13, s14, s15, s16, s17, s18, s19, s20, s21, s22, s23, s24⟩ := str_all
  have e2 := isw (by omega) s2
  have e3 := isw (by omega) s3
  have e4 := isw (by omega) s4
  have e5 := isw (by omega) s5
  have e6 := isw (by omega) s6
  have e7 := isw (by omega) s7
  have e8 := isw (by omega) s8
  have e9 := isw (by omega) s9
  have e10 := isw (by omega) s10
  have e11 := isw (by omega) s11
  have e12 := isw (by omega) s12
  have e13 := isw (by omega) s13
  have e14 := isw (by omega) s14
  have e15 := isw (by omega) s15
  have e16 := isw (by omega) s16
  have e17 := isw (by omega) s17
  have e18 := isw (by omega) s18
  have e19 := isw (by omega) s19
  have e20 := isw (by omega) s20
  have e21 := isw (by omega) s21
  have e22 := isw (by omega) s22
  have e23 := isw (by omega) s23
  have e24 := isw (by omega) s24
  have hc := wcode_rng (bsT B a b)
  generalize wcode (bsT B a b) = c at *
  have hc : c = 257 ∨ c = 300 ∨ c = 301 ∨ c = 302 ∨ c = 303 ∨ c = 304 ∨ c = 305 ∨ c = 306 ∨ c = 307 ∨ c = 308 ∨ c = 309 ∨ c = 310 ∨ c = 311 ∨ c = 312 ∨ c = 313 ∨ c = 314 ∨ c = 315 ∨ c = 316 ∨ c = 317 ∨ c = 318 ∨ c = 319 ∨ c = 320 ∨ c = 321 ∨ c = 322 := by
    rcases hc with z | ⟨k, hk, z⟩ <;> omega
  have hr : r = 0 ∨ r = 1 ∨ r = 2 ∨ r = 3 ∨ r = 4 := by omega
  unfold f_X11_word
  rw [h12]
  rcases hr with rfl | rfl | rfl | rfl | rfl
  · rw [if_neg (by decide), if_pos (by decide)]
    unfold f_X11_kindWord
    rw [e2, e3]
    rcases hc with rfl | rfl | rfl | rfl | rfl | rfl | rfl | rfl | rfl | rfl | rfl | rfl | rfl | rfl | rfl | rfl | rfl | rfl | rfl | rfl | rfl | rfl | rfl | rfl <;> rfl
  · rw [if_neg (by decide), if_neg (by decide), if_pos (by decide)]
    unfold f_X11_lawWord f_X11_asked
    rw [e2, e4, e5, e6, e7, e8, e9, e10, e11, e12, e13, e14, e15, e16, e17]
    rcases hc with rfl | rfl | rfl | rfl | rfl | rfl | rfl | rfl | rfl | rfl | rfl | rfl | rfl | rfl | rfl | rfl | rfl | rfl | rfl | rfl | rfl | rfl | rfl | rfl <;> rfl
  · rw [if_neg (by decide), if_neg (by decide), if_neg (by decide), if_pos (by decide)]
    unfold f_X11_feastWord
    rw [e18, e19, e20]
    rcases hc with rfl | rfl | rfl | rfl | rfl | rfl | rfl | rfl | rfl | rfl | rfl | rfl | rfl | rfl | rfl | rfl | rfl | rfl | rfl | rfl | rfl | rfl | rfl | rfl <;> rfl
  · rw [if_neg (by decide), if_neg (by decide), if_neg (by decide), if_neg (by decide), if_pos (by decide)]
    unfold f_X11_wantWord
    rw [e21, e22, e23]
    rcases hc with rfl | rfl | rfl | rfl | rfl | rfl | rfl | rfl | rfl | rfl | rfl | rfl | rfl | rfl | rfl | rfl | rfl | rfl | rfl | rfl | rfl | rfl | rfl | rfl <;> rfl
  · rw [if_pos (by decide)]
    rw [e24]
    rcases hc with rfl | rfl | rfl | rfl | rfl | rfl | rfl | rfl | rfl | rfl | rfl | rfl | rfl | rfl | rfl | rfl | rfl | rfl | rfl | rfl | rfl | rfl | rfl | rfl <;> rfl
def RSm (B : Nat → Nat) (n r k : Nat) (M : Mem) : Prop := TPm B n M ∧ M 155 12 = nI r ∧ M 155 17 = nI (psT B n (k + 1)) ∧ M 155 18 = nI (trT r (tyT B n k)) ∧ M 155 19 = nI (plT B n k) ∧ (tyT B n k = 256 → M 155 20 = nI (vlT B n k))
def Fn (M M' : Mem) : Prop := (∀ a, a ≠ 155 → M' a = M a) ∧ ∀ j, j ≠ 17 → j ≠ 18 → j ≠ 19 → j ≠ 20 → M' 155 j = M 155 j
theorem Fn.refl (M : Mem) : Fn M M := ⟨fun _ _ => rfl, fun _ _ _ _ _ => rfl⟩
theorem Fn.up {M' : Mem} {j : Nat} {x : Int32} (h : Fn M M') (hj : 17 ≤ j ∧ j ≤ 20) : Fn M (up2 M' 155 j x) :=
  ⟨fun a ha => by rw [up2_cell _ _ _ ha]; exact h.1 a ha, fun i h1 h2 h3 h4 => by rw [up2_slot _ _ _ (by omega)]; exact h.2 i h1 h2 h3 h4⟩
theorem next_sk (hB : okB B n) (h : TPm B n M) {p : Nat} (hp : p ≤ n) (h17 : M 155 17 = nI p) : lp (fun s => w_X11_next0_0 s) FU M = some (up2 M 155 17 (nI (skT B n p))) := by
  have h4 := hB.1
  have e := lp_rn (body := fun s => w_X11_next0_0 s) (fun q => up2 M 155 17 (nI q)) (fun j => blB (B j)) n (fun q => up2 M 155 17 (nI q)) (n - p) p FU rfl hp (by
    intro q h1 h2 hP
    have hP : blB (B q) = true := hP
    have hb := (m_blank _ (hB.2 q h2)).1 hP
    unfold w_X11_next0_0
    try simp only
    rw [up2_at, see_ok hB (h.up (by omega)) h2, b1_some, lt_eq, up2_up2, nI_inc, b1_some]
    rcases hb with z | z
    · rw [if_pos z]
    · rw [if_neg (by rw [z]; decide), if_pos z]) (by
    intro q h1 h2 hP
    unfold w_X11_next0_0
    try simp only
    rw [up2_at]
    by_cases hq : q < n
    · have hP : ¬ blB (B q) = true := by rw [hP hq]; decide
      have hb := fun z => hP ((m_blank _ (hB.2 q hq)).2 z)
      rw [see_ok hB (h.up (by omega)) hq, b1_some, b1_some, if_neg (fun z => hb (.inl z)), if_neg (fun z => hb (.inr z))]
    · rw [see_out hB (h.up (by omega)) (by omega) (by omega), b1_some, b1_some, if_neg (by decide), if_neg (by decide)]) (by unfold FU; omega)
  have e0 : up2 M 155 17 (nI p) = M := up2_same h17
  rw [e0] at e
  exact e
theorem next_le (hB : okB B n) (h : TPm B n M) {p : Nat} (hp : p ≤ n) (h17 : M 155 17 = nI p) : lp (fun s => w_X11_next0_76 s) FU M = some (up2 M 155 17 (nI (reL B n p))) := by
  have h4 := hB.1
  have e := lp_rn (body := fun s => w_X11_next0_76 s) (fun q => up2 M 155 17 (nI q)) (fun j => leB (B j)) n (fun q => up2 M 155 17 (nI q)) (n - p) p FU rfl hp (by
    intro q h1 h2 hP
    have hP : leB (B q) = true := hP
    unfold w_X11_next0_76
    try simp only
    rw [up2_at, see_ok hB (h.up (by omega)) h2, b1_some, m_letter _ (hB.2 q h2), hP, if_pos rfl, if_neg (by decide), lt_eq, up2_up2, nI_inc]) (by
    intro q h1 h2 hP
    unfold w_X11_next0_76
    try simp only
    rw [up2_at]
    by_cases hq : q < n
    · have hP : leB (B q) = false := hP hq
      rw [see_ok hB (h.up (by omega)) hq, b1_some, m_letter _ (hB.2 q hq), hP, if_pos (by decide)]
    · rw [see_out hB (h.up (by omega)) (by omega) (by omega), b1_some, if_pos (by decide)]) (by unfold FU; omega)
  have e0 : up2 M 155 17 (nI p) = M := up2_same h17
  rw [e0] at e
  exact e
theorem next_di (hB : okB B n) (h : TPm B n M) {p : Nat} (hp : p ≤ n) (h17 : M 155 17 = nI p) (h19 : M 155 19 = nI p) (h20 : M 155 20 = 0) : lp (fun s => w_X11_next0_126 s) FU M = some (up2 (up2 M 155 20 (nI (decG B p (min 4 (reD B n p - p))))) 155 17 (nI (reD B n p))) := by
  have h4 := hB.1
  have e := lp_rn (body := fun s => w_X11_next0_126 s) (fun q => up2 (up2 M 155 20 (nI (decG B p (min 4 (q - p))))) 155 17 (nI q)) (fun j => diB (B j)) n (fun q => up2 (up2 M 155 20 (nI (decG B p (min 4 (q - p))))) 155 17 (nI q)) (n - p) p FU rfl hp (by
    intro q h1 h2 hP
    have hP : diB (B q) = true := hP
    have hd := hP
    unfold diB at hd
    rw [Bool.and_eq_true, decide_eq_true_eq, decide_eq_true_eq] at hd
    unfold w_X11_next0_126
    try simp only
    rw [up2_at, see_ok hB ((h.up (by omega)).up (by omega)) h2, b1_some, m_digit _ (hB.2 q h2), hP, if_pos rfl, if_neg (by decide), b1_some, up2_slot _ _ _ (show (19 : Nat) ≠ 17 by omega), up2_slot _ _ _ (show (19 : Nat) ≠ 20 by omega), h19, show (4 : Int32) = nI 4 from rfl, nI_add, up2_slot _ _ _ (show (20 : Nat) ≠ 17 by omega), up2_at]
    by_cases hq : p + 4 ≤ q
    · rw [if_pos (by rw [nI_le_iff (by omega) (by omega)]; exact hq), lt_eq, up2_up2, nI_inc, show min 4 (q + 1 - p) = min 4 (q - p) from by omega]
    · rw [if_neg (by rw [nI_le_iff (by omega) (by omega)]; exact hq), lt_eq, lt_eq, up2_slot _ _ _ (show (17 : Nat) ≠ 20 by omega), up2_at, nI_inc, up2_4, show min 4 (q + 1 - p) = (q - p) + 1 from by omega, show min 4 (q - p) = q - p from by omega, show (10 : Int32) = nI 10 from rfl, show (48 : Int32) = nI 48 from rfl, nI_mul, nI_add, nI_sub (by omega)]
      have ed : 10 * decG B p (q - p) + B q - 48 = decG B p (q - p + 1) := by
        show _ = 10 * decG B p (q - p) + (B (p + (q - p)) - 48)
        rw [show p + (q - p) = q from by omega]
        omega
      rw [ed]) (by
    intro q h1 h2 hP
    unfold w_X11_next0_126
    try simp only
    rw [up2_at]
    by_cases hq : q < n
    · have hP : diB (B q) = false := hP hq
      rw [see_ok hB ((h.up (by omega)).up (by omega)) hq, b1_some, m_digit _ (hB.2 q hq), hP, if_pos (by decide)]
    · rw [see_out hB ((h.up (by omega)).up (by omega)) (by omega) (by omega), b1_some, if_pos (by decide)]) (by unfold FU; omega)
  have e0 : up2 (up2 M 155 20 (nI (decG B p (min 4 (p - p))))) 155 17 (nI p) = M := by
    rw [Nat.sub_self]
    have : up2 M 155 20 (nI (decG B p (min 4 0))) = M := up2_same h20
    rw [this, up2_same h17]
  rw [e0] at e
  exact e
theorem next0_ok (hB : okB B n) (h : TPm B n M) {r k : Nat} (hr : r < 5) (h12 : M 155 12 = nI r) (h17 : M 155 17 = nI (psT B n k)) : Wq (f_X11_next0 M) (fun M' => RSm B n r k M' ∧ Fn M M') := by
  have h4 := hB.1
  have hpl := pl_le (B := B) (n := n) k
  unfold f_X11_next0
  rw [next_sk hB h (ps_le k) h17, b1_some, lt_eq, up2_at]
  have eps : psT B n (k + 1) = enT B n (plT B n k) := rfl
  have ety : tyT B n k = ty0 B n (plT B n k) := rfl
  have evl : vlT B n k = vl0 B n (plT B n k) := rfl
  have ee : skT B n (psT B n k) = plT B n k := rfl
  rw [ee]
  unfold RSm
  generalize hqe : plT B n k = q at *
  generalize hM9 : up2 (up2 M 155 17 (nI q)) 155 19 (nI q) = M9
  have t9 : TPm B n M9 := by rw [← hM9]; exact (h.up (by omega)).up (by omega)
  have f9 : Fn M M9 := by rw [← hM9]; exact ((Fn.refl M).up (by omega)).up (by omega)
  have g17 : M9 155 17 = nI q := by rw [← hM9, up2_slot _ _ _ (by omega), up2_at]
  have g19 : M9 155 19 = nI q := by rw [← hM9, up2_at]
  have g12 : M9 155 12 = nI r := by rw [f9.2 12 (by omega) (by omega) (by omega) (by omega)]; exact h12
  rw [g17]
  unfold enT at eps
  unfold ty0 at ety
  by_cases hn : n ≤ q
  · rw [if_pos hn] at eps ety
    rw [see_out hB t9 hn (by omega), b1_some, if_pos rfl, lt_eq]
    refine wq_some ⟨⟨t9.up (by omega), ?_, ?_, ?_, ?_, fun z => absurd z (by rw [ety]; decide)⟩, f9.up (by omega)⟩
    · rw [up2_slot _ _ _ (by omega)]; exact g12
    · rw [up2_slot _ _ _ (by omega), eps]; exact g17
    · rw [up2_at, ety]; rfl
    · rw [up2_slot _ _ _ (by omega)]; exact g19
  · rw [if_neg hn] at eps ety
    have hq : q < n := by omega
    have hb := hB.2 q hq
    rw [see_ok hB t9 hq, b1_some, if_neg (nI_neg1 (by omega)), m_letter _ hb, m_digit _ hb]
    by_cases h1 : leB (B q) = true
    · rw [if_pos h1] at eps ety
      have hr1 := re_lt (fun j => leB (B j)) (n := n) hq h1
      have hr2 : q < reL B n q := hr1.1
      have hr3 : reL B n q ≤ n := hr1.2
      rw [if_pos h1, if_neg (by decide), next_le hB t9 (by omega) g17, b1_some]
      rw [word_ok hB (t9.up (by omega)) hr (by rw [up2_slot _ _ _ (by omega)]; exact g12) (by rw [up2_slot _ _ _ (by omega)]; exact g19) (up2_at _ _ _ _) (Nat.le_of_lt hr2) hr3, b1_some, lt_eq]
      refine wq_some ⟨⟨(t9.up (by omega)).up (by omega), ?_, ?_, ?_, ?_, fun z => absurd z ?_⟩, (f9.up (by omega)).up (by omega)⟩
      · rw [up2_slot _ _ _ (by omega), up2_slot _ _ _ (by omega)]; exact g12
      · rw [up2_slot _ _ _ (by omega), eps, up2_at]
      · rw [up2_at, ety]
      · rw [up2_slot _ _ _ (by omega), up2_slot _ _ _ (by omega)]; exact g19
      · rw [ety]
        rcases wcode_rng (bsT B q (reL B n q)) with z | ⟨k, _, z⟩ <;> rw [z] <;> omega
    · rw [if_neg h1] at eps ety
      rw [if_neg h1, if_pos rfl]
      by_cases h2 : diB (B q) = true
      · rw [if_pos h2] at eps ety
        have hr1 := re_lt (fun j => diB (B j)) (n := n) hq h2
        have hr2 : q < reD B n q := hr1.1
        have hr3 : reD B n q ≤ n := hr1.2
        rw [if_pos h2, if_neg (by decide), lt_eq, next_di (p := q) hB (t9.up (by omega)) (by omega) (by rw [up2_slot _ _ _ (by omega)]; exact g17) (by rw [up2_slot _ _ _ (by omega)]; exact g19) (up2_at _ _ _ _), b1_some, lt_eq, lt_eq, up2_at, up2_slot _ _ _ (show (19 : Nat) ≠ 17 by omega), up2_slot _ _ _ (show (19 : Nat) ≠ 20 by omega), up2_slot _ _ _ (show (19 : Nat) ≠ 20 by omega), g19, nI_sub (by omega)]
        refine wq_some ⟨⟨(((t9.up (by omega)).up (by omega)).up (by omega)).up (by omega), ?_, ?_, ?_, ?_, fun z => ?_⟩, (((f9.up (by omega)).up (by omega)).up (by omega)).up (by omega)⟩
        · rw [up2_slot _ _ _ (by omega), up2_slot _ _ _ (by omega), up2_slot _ _ _ (by omega), up2_slot _ _ _ (by omega)]; exact g12
        · rw [up2_slot _ _ _ (by omega), eps, up2_at]
        · rw [up2_at, ety]
          by_cases h3 : reD B n q - q ≤ 4
          · rw [if_pos h3, if_neg (by
              intro z
              have z : nI 5 ≤ nI (reD B n q - q) := z
              rw [nI_le_iff (by omega) (by omega)] at z; omega)]
            rfl
          · rw [if_neg h3, if_pos (by
              show nI 5 ≤ nI (reD B n q - q)
              rw [nI_le_iff (by omega) (by omega)]; omega)]
            rfl
        · rw [up2_slot _ _ _ (by omega), up2_slot _ _ _ (by omega), up2_slot _ _ _ (by omega), up2_slot _ _ _ (by omega)]; exact g19
        · have h3 : reD B n q - q ≤ 4 := by
            rcases Nat.lt_or_ge 4 (reD B n q - q) with y | y
            · rw [ety, if_neg (by omega)] at z
              exact absurd z (by decide)
            · exact y
          rw [up2_slot _ _ _ (by omega), up2_slot _ _ _ (by omega), up2_at, evl, Nat.min_eq_right h3]
          rfl
      · rw [if_neg h2] at eps ety
        rw [if_neg h2, if_pos rfl, lt_eq, nI_inc]
        have fin : ∀ x : Int32, x = nI (trT r (B q)) → Wq (some (up2 (up2 M9 155 17 (nI (q + 1))) 155 18 x)) (fun M' => (TPm B n M' ∧ M' 155 12 = nI r ∧ M' 155 17 = nI (psT B n (k + 1)) ∧ M' 155 18 = nI (trT r (tyT B n k)) ∧ M' 155 19 = nI q ∧ (tyT B n k = 256 → M' 155 20 = nI (vlT B n k))) ∧ Fn M M') := by
          intro x hx
          refine wq_some ⟨⟨(t9.up (by omega)).up (by omega), ?_, ?_, ?_, ?_, fun z => absurd z (by rw [ety]; omega)⟩, (f9.up (by omega)).up (by omega)⟩
          · rw [up2_slot _ _ _ (by omega), up2_slot _ _ _ (by omega)]; exact g12
          · rw [up2_slot _ _ _ (by omega), eps, up2_at]
          · rw [up2_at, ety]; exact hx
          · rw [up2_slot _ _ _ (by omega), up2_slot _ _ _ (by omega)]; exact g19
        have etr : trT r (B q) = if sgB (B q) then 100 + B q else 1 := by
          unfold trT
          rw [if_neg (by omega), if_neg (by omega), if_neg (by omega), if_pos hb]
        by_cases hs : sgB (B q) = true
        · rw [if_pos ((m_sign _ hb).1 hs), lt_eq]
          exact fin _ (by rw [etr, if_pos hs, show (100 : Int32) = nI 100 from rfl, nI_add])
        · rw [if_neg (fun z => hs ((m_sign _ hb).2 z)), lt_eq]
          exact fin _ (by rw [etr, if_neg hs]; rfl)
end NXT
