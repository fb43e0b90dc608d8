/-! ===== PURE PART: the tape as tokens, in the class ===== -/
def decG (B : Nat → Nat) (q : Nat) : Nat → Nat
  | 0 => 0
  | k + 1 => 10 * decG B q k + (B (q + k) - 48)
def skT (B : Nat → Nat) (n p : Nat) : Nat := rnT (fun j => blB (B j)) n p
def reL (B : Nat → Nat) (n q : Nat) : Nat := rnT (fun j => leB (B j)) n q
def reD (B : Nat → Nat) (n q : Nat) : Nat := rnT (fun j => diB (B j)) n q
def enT (B : Nat → Nat) (n q : Nat) : Nat := if n ≤ q then q else if leB (B q) then reL B n q else if diB (B q) then reD B n q else q + 1
def ty0 (B : Nat → Nat) (n q : Nat) : Nat := if n ≤ q then 258 else if leB (B q) then wcode (bsT B q (reL B n q)) else if diB (B q) then (if reD B n q - q ≤ 4 then 256 else 257) else B q
def vl0 (B : Nat → Nat) (n q : Nat) : Nat := decG B q (reD B n q - q)
def psT (B : Nat → Nat) (n : Nat) : Nat → Nat
  | 0 => 0
  | k + 1 => enT B n (skT B n (psT B n k))
def plT (B : Nat → Nat) (n k : Nat) : Nat := skT B n (psT B n k)
def tyT (B : Nat → Nat) (n k : Nat) : Nat := ty0 B n (plT B n k)
def vlT (B : Nat → Nat) (n k : Nat) : Nat := vl0 B n (plT B n k)
def okB (B : Nat → Nat) (n : Nat) : Prop := n ≤ 400 ∧ ∀ j, j < n → B j < 256
section TOK
variable {B : Nat → Nat} {n : Nat} {M : Mem}
theorem sk_le {p : Nat} (hp : p ≤ n) : p ≤ skT B n p ∧ skT B n p ≤ n := by
  have := rnT_spec (fun j => blB (B j)) hp
  exact ⟨this.1, this.2.1⟩
theorem re_lt (P : Nat → Bool) {q : Nat} (hq : q < n) (h : P q = true) : q < rnT P n q ∧ rnT P n q ≤ n := by
  rw [rnT_in P hq h]
  have := rnT_spec P (n := n) (p := q + 1) (by omega)
  exact ⟨by omega, this.2.1⟩
theorem en_le {q : Nat} (hq : q ≤ n) : enT B n q ≤ n ∧ (q < n → q < enT B n q) := by
  unfold enT
  by_cases h : n ≤ q
  · rw [if_pos h]; exact ⟨hq, fun z => absurd z (by omega)⟩
  · rw [if_neg h]
    by_cases h1 : leB (B q) = true
    · rw [if_pos h1]
      have := re_lt (fun j => leB (B j)) (n := n) (q := q) (by omega) h1
      exact ⟨this.2, fun _ => this.1⟩
    · rw [if_neg h1]
      by_cases h2 : diB (B q) = true
      · rw [if_pos h2]
        have := re_lt (fun j => diB (B j)) (n := n) (q := q) (by omega) h2
        exact ⟨this.2, fun _ => this.1⟩
      · rw [if_neg h2]; exact ⟨by omega, fun _ => by omega⟩
theorem ps_le : ∀ k, psT B n k ≤ n
  | 0 => Nat.zero_le _
  | k + 1 => (en_le (sk_le (ps_le k)).2).1
theorem pl_le (k : Nat) : psT B n k ≤ plT B n k ∧ plT B n k ≤ n := sk_le (ps_le k)
theorem ty0_end (hB : okB B n) {q : Nat} : ty0 B n q = 258 ↔ n ≤ q := by
  unfold ty0
  by_cases h : n ≤ q
  · rw [if_pos h]; exact ⟨fun _ => h, fun _ => rfl⟩
  · rw [if_neg h]
    refine ⟨fun e => absurd e ?_, fun e => absurd e h⟩
    by_cases h1 : leB (B q) = true
    · rw [if_pos h1]
      rcases wcode_rng (bsT B q (reL B n q)) with z | ⟨k, _, z⟩ <;> rw [z] <;> omega
    · rw [if_neg h1]
      by_cases h2 : diB (B q) = true
      · rw [if_pos h2]
        by_cases h3 : reD B n q - q ≤ 4
        · rw [if_pos h3]; decide
        · rw [if_neg h3]; decide
      · rw [if_neg h2]
        have := hB.2 q (by omega)
        omega
theorem ty_end (hB : okB B n) {k : Nat} : tyT B n k = 258 ↔ plT B n k = n := by
  unfold tyT
  rw [ty0_end hB]
  have := (pl_le (B := B) (n := n) k).2
  omega
theorem ty_lt (hB : okB B n) (k : Nat) : tyT B n k < 323 := by
  unfold tyT ty0
  by_cases h : n ≤ plT B n k
  · rw [if_pos h]; decide
  · rw [if_neg h]
    by_cases h1 : leB (B (plT B n k)) = true
    · rw [if_pos h1]
      rcases wcode_rng (bsT B (plT B n k) (reL B n (plT B n k))) with z | ⟨k, _, z⟩ <;> rw [z] <;> omega
    · rw [if_neg h1]
      by_cases h2 : diB (B (plT B n k)) = true
      · rw [if_pos h2]
        by_cases h3 : reD B n (plT B n k) - plT B n k ≤ 4
        · rw [if_pos h3]; decide
        · rw [if_neg h3]; decide
      · rw [if_neg h2]
        have := hB.2 (plT B n k) (by omega)
        omega
theorem dec_lt {q : Nat} : ∀ k, (∀ j, j < k → diB (B (q + j)) = true) → decG B q k + 1 ≤ 10 ^ k
  | 0, _ => Nat.le_refl _
  | k + 1, h => by
    have ih := dec_lt k (fun j hj => h j (by omega))
    have hd := h k (by omega)
    unfold diB at hd
    rw [Bool.and_eq_true, decide_eq_true_eq, decide_eq_true_eq] at hd
    show 10 * decG B q k + (B (q + k) - 48) + 1 ≤ 10 ^ (k + 1)
    rw [Nat.pow_succ]
    omega
theorem vl_le (hB : okB B n) {k : Nat} (h : tyT B n k = 256) : vlT B n k ≤ 9999 := by
  unfold tyT ty0 at h
  unfold vlT vl0
  generalize hq : plT B n k = q at h ⊢
  by_cases h0 : n ≤ q
  · rw [if_pos h0] at h; exact absurd h (by decide)
  · rw [if_neg h0] at h
    by_cases h1 : leB (B q) = true
    · rw [if_pos h1] at h
      rcases wcode_rng (bsT B q (reL B n q)) with z | ⟨k, _, z⟩ <;> rw [z] at h <;> omega
    · rw [if_neg h1] at h
      by_cases h2 : diB (B q) = true
      · rw [if_pos h2] at h
        by_cases h3 : reD B n q - q ≤ 4
        · have sp := rnT_spec (fun j => diB (B j)) (n := n) (p := q) (by omega)
          have := dec_lt (B := B) (q := q) (reD B n q - q) (fun j hj => sp.2.2.1 (q + j) (by omega) (by unfold reD at hj; omega))
          have hp : 10 ^ (reD B n q - q) ≤ 10 ^ 4 := Nat.pow_le_pow_right (by omega) h3
          have e4 : 10 ^ 4 = 10000 := rfl
          omega
        · rw [if_neg h3] at h; exact absurd h (by decide)
      · rw [if_neg h2] at h
        have := hB.2 q (by omega)
        omega
theorem tok_end (hB : okB B n) : ∃ N, N ≤ n ∧ tyT B n N = 258 ∧ ∀ k, k < N → tyT B n k ≠ 258 := by
  have key : ∀ m, (∃ N, N ≤ m ∧ tyT B n N = 258 ∧ ∀ k, k < N → tyT B n k ≠ 258) ∨ ((∀ k, k ≤ m → tyT B n k ≠ 258) ∧ m + 1 ≤ psT B n (m + 1)) := by
    intro m
    induction m with
    | zero =>
      by_cases h : tyT B n 0 = 258
      · exact .inl ⟨0, Nat.le_refl _, h, fun k hk => absurd hk (Nat.not_lt_zero _)⟩
      · right
        refine ⟨fun k hk => by have : k = 0 := by omega
                               rw [this]; exact h, ?_⟩
        have h2 : ¬ plT B n 0 = n := fun z => h ((ty_end hB).2 z)
        have h3 := pl_le (B := B) (n := n) 0
        have h4 := (en_le (B := B) h3.2).2 (by omega)
        show 0 + 1 ≤ enT B n (plT B n 0)
        omega
    | succ m ih =>
      rcases ih with ⟨N, h1, h2⟩ | ⟨h1, h2⟩
      · exact .inl ⟨N, by omega, h2⟩
      · by_cases h : tyT B n (m + 1) = 258
        · exact .inl ⟨m + 1, Nat.le_refl _, h, fun k hk => h1 k (by omega)⟩
        · right
          refine ⟨fun k hk => by
            by_cases e : k = m + 1
            · rw [e]; exact h
            · exact h1 k (by omega), ?_⟩
          have h5 : ¬ plT B n (m + 1) = n := fun z => h ((ty_end hB).2 z)
          have h3 := pl_le (B := B) (n := n) (m + 1)
          have h4 := (en_le (B := B) h3.2).2 (by omega)
          show m + 1 + 1 ≤ enT B n (plT B n (m + 1))
          omega
  rcases key n with h | ⟨_, h⟩
  · exact h
  · have := ps_le (B := B) (n := n) (n + 1)
    omega
/-! the class -/
def TPc (B : Nat → Nat) (n : Nat) (M : Mem) : Prop := M 136 4 = nI n ∧ ∀ j, j < n → M 137 j = nI (B j)
theorem byteAt_ok (hB : okB B n) (h : TPc B n M) {p : Nat} (hp : p < n) : f_X9_byteAt (nI p) M = some (nI (B p)) := by
  have h4 := hB.1
  unfold f_X9_byteAt
  rw [h.1, if_neg (by
    rintro (z | z | z)
    · exact nI_nneg (by omega) z
    · rw [nI_le_iff (by omega) (by omega)] at z; omega
    · have z : nI 400 ≤ nI p := z
      rw [nI_le_iff (by omega) (by omega)] at z; omega), rd_nI la_137 (by omega) (by omega), b1_some, h.2 p hp]
theorem behindLetters_ok (hB : okB B n) (h : TPc B n M) {a : Nat} (ha : a ≤ n) : f_X9_behindLetters (nI a) M = some (nI (reL B n a)) := by
  have h4 := hB.1
  unfold f_X9_behindLetters
  have e := lp_rn (body := fun s => w_X9_behindLetters_2 M s) (fun q => nI q) (fun j => leB (B j)) n (fun q => nI q) (n - a) a FU rfl ha (by
    intro q h1 h2 hP
    have hP : leB (B q) = true := hP
    unfold w_X9_behindLetters_2
    try simp only
    rw [h.1, if_neg (by rw [nI_le_iff (by omega) (by omega)]; omega), byteAt_ok hB h h2, b1_some, c_letter _ (hB.2 q h2), hP, if_pos rfl, if_neg (by decide), nI_inc]) (by
    intro q h1 h2 hP
    unfold w_X9_behindLetters_2
    try simp only
    rw [h.1]
    by_cases hq : q < n
    · have hP : leB (B q) = false := hP hq
      rw [if_neg (by rw [nI_le_iff (by omega) (by omega)]; omega), byteAt_ok hB h hq, b1_some, c_letter _ (hB.2 q hq), hP, if_pos (by decide)]
    · rw [if_pos (by rw [nI_le_iff (by omega) (by omega)]; omega)]) (by unfold FU; omega)
  have e : lp (fun s => w_X9_behindLetters_2 M s) FU (nI a) = some (nI (reL B n a)) := e
  rw [e, b1_some]
theorem behindDigits_ok (hB : okB B n) (h : TPc B n M) {a : Nat} (ha : a ≤ n) : f_X9_behindDigits (nI a) M = some (nI (reD B n a)) := by
  have h4 := hB.1
  unfold f_X9_behindDigits
  have e := lp_rn (body := fun s => w_X9_behindDigits_2 M s) (fun q => nI q) (fun j => diB (B j)) n (fun q => nI q) (n - a) a FU rfl ha (by
    intro q h1 h2 hP
    have hP : diB (B q) = true := hP
    unfold w_X9_behindDigits_2
    try simp only
    rw [h.1, if_neg (by rw [nI_le_iff (by omega) (by omega)]; omega), byteAt_ok hB h h2, b1_some, c_digit _ (hB.2 q h2), hP, if_pos rfl, if_neg (by decide), nI_inc]) (by
    intro q h1 h2 hP
    unfold w_X9_behindDigits_2
    try simp only
    rw [h.1]
    by_cases hq : q < n
    · have hP : diB (B q) = false := hP hq
      rw [if_neg (by rw [nI_le_iff (by omega) (by omega)]; omega), byteAt_ok hB h hq, b1_some, c_digit _ (hB.2 q hq), hP, if_pos (by decide)]
    · rw [if_pos (by rw [nI_le_iff (by omega) (by omega)]; omega)]) (by unfold FU; omega)
  have e : lp (fun s => w_X9_behindDigits_2 M s) FU (nI a) = some (nI (reD B n a)) := e
  rw [e, b1_some]
theorem numberBetween_ok (hB : okB B n) (h : TPc B n M) {a b : Nat} (hab : a ≤ b) (hb : b ≤ n) (hd : ∀ q, a ≤ q → q < b → diB (B q) = true) : f_X9_numberBetween (nI a) (nI b) M = some (nI (decG B a (b - a))) := by
  have h4 := hB.1
  unfold f_X9_numberBetween
  have e := lp_for (body := fun s : Int32 × Int32 => w_X9_numberBetween_5 (nI b) M s.1 s.2) (fun k => (nI (decG B a k), nI (a + k))) (b - a) (nI (decG B a (b - a))) (by
    intro k hk
    have hdk := hd (a + k) (by omega) (by omega)
    unfold diB at hdk
    rw [Bool.and_eq_true, decide_eq_true_eq, decide_eq_true_eq] at hdk
    unfold w_X9_numberBetween_5
    try simp only
    rw [if_neg (by rw [nI_le_iff (by omega) (by omega)]; omega), byteAt_ok hB h (by omega), b1_some, show (10 : Int32) = nI 10 from rfl, show (48 : Int32) = nI 48 from rfl, nI_mul, nI_add, nI_sub (by omega), nI_inc]
    show some (Sum.inl (nI (decG B a k * 10 + B (a + k) - 48), nI (a + k + 1))) = some (Sum.inl (nI (10 * decG B a k + (B (a + k) - 48)), nI (a + (k + 1))))
    rw [show decG B a k * 10 + B (a + k) - 48 = 10 * decG B a k + (B (a + k) - 48) from by omega, Nat.add_assoc]) (by
    unfold w_X9_numberBetween_5
    try simp only
    rw [if_pos (by rw [nI_le_iff (by omega) (by omega)]; omega)]) (by omega)
  have e : lp (fun s : Int32 × Int32 => w_X9_numberBetween_5 (nI b) M s.1 s.2) FU (0, nI a) = some (nI (decG B a (b - a))) := e
  rw [e, b1_some]
def wbk (i : Nat) : Nat := WB.getD i 0
def stW : Nat → Nat × Nat
  | 0 => (0, 0)
  | i + 1 => if wbk i = 32 then ((stW i).1 + 1, i + 1) else stW i
def spW : List Nat := [4, 10, 17, 22, 26, 32, 36, 41, 47, 53, 58, 63, 66, 70, 74, 80, 83, 89, 93, 98, 101, 106, 111]
theorem wb_at : ∀ i, i < 112 → strAt 1000001 (nI i) = some (nI (wbk i)) ∧ wbk i < 256 := by decide +kernel
theorem wb_len : strLn 1000001 = some (nI 112) := by decide +kernel
theorem st_le : ∀ i, i < 113 → (stW i).2 ≤ i ∧ (stW i).1 ≤ 23 := by decide +kernel
theorem st_sp : ∀ i, i < 112 → wbk i = 32 → (stW i).1 < 23 ∧ (wdk (stW i).1).length = i - (stW i).2 ∧ ∀ j, j < i - (stW i).2 → (wdk (stW i).1).getD j 0 = wbk ((stW i).2 + j) := by decide +kernel
theorem sp_st : ∀ k, k < 23 → spW.getD k 0 < 112 ∧ wbk (spW.getD k 0) = 32 ∧ (stW (spW.getD k 0)).1 = k := by decide +kernel
theorem isWordAt_ok (hB : okB B n) (h : TPc B n M) {a f t : Nat} (hft : f ≤ t) (ht : t < 112) (ha : a + (t - f) ≤ n) : ∃ x, f_X9_isWordAt (nI a) (nI f) (nI t) M = some x ∧ (x = 0 ↔ ¬ ∀ j, j < t - f → wbk (f + j) = B (a + j)) := by
  have h4 := hB.1
  unfold f_X9_isWordAt
  have e := lp_firstG (body := fun s => w_X9_isWordAt_3 (nI a) (nI f) (nI t) M s) (fun j => decide (wbk j ≠ B (a + j - f))) (fun r => match r with | some _ => Sum.inl () | none => Sum.inr ()) (t - f) f FU (by
    intro j h1 h2 hp
    have hp : wbk j = B (a + j - f) := by simpa using hp
    unfold w_X9_isWordAt_3
    try simp only
    rw [if_neg (by rw [nI_le_iff (by omega) (by omega)]; omega), wb_len, b1_some, if_neg (by rw [nI_le_iff (by omega) (by omega)]; omega), (wb_at j (by omega)).1, b1_some, nI_add, nI_sub (by omega), byteAt_ok hB h (by omega), b1_some, if_pos (by rw [hp]), nI_inc]) (by
    intro j h1 h2 hp
    have hp : ¬ wbk j = B (a + j - f) := by simpa using hp
    have hb := hB.2 (a + j - f) (by omega)
    have hw := (wb_at j (by omega)).2
    unfold w_X9_isWordAt_3
    try simp only
    rw [if_neg (by rw [nI_le_iff (by omega) (by omega)]; omega), wb_len, b1_some, if_neg (by rw [nI_le_iff (by omega) (by omega)]; omega), (wb_at j (by omega)).1, b1_some, nI_add, nI_sub (by omega), byteAt_ok hB h (by omega), b1_some, if_neg (by rw [nI_eq_iff (by omega) (by omega)]; exact hp)]) (by
    unfold w_X9_isWordAt_3
    try simp only
    rw [if_pos (by rw [nI_le_iff (by omega) (by omega)]; omega)]) (by unfold FU; omega)
  rw [e, b1_some]
  cases hf : firstF (fun j => decide (wbk j ≠ B (a + j - f))) f (t - f) with
  | none =>
    refine ⟨1, rfl, fun z => absurd z (by decide), fun z => absurd ?_ z⟩
    intro j hj
    have := firstF_none hf (f + j) (by omega) (by omega)
    have this : wbk (f + j) = B (a + (f + j) - f) := by simpa using this
    rw [this]; congr 1; omega
  | some m =>
    refine ⟨0, rfl, fun _ z => ?_, fun _ => rfl⟩
    obtain ⟨h1, h2, h3⟩ := firstF_lt hf
    have h3 : ¬ wbk m = B (a + m - f) := by simpa using h3
    apply h3
    have := z (m - f) (by omega)
    rw [show f + (m - f) = m from by omega] at this
    rw [this]; congr 1; omega
theorem wordBetween_ok (hB : okB B n) (h : TPc B n M) {a b : Nat} (hab : a ≤ b) (hb : b ≤ n) : f_X9_wordBetween (nI a) (nI b) M = some (nI (wcode (bsT B a b))) := by
  have h4 := hB.1
  unfold f_X9_wordBetween
  have e := lp_firstS (body := fun s : Int32 × Int32 × Int32 => w_X9_wordBetween_10 (nI a) (nI b) M s.1 s.2.1 s.2.2) (fun i => (nI (300 + (stW i).1), nI (stW i).2, nI i)) (fun i => decide (wbk i = 32 ∧ wdk (stW i).1 = bsT B a b)) (fun r => match r with | some i => Sum.inl (nI (300 + (stW i).1)) | none => Sum.inr ()) 112 0 FU (by
    intro j _ hj hp
    have hp : ¬ (wbk j = 32 ∧ wdk (stW j).1 = bsT B a b) := by simpa using hp
    have hj : j < 112 := by omega
    have hw := wb_at j hj
    have hs := (st_le j (by omega)).1
    unfold w_X9_wordBetween_10
    try simp only
    rw [wb_len, b1_some, if_neg (by rw [nI_le_iff (by omega) (by omega)]; omega), hw.1, b1_some]
    by_cases h32 : wbk j = 32
    · have es : stW (j + 1) = ((stW j).1 + 1, j + 1) := by
        show (if wbk j = 32 then ((stW j).1 + 1, j + 1) else stW j) = _
        rw [if_pos h32]
      obtain ⟨t1, t2, t3⟩ := st_sp j hj h32
      rw [if_pos (by rw [h32]; rfl), nI_sub hs, nI_sub hab, es, nI_inc, nI_inc]
      by_cases hl : j - (stW j).2 = b - a
      · rw [if_pos (by rw [hl])]
        obtain ⟨x, e1, e2⟩ := isWordAt_ok hB h (a := a) (f := (stW j).2) (t := j) hs hj (by omega)
        have hx : x = 0 := e2.2 (fun z => hp ⟨h32, (bs_eq (by omega)).2 (fun i hi => by rw [t3 i (by omega)]; exact z i (by omega))⟩)
        rw [e1, b1_some, if_pos hx]
        rfl
      · rw [if_neg (by rw [nI_eq_iff (by omega) (by omega)]; exact hl)]
        rfl
    · have es : stW (j + 1) = stW j := by
        show (if wbk j = 32 then ((stW j).1 + 1, j + 1) else stW j) = _
        rw [if_neg h32]
      rw [if_neg (by
        intro z
        have z : nI (wbk j) = nI 32 := z
        rw [nI_eq_iff (by omega) (by omega)] at z
        exact h32 z), es, nI_inc]) (by
    intro j _ hj hp
    have hp : wbk j = 32 ∧ wdk (stW j).1 = bsT B a b := by simpa using hp
    have hj : j < 112 := by omega
    have hw := wb_at j hj
    have hs := (st_le j (by omega)).1
    obtain ⟨t1, t2, t3⟩ := st_sp j hj hp.1
    have hl : j - (stW j).2 = b - a := by rw [← t2, hp.2, bs_len]
    obtain ⟨x, e1, e2⟩ := isWordAt_ok hB h (a := a) (f := (stW j).2) (t := j) hs hj (by omega)
    have hx : ¬ x = 0 := fun z => (e2.1 z) (fun i hi => by
      rw [← t3 i hi]
      exact (bs_eq (by omega)).1 hp.2 i (by omega))
    unfold w_X9_wordBetween_10
    try simp only
    rw [wb_len, b1_some, if_neg (by rw [nI_le_iff (by omega) (by omega)]; omega), hw.1, b1_some, if_pos (by rw [hp.1]; rfl), nI_sub hs, nI_sub hab, if_pos (by rw [hl]), e1, b1_some, if_neg hx]) (by
    unfold w_X9_wordBetween_10
    try simp only
    rw [wb_len, b1_some, if_pos (by rw [nI_le_iff (by omega) (by omega)]; omega)]) (by unfold FU; omega)
  have e : lp (fun s : Int32 × Int32 × Int32 => w_X9_wordBetween_10 (nI a) (nI b) M s.1 s.2.1 s.2.2) FU (300, 0, 0) = _ := e
  rw [e, b1_some]
  cases hf : firstF (fun i => decide (wbk i = 32 ∧ wdk (stW i).1 = bsT B a b)) 0 112 with
  | none =>
    rw [wcode_none (fun k hk z => by
      obtain ⟨s1, s2, s3⟩ := sp_st k hk
      have := firstF_none hf _ (Nat.zero_le _) (by omega)
      have this : ¬ (wbk (spW.getD k 0) = 32 ∧ wdk (stW (spW.getD k 0)).1 = bsT B a b) := by simpa using this
      exact this ⟨s2, by rw [s3]; exact z⟩)]
    rfl
  | some m =>
    obtain ⟨_, h2, h3⟩ := firstF_lt hf
    have h3 : wbk m = 32 ∧ wdk (stW m).1 = bsT B a b := by simpa using h3
    have := st_sp m (by omega) h3.1
    rw [(wcode_is this.1).2 h3.2]
theorem la_138 : la 138 = some 401 := by decide +kernel
theorem la_139 : la 139 = some 401 := by decide +kernel
theorem la_140 : la 140 = some 401 := by decide +kernel
/-- the tokens that are laid, and what stands beside them -/
def TKc (B : Nat → Nat) (n k : Nat) (M : Mem) : Prop := M 136 5 = nI k ∧ ∀ j, j < k → M 138 j = nI (tyT B n j) ∧ (tyT B n j = 256 → M 139 j = nI (vlT B n j)) ∧ M 140 j = nI (plT B n j)
def Ft (M M' : Mem) : Prop := Out 136 141 M M' ∧ M' 137 = M 137 ∧ ∀ j, j ≠ 5 → M' 136 j = M 136 j
theorem Ft.refl (M : Mem) : Ft M M := ⟨Out.refl _ _ _, rfl, fun _ _ => rfl⟩
theorem Ft.trans {M M1 M2 : Mem} (h : Ft M M1) (h2 : Ft M1 M2) : Ft M M2 := ⟨h.1.trans h2.1, h2.2.1.trans h.2.1, fun j hj => (h2.2.2 j hj).trans (h.2.2 j hj)⟩
theorem TPc.ft {M' : Mem} (h : TPc B n M) (hF : Ft M M') : TPc B n M' := by
  unfold TPc
  rw [hF.2.1, hF.2.2 4 (by omega)]
  exact h
theorem addToken_ok {k : Nat} (hk : k ≤ 400) (h : TKc B n k M) {x v p : Int32} (hx : x = nI (tyT B n k)) (hv : tyT B n k = 256 → v = nI (vlT B n k)) (hp : p = nI (plT B n k)) : Wq (f_X9_addToken x v p M) (fun M' => TKc B n (k + 1) M' ∧ Ft M M') := by
  unfold f_X9_addToken
  rw [h.1, if_neg (by
    rintro (z | z)
    · exact nI_nneg (by omega) z
    · have z : nI 400 < nI k := z
      rw [nI_lt_iff (by omega) (by omega)] at z; omega), wr_nI la_138 (by omega) (by omega), b1_some, up2_cell _ _ _ (by omega), h.1, wr_nI la_139 (by omega) (by omega), b1_some, up2_cell _ _ _ (by omega), up2_cell _ _ _ (by omega), h.1, wr_nI la_140 (by omega) (by omega), b1_some, lt_eq, up2_cell _ _ _ (by omega), up2_cell _ _ _ (by omega), up2_cell _ _ _ (by omega), h.1, nI_inc]
  refine wq_some ⟨⟨up2_at _ _ _ _, ?_⟩, ((((Out.refl _ _ _).up (by omega) (by omega)).up (by omega) (by omega)).up (by omega) (by omega)).up (by omega) (by omega), ?_, ?_⟩
  · intro j hj
    simp only [up2_eq]
    by_cases e : j = k
    · subst e
      simp only [and_self, if_true]
      exact ⟨hx, fun z => by simpa using hv z, by simpa using hp⟩
    · have := h.2 j (by omega)
      simpa [e] using this
  · simp only [up2_cell _ _ _ (show (137 : Nat) ≠ 136 by omega), up2_cell _ _ _ (show (137 : Nat) ≠ 138 by omega), up2_cell _ _ _ (show (137 : Nat) ≠ 139 by omega), up2_cell _ _ _ (show (137 : Nat) ≠ 140 by omega)]
  · intro j hj
    rw [up2_slot _ _ _ hj, up2_cell _ _ _ (by omega), up2_cell _ _ _ (by omega), up2_cell _ _ _ (by omega)]
theorem splitOne_ok (hB : okB B n) (h : TPc B n M) {k : Nat} (hk : k ≤ 400) (hT : TKc B n k M) (hq : plT B n k < n) : Wq (f_X9_splitOne (nI (plT B n k)) M) (fun p => p.2 = nI (psT B n (k + 1)) ∧ TKc B n (k + 1) p.1 ∧ Ft M p.1) := by
  have h4 := hB.1
  have ep : psT B n (k + 1) = enT B n (plT B n k) := rfl
  have et : tyT B n k = ty0 B n (plT B n k) := rfl
  have ev : vlT B n k = vl0 B n (plT B n k) := rfl
  unfold f_X9_splitOne
  generalize hqe : plT B n k = q at *
  have hn : ¬ n ≤ q := by omega
  rw [byteAt_ok hB h hq, b1_some, c_letter _ (hB.2 q hq), c_digit _ (hB.2 q hq)]
  unfold enT at ep
  unfold ty0 at et
  rw [if_neg hn] at ep et
  by_cases h1 : leB (B q) = true
  · rw [if_pos h1] at ep et
    have hr : q < reL B n q ∧ reL B n q ≤ n := re_lt (fun j => leB (B j)) (n := n) hq h1
    rw [if_pos h1, if_neg (by decide), behindLetters_ok hB h (by omega), b1_some, wordBetween_ok hB h (Nat.le_of_lt hr.1) hr.2, b1_some]
    refine wq_b1 (addToken_ok hk hT (by rw [et]) (fun z => absurd z ?_) (by rw [hqe])) ?_
    · rw [et]
      rcases wcode_rng (bsT B q (reL B n q)) with z | ⟨k, _, z⟩ <;> rw [z] <;> omega
    · rintro M' ⟨a1, a2⟩
      exact wq_some ⟨by rw [ep], a1, a2⟩
  · rw [if_neg h1] at ep et
    rw [if_neg h1, if_pos rfl]
    by_cases h2 : diB (B q) = true
    · rw [if_pos h2] at ep et
      have hr := re_lt (fun j => diB (B j)) (n := n) hq h2
      have hr1 : q < reD B n q := hr.1
      have hr2 : reD B n q ≤ n := hr.2
      have sp := rnT_spec (fun j => diB (B j)) (n := n) (p := q) (by omega)
      rw [if_pos h2, if_neg (by decide), behindDigits_ok hB h (by omega), b1_some, lt_eq, nI_sub (by omega), numberBetween_ok hB h (Nat.le_of_lt hr1) hr2 (fun j a b => sp.2.2.1 j a b), b1_some]
      refine wq_b1 (addToken_ok hk hT ?_ (fun _ => by rw [ev]; rfl) (by rw [hqe])) ?_
      · rw [et]
        by_cases h3 : reD B n q - q ≤ 4
        · rw [if_pos h3, if_neg (by
            intro z
            have z : nI 4 < nI (reD B n q - q) := z
            rw [nI_lt_iff (by omega) (by omega)] at z; omega)]
          rfl
        · rw [if_neg h3, if_pos (by
            show nI 4 < nI (reD B n q - q)
            rw [nI_lt_iff (by omega) (by omega)]; omega)]
          rfl
      · rintro M' ⟨a1, a2⟩
        exact wq_some ⟨by rw [ep], a1, a2⟩
    · rw [if_neg h2] at ep et
      rw [if_neg h2, if_pos rfl]
      have hb := hB.2 q hq
      refine wq_b1 (addToken_ok hk hT (by rw [et]) (fun z => absurd z (by rw [et]; omega)) (by rw [hqe])) ?_
      rintro M' ⟨a1, a2⟩
      exact wq_some ⟨by rw [ep, nI_inc], a1, a2⟩
theorem split_ok (hB : okB B n) (h : TPc B n M) {N : Nat} (hN : N ≤ n) (hE : tyT B n N = 258) (hb : ∀ k, k < N → tyT B n k ≠ 258) : Wq (f_X9_split M) (fun M' => TKc B n (N + 1) M' ∧ M' 136 4 = 0 ∧ M' 136 6 = 0 ∧ M' 136 7 = 0 ∧ M' 136 8 = -1 ∧ Out 136 141 M M') := by
  have h4 := hB.1
  unfold f_X9_split
  simp only [lt_eq]
  generalize hM4 : up2 (up2 (up2 (up2 M 136 5 0) 136 6 0) 136 7 0) 136 8 (-1) = M4
  have o4 : Out 136 141 M M4 := by
    rw [← hM4]
    exact ((((Out.refl _ _ _).up (by omega) (by omega)).up (by omega) (by omega)).up (by omega) (by omega)).up (by omega) (by omega)
  have g5 : M4 136 5 = nI 0 := by rw [← hM4]; simp [up2_eq]; rfl
  have g6 : M4 136 6 = 0 := by rw [← hM4]; simp [up2_eq]
  have g7 : M4 136 7 = 0 := by rw [← hM4]; simp [up2_eq]
  have g8 : M4 136 8 = -1 := by rw [← hM4]; simp [up2_eq]
  have t4 : TPc B n M4 := by
    refine ⟨?_, ?_⟩
    · rw [← hM4]; simp [up2_eq]; exact h.1
    · rw [← hM4]; simp only [up2_cell _ _ _ (show (137 : Nat) ≠ 136 by omega)]; exact h.2
  refine wq_b1 (P := fun M' => TKc B n N M' ∧ Ft M4 M') (lp_inv (fun t s => ∃ k p, s.1 = nI p ∧ s.2.1 = nI t ∧ t ≤ p ∧ p ≤ n ∧ skT B n p = plT B n k ∧ k ≤ N ∧ k ≤ p ∧ TKc B n k s.2.2 ∧ Ft M4 s.2.2) n ?_ _ ⟨0, 0, rfl, rfl, Nat.le_refl _, Nat.zero_le _, rfl, Nat.zero_le _, Nat.le_refl _, ⟨g5, fun j hj => absurd hj (Nat.not_lt_zero _)⟩, Ft.refl _⟩ (by omega)) ?_
  · rintro t ⟨i5, i6, Q⟩ ht ⟨k, p, e5, e6, htp, hpn, hsk, hkN, hkp, hTK, hF⟩
    simp only at e5 e6 hTK hF
    subst e5
    subst e6
    have hTP := t4.ft hF
    unfold w_X9_split_24
    try simp only
    rw [hTP.1]
    by_cases hp : p < n
    · rw [if_neg (by
        rintro (z | z)
        · have z : nI 400 ≤ nI t := z
          rw [nI_le_iff (by omega) (by omega)] at z; omega
        · rw [nI_le_iff (by omega) (by omega)] at z; omega), byteAt_ok hB hTP hp, b1_some, c_blank _ (hB.2 p hp)]
      by_cases hbl : blB (B p) = true
      · rw [if_pos hbl, if_neg (by decide), nI_inc, nI_inc]
        refine .inl ⟨by omega, _, rfl, k, p + 1, rfl, rfl, by omega, by omega, ?_, hkN, by omega, hTK, hF⟩
        rw [← hsk]
        exact (rnT_in (fun j => blB (B j)) hp hbl).symm
      · rw [if_neg hbl, if_pos rfl]
        have epl : plT B n k = p := by rw [← hsk]; exact rnT_out (fun j => blB (B j)) (fun _ => by simpa using hbl)
        have hkN2 : k < N := by
          rcases Nat.lt_or_ge k N with z | z
          · exact z
          · have : k = N := by omega
            rw [this] at epl
            have := (ty_end hB).1 hE
            omega
        obtain ⟨⟨M', x⟩, e1, e2, e3, e4⟩ := splitOne_ok hB hTP (k := k) (by omega) hTK (by omega)
        simp only at e2 e3 e4
        rw [epl] at e1
        rw [e1, b2_some, e2, nI_inc]
        have hps := ps_le (B := B) (n := n) (k + 1)
        have hgt : p < psT B n (k + 1) := by
          have := (en_le (B := B) (n := n) (q := plT B n k) (by omega)).2 (by omega)
          show p < enT B n (plT B n k)
          omega
        exact .inl ⟨by omega, _, rfl, k + 1, psT B n (k + 1), rfl, rfl, by omega, hps, rfl, hkN2, by omega, e3, hF.trans e4⟩
    · have hpe : p = n := by omega
      rw [if_pos (.inr (by rw [nI_le_iff (by omega) (by omega)]; omega))]
      have epl : plT B n k = n := by rw [← hsk, hpe]; exact rnT_out (fun j => blB (B j)) (fun z => absurd z (by omega))
      have : k = N := by
        rcases Nat.lt_or_ge k N with z | z
        · exact absurd ((ty_end hB).2 epl) (hb k z)
        · omega
      subst this
      exact .inr ⟨_, rfl, hTK, hF⟩
  · rintro Q ⟨hTK, hF⟩
    have hTP := t4.ft hF
    rw [hTP.1]
    refine wq_b1 (addToken_ok (by omega) hTK (by rw [hE]; rfl) (fun z => absurd z (by rw [hE]; decide)) (by rw [(ty_end hB).1 hE])) ?_
    rintro M' ⟨a1, a2⟩
    have hF2 := hF.trans a2
    refine wq_some ⟨⟨by rw [up2_slot _ _ _ (by omega)]; exact a1.1, fun j hj => ?_⟩, up2_at _ _ _ _, ?_, ?_, ?_, (o4.trans hF2.1).up (by omega) (by omega)⟩
    · rw [up2_cell _ _ _ (by omega), up2_cell _ _ _ (by omega), up2_cell _ _ _ (by omega)]
      exact a1.2 j hj
    · rw [up2_slot _ _ _ (by omega), hF2.2.2 6 (by omega)]; exact g6
    · rw [up2_slot _ _ _ (by omega), hF2.2.2 7 (by omega)]; exact g7
    · rw [up2_slot _ _ _ (by omega), hF2.2.2 8 (by omega)]; exact g8
end TOK
