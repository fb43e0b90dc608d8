/-! ===== PURE PART: goes ===== -/
theorem sNote_f (A : AS) (a b c : Int32) : sNote false A a b c = A := by unfold sNote; rw [if_neg (by simp)]
theorem feast_b (A : AS) (k : Nat) (g : Int32) : (sFeast false A k g).1.2.1 5 = A.2.1 5 := by
  unfold sFeast
  by_cases hf : (A.2.1 4).1 < 14
  · rw [if_pos hf]
    by_cases hz : leftS A k g ≤ 0
    · rw [if_pos hz, sNote_f]; rfl
    · rw [if_neg hz, sNote_f]; rfl
  · rw [if_neg hf, sNote_f]; rfl
theorem feG_b (A : AS) : ∀ j, (feG false A j).2.1 5 = A.2.1 5
  | 0 => rfl
  | j + 1 => by
    show (if _ then _ else _ : AS).2.1 5 = _
    by_cases q : (A.2.1 1).2 j 0 = A.1 0
    · rw [if_pos q, feast_b]; exact feG_b A j
    · rw [if_neg q]; exact feG_b A j
theorem meet_b (A : AS) (i : Nat) : (sMeet false A i).2.1 5 = A.2.1 5 := by unfold sMeet; rw [sNote_f]; rfl
theorem wtG_b (A : AS) : ∀ i, (wtG false A i).1.2.1 5 = A.2.1 5
  | 0 => rfl
  | i + 1 => by
    by_cases q : canMeet (wtG false A i).1 i
    · rw [wtG_go q]; show (sMeet false _ i).2.1 5 = _; rw [meet_b]; exact wtG_b A i
    · rw [wtG_skip q]; exact wtG_b A i
theorem lose_b (A : AS) (i : Nat) (w : Int32) : (sLose false A i w).2.1 5 = A.2.1 5 := by unfold sLose; rw [sNote_f]; rfl
theorem spG_b (A : AS) : ∀ k, (spG false A k).1.2.1 5 = A.2.1 5
  | 0 => rfl
  | k + 1 => by
    have ih := spG_b A k
    show (spStep false _ _).1.2.1 5 = _
    unfold spStep
    split
    · rw [if_neg (by simp)]; exact ih
    · rw [lose_b]; exact ih
theorem day_b (A : AS) : (dayA false A).2.1 5 = A.2.1 5 := by
  unfold dayA eveA
  rw [if_neg (by simp)]
  show (spG false (mornA false A).1 _).1.2.1 5 = _
  rw [spG_b]
  unfold mornA
  rw [wtG_b, feG_b]
def missP (A : AS) (i : Nat) : Bool := decide ((A.2.1 2).2 i 2 = A.1 0 ∧ f_X10_isIn (A.1 5) (nI i) = 0)
def missI (A : AS) : Int32 := optI (firstF (missP A) 0 (A.2.1 2).1)
theorem firstMissed_c {t : Bool} {o : Nat} {A : AS} {M : Mem} (h : RMk t o A M) : f_X6_firstMissed o M = some (missI A) := by
  have hT := h.t2
  have hd : M o 10 = A.1 0 := h.1.2.1
  have hn : (A.2.1 2).1 ≤ 12 := hT.le
  have hcn : M (o + 5) 3 = nI (A.2.1 2).1 := hT.cnt
  unfold f_X6_firstMissed missI
  have rd2 : ∀ j, j < (A.2.1 2).1 → f_X8_at (o + 5) (nI j) 2 M = some ((A.2.1 2).2 j 2) := fun j hj => at_lit hT 2 rfl hj (by omega)
  have rd4' : ∀ j, j < (A.2.1 2).1 → f_X8_at (o + 5) (nI j) 4 M = some (f_X10_isIn (A.1 5) (nI j)) := fun j hj => at_lit hT 4 rfl hj (by omega)
  have key := lp_first (body := fun s => w_X6_firstMissed_2 o M s) (missP A) (fun r => match r with | some j => .inl (nI j) | none => .inr ()) (A.2.1 2).1 (by
    intro j hj hp
    have hp : ¬ ((A.2.1 2).2 j 2 = A.1 0 ∧ f_X10_isIn (A.1 5) (nI j) = 0) := by unfold missP at hp; exact of_decide_eq_false hp
    simp only [w_X6_firstMissed_2]
    rw [hcn, if_neg (by rw [nI_le_iff (by omega) (by omega)]; omega), rd2 j hj, b1_some, hd]
    by_cases q : (A.2.1 2).2 j 2 = A.1 0
    · rw [if_pos q, rd4' j hj, b1_some, if_neg (fun z => hp ⟨q, z⟩), nI_inc]
    · rw [if_neg q, nI_inc]) (by
    intro j hj hp
    have hp : (A.2.1 2).2 j 2 = A.1 0 ∧ f_X10_isIn (A.1 5) (nI j) = 0 := by unfold missP at hp; exact of_decide_eq_true hp
    simp only [w_X6_firstMissed_2]
    rw [hcn, if_neg (by rw [nI_le_iff (by omega) (by omega)]; omega), rd2 j hj, b1_some, hd, if_pos hp.1, rd4' j hj, b1_some, if_pos hp.2]) (by
    simp only [w_X6_firstMissed_2]
    rw [hcn, if_pos (by rw [nI_le_iff (by omega) (by omega)]; omega)]) (by omega)
  rw [key, b1_some]
  cases firstF (missP A) 0 (A.2.1 2).1 with
  | none => rfl
  | some j => rfl
theorem firstMissed_m {A : AS} {M : Mem} (h : RMm 156 A M) : f_X11_firstMissed M = some (missI A) := by
  have hcn : M 156 85 = nI (A.2.1 2).1 := (h.2.1 2 (by omega)).1
  have hn : (A.2.1 2).1 ≤ 12 := (h.2.1 2 (by omega)).2.1
  have hd : M 156 0 = A.1 0 := h.1 0 (by omega)
  unfold f_X11_firstMissed missI
  have key := lp_first (body := fun s => w_X11_firstMissed_2 M s) (missP A) (fun r => match r with | some j => .inl (nI j) | none => .inr ()) (A.2.1 2).1 (by
    intro j hj hp
    have hp : ¬ ((A.2.1 2).2 j 2 = A.1 0 ∧ f_X10_isIn (A.1 5) (nI j) = 0) := by unfold missP at hp; exact of_decide_eq_false hp
    simp only [w_X11_firstMissed_2]
    rw [hcn, if_neg (by rw [nI_le_iff (by omega) (by omega)]; omega), ofWant_ok h hj 2 rfl (by omega), b1_some, hd, isMet_eq h, if_neg hp, nI_inc]) (by
    intro j hj hp
    have hp : (A.2.1 2).2 j 2 = A.1 0 ∧ f_X10_isIn (A.1 5) (nI j) = 0 := by unfold missP at hp; exact of_decide_eq_true hp
    simp only [w_X11_firstMissed_2]
    rw [hcn, if_neg (by rw [nI_le_iff (by omega) (by omega)]; omega), ofWant_ok h hj 2 rfl (by omega), b1_some, hd, isMet_eq h, if_pos hp]) (by
    simp only [w_X11_firstMissed_2]
    rw [hcn, if_pos (by rw [nI_le_iff (by omega) (by omega)]; omega)]) (by omega)
  rw [key, b1_some]
  cases firstF (missP A) 0 (A.2.1 2).1 with
  | none => rfl
  | some j => rfl
noncomputable def gyG (A : AS) : Nat → AS × Int32
  | 0 => (A, -1)
  | k + 1 => (dayA false (gyG A k).1, if (gyG A k).2 = -1 then missI (mornA false (gyG A k).1).1 else (gyG A k).2)
theorem gyG_ok {A : AS} (h : OKX A) (hk : (A.2.1 0).1 ≤ 6) (hw : (A.2.1 2).1 ≤ 12) : ∀ k, OKX (gyG A k).1 ∧ Kd A (gyG A k).1 ∧ (gyG A k).1.2.1 5 = A.2.1 5
  | 0 => ⟨h, Kd.refl _, rfl⟩
  | k + 1 => by
    obtain ⟨a1, a2, a3⟩ := gyG_ok h hk hw k
    obtain ⟨b1, b2, b3, b4⟩ := dayA_x (t := false) a1 (by rw [a2.1 0 (by omega) (by omega)]; exact hk) (by rw [a2.1 2 (by omega) (by omega)]; exact hw)
    exact ⟨b1, a2.trans b2, by show (dayA false _).2.1 5 = _; rw [day_b]; exact a3⟩
theorem RMk.thought {o : Nat} {A : AS} {M : Mem} (h : RMk true o A M) : RMk false o A M := by
  obtain ⟨h1, ⟨t0, t1, t2, t3, t4, B, t5, _⟩, h3⟩ := h
  exact ⟨h1, ⟨t0, t1, t2, t3, t4, B, t5, fun z => by cases z⟩, h3⟩
theorem goes_c {A : AS} {M : Mem} (h : RMk false 53 A M) (hx : OKX A) {n : Nat} (hn : n ≤ 60) : Wq (lp (fun s => w_X10_goes_38 (nI n) s.1 s.2.1 s.2.2) FU (-1, 0, M)) (fun r => r.1 = (gyG A n).2 ∧ RMk false 53 (gyG A n).1 r.2 ∧ Out 53 79 M r.2) := by
  have hk6 : (A.2.1 0).1 ≤ 6 := h.t0.le
  have hw : (A.2.1 2).1 ≤ 12 := h.t2.le
  refine lp_to (fun k s => s.1 = (gyG A k).2 ∧ s.2.1 = nI k ∧ RMk false 53 (gyG A k).1 s.2.2 ∧ Out 53 79 M s.2.2) n ?_ ?_ _ (by exact ⟨rfl, rfl, h, Out.refl _ _ _⟩) (by omega)
  · rintro k ⟨a, x, N⟩ hk ⟨ha, hx', hR, hO⟩
    simp only at ha hx' hR hO
    subst ha hx'
    obtain ⟨y1, y2, y3⟩ := gyG_ok hx hk6 hw k
    have e0 := y2.1 0 (by omega) (by omega)
    have e2 := y2.1 2 (by omega) (by omega)
    obtain ⟨x1, x2, x3⟩ := mornA_x (t := false) y1 (by rw [e0]; exact hk6) (by rw [e2]; exact hw)
    unfold w_X10_goes_38
    simp only
    rw [if_neg (by rw [nI_le_iff (by omega) (by omega)]; omega)]
    obtain ⟨⟨N2, w⟩, b1, b2, b3, b4⟩ := beginDay_ok (t := false) mkAt_53 hR y1
    simp only at b2 b3 b4
    obtain ⟨N3, c1, c2, c3⟩ := endDay_ok (t := false) mkAt_53 b3 x1 (a1 := 1) rfl
    rw [b1, b2_some]
    have eg : gyG A (k + 1) = (dayA false (gyG A k).1, if (gyG A k).2 = -1 then missI (mornA false (gyG A k).1).1 else (gyG A k).2) := rfl
    by_cases q : (gyG A k).2 = -1
    · rw [if_pos q] at eg
      rw [if_pos q, firstMissed_c b3, b1_some, c1, b1_some, nI_inc]
      exact ⟨_, rfl, by rw [eg], rfl, by rw [eg]; exact c2, (hO.trans b4).trans c3⟩
    · rw [if_neg q] at eg
      rw [if_neg q, c1, b1_some, nI_inc]
      exact ⟨_, rfl, by rw [eg], rfl, by rw [eg]; exact c2, (hO.trans b4).trans c3⟩
  · rintro ⟨a, x, N⟩ ⟨ha, hx', hR, hO⟩
    simp only at ha hx' hR hO
    subst ha hx'
    unfold w_X10_goes_38
    simp only
    rw [if_pos (by rw [nI_le_iff (by omega) (by omega)]; omega)]
    exact ⟨_, rfl, rfl, hR, hO⟩
theorem goes_m {A : AS} {M : Mem} (h : RMm 156 A M) (ht : M 155 26 = 0) (hx : OKX A) {n : Nat} (hn : n ≤ 60) : Wq (lp (fun s => w_X11_goes_59 (nI n) s.1 s.2.1 s.2.2) FU (-1, 0, M)) (fun r => r.1 = (gyG A n).2 ∧ RMm 156 (gyG A n).1 r.2 ∧ Mo M r.2) := by
  have hk6 : (A.2.1 0).1 ≤ 6 := (h.2.1 0 (by omega)).2.1
  have hw : (A.2.1 2).1 ≤ 12 := (h.2.1 2 (by omega)).2.1
  refine lp_to (fun k s => s.1 = (gyG A k).2 ∧ s.2.1 = nI k ∧ RMm 156 (gyG A k).1 s.2.2 ∧ Mo M s.2.2) n ?_ ?_ _ (by exact ⟨rfl, rfl, h, Mo.refl _⟩) (by omega)
  · rintro k ⟨a, x, N⟩ hk ⟨ha, hx', hR, hO⟩
    simp only at ha hx' hR hO
    subst ha hx'
    obtain ⟨y1, y2, y3⟩ := gyG_ok hx hk6 hw k
    have e0 := y2.1 0 (by omega) (by omega)
    have e2 := y2.1 2 (by omega) (by omega)
    obtain ⟨x1, x2, x3⟩ := mornA_x (t := false) y1 (by rw [e0]; exact hk6) (by rw [e2]; exact hw)
    have htN : N 155 26 = 0 := by rw [hO 155 (by omega) (by omega) (by omega)]; exact ht
    unfold w_X11_goes_59
    simp only
    rw [if_neg (by rw [nI_le_iff (by omega) (by omega)]; omega)]
    obtain ⟨⟨N2, w⟩, b1, b2, b3, b4⟩ := morning_ok (t := false) hR (by rw [htN]; rfl) y1
    simp only at b2 b3 b4
    obtain ⟨N3, c1, c2, c3⟩ := evening_ok (t := false) b3 (by rw [b4 155 (by omega) (by omega) (by omega), htN]; rfl) x1
    rw [b1, b2_some]
    have eg : gyG A (k + 1) = (dayA false (gyG A k).1, if (gyG A k).2 = -1 then missI (mornA false (gyG A k).1).1 else (gyG A k).2) := rfl
    by_cases q : (gyG A k).2 = -1
    · rw [if_pos q] at eg
      rw [if_pos q, firstMissed_m b3, b1_some, c1, b1_some, nI_inc]
      exact ⟨_, rfl, by rw [eg], rfl, by rw [eg]; exact c2, (hO.trans b4).trans c3⟩
    · rw [if_neg q] at eg
      rw [if_neg q, c1, b1_some, nI_inc]
      exact ⟨_, rfl, by rw [eg], rfl, by rw [eg]; exact c2, (hO.trans b4).trans c3⟩
  · rintro ⟨a, x, N⟩ ⟨ha, hx', hR, hO⟩
    simp only at ha hx' hR hO
    subst ha hx'
    unfold w_X11_goes_59
    simp only
    rw [if_pos (by rw [nI_le_iff (by omega) (by omega)]; omega)]
    exact ⟨_, rfl, rfl, hR, hO⟩
theorem la_159 : la 159 = some 80 := by decide +kernel
theorem lie_put (M : Mem) : Wq (lp (fun s => w_X11_goes_25 s.1 s.2) FU (0, M)) (fun M' => (∀ x, x < 80 → M' 159 x = M 156 x) ∧ Out 159 160 M M') := by
  refine lp_to (fun k s => s.1 = nI k ∧ (∀ x, x < k → s.2 159 x = M 156 x) ∧ Out 159 160 M s.2) 80 ?_ ?_ _ ⟨rfl, fun x hx => absurd hx (Nat.not_lt_zero _), Out.refl _ _ _⟩ (by omega)
  · rintro k ⟨i, N⟩ hk ⟨hi, hx, hO⟩
    simp only at hi hx hO
    subst hi
    unfold w_X11_goes_25
    simp only
    rw [if_neg (by
      intro q
      have q : nI 80 ≤ nI k := q
      rw [nI_le_iff (by omega) (by omega)] at q; omega), rd_nI la_156 (by omega) (by omega), b1_some, wr_nI la_159 (by omega) (by omega), b1_some, nI_inc, hO 156 (by omega)]
    refine ⟨_, rfl, rfl, ?_, hO.up (by omega) (by omega)⟩
    intro x hx'
    simp only [up2_eq, true_and]
    by_cases q : x = k
    · rw [if_pos q, q]
    · rw [if_neg q]; exact hx x (by omega)
  · rintro ⟨i, N⟩ ⟨hi, hx, hO⟩
    simp only at hi hx hO
    subst hi
    unfold w_X11_goes_25
    simp only
    rw [if_pos (by decide)]
    exact ⟨_, rfl, hx, hO⟩
theorem lie_get (M : Mem) : Wq (lp (fun s => w_X11_goes_146 s.1 s.2) FU (0, M)) (fun M' => (∀ x, M' 156 x = if x < 80 then M 159 x else M 156 x) ∧ Out 156 157 M M') := by
  refine lp_to (fun k s => s.1 = nI k ∧ (∀ x, s.2 156 x = if x < k then M 159 x else M 156 x) ∧ Out 156 157 M s.2) 80 ?_ ?_ _ ⟨rfl, fun x => (by simp only; rw [if_neg (by omega)]), Out.refl _ _ _⟩ (by omega)
  · rintro k ⟨i, N⟩ hk ⟨hi, hx, hO⟩
    simp only at hi hx hO
    subst hi
    unfold w_X11_goes_146
    simp only
    rw [if_neg (by
      intro q
      have q : nI 80 ≤ nI k := q
      rw [nI_le_iff (by omega) (by omega)] at q; omega), rd_nI la_159 (by omega) (by omega), b1_some, wr_nI la_156 (by omega) (by omega), b1_some, nI_inc, hO 159 (by omega)]
    refine ⟨_, rfl, rfl, ?_, hO.up (by omega) (by omega)⟩
    intro x
    simp only [up2_eq, true_and]
    by_cases q : x = k
    · rw [if_pos q, if_pos (by omega), q]
    · rw [if_neg q, hx]
      by_cases q2 : x < k
      · rw [if_pos q2, if_pos (by omega)]
      · rw [if_neg q2, if_neg (by omega)]
  · rintro ⟨i, N⟩ ⟨hi, hx, hO⟩
    simp only at hi hx hO
    subst hi
    unfold w_X11_goes_146
    simp only
    rw [if_pos (by decide)]
    exact ⟨_, rfl, hx, hO⟩
theorem lie_a : w_X11_goes_146a = w_X11_goes_146 := rfl
theorem lie_b : w_X11_goes_146b = w_X11_goes_146 := rfl
/-- what was thought is put back -/
theorem lie_back {A B : AS} {M N K : Mem} (h : RMm 156 A M) (hB : RMm 156 B N) (hk : Kd A B) (h5 : B.2.1 5 = A.2.1 5) (hL : A.2.2.length ≤ 16) (hx : ∀ x, K 156 x = if x < 80 then M 156 x else N 156 x) : RMm 156 A K := by
  have big : ∀ k, k < 10 → k ≠ 4 → k ≠ 5 → ∀ j, inReg k j → 80 ≤ j := by
    intro k hk h4 h5 j hj
    rcases lt10 hk with rfl | rfl | rfl | rfl | rfl | rfl | rfl | rfl | rfl | rfl <;> first | exact absurd rfl h4 | exact absurd rfl h5 | (simp [inReg, tcn, tbs, twd, tmx] at hj; omega)
  refine ⟨?_, ?_, ?_⟩
  · intro k hk8
    rw [hx]
    by_cases q : k < 6
    · rw [if_pos (nsl_80 q)]; exact h.1 k hk8
    · have : k = 6 ∨ k = 7 := by omega
      rcases this with rfl | rfl
      · rw [if_neg (by decide), hB.1 6 hk8]; exact hk.2.2.1
      · rw [if_neg (by decide), hB.1 7 hk8]; exact hk.2.2.2.1
  · intro k hk10
    by_cases q4 : k = 4
    · subst q4
      refine (h.2.1 4 hk10).congr ?_
      intro j hj
      have hj : j = 7 ∨ (8 ≤ j ∧ j < 8 + 14 * 5) := hj
      rw [hx, if_pos (by omega)]
    · by_cases q5 : k = 5
      · subst q5
        have hA := h.2.1 5 hk10
        have hB' := hB.2.1 5 hk10
        rw [h5] at hB'
        refine ⟨?_, hA.2.1, ?_⟩
        · show K 156 5 = _
          rw [hx, if_pos (by omega)]; exact hA.1
        · intro r j hr hj
          show K 156 (370 + (r * 4 + j)) = _
          rw [hx, if_neg (by omega)]
          exact hB'.2.2 r j hr hj
      · have hB' := hB.2.1 k hk10
        rw [hk.1 k q4 q5] at hB'
        refine hB'.congr ?_
        intro j hj
        have := big k hk10 q4 q5 j hj
        rw [hx, if_neg (by omega)]
  · have hB' := hB.2.2
    rw [hk.2.1] at hB'
    refine hB'.congr hL ?_
    intro j hj
    rw [hx, if_neg (by omega)]
