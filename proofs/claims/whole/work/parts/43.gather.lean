/-! ===== PURE PART: what the finder gathers ===== -/
theorem topS_all (sz : Nat → Nat) : ∀ L a b, L ≤ a → a ≤ b → topS sz L b = topS sz L a
  | 0, a, b, _, _ => rfl
  | L + 1, a, b, ha, hb => by
    obtain ⟨a', rfl⟩ : ∃ a', a = a' + 1 := ⟨a - 1, by omega⟩
    obtain ⟨b', rfl⟩ : ∃ b', b = b' + 1 := ⟨b - 1, by omega⟩
    rw [topS_succ, topS_succ, topS_all sz L (a' + 1) (b' + 1) (by omega) (by omega), topS_all sz L a' b' (by omega) (by omega)]
theorem topS_congr {sz sz' : Nat → Nat} : ∀ L m, (∀ j, j < L → sz j = sz' j) → topS sz L m = topS sz' L m
  | 0, m, _ => rfl
  | L + 1, 0, _ => rfl
  | L + 1, m + 1, h => by
    rw [topS_succ, topS_succ, topS_congr L (m + 1) (fun j hj => h j (by omega)), topS_congr L m (fun j hj => h j (by omega)), h L (by omega)]
def insF (fl : Nat → Nat) (q s : Nat) : Nat → Nat := fun j => if j < q then fl j else if j = q then s else fl (j - 1)
theorem preS_congr {f g : Nat → Nat} : ∀ m, (∀ j, j < m → f j = g j) → preS f m = preS g m
  | 0, _ => rfl
  | m + 1, h => by
    show preS f m + f m = preS g m + g m
    rw [preS_congr m (fun j hj => h j (by omega)), h m (by omega)]
theorem pre_ins (fl : Nat → Nat) (q s : Nat) : ∀ m, preS (insF fl q s) m = if m ≤ q then preS fl m else preS fl (m - 1) + s
  | 0 => by rw [if_pos (Nat.zero_le _)]; rfl
  | m + 1 => by
    show preS (insF fl q s) m + insF fl q s m = _
    rw [pre_ins fl q s m]
    unfold insF
    by_cases h1 : m + 1 ≤ q
    · rw [if_pos (by omega), if_pos (by omega), if_pos h1]; rfl
    · rw [if_neg h1, Nat.add_sub_cancel]
      by_cases h2 : m = q
      · rw [if_pos (by omega), if_neg (by omega), if_pos h2]
      · rw [if_neg (by omega), if_neg (by omega), if_neg h2]
        obtain ⟨k, rfl⟩ : ∃ k, m = k + 1 := ⟨m - 1, by omega⟩
        show preS fl k + s + fl k = preS fl k + fl k + s
        omega
theorem ins_top {sz fl : Nat → Nat} {c q s : Nat} (hq : q ≤ c) (hlo : ∀ j, j < q → s ≤ fl j) (hhi : ∀ j, q ≤ j → j < c → fl j < s) (hpre : ∀ m, m ≤ c → preS fl m = topS sz c m) (hs : sz c = s) : ∀ m, m ≤ c + 1 → preS (insF fl q s) m = topS sz (c + 1) m := by
  intro m hm
  cases m with
  | zero => rfl
  | succ m =>
    rw [pre_ins, topS_succ, hs, Nat.add_sub_cancel]
    by_cases h1 : m + 1 ≤ q
    · have a1 := hpre (m + 1) (by omega)
      have a2 := hpre m (by omega)
      have a3 : preS fl (m + 1) = preS fl m + fl m := rfl
      have a4 := hlo m (by omega)
      rw [if_pos h1, if_neg (by omega)]
      exact a1
    · rw [if_neg h1]
      have a2 := hpre m (by omega)
      by_cases h2 : m < c
      · have a1 := hpre (m + 1) (by omega)
        have a3 : preS fl (m + 1) = preS fl m + fl m := rfl
        have a4 := hhi m (by omega) h2
        rw [if_pos (by omega)]
        omega
      · have e := topS_all sz c m (m + 1) (by omega) (by omega)
        by_cases h3 : topS sz c (m + 1) < topS sz c m + s
        · rw [if_pos h3]; omega
        · rw [if_neg h3]; omega
theorem addFalling_ok {o c s : Nat} {fl : Nat → Nat} {M : Mem} (hl : la (o + 3) = some 14) (hc : c ≤ 13) (h3 : M o 3 = nI c) (hf : ∀ j, j < c → M (o + 3) j = nI (fl j) ∧ fl j ≤ 99) (hd : ∀ j j', j < j' → j' < c → fl j' ≤ fl j) (hs : s ≤ 99) : Wq (f_X1_addFalling o (nI s) M) (fun M' => (∃ q, q ≤ c ∧ (∀ j, j < q → s ≤ fl j) ∧ (∀ j, q ≤ j → j < c → fl j < s) ∧ ∀ j, j < c + 1 → M' (o + 3) j = nI (insF fl q s j)) ∧ Out (o + 3) (o + 4) M M') := by
  unfold f_X1_addFalling
  rw [h3]
  refine wq_b1 (P := fun r => (∃ q, q ≤ c ∧ r.1 = nI q ∧ (∀ j, j < q → s ≤ fl j) ∧ (∀ j, q ≤ j → j < c → fl j < s) ∧ (∀ j, j < q → r.2 (o + 3) j = nI (fl j)) ∧ ∀ j, q < j → j < c + 1 → r.2 (o + 3) j = nI (fl (j - 1))) ∧ Out (o + 3) (o + 4) M r.2) (lp_inv (fun t r => t ≤ c ∧ r.1 = nI (c - t) ∧ (∀ j, c - t ≤ j → j < c → fl j < s) ∧ (∀ j, j < c - t → r.2 (o + 3) j = nI (fl j)) ∧ (∀ j, c - t < j → j < c + 1 → r.2 (o + 3) j = nI (fl (j - 1))) ∧ Out (o + 3) (o + 4) M r.2) c ?_ _ ?_ (by omega)) ?_
  · rintro t ⟨i, N⟩ ht ⟨_, hi, hhi, hlo, hup, hO⟩
    simp only at hi hhi hlo hup hO
    subst hi
    unfold w_X1_addFalling_5
    simp only
    by_cases z : c - t = 0
    · right
      rw [if_pos (.inl (by rw [z]; decide))]
      exact ⟨_, rfl, ⟨c - t, by omega, rfl, fun j hj => by omega, hhi, hlo, hup⟩, hO⟩
    · rw [if_neg (by
        rintro (y | y)
        · have y : nI (c - t) ≤ nI 0 := y
          rw [nI_le_iff (by omega) (by omega)] at y; omega
        · have y : nI 14 ≤ nI (c - t) := y
          rw [nI_le_iff (by omega) (by omega)] at y; omega), nI_dec' (by omega), rd_nI hl (by omega) (by omega), b1_some, hlo _ (by omega)]
      have hfl := (hf (c - t - 1) (by omega)).2
      by_cases y : s ≤ fl (c - t - 1)
      · right
        rw [if_pos (nI_le y (by omega))]
        refine ⟨_, rfl, ⟨c - t, by omega, rfl, ?_, hhi, hlo, hup⟩, hO⟩
        intro j hj
        by_cases e : j = c - t - 1
        · rw [e]; exact y
        · have := hd j (c - t - 1) (by omega) (by omega)
          omega
      · left
        rw [if_neg (nI_ge (by omega) (by omega)), b1_some, wr_nI hl (by omega) (by omega), b1_some, nI_dec (by omega)]
        refine ⟨by omega, _, rfl, by omega, by show nI (c - t - 1) = nI (c - (t + 1)); congr 1, ?_, ?_, ?_, hO.up (by omega) (by omega)⟩
        · intro j h1 h2
          by_cases e : j = c - t - 1
          · rw [e]; omega
          · exact hhi j (by omega) h2
        · intro j hj
          simp only
          rw [up2_slot _ _ _ (by omega)]
          exact hlo j (by omega)
        · intro j h1 h2
          simp only
          by_cases e : j = c - t
          · rw [e, up2_at]
          · rw [up2_slot _ _ _ e]
            exact hup j (by omega) h2
  · exact ⟨Nat.zero_le _, by rw [Nat.sub_zero], fun j h1 h2 => by omega, fun j hj => (hf j (by omega)).1, fun j h1 h2 => by omega, Out.refl _ _ _⟩
  · rintro ⟨i, N⟩ ⟨⟨q, h1, h2, h4, h5, h6, h7⟩, hO⟩
    simp only at h2 h6 h7 hO
    subst h2
    simp only
    rw [if_neg (by
      intro y
      have y : nI 14 ≤ nI q := y
      rw [nI_le_iff (by omega) (by omega)] at y; omega), wr_nI hl (by omega) (by omega), b1_some]
    refine wq_some ⟨⟨q, h1, h4, h5, ?_⟩, hO.up (by omega) (by omega)⟩
    intro j hj
    unfold insF
    by_cases e1 : j < q
    · rw [if_pos e1, up2_slot _ _ _ (by omega)]; exact h6 j e1
    · rw [if_neg e1]
      by_cases e2 : j = q
      · rw [if_pos e2, e2, up2_at]
      · rw [if_neg e2, up2_slot _ _ _ e2]; exact h7 j (by omega) hj
def sN (T : Tb) (S : Nat) : Nat → Nat
  | 0 => 0
  | i + 1 => sN T S i + (if S.testBit i then vN T i 1 else 0)
/-- what is gathered of the first i places -/
def GI (T : Tb) (k o i c : Nat) (pl sz fl : Nat → Nat) (M : Mem) : Prop :=
  (M o 3 = nI c ∧ c ≤ i ∧ ∀ j, j < c → M (o + 1) j = nI (pl j) ∧ M (o + 2) j = nI (sz j) ∧ M (o + 3) j = nI (fl j)) ∧ upto pl c ∧
  (∀ j, j < c → pl j < i ∧ T.2 (pl j) 0 = nI k ∧ sz j = vN T (pl j) 1 ∧ 1 ≤ sz j ∧ sz j ≤ 99 ∧ sz j ≤ fl 0 ∧ fl j ≤ 99) ∧
  (∀ p, p < i → T.2 p 0 = nI k → ∃ j, j < c ∧ pl j = p) ∧ (∀ j j', j < j' → j' < c → fl j' ≤ fl j) ∧ (∀ m, m ≤ c → preS fl m = topS sz c m) ∧
  ∀ S, (∀ p, p < i → S.testBit p = true → T.2 p 0 = nI k) → cntG (fun p => S.testBit p) i = cI pl S c ∧ sN T S i = sI pl sz S c
theorem GI.out {T : Tb} {k o i c lo hi : Nat} {pl sz fl : Nat → Nat} {M M' : Mem} (h : GI T k o i c pl sz fl M) (hO : Out lo hi M M') (hc : o + 3 < lo ∨ hi ≤ o) : GI T k o i c pl sz fl M' := by
  unfold GI at h ⊢
  rw [hO o (by omega), hO (o + 1) (by omega), hO (o + 2) (by omega), hO (o + 3) (by omega)]
  exact h
theorem gather_ok {T : Tb} {nk k o r : Nat} {M : Mem} (hl1 : la (o + 1) = some 14) (hl2 : la (o + 2) = some 14) (hl3 : la (o + 3) = some 14) (hT : RR r 14 5 T M) (hok : okRem nk T) (hne : r + 1 < o ∨ o + 3 < r) : Wq (f_X1_gather o r (nI k) M) (fun M' => (∃ c pl sz fl, GI T k o T.1 c pl sz fl M') ∧ Out o (o + 4) M M') := by
  have hn : T.1 ≤ 14 := hT.le
  unfold f_X1_gather
  rw [lt_eq]
  refine wq_b1 (P := fun M' => (∃ c pl sz fl, GI T k o T.1 c pl sz fl M') ∧ Out o (o + 4) M M') (lp_to (fun i s => s.1 = nI i ∧ (∃ c pl sz fl, GI T k o i c pl sz fl s.2) ∧ Out o (o + 4) M s.2) T.1 ?_ ?_ _ ?_ (by omega)) (fun M' h => wq_some h)
  · rintro i ⟨x, N⟩ hi ⟨hx, ⟨c, pl, sz, fl, hG⟩, hO⟩
    simp only at hx hG hO
    subst hx
    have hTN := hT.out hO (by omega)
    obtain ⟨⟨g1, g2, g3⟩, gu, gp, gc, gd, gt, gs⟩ := hG
    obtain ⟨kk, s, k1, s1, s2, k2, s3, _⟩ := hok i hi
    have ev : vN T i 1 = s := by unfold vN; rw [s3, nI_toInt (by omega)]; rfl
    unfold w_X1_gather_7
    simp only
    rw [hTN.cnt, g1, if_neg (by
      rintro (y | y)
      · rw [nI_le_iff (by omega) (by omega)] at y; omega
      · have y : nI 14 ≤ nI c := y
        rw [nI_le_iff (by omega) (by omega)] at y; omega), at_lit hTN 0 rfl hi (by omega), b1_some]
    by_cases q : T.2 i 0 = nI k
    · rw [if_pos q, wr_nI hl1 (by omega) (by omega), b1_some]
      have o1 : Out (o + 1) (o + 2) N (up2 N (o + 1) c (nI i)) := (Out.refl _ _ _).up (by omega) (by omega)
      rw [at_lit (hTN.out o1 (by omega)) 1 rfl hi (by omega), b1_some, up2_cell _ _ _ (by omega), g1, s3, wr_nI hl2 (by omega) (by omega), b1_some]
      have o2 : Out (o + 1) (o + 3) N (up2 (up2 N (o + 1) c (nI i)) (o + 2) c (nI s)) := (o1.wide (by omega) (by omega)).up (by omega) (by omega)
      have e3 : up2 (up2 N (o + 1) c (nI i)) (o + 2) c (nI s) o 3 = nI c := by rw [o2 o (by omega)]; exact g1
      rw [e3, rd_nI hl2 (by omega) (by omega), b1_some, up2_at]
      obtain ⟨M13, a1, ⟨qq, b1, b2, b3, b4⟩, a3⟩ := addFalling_ok (fl := fl) (M := up2 (up2 N (o + 1) c (nI i)) (o + 2) c (nI s)) (c := c) (s := s) hl3 (by omega) e3 (by
        intro j hj
        rw [o2 (o + 3) (by omega)]
        exact ⟨(g3 j hj).2.2, (gp j hj).2.2.2.2.2.2⟩) gd s2
      rw [a1, b1_some, lt_eq]
      have e13 : M13 o 3 = nI c := by rw [a3 o (by omega)]; exact e3
      rw [e13, nI_inc, nI_inc]
      refine ⟨_, rfl, rfl, ⟨c + 1, (fun j => if j = c then i else pl j), (fun j => if j = c then s else sz j), insF fl qq s, ?_⟩, ?_⟩
      · have hfl0 : fl 0 ≤ insF fl qq s 0 ∨ c = 0 := by
          by_cases c0 : c = 0
          · exact .inr c0
          · left
            unfold insF
            by_cases z : 0 < qq
            · rw [if_pos z]; omega
            · rw [if_neg z, if_pos (by omega)]
              have := b3 0 (by omega) (by omega)
              omega
        have hs0 : s ≤ insF fl qq s 0 := by
          unfold insF
          by_cases z : 0 < qq
          · rw [if_pos z]; exact b2 0 z
          · rw [if_neg z, if_pos (by omega)]; omega
        refine ⟨⟨?_, by omega, ?_⟩, ?_, ?_, ?_, ?_, ?_, ?_⟩
        · simp only
          rw [up2_at]
        · intro j hj
          simp only
          rw [up2_cell _ _ _ (by omega), up2_cell _ _ _ (by omega), up2_cell _ _ _ (by omega)]
          refine ⟨?_, ?_, b4 j hj⟩
          · rw [a3 (o + 1) (by omega), up2_cell _ _ _ (by omega)]
            by_cases z : j = c
            · rw [if_pos z, z, up2_at]
            · rw [if_neg z, up2_slot _ _ _ z]; exact (g3 j (by omega)).1
          · rw [a3 (o + 2) (by omega)]
            by_cases z : j = c
            · rw [if_pos z, z, up2_at]
            · rw [if_neg z, up2_slot _ _ _ z, up2_cell _ _ _ (by omega)]; exact (g3 j (by omega)).2.1
        · intro j j' h1 h2
          simp only
          rw [if_neg (show ¬ j = c by omega)]
          by_cases z : j' = c
          · rw [if_pos z]; exact (gp j (by omega)).1
          · rw [if_neg z]; exact gu j j' h1 (by omega)
        · intro j hj
          simp only
          have hbound : insF fl qq s j ≤ 99 := by
            unfold insF
            by_cases z1 : j < qq
            · rw [if_pos z1]; exact (gp j (by omega)).2.2.2.2.2.2
            · rw [if_neg z1]
              by_cases z2 : j = qq
              · rw [if_pos z2]; exact s2
              · rw [if_neg z2]; exact (gp (j - 1) (by omega)).2.2.2.2.2.2
          by_cases z : j = c
          · rw [if_pos z, if_pos z]
            exact ⟨by omega, q, ev.symm, s1, s2, hs0, hbound⟩
          · rw [if_neg z, if_neg z]
            obtain ⟨p1, p2, p3, p4, p5, p6, p7⟩ := gp j (by omega)
            exact ⟨by omega, p2, p3, p4, p5, by rcases hfl0 with y | y <;> omega, hbound⟩
        · intro p hp hk
          by_cases z : p = i
          · exact ⟨c, by omega, by show (if c = c then i else pl c) = p; rw [if_pos rfl, z]⟩
          · obtain ⟨j, j1, j2⟩ := gc p (by omega) hk
            exact ⟨j, by omega, by simp only; rw [if_neg (by omega)]; exact j2⟩
        · intro j j' h1 h2
          unfold insF
          by_cases z1 : j' < qq
          · rw [if_pos z1, if_pos (by omega)]; exact gd j j' h1 (by omega)
          · rw [if_neg z1]
            by_cases z2 : j' = qq
            · rw [if_pos z2, if_pos (by omega)]; exact b2 j (by omega)
            · rw [if_neg z2]
              by_cases z3 : j < qq
              · rw [if_pos z3]
                by_cases z4 : j = j' - 1
                · omega
                · exact gd j (j' - 1) (by omega) (by omega)
              · rw [if_neg z3]
                by_cases z5 : j = qq
                · rw [if_pos z5]; have := b3 (j' - 1) (by omega) (by omega); omega
                · rw [if_neg z5]; exact gd (j - 1) (j' - 1) (by omega) (by omega)
        · have hpre : ∀ m, m ≤ c → preS fl m = topS (fun j => if j = c then s else sz j) c m := by
            intro m hm
            rw [gt m hm]
            exact topS_congr c m (fun j hj => by show sz j = if j = c then s else sz j; rw [if_neg (by omega)])
          exact ins_top (q := qq) b1 b2 b3 hpre (by show (if c = c then s else sz c) = s; rw [if_pos rfl])
        · intro S hS
          obtain ⟨t1, t2⟩ := gs S (fun p hp hb => hS p (by omega) hb)
          have cg : cI (fun j => if j = c then i else pl j) S c = cI pl S c ∧ sI (fun j => if j = c then i else pl j) (fun j => if j = c then s else sz j) S c = sI pl sz S c := by
            have gen : ∀ L, L ≤ c → cI (fun j => if j = c then i else pl j) S L = cI pl S L ∧ sI (fun j => if j = c then i else pl j) (fun j => if j = c then s else sz j) S L = sI pl sz S L := by
              intro L
              induction L with
              | zero => intro _; exact ⟨rfl, rfl⟩
              | succ L ih =>
                intro hL
                obtain ⟨u1, u2⟩ := ih (by omega)
                constructor
                · show cI _ S L + (if S.testBit (if L = c then i else pl L) then 1 else 0) = cI pl S L + (if S.testBit (pl L) then 1 else 0)
                  rw [u1, if_neg (show ¬ L = c by omega)]
                · show sI _ _ S L + (if S.testBit (if L = c then i else pl L) then (if L = c then s else sz L) else 0) = sI pl sz S L + (if S.testBit (pl L) then sz L else 0)
                  rw [u2, if_neg (show ¬ L = c by omega), if_neg (show ¬ L = c by omega)]
            exact gen c (Nat.le_refl _)
          constructor
          · show cntG (fun p => S.testBit p) i + (if S.testBit i then 1 else 0) = cI _ S c + (if S.testBit (if c = c then i else pl c) then 1 else 0)
            rw [cg.1, t1, if_pos (show c = c from rfl)]
          · show sN T S i + (if S.testBit i then vN T i 1 else 0) = sI _ _ S c + (if S.testBit (if c = c then i else pl c) then (if c = c then s else sz c) else 0)
            rw [cg.2, t2, if_pos (show c = c from rfl), if_pos (show c = c from rfl), ev]
      · simp only
        exact ((hO.trans (o2.wide (by omega) (by omega))).trans (a3.wide (by omega) (by omega))).up (by omega) (by omega)
    · rw [if_neg q, nI_inc]
      refine ⟨_, rfl, rfl, ⟨c, pl, sz, fl, ⟨g1, by omega, g3⟩, gu, ?_, ?_, gd, gt, ?_⟩, hO⟩
      · intro j hj
        obtain ⟨p1, p2⟩ := gp j hj
        exact ⟨by omega, p2⟩
      · intro p hp hk
        by_cases z : p = i
        · rw [z] at hk; exact absurd hk q
        · exact gc p (by omega) hk
      · intro S hS
        obtain ⟨t1, t2⟩ := gs S (fun p hp hb => hS p (by omega) hb)
        have hb : ¬ S.testBit i = true := fun hb => q (hS i (by omega) hb)
        constructor
        · show cntG (fun p => S.testBit p) i + (if S.testBit i then 1 else 0) = _
          rw [if_neg hb]; exact t1
        · show sN T S i + (if S.testBit i then vN T i 1 else 0) = _
          rw [if_neg hb]; exact t2
  · rintro ⟨x, N⟩ ⟨hx, hG, hO⟩
    simp only at hx hG hO
    subst hx
    unfold w_X1_gather_7
    simp only
    rw [(hT.out hO (by omega)).cnt, if_pos (.inl (by rw [nI_le_iff (by omega) (by omega)]; omega))]
    exact ⟨_, rfl, hG, hO⟩
  · refine ⟨rfl, ⟨0, fun _ => 0, fun _ => 0, fun _ => 0, ⟨up2_at _ _ _ _, Nat.le_refl _, fun j hj => by omega⟩, fun j j' _ h => by omega, fun j hj => by omega, fun p hp => by omega, fun j j' _ h => by omega, ?_, fun S _ => ⟨rfl, rfl⟩⟩, (Out.refl _ _ _).up (Nat.le_refl _) (by omega)⟩
    intro m hm
    rw [show m = 0 from by omega]; rfl
/-! the fewest remains that do -/
def okS (T : Tb) (k S : Nat) : Prop := ∀ i, S.testBit i = true → i < T.1 ∧ T.2 i 0 = nI k
def cS (T : Tb) (S : Nat) : Nat := cntG (fun p => S.testBit p) T.1
def sS (T : Tb) (S : Nat) : Nat := sN T S T.1
def doesS (T : Tb) (size S : Nat) : Prop := if cS T S = 1 then size ≤ sS T S else size ≤ 9 * sS T S / 10
def bestS (T : Tb) (k size S : Nat) : Prop := okS T k S ∧ S ≠ 0 ∧ doesS T size S ∧ ∀ S', okS T k S' → S' ≠ 0 → doesS T size S' → cS T S < cS T S' ∨ (cS T S = cS T S' ∧ (sS T S < sS T S' ∨ (sS T S = sS T S' ∧ S ≤ S')))
theorem bestS_uniq {T : Tb} {k size S S' : Nat} (h : bestS T k size S) (h' : bestS T k size S') : S = S' := by
  have a := h.2.2.2 S' h'.1 h'.2.1 h'.2.2.1
  have b := h'.2.2.2 S h.1 h.2.1 h.2.2.1
  omega
section FEW
variable {T : Tb} {k o c size : Nat} {pl sz fl : Nat → Nat} {M : Mem}
theorem GI.set (h : GI T k o T.1 c pl sz fl M) {S : Nat} (hS : okS T k S) : inI pl c S ∧ cS T S = cI pl S c ∧ sS T S = sI pl sz S c := by
  obtain ⟨_, _, _, gc, _, _, gs⟩ := h
  obtain ⟨t1, t2⟩ := gs S (fun p _ hb => (hS p hb).2)
  exact ⟨fun i hi => gc i (hS i hi).1 (hS i hi).2, t1, t2⟩
theorem GI.back (h : GI T k o T.1 c pl sz fl M) {S : Nat} (hS : inI pl c S) : okS T k S := by
  intro i hi
  obtain ⟨j, hj, e⟩ := hS i hi
  obtain ⟨p1, p2, _⟩ := h.2.2.1 j hj
  rw [← e]
  exact ⟨p1, p2⟩
theorem bestAlone_ok (h : GI T k o T.1 c pl sz fl M) (hl1 : la (o + 1) = some 14) (hl2 : la (o + 2) = some 14) (hn : T.1 ≤ 14) (hs : size ≤ 99) : Wq (f_X1_bestAlone o (nI size) M) (fun r => (r = -1 ∧ ∀ j, j < c → sz j < size) ∨ ∃ j0, j0 < c ∧ r = nI (pl j0) ∧ size ≤ sz j0 ∧ ∀ j, j < c → size ≤ sz j → sz j0 < sz j ∨ (sz j0 = sz j ∧ j0 ≤ j)) := by
  obtain ⟨⟨g1, g2, g3⟩, gu, gp, _⟩ := h
  unfold f_X1_bestAlone
  refine wq_b1 (P := fun r => (r = -1 ∧ ∀ j, j < c → sz j < size) ∨ ∃ j0, j0 < c ∧ r = nI (pl j0) ∧ size ≤ sz j0 ∧ ∀ j, j < c → size ≤ sz j → sz j0 < sz j ∨ (sz j0 = sz j ∧ j0 ≤ j)) (lp_to (fun i s => s.2.2 = nI i ∧ ((s.1 = -1 ∧ s.2.1 = 1000000 ∧ ∀ j, j < i → sz j < size) ∨ ∃ j0, j0 < i ∧ s.1 = nI (pl j0) ∧ s.2.1 = nI (sz j0) ∧ size ≤ sz j0 ∧ ∀ j, j < i → size ≤ sz j → sz j0 < sz j ∨ (sz j0 = sz j ∧ j0 ≤ j))) c ?_ ?_ _ ⟨rfl, .inl ⟨rfl, rfl, fun j hj => by omega⟩⟩ (by omega)) (fun r hr => wq_some hr)
  · rintro i ⟨a, b, x⟩ hi ⟨hx, hst⟩
    simp only at hx hst
    subst hx
    unfold w_X1_bestAlone_8
    obtain ⟨r1, r2, _⟩ := g3 i hi
    obtain ⟨_, _, _, z1, z2, _⟩ := gp i hi
    simp only
    rw [g1, if_neg (by
      rintro (y | y)
      · rw [nI_le_iff (by omega) (by omega)] at y; omega
      · have y : nI 14 ≤ nI i := y
        rw [nI_le_iff (by omega) (by omega)] at y; omega), rd_nI hl2 (by omega) (by omega), b1_some, r2]
    by_cases q : sz i < size
    · rw [if_pos (nI_lt q (by omega)), nI_inc]
      refine ⟨_, rfl, rfl, ?_⟩
      rcases hst with ⟨s1, s2, s3⟩ | ⟨j0, s1, s2, s3, s4, s5⟩
      · refine .inl ⟨s1, s2, fun j hj => ?_⟩
        by_cases e : j = i
        · rw [e]; exact q
        · exact s3 j (by omega)
      · refine .inr ⟨j0, by omega, s2, s3, s4, fun j hj hz => ?_⟩
        by_cases e : j = i
        · rw [e] at hz; omega
        · exact s5 j (by omega) hz
    · rw [if_neg (nI_nlt (by omega) (by omega)), b1_some]
      rcases hst with ⟨s1, s2, s3⟩ | ⟨j0, s1, s2, s3, s4, s5⟩
      · have e6 : ¬ b ≤ nI (sz i) := by
          rw [s2]
          exact nI_ge (b := 1000000) (by omega) (by omega)
        rw [if_neg e6, b1_some, rd_nI hl1 (by omega) (by omega), b1_some, r1, nI_inc]
        refine ⟨_, rfl, rfl, .inr ⟨i, by omega, rfl, rfl, by omega, fun j hj hz => ?_⟩⟩
        by_cases e : j = i
        · exact .inr ⟨by rw [e], by omega⟩
        · have := s3 j (by omega); omega
      · obtain ⟨_, _, _, y1, y2, _⟩ := gp j0 (by omega)
        by_cases q2 : sz j0 ≤ sz i
        · rw [s3, if_pos (nI_le q2 (by omega)), nI_inc]
          refine ⟨_, rfl, rfl, .inr ⟨j0, by omega, s2, rfl, s4, fun j hj hz => ?_⟩⟩
          by_cases e : j = i
          · rw [e]; omega
          · exact s5 j (by omega) hz
        · rw [s3, if_neg (nI_ge (by omega) (by omega)), b1_some, rd_nI hl1 (by omega) (by omega), b1_some, r1, nI_inc]
          refine ⟨_, rfl, rfl, .inr ⟨i, by omega, rfl, rfl, by omega, fun j hj hz => ?_⟩⟩
          by_cases e : j = i
          · exact .inr ⟨by rw [e], by omega⟩
          · have := s5 j (by omega) hz
            left; omega
  · rintro ⟨a, b, x⟩ ⟨hx, hst⟩
    simp only at hx hst
    subst hx
    unfold w_X1_bestAlone_8
    simp only
    rw [g1, if_pos (.inl (by rw [nI_le_iff (by omega) (by omega)]; omega))]
    refine ⟨_, rfl, ?_⟩
    rcases hst with ⟨s1, s2, s3⟩ | ⟨j0, s1, s2, s3, s4, s5⟩
    · exact .inl ⟨s1, s3⟩
    · exact .inr ⟨j0, s1, s2, s4, s5⟩
theorem pre_le {fl : Nat → Nat} {c : Nat} (h : ∀ j, j < c → fl j ≤ 99) : ∀ m, m ≤ c → preS fl m ≤ m * 99
  | 0, _ => Nat.le_refl _
  | m + 1, hm => by
    have := pre_le h m (by omega)
    have := h m (by omega)
    show preS fl m + fl m ≤ (m + 1) * 99
    omega
theorem fewestReaching_ok {tg : Nat} (h : GI T k o T.1 c pl sz fl M) (hl3 : la (o + 3) = some 14) (hn : T.1 ≤ 14) (ht : M o 4 = nI tg) (htg : tg ≤ 1000) : Wq (f_X1_fewestReaching o M) (fun r => (r = -1 ∧ ∀ m, m < c → preS fl (m + 1) < tg) ∨ ∃ m, m < c ∧ r = nI (m + 1) ∧ tg ≤ preS fl (m + 1) ∧ ∀ j, j < m → preS fl (j + 1) < tg) := by
  obtain ⟨⟨g1, g2, g3⟩, gu, gp, _⟩ := h
  have hpl := pre_le (fl := fl) (c := c) (fun j hj => (gp j hj).2.2.2.2.2.2)
  unfold f_X1_fewestReaching
  refine wq_b1 (P := fun r => match r with
    | .inl u => ∃ m, m < c ∧ u = nI m ∧ tg ≤ preS fl (m + 1) ∧ ∀ j, j < m → preS fl (j + 1) < tg
    | .inr _ => ∀ m, m < c → preS fl (m + 1) < tg) (lp_inv (fun i s => s.1 = nI (preS fl i) ∧ s.2 = nI i ∧ ∀ j, j < i → preS fl (j + 1) < tg) c ?_ _ ⟨rfl, rfl, fun j hj => by omega⟩ (by omega)) ?_
  · rintro i ⟨a, x⟩ hi ⟨ha, hx, hlt⟩
    simp only at ha hx hlt
    subst ha hx
    unfold w_X1_fewestReaching_4
    simp only
    rw [g1]
    by_cases e : i = c
    · right
      rw [if_pos (.inl (by rw [nI_le_iff (by omega) (by omega)]; omega))]
      exact ⟨_, rfl, by rw [← e]; exact hlt⟩
    · have hpi := hpl (i + 1) (by omega)
      have e1 : preS fl (i + 1) = preS fl i + fl i := rfl
      rw [if_neg (by
        rintro (y | y)
        · rw [nI_le_iff (by omega) (by omega)] at y; omega
        · have y : nI 14 ≤ nI i := y
          rw [nI_le_iff (by omega) (by omega)] at y; omega), rd_nI hl3 (by omega) (by omega), b1_some, (g3 i (by omega)).2.2, nI_add, ht, ← e1]
      by_cases q : preS fl (i + 1) < tg
      · left
        rw [if_pos (nI_lt q (by omega)), nI_inc]
        refine ⟨by omega, _, rfl, rfl, rfl, fun j hj => ?_⟩
        by_cases z : j = i
        · rw [z]; exact q
        · exact hlt j (by omega)
      · right
        rw [if_neg (nI_nlt (by omega) (by omega))]
        exact ⟨_, rfl, i, by omega, rfl, by omega, hlt⟩
  · rintro (u | u) hr
    · obtain ⟨m, m1, m2, m3, m4⟩ := hr
      subst m2
      simp only
      rw [nI_inc]
      exact wq_some (.inr ⟨m, m1, rfl, m3, m4⟩)
    · exact wq_some (.inl ⟨rfl, hr⟩)
theorem target_eq (size : Nat) (hs : size ≤ 99) : ((10 * nI size) + 8) / 9 = nI ((10 * size + 8) / 9) := by
  have e : ((10 * nI size) + 8) = nI (10 * size + 8) := by
    show nI 10 * nI size + nI 8 = _
    rw [nI_mul, nI_add]
  rw [e]
  apply Int32.toInt_inj.1
  rw [Int32.toInt_div_of_ne_right _ _ (by decide), nI_toInt (by omega), show (9 : Int32).toInt = 9 from by decide, nI_toInt (by omega), Int.tdiv_eq_ediv_of_nonneg (by omega)]
  omega
theorem join_target (size s : Nat) : size ≤ 9 * s / 10 ↔ (10 * size + 8) / 9 ≤ s := by omega
end FEW
