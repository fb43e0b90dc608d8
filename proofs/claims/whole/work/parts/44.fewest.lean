/-! ===== PURE PART: joins ===== -/
section FW
variable {pl sz : Nat → Nat}
theorem single_of {c : Nat} (hu : upto pl c) : ∀ (L S : Nat), L ≤ c → inI pl L S → cI pl S L = 1 → ∃ j, j < L ∧ S = 2 ^ pl j ∧ sI pl sz S L = sz j
  | 0, S, _, _, h => by cases h
  | L + 1, S, hL, hI, hc => by
    by_cases hb : S.testBit (pl L) = true
    · obtain ⟨S', e1, e2, e3, e4⟩ := split_top (sz := sz) hI hu (by omega) hb
      obtain ⟨z1, z2⟩ := zero_of (sz := sz) e2 hu (by omega) (by omega)
      exact ⟨L, by omega, by rw [e1, z1]; omega, by rw [e4, z2]; omega⟩
    · obtain ⟨e1, e2, e3⟩ := skip_top (sz := sz) hI hb
      obtain ⟨j, j1, j2, j3⟩ := single_of hu L S (by omega) e1 (by omega)
      exact ⟨j, by omega, j2, by rw [e3]; exact j3⟩
theorem single_is {c j : Nat} (hu : upto pl c) (hj : j < c) : ∀ L, L ≤ c → cI pl (2 ^ pl j) L = (if j < L then 1 else 0) ∧ sI pl sz (2 ^ pl j) L = if j < L then sz j else 0
  | 0, _ => ⟨rfl, rfl⟩
  | L + 1, hL => by
    obtain ⟨h1, h2⟩ := single_is hu hj L (by omega)
    have hbit : (2 ^ pl j).testBit (pl L) = decide (j = L) := by
      rw [Nat.testBit_two_pow]
      apply decide_eq_decide.2
      constructor
      · intro e
        rcases Nat.lt_trichotomy j L with z | z | z
        · have := hu j L z (by omega); omega
        · exact z
        · have := hu L j z hj; omega
      · rintro rfl; rfl
    constructor
    · show cI pl (2 ^ pl j) L + (if (2 ^ pl j).testBit (pl L) then 1 else 0) = _
      rw [h1, hbit]
      by_cases z : j = L
      · subst z; simp
      · have zf : ¬ decide (j = L) = true := by simpa using z
        rw [if_neg zf]
        by_cases y : j < L
        · rw [if_pos y, if_pos (by omega)]
        · rw [if_neg y, if_neg (by omega)]
    · show sI pl sz (2 ^ pl j) L + (if (2 ^ pl j).testBit (pl L) then sz L else 0) = _
      rw [h2, hbit]
      by_cases z : j = L
      · subst z; simp
      · have zf : ¬ decide (j = L) = true := by simpa using z
        rw [if_neg zf]
        by_cases y : j < L
        · rw [if_pos y, if_pos (by omega)]; rfl
        · rw [if_neg y, if_neg (by omega)]
end FW
theorem fewest_ok {T : Tb} {nk k o r size : Nat} {M : Mem} (hl1 : la (o + 1) = some 14) (hl2 : la (o + 2) = some 14) (hl3 : la (o + 3) = some 14) (hT : RR r 14 5 T M) (hok : okRem nk T) (hne : r + 1 < o ∨ o + 3 < r) (hs1 : 1 ≤ size) (hs : size ≤ 99) : Wq (f_X1_fewest o r (nI k) (nI size) M) (fun p => ((p.2 = 0 ∧ ∀ S, okS T k S → S ≠ 0 → ¬ doesS T size S) ∨ ∃ S, bestS T k size S ∧ p.2 = nI S) ∧ Out o (o + 4) M p.1) := by
  have hn : T.1 ≤ 14 := hT.le
  unfold f_X1_fewest
  refine wq_b1 (gather_ok (k := k) hl1 hl2 hl3 hT hok hne) ?_
  rintro M1 ⟨⟨c, pl, sz, fl, hG⟩, hO1⟩
  have hG' := hG
  obtain ⟨⟨g1, g2, g3⟩, gu, gp, gc, gd, gt, gs⟩ := hG'
  refine wq_b1 (bestAlone_ok hG hl1 hl2 hn hs) ?_
  -- a set that is not empty has one at least
  have pos : ∀ S, okS T k S → S ≠ 0 → 1 ≤ cS T S := by
    intro S hS hz
    obtain ⟨e1, e2, _⟩ := hG.set hS
    rw [e2]
    apply Nat.pos_of_ne_zero
    intro z
    exact hz (zero_of (sz := sz) e1 gu (Nat.le_refl _) z).1
  rintro x (⟨hx, hno⟩ | ⟨j0, hj0, hx, hsz, hmin⟩)
  · subst hx
    rw [if_pos rfl, target_eq size hs, lt_eq]
    have hO4 : Out o (o + 1) M1 (up2 M1 o 4 (nI ((10 * size + 8) / 9))) := (Out.refl _ _ _).up (Nat.le_refl _) (by omega)
    have hG4 : GI T k o T.1 c pl sz fl (up2 M1 o 4 (nI ((10 * size + 8) / 9))) := by
      refine ⟨⟨?_, g2, ?_⟩, gu, gp, gc, gd, gt, gs⟩
      · rw [up2_slot _ _ _ (by omega)]; exact g1
      · rw [up2_cell _ _ _ (by omega), up2_cell _ _ _ (by omega), up2_cell _ _ _ (by omega)]; exact g3
    have two : ∀ S, okS T k S → S ≠ 0 → doesS T size S → 2 ≤ cS T S ∧ (10 * size + 8) / 9 ≤ sS T S := by
      intro S hS hz hd
      have h1 := pos S hS hz
      unfold doesS at hd
      by_cases e : cS T S = 1
      · rw [if_pos e] at hd
        obtain ⟨a1, a2, a3⟩ := hG.set hS
        obtain ⟨j, j1, j2, j3⟩ := single_of (sz := sz) gu c S (Nat.le_refl _) a1 (by omega)
        have := hno j j1
        omega
      · rw [if_neg e] at hd
        exact ⟨by omega, (join_target _ _).1 hd⟩
    have topb : ∀ S, okS T k S → cS T S ≤ c ∧ sS T S ≤ preS fl (cS T S) := by
      intro S hS
      obtain ⟨a1, a2, a3⟩ := hG.set hS
      have hcl : cI pl S c ≤ c := cntG_le _ c
      have := top_ge (sz := sz) gu c (cI pl S c) S (Nat.le_refl _) a1 rfl
      rw [a2, a3, gt _ hcl]
      exact ⟨hcl, this⟩
    refine wq_b1 (fewestReaching_ok hG4 hl3 hn (up2_at _ _ _ _) (by omega)) ?_
    rintro y (⟨hy, hnone⟩ | ⟨m, hm, hy, hreach, hlow⟩)
    · subst hy
      rw [if_pos rfl]
      refine wq_some ⟨.inl ⟨rfl, ?_⟩, hO1.trans (hO4.wide (by omega) (by omega))⟩
      intro S hS hz hd
      obtain ⟨t1, t2⟩ := two S hS hz hd
      obtain ⟨b1, b2⟩ := topb S hS
      have := hnone (cS T S - 1) (by omega)
      rw [show cS T S - 1 + 1 = cS T S from by omega] at this
      omega
    · subst hy
      rw [if_neg (nI_neg1 (by omega)), lt_eq, lt_eq]
      have hfl0 : fl 0 ≤ 99 := (gp 0 (by omega)).2.2.2.2.2.2
      have hR8 : RFi o c ((10 * size + 8) / 9) (fl 0) pl sz (up2 (up2 (up2 M1 o 4 (nI ((10 * size + 8) / 9))) o 5 1000000) o 6 0) := by
        refine ⟨hl1, hl2, ⟨by omega, by omega, hfl0⟩, ?_, ?_, ?_⟩
        · rw [up2_slot _ _ _ (by omega), up2_slot _ _ _ (by omega), up2_at]
        · rw [up2_cell _ _ _ (by omega), up2_cell _ _ _ (by omega), up2_cell _ _ _ (by omega)]
          exact (g3 0 (by omega)).2.2
        · intro j hj
          rw [up2_cell _ _ _ (by omega), up2_cell _ _ _ (by omega), up2_cell _ _ _ (by omega), up2_cell _ _ _ (by omega), up2_cell _ _ _ (by omega), up2_cell _ _ _ (by omega)]
          obtain ⟨p1, p2, p3, p4, p5, p6, p7⟩ := gp j hj
          exact ⟨(g3 j hj).1, (g3 j hj).2.1, by omega, p6⟩
      have e83 : up2 (up2 (up2 M1 o 4 (nI ((10 * size + 8) / 9))) o 5 1000000) o 6 0 o 3 = nI c := by
        rw [up2_slot _ _ _ (by omega), up2_slot _ _ _ (by omega), up2_slot _ _ _ (by omega)]; exact g1
      rw [e83]
      have hsr := search_ok (o := o) (c := c) (tg := (10 * size + 8) / 9) (mx := fl 0) (pl := pl) (sz := sz) gu 40 c (m + 1) 0 0 (1000000, 0) (up2 (up2 (up2 M1 o 4 (nI ((10 * size + 8) / 9))) o 5 1000000) o 6 0) (by omega) (Nat.le_refl _) hR8 (by rw [up2_slot _ _ _ (by omega), up2_at]; rfl) (by rw [up2_at]; rfl) (by simp) (by omega) (by omega) ⟨14, 0, rfl, by decide, fun j hj => by have := (gp j hj).1; omega⟩
      refine wq_b1 hsr ?_
      rintro M9 ⟨k5, k6, k7, k8, k9⟩
      obtain ⟨f1, f2, f3⟩ := full_ok (sz := sz) (tg := (10 * size + 8) / 9) gu c (m + 1) 0 0 (1000000, 0) (Nat.le_refl _) (Nat.le_refl _)
      -- so many reach it
      obtain ⟨St, st1, st2, st3⟩ := top_is (sz := sz) gu c (m + 1) (Nat.le_refl _) (by omega)
      have hpre := gt (m + 1) (by omega)
      have hpl := pre_le (fl := fl) (c := c) (fun j hj => (gp j hj).2.2.2.2.2.2) (m + 1) (by omega)
      have hst := f3 St st1 st2 (by rw [st3]; omega)
      have hlt : (fullS pl sz ((10 * size + 8) / 9) c (m + 1) 0 0 (1000000, 0)).1 < 1000000 := by
        rw [st3] at hst
        omega
      rcases f2 with f2 | ⟨S, s1, s2, s3, s4, _⟩
      · rw [f2] at hlt; simp at hlt
      · have hSok := hG.back s1
        obtain ⟨a1, a2, a3⟩ := hG.set hSok
        have hm1 : 1 ≤ m := by
          apply Nat.pos_of_ne_zero
          intro m0
          subst m0
          obtain ⟨j, j1, j2, j3⟩ := single_of (sz := sz) gu c S (Nat.le_refl _) s1 s2
          have := hno j j1
          omega
        have hSz : S ≠ 0 := by
          intro z
          subst z
          have : cI pl 0 c = 0 := by
            have gen : ∀ L', cI pl 0 L' = 0 := by
              intro L'
              induction L' with
              | zero => rfl
              | succ L' ih => show cI pl 0 L' + (if (0 : Nat).testBit (pl L') then 1 else 0) = 0; rw [ih, Nat.zero_testBit]; rfl
            exact gen c
          omega
        have hOO : Out o (o + 4) M M9 := by
          intro a ha
          rw [k8 a (by omega), up2_cell _ _ _ (by omega), up2_cell _ _ _ (by omega), up2_cell _ _ _ (by omega)]
          exact hO1 a ha
        refine wq_some ⟨.inr ⟨S, ⟨hSok, hSz, ?_, ?_⟩, ?_⟩, hOO⟩
        · unfold doesS
          rw [if_neg (by rw [a2, s2]; omega)]
          exact (join_target _ _).2 (by rw [a3]; omega)
        · intro S' hS' hz' hd'
          obtain ⟨t1, t2⟩ := two S' hS' hz' hd'
          obtain ⟨b1, b2⟩ := topb S' hS'
          obtain ⟨c1, c2, c3⟩ := hG.set hS'
          by_cases y1 : cS T S' < m + 1
          · have := hlow (cS T S' - 1) (by omega)
            rw [show cS T S' - 1 + 1 = cS T S' from by omega] at this
            omega
          · by_cases y2 : cS T S' = m + 1
            · have := f3 S' c1 (by omega) (by omega)
              rw [s4] at this
              have this : 0 + sI pl sz S c < 0 + sI pl sz S' c ∨ (0 + sI pl sz S c = 0 + sI pl sz S' c ∧ 0 + S ≤ 0 + S') := this
              right
              refine ⟨by omega, ?_⟩
              rw [a3, c3]
              omega
            · left; omega
        · simp only
          rw [k6, s4]
          show nI (0 + S) = nI S
          rw [Nat.zero_add]
  · subst hx
    have hp14 : pl j0 < 14 := by have := (gp j0 hj0).1; omega
    rw [if_neg (nI_neg1 (by omega)), nI_shl _ (by omega)]
    have hin : inI pl c (2 ^ pl j0) := by
      intro i hi
      rw [Nat.testBit_two_pow, decide_eq_true_iff] at hi
      exact ⟨j0, hj0, hi⟩
    have hSok := hG.back hin
    obtain ⟨a1, a2, a3⟩ := hG.set hSok
    obtain ⟨b1, b2⟩ := single_is (sz := sz) gu hj0 c (Nat.le_refl _)
    rw [if_pos hj0] at b1 b2
    refine wq_some ⟨.inr ⟨2 ^ pl j0, ⟨hSok, ?_, ?_, ?_⟩, rfl⟩, hO1⟩
    · have := Nat.two_pow_pos (pl j0); omega
    · unfold doesS
      rw [if_pos (by omega)]
      omega
    · intro S' hS' hz' hd'
      have h1 := pos S' hS' hz'
      by_cases e : cS T S' = 1
      · right
        refine ⟨by omega, ?_⟩
        obtain ⟨c1, c2, c3⟩ := hG.set hS'
        obtain ⟨j, j1, j2, j3⟩ := single_of (sz := sz) gu c S' (Nat.le_refl _) c1 (by omega)
        unfold doesS at hd'
        rw [if_pos e] at hd'
        rcases hmin j j1 (by omega) with z | ⟨z1, z2⟩
        · left; omega
        · right
          refine ⟨by omega, ?_⟩
          rw [j2]
          by_cases w : j0 = j
          · rw [w]; exact Nat.le_refl _
          · exact pow2_le (Nat.le_of_lt (gu j0 j (by omega) j1))
      · left; omega
/-! the reference -/
theorem sum_nI {T : Tb} {nk : Nat} (hok : okRem nk T) (S : Nat) : ∀ n, n ≤ T.1 → sumG (fun i => S.testBit i) (fun i => T.2 i 1) n = nI (sN T S n)
  | 0, _ => rfl
  | n + 1, hn => by
    obtain ⟨kk, s, _, s1, s2, _, s3, _⟩ := hok n (by omega)
    have ev : vN T n 1 = s := by unfold vN; rw [s3, nI_toInt (by omega)]; rfl
    show (if S.testBit n then sumG (fun i => S.testBit i) (fun i => T.2 i 1) n + T.2 n 1 else sumG (fun i => S.testBit i) (fun i => T.2 i 1) n) = nI (sN T S n + (if S.testBit n then vN T n 1 else 0))
    rw [sum_nI hok S n (by omega), s3, ev]
    cases S.testBit n with
    | true => simp only [if_true]; rw [nI_add]
    | false => simp
theorem sN_le {T : Tb} {nk : Nat} (hok : okRem nk T) (S : Nat) : ∀ n, n ≤ T.1 → sN T S n ≤ n * 99
  | 0, _ => Nat.le_refl _
  | n + 1, hn => by
    obtain ⟨kk, s, _, s1, s2, _, s3, _⟩ := hok n (by omega)
    have ev : vN T n 1 = s := by unfold vN; rw [s3, nI_toInt (by omega)]; rfl
    have := sN_le hok S n (by omega)
    show sN T S n + (if S.testBit n then vN T n 1 else 0) ≤ (n + 1) * 99
    split <;> omega
theorem sN_mono {T : Tb} {S S' : Nat} (h : ∀ i, S.testBit i = true → S'.testBit i = true) : ∀ n, sN T S n ≤ sN T S' n
  | 0 => Nat.le_refl _
  | n + 1 => by
    have := sN_mono (T := T) h n
    show sN T S n + (if S.testBit n then vN T n 1 else 0) ≤ sN T S' n + (if S'.testBit n then vN T n 1 else 0)
    by_cases hb : S.testBit n = true
    · rw [if_pos hb, if_pos (h n hb)]; omega
    · rw [if_neg hb]; omega
theorem one_of {T : Tb} {S : Nat} : ∀ n, (cntG (fun p => S.testBit p) n = 0 → sN T S n = 0) ∧ (cntG (fun p => S.testBit p) n = 1 → ∃ i, i < n ∧ S.testBit i = true ∧ sN T S n = vN T i 1)
  | 0 => ⟨fun _ => rfl, fun h => by cases h⟩
  | n + 1 => by
    obtain ⟨h0, h1⟩ := one_of (T := T) (S := S) n
    have e1 : cntG (fun p => S.testBit p) (n + 1) = cntG (fun p => S.testBit p) n + (if S.testBit n then 1 else 0) := rfl
    have e2 : sN T S (n + 1) = sN T S n + (if S.testBit n then vN T n 1 else 0) := rfl
    by_cases hb : S.testBit n = true
    · rw [if_pos hb] at e1 e2
      refine ⟨fun h => by omega, fun h => ⟨n, by omega, hb, ?_⟩⟩
      rw [e2, h0 (by omega)]; omega
    · rw [if_neg hb] at e1 e2
      refine ⟨fun h => by rw [e2, h0 (by omega)], fun h => ?_⟩
      obtain ⟨i, i1, i2, i3⟩ := h1 (by omega)
      exact ⟨i, by omega, i2, by rw [e2, i3]; rfl⟩
theorem joined_nI {s : Nat} (h : s < 100000) : f_X11_joined (nI s) = nI (9 * s / 10) := by
  unfold f_X11_joined
  have e : 9 * nI s = nI (9 * s) := nI_mul 9 s
  rw [e]
  apply Int32.toInt_inj.1
  rw [Int32.toInt_div_of_ne_right _ _ (by decide), nI_toInt (by omega), show (10 : Int32).toInt = 10 from by decide, nI_toInt (by omega), Int.tdiv_eq_ediv_of_nonneg (by omega)]
  omega
theorem sub_iff {S K : Nat} (hS : S < 2147483648) (hK : K < 2147483648) : (nI S &&& (nI K ^^^ (-1)) = 0) ↔ ∀ i, S.testBit i = true → K.testBit i = true := by
  rw [← Int32.toBitVec_inj]
  show (BitVec.ofNat 32 S &&& (BitVec.ofNat 32 K ^^^ BitVec.allOnes 32) = 0#32) ↔ _
  rw [BitVec.xor_allOnes]
  constructor
  · intro h i hi
    by_cases q : i < 32
    · have := congrArg (fun v => BitVec.getLsbD v i) h
      simp only [BitVec.getLsbD_and, BitVec.getLsbD_not, BitVec.getLsbD_ofNat, BitVec.getLsbD_zero] at this
      cases hk : K.testBit i with
      | true => rfl
      | false => simp [q, hi, hk] at this
    · rw [Nat.testBit_lt_two_pow (Nat.lt_of_lt_of_le hS (Nat.le_trans (show 2147483648 ≤ 2 ^ 31 by decide) (pow2_le (by omega))))] at hi
      cases hi
  · intro h
    apply BitVec.eq_of_getLsbD_eq
    intro i hi
    simp only [BitVec.getLsbD_and, BitVec.getLsbD_not, BitVec.getLsbD_ofNat, BitVec.getLsbD_zero]
    cases hs : S.testBit i with
    | true => simp [hi, h i hs]
    | false => simp
theorem joinsOf_ok {A : AS} {M : Mem} {nk k size : Nat} (h : RMm 156 A M) (hok : okRem nk (A.2.1 4)) (hs1 : 1 ≤ size) (hs : size ≤ 99) : Wq (f_X11_joinsOf (nI k) (nI size) M) (fun r => (r = -1 ∧ ∀ S, okS (A.2.1 4) k S → S ≠ 0 → ¬ doesS (A.2.1 4) size S) ∨ ∃ S, bestS (A.2.1 4) k size S ∧ r = nI S) := by
  have hn := n156_4 h
  have hm := m_4 h
  obtain ⟨T, hTe⟩ : ∃ T, T = A.2.1 4 := ⟨_, rfl⟩
  rw [← hTe] at hok hn hm ⊢
  obtain ⟨K, hKe⟩ : ∃ K, K = setG (isK T k) T.1 := ⟨_, rfl⟩
  have hKlt : K < 2 ^ T.1 := by rw [hKe]; exact setG_lt _ _
  have hp14 : 2 ^ T.1 ≤ 16384 := Nat.le_trans (pow2_le hm) (by decide)
  have hKb : ∀ i, K.testBit i = true ↔ (i < T.1 ∧ T.2 i 0 = nI k) := by
    intro i
    rw [hKe, setG_bit, Bool.and_eq_true, decide_eq_true_iff]
    unfold isK
    rw [decide_eq_true_iff]
  have okK : ∀ S, okS T k S ↔ ∀ i, S.testBit i = true → K.testBit i = true := by
    intro S
    constructor
    · intro hS i hi; exact (hKb i).2 (hS i hi)
    · intro hS i hi; exact (hKb i).1 (hS i hi)
  have leK : ∀ S, okS T k S → S ≤ K := by
    intro S hS
    have e : S &&& K = S := by
      apply Nat.eq_of_testBit_eq
      intro i
      rw [Nat.testBit_and]
      cases hb : S.testBit i with
      | false => rfl
      | true => rw [(okK S).1 hS i hb]; rfl
    rw [← e]
    exact Nat.and_le_right
  have hplaces : f_X11_placesOf (nI k) M = some (nI K) := by rw [placesOf_ok h, hKe, hTe]
  have hsum : ∀ S, S < 16384 → f_X11_sumOf (nI S) M = some (nI (sS T S)) := by
    intro S hS
    rw [sumOf_ok h (by omega), ← hTe, sum_nI hok S T.1 (Nat.le_refl _)]
    rfl
  have hcnt : ∀ S, S ≤ K → f_X11_count (nI S) = some (nI (cS T S)) := by
    intro S hS
    rw [count_nI (by omega), popc_bits (n := T.1) (by omega) (by omega)]
    rfl
  have hsle : ∀ S, sS T S ≤ 14 * 99 := fun S => Nat.le_trans (sN_le hok S T.1 (Nat.le_refl _)) (Nat.mul_le_mul_right _ hm)
  have hcle : ∀ S, cS T S ≤ 14 := fun S => Nat.le_trans (cntG_le _ _) hm
  unfold f_X11_joinsOf
  rw [hplaces, b1_some, hsum K (by omega), b1_some, joined_nI (by have := hsle K; omega), lt_eq]
  -- whether any can
  have hcan := lp_to (body := fun s => w_X11_joinsOf_31 (nI size) M (nI K) s.1 s.2) (fun i s => s.2 = nI i ∧ (s.1 = 0 ∨ s.1 = 1) ∧ (s.1 = 0 → 9 * sS T K / 10 < size ∧ ∀ j, j < i → K.testBit j = true → vN T j 1 < size)) T.1 (Q := fun r => (r = 0 ∨ r = 1) ∧ (r = 0 → 9 * sS T K / 10 < size ∧ ∀ j, j < T.1 → K.testBit j = true → vN T j 1 < size)) (by
    rintro i ⟨a, x⟩ hi ⟨hx, ha, hz⟩
    simp only at hx ha hz
    subst hx
    obtain ⟨kk, s, _, s1, s2, _, s3, _⟩ := hok i hi
    have ev : vN T i 1 = s := by unfold vN; rw [s3, nI_toInt (by omega)]; rfl
    unfold w_X11_joinsOf_31
    simp only
    rw [hn, if_neg (by rw [nI_le_iff (by omega) (by omega)]; omega), nI_inc]
    rcases ha with ha | ha
    · subst ha
      obtain ⟨z1, z2⟩ := hz rfl
      rw [if_pos rfl]
      by_cases hb : K.testBit i = true
      · have hof : f_X11_ofRemain (nI i) 1 M = some (nI s) := by
          have := ofRemain_ok h (i := i) (by rw [← hTe]; exact hi) 1 rfl (by omega)
          rw [← hTe, s3] at this
          exact this
        rw [if_pos ((shbit (by omega) (by omega)).2 hb), hof, b1_some]
        by_cases y : s < size
        · rw [if_pos (nI_lt y (by omega))]
          refine ⟨_, rfl, rfl, .inl rfl, fun _ => ⟨z1, fun j hj hbj => ?_⟩⟩
          by_cases e : j = i
          · rw [e, ev]; exact y
          · exact z2 j (by omega) hbj
        · rw [if_neg (nI_nlt (by omega) (by omega))]
          exact ⟨_, rfl, rfl, .inr rfl, fun w => absurd w (show ¬ (1 : Int32) = 0 by decide)⟩
      · rw [if_neg (fun w => hb ((shbit (by omega) (by omega)).1 w))]
        refine ⟨_, rfl, rfl, .inl rfl, fun _ => ⟨z1, fun j hj hbj => ?_⟩⟩
        by_cases e : j = i
        · rw [e] at hbj; exact absurd hbj hb
        · exact z2 j (by omega) hbj
    · subst ha
      rw [if_neg (by decide)]
      exact ⟨_, rfl, rfl, .inr rfl, fun w => absurd w (show ¬ (1 : Int32) = 0 by decide)⟩) (by
    rintro ⟨a, x⟩ ⟨hx, ha, hz⟩
    simp only at hx ha hz
    subst hx
    unfold w_X11_joinsOf_31
    simp only
    rw [hn, if_pos (by rw [nI_le_iff (by omega) (by omega)]; omega)]
    exact ⟨_, rfl, ha, hz⟩) ((if nI (9 * sS T K / 10) < nI size then 0 else 1), 0) (by
    refine ⟨rfl, ?_, ?_⟩
    · simp only
      split
      · exact .inl rfl
      · exact .inr rfl
    · simp only
      intro w
      refine ⟨?_, fun j hj => by omega⟩
      have := hsle K
      by_cases y : nI (9 * sS T K / 10) < nI size
      · rw [nI_lt_iff (by omega) (by omega)] at y; exact y
      · rw [if_neg y] at w; exact absurd w (by decide)) (by omega)
  refine wq_b1 hcan ?_
  rintro q12 ⟨hq01, hq0⟩
  by_cases hq : q12 = 0
  · subst hq
    obtain ⟨z1, z2⟩ := hq0 rfl
    have e : lp (fun s => w_X11_joinsOf_85 (nI size) M (nI K) 0 s.1 s.2) FU (-1, 1) = some (-1) := by
      refine lp_end (n := 999999) ?_
      unfold w_X11_joinsOf_85
      simp only
      by_cases y : nI K < 1
      · rw [if_pos y]
      · rw [if_neg y, if_pos trivial]
    rw [e, b1_some]
    refine wq_some (.inl ⟨rfl, ?_⟩)
    intro S hS hz hd
    unfold doesS at hd
    by_cases c1 : cS T S = 1
    · rw [if_pos c1] at hd
      obtain ⟨i, i1, i2, i3⟩ := (one_of (T := T) (S := S) T.1).2 c1
      have := z2 i i1 ((okK S).1 hS i i2)
      have : sS T S = vN T i 1 := i3
      omega
    · rw [if_neg c1] at hd
      have := sN_mono (T := T) ((okK S).1 hS) T.1
      have : sS T S ≤ sS T K := this
      omega
  · -- all sets, from the least on
    refine wq_b1 (P := fun r => (r = -1 ∧ ∀ S, okS T k S → S ≠ 0 → ¬ doesS T size S) ∨ ∃ S, bestS T k size S ∧ r = nI S) (lp_to (fun j s => s.2 = nI (j + 1) ∧ ((s.1 = -1 ∧ ∀ S, S < j + 1 → okS T k S → S ≠ 0 → ¬ doesS T size S) ∨ ∃ B, s.1 = nI B ∧ B < j + 1 ∧ okS T k B ∧ B ≠ 0 ∧ doesS T size B ∧ ∀ S, S < j + 1 → okS T k S → S ≠ 0 → doesS T size S → cS T B < cS T S ∨ (cS T B = cS T S ∧ (sS T B < sS T S ∨ (sS T B = sS T S ∧ B ≤ S))))) K ?_ ?_ _ ?_ (by omega)) (fun r hr => wq_some hr)
    · rintro j ⟨b, x⟩ hj ⟨hx, hst⟩
      simp only at hx hst
      subst hx
      unfold w_X11_joinsOf_85
      simp only
      rw [if_neg (nI_nlt (by omega) (by omega)), if_neg hq, nI_inc]
      by_cases hsub : okS T k (j + 1)
      · rw [if_pos ((sub_iff (by omega) (by omega)).2 ((okK _).1 hsub))]
        have hc := hcnt (j + 1) (by omega)
        have hsm := hsum (j + 1) (by omega)
        have hcl := hcle (j + 1)
        have hsl := hsle (j + 1)
        have hdo : ∃ x, f_X11_doesFor (nI (j + 1)) (nI size) M = some x ∧ (x = 0 ↔ ¬ doesS T size (j + 1)) := by
          unfold f_X11_doesFor doesS
          rw [hc, b1_some]
          by_cases c1 : cS T (j + 1) = 1
          · rw [if_pos (by rw [c1]; rfl), hsm, b1_some, lt_eq, if_pos c1]
            by_cases y : sS T (j + 1) < size
            · rw [if_pos (nI_lt y (by omega))]
              exact ⟨_, rfl, fun _ => by omega, fun _ => rfl⟩
            · rw [if_neg (nI_nlt (by omega) (by omega))]
              exact ⟨_, rfl, fun w => absurd w (by decide), fun w => absurd (by omega) w⟩
          · rw [if_neg (by
              intro w
              have w : nI (cS T (j + 1)) = nI 1 := w
              rw [nI_eq_iff (by omega) (by omega)] at w; exact c1 w), hsm, b1_some, lt_eq, joined_nI (by omega), if_neg c1]
            by_cases y : 9 * sS T (j + 1) / 10 < size
            · rw [if_pos (nI_lt y (by omega))]
              exact ⟨_, rfl, fun _ => by omega, fun _ => rfl⟩
            · rw [if_neg (nI_nlt (by omega) (by omega))]
              exact ⟨_, rfl, fun w => absurd w (by decide), fun w => absurd (by omega) w⟩
        obtain ⟨xd, hdo, hdi⟩ := hdo
        rw [hdo, b1_some]
        by_cases hd : doesS T size (j + 1)
        · rw [if_neg (fun z => hdi.1 z hd)]
          rcases hst with ⟨h1, h2⟩ | ⟨B, h1, h2, h3, h4, h5, h6⟩
          · rw [h1, if_pos rfl]
            refine ⟨_, rfl, rfl, .inr ⟨j + 1, rfl, by omega, hsub, by omega, hd, ?_⟩⟩
            intro S s1 s2 s3 s4
            by_cases e : S = j + 1
            · rw [e]; exact .inr ⟨rfl, .inr ⟨rfl, Nat.le_refl _⟩⟩
            · exact absurd s4 (h2 S (by omega) s2 s3)
          · subst h1
            have hcB := hcnt B (by omega)
            have hsB := hsum B (by omega)
            have hclB := hcle B
            have hslB := hsle B
            rw [if_neg (nI_neg1 (by omega)), hc, b1_some, hcB, b1_some]
            have hdiff : (nI (cS T (j + 1)) - nI (cS T B)).toInt = (cS T (j + 1) : Int) - cS T B := nI_sub_toInt (by omega) (by omega)
            by_cases y : cS T (j + 1) < cS T B
            · rw [if_pos (by rw [Int32.lt_iff_toInt_lt, hdiff, toInt_0]; omega)]
              refine ⟨_, rfl, rfl, .inr ⟨j + 1, rfl, by omega, hsub, by omega, hd, ?_⟩⟩
              intro S s1 s2 s3 s4
              by_cases e : S = j + 1
              · rw [e]; exact .inr ⟨rfl, .inr ⟨rfl, Nat.le_refl _⟩⟩
              · have := h6 S (by omega) s2 s3 s4
                left; omega
            · rw [if_neg (by rw [Int32.lt_iff_toInt_lt, hdiff, toInt_0]; omega)]
              by_cases y2 : cS T (j + 1) = cS T B
              · rw [if_pos (by apply Int32.toInt_inj.1; rw [hdiff, toInt_0]; omega), hsm, b1_some, hsB, b1_some]
                by_cases y3 : sS T B ≤ sS T (j + 1)
                · rw [if_pos (nI_le y3 (by omega))]
                  refine ⟨_, rfl, rfl, .inr ⟨B, rfl, by omega, h3, h4, h5, ?_⟩⟩
                  intro S s1 s2 s3 s4
                  by_cases e : S = j + 1
                  · rw [e]; right; refine ⟨by omega, ?_⟩; omega
                  · exact h6 S (by omega) s2 s3 s4
                · rw [if_neg (nI_ge (by omega) (by omega))]
                  refine ⟨_, rfl, rfl, .inr ⟨j + 1, rfl, by omega, hsub, by omega, hd, ?_⟩⟩
                  intro S s1 s2 s3 s4
                  by_cases e : S = j + 1
                  · rw [e]; exact .inr ⟨rfl, .inr ⟨rfl, Nat.le_refl _⟩⟩
                  · have := h6 S (by omega) s2 s3 s4
                    omega
              · rw [if_neg (by
                  intro w
                  have w := congrArg Int32.toInt w
                  rw [hdiff, toInt_0] at w
                  omega)]
                refine ⟨_, rfl, rfl, .inr ⟨B, rfl, by omega, h3, h4, h5, ?_⟩⟩
                intro S s1 s2 s3 s4
                by_cases e : S = j + 1
                · rw [e]; left; omega
                · exact h6 S (by omega) s2 s3 s4
        · rw [if_pos (hdi.2 hd)]
          refine ⟨_, rfl, rfl, ?_⟩
          rcases hst with ⟨h1, h2⟩ | ⟨B, h1, h2, h3, h4, h5, h6⟩
          · refine .inl ⟨h1, fun S s1 s2 s3 => ?_⟩
            by_cases e : S = j + 1
            · rw [e]; exact hd
            · exact h2 S (by omega) s2 s3
          · refine .inr ⟨B, h1, by omega, h3, h4, h5, fun S s1 s2 s3 s4 => ?_⟩
            by_cases e : S = j + 1
            · rw [e] at s4; exact absurd s4 hd
            · exact h6 S (by omega) s2 s3 s4
      · rw [if_neg (fun w => hsub ((okK _).2 ((sub_iff (by omega) (by omega)).1 w)))]
        refine ⟨_, rfl, rfl, ?_⟩
        rcases hst with ⟨h1, h2⟩ | ⟨B, h1, h2, h3, h4, h5, h6⟩
        · refine .inl ⟨h1, fun S s1 s2 s3 => ?_⟩
          by_cases e : S = j + 1
          · rw [e] at s2; exact absurd s2 hsub
          · exact h2 S (by omega) s2 s3
        · refine .inr ⟨B, h1, by omega, h3, h4, h5, fun S s1 s2 s3 s4 => ?_⟩
          by_cases e : S = j + 1
          · rw [e] at s2; exact absurd s2 hsub
          · exact h6 S (by omega) s2 s3 s4
    · rintro ⟨b, x⟩ ⟨hx, hst⟩
      simp only at hx hst
      subst hx
      unfold w_X11_joinsOf_85
      simp only
      rw [if_pos (nI_lt (by omega) (by omega))]
      refine ⟨_, rfl, ?_⟩
      rcases hst with ⟨h1, h2⟩ | ⟨B, h1, h2, h3, h4, h5, h6⟩
      · exact .inl ⟨h1, fun S hS hz => h2 S (by have := leK S hS; omega) hS hz⟩
      · exact .inr ⟨B, ⟨h3, h4, h5, fun S hS hz hd => h6 S (by have := leK S hS; omega) hS hz hd⟩, h1⟩
    · exact ⟨rfl, .inl ⟨rfl, fun S s1 _ s3 => by omega⟩⟩
theorem best_lt {T : Tb} {k size S : Nat} (h : bestS T k size S) (hm : T.1 ≤ 14) : S < 16384 ∧ S < 2 ^ T.1 := by
  have : S < 2 ^ T.1 := by
    apply Nat.lt_pow_two_of_testBit
    intro i hi
    cases hb : S.testBit i with
    | false => rfl
    | true => have := (h.1 i hb).1; omega
  exact ⟨Nat.lt_of_lt_of_le this (Nat.le_trans (pow2_le hm) (by decide)), this⟩
theorem c_joins (a s w : Int32) {M : Mem} (h : Inv M) : ∃ M1 M2 r, f_X10_joins a s w M = some (M1, r) ∧ b1 (f_X11_joins a s w M1) (fun x => some (M1, x)) = some (M2, r) ∧ Inv M2 := by
  refine both_ok (fc := fun M => f_X10_joins a s w M) (fm := fun M => b1 (f_X11_joins a s w M) (fun x => some (M, x))) h ?_
  rintro ⟨A, I, P, tp, ft⟩ hC hM hG
  have hle : (A.2.1 0).1 ≤ 150 := m_k hM (k := 0) (by omega)
  have hm : (A.2.1 4).1 ≤ 14 := m_4 hM.1
  have hT := hC.1.t0
  have hn : ∀ M1, InvM (A, I, P, tp, ft) M1 → M1 156 80 = nI (A.2.1 0).1 := fun M1 h1 => ans_m 0 (by omega) h1
  have hok : okRem (A.2.1 0).1 (A.2.1 4) := hG.1.2.1.2.1
  by_cases q : (a < 0 ∨ nI (A.2.1 0).1 ≤ a) ∨ ((s < 1 ∨ (99 : Int32) < s) ∨ (w < 0 ∨ (1 : Int32) < w))
  · refine ⟨(A, I, P, tp, ft), -1, hG, ?_, fun M1 hM1 => ?_⟩
    · show Wq (f_X10_joins a s w M) _
      unfold f_X10_joins
      rw [if_pos (by rw [has0 hT, within0, within0]; exact q)]
      exact wq_some ⟨rfl, hC, Hi.refl _⟩
    · show Wq (b1 (f_X11_joins a s w M1) _) _
      unfold f_X11_joins f_X11_isKind
      rw [hn M1 hM1, if_pos (by rw [isInm_pred (by omega), isInm0, isInm0]; exact q), b1_some]
      exact wq_some ⟨rfl, hM1, Lo.refl _⟩
  · rcases idx_cases a (n := (A.2.1 0).1) (by omega) with z | ⟨k, hk, rfl⟩
    · exact absurd (.inl z) q
    · obtain ⟨size, z1, z2, rfl⟩ := rng_in (x := s) 1 99 rfl rfl (by omega) (by omega) (fun z => q (.inr (.inl z)))
      have hfew := fewest_ok (k := k) (size := size) mkAt_1.2.2.1 mkAt_1.2.2.2.1 mkAt_1.2.2.2.2 hC.1.t4 hok (by omega) z1 z2
      have hmd : ∀ M1, InvM (A, I, P, tp, ft) M1 → Wq (f_X11_joinsOf (nI k) (nI size) M1) (fun r => (r = -1 ∧ ∀ S, okS (A.2.1 4) k S → S ≠ 0 → ¬ doesS (A.2.1 4) size S) ∨ ∃ S, bestS (A.2.1 4) k size S ∧ r = nI S) := fun M1 h1 => joinsOf_ok h1.1 hok z1 z2
      obtain ⟨⟨M5, x⟩, e1, e2, e3⟩ := hfew
      simp only at e2 e3
      have cc : ¬ (f_X8_has (1 + 1) (nI k) M = 0 ∨ (f_X10_within (nI size) 1 99 = 0 ∨ f_X10_within w 0 1 = 0)) := by rw [has0 hT, within0, within0]; exact q
      have e1 : f_X1_fewest (1 + 21) (1 + 9) (nI k) (nI size) M = some (M5, x) := e1
      have mc : ∀ M1, InvM (A, I, P, tp, ft) M1 → ¬ (f_X11_isKind (nI k) M1 = 0 ∨ (f_X11_isIn (nI size) 1 99 = 0 ∨ f_X11_isIn w 0 1 = 0)) := by
        intro M1 h1
        unfold f_X11_isKind
        rw [hn M1 h1, isInm_pred (by omega), isInm0, isInm0]; exact q
      have hsc : InvC (A, I, P, tp, ft) M5 := hC.scr e3 (by omega)
      have hhi : Hi M M5 := e3.hi (by omega)
      rcases e2 with ⟨x0, hnone⟩ | ⟨S, hB, hx⟩
      · subst x0
        refine ⟨(A, I, P, tp, ft), -1, hG, ?_, fun M1 hM1 => ?_⟩
        · show Wq (f_X10_joins (nI k) (nI size) w M) _
          unfold f_X10_joins
          rw [if_neg cc, e1, b2_some, if_pos rfl]
          exact wq_some ⟨rfl, hsc, hhi⟩
        · show Wq (b1 (f_X11_joins (nI k) (nI size) w M1) _) _
          unfold f_X11_joins
          rw [if_neg (mc M1 hM1)]
          obtain ⟨y, y1, y2⟩ := hmd M1 hM1
          rcases y2 with ⟨y2, _⟩ | ⟨S, hB, _⟩
          · rw [y1, b1_some, y2, if_pos (.inl rfl), b1_some]
            exact wq_some ⟨rfl, hM1, Lo.refl _⟩
          · exact absurd hB.2.2.1 (hnone S hB.1 hB.2.1)
      · subst hx
        obtain ⟨hlt, hlt2⟩ := best_lt hB hm
        have hS0 : ¬ nI S = 0 := nI_ne0 (Nat.pos_of_ne_zero hB.2.1) (by omega)
        refine ⟨(A, I, P, tp, ft), if w = 0 then nI (popc S) else nI S, hG, ?_, fun M1 hM1 => ?_⟩
        · show Wq (f_X10_joins (nI k) (nI size) w M) _
          unfold f_X10_joins
          rw [if_neg cc, e1, b2_some, if_neg hS0, lt_eq, bitCount_nI hlt]
          exact wq_some ⟨rfl, hsc, hhi⟩
        · show Wq (b1 (f_X11_joins (nI k) (nI size) w M1) _) _
          unfold f_X11_joins
          rw [if_neg (mc M1 hM1)]
          obtain ⟨y, y1, y2⟩ := hmd M1 hM1
          rcases y2 with ⟨_, hnone⟩ | ⟨S', hB', y2⟩
          · exact absurd hB.2.2.1 (hnone S hB.1 hB.2.1)
          · have e := bestS_uniq hB' hB
            subst e
            rw [y1, b1_some, y2]
            by_cases w0 : w = 0
            · rw [if_pos w0, if_neg (by
                rintro (z | z)
                · exact nI_neg1 (by omega) z
                · rw [w0] at z; exact absurd z (by decide)), count_nI (by omega), b1_some, b1_some]
              exact wq_some ⟨rfl, hM1, Lo.refl _⟩
            · have w1 : w = 1 := by
                obtain ⟨w', _, hw, rfl⟩ := rng_in (x := w) 0 1 rfl rfl (by omega) (by omega) (fun z => q (.inr (.inr z)))
                have : w' = 0 ∨ w' = 1 := by omega
                rcases this with rfl | rfl
                · exact absurd rfl w0
                · rfl
              rw [if_neg w0, if_pos (.inr w1), b1_some]
              exact wq_some ⟨rfl, hM1, Lo.refl _⟩
