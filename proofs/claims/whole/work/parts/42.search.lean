/-! ===== PURE PART: the search, cut short ===== -/
section PRN
variable {pl sz : Nat → Nat} {tg : Nat}
theorem noop_a : ∀ (L m sum set : Nat) (b : Nat × Nat), b.1 ≤ sum → fullS pl sz tg L m sum set b = b
  | 0, m, sum, set, b, h => by
    unfold fullS
    by_cases q : m = 0
    · rw [if_pos q, if_neg (by omega)]
    · rw [if_neg q]
  | L + 1, m, sum, set, b, h => by
    unfold fullS
    by_cases q : m = 0
    · rw [if_pos q, if_neg (by omega)]
    · rw [if_neg q, noop_a L m sum set b h, noop_a L (m - 1) (sum + sz L) _ b (by omega)]
theorem noop_b : ∀ (L m sum set : Nat) (b : Nat × Nat), b.1 ≤ tg → fullS pl sz tg L m sum set b = b
  | 0, m, sum, set, b, h => by
    unfold fullS
    by_cases q : m = 0
    · rw [if_pos q, if_neg (by omega)]
    · rw [if_neg q]
  | L + 1, m, sum, set, b, h => by
    unfold fullS
    by_cases q : m = 0
    · rw [if_pos q, if_neg (by omega)]
    · rw [if_neg q, noop_b L m sum set b h, noop_b L (m - 1) (sum + sz L) _ b h]
theorem noop_c : ∀ (L m sum set : Nat) (b : Nat × Nat), L < m → fullS pl sz tg L m sum set b = b
  | 0, m, sum, set, b, h => by
    unfold fullS
    rw [if_neg (by omega)]
  | L + 1, m, sum, set, b, h => by
    unfold fullS
    rw [if_neg (by omega), noop_c L m sum set b (by omega), noop_c L (m - 1) (sum + sz L) _ b (by omega)]
theorem noop_d {mx : Nat} : ∀ (L m sum set : Nat) (b : Nat × Nat), (∀ j, j < L → sz j ≤ mx) → sum + m * mx < tg → fullS pl sz tg L m sum set b = b
  | 0, m, sum, set, b, hs, h => by
    unfold fullS
    by_cases q : m = 0
    · subst q
      rw [if_pos rfl, if_neg (by omega)]
    · rw [if_neg q]
  | L + 1, m, sum, set, b, hs, h => by
    unfold fullS
    by_cases q : m = 0
    · subst q
      rw [if_pos rfl, if_neg (by omega)]
    · obtain ⟨k, rfl⟩ : ∃ k, m = k + 1 := ⟨m - 1, by omega⟩
      have e : (k + 1) * mx = k * mx + mx := by rw [Nat.add_mul, Nat.one_mul]
      have hsL := hs L (by omega)
      rw [if_neg q, noop_d L (k + 1) sum set b (fun j hj => hs j (by omega)) h, Nat.add_sub_cancel, noop_d L k (sum + sz L) _ b (fun j hj => hs j (by omega)) (by omega)]
theorem full_zero (L sum set : Nat) (b : Nat × Nat) : fullS pl sz tg L 0 sum set b = if tg ≤ sum ∧ sum < b.1 then (sum, set) else b := by
  cases L with
  | zero => unfold fullS; rw [if_pos rfl]
  | succ L => unfold fullS; rw [if_pos rfl]
theorem full_step (L m sum set : Nat) (b : Nat × Nat) : fullS pl sz tg (L + 1) (m + 1) sum set b = fullS pl sz tg L m (sum + sz L) (set + 2 ^ pl L) (fullS pl sz tg L (m + 1) sum set b) := by
  conv => lhs; unfold fullS
  rw [if_neg (by omega), Nat.add_sub_cancel]
end PRN
/-- the finder's items as they lie, and the best so far -/
def RFi (o c tg mx : Nat) (pl sz : Nat → Nat) (M : Mem) : Prop := la (o + 1) = some 14 ∧ la (o + 2) = some 14 ∧ (c ≤ 14 ∧ tg ≤ 1000 ∧ mx ≤ 99) ∧ M o 4 = nI tg ∧ M (o + 3) 0 = nI mx ∧ ∀ j, j < c → M (o + 1) j = nI (pl j) ∧ M (o + 2) j = nI (sz j) ∧ pl j < 14 ∧ sz j ≤ mx
theorem search_ok {o c tg mx : Nat} {pl sz : Nat → Nat} (hu : upto pl c) : ∀ (n L m sum set : Nat) (b : Nat × Nat) (M : Mem), L < n → L ≤ c → RFi o c tg mx pl sz M → M o 5 = nI b.1 → M o 6 = nI b.2 → b.1 ≤ 1000000 → m ≤ 100 → sum + L * 99 ≤ 10000 → (∃ q a, set = 2 ^ q * a ∧ set + 2 ^ q ≤ 16384 ∧ ∀ j, j < L → pl j < q) → Wq (f_X1_search n o (nI L - 1) (nI m) (nI sum) (nI set) M) (fun M' => M' o 5 = nI (fullS pl sz tg L m sum set b).1 ∧ M' o 6 = nI (fullS pl sz tg L m sum set b).2 ∧ (∀ j, j ≠ 5 → j ≠ 6 → M' o j = M o j) ∧ (∀ a, a ≠ o → M' a = M a) ∧ (fullS pl sz tg L m sum set b).1 ≤ 1000000) := by
  intro n
  induction n with
  | zero => intro L m sum set b M hn; omega
  | succ n ih =>
    intro L m sum set b M hn hL hR h5 h6 hb1 hm hsum hset
    obtain ⟨l1, l2, ⟨hc14, htg, hmx⟩, h4, h3, hit⟩ := hR
    have same : ∀ x, x = b → Wq (some M) (fun M' => M' o 5 = nI x.1 ∧ M' o 6 = nI x.2 ∧ (∀ j, j ≠ 5 → j ≠ 6 → M' o j = M o j) ∧ (∀ a, a ≠ o → M' a = M a) ∧ x.1 ≤ 1000000) := by
      intro x hx
      subst hx
      exact wq_some ⟨h5, h6, fun _ _ _ => rfl, fun _ _ => rfl, hb1⟩
    show Wq (F_X1_search (gr_X1_search n) o (nI L - 1) (nI m) (nI sum) (nI set) M) _
    unfold F_X1_search
    rw [h5, h4, h3]
    by_cases q1 : b.1 ≤ sum
    · rw [if_pos (nI_le q1 (by omega))]
      exact same _ (noop_a L m sum set b q1)
    · rw [if_neg (nI_ge (by omega) (by omega))]
      by_cases q2 : b.1 ≤ tg
      · rw [if_pos (nI_le q2 (by omega))]
        exact same _ (noop_b L m sum set b q2)
      · rw [if_neg (nI_ge (by omega) (by omega))]
        have e1 : nI L - 1 + 1 = nI L := Int32.sub_add_cancel _ _
        rw [e1]
        by_cases q3 : m ≤ L
        · rw [if_pos (nI_le q3 (by omega))]
          by_cases q4 : m = 0
          · subst q4
            rw [if_neg (by decide)]
            have ez := full_zero (pl := pl) (sz := sz) (tg := tg) L sum set b
            by_cases q5 : sum < tg
            · rw [if_pos (nI_lt q5 (by omega))]
              refine same _ ?_
              rw [ez, if_neg (by omega)]
            · rw [if_neg (nI_nlt (by omega) (by omega)), lt_eq, lt_eq]
              rw [if_pos (by omega)] at ez
              rw [ez]
              refine wq_some ⟨?_, up2_at _ _ _ _, ?_, ?_, by show sum ≤ 1000000; omega⟩
              · rw [up2_slot _ _ _ (by omega), up2_at]
              · intro j j5 j6
                rw [up2_slot _ _ _ j6, up2_slot _ _ _ j5]
              · intro a ha
                rw [up2_cell _ _ _ ha, up2_cell _ _ _ ha]
          · rw [if_pos (show (0 : Int32) < nI m from nI_lt (a := 0) (by omega) (by omega))]
            obtain ⟨L', rfl⟩ : ∃ L', L = L' + 1 := ⟨L - 1, by omega⟩
            obtain ⟨m', rfl⟩ : ∃ m', m = m' + 1 := ⟨m - 1, by omega⟩
            have e2 : nI (L' + 1) - 1 = nI L' := nI_dec' (by omega)
            have hmm : (m' + 1) * mx ≤ 100 * 99 := Nat.mul_le_mul hm hmx
            rw [e2, nI_mul, nI_add]
            by_cases q6 : tg ≤ sum + (m' + 1) * mx
            · rw [if_neg (by
                rintro (z | z | z)
                · exact nI_nneg (by omega) z
                · have z : nI 14 ≤ nI L' := z
                  rw [nI_le_iff (by omega) (by omega)] at z; omega
                · exact z (nI_le q6 (by omega)))]
              obtain ⟨qq, a, hs1, hs2, hs3⟩ := hset
              obtain ⟨r1, r2, r3, r4⟩ := hit L' (by omega)
              have i1 := ih L' (m' + 1) sum set b M (by omega) (by omega) ⟨l1, l2, ⟨hc14, htg, hmx⟩, h4, h3, hit⟩ h5 h6 hb1 hm (by omega) ⟨qq, a, hs1, hs2, fun j hj => hs3 j (by omega)⟩
              refine wq_b1 i1 ?_
              rintro M9 ⟨g5, g6, g7, g8, g9⟩
              have c1 : M9 (o + 1) = M (o + 1) := g8 _ (by omega)
              have c2 : M9 (o + 2) = M (o + 2) := g8 _ (by omega)
              have c3 : M9 (o + 3) = M (o + 3) := g8 _ (by omega)
              have hpl : pl L' < qq := hs3 L' (by omega)
              have hp2 : 2 ^ pl L' ≤ 2 ^ qq := pow2_le (by omega)
              have hp2' : 2 * 2 ^ pl L' ≤ 2 ^ qq := by
                have := pow2_le (show pl L' + 1 ≤ qq by omega)
                rw [Nat.pow_succ] at this; omega
              have hor : set ||| 2 ^ pl L' = set + 2 ^ pl L' := by
                rw [hs1]
                exact (Nat.two_pow_add_eq_or_of_lt (Nat.pow_lt_pow_right (by omega) hpl) a).symm
              rw [rd_nI l2 (by omega) (by omega), b1_some, rd_nI l1 (by omega) (by omega), b1_some, c1, c2, r1, r2, nI_shl _ (by omega), nI_or, nI_add, nI_dec' (a := m' + 1) (by omega), hor, Nat.add_sub_cancel, full_step]
              have hR9 : RFi o c tg mx pl sz M9 := ⟨l1, l2, ⟨hc14, htg, hmx⟩, by rw [g7 4 (by omega) (by omega)]; exact h4, by rw [c3]; exact h3, by rw [c1, c2]; exact hit⟩
              have i2 := ih L' m' (sum + sz L') (set + 2 ^ pl L') _ M9 (by omega) (by omega) hR9 g5 g6 g9 (by omega) (by omega) ⟨pl L', 2 ^ (qq - pl L') * a + 1, by
                rw [hs1, Nat.mul_add, Nat.mul_one, ← Nat.mul_assoc, ← Nat.pow_add, show pl L' + (qq - pl L') = qq from by omega], by omega, fun j hj => hu j L' hj (by omega)⟩
              refine wq_b1 i2 ?_
              rintro M12 ⟨k5, k6, k7, k8, k9⟩
              exact wq_some ⟨k5, k6, fun j a b => by rw [k7 j a b, g7 j a b], fun a ha => by rw [k8 a ha, g8 a ha], k9⟩
            · rw [if_pos (.inr (.inr (fun z => q6 (by rw [nI_le_iff (by omega) (by omega)] at z; exact z))))]
              exact same _ (noop_d (mx := mx) (L' + 1) (m' + 1) sum set b (fun j hj => (hit j (by omega)).2.2.2) (by omega))
        · rw [if_neg (nI_ge (by omega) (by omega))]
          exact same _ (noop_c L m sum set b (by omega))
/-! the greatest sum of so many -/
def topS (sz : Nat → Nat) : Nat → Nat → Nat
  | 0, _ => 0
  | _ + 1, 0 => 0
  | c + 1, m + 1 => if topS sz c (m + 1) < topS sz c m + sz c then topS sz c m + sz c else topS sz c (m + 1)
def preS (fl : Nat → Nat) : Nat → Nat
  | 0 => 0
  | m + 1 => preS fl m + fl m
section TOP
variable {pl sz : Nat → Nat}
theorem topS_succ (sz : Nat → Nat) (c m : Nat) : topS sz (c + 1) (m + 1) = if topS sz c (m + 1) < topS sz c m + sz c then topS sz c m + sz c else topS sz c (m + 1) := rfl
theorem topS_zero (sz : Nat → Nat) : ∀ c, topS sz c 0 = 0
  | 0 => rfl
  | _ + 1 => rfl
theorem top_ge {c : Nat} (hu : upto pl c) : ∀ (L m S : Nat), L ≤ c → inI pl L S → cI pl S L = m → sI pl sz S L ≤ topS sz L m
  | 0, m, S, _, _, _ => Nat.le_refl _
  | L + 1, m, S, hL, hI, hc => by
    by_cases hb : S.testBit (pl L) = true
    · obtain ⟨S', _, e2, e3, e4⟩ := split_top (sz := sz) hI hu (by omega) hb
      obtain ⟨m', rfl⟩ : ∃ m', m = m' + 1 := ⟨m - 1, by omega⟩
      have := top_ge hu L m' S' (by omega) e2 (by omega)
      rw [topS_succ, e4]
      split <;> omega
    · obtain ⟨e1, e2, e3⟩ := skip_top (sz := sz) hI hb
      have := top_ge hu L m S (by omega) e1 (by omega)
      rw [e3]
      cases m with
      | zero =>
        rw [topS_zero] at this ⊢
        exact this
      | succ m =>
        rw [topS_succ]
        split <;> omega
theorem top_is {c : Nat} (hu : upto pl c) : ∀ (L m : Nat), L ≤ c → m ≤ L → ∃ S, inI pl L S ∧ cI pl S L = m ∧ sI pl sz S L = topS sz L m
  | L, 0, _, _ => by
    refine ⟨0, fun i hi => (by rw [Nat.zero_testBit] at hi; cases hi), ?_, ?_⟩
    · have : ∀ L', cI pl 0 L' = 0 := by
        intro L'
        induction L' with
        | zero => rfl
        | succ L' ih => show cI pl 0 L' + (if (0 : Nat).testBit (pl L') then 1 else 0) = 0; rw [ih, Nat.zero_testBit]; rfl
      exact this L
    · rw [topS_zero]
      have : ∀ L', sI pl sz 0 L' = 0 := by
        intro L'
        induction L' with
        | zero => rfl
        | succ L' ih => show sI pl sz 0 L' + (if (0 : Nat).testBit (pl L') then sz L' else 0) = 0; rw [ih, Nat.zero_testBit]; rfl
      exact this L
  | 0, m + 1, _, h => by omega
  | L + 1, m + 1, hL, hm => by
    by_cases q : topS sz L (m + 1) < topS sz L m + sz L
    · obtain ⟨S, s1, s2, s3⟩ := top_is hu L m (by omega) (by omega)
      obtain ⟨e1, e2, e3⟩ := join_top (sz := sz) s1 hu (by omega)
      refine ⟨_, e1, by rw [e2, s2], ?_⟩
      rw [e3, s3, topS_succ, if_pos q]
    · by_cases hm' : m + 1 ≤ L
      · obtain ⟨S, s1, s2, s3⟩ := top_is hu L (m + 1) (by omega) hm'
        have hb : ¬ S.testBit (pl L) = true := by
          rw [Nat.testBit_lt_two_pow (inI_lt s1 hu (by omega))]; simp
        have i1 : inI pl (L + 1) S := fun i hi => by obtain ⟨j, hj, e⟩ := s1 i hi; exact ⟨j, by omega, e⟩
        obtain ⟨_, e2, e3⟩ := skip_top (sz := sz) i1 hb
        refine ⟨S, i1, by rw [e2, s2], ?_⟩
        rw [e3, s3, topS_succ, if_neg q]
      · -- all of them: with so many asked no more than all can come
        obtain ⟨S, s1, s2, s3⟩ := top_is hu L m (by omega) (by omega)
        obtain ⟨e1, e2, e3⟩ := join_top (sz := sz) s1 hu (by omega)
        refine ⟨_, e1, by rw [e2, s2], ?_⟩
        have hall : ∀ L' a b, L' ≤ a → a ≤ b → topS sz L' b = topS sz L' a := by
          intro L'
          induction L' with
          | zero => intro a b _ _; rfl
          | succ L' ih =>
            intro a b ha hb
            obtain ⟨a', rfl⟩ : ∃ a', a = a' + 1 := ⟨a - 1, by omega⟩
            obtain ⟨b', rfl⟩ : ∃ b', b = b' + 1 := ⟨b - 1, by omega⟩
            rw [topS_succ, topS_succ, ih (a' + 1) (b' + 1) (by omega) (by omega), ih a' b' (by omega) (by omega)]
        have h1 := hall L m (m + 1) (by omega) (by omega)
        rw [e3, s3, topS_succ, if_neg q, h1]
        omega
end TOP
