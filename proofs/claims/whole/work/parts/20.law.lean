/-! ===== PURE PART: what the law says ===== -/
/-- a code that leaves one value more, and never needs more room than n -/
def Good (n : Nat) (b : Bool) (c : Cd) : Prop := ∃ V : (Nat → Int32) → Int32, ∀ (F : Nat → Int32) (t : Nat) (s : Nat → Int32), t + n ≤ 31 → ∃ s', runS F c (t, s) = some (t + 1, s') ∧ (∀ j, j < t → s' j = s j) ∧ s' t = V F ∧ (b = true → V F = 0 ∨ V F = 1)
def evalS (F : Nat → Int32) (c : Cd) : Int32 := match runS F c (0, fun _ => 0) with
  | some q => q.2 0
  | none => 0
theorem Good.run {n : Nat} {b : Bool} {c : Cd} (h : Good n b c) (hn : n ≤ 31) (F : Nat → Int32) (s : Nat → Int32) : ∃ s', runS F c (0, s) = some (1, s') ∧ s' 0 = evalS F c ∧ (b = true → evalS F c = 0 ∨ evalS F c = 1) := by
  obtain ⟨V, hV⟩ := h
  obtain ⟨s', h1, _, h3, h4⟩ := hV F 0 s (by omega)
  obtain ⟨s2, g1, _, g3, g4⟩ := hV F 0 (fun _ => 0) (by omega)
  have e : evalS F c = V F := by unfold evalS; rw [g1]; exact g3
  exact ⟨s', h1, by rw [h3, e], by rw [e]; exact h4⟩
abbrev LwT : Type := List (Nat × Cd × Cd)
def sayS (F : Nat → Int32) : LwT → Nat → Int32 → Int32
  | [], _, other => other
  | l :: L, w, other => if l.1 = w ∧ (l.2.2 = [] ∨ evalS F l.2.2 ≠ 0) then evalS F l.2.1 else sayS F L w other
def OKL (L : LwT) : Prop := L.length ≤ 16 ∧ ∀ l, l ∈ L → (20 ≤ l.1 ∧ l.1 ≤ 23) ∧ Good 31 false l.2.1 ∧ (l.2.2 = [] ∨ Good 31 true l.2.2)
def LwAt (o : Nat) : Prop := la (o + 1) = some 16 ∧ la (o + 2) = some 16 ∧ la (o + 3) = some 16 ∧ la (o + 4) = some 16 ∧ la (o + 5) = some 400 ∧ la (o + 6) = some 400 ∧ la (o + 7) = some 32
/-- the law as the class keeps it -/
def RLw (o : Nat) (L : LwT) (M : Mem) : Prop := ∃ st : Nat → Nat, M o 7 = nI L.length ∧ ∀ i l, L[i]? = some l → (M (o + 1) i = nI (287 + l.1) ∧ M (o + 2) i = nI (st i) ∧ M (o + 3) i = nI (st i + (xC l.2.1).length) ∧ M (o + 4) i = nI (st i + (xC l.2.1).length + (xC l.2.2).length) ∧ st i + (xC l.2.1).length + (xC l.2.2).length ≤ 400) ∧ ∀ j p, (xC l.2.1 ++ xC l.2.2)[j]? = some p → M (o + 5) (st i + j) = p.1 ∧ M (o + 6) (st i + j) = p.2
/-- the law as the reference keeps it, in the row c -/
def RLm (c : Nat) (L : LwT) (M : Mem) : Prop := ∃ st : Nat → Nat, M c 83 = nI L.length ∧ ∀ i l, L[i]? = some l → (M c (970 + i) = nI (st i) ∧ M c (986 + i) = nI (st i + l.2.1.length) ∧ M c (1002 + i) = nI (st i + l.2.1.length + l.2.2.length) ∧ M c (1018 + i) = nI l.1 ∧ st i + l.2.1.length + l.2.2.length ≤ 410) ∧ ∀ j p, (l.2.1 ++ l.2.2)[j]? = some p → M c (1036 + 2 * (st i + j)) = nI p.1 ∧ (p.1 = 0 ∨ p.1 = 26 → M c (1036 + 2 * (st i + j) + 1) = p.2)
theorem RLw.out {o lo hi : Nat} {L : LwT} {M M' : Mem} (h : RLw o L M) (hO : Out lo hi M M') (ho : o + 6 < lo ∨ hi ≤ o) : RLw o L M' := by
  unfold RLw
  rw [hO o (by omega), hO (o + 1) (by omega), hO (o + 2) (by omega), hO (o + 3) (by omega), hO (o + 4) (by omega), hO (o + 5) (by omega), hO (o + 6) (by omega)]
  exact h
theorem xC_nil {c : Cd} (h : (xC c).length = 0) : c = [] := by
  cases c with
  | nil => rfl
  | cons p c =>
    have := xs_ne p
    have e : xC (p :: c) = xs p ++ xC c := rfl
    rw [e, List.length_append] at h
    omega
theorem worked_ok {F : Nat → Int32} {o a3 : Nat} (hA : LwAt o) (ha : la a3 = some 7) (hne : a3 ≠ o + 7) {b : Bool} {c : Cd} {i e : Nat} {M : Mem} (hG : Good 31 b c) (he : e = i + (xC c).length) (hle : e ≤ 400) (hc : ∀ j p, (xC c)[j]? = some p → M (o + 5) (i + j) = p.1 ∧ M (o + 6) (i + j) = p.2) (hF : ∀ k, k < 7 → M a3 k = F k) : Wq (f_X2_worked o (nI i) (nI e) a3 M) (fun p => p.2 = evalS F c ∧ Out (o + 7) (o + 8) M p.1) := by
  obtain ⟨s', h1, h2, _⟩ := hG.run (Nat.le_refl _) F (M (o + 7))
  have hmax : f_J9_max_7cf53 (nI i) 0 = nI i := by
    unfold f_J9_max_7cf53
    rw [if_neg (nI_nneg (by omega))]
  obtain ⟨M', e1, e2, e3⟩ := worked_run F hA.2.2.2.2.1 hA.2.2.2.2.2.1 hA.2.2.2.2.2.2 ha hne c (0, M (o + 7)) (1, s') i e M FU h1 he hle hc hF (fun j hj => rfl) (Nat.zero_le _) (by unfold FU; omega)
  unfold f_X2_worked
  rw [hmax]
  refine wq_b1e e1 ?_
  simp only
  rw [if_neg (by decide), show nI 1 - 1 = nI 0 from rfl, rd_nI hA.2.2.2.2.2.2 (by omega) (by omega), b1_some]
  exact wq_some ⟨by rw [← h2]; exact e2 0 (by simp), e3⟩
theorem drop_get {α : Type} {L : List α} {k : Nat} (h : k < L.length) : ∃ l, L[k]? = some l ∧ L.drop k = l :: L.drop (k + 1) := ⟨L[k], List.getElem?_eq_getElem h, List.drop_eq_getElem_cons h⟩
theorem tells_ok {F : Nat → Int32} {o a3 : Nat} (hA : LwAt o) (ha : la a3 = some 7) (hne : a3 < o ∨ o + 7 < a3) {L : LwT} {M : Mem} {w : Nat} {other : Int32} (hL : OKL L) (hR : RLw o L M) (hw : w ≤ 100) (hF : ∀ k, k < 7 → M a3 k = F k) : Wq (f_X2_tells o (nI (287 + w)) a3 other M) (fun p => p.2 = sayS F L w other ∧ Out (o + 7) (o + 8) M p.1) := by
  have hlen := hL.1
  unfold f_X2_tells
  refine wq_b1 (P := fun r => match r with
    | .inl u => ∃ i l, L[i]? = some l ∧ u.1 = nI i ∧ Out (o + 7) (o + 8) M u.2 ∧ sayS F L w other = evalS F l.2.1
    | .inr u => Out (o + 7) (o + 8) M u ∧ sayS F L w other = other) (lp_inv (fun k s => s.1 = nI k ∧ Out (o + 7) (o + 8) M s.2 ∧ sayS F (L.drop k) w other = sayS F L w other) L.length ?_ _ ⟨rfl, Out.refl _ _ _, rfl⟩ (by omega)) ?_
  · rintro k ⟨i, N⟩ hk ⟨hi, hO, hs⟩
    simp only at hi hO hs
    subst hi
    have hRN := hR.out hO (by omega)
    obtain ⟨st, hn, hl⟩ := hRN
    unfold w_X2_tells_3
    simp only
    rw [hn]
    rcases Nat.lt_or_ge k L.length with hlt | hge
    · obtain ⟨l, hl1, hl2⟩ := drop_get hlt
      have hlm : l ∈ L := List.mem_of_getElem? hl1
      have hok := hL.2 l hlm
      obtain ⟨⟨r1, r2, r3, r4, r5⟩, r6⟩ := hl k l hl1
      rw [hl2] at hs
      rw [if_neg (by
        rintro (q | q)
        · rw [nI_le_iff (by omega) (by omega)] at q; omega
        · have q : nI 16 ≤ nI k := q
          rw [nI_le_iff (by omega) (by omega)] at q; omega), rd_nI hA.2.2.1 (by omega) (by omega), b1_some, rd_nI hA.2.2.2.1 (by omega) (by omega), b1_some, lt_eq, rd_nI hA.1 (by omega) (by omega), b1_some, r1, r3, r4, nI_inc]
      by_cases hw1 : l.1 = w
      · rw [if_pos (by rw [hw1])]
        by_cases hB : l.2.2 = []
        · have hx : (xC l.2.2).length = 0 := by rw [hB]; rfl
          rw [hx, Nat.add_zero, if_pos rfl, if_neg (by decide)]
          refine .inr ⟨_, rfl, k, l, hl1, rfl, hO, ?_⟩
          rw [← hs]
          unfold sayS
          rw [if_pos ⟨hw1, .inl hB⟩]
        · have hG := hok.2.2.resolve_left hB
          have hx : (xC l.2.2).length ≠ 0 := fun z => hB (xC_nil z)
          have hne' : ¬ nI (st k + (xC l.2.1).length) = nI (st k + (xC l.2.1).length + (xC l.2.2).length) := by rw [nI_eq_iff (by omega) (by omega)]; omega
          rw [if_neg hne', if_pos rfl, b1_some, b1_some]
          obtain ⟨⟨N', x⟩, e1, e2, e3⟩ := worked_ok (F := F) hA ha (by omega) (M := N) hG (i := st k + (xC l.2.1).length) (e := st k + (xC l.2.1).length + (xC l.2.2).length) rfl r5 (by
            intro j p hp
            rw [Nat.add_assoc]
            exact r6 _ p (get_app_r hp)) (by
            intro k' hk'
            rw [hO a3 (by omega)]; exact hF k' hk')
          simp only at e2 e3
          rw [e1, b2_some, e2]
          by_cases hz : evalS F l.2.2 = 0
          · rw [if_pos hz]
            refine .inl ⟨hlt, _, rfl, rfl, hO.trans e3, ?_⟩
            rw [← hs]
            try simp only
            conv => rhs; unfold sayS
            rw [if_neg (by rintro ⟨_, q | q⟩; exact hB q; exact q hz)]
          · rw [if_neg hz]
            refine .inr ⟨_, rfl, k, l, hl1, rfl, hO.trans e3, ?_⟩
            rw [← hs]
            unfold sayS
            rw [if_pos ⟨hw1, .inr hz⟩]
      · rw [if_neg (by rw [nI_eq_iff (by omega) (by omega)]; omega)]
        refine .inl ⟨hlt, _, rfl, rfl, hO, ?_⟩
        rw [← hs]
        try simp only
        conv => rhs; unfold sayS
        rw [if_neg (fun q => hw1 q.1)]
    · rw [if_pos (.inl (by rw [nI_le_iff (by omega) (by omega)]; omega))]
      refine .inr ⟨_, rfl, hO, ?_⟩
      rw [← hs, List.drop_eq_nil_of_le hge]
      rfl
  · rintro (⟨x, N⟩ | N) hr
    · obtain ⟨i, l, hl1, hx, hO, hs⟩ := hr
      simp only at hx hO
      subst hx
      have hlt : i < L.length := (List.getElem?_eq_some_iff.mp hl1).1
      have hok := hL.2 l (List.mem_of_getElem? hl1)
      obtain ⟨st, hn, hl⟩ := hR.out hO (by omega)
      obtain ⟨⟨r1, r2, r3, r4, r5⟩, r6⟩ := hl i l hl1
      simp only
      rw [rd_nI hA.2.1 (by omega) (by omega), b1_some, rd_nI hA.2.2.1 (by omega) (by omega), b1_some, r2, r3]
      refine wq_b2 (worked_ok (F := F) hA ha (by omega) (M := N) hok.2.1 rfl (by omega) (by
        intro j p hp
        exact r6 _ p (get_app_l hp)) (by
        intro k' hk'
        rw [hO a3 (by omega)]; exact hF k' hk')) ?_
      rintro N' x ⟨h1, h2⟩
      exact wq_some ⟨by rw [hs]; exact h1, hO.trans h2⟩
    · exact wq_some ⟨hr.2.symm, hr.1⟩
/-! the reference -/
theorem comesTo_ok {F : Nat → Int32} {b : Bool} {c : Cd} {i e : Nat} {M : Mem} (hG : Good 31 b c) (he : e = i + c.length) (hle : e ≤ 410) (hc : ∀ j p, c[j]? = some p → M 156 (1036 + 2 * (i + j)) = nI p.1 ∧ (p.1 = 0 ∨ p.1 = 26 → M 156 (1036 + 2 * (i + j) + 1) = p.2)) (hF : ∀ k, k < 7 → M 165 (k + 1) = F k) : Wq (f_X11_comesTo 0 (nI i) (nI e) M) (fun p => p.2 = evalS F c ∧ Out 164 165 M p.1) := by
  obtain ⟨s', h1, h2, _⟩ := hG.run (Nat.le_refl _) F (M 164)
  obtain ⟨M', e1, e2, e3⟩ := comes_run F c (0, M 164) (1, s') i e M FU h1 he hle hc hF (fun j hj => rfl) (Nat.zero_le _) (by unfold FU; omega)
  unfold f_X11_comesTo
  refine wq_b1e e1 ?_
  exact wq_some ⟨by rw [← h2]; exact e2 0 (by simp), e3⟩
theorem RLm.out {c lo hi : Nat} {L : LwT} {M M' : Mem} (h : RLm c L M) (hO : Out lo hi M M') (ho : c < lo ∨ hi ≤ c) : RLm c L M' := by
  unfold RLm
  rw [hO c ho]
  exact h
theorem isSo_ok {F : Nat → Int32} {L : LwT} {M : Mem} {i : Nat} {l : Nat × Cd × Cd} (hL : OKL L) (hR : RLm 156 L M) (hl1 : L[i]? = some l) (hF : ∀ k, k < 7 → M 165 (k + 1) = F k) : Wq (f_X11_isSo (nI i) M) (fun p => p.2 = (if l.2.2 = [] ∨ evalS F l.2.2 ≠ 0 then 1 else 0) ∧ Out 164 165 M p.1) := by
  have hlen := hL.1
  have hlt : i < L.length := (List.getElem?_eq_some_iff.mp hl1).1
  have hok := hL.2 l (List.mem_of_getElem? hl1)
  obtain ⟨st, hn, hl⟩ := hR
  obtain ⟨⟨r1, r2, r3, r4, r5⟩, r6⟩ := hl i l hl1
  have a1 : (1002 : Int32) + nI i = nI (1002 + i) := nI_add 1002 i
  have a2 : (986 : Int32) + nI i = nI (986 + i) := nI_add 986 i
  unfold f_X11_isSo
  rw [a1, a2, rd_nI la_156 (by omega) (by omega), b1_some, rd_nI la_156 (by omega) (by omega), b1_some, r2, r3]
  by_cases hB : l.2.2 = []
  · rw [hB, List.length_nil, Nat.add_zero, if_pos rfl]
    exact wq_some ⟨by rw [if_pos (.inl rfl)], Out.refl _ _ _⟩
  · have hG := hok.2.2.resolve_left hB
    have hx : l.2.2.length ≠ 0 := fun z => hB (List.eq_nil_of_length_eq_zero z)
    rw [if_neg (by rw [nI_eq_iff (by omega) (by omega)]; omega), b1_some, b1_some]
    refine wq_b2 (comesTo_ok (F := F) (M := M) hG rfl r5 (by
      intro j p hp
      rw [Nat.add_assoc (st i)]
      exact r6 _ p (get_app_r hp)) hF) ?_
    rintro N x ⟨h1, h2⟩
    simp only at h1 h2
    obtain ⟨_, _, _, h01⟩ := hG.run (Nat.le_refl _) F (fun _ => 0)
    rw [h1]
    rcases h01 rfl with z | z
    · rw [z, if_neg (by decide)]
      exact wq_some ⟨by rw [if_neg (by rintro (q | q); exact hB q; exact q rfl)], h2⟩
    · rw [z, if_pos rfl]
      exact wq_some ⟨by rw [if_pos (.inr (by decide))], h2⟩
/-- at least 0 and at most a number -/
def clampI (v hi : Int32) : Int32 := f_J9_max_7cf53 0 (f_J9_min_7cf53 hi v)
theorem greater_max (a b : Int32) : f_X11_greater a b = f_J9_max_7cf53 a b := by
  unfold f_X11_greater f_J9_max_7cf53
  rw [lt_eq]
  by_cases h : a < b
  · rw [if_pos h, if_pos (by rw [Int32.lt_iff_toInt_lt] at h; rw [Int32.le_iff_toInt_le]; omega)]
  · rw [if_neg h]
    by_cases e : a ≤ b
    · rw [if_pos e]
      apply Int32.toInt_inj.1
      rw [Int32.lt_iff_toInt_lt] at h
      rw [Int32.le_iff_toInt_le] at e
      omega
    · rw [if_neg e]
theorem lesser_min (a b : Int32) : f_X11_lesser a b = f_J9_min_7cf53 a b := by
  unfold f_X11_lesser f_J9_min_7cf53
  rw [lt_eq]
  by_cases h : b < a
  · rw [if_pos h, if_pos (by rw [Int32.lt_iff_toInt_lt] at h; rw [Int32.le_iff_toInt_le]; omega)]
  · rw [if_neg h]
    by_cases e : b ≤ a
    · rw [if_pos e]
      apply Int32.toInt_inj.1
      rw [Int32.lt_iff_toInt_lt] at h
      rw [Int32.le_iff_toInt_le] at e
      omega
    · rw [if_neg e]
theorem clamp_m (v hi : Int32) : f_X11_greater 0 (f_X11_lesser hi v) = clampI v hi := by
  rw [greater_max, lesser_min]; rfl
theorem says_ok {F : Nat → Int32} {L : LwT} {M : Mem} {w : Nat} {other hi : Int32} (hL : OKL L) (hR : RLm 156 L M) (hw : w ≤ 100) (hF : ∀ k, k < 7 → M 165 (k + 1) = F k) : Wq (f_X11_says (nI w) other hi M) (fun p => p.2 = clampI (sayS F L w other) hi ∧ Out 164 165 M p.1) := by
  have hlen := hL.1
  unfold f_X11_says
  refine wq_b1 (P := fun r => match r with
    | .inl u => ∃ i l, L[i]? = some l ∧ u.1 = nI i ∧ Out 164 165 M u.2 ∧ sayS F L w other = evalS F l.2.1
    | .inr u => Out 164 165 M u ∧ sayS F L w other = other) (lp_inv (fun k s => s.1 = nI k ∧ Out 164 165 M s.2 ∧ sayS F (L.drop k) w other = sayS F L w other) L.length ?_ _ ⟨rfl, Out.refl _ _ _, rfl⟩ (by omega)) ?_
  · rintro k ⟨i, N⟩ hk ⟨hi, hO, hs⟩
    simp only at hi hO hs
    subst hi
    have hRN := hR.out hO (by omega)
    have hRN' := hRN
    obtain ⟨st, hn, hl⟩ := hRN
    have hFN : ∀ k, k < 7 → N 165 (k + 1) = F k := fun k' hk' => by rw [hO 165 (by omega)]; exact hF k' hk'
    unfold w_X11_says_3
    simp only
    rw [hn]
    rcases Nat.lt_or_ge k L.length with hlt | hge
    · obtain ⟨l, hl1, hl2⟩ := drop_get hlt
      have hok := hL.2 l (List.mem_of_getElem? hl1)
      obtain ⟨⟨r1, r2, r3, r4, r5⟩, r6⟩ := hl k l hl1
      rw [hl2] at hs
      have a1 : (1018 : Int32) + nI k = nI (1018 + k) := nI_add 1018 k
      rw [if_neg (by rw [nI_le_iff (by omega) (by omega)]; omega), a1, rd_nI la_156 (by omega) (by omega), b1_some, r4, nI_inc]
      by_cases hw1 : l.1 = w
      · rw [if_pos (by rw [hw1])]
        obtain ⟨⟨N', x⟩, e1, e2, e3⟩ := isSo_ok (F := F) hL hRN' hl1 hFN
        simp only at e2 e3
        rw [e1, b2_some, e2]
        by_cases hz : l.2.2 = [] ∨ evalS F l.2.2 ≠ 0
        · rw [if_pos hz, if_neg (by decide)]
          refine .inr ⟨_, rfl, k, l, hl1, rfl, hO.trans e3, ?_⟩
          rw [← hs]
          unfold sayS
          rw [if_pos ⟨hw1, hz⟩]
        · rw [if_neg hz, if_pos rfl]
          refine .inl ⟨hlt, _, rfl, rfl, hO.trans e3, ?_⟩
          rw [← hs]
          try simp only
          conv => rhs; unfold sayS
          rw [if_neg (fun q => hz q.2)]
      · rw [if_neg (by rw [nI_eq_iff (by omega) (by omega)]; exact hw1)]
        refine .inl ⟨hlt, _, rfl, rfl, hO, ?_⟩
        rw [← hs]
        try simp only
        conv => rhs; unfold sayS
        rw [if_neg (fun q => hw1 q.1)]
    · rw [if_pos (by rw [nI_le_iff (by omega) (by omega)]; omega)]
      refine .inr ⟨_, rfl, hO, ?_⟩
      rw [← hs, List.drop_eq_nil_of_le hge]
      rfl
  · rintro (⟨x, N⟩ | N) hr
    · obtain ⟨i, l, hl1, hx, hO, hs⟩ := hr
      simp only at hx hO
      subst hx
      have hlt : i < L.length := (List.getElem?_eq_some_iff.mp hl1).1
      have hok := hL.2 l (List.mem_of_getElem? hl1)
      obtain ⟨st, hn, hl⟩ := hR.out hO (by omega)
      obtain ⟨⟨r1, r2, r3, r4, r5⟩, r6⟩ := hl i l hl1
      have a1 : (970 : Int32) + nI i = nI (970 + i) := nI_add 970 i
      have a2 : (986 : Int32) + nI i = nI (986 + i) := nI_add 986 i
      simp only
      rw [a1, a2, rd_nI la_156 (by omega) (by omega), b1_some, rd_nI la_156 (by omega) (by omega), b1_some, r1, r2]
      refine wq_b2 (comesTo_ok (F := F) (M := N) hok.2.1 rfl (by omega) (by
        intro j p hp
        exact r6 _ p (get_app_l hp)) (by
        intro k' hk'
        rw [hO 165 (by omega)]; exact hF k' hk')) ?_
      rintro N' x ⟨h1, h2⟩
      refine wq_some ⟨?_, hO.trans h2⟩
      simp only at h1 ⊢
      rw [h1, clamp_m, hs]
    · refine wq_some ⟨?_, hr.1⟩
      simp only
      rw [clamp_m, hr.2]
