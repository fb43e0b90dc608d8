/-! ===== PURE PART: the law's text, read by the class ===== -/
def okT (N : Nat) (ty : Nat → Nat) : Prop := N ≤ 400 ∧ ty N = 258 ∧ (∀ k, k < N → ty k ≠ 258) ∧ ∀ k, ty k < 323
def STc (N : Nat) (ty vl pl : Nat → Nat) (M : Mem) : Prop := M 136 5 = nI (N + 1) ∧ ∀ j, j ≤ N → M 138 j = nI (ty j) ∧ (ty j = 256 → M 139 j = nI (vl j)) ∧ M 140 j = nI (pl j)
def SC (o : Nat) (X : List (Int32 × Int32)) (M : Mem) : Prop := M o 8 = nI X.length ∧ ∀ j p, X[j]? = some p → M (o + 5) j = p.1 ∧ M (o + 6) j = p.2
def Fs (o : Nat) (M M' : Mem) : Prop := (∀ a, a ≠ o → a ≠ o + 5 → a ≠ o + 6 → M' a = M a) ∧ ∀ k, k ≠ 8 → M' o k = M o k
def isl {α : Type} (R : Rs α) : Bool := match R with
  | .inl _ => true
  | .inr _ => false
def Fc (b : Bool) (M M' : Mem) : Prop := (∀ a, a ≠ 136 → a ≠ 143 → a ≠ 148 → a ≠ 149 → M' a = M a) ∧ (∀ k, k ≠ 6 → (b = true → k ≠ 7 ∧ k ≠ 8) → M' 136 k = M 136 k) ∧ ∀ k, k ≠ 8 → M' 143 k = M 143 k
theorem Fc.refl (b : Bool) (M : Mem) : Fc b M M := ⟨fun _ _ _ _ _ => rfl, fun _ _ _ => rfl, fun _ _ => rfl⟩
theorem Fc.trans {b : Bool} {M M1 M2 : Mem} (h : Fc false M M1) (h2 : Fc b M1 M2) : Fc b M M2 := ⟨fun a b c d e => (h2.1 a b c d e).trans (h.1 a b c d e), fun a b c => (h2.2.1 a b c).trans (h.2.1 a b (fun z => by cases z)), fun a b => (h2.2.2 a b).trans (h.2.2 a b)⟩
theorem Fs.fc {b : Bool} {M M' : Mem} (h : Fs 143 M M') : Fc b M M' := ⟨fun a b c d e => h.1 a c d e, fun k _ _ => by rw [h.1 136 (by omega) (by omega) (by omega)], h.2⟩
theorem Fc.post {b : Bool} {M M1 M2 : Mem} (h : Fc b M M1) (h2 : Fs 143 M1 M2) : Fc b M M2 := ⟨fun a b c d e => (h2.1 a c d e).trans (h.1 a b c d e), fun k a c => by rw [h2.1 136 (by omega) (by omega) (by omega)]; exact h.2.1 k a c, fun k a => (h2.2 k a).trans (h.2.2 k a)⟩
theorem Fc.u136 {b : Bool} {M : Mem} {j : Nat} {x : Int32} (hj : j = 6) : Fc b M (up2 M 136 j x) := ⟨fun a b _ _ _ => up2_cell _ _ _ b, fun k h1 _ => up2_slot _ _ _ (by omega), fun k _ => by rw [up2_cell _ _ _ (by omega)]⟩
theorem lwAt_143 : LwAt 143 := by unfold LwAt; decide +kernel
theorem lwAt_14 : LwAt (1 + 13) := mkAt_1.1
theorem addStep_ok {o : Nat} {X : List (Int32 × Int32)} {M : Mem} (hA : LwAt o) (h : SC o X M) (hl : X.length < 400) (x v : Int32) : Wq (f_X2_addStep o x v M) (fun M' => SC o (X ++ [(x, v)]) M' ∧ Fs o M M') := by
  have l5 : ln (o + 5) = some (nI 400) := by unfold ln; rw [hA.2.2.2.2.1]; rfl
  have l6 : ln (o + 6) = some (nI 400) := by unfold ln; rw [hA.2.2.2.2.2.1]; rfl
  unfold f_X2_addStep
  rw [l5, b1_some, h.1, if_neg (by rw [nI_le_iff (by omega) (by omega)]; omega), l6, b1_some, if_neg (by rw [nI_le_iff (by omega) (by omega)]; omega), wr_nI hA.2.2.2.2.1 hl (by omega), b1_some, up2_cell _ _ _ (by omega), h.1, wr_nI hA.2.2.2.2.2.1 hl (by omega), b1_some, lt_eq, up2_cell _ _ _ (by omega), up2_cell _ _ _ (by omega), h.1, nI_inc]
  refine wq_some ⟨⟨?_, ?_⟩, ?_, ?_⟩
  · rw [up2_at, List.length_append]; rfl
  · intro j p hp
    rw [up2_cell _ _ _ (show o + 5 ≠ o by omega), up2_cell _ _ _ (show o + 5 ≠ o + 6 by omega), up2_cell _ _ _ (show o + 6 ≠ o by omega)]
    by_cases e : j = X.length
    · subst e
      rw [List.getElem?_append_right (Nat.le_refl _), Nat.sub_self] at hp
      have hp : some (x, v) = some p := hp
      cases hp
      exact ⟨up2_at _ _ _ _, up2_at _ _ _ _⟩
    · have hj : j < X.length := by
        have := (List.getElem?_eq_some_iff.mp hp).1
        rw [List.length_append] at this
        simp only [List.length_cons, List.length_nil] at this
        omega
      rw [List.getElem?_append_left hj] at hp
      rw [up2_slot _ _ _ e, up2_slot _ _ _ e, up2_cell _ _ _ (show o + 6 ≠ o + 5 by omega)]
      exact h.2 j p hp
  · intro a h1 h2 h3
    rw [up2_cell _ _ _ h1, up2_cell _ _ _ h3, up2_cell _ _ _ h2]
  · intro k hk
    rw [up2_slot _ _ _ hk, up2_cell _ _ _ (by omega), up2_cell _ _ _ (by omega)]
theorem addStep_any {o m : Nat} {M : Mem} (hA : LwAt o) (h : M o 8 = nI m) (hm : m ≤ 400) (x v : Int32) : Wq (f_X2_addStep o x v M) (fun M' => (∃ m', m' ≤ 400 ∧ M' o 8 = nI m') ∧ Fs o M M') := by
  have l5 : ln (o + 5) = some (nI 400) := by unfold ln; rw [hA.2.2.2.2.1]; rfl
  have l6 : ln (o + 6) = some (nI 400) := by unfold ln; rw [hA.2.2.2.2.2.1]; rfl
  unfold f_X2_addStep
  rw [l5, b1_some, h]
  by_cases e : m = 400
  · rw [if_pos (by rw [nI_le_iff (by omega) (by omega)]; omega)]
    exact wq_some ⟨⟨m, hm, h⟩, fun _ _ _ _ => rfl, fun _ _ => rfl⟩
  · rw [if_neg (by rw [nI_le_iff (by omega) (by omega)]; omega), l6, b1_some, if_neg (by rw [nI_le_iff (by omega) (by omega)]; omega), wr_nI hA.2.2.2.2.1 (by omega) (by omega), b1_some, up2_cell _ _ _ (by omega), h, wr_nI hA.2.2.2.2.2.1 (by omega) (by omega), b1_some, lt_eq, up2_cell _ _ _ (by omega), up2_cell _ _ _ (by omega), h, nI_inc]
    refine wq_some ⟨⟨m + 1, by omega, (by first | exact up2_at _ _ _ _ | (simp only; exact up2_at _ _ _ _))⟩, ?_, ?_⟩
    · intro a h1 h2 h3
      rw [up2_cell _ _ _ h1, up2_cell _ _ _ h3, up2_cell _ _ _ h2]
    · intro k hk
      rw [up2_slot _ _ _ hk, up2_cell _ _ _ (by omega), up2_cell _ _ _ (by omega)]
theorem SC.u136 {X : List (Int32 × Int32)} {M : Mem} {j : Nat} {x : Int32} (h : SC 143 X M) : SC 143 X (up2 M 136 j x) := by
  unfold SC
  rw [up2_cell _ _ _ (by omega), up2_cell _ _ _ (by omega), up2_cell _ _ _ (by omega)]
  exact h
section LWC
variable {N : Nat} {ty vl pl : Nat → Nat} {M : Mem}
theorem STc.fc {b : Bool} {M' : Mem} (h : STc N ty vl pl M) (hF : Fc b M M') : STc N ty vl pl M' := by
  unfold STc
  rw [hF.2.1 5 (by omega) (fun _ => by omega), hF.1 138 (by omega) (by omega) (by omega) (by omega), hF.1 139 (by omega) (by omega) (by omega) (by omega), hF.1 140 (by omega) (by omega) (by omega) (by omega)]
  exact h
theorem now_in {N i : Nat} (hi : i ≤ N) (hN : N ≤ 400) : ¬ (nI i < 0 ∨ (nI (N + 1) ≤ nI i ∨ (400 : Int32) < nI i)) := by
  rintro (z | z | z)
  · exact nI_nneg (by omega) z
  · rw [nI_le_iff (by omega) (by omega)] at z; omega
  · have z : nI 400 < nI i := z
    rw [nI_lt_iff (by omega) (by omega)] at z; omega
theorem type_ok (hN : N ≤ 400) (h : STc N ty vl pl M) {i : Nat} (hi : i ≤ N) (h6 : M 136 6 = nI i) : f_X9_type M = some (nI (ty i)) := by
  unfold f_X9_type
  rw [h6, h.1, if_neg (now_in hi hN), rd_nI la_138 (by omega) (by omega), b1_some, (h.2 i hi).1]
theorem value_ok (hN : N ≤ 400) (h : STc N ty vl pl M) {i : Nat} (hi : i ≤ N) (h6 : M 136 6 = nI i) : ∃ x, f_X9_value M = some x ∧ (ty i = 256 → x = nI (vl i)) := by
  unfold f_X9_value
  rw [h6, h.1, if_neg (now_in hi hN), rd_nI la_139 (by omega) (by omega), b1_some]
  exact ⟨_, rfl, (h.2 i hi).2.1⟩
theorem take_ok {i : Nat} (h6 : M 136 6 = nI i) : f_X9_take M = up2 M 136 6 (nI (i + 1)) := by
  unfold f_X9_take
  rw [lt_eq, h6, nI_inc]
theorem fails_ok (hN : N ≤ 400) (h : STc N ty vl pl M) {i : Nat} (hi : i ≤ N) (h6 : M 136 6 = nI i) (x : Int32) : ∃ M', f_X9_fails x M = some (M', 0) ∧ Fc true M M' ∧ M' 136 7 = x ∧ M' 136 8 = nI (pl i) ∧ M' 143 = M 143 ∧ ∀ a, a ≠ 136 → M' a = M a := by
  unfold f_X9_fails
  have e6 : up2 M 136 7 x 136 6 = nI i := by rw [up2_slot _ _ _ (by omega)]; exact h6
  have e5 : up2 M 136 7 x 136 5 = nI (N + 1) := by rw [up2_slot _ _ _ (by omega)]; exact h.1
  rw [lt_eq, e6, e5, if_neg (now_in hi hN), rd_nI la_140 (by omega) (by omega), b1_some, lt_eq, up2_cell _ _ _ (by omega), (h.2 i hi).2.2]
  refine ⟨_, rfl, ⟨fun a b _ _ _ => by rw [up2_cell _ _ _ b, up2_cell _ _ _ b], fun k h1 h2 => by rw [up2_slot _ _ _ (h2 rfl).2, up2_slot _ _ _ (h2 rfl).1], fun k _ => by rw [up2_cell _ _ _ (by omega), up2_cell _ _ _ (by omega)]⟩, ?_, up2_at _ _ _ _, ?_, ?_⟩
  · rw [up2_slot _ _ _ (by omega), up2_at]
  · rw [up2_cell _ _ _ (by omega), up2_cell _ _ _ (by omega)]
  · intro a ha
    rw [up2_cell _ _ _ ha, up2_cell _ _ _ ha]
/-- what a reader of codes leaves -/
def PcC (N : Nat) (pl : Nat → Nat) (i : Nat) (X : List (Int32 × Int32)) (M : Mem) (R : Rs Cd) (p : Mem × Int32) : Prop := Fc (isl R) M p.1 ∧ match R with
  | .inl e => p.2 = 0 ∧ p.1 136 7 = nI e.1 ∧ p.1 136 8 = nI (pl e.2) ∧ ∃ m, m ≤ 400 ∧ p.1 143 8 = nI m
  | .inr q => p.2 = 1 ∧ i < q.1 ∧ q.1 ≤ N ∧ p.1 136 6 = nI q.1 ∧ SC 143 (X ++ xC q.2) p.1 ∧ (xC q.2).length + i ≤ q.1
theorem pc_fail (hN : N ≤ 400) {M0 : Mem} (h : STc N ty vl pl M) (hF : Fc false M0 M) {i i0 : Nat} {X0 : List (Int32 × Int32)} (hi : i ≤ N) (h6 : M 136 6 = nI i) {x : Int32} {k m : Nat} (hx : x = nI k) (hm : M 143 8 = nI m) (hm4 : m ≤ 400) : Wq (b2 (f_X9_fails x M) fun M4 x5 => b1 (gz x5) fun x6 => some (M4, x6)) (PcC N pl i0 X0 M0 (.inl (k, i))) := by
  obtain ⟨M', e, h1, h2, h3, h4, _⟩ := fails_ok hN h hi h6 x
  rw [e, b2_some]
  have hg : gz 0 = some 0 := rfl
  rw [hg, b1_some]
  exact wq_some ⟨hF.trans h1, rfl, by show M' 136 7 = nI k; rw [h2, hx], h3, m, hm4, by show M' 143 8 = nI m; rw [h4]; exact hm⟩
theorem pc_b2 {M0 M1 : Mem} {x : Option (Mem × Int32)} {k : Mem → Option (Mem × Int32)} {R : Rs Cd} {f : Nat → Cd → Rs Cd} {i1 i0 : Nat} {X1 X0 : List (Int32 × Int32)} (h : Wq x (PcC N pl i1 X1 M1 R)) (hF : Fc false M0 M1) (hk : ∀ j c M2, i1 < j → j ≤ N → Fc false M0 M2 → M2 136 6 = nI j → SC 143 (X1 ++ xC c) M2 → (xC c).length + i1 ≤ j → Wq (k M2) (PcC N pl i0 X0 M0 (f j c))) : Wq (b2 x fun M2 x2 => if x2 = 0 then some (M2, 0) else k M2) (PcC N pl i0 X0 M0 (bnR R f)) := by
  obtain ⟨⟨M2, x2⟩, rfl, hFF, hm⟩ := h
  rw [b2_some]
  cases R with
  | inl e =>
    obtain ⟨h1, h2, h3, h4⟩ := hm
    simp only at h1
    rw [if_pos h1]
    exact wq_some ⟨hF.trans hFF, rfl, h2, h3, h4⟩
  | inr q =>
    obtain ⟨h1, h2, h3, h4, h5, h6⟩ := hm
    simp only at h1
    rw [if_neg (by rw [h1]; decide)]
    exact hk q.1 q.2 M2 h2 h3 (hF.trans hFF) h4 h5 h6
theorem pc_b2s {M0 M1 : Mem} {x : Option (Mem × Int32)} {o : Int32} {R : Rs Cd} {f : Nat → Cd → Rs Cd} {i1 i0 : Nat} {X1 X0 : List (Int32 × Int32)} (h : Wq x (PcC N pl i1 X1 M1 R)) (hF : Fc false M0 M1) (hN : N ≤ 400) (hX : X1.length < i1) (hk : ∀ j c M2, i1 < j → j ≤ N → Fc false M0 M2 → M2 136 6 = nI j → SC 143 (X1 ++ xC c ++ [(o, 0)]) M2 → (xC c).length + i1 ≤ j → PcC N pl i0 X0 M0 (f j c) (M2, 1)) : Wq (b2 x fun M2 x2 => b1 (f_X2_addStep 143 o 0 M2) fun M3 => b1 (gz x2) fun x3 => some (M3, x3)) (PcC N pl i0 X0 M0 (bnR R f)) := by
  obtain ⟨⟨M2, x2⟩, rfl, hFF, hm⟩ := h
  rw [b2_some]
  cases R with
  | inl e =>
    obtain ⟨h1, h2, h3, m, h4, h5⟩ := hm
    simp only at h1
    subst h1
    refine wq_b1 (addStep_any lwAt_143 h5 h4 o 0) ?_
    rintro M3 ⟨a1, a2⟩
    have hg : gz 0 = some 0 := rfl
    rw [hg, b1_some]
    have e136 : M3 136 = M2 136 := a2.1 136 (by omega) (by omega) (by omega)
    exact wq_some ⟨(hF.trans hFF).post a2, rfl, by simp only; rw [e136]; exact h2, by simp only; rw [e136]; exact h3, a1⟩
  | inr q =>
    obtain ⟨h1, h2, h3, h4, h5, h6⟩ := hm
    simp only at h1 h4 h5
    subst h1
    refine wq_b1 (addStep_ok lwAt_143 h5 (by rw [List.length_append]; omega) o 0) ?_
    rintro M3 ⟨a1, a2⟩
    have hg : gz 1 = some 1 := rfl
    rw [hg, b1_some]
    have e136 : M3 136 = M2 136 := a2.1 136 (by omega) (by omega) (by omega)
    exact wq_some (hk q.1 q.2 M3 h2 h3 ((hF.trans hFF).trans a2.fc) (by rw [e136]; exact h4) a1 h6)
theorem xs_op {k : Nat} (v : Int32) (hk : 8 ≤ k ∧ k ≠ 26) : xC [(k, v)] = [(opC k, 0)] := by
  show xs (k, v) ++ [] = _
  unfold xs
  rw [if_neg (by simp only; omega), if_neg (by simp only; omega), if_neg (by simp only; omega)]
  rfl
theorem xs_num (v : Int32) : xC [(0, v)] = [(256, v)] := rfl
theorem xs_div (v : Int32) : xC [(26, v)] = [(256, v), (47, 0)] := rfl
theorem xs_fact {k : Nat} (v : Int32) (hk : 1 ≤ k ∧ k ≤ 7) : xC [(k, v)] = [(259, nI (k - 1))] := by
  show xs (k, v) ++ [] = _
  unfold xs
  rw [if_neg (by simp only; omega), if_pos (by simp only; omega)]
  rfl
theorem nI_eqc {t k : Nat} {x : Int32} (hx : x = nI k) (ht : t < 323) (hk : k < 1000) : nI t = x ↔ t = k := by
  subst hx
  exact nI_eq_iff (by omega) (by omega)
theorem word_rng {t : Nat} (ht : t < 323) : f_X10_within (nI t) 300 306 = 0 ↔ ¬ (300 ≤ t ∧ t ≤ 306) := by
  rw [within0]
  have e1 : nI t < 300 ↔ t < 300 := nI_lt_iff (b := 300) (by omega) (by omega)
  have e2 : (306 : Int32) < nI t ↔ 306 < t := nI_lt_iff (a := 306) (by omega) (by omega)
  rw [e1, e2]; omega
theorem readUnit_ok (hT : okT N ty) (h : STc N ty vl pl M) {i : Nat} {X : List (Int32 × Int32)} (hi : i ≤ N) (h6 : M 136 6 = nI i) (hX : SC 143 X M) (hl : X.length ≤ i) : Wq (f_X3_readUnit 0 M) (PcC N pl i X M (unG ty vl i)) := by
  have hN := hT.1
  have ht := hT.2.2.2 i
  unfold f_X3_readUnit
  obtain ⟨x, e1, e2⟩ := value_ok hN h hi h6
  rw [type_ok hN h hi h6, b1_some, e1, b1_some]
  unfold unG
  by_cases h256 : ty i = 256
  · have hiN : i < N := by
      rcases Nat.lt_or_ge i N with z | z
      · exact z
      · have : i = N := by omega
        rw [this, hT.2.1] at h256
        exact absurd h256 (by decide)
    rw [if_pos ((nI_eqc (k := 256) (x := 256) rfl ht (by omega)).2 h256), if_pos (.inl rfl), e2 h256, if_pos h256]
    refine wq_b1 (addStep_ok lwAt_143 hX (by omega) 256 (nI (vl i))) ?_
    rintro M' ⟨a1, a2⟩
    have e136 : M' 136 = M 136 := a2.1 136 (by omega) (by omega) (by omega)
    rw [lt_eq, take_ok (i := i) (by rw [e136]; exact h6)]
    refine wq_some ⟨a2.fc.trans (Fc.u136 (by omega)), rfl, by simp only; omega, hiN, (by first | exact up2_at _ _ _ _ | (simp only; exact up2_at _ _ _ _)), ?_, ?_⟩
    · exact SC.u136 a1
    · show 1 + i ≤ i + 1
      omega
  · rw [if_neg (fun z => h256 ((nI_eqc (k := 256) (x := 256) rfl ht (by omega)).1 z)), if_neg h256]
    by_cases hw : 300 ≤ ty i ∧ ty i ≤ 306
    · have hiN : i < N := by
        rcases Nat.lt_or_ge i N with z | z
        · exact z
        · have : i = N := by omega
          rw [this, hT.2.1] at hw
          omega
      have e3 : nI (ty i) - 300 = nI (ty i - 300) := nI_sub (b := 300) hw.1
      rw [if_neg (by
        rintro (z | z)
        · exact z rfl
        · exact (word_rng ht).1 z hw), if_pos hw, e3]
      refine wq_b1 (addStep_ok lwAt_143 hX (by omega) 259 (nI (ty i - 300))) ?_
      rintro M' ⟨a1, a2⟩
      have e136 : M' 136 = M 136 := a2.1 136 (by omega) (by omega) (by omega)
      rw [lt_eq, take_ok (i := i) (by rw [e136]; exact h6)]
      have exc : xC [(ty i - 299, (0 : Int32))] = [(259, nI (ty i - 300))] := by
        rw [xs_fact _ (by omega), show ty i - 299 - 1 = ty i - 300 from by omega]
      refine wq_some ⟨a2.fc.trans (Fc.u136 (by omega)), rfl, by simp only; omega, hiN, (by first | exact up2_at _ _ _ _ | (simp only; exact up2_at _ _ _ _)), ?_, ?_⟩
      · try simp only
        rw [exc]
        exact SC.u136 a1
      · try simp only
        rw [exc]
        show 1 + i ≤ i + 1
        omega
    · rw [if_pos (.inr ((word_rng ht).2 hw)), if_neg hw]
      exact pc_fail hN h (Fc.refl _ _) hi h6 rfl hX.1 (by omega)
/-- a number that may be a divisor -/
theorem readUnit_div (hT : okT N ty) (h : STc N ty vl pl M) (hv : ∀ i, ty i = 256 → vl i ≤ 9999) {i : Nat} {X : List (Int32 × Int32)} (hi : i ≤ N) (h6 : M 136 6 = nI i) (hX : SC 143 X M) (hl : X.length ≤ i) : Wq (f_X3_readUnit 1 M) (PcC N pl i X M (if ty i = 256 then (if vl i = 0 then .inl (2, i) else .inr (i + 1, [(0, nI (vl i))])) else .inl (1, i))) := by
  have hN := hT.1
  have ht := hT.2.2.2 i
  unfold f_X3_readUnit
  obtain ⟨x, e1, e2⟩ := value_ok hN h hi h6
  rw [type_ok hN h hi h6, b1_some, e1, b1_some]
  by_cases h256 : ty i = 256
  · have hiN : i < N := by
      rcases Nat.lt_or_ge i N with z | z
      · exact z
      · have : i = N := by omega
        rw [this, hT.2.1] at h256
        exact absurd h256 (by decide)
    have hv' := hv i h256
    rw [if_pos ((nI_eqc (k := 256) (x := 256) rfl ht (by omega)).2 h256), e2 h256, if_pos h256]
    by_cases hz : vl i = 0
    · rw [if_neg (by
        rintro (z | z)
        · exact absurd z (by decide)
        · exact z (by rw [hz]; rfl)), if_pos hz]
      exact pc_fail hN h (Fc.refl _ _) hi h6 rfl hX.1 (by omega)
    · rw [if_pos (.inr (fun z => hz (by
        have z : nI (vl i) = nI 0 := z
        rw [nI_eq_iff (by omega) (by omega)] at z
        exact z))), if_neg hz]
      refine wq_b1 (addStep_ok lwAt_143 hX (by omega) 256 (nI (vl i))) ?_
      rintro M' ⟨a1, a2⟩
      have e136 : M' 136 = M 136 := a2.1 136 (by omega) (by omega) (by omega)
      rw [lt_eq, take_ok (i := i) (by rw [e136]; exact h6)]
      refine wq_some ⟨a2.fc.trans (Fc.u136 (by omega)), rfl, by simp only; omega, hiN, (by first | exact up2_at _ _ _ _ | (simp only; exact up2_at _ _ _ _)), ?_, ?_⟩
      · exact SC.u136 a1
      · show 1 + i ≤ i + 1
        omega
  · rw [if_neg (fun z => h256 ((nI_eqc (k := 256) (x := 256) rfl ht (by omega)).1 z)), if_neg h256, if_pos (.inl (by decide))]
    exact pc_fail hN h (Fc.refl _ _) hi h6 rfl hX.1 (by omega)
def wtI (w : Nat) : Int32 := if w = 0 then -1 else opC w
theorem addWaiting_ok {X : List (Int32 × Int32)} {w : Nat} (hw : w = 0 ∨ w = 23 ∨ w = 24) (hX : SC 143 X M) (hl : X.length < 400 ∨ w = 0) : Wq (f_X3_addWaiting (wtI w) M) (fun M' => SC 143 (X ++ xC (waitC w)) M' ∧ Fs 143 M M') := by
  unfold f_X3_addWaiting
  rcases hw with rfl | hw
  · rw [if_pos (show wtI 0 = -1 from rfl)]
    refine wq_some ⟨?_, fun _ _ _ _ => rfl, fun _ _ => rfl⟩
    have : xC (waitC 0) = [] := rfl
    rw [this, List.append_nil]
    exact hX
  · have e : wtI w = opC w := by unfold wtI; rw [if_neg (by omega)]
    have e2 : xC (waitC w) = [(opC w, 0)] := by
      unfold waitC
      rw [if_neg (by omega), xs_op _ (by omega)]
    rw [e, e2, if_neg (by rcases hw with rfl | rfl <;> decide)]
    refine wq_b1 (addStep_ok lwAt_143 hX (hl.resolve_right (by omega)) (opC w) 0) ?_
    rintro M' h
    exact wq_some h
theorem wait_len (w : Nat) : (xC (waitC w)).length = if w = 0 then 0 else (xC (waitC w)).length := by
  by_cases h : w = 0
  · rw [if_pos h, h]; rfl
  · rw [if_neg h]
theorem reck {t : Nat} (ht : t < 323) : f_X3_isReckoning (nI t) = 0 ↔ ¬ (t = 43 ∨ t = 45 ∨ t = 42 ∨ t = 47) := by
  unfold f_X3_isReckoning
  have e : (nI t = 43 ∨ (nI t = 45 ∨ (nI t = 42 ∨ nI t = 47))) ↔ (t = 43 ∨ t = 45 ∨ t = 42 ∨ t = 47) := by
    rw [nI_eqc (k := 43) (x := 43) rfl ht (by omega), nI_eqc (k := 45) (x := 45) rfl ht (by omega), nI_eqc (k := 42) (x := 42) rfl ht (by omega), nI_eqc (k := 47) (x := 47) rfl ht (by omega)]
  by_cases h : t = 43 ∨ t = 45 ∨ t = 42 ∨ t = 47
  · rw [if_pos (e.2 h)]; exact ⟨fun z => absurd z (by decide), fun z => absurd h z⟩
  · rw [if_neg (fun z => h (e.1 z))]; exact ⟨fun _ => h, fun _ => rfl⟩
def smK (q28 : Mem ⊕ (Int32 × Mem)) : Option (Mem × Int32) := match q28 with | .inl u29 => (some (u29, 0)) | .inr u30 => (b1 (f_X3_addWaiting u30.1 u30.2) fun M33 => some (M33, 1))
theorem flc_run (hT : okT N ty) (hv : ∀ i, ty i = 256 → vl i ≤ 9999) {M0 : Mem} (h0 : STc N ty vl pl M0) {i0 : Nat} {X : List (Int32 × Int32)} (hX0 : X.length ≤ i0) : ∀ (f i w : Nat) (c : Cd) (M : Mem) (more fuel : Nat), f + more = 400 → f < fuel → Fc false M0 M → (w = 0 ∨ w = 23 ∨ w = 24) → i0 < i → i ≤ N → M 136 6 = nI i → SC 143 (X ++ xC c) M → (xC c).length + (if w = 0 then 0 else 1) + i0 ≤ i → Wq (b1 (lp (fun s => w_X3_readSum_14 s.1 s.2.1 s.2.2) fuel (wtI w, nI more, M)) smK) (PcC N pl i0 X M0 (flG ty vl f i w c))
  | f, i, w, c, M, more, 0, _, hfu, _, _, _, _, _, _, _ => absurd hfu (Nat.not_lt_zero _)
  | 0, i, w, c, M, more, fuel + 1, hf, _, hF, hw, hi0, hi, h6, hS, hlen => by
    have hN := hT.1
    have hm : more = 400 := by omega
    subst hm
    have hb : (fun s : Int32 × Int32 × Mem => w_X3_readSum_14 s.1 s.2.1 s.2.2) (wtI w, nI 400, M) = some (.inr (.inr (wtI w, M))) := by
      simp only [w_X3_readSum_14]
      rw [if_pos (by decide)]
    rw [lp_end hb, b1_some]
    unfold smK
    try simp only
    refine wq_b1 (addWaiting_ok hw hS (by
      rw [List.length_append]
      by_cases z : w = 0
      · exact .inr z
      · rw [if_neg z] at hlen; left; omega)) ?_
    rintro M' ⟨a1, a2⟩
    have e136 : M' 136 = M 136 := a2.1 136 (by omega) (by omega) (by omega)
    refine wq_some ⟨hF.trans a2.fc, rfl, hi0, hi, by simp only; rw [e136]; exact h6, by simp only; rw [xC_app, ← List.append_assoc]; exact a1, ?_⟩
    try simp only
    rw [xC_app, List.length_append]
    by_cases z : w = 0
    · rw [if_pos z] at hlen; rw [z]; show (xC c).length + 0 + i0 ≤ i; omega
    · rw [if_neg z] at hlen
      have : (xC (waitC w)).length = 1 := by unfold waitC; rw [if_neg z, xs_op _ (by omega)]; rfl
      omega
  | f + 1, i, w, c, M, more, fuel + 1, hf, hfu, hF, hw, hi0, hi, h6, hS, hlen => by
    have hN := hT.1
    have hSt := h0.fc hF
    have ht := hT.2.2.2 i
    have hlt : (xC c).length + i0 ≤ i := by omega
    have hXl : (X ++ xC c).length ≤ i := by rw [List.length_append]; omega
    have e42 := nI_eqc (k := 42) (x := 42) rfl ht (by omega)
    have e47 := nI_eqc (k := 47) (x := 47) rfl ht (by omega)
    -- the ends of the loop
    have fin : ¬ (ty i = 43 ∨ ty i = 45 ∨ ty i = 42 ∨ ty i = 47) → Wq (b1 (lp (fun s => w_X3_readSum_14 s.1 s.2.1 s.2.2) (fuel + 1) (wtI w, nI more, M)) smK) (PcC N pl i0 X M0 (.inr (i, c ++ waitC w))) := by
      intro hno
      have hb : (fun s : Int32 × Int32 × Mem => w_X3_readSum_14 s.1 s.2.1 s.2.2) (wtI w, nI more, M) = some (.inr (.inr (wtI w, M))) := by
        simp only [w_X3_readSum_14]
        rw [if_neg (by
          intro z
          have z : nI 400 ≤ nI more := z
          rw [nI_le_iff (by omega) (by omega)] at z; omega), type_ok hN hSt hi h6, b1_some, if_pos ((reck ht).2 hno)]
      rw [lp_end hb, b1_some]
      unfold smK
      try simp only
      refine wq_b1 (addWaiting_ok hw hS (by
        rw [List.length_append]
        by_cases z : w = 0
        · exact .inr z
        · rw [if_neg z] at hlen; left; omega)) ?_
      rintro M' ⟨a1, a2⟩
      have e136 : M' 136 = M 136 := a2.1 136 (by omega) (by omega) (by omega)
      refine wq_some ⟨hF.trans a2.fc, rfl, hi0, hi, by simp only; rw [e136]; exact h6, by simp only; rw [xC_app, ← List.append_assoc]; exact a1, ?_⟩
      try simp only
      rw [xC_app, List.length_append]
      by_cases z : w = 0
      · rw [if_pos z] at hlen; rw [z]; show (xC c).length + 0 + i0 ≤ i; omega
      · rw [if_neg z] at hlen
        have : (xC (waitC w)).length = 1 := by unfold waitC; rw [if_neg z, xs_op _ (by omega)]; rfl
        omega
    unfold flG
    by_cases hr : ty i = 43 ∨ ty i = 45 ∨ ty i = 42 ∨ ty i = 47
    · have hiN : i < N := by
        rcases Nat.lt_or_ge i N with z | z
        · exact z
        · have : i = N := by omega
          rw [this, hT.2.1] at hr
          omega
      have h400 : ¬ (400 : Int32) ≤ nI more := by
        intro z
        have z : nI 400 ≤ nI more := z
        rw [nI_le_iff (by omega) (by omega)] at z; omega
      have hFt : Fc false M0 (up2 M 136 6 (nI (i + 1))) := hF.trans (Fc.u136 (by omega))
      by_cases hp : ty i = 42 ∨ ty i = 47
      · by_cases h42 : ty i = 42
        · rw [if_pos h42]
          have hun := readUnit_ok (M := up2 M 136 6 (nI (i + 1))) (i := i + 1) hT (h0.fc hFt) hiN (up2_at _ _ _ _) hS.u136 (by omega)
          obtain ⟨⟨M17, x18⟩, e1, hFF, hm⟩ := hun
          have hbody : ∀ r, (if x18 = 0 then (some (.inr (.inl M17)) : Option ((Int32 × Int32 × Mem) ⊕ (Mem ⊕ (Int32 × Mem)))) else (b1 (f_X2_addStep 143 (nI (ty i)) 0 M17) fun M20 => some (.inl (wtI w, (nI more + 1), M20)))) = r → (fun s : Int32 × Int32 × Mem => w_X3_readSum_14 s.1 s.2.1 s.2.2) (wtI w, nI more, M) = r := by
            intro r hr2
            simp only [w_X3_readSum_14]
            rw [if_neg h400, type_ok hN hSt hi h6, b1_some, if_neg (fun z => (reck ht).1 z hr), b1_some, if_pos (.inl (e42.2 h42)), lt_eq, take_ok h6, lt_eq, if_neg (fun z => by rw [e47] at z; omega), e1, b2_some]
            exact hr2
          cases hR : unG ty vl (i + 1) with
          | inl e =>
            rw [hR] at hm hFF
            obtain ⟨h1, h2, h3, h4⟩ := hm
            simp only at h1
            rw [lp_end (hbody _ (if_pos h1)), b1_some, bnR_l]
            exact wq_some ⟨hFt.trans hFF, rfl, h2, h3, h4⟩
          | inr q =>
            obtain ⟨j, u⟩ := q
            rw [hR] at hm hFF
            obtain ⟨h1, h2, h3, h4, h5, h7⟩ := hm
            simp only at h1 h2 h3 h4 h5 h7
            obtain ⟨M20, a0, a1, a2⟩ := addStep_ok lwAt_143 h5 (by rw [List.length_append, List.length_append]; omega) (nI (ty i)) 0
            have e136 : M20 136 = M17 136 := a2.1 136 (by omega) (by omega) (by omega)
            rw [lp_in (hbody _ (by rw [if_neg (by rw [h1]; decide), a0, b1_some])), bnR_r, nI_inc]
            have exc : X ++ xC (c ++ u ++ [(25, 0)]) = X ++ xC c ++ xC u ++ [(nI (ty i), 0)] := by
              rw [xC_app, xC_app, xs_op _ (by omega), h42]
              simp only [List.append_assoc]
              rfl
            refine flc_run hT hv h0 hX0 f j w _ M20 (more + 1) fuel (by omega) (by omega) ((hFt.trans hFF).trans a2.fc) hw (by omega) h3 (by rw [e136]; exact h4) (by rw [exc]; exact a1) ?_
            rw [xC_app, xC_app, xs_op _ (by omega), List.length_append, List.length_append]
            simp only [List.length_cons, List.length_nil]
            omega
        · have h47 : ty i = 47 := hp.resolve_left h42
          rw [if_neg h42, if_pos h47]
          have hun := readUnit_div (M := up2 M 136 6 (nI (i + 1))) (i := i + 1) hT (h0.fc hFt) hv hiN (up2_at _ _ _ _) hS.u136 (by omega)
          obtain ⟨⟨M17, x18⟩, e1, hFF, hm⟩ := hun
          have hbody : ∀ r, (if x18 = 0 then (some (.inr (.inl M17)) : Option ((Int32 × Int32 × Mem) ⊕ (Mem ⊕ (Int32 × Mem)))) else (b1 (f_X2_addStep 143 (nI (ty i)) 0 M17) fun M20 => some (.inl (wtI w, (nI more + 1), M20)))) = r → (fun s : Int32 × Int32 × Mem => w_X3_readSum_14 s.1 s.2.1 s.2.2) (wtI w, nI more, M) = r := by
            intro r hr2
            simp only [w_X3_readSum_14]
            rw [if_neg h400, type_ok hN hSt hi h6, b1_some, if_neg (fun z => (reck ht).1 z hr), b1_some, if_pos (.inr (e47.2 h47)), lt_eq, take_ok h6, lt_eq, if_pos (e47.2 h47), e1, b2_some]
            exact hr2
          unfold dvG
          by_cases h256 : ty (i + 1) = 256
          · rw [if_pos h256] at hm hFF ⊢
            by_cases hz : vl (i + 1) = 0
            · rw [if_pos hz] at hm hFF ⊢
              obtain ⟨h1, h2, h3, h4⟩ := hm
              simp only at h1
              rw [lp_end (hbody _ (if_pos h1)), b1_some, bnR_l]
              exact wq_some ⟨hFt.trans hFF, rfl, h2, h3, h4⟩
            · rw [if_neg hz] at hm hFF ⊢
              obtain ⟨h1, h2, h3, h4, h5, h7⟩ := hm
              simp only at h1 h2 h3 h4 h5 h7
              have hu1 : (xC [(0, nI (vl (i + 1)))]).length = 1 := rfl
              obtain ⟨M20, a0, a1, a2⟩ := addStep_ok lwAt_143 h5 (by rw [List.length_append, List.length_append]; omega) (nI (ty i)) 0
              have e136 : M20 136 = M17 136 := a2.1 136 (by omega) (by omega) (by omega)
              rw [lp_in (hbody _ (by rw [if_neg (by rw [h1]; decide), a0, b1_some])), bnR_r, nI_inc]
              have exc : X ++ xC (c ++ [(26, nI (vl (i + 1)))]) = X ++ xC c ++ xC [(0, nI (vl (i + 1)))] ++ [(nI (ty i), 0)] := by
                rw [xC_app, xs_div, xs_num, h47]
                simp only [List.append_assoc]
                rfl
              refine flc_run hT hv h0 hX0 f (i + 1 + 1) w _ M20 (more + 1) fuel (by omega) (by omega) ((hFt.trans hFF).trans a2.fc) hw (by omega) h3 (by rw [e136]; exact h4) (by rw [exc]; exact a1) ?_
              rw [xC_app, xs_div, List.length_append]
              simp only [List.length_cons, List.length_nil]
              omega
          · rw [if_neg h256] at hm hFF ⊢
            obtain ⟨h1, h2, h3, h4⟩ := hm
            simp only at h1
            rw [lp_end (hbody _ (if_pos h1)), b1_some, bnR_l]
            exact wq_some ⟨hFt.trans hFF, rfl, h2, h3, h4⟩
      · have h43 : ty i = 43 ∨ ty i = 45 := by omega
        rw [if_neg (fun z => hp (.inl z)), if_neg (fun z => hp (.inr z)), if_pos h43]
        obtain ⟨M21, w0, w1, w2⟩ := addWaiting_ok hw hS (by
          rw [List.length_append]
          by_cases z : w = 0
          · exact .inr z
          · rw [if_neg z] at hlen; left; omega)
        have ew : (xC (waitC w)).length + (xC c).length + i0 ≤ i := by
          by_cases z : w = 0
          · rw [z]; show 0 + (xC c).length + i0 ≤ i; omega
          · rw [if_neg z] at hlen
            have : (xC (waitC w)).length = 1 := by unfold waitC; rw [if_neg z, xs_op _ (by omega)]; rfl
            omega
        have e136 : M21 136 = M 136 := w2.1 136 (by omega) (by omega) (by omega)
        have hFt : Fc false M0 (up2 M21 136 6 (nI (i + 1))) := (hF.trans w2.fc).trans (Fc.u136 (by omega))
        have hun := readUnit_ok (M := up2 M21 136 6 (nI (i + 1))) (i := i + 1) hT (h0.fc hFt) hiN (up2_at _ _ _ _) w1.u136 (by rw [List.length_append, List.length_append]; omega)
        obtain ⟨⟨M17, x18⟩, e1, hFF, hm⟩ := hun
        have hbody : ∀ r, (if x18 = 0 then (some (.inr (.inl M17)) : Option ((Int32 × Int32 × Mem) ⊕ (Mem ⊕ (Int32 × Mem)))) else (some (.inl (nI (ty i), (nI more + 1), M17)))) = r → (fun s : Int32 × Int32 × Mem => w_X3_readSum_14 s.1 s.2.1 s.2.2) (wtI w, nI more, M) = r := by
          intro r hr2
          simp only [w_X3_readSum_14]
          rw [if_neg h400, type_ok hN hSt hi h6, b1_some, if_neg (fun z => (reck ht).1 z hr), b1_some, if_neg (by rw [e42, e47]; exact hp), w0, b1_some, lt_eq, take_ok (i := i) (by rw [e136]; exact h6), lt_eq, if_neg (fun z => by rw [e47] at z; omega), e1, b2_some]
          exact hr2
        cases hR : unG ty vl (i + 1) with
        | inl e =>
          rw [hR] at hm hFF
          obtain ⟨h1, h2, h3, h4⟩ := hm
          simp only at h1
          rw [lp_end (hbody _ (if_pos h1)), b1_some, bnR_l]
          exact wq_some ⟨hFt.trans hFF, rfl, h2, h3, h4⟩
        | inr q =>
          obtain ⟨j, u⟩ := q
          rw [hR] at hm hFF
          obtain ⟨h1, h2, h3, h4, h5, h7⟩ := hm
          simp only at h1 h2 h3 h4 h5 h7
          have ewI : nI (ty i) = wtI (if ty i = 43 then 23 else 24) := by
            by_cases z : ty i = 43
            · rw [if_pos z, z]; rfl
            · rw [if_neg z, h43.resolve_left z]; rfl
          rw [lp_in (hbody _ (if_neg (by rw [h1]; decide))), bnR_r, nI_inc, ewI]
          have exc : X ++ xC (c ++ waitC w ++ u) = X ++ xC c ++ xC (waitC w) ++ xC u := by
            rw [xC_app, xC_app]
            simp only [List.append_assoc]
          refine flc_run hT hv h0 hX0 f j _ _ M17 (more + 1) fuel (by omega) (by omega) (hFt.trans hFF) ?_ (by omega) h3 h4 (by rw [exc]; exact h5) ?_
          · by_cases z : ty i = 43
            · rw [if_pos z]; exact .inr (.inl rfl)
            · rw [if_neg z]; exact .inr (.inr rfl)
          · rw [xC_app, xC_app, List.length_append, List.length_append]
            have : (if (if ty i = 43 then 23 else 24) = 0 then 0 else 1) = 1 := by
              by_cases z : ty i = 43
              · rw [if_pos z]; rfl
              · rw [if_neg z]; rfl
            rw [this]
            omega
    · rw [if_neg (fun z => hr (by omega)), if_neg (fun z => hr (by omega)), if_neg (fun z => hr (by omega))]
      exact fin hr
theorem readSum_ok (hT : okT N ty) (hv : ∀ i, ty i = 256 → vl i ≤ 9999) (h : STc N ty vl pl M) {i : Nat} {X : List (Int32 × Int32)} (hi : i ≤ N) (h6 : M 136 6 = nI i) (hX : SC 143 X M) (hl : X.length ≤ i) : Wq (f_X3_readSum M) (PcC N pl i X M (smG ty vl i)) := by
  unfold f_X3_readSum smG
  refine pc_b2 (readUnit_ok hT h hi h6 hX hl) (Fc.refl _ _) ?_
  intro j c M1 h1 h2 h3 h4 h5 h7
  exact flc_run hT hv h hl 400 j 0 c M1 0 FU rfl (by unfold FU; omega) h3 (.inl rfl) h1 h2 h4 h5 (by rw [if_pos rfl]; omega)
end LWC
