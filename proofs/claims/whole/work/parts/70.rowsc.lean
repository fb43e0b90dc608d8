/-! ===== PURE PART: the texts that are lists, read by the class ===== -/
abbrev Rw : Type := List Int32 × List (Nat × Nat)
abbrev It : Type := Nat ⊕ (Nat × Nat)
def nuG (ty vl : Nat → Nat) (lo hs i : Nat) (c : List Int32) : Rs (List Int32) := if ty i = 256 then (if lo ≤ vl i ∧ vl i < hs then .inr (i + 1, c ++ [nI (vl i)]) else .inl (2, i)) else .inl (1, i)
def seqG (ty vl : Nat → Nat) : List It → Nat → List Int32 → Rs (List Int32)
  | [], i, c => .inr (i, c)
  | .inl w :: t, i, c => bnR (nxG ty w i c) (fun j c => seqG ty vl t j c)
  | .inr q :: t, i, c => bnR (nuG ty vl q.1 q.2 i c) (fun j c => seqG ty vl t j c)
def hadP (ps : List (Nat × Nat)) (k : Nat) : Bool := ps.any (fun q => q.1 == k)
def paG (ty vl : Nat → Nat) (nk : Nat) : Nat → Nat → List (Nat × Nat) → Rs (List (Nat × Nat))
  | 0, i, ps => .inr (i, ps)
  | f + 1, i, ps => if ty i = 256 then (if ¬ vl i < nk ∨ hadP ps (vl i) = true then .inl (2, i) else if ps.length = 4 then .inl (3, i) else (if ty (i + 1) = 256 then (if 1 ≤ vl (i + 1) ∧ vl (i + 1) < 100 then paG ty vl nk f (i + 2) (ps ++ [(vl i, vl (i + 1))]) else .inl (2, i + 1)) else .inl (1, i + 1))) else .inr (i, ps)
def itK : List It := [.inr (1, 100), .inl 315, .inr (1, 31), .inl 59]
def itF (nk : Nat) : List It := [.inr (0, 1000), .inl 317, .inr (0, nk), .inl 318, .inr (1, 21), .inl 59]
def itW (nk : Nat) : List It := [.inr (0, nk), .inr (1, 100), .inl 320, .inr (0, 1000), .inl 321, .inr (0, 1000), .inl 59]
def itemsG (k nk : Nat) : List It := if k = 0 then itK else if k = 2 then itF nk else itW nk
def dishG (ty vl : Nat → Nat) (nk i : Nat) : Rs Rw := bnR (nuG ty vl 1 100 (i + 1) []) (fun j c => bnR (paG ty vl nk 5 j []) (fun j2 ps => nxG ty 59 j2 (c, ps)))
def rowG (ty vl : Nat → Nat) (k nk i : Nat) : Rs Rw := if k = 4 then dishG ty vl nk i else bnR (seqG ty vl (itemsG k nk) (i + 1) []) (fun j c => .inr (j, (c, ([] : List (Nat × Nat)))))
def bwG (k : Nat) : Nat := if k = 0 then 300 else if k = 2 then 316 else if k = 3 then 319 else 322
def mxG (k : Nat) : Nat := if k = 0 then 6 else 12
def rowsG (ty vl : Nat → Nat) (k nk : Nat) : Nat → Nat → List Rw → Rs (List Rw)
  | 0, i, L => .inr (i, L)
  | f + 1, i, L => if ty i = 258 then .inr (i, L) else if ty i = bwG k then (if L.length = mxG k then .inl (3, i) else bnR (rowG ty vl k nk i) (fun j r => rowsG ty vl k nk f j (L ++ [r]))) else .inl (1, i)
def ndI (ps : List (Nat × Nat)) (k : Nat) : Nat → Int32
  | 0 => 0
  | j + 1 => if (ps.getD j (0, 0)).1 = k then nI (ps.getD j (0, 0)).2 else ndI ps k j
/-- a row as the class keeps it -/
def rowC (q : Rw) : Nat → Int32 := fun c => if c < q.1.length then q.1.getD c 0 else ndI q.2 (c - 1) q.2.length
def tbC (L : List Rw) : Tb := (L.length, fun r c => rowC (L.getD r ([], [])) c)
theorem getD_app_l {α : Type} {a b : List α} {j : Nat} (d : α) (h : j < a.length) : (a ++ b).getD j d = a.getD j d := by
  rw [List.getD_eq_getElem?_getD, List.getD_eq_getElem?_getD, List.getElem?_append_left h]
theorem getD_app_at {α : Type} (a : List α) (x d : α) : (a ++ [x]).getD a.length d = x := by
  rw [List.getD_eq_getElem?_getD, List.getElem?_append_right (Nat.le_refl _), Nat.sub_self]
  rfl
theorem ndI_app {ps : List (Nat × Nat)} {q : Nat × Nat} {k : Nat} : ∀ m, m ≤ ps.length → ndI (ps ++ [q]) k m = ndI ps k m
  | 0, _ => rfl
  | m + 1, h => by
    unfold ndI
    rw [getD_app_l _ (by omega), ndI_app m (by omega)]
theorem ndI_snoc (ps : List (Nat × Nat)) (q : Nat × Nat) (k : Nat) : ndI (ps ++ [q]) k (ps ++ [q]).length = if q.1 = k then nI q.2 else ndI ps k ps.length := by
  have : (ps ++ [q]).length = ps.length + 1 := by rw [List.length_append]; rfl
  rw [this]
  show (if ((ps ++ [q]).getD ps.length (0, 0)).1 = k then nI ((ps ++ [q]).getD ps.length (0, 0)).2 else ndI (ps ++ [q]) k ps.length) = _
  rw [getD_app_at, ndI_app _ (Nat.le_refl _)]
theorem tbC_add {o m w : Nat} {L : List Rw} {q : Rw} {M : Mem} (h : RR o m w (tAdd (tbC L) (rowC q)) M) : RR o m w (tbC (L ++ [q])) M := by
  refine h.ext (by show (L ++ [q]).length = L.length + 1; rw [List.length_append]; rfl) ?_
  intro r c hr hc
  have hr : r < L.length + 1 := hr
  show rowC ((L ++ [q]).getD r ([], [])) c = if r = L.length then rowC q c else rowC (L.getD r ([], [])) c
  by_cases e : r = L.length
  · rw [if_pos e, e, getD_app_at]
  · rw [if_neg e, getD_app_l _ (by omega)]
def Fr (b : Bool) (o : Nat) (M M' : Mem) : Prop := (∀ a, a ≠ 136 → a ≠ o → a ≠ o + 1 → M' a = M a) ∧ ∀ k, k ≠ 6 → (b = true → k ≠ 7 ∧ k ≠ 8) → M' 136 k = M 136 k
theorem Fr.refl (b : Bool) (o : Nat) (M : Mem) : Fr b o M M := ⟨fun _ _ _ _ => rfl, fun _ _ _ => rfl⟩
theorem Fr.trans {b : Bool} {o : Nat} {M M1 M2 : Mem} (h : Fr false o M M1) (h2 : Fr b o M1 M2) : Fr b o M M2 := ⟨fun a b c d => (h2.1 a b c d).trans (h.1 a b c d), fun a b c => (h2.2 a b c).trans (h.2 a b (fun z => by cases z))⟩
theorem Fr.out {b : Bool} {o : Nat} {M M' : Mem} (ho : o + 1 < 136) (h : Out o (o + 2) M M') : Fr b o M M' := ⟨fun a _ c d => h a (by omega), fun k _ _ => by rw [h 136 (by omega)]⟩
theorem Fr.u6 {b : Bool} {o : Nat} {M : Mem} {x : Int32} : Fr b o M (up2 M 136 6 x) := ⟨fun a b _ _ => up2_cell _ _ _ b, fun k a _ => up2_slot _ _ _ a⟩
section RWC
variable {N : Nat} {ty vl pl : Nat → Nat} {M : Mem} {o m w : Nat} {T : Tb}
theorem STc.fr {b : Bool} {M' : Mem} (ho : o + 1 < 136) (h : STc N ty vl pl M) (hF : Fr b o M M') : STc N ty vl pl M' := by
  unfold STc
  rw [hF.2 5 (by omega) (fun _ => by omega), hF.1 138 (by omega) (by omega) (by omega), hF.1 139 (by omega) (by omega) (by omega), hF.1 140 (by omega) (by omega) (by omega)]
  exact h
theorem RR.u6 {x : Int32} {j : Nat} (ho : o + 1 < 136) (h : RR o m w T M) : RR o m w T (up2 M 136 j x) := h.congr (up2_cell _ _ _ (by omega)) (up2_cell _ _ _ (by omega))
/-- what a reader of a line leaves -/
def PrC {α : Type} (N : Nat) (pl : Nat → Nat) (o m w : Nat) (T : Tb) (row : α → Nat → Int32) (M : Mem) (R : Rs α) (p : Mem × Int32) : Prop := Fr (isl R) o M p.1 ∧ match R with
  | .inl e => p.2 = 0 ∧ p.1 136 7 = nI e.1 ∧ p.1 136 8 = nI (pl e.2) ∧ ∃ T', RR o m w T' p.1
  | .inr q => p.2 = 1 ∧ q.1 ≤ N ∧ p.1 136 6 = nI q.1 ∧ RR o m w (tAdd T (row q.2)) p.1
theorem pr_fail {α : Type} {row : α → Nat → Int32} (hN : N ≤ 400) (ho : o + 1 < 136) {M0 : Mem} (h : STc N ty vl pl M) (hF : Fr false o M0 M) {i : Nat} (hi : i ≤ N) (h6 : M 136 6 = nI i) {x : Int32} {k : Nat} (hx : x = nI k) {T' : Tb} (hR : RR o m w T' M) : Wq (b2 (f_X9_fails x M) fun M4 x5 => b1 (gz x5) fun x6 => some (M4, x6)) (PrC N pl o m w T row M0 (.inl (k, i))) := by
  obtain ⟨M', e, h1, h2, h3, h4, h5⟩ := fails_ok hN h hi h6 x
  rw [e, b2_some]
  have hg : gz 0 = some 0 := rfl
  rw [hg, b1_some]
  refine wq_some ⟨hF.trans ⟨fun a b _ _ => h5 a b, h1.2.1⟩, rfl, by show M' 136 7 = nI k; rw [h2, hx], h3, T', ?_⟩
  exact hR.congr (h5 _ (by omega)) (h5 _ (by omega))
theorem pr_b2 {α β : Type} {r1 : α → Nat → Int32} {r2 : β → Nat → Int32} {M0 M1 : Mem} {x : Option (Mem × Int32)} {k : Mem → Option (Mem × Int32)} {R : Rs α} {f : Nat → α → Rs β} (h : Wq x (PrC N pl o m w T r1 M1 R)) (hF : Fr false o M0 M1) (hk : ∀ j c M2, R = .inr (j, c) → j ≤ N → Fr false o M0 M2 → M2 136 6 = nI j → RR o m w (tAdd T (r1 c)) M2 → Wq (k M2) (PrC N pl o m w T r2 M0 (f j c))) : Wq (b2 x fun M2 x2 => if x2 = 0 then some (M2, 0) else k M2) (PrC N pl o m w T r2 M0 (bnR R f)) := by
  obtain ⟨⟨M2, x2⟩, rfl, hFF, hm⟩ := h
  rw [b2_some]
  cases R with
  | inl e =>
    obtain ⟨h1, h2⟩ := hm
    simp only at h1
    rw [if_pos h1]
    exact wq_some ⟨hF.trans hFF, rfl, h2⟩
  | inr q =>
    obtain ⟨h1, h2, h3, h4⟩ := hm
    simp only at h1
    rw [if_neg (by rw [h1]; decide)]
    exact hk q.1 q.2 M2 rfl h2 (hF.trans hFF) h3 h4
theorem takes_ok {α : Type} {row : α → Nat → Int32} (hT : okT N ty) (ho : o + 1 < 136) (h : STc N ty vl pl M) {i : Nat} {a : α} (hi : i ≤ N) (h6 : M 136 6 = nI i) (hR : RR o m w (tAdd T (row a)) M) {x : Int32} {wd : Nat} (hx : x = nI wd) (hw : wd < 1000 ∧ wd ≠ 258) : Wq (f_X9_takes x M) (PrC N pl o m w T row M (nxG ty wd i a)) := by
  have hN := hT.1
  have ht := hT.2.2.2 i
  have ex := nI_eqc hx ht hw.1
  unfold f_X9_takes nxG
  rw [type_ok hN h hi h6, b1_some]
  by_cases hs : ty i = wd
  · have hiN : i < N := in_tok hT hi hs hw.2
    rw [if_pos (ex.2 hs), lt_eq, take_ok h6, if_pos hs]
    exact wq_some ⟨Fr.u6, rfl, hiN, (by first | exact up2_at _ _ _ _ | (simp only; exact up2_at _ _ _ _)), hR.u6 ho⟩
  · rw [if_neg (fun z => hs (ex.1 z)), if_neg hs]
    exact pr_fail hN ho h (Fr.refl _ _ _) hi h6 rfl hR
theorem num_rng {v lo hs : Nat} {a b : Int32} (hv : v ≤ 9999) (ha : a = nI lo) (hb : b.toInt = (hs : Int) - 1) (hl : lo < 1000) (hh : hs < 10000) : f_X10_within (nI v) a b = 0 ↔ ¬ (lo ≤ v ∧ v < hs) := by
  rw [within0, ha, nI_lt_iff (by omega) (by omega), Int32.lt_iff_toInt_lt, hb, nI_toInt (by omega)]
  omega
def rowL (c : List Int32) : Nat → Int32 := rowC (c, [])
theorem rowL_at (c : List Int32) (j : Nat) : rowL c j = c.getD j 0 := by
  unfold rowL rowC
  by_cases h : j < c.length
  · rw [if_pos h]
  · rw [if_neg h, List.getD_eq_getElem?_getD, List.getElem?_eq_none (by omega)]; rfl
theorem rowL_snoc (c : List Int32) (v : Int32) (j : Nat) : rowL (c ++ [v]) j = if j = c.length then v else rowL c j := by
  rw [rowL_at, rowL_at]
  by_cases h : j = c.length
  · rw [if_pos h, h, getD_app_at]
  · rw [if_neg h]
    by_cases h2 : j < c.length
    · exact getD_app_l _ h2
    · rw [List.getD_eq_getElem?_getD, List.getElem?_eq_none (by rw [List.length_append]; simp only [List.length_cons, List.length_nil]; omega), List.getD_eq_getElem?_getD, List.getElem?_eq_none (by omega)]
theorem takesNumber_ok (hT : okT N ty) (hv : ∀ i, ty i = 256 → vl i ≤ 9999) (ho : o + 1 < 136) (h : STc N ty vl pl M) {i lo hs : Nat} {c : List Int32} (hi : i ≤ N) (h6 : M 136 6 = nI i) (hR : RR o m w (tAdd T (rowL c)) M) (hc : c.length < w) {x a b : Int32} (hx : x = nI c.length) (ha : a = nI lo) (hb : b.toInt = (hs : Int) - 1) (hl : lo < 1000) (hh : hs < 10000) : Wq (f_X4_takesNumber o x a b M) (PrC N pl o m w T rowL M (nuG ty vl lo hs i c)) := by
  have hN := hT.1
  have ht := hT.2.2.2 i
  have e256 := nI_eqc (k := 256) (x := 256) rfl ht (by omega)
  unfold f_X4_takesNumber nuG
  rw [type_ok hN h hi h6, b1_some]
  by_cases h256 : ty i = 256
  · have hiN : i < N := in_tok hT hi h256 (by omega)
    have hv' := hv i h256
    obtain ⟨y, y1, y2⟩ := value_ok hN h hi h6
    have e := num_rng hv' ha hb hl hh
    rw [if_pos (e256.2 h256), y1, b1_some, y2 h256, b1_some, if_pos h256]
    by_cases hr : lo ≤ vl i ∧ vl i < hs
    · rw [if_neg (fun z => e.1 z hr), if_pos hr, hR.cnt]
      have e1 : nI (tAdd T (rowL c)).1 - 1 = nI T.1 := nI_dec' (show 0 < T.1 + 1 by omega)
      rw [e1, hx]
      refine wq_b1 (put_in hR (r := T.1) (nI (vl i)) (show T.1 < T.1 + 1 by omega) hc) ?_
      rintro M6 ⟨g1, g2⟩
      have e136 : M6 136 = M 136 := g2 136 (by omega)
      rw [lt_eq, take_ok (i := i) (by rw [e136]; exact h6)]
      refine wq_some ⟨(Fr.out ho (g2.wide (by omega) (by omega))).trans Fr.u6, rfl, hiN, (by first | exact up2_at _ _ _ _ | (simp only; exact up2_at _ _ _ _)), RR.u6 ho (RR.ext (T' := tAdd T (rowL (c ++ [nI (vl i)]))) g1 rfl ?_)⟩
      intro r j hr2 hj
      show (if r = T.1 then rowL (c ++ [nI (vl i)]) j else T.2 r j) = if r = T.1 ∧ j = c.length then nI (vl i) else (if r = T.1 then rowL c j else T.2 r j)
      by_cases er : r = T.1
      · rw [if_pos er, if_pos er, rowL_snoc]
        by_cases ej : j = c.length
        · rw [if_pos ej, if_pos ⟨er, ej⟩]
        · rw [if_neg ej, if_neg (fun z => ej z.2)]
      · rw [if_neg er, if_neg er, if_neg (fun z => er z.1)]
    · rw [if_pos (e.2 hr), if_neg hr]
      exact pr_fail hN ho h (Fr.refl _ _ _) hi h6 rfl hR
  · rw [if_neg (fun z => h256 (e256.1 z)), if_neg h256]
    exact pr_fail hN ho h (Fr.refl _ _ _) hi h6 rfl hR
theorem pred_hs {nk : Nat} {x : Int32} (h : x = nI nk) (hn : nk ≤ 6) : (x - 1).toInt = (nk : Int) - 1 := by
  subst h
  exact pred_toInt (by omega)
/-- a line's first word -/
theorem begins_ok (hT : okT N ty) (ho : o + 1 < 136) (h : STc N ty vl pl M) {i : Nat} (hi : i ≤ N) (h6 : M 136 6 = nI i) (hR : RR o m w T M) {x : Int32} {wd : Nat} (hx : x = nI wd) (hw : wd < 1000 ∧ wd ≠ 258) : Wq (f_X4_begins x o M) (PrC N pl o m w T rowL M (if ty i = wd then (if T.1 = m then .inl (3, i) else .inr (i + 1, [])) else .inl (1, i))) := by
  have hN := hT.1
  have ht := hT.2.2.2 i
  have ex := nI_eqc hx ht hw.1
  have hTm := hR.le
  have hm := hR.2.1.1
  unfold f_X4_begins
  rw [type_ok hN h hi h6, b1_some]
  by_cases hs : ty i = wd
  · have hiN : i < N := in_tok hT hi hs hw.2
    rw [if_pos (ex.2 hs), if_pos hs]
    by_cases hf : T.1 = m
    · rw [addEmpty_full hR hf, b2_some, if_pos rfl, if_pos hf]
      exact pr_fail hN ho h (Fr.refl _ _ _) hi h6 rfl hR
    · rw [if_neg hf]
      refine wq_b2 (addEmpty_ok hR (by omega)) ?_
      rintro M3 y ⟨g1, g2, g3⟩
      simp only at g1 g2 g3
      have e136 : M3 136 = M 136 := g3 136 (by omega)
      rw [g1, if_neg (nI_neg1 (by omega)), lt_eq, take_ok (i := i) (by rw [e136]; exact h6)]
      refine wq_some ⟨(Fr.out ho g3).trans Fr.u6, rfl, hiN, (by first | exact up2_at _ _ _ _ | (simp only; exact up2_at _ _ _ _)), (g2.ext rfl ?_).u6 ho⟩
      intro r j hr hj
      show (if r = T.1 then rowL [] j else T.2 r j) = if r = T.1 then 0 else T.2 r j
      rw [rowL_at]
      rfl
  · rw [if_neg (fun z => hs (ex.1 z)), if_neg hs]
    exact pr_fail hN ho h (Fr.refl _ _ _) hi h6 rfl hR
/-- a reader of a line does what it should -/
def lineG (ty vl : Nat → Nat) (k nk mx : Nat) (n : Nat) (i : Nat) : Rs Rw := if ty i = bwG k then (if n = mx then .inl (3, i) else rowG ty vl k nk i) else .inl (1, i)
theorem fin1 {x : Option (Mem × Int32)} {R : Rs (List Int32)} {M0 M1 : Mem} (h : Wq x (PrC N pl o m w T rowL M1 R)) (hF : Fr false o M0 M1) : Wq (b2 x fun M13 x14 => if x14 = 0 then (some (M13, 0)) else (some (M13, 1))) (PrC N pl o m w T rowC M0 (bnR R (fun j c => .inr (j, (c, ([] : List (Nat × Nat))))))) := by
  refine pr_b2 h hF ?_
  intro j c M2 _ h1 h2 h3 h4
  exact wq_some ⟨h2, rfl, h1, h3, h4⟩
theorem begins_row (hT : okT N ty) (ho : o + 1 < 136) (h : STc N ty vl pl M) {i : Nat} (hi : i ≤ N) (h6 : M 136 6 = nI i) (hR : RR o m w T M) {x : Int32} {wd : Nat} (hx : x = nI wd) (hw : wd < 1000 ∧ wd ≠ 258) {k : Mem → Option (Mem × Int32)} {R : Rs Rw} (hk : ∀ M2, i + 1 ≤ N → Fr false o M M2 → M2 136 6 = nI (i + 1) → RR o m w (tAdd T (rowL [])) M2 → Wq (k M2) (PrC N pl o m w T rowC M R)) : Wq (b2 (f_X4_begins x o M) fun M2 x2 => if x2 = 0 then some (M2, 0) else k M2) (PrC N pl o m w T rowC M (if ty i = wd then (if T.1 = m then .inl (3, i) else R) else .inl (1, i))) := by
  obtain ⟨⟨M2, x2⟩, e, hF, hm⟩ := begins_ok hT ho h hi h6 hR hx hw
  rw [e, b2_some]
  by_cases hs : ty i = wd
  · rw [if_pos hs] at hF hm ⊢
    by_cases hf : T.1 = m
    · rw [if_pos hf] at hF hm ⊢
      obtain ⟨h1, h2⟩ := hm
      simp only at h1
      rw [if_pos h1]
      exact wq_some ⟨hF, rfl, h2⟩
    · rw [if_neg hf] at hF hm ⊢
      obtain ⟨h1, h2, h3, h4⟩ := hm
      simp only at h1
      rw [if_neg (by rw [h1]; decide)]
      exact hk M2 h2 hF h3 h4
  · rw [if_neg hs] at hF hm ⊢
    obtain ⟨h1, h2⟩ := hm
    simp only at h1
    rw [if_pos h1]
    exact wq_some ⟨hF, rfl, h2⟩
theorem seq_nu {q : Nat × Nat} {t : List It} {i : Nat} {c : List Int32} : seqG ty vl (.inr q :: t) i c = bnR (nuG ty vl q.1 q.2 i c) (fun j c => seqG ty vl t j c) := rfl
theorem seq_wd {wd : Nat} {t : List It} {i : Nat} {c : List Int32} : seqG ty vl (.inl wd :: t) i c = bnR (nxG ty wd i c) (fun j c => seqG ty vl t j c) := rfl
theorem nu_len {lo hs i j : Nat} {c c' : List Int32} (h : nuG ty vl lo hs i c = .inr (j, c')) : c'.length = c.length + 1 := by
  unfold nuG at h
  by_cases h1 : ty i = 256
  · rw [if_pos h1] at h
    by_cases h2 : lo ≤ vl i ∧ vl i < hs
    · rw [if_pos h2] at h
      cases h
      rw [List.length_append]; rfl
    · rw [if_neg h2] at h; cases h
  · rw [if_neg h1] at h; cases h
theorem nx_eq {α : Type} {wd i j : Nat} {c c' : α} (h : nxG ty wd i c = .inr (j, c')) : c' = c := by
  unfold nxG at h
  by_cases h1 : ty i = wd
  · rw [if_pos h1] at h; cases h; rfl
  · rw [if_neg h1] at h; cases h
theorem readKind_ok (hT : okT N ty) (hv : ∀ i, ty i = 256 → vl i ≤ 9999) (ho : o + 1 < 136) (h : STc N ty vl pl M) {i : Nat} (hi : i ≤ N) (h6 : M 136 6 = nI i) (hR : RR o m 2 T M) (nk : Nat) : Wq (f_X4_readKind o M) (PrC N pl o m 2 T rowC M (lineG ty vl 0 nk m T.1 i)) := by
  unfold f_X4_readKind
  show Wq _ (PrC N pl o m 2 T rowC M (if ty i = 300 then (if T.1 = m then .inl (3, i) else bnR (seqG ty vl itK (i + 1) []) (fun j c => .inr (j, (c, ([] : List (Nat × Nat)))))) else .inl (1, i)))
  refine begins_row (wd := 300) (x := 300) hT ho h hi h6 hR rfl (by omega) ?_
  intro M1 a1 a2 a3 a4
  show Wq _ (PrC N pl o m 2 T rowC M (bnR (bnR (nuG ty vl 1 100 (i + 1) []) (fun j c => bnR (nxG ty 315 j c) (fun j c => bnR (nuG ty vl 1 31 j c) (fun j c => bnR (nxG ty 59 j c) (fun j c => .inr (j, c)))))) (fun j c => .inr (j, (c, ([] : List (Nat × Nat)))))))
  rw [bnR_bnR]
  refine pr_b2 (takesNumber_ok (lo := 1) (hs := 100) hT hv ho (h.fr ho a2) a1 a3 a4 (by decide) rfl rfl rfl (by omega) (by omega)) a2 ?_
  intro j c M2 e2 b1 b2 b3 b4
  have l2 := nu_len e2
  try simp only
  rw [bnR_bnR]
  refine pr_b2 (takes_ok (wd := 315) hT ho (h.fr ho b2) b1 b3 b4 rfl (by omega)) b2 ?_
  intro j c' M3 e3 c1 c2 c3 c4
  have l3 := nx_eq e3
  subst l3
  try simp only
  rw [bnR_bnR]
  refine pr_b2 (takesNumber_ok (lo := 1) (hs := 31) hT hv ho (h.fr ho c2) c1 c3 c4 (by rw [l2]; decide) (by rw [l2]; rfl) rfl rfl (by omega) (by omega)) c2 ?_
  intro j c M4 e4 d1 d2 d3 d4
  try simp only
  rw [bnR_bnR]
  refine pr_b2 (takes_ok (wd := 59) hT ho (h.fr ho d2) d1 d3 d4 rfl (by omega)) d2 ?_
  intro j c' M5 e5 f1 f2 f3 f4
  exact wq_some ⟨f2, rfl, f1, f3, f4⟩
theorem readFeast_ok (hT : okT N ty) (hv : ∀ i, ty i = 256 → vl i ≤ 9999) (ho : o + 1 < 136) (h : STc N ty vl pl M) {i : Nat} (hi : i ≤ N) (h6 : M 136 6 = nI i) (hR : RR o m 3 T M) {nk : Nat} (hk : nk ≤ 6) : Wq (f_X4_readFeast o (nI nk) M) (PrC N pl o m 3 T rowC M (lineG ty vl 2 nk m T.1 i)) := by
  unfold f_X4_readFeast
  show Wq _ (PrC N pl o m 3 T rowC M (if ty i = 316 then (if T.1 = m then .inl (3, i) else bnR (seqG ty vl (itF nk) (i + 1) []) (fun j c => .inr (j, (c, ([] : List (Nat × Nat)))))) else .inl (1, i)))
  refine begins_row (wd := 316) (x := 316) hT ho h hi h6 hR rfl (by omega) ?_
  intro M1 a1 a2 a3 a4
  show Wq _ (PrC N pl o m 3 T rowC M (bnR (bnR (nuG ty vl 0 1000 (i + 1) []) (fun j c => bnR (nxG ty 317 j c) (fun j c => bnR (nuG ty vl 0 nk j c) (fun j c => bnR (nxG ty 318 j c) (fun j c => bnR (nuG ty vl 1 21 j c) (fun j c => bnR (nxG ty 59 j c) (fun j c => .inr (j, c)))))))) (fun j c => .inr (j, (c, ([] : List (Nat × Nat)))))))
  rw [bnR_bnR]
  refine pr_b2 (takesNumber_ok (lo := 0) (hs := 1000) hT hv ho (h.fr ho a2) a1 a3 a4 (by decide) rfl rfl rfl (by omega) (by omega)) a2 ?_
  intro j c M2 e2 b1 b2 b3 b4
  have l2 := nu_len e2
  try simp only
  rw [bnR_bnR]
  refine pr_b2 (takes_ok (wd := 317) hT ho (h.fr ho b2) b1 b3 b4 rfl (by omega)) b2 ?_
  intro j c' M3 e3 c1 c2 c3 c4
  have l3 := nx_eq e3
  subst l3
  try simp only
  rw [bnR_bnR]
  refine pr_b2 (takesNumber_ok (lo := 0) (hs := nk) hT hv ho (h.fr ho c2) c1 c3 c4 (by rw [l2]; decide) (by rw [l2]; rfl) rfl (pred_hs rfl hk) (by omega) (by omega)) c2 ?_
  intro j c M4 e4 d1 d2 d3 d4
  have l4 := nu_len e4
  try simp only
  rw [bnR_bnR]
  refine pr_b2 (takes_ok (wd := 318) hT ho (h.fr ho d2) d1 d3 d4 rfl (by omega)) d2 ?_
  intro j c' M5 e5 f1 f2 f3 f4
  have l5 := nx_eq e5
  subst l5
  try simp only
  rw [bnR_bnR]
  refine pr_b2 (takesNumber_ok (lo := 1) (hs := 21) hT hv ho (h.fr ho f2) f1 f3 f4 (by rw [l4, l2]; decide) (by rw [l4, l2]; rfl) rfl rfl (by omega) (by omega)) f2 ?_
  intro j c M6 e6 g1 g2 g3 g4
  try simp only
  rw [bnR_bnR]
  refine pr_b2 (takes_ok (wd := 59) hT ho (h.fr ho g2) g1 g3 g4 rfl (by omega)) g2 ?_
  intro j c' M7 e7 k1 k2 k3 k4
  exact wq_some ⟨k2, rfl, k1, k3, k4⟩
theorem readWant_ok (hT : okT N ty) (hv : ∀ i, ty i = 256 → vl i ≤ 9999) (ho : o + 1 < 136) (h : STc N ty vl pl M) {i : Nat} (hi : i ≤ N) (h6 : M 136 6 = nI i) (hR : RR o m 5 T M) {nk : Nat} (hk : nk ≤ 6) : Wq (f_X4_readWant o (nI nk) M) (PrC N pl o m 5 T rowC M (lineG ty vl 3 nk m T.1 i)) := by
  unfold f_X4_readWant
  show Wq _ (PrC N pl o m 5 T rowC M (if ty i = 319 then (if T.1 = m then .inl (3, i) else bnR (seqG ty vl (itW nk) (i + 1) []) (fun j c => .inr (j, (c, ([] : List (Nat × Nat)))))) else .inl (1, i)))
  refine begins_row (wd := 319) (x := 319) hT ho h hi h6 hR rfl (by omega) ?_
  intro M1 a1 a2 a3 a4
  show Wq _ (PrC N pl o m 5 T rowC M (bnR (bnR (nuG ty vl 0 nk (i + 1) []) (fun j c => bnR (nuG ty vl 1 100 j c) (fun j c => bnR (nxG ty 320 j c) (fun j c => bnR (nuG ty vl 0 1000 j c) (fun j c => bnR (nxG ty 321 j c) (fun j c => bnR (nuG ty vl 0 1000 j c) (fun j c => bnR (nxG ty 59 j c) (fun j c => .inr (j, c))))))))) (fun j c => .inr (j, (c, ([] : List (Nat × Nat)))))))
  rw [bnR_bnR]
  refine pr_b2 (takesNumber_ok (lo := 0) (hs := nk) hT hv ho (h.fr ho a2) a1 a3 a4 (by decide) rfl rfl (pred_hs rfl hk) (by omega) (by omega)) a2 ?_
  intro j c M2 e2 b1 b2 b3 b4
  have l2 := nu_len e2
  try simp only
  rw [bnR_bnR]
  refine pr_b2 (takesNumber_ok (lo := 1) (hs := 100) hT hv ho (h.fr ho b2) b1 b3 b4 (by rw [l2]; decide) (by rw [l2]; rfl) rfl rfl (by omega) (by omega)) b2 ?_
  intro j c M3 e3 c1 c2 c3 c4
  have l3 := nu_len e3
  try simp only
  rw [bnR_bnR]
  refine pr_b2 (takes_ok (wd := 320) hT ho (h.fr ho c2) c1 c3 c4 rfl (by omega)) c2 ?_
  intro j c' M4 e4 d1 d2 d3 d4
  have l4 := nx_eq e4
  subst l4
  try simp only
  rw [bnR_bnR]
  refine pr_b2 (takesNumber_ok (lo := 0) (hs := 1000) hT hv ho (h.fr ho d2) d1 d3 d4 (by rw [l3, l2]; decide) (by rw [l3, l2]; rfl) rfl rfl (by omega) (by omega)) d2 ?_
  intro j c M5 e5 f1 f2 f3 f4
  have l5 := nu_len e5
  try simp only
  rw [bnR_bnR]
  refine pr_b2 (takes_ok (wd := 321) hT ho (h.fr ho f2) f1 f3 f4 rfl (by omega)) f2 ?_
  intro j c' M6 e6 g1 g2 g3 g4
  have l6 := nx_eq e6
  subst l6
  try simp only
  rw [bnR_bnR]
  refine pr_b2 (takesNumber_ok (lo := 0) (hs := 1000) hT hv ho (h.fr ho g2) g1 g3 g4 (by rw [l5, l3, l2]; decide) (by rw [l5, l3, l2]; rfl) rfl rfl (by omega) (by omega)) g2 ?_
  intro j c M7 e7 k1 k2 k3 k4
  try simp only
  rw [bnR_bnR]
  refine pr_b2 (takes_ok (wd := 59) hT ho (h.fr ho k2) k1 k3 k4 rfl (by omega)) k2 ?_
  intro j c' M8 e8 m1 m2 m3 m4
  exact wq_some ⟨m2, rfl, m1, m3, m4⟩
end RWC
