/-! ===== PURE PART: the law's grammar ===== -/
abbrev Rs (α : Type) : Type := (Nat × Nat) ⊕ (Nat × α)
def bnR {α β : Type} (x : Rs α) (f : Nat → α → Rs β) : Rs β := match x with
  | .inl e => .inl e
  | .inr p => f p.1 p.2
theorem bnR_l {α β : Type} (e : Nat × Nat) (f : Nat → α → Rs β) : bnR (.inl e) f = .inl e := rfl
theorem bnR_r {α β : Type} (j : Nat) (a : α) (f : Nat → α → Rs β) : bnR (.inr (j, a)) f = f j a := rfl
def waitC (w : Nat) : Cd := if w = 0 then [] else [(w, 0)]
def unG (ty vl : Nat → Nat) (i : Nat) : Rs Cd := if ty i = 256 then .inr (i + 1, [(0, nI (vl i))]) else if 300 ≤ ty i ∧ ty i ≤ 306 then .inr (i + 1, [(ty i - 299, 0)]) else .inl (1, i)
def dvG (ty vl : Nat → Nat) (i : Nat) : Rs Cd := if ty i = 256 then (if vl i = 0 then .inl (2, i) else .inr (i + 1, [(26, nI (vl i))])) else .inl (1, i)
def flG (ty vl : Nat → Nat) : Nat → Nat → Nat → Cd → Rs Cd
  | 0, i, w, c => .inr (i, c ++ waitC w)
  | f + 1, i, w, c =>
    if ty i = 42 then bnR (unG ty vl (i + 1)) (fun j u => flG ty vl f j w (c ++ u ++ [(25, 0)]))
    else if ty i = 47 then bnR (dvG ty vl (i + 1)) (fun j u => flG ty vl f j w (c ++ u))
    else if ty i = 43 ∨ ty i = 45 then bnR (unG ty vl (i + 1)) (fun j u => flG ty vl f j (if ty i = 43 then 23 else 24) (c ++ waitC w ++ u))
    else .inr (i, c ++ waitC w)
def smG (ty vl : Nat → Nat) (i : Nat) : Rs Cd := bnR (unG ty vl i) (fun j c => flG ty vl 400 j 0 c)
def anG (ty : Nat → Nat) (cd : Nat → Rs Cd) : Nat → Nat → Cd → Rs Cd
  | 0, i, c => .inr (i, c)
  | f + 1, i, c => if ty i = 313 then bnR (cd (i + 1)) (fun j u => anG ty cd f j (c ++ u ++ [(31, 0)])) else .inr (i, c)
def evG (ty : Nat → Nat) (cd : Nat → Rs Cd) (i : Nat) : Rs Cd := bnR (cd i) (fun j c => anG ty cd 400 j c)
def orG (ty : Nat → Nat) (ev : Nat → Rs Cd) : Nat → Nat → Cd → Rs Cd
  | 0, i, c => .inr (i, c)
  | f + 1, i, c => if ty i = 312 then bnR (ev (i + 1)) (fun j u => orG ty ev f j (c ++ u ++ [(32, 0)])) else .inr (i, c)
def ayG (ty : Nat → Nat) (ev : Nat → Rs Cd) (i : Nat) : Rs Cd := bnR (ev i) (fun j c => orG ty ev 400 j c)
def cmG (ty vl : Nat → Nat) (i : Nat) : Rs Cd := bnR (smG ty vl i) (fun j c => if ty j = 60 ∨ ty j = 61 ∨ ty j = 62 then bnR (smG ty vl (j + 1)) (fun j2 c2 => .inr (j2, c ++ c2 ++ [(ty j - 33, 0)])) else .inl (1, j))
def nxG (ty : Nat → Nat) (w : Nat) {α : Type} (i : Nat) (a : α) : Rs α := if ty i = w then .inr (i + 1, a) else .inl (1, i)
def cdG (ty vl : Nat → Nat) : Nat → Nat → Rs Cd
  | 0, i => if ty i = 314 ∨ ty i = 40 then .inl (3, i) else cmG ty vl i
  | r + 1, i => if ty i = 40 then bnR (ayG ty (evG ty (cdG ty vl r)) (i + 1)) (fun j c => nxG ty 41 j c)
    else if ty i = 314 then bnR (cdG ty vl r (i + 1)) (fun j c => .inr (j, c ++ [(30, 0)]))
    else cmG ty vl i
def lnG (ty vl : Nat → Nat) (i : Nat) : Rs (Nat × Cd × Cd) := bnR (smG ty vl (i + 1)) (fun j c =>
    if ty j = 311 then bnR (ayG ty (evG ty (cdG ty vl 8)) (j + 1)) (fun j2 c2 => nxG ty 59 j2 (ty i - 287, c, c2))
    else nxG ty 59 j (ty i - 287, c, ([] : Cd)))
def lwG (ty vl : Nat → Nat) : Nat → Nat → LwT → Rs LwT
  | 0, i, L => .inr (i, L)
  | f + 1, i, L => if ty i = 258 then .inr (i, L) else if 307 ≤ ty i ∧ ty i ≤ 310 then (if L.length = 16 then .inl (3, i) else bnR (lnG ty vl i) (fun j l => lwG ty vl f j (L ++ [l]))) else .inl (1, i)
/-! what is read can be worked out -/
theorem Good.mono {n m : Nat} {b : Bool} {c : Cd} (h : Good n b c) (hm : n ≤ m) : Good m b c := by
  obtain ⟨V, hV⟩ := h
  exact ⟨V, fun F t s ht => hV F t s (by omega)⟩
theorem Good.any {n : Nat} {b : Bool} {c : Cd} (h : Good n b c) : Good n false c := by
  obtain ⟨V, hV⟩ := h
  refine ⟨V, fun F t s ht => ?_⟩
  obtain ⟨s', h1, h2, h3, _⟩ := hV F t s ht
  exact ⟨s', h1, h2, h3, fun z => by cases z⟩
theorem good_push {k : Nat} (v : Int32) (hk : k ≤ 7) : Good 1 false [(k, v)] := by
  refine ⟨fun F => if k = 0 then v else F (k - 1), fun F t s ht => ⟨upd s t (if k = 0 then v else F (k - 1)), ?_, ?_, ?_, fun z => by cases z⟩⟩
  · unfold runS runS stepS
    try simp only
    rw [if_pos hk, if_pos (by omega)]
  · intro j hj
    unfold upd
    rw [if_neg (by omega)]
  · unfold upd
    rw [if_pos rfl]
theorem good_part {n : Nat} {c : Cd} {v : Int32} (h : Good n false c) (hn : 2 ≤ n) (hv : v ≠ 0) : Good n false (c ++ [(26, v)]) := by
  obtain ⟨V, hV⟩ := h
  refine ⟨fun F => V F / v, fun F t s ht => ?_⟩
  obtain ⟨s', h1, h2, h3, _⟩ := hV F t s ht
  refine ⟨upd s' t (s' t / v), ?_, ?_, ?_, fun z => by cases z⟩
  · rw [runS_app, h1]
    unfold runS runS stepS
    try simp only
    rw [if_neg (by omega), if_pos trivial, if_pos ⟨by omega, by omega, hv⟩]
    rfl
  · intro j hj
    unfold upd
    rw [if_neg (by omega)]
    exact h2 j hj
  · unfold upd
    rw [if_pos rfl, h3]
theorem good_not {n : Nat} {c : Cd} {v : Int32} (h : Good n true c) : Good n true (c ++ [(30, v)]) := by
  obtain ⟨V, hV⟩ := h
  refine ⟨fun F => 1 - V F, fun F t s ht => ?_⟩
  obtain ⟨s', h1, h2, h3, h4⟩ := hV F t s ht
  refine ⟨upd s' t (1 - s' t), ?_, ?_, ?_, fun _ => ?_⟩
  · rw [runS_app, h1]
    unfold runS runS stepS
    try simp only
    rw [if_neg (by omega), if_neg (by omega), if_pos trivial, if_pos (by omega)]
    rfl
  · intro j hj
    unfold upd
    rw [if_neg (by omega)]
    exact h2 j hj
  · unfold upd
    rw [if_pos rfl, h3]
  · rcases h4 rfl with z | z
    · simp only; rw [z]; exact .inr rfl
    · simp only; rw [z]; exact .inl rfl
theorem good_two {n m k : Nat} {b1 b2 b : Bool} {c1 c2 : Cd} {v : Int32} (h1 : Good n b1 c1) (h2 : Good m b2 c2) (hk : 23 ≤ k ∧ k ≤ 32 ∧ k ≠ 26 ∧ k ≠ 30) (hb : b = true → (∀ x y, op2 k x y = 0 ∨ op2 k x y = 1) ∨ (b1 = true ∧ b2 = true ∧ ∀ x y : Int32, (x = 0 ∨ x = 1) → (y = 0 ∨ y = 1) → op2 k x y = 0 ∨ op2 k x y = 1)) {N : Nat} (hn : n ≤ N) (hm : m + 1 ≤ N) : Good N b (c1 ++ c2 ++ [(k, v)]) := by
  obtain ⟨V1, hV1⟩ := h1
  obtain ⟨V2, hV2⟩ := h2
  refine ⟨fun F => op2 k (V1 F) (V2 F), fun F t s ht => ?_⟩
  obtain ⟨s1, a1, a2, a3, a4⟩ := hV1 F t s (by omega)
  obtain ⟨s2, e1, e2, e3, e4⟩ := hV2 F (t + 1) s1 (by omega)
  refine ⟨upd s2 t (op2 k (s2 t) (s2 (t + 1))), ?_, ?_, ?_, fun z => ?_⟩
  · rw [runS_app, runS_app, a1]
    try simp only
    rw [e1]
    unfold runS runS stepS
    try simp only
    rw [if_neg (by omega), if_neg (by omega), if_neg (by omega), if_pos (by omega), if_pos (by omega)]
    rfl
  · intro j hj
    unfold upd
    rw [if_neg (by omega), e2 j (by omega)]
    exact a2 j hj
  · unfold upd
    rw [if_pos rfl, e3, e2 t (by omega), a3]
  · rcases hb z with y | ⟨y1, y2, y3⟩
    · exact y _ _
    · exact y3 _ _ (a4 y1) (e4 y2)
theorem cmp01 {k : Nat} (hk : k = 27 ∨ k = 28 ∨ k = 29) (x y : Int32) : op2 k x y = 0 ∨ op2 k x y = 1 := by
  rcases hk with rfl | rfl | rfl
  · show (if y ≤ x then (0 : Int32) else 1) = 0 ∨ (if y ≤ x then (0 : Int32) else 1) = 1
    by_cases h : y ≤ x
    · rw [if_pos h]; exact .inl rfl
    · rw [if_neg h]; exact .inr rfl
  · show (if x = y then (1 : Int32) else 0) = 0 ∨ (if x = y then (1 : Int32) else 0) = 1
    by_cases h : x = y
    · rw [if_pos h]; exact .inr rfl
    · rw [if_neg h]; exact .inl rfl
  · show (if x ≤ y then (0 : Int32) else 1) = 0 ∨ (if x ≤ y then (0 : Int32) else 1) = 1
    by_cases h : x ≤ y
    · rw [if_pos h]; exact .inl rfl
    · rw [if_neg h]; exact .inr rfl
theorem bit01 {k : Nat} (hk : k = 31 ∨ k = 32) (x y : Int32) (hx : x = 0 ∨ x = 1) (hy : y = 0 ∨ y = 1) : op2 k x y = 0 ∨ op2 k x y = 1 := by
  rcases hk with rfl | rfl <;> rcases hx with rfl | rfl <;> rcases hy with rfl | rfl <;> decide
/-- what holds of each code that is read -/
def allR {α : Type} (P : α → Prop) (x : Rs α) : Prop := ∀ j a, x = .inr (j, a) → P a
theorem allR_l {α : Type} {P : α → Prop} (e : Nat × Nat) : allR P (.inl e) := fun j a h => by cases h
theorem allR_r {α : Type} {P : α → Prop} {j : Nat} {a : α} (h : P a) : allR P (.inr (j, a)) := fun j a e => by cases e; exact h
theorem allR_b {α β : Type} {P : α → Prop} {Q : β → Prop} {x : Rs α} {f : Nat → α → Rs β} (h : allR P x) (hf : ∀ j a, P a → allR Q (f j a)) : allR Q (bnR x f) := by
  cases x with
  | inl e => exact allR_l e
  | inr p => exact hf p.1 p.2 (h p.1 p.2 rfl)
theorem allR_if {α : Type} {P : α → Prop} {c : Prop} [Decidable c] {x y : Rs α} (h1 : c → allR P x) (h2 : ¬ c → allR P y) : allR P (if c then x else y) := by
  by_cases h : c
  · rw [if_pos h]; exact h1 h
  · rw [if_neg h]; exact h2 h
section GRM
variable {ty vl : Nat → Nat}
theorem un_good (i : Nat) : allR (Good 1 false) (unG ty vl i) := by
  unfold unG
  refine allR_if (fun _ => allR_r (good_push _ (by omega))) (fun _ => allR_if (fun h => allR_r (good_push _ (by omega))) (fun _ => allR_l _))
def FOK (w : Nat) (c : Cd) : Prop := (w = 0 ∧ Good 2 false c) ∨ ((w = 23 ∨ w = 24) ∧ ∃ c1 c2, c = c1 ++ c2 ∧ Good 3 false c1 ∧ Good 2 false c2)
theorem FOK.fin {w : Nat} {c : Cd} (h : FOK w c) : Good 3 false (c ++ waitC w) := by
  unfold waitC
  rcases h with ⟨rfl, h⟩ | ⟨hw, c1, c2, rfl, h1, h2⟩
  · rw [if_pos rfl, List.append_nil]; exact h.mono (by omega)
  · rw [if_neg (by omega)]
    exact good_two h1 h2 (by omega) (fun z => by cases z) (Nat.le_refl _) (by omega)
theorem dv_good (hv : ∀ i, ty i = 256 → vl i ≤ 9999) {w : Nat} {c : Cd} (h : FOK w c) (i : Nat) : allR (fun u => FOK w (c ++ u)) (dvG ty vl i) := by
  unfold dvG
  refine allR_if (fun h256 => allR_if (fun _ => allR_l _) (fun hz => allR_r ?_)) (fun _ => allR_l _)
  have := hv i h256
  have hne : nI (vl i) ≠ 0 := by
    intro z
    have z : nI (vl i) = nI 0 := z
    rw [nI_eq_iff (by omega) (by omega)] at z
    exact hz z
  rcases h with ⟨rfl, h⟩ | ⟨hw, c1, c2, rfl, h1, h2⟩
  · exact .inl ⟨rfl, good_part h (by omega) hne⟩
  · exact .inr ⟨hw, c1, c2 ++ [(26, nI (vl i))], by rw [List.append_assoc], h1, good_part h2 (by omega) hne⟩
theorem fl_good (hv : ∀ i, ty i = 256 → vl i ≤ 9999) : ∀ (f i w : Nat) (c : Cd), FOK w c → allR (Good 3 false) (flG ty vl f i w c)
  | 0, i, w, c, h => allR_r h.fin
  | f + 1, i, w, c, h => by
    unfold flG
    refine allR_if (fun _ => allR_b (un_good _) (fun j u hu => fl_good hv f j w _ ?_)) (fun _ => allR_if (fun _ => allR_b (dv_good hv h _) (fun j u hu => fl_good hv f j w _ hu)) (fun _ => allR_if (fun h45 => allR_b (un_good _) (fun j u hu => fl_good hv f j _ _ ?_)) (fun _ => allR_r h.fin)))
    · rcases h with ⟨rfl, h⟩ | ⟨hw, c1, c2, rfl, h1, h2⟩
      · exact .inl ⟨rfl, good_two h hu (by omega) (fun z => by cases z) (Nat.le_refl _) (by omega)⟩
      · exact .inr ⟨hw, c1, c2 ++ u ++ [(25, 0)], by simp only [List.append_assoc], h1, good_two h2 hu (by omega) (fun z => by cases z) (Nat.le_refl _) (by omega)⟩
    · refine .inr ⟨?_, c ++ waitC w, u, rfl, h.fin, hu.mono (by omega)⟩
      by_cases z : ty i = 43
      · rw [if_pos z]; exact .inl rfl
      · rw [if_neg z]; exact .inr rfl
theorem sm_good (hv : ∀ i, ty i = 256 → vl i ≤ 9999) (i : Nat) : allR (Good 3 false) (smG ty vl i) :=
  allR_b (un_good i) (fun j c h => fl_good hv 400 j 0 c (.inl ⟨rfl, h.mono (by omega)⟩))
theorem cm_good (hv : ∀ i, ty i = 256 → vl i ≤ 9999) (i : Nat) : allR (Good 4 true) (cmG ty vl i) :=
  allR_b (sm_good hv i) (fun j c h => allR_if (fun hj => allR_b (sm_good hv (j + 1)) (fun j2 c2 h2 => allR_r (good_two h h2 (by omega) (fun _ => .inl (cmp01 (by omega))) (by omega) (by omega)))) (fun _ => allR_l _))
theorem an_good {cd : Nat → Rs Cd} {m : Nat} (hc : ∀ i, allR (Good m true) (cd i)) : ∀ (f i : Nat) (c : Cd), Good (m + 1) true c → allR (Good (m + 1) true) (anG ty cd f i c)
  | 0, i, c, h => allR_r h
  | f + 1, i, c, h => by
    unfold anG
    exact allR_if (fun _ => allR_b (hc _) (fun j u hu => an_good hc f j _ (good_two h hu (by omega) (fun _ => .inr ⟨rfl, rfl, bit01 (.inl rfl)⟩) (Nat.le_refl _) (Nat.le_refl _)))) (fun _ => allR_r h)
theorem ev_good {cd : Nat → Rs Cd} {m : Nat} (hc : ∀ i, allR (Good m true) (cd i)) (i : Nat) : allR (Good (m + 1) true) (evG ty cd i) :=
  allR_b (hc i) (fun j c h => an_good hc 400 j c (h.mono (by omega)))
theorem or_good {ev : Nat → Rs Cd} {m : Nat} (hc : ∀ i, allR (Good m true) (ev i)) : ∀ (f i : Nat) (c : Cd), Good (m + 1) true c → allR (Good (m + 1) true) (orG ty ev f i c)
  | 0, i, c, h => allR_r h
  | f + 1, i, c, h => by
    unfold orG
    exact allR_if (fun _ => allR_b (hc _) (fun j u hu => or_good hc f j _ (good_two h hu (by omega) (fun _ => .inr ⟨rfl, rfl, bit01 (.inr rfl)⟩) (Nat.le_refl _) (Nat.le_refl _)))) (fun _ => allR_r h)
theorem ay_good {ev : Nat → Rs Cd} {m : Nat} (hc : ∀ i, allR (Good m true) (ev i)) (i : Nat) : allR (Good (m + 1) true) (ayG ty ev i) :=
  allR_b (hc i) (fun j c h => or_good hc 400 j c (h.mono (by omega)))
theorem nx_good {α : Type} {P : α → Prop} {w i : Nat} {a : α} (h : P a) : allR P (nxG ty w i a) := by
  unfold nxG
  exact allR_if (fun _ => allR_r h) (fun _ => allR_l _)
theorem cd_good (hv : ∀ i, ty i = 256 → vl i ≤ 9999) : ∀ (r i : Nat), allR (Good (4 + 2 * r) true) (cdG ty vl r i)
  | 0, i => by
    unfold cdG
    exact allR_if (fun _ => allR_l _) (fun _ => cm_good hv i)
  | r + 1, i => by
    unfold cdG
    refine allR_if (fun _ => allR_b (ay_good (ev_good (cd_good hv r)) (i + 1)) (fun j c h => nx_good ?_)) (fun _ => allR_if (fun _ => allR_b (cd_good hv r (i + 1)) (fun j c h => allR_r ?_)) (fun _ => ?_))
    · exact h.mono (by omega)
    · exact (good_not h).mono (by omega)
    · intro j a e
      exact (cm_good hv i j a e).mono (by omega)
def lineOK (l : Nat × Cd × Cd) : Prop := (20 ≤ l.1 ∧ l.1 ≤ 23) ∧ Good 31 false l.2.1 ∧ (l.2.2 = [] ∨ Good 31 true l.2.2)
theorem ln_good (hv : ∀ i, ty i = 256 → vl i ≤ 9999) {i : Nat} (hi : 307 ≤ ty i ∧ ty i ≤ 310) : allR lineOK (lnG ty vl i) := by
  unfold lnG
  refine allR_b (sm_good hv (i + 1)) (fun j c h => allR_if (fun _ => allR_b (ay_good (ev_good (cd_good hv 8)) (j + 1)) (fun j2 c2 h2 => nx_good ?_)) (fun _ => nx_good ?_))
  · exact ⟨by simp only; omega, h.mono (by omega), .inr (h2.mono (by omega))⟩
  · exact ⟨by simp only; omega, h.mono (by omega), .inl rfl⟩
theorem lw_good (hv : ∀ i, ty i = 256 → vl i ≤ 9999) : ∀ (f i : Nat) (L : LwT), OKL L → allR OKL (lwG ty vl f i L)
  | 0, i, L, h => allR_r h
  | f + 1, i, L, h => by
    unfold lwG
    refine allR_if (fun _ => allR_r h) (fun _ => allR_if (fun hi => allR_if (fun _ => allR_l _) (fun h16 => allR_b (ln_good hv hi) (fun j l hl => lw_good hv f j _ ⟨?_, ?_⟩))) (fun _ => allR_l _))
    · have := h.1
      rw [List.length_append]
      simp only [List.length_cons, List.length_nil]
      omega
    · intro l' hl'
      rcases List.mem_append.1 hl' with z | z
      · exact h.2 l' z
      · rw [List.mem_singleton] at z
        rw [z]
        exact hl
end GRM
