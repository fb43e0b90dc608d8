/-! ===== THE FLAT MACHINE: words, environment, heap, judgement ===== -/
/-- words that hold on from a state to every warmed one -/
def wk (w : Cond) : Bool := goodWord w || match w with
  | .fieldLinkNest _ _ _ _ _ _ => true
  | .methodLinkNest _ _ _ _ => true
  | _ => false
abbrev GE : Type := (Nat × vp_A) ⊕ (Nat × List Value)
abbrev GH : Type := List GE
/-- the heap at the law's entry, the script's address, length, ints; classes and slots; classes of arrays; addresses of string constants, of their bytes -/
abbrev EV : Type := Heap × Nat × Nat × (Nat → Int32) × va_G × (Nat → ClassId) × (Nat → Nat) × (Nat → Nat)
def eH (E : EV) : Heap := E.1
def eB (E : EV) : Nat := E.1.size
def eb (E : EV) : Nat := E.2.1
def eL (E : EV) : Nat := E.2.2.1
def eX (E : EV) : Nat → Int32 := E.2.2.2.1
def eD (E : EV) : va_G := E.2.2.2.2.1
def eC (E : EV) : Nat → ClassId := E.2.2.2.2.2.1
def eK (E : EV) : Nat → Nat := E.2.2.2.2.2.2.1
def eV (E : EV) : Nat → Nat := E.2.2.2.2.2.2.2
def eA (E : EV) : Nat → Prop := fun q => eB E ≤ q
/-- an address of the flat heap, of the script, of a string constant -/
def al (E : EV) (k : Nat) : Nat := if k < 1000000 then eB E + k else if k = 1000000 then eb E else if k < 2000001 then eK E (k - 1000001) else eV E (k - 2000001)
def rv (E : EV) (v : Value) : Value := match v with
  | .ref k => .ref (al E k)
  | v => v
def ra (E : EV) (c : vp_A) : vp_A := match c with
  | (n, .inr (.inr (.inr (.inr f)))) => (n, .inr (.inr (.inr (.inr (fun i => (f i).map (al E))))))
  | c => c
def re (E : EV) (e : GE) : va_E := match e with
  | .inl (t, c) => .inl (eC E t, ra E c)
  | .inr (ci, fs) => .inr (ci, fs.map (rv E))
def wd (E : EV) (G : GH) : va_W := G.mapIdx (fun k e => (eB E + k, re E e))
abbrev tyE (E : EV) : List (ClassId × FieldType) := [(eC E 0, .int), (eC E 1, .object "CrustMarket$Rows"), (eC E 2, .array .int)]
theorem al_lt {E : EV} {k : Nat} (h : k < 1000000) : al E k = eB E + k := if_pos h
theorem rv_int (E : EV) (x : Int32) : rv E (.int x) = .int x := rfl
theorem rv_cat (E : EV) (v : Value) : (rv E v).category = v.category := by cases v <;> rfl
theorem wd_get {E : EV} {G : GH} {k : Nat} {e : GE} (h : G[k]? = some e) : (wd E G)[k]? = some (eB E + k, re E e) := by
  simp [wd, List.getElem?_mapIdx, h]
theorem wd_inv {E : EV} {G : GH} {k : Nat} {q : Nat × va_E} (h : (wd E G)[k]? = some q) : ∃ e, G[k]? = some e ∧ q = (eB E + k, re E e) := by
  simp only [wd, List.getElem?_mapIdx] at h
  cases hg : G[k]? with
  | none => rw [hg] at h; simp at h
  | some e => rw [hg] at h; simp at h; exact ⟨e, rfl, h.symm⟩
theorem wd_set {E : EV} {G : GH} {k : Nat} {e : GE} : (wd E G).set k (eB E + k, re E e) = wd E (G.set k e) := by
  apply List.ext_getElem?
  intro i
  simp only [wd, List.getElem?_set, List.getElem?_mapIdx, List.length_mapIdx]
  by_cases h : k = i
  · subst h
    by_cases h2 : k < G.length <;> simp [h2]
  · simp [h]
theorem wd_push {E : EV} {G : GH} {e : GE} : wd E (G ++ [e]) = wd E G ++ [(eB E + G.length, re E e)] := by
  simp [wd, List.mapIdx_append]
theorem wd_len {E : EV} {G : GH} : (wd E G).length = G.length := by simp [wd]
theorem wd_D {E : EV} {G : GH} : va_D (eA E) (wd E G) := by
  refine ⟨fun i j p q hp hq h => ?_, fun k q hq => ?_⟩
  · obtain ⟨e1, -, rfl⟩ := wd_inv hp
    obtain ⟨e2, -, rfl⟩ := wd_inv hq
    simp at h
    exact h
  · obtain ⟨e, -, rfl⟩ := wd_inv hq
    exact Nat.le_add_right _ _
def strS : List (String × Nat × String) := [("CrustMarket$Tokens", 78, "kind whole guests size age edges day left price spoil edge when or and not keeps on feast for want by pays dish "), ("CrustMarketModel", 88, "kind"), ("CrustMarketModel", 125, "keeps"), ("CrustMarketModel", 106, "when"), ("CrustMarketModel", 108, "or"), ("CrustMarketModel", 110, "and"), ("CrustMarketModel", 112, "not"), ("CrustMarketModel", 114, "left"), ("CrustMarketModel", 116, "price"), ("CrustMarketModel", 118, "spoil"), ("CrustMarketModel", 120, "edge"), ("CrustMarketModel", 94, "whole"), ("CrustMarketModel", 96, "guests"), ("CrustMarketModel", 98, "size"), ("CrustMarketModel", 100, "age"), ("CrustMarketModel", 102, "edges"), ("CrustMarketModel", 104, "day"), ("CrustMarketModel", 127, "on"), ("CrustMarketModel", 129, "feast"), ("CrustMarketModel", 131, "for"), ("CrustMarketModel", 133, "want"), ("CrustMarketModel", 135, "by"), ("CrustMarketModel", 137, "pays"), ("CrustMarketModel", 154, "dish")]
def bytS : List (List Int32) := [[107, 105, 110, 100, 32, 119, 104, 111, 108, 101, 32, 103, 117, 101, 115, 116, 115, 32, 115, 105, 122, 101, 32, 97, 103, 101, 32, 101, 100, 103, 101, 115, 32, 100, 97, 121, 32, 108, 101, 102, 116, 32, 112, 114, 105, 99, 101, 32, 115, 112, 111, 105, 108, 32, 101, 100, 103, 101, 32, 119, 104, 101, 110, 32, 111, 114, 32, 97, 110, 100, 32, 110, 111, 116, 32, 107, 101, 101, 112, 115, 32, 111, 110, 32, 102, 101, 97, 115, 116, 32, 102, 111, 114, 32, 119, 97, 110, 116, 32, 98, 121, 32, 112, 97, 121, 115, 32, 100, 105, 115, 104, 32], [107, 105, 110, 100], [107, 101, 101, 112, 115], [119, 104, 101, 110], [111, 114], [97, 110, 100], [110, 111, 116], [108, 101, 102, 116], [112, 114, 105, 99, 101], [115, 112, 111, 105, 108], [101, 100, 103, 101], [119, 104, 111, 108, 101], [103, 117, 101, 115, 116, 115], [115, 105, 122, 101], [97, 103, 101], [101, 100, 103, 101, 115], [100, 97, 121], [111, 110], [102, 101, 97, 115, 116], [102, 111, 114], [119, 97, 110, 116], [98, 121], [112, 97, 121, 115], [100, 105, 115, 104]]
def lenS : List Nat := [112, 4, 5, 4, 2, 3, 3, 4, 5, 5, 4, 5, 6, 4, 3, 5, 3, 2, 5, 3, 4, 2, 4, 4]
abbrev nS : Nat := 24
/-- what of the tables, classes, constants and statics holds in every state of the run -/
def EnvOK (E : EV) (s : State) : Prop :=
  (∀ w ∈ lw_tbl, wk w = true → ∀ a : Array Value, w.before a s = true) ∧ va_K (eD E) vwCl (tyE E) s ∧ (vk_S nS lenS bytS (eK E) (eV E) (eA E) s (eH E) ∧ ∀ j q, strS[j]? = some q → vk_R q.1 q.2.1 q.2.2 (eK E j) s) ∧
  (va_X (eb E) (eL E) (eX E) s (eH E) ∧ eb E < eB E) ∧ (va_Z "java/lang/String" "COMPACT_STRINGS" "Z" (.int 1) (eA E) s (eH E) ∧ (va_Z "jdk/internal/util/Preconditions" "SIOOBE_FORMATTER" "Ljava/util/function/BiFunction;" .null (eA E) s (eH E) ∨ va_Z "jdk/internal/util/Preconditions" "SIOOBE_FORMATTER" "Ljava/util/function/BiFunction;" (.ref (eV E 24)) (eA E) s (eH E))) ∧
  (va_AO "CrustMarket$Rows" s ∧ (Cond.arrayOver (.array .int)).before #[] s = true)
theorem wk_moved {w : Cond} (hk : wk w = true) {s U : State} (hW : s.WarmedH U.vm) (h : ∀ a : Array Value, w.before a s = true) (a : Array Value) : w.before a U = true := by
  unfold wk at hk
  rw [Bool.or_eq_true] at hk
  rcases hk with hk | hk
  · exact word_at hW (good_of_word hk) (h a)
  · split at hk
    · exact va_Nw.use rfl (va_Nw.warmF hW (h #[]))
    · exact va_Nw.use rfl (va_Nw.warmM hW (h #[]))
    · cases hk
theorem ao_moved {ty : FieldType} {u U : State} (hvm : u.vm.Alike U.vm) (h : (Cond.arrayOver (.array ty)).before #[] u = true) : (Cond.arrayOver (.array ty)).before #[] U = true := by
  have h1 : (Cond.arrayOver (.array ty)).before #[] (u.setVm U.vm) = true := by
    rw [Cond.arrayOver_setVmC hvm]
    exact h
  unfold Cond.before Cond.holds at h1 ⊢
  simp only [Cond.value] at h1 ⊢
  exact h1
theorem EnvOK.moved {E : EV} {s U : State} (hW : s.WarmedH U.vm) (h : EnvOK E s) : EnvOK E U := by
  obtain ⟨h1, h2, ⟨h3, h4⟩, ⟨h5, h6⟩, ⟨h7, h8⟩, h9, h10⟩ := h
  exact ⟨fun w hw hk a => wk_moved hk hW (h1 w hw hk) a, va_K.moved hW.alike h2, ⟨h3.moved hW.alike, fun j q hq => (h4 j q hq).warm hW⟩, ⟨h5.moved hW.alike, h6⟩, ⟨h7.moved hW.alike, h8.imp (fun z => z.moved hW.alike) (fun z => z.moved hW.alike)⟩, h9.moved hW.alike, ao_moved hW.alike h10⟩
theorem EnvOK.same {E : EV} {s U : State} (hv : U.vm = s.vm) (h : EnvOK E s) : EnvOK E U := h.moved (by rw [hv]; exact State.WarmedH.refl s)
theorem EnvOK.word {E : EV} {s : State} (h : EnvOK E s) {w : Cond} (hw : w ∈ lw_tbl) (hk : wk w = true) {a : Array Value} : w.before a s = true := h.1 w hw hk a
/-- below the flat heap all is as at the law's entry -/
def LOW (E : EV) (H : Heap) : Prop := eB E ≤ H.size ∧ ∀ q : Nat, q < eB E → H[q]? = (eH E)[q]?
/-- the heap H of a run that began at s: the flat heap G above, nothing else changed -/
def HK (E : EV) (s : State) (H : Heap) (locs : List Loc) (G : GH) : Prop := va_P (eD E) vwCl (wd E G) H ∧ va_S (eA E) s.heap H locs
/-- a method: its class, name, bytes, number of locals -/
abbrev MI : Type := String × String × ByteArray × Nat
/-- what is fixed while a method runs: d frames may still be made -/
def Cx (E : EV) (X : MI) (d : Nat) (p : Program) (R : Room) (s : State) (m : MethodId) (meth : Method) (c : Code) : Prop :=
  p.tables.exec = Jvm.exec ∧ c.code = X.2.2.1 ∧ c.maxLocals = X.2.2.2 ∧ s.vm.findClass X.1 = some m.cls ∧ meth.name = X.2.1 ∧ EnvOK E s ∧ LOW E s.heap ∧ d ≤ R.frames ∧ 50 * d ≤ R.locals
/-- the locals that are known, by place -/
def lvs (E : EV) (L : List (Option Value)) : List (Nat × Value) := (List.range L.length).filterMap fun i => (L[i]?.join).map fun v => (i, rv E v)
theorem lvs_mem {E : EV} {L : List (Option Value)} {i : Nat} {w : Value} : (i, w) ∈ lvs E L ↔ ∃ v, L[i]? = some (some v) ∧ w = rv E v := by
  simp only [lvs, List.mem_filterMap, List.mem_range, Option.map_eq_some_iff]
  constructor
  · rintro ⟨j, hj, v, hv, he⟩
    cases he
    refine ⟨v, ?_, rfl⟩
    cases hq : L[i]? with
    | none => rw [hq] at hv; simp at hv
    | some o => rw [hq] at hv; simp at hv; rw [hv]
  · rintro ⟨v, hv, rfl⟩
    refine ⟨i, (List.getElem?_eq_some_iff.mp hv).1, v, by rw [hv]; rfl, rfl⟩
/-- the instruction that ends a method with this answer -/
def retI (v : Option Value) : Instr := match v with
  | none => .return_
  | some (.int _) => .ireturn
  | some (.long _) => .lreturn
  | _ => .areturn
/-- from here on the method comes to a return with Po; mc, ms: all cells and slots that it may make, ce, sl: made so far -/
def Ex (l : Launch) (E : EV) (X : MI) (d mc ms : Nat) (pc : Nat) (L : List (Option Value)) (st : List Value) (G : GH) (ce sl : Nat) (Po : GH → Option Value → Prop) : Prop :=
  ∀ (p : Program) (e : Env) (R : Room) (s : State) (m : MethodId) (args : Array Value) (below : List Frame) (meth : Method) (c : Code) (H : Heap) (locs : List Loc) (ls : Array Slot) (Q : State → Prop),
    Cx E X d p R s m meth c → mc ≤ R.cells → ms ≤ R.slots → lv_has ls X.2.2.2 (lvs E L) → HK E s H locs G → s.heap.size + ce = eB E + G.length →
    (∀ (pc' : Nat) (ls' : Array Slot) (H' : Heap) (locs' : List Loc) (ce' sl' : Nat) (G' : GH) (v : Option Value), decode X.2.2.1 pc' = .ok (retI v, 1) → HK E s H' locs' G' → s.heap.size + ce' = eB E + G'.length → ce' = mc → sl' ≤ ms → Po G' v → W p l e R s m args below meth c H' locs' ce' sl' Q (F0 m pc' ls' ((v.map (rv E)).toList))) →
    W p l e R s m args below meth c H locs ce sl Q (F0 m pc ls (st.map (rv E)))
