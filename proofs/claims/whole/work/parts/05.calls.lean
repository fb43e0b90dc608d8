/-! ===== CONTRACTS AND CALLS ===== -/
def rmk (d mc ms : Nat) : Room := { frames := d, cells := mc, slots := ms, locals := 50 * d }
/-- a method's contract over the flat heap -/
def PreG (E : EV) (vs : List Value) (G : GH) : Array Value → State → Prop := fun a U => a = (vs.map (rv E)).toArray ∧ EnvOK E U ∧ LOW E U.heap ∧ va_P (eD E) vwCl (wd E G) U.heap ∧ U.heap.size = eB E + G.length
def PostG (E : EV) (Po : GH → Option Value → Prop) : Array Value → State → Outcome → State → Prop := fun _ st o t => ∃ (G' : GH) (v : Option Value), o = .returned (v.map (rv E)) ∧ va_P (eD E) vwCl (wd E G') t.heap ∧ (st.heap.size ≤ t.heap.size ∧ ∀ q : Nat, q < eB E → t.heap[q]? = st.heap[q]?) ∧ t.heap.size = eB E + G'.length ∧ Po G' v
def Run (l : Launch) (E : EV) (y : MethodName) (cc : ByteArray) (nL : Nat) (ret : Option FieldType) (d mc ms : Nat) (vs : List Value) (G : GH) (Po : GH → Option Value → Prop) : Prop :=
  Met l y [.code y cc nL ret] (rmk d mc ms) (PreG E vs G) (PostG E Po) mc ms (eA E)
def entL (vs : List Value) : List (Option Value) := vs.flatMap fun v => if v.category = 2 then [some v, none] else [some v]
def ent (vs : List Value) (nL : Nat) : List (Option Value) := entL vs ++ List.replicate (nL - (entL vs).length) none
theorem entL_args {E : EV} : ∀ (vs : List Value) (k i : Nat) (v : Value), (entL vs)[i]? = some (some v) → (k + i, rv E v) ∈ lv_args k (vs.map (rv E))
  | [], _, _, _, h => by simp [entL] at h
  | w :: vs, k, i, v, h => by
    have e : entL (w :: vs) = (if w.category = 2 then [some w, none] else [some w]) ++ entL vs := by simp [entL]
    rw [e] at h
    simp only [List.map_cons, lv_args, rv_cat]
    by_cases hc : w.category = 2
    · rw [if_pos hc] at h ⊢
      match i, h with
      | 0, h => simp at h; subst h; exact List.mem_cons_self
      | 1, h => simp at h
      | i + 2, h =>
        have h' : (entL vs)[i]? = some (some v) := h
        have := entL_args (E := E) vs (k + 2) i v h'
        rw [show k + (i + 2) = k + 2 + i by omega]
        exact List.mem_cons_of_mem _ this
    · rw [if_neg hc] at h ⊢
      match i, h with
      | 0, h => simp at h; subst h; exact List.mem_cons_self
      | i + 1, h =>
        have h' : (entL vs)[i]? = some (some v) := h
        have := entL_args (E := E) vs (k + 1) i v h'
        rw [show k + (i + 1) = k + 1 + i by omega]
        exact List.mem_cons_of_mem _ this
theorem ent_has {E : EV} {ls : Array Slot} {nL : Nat} {vs : List Value} (h : lv_has ls nL (lv_args 0 (vs.map (rv E)))) : lv_has ls nL (lvs E (ent vs nL)) := by
  refine ⟨h.1, h.2.1, fun q hq => h.2.2 q ?_⟩
  obtain ⟨j, w⟩ := q
  obtain ⟨v, hv, rfl⟩ := lvs_mem.mp hq
  unfold ent at hv
  by_cases hj : j < (entL vs).length
  · rw [List.getElem?_append_left hj] at hv
    have := entL_args (E := E) vs 0 j v hv
    rwa [Nat.zero_add] at this
  · rw [List.getElem?_append_right (by omega), List.getElem?_replicate] at hv
    split at hv <;> simp at hv
theorem slLen {E : EV} (vs : List Value) : (lg_sl (vs.map (rv E))).length = (entL vs).length := by
  induction vs with
  | nil => rfl
  | cons w vs ih =>
    simp only [lg_sl, entL, List.map_cons, List.flatMap_cons, List.length_append, rv_cat] at ih ⊢
    rw [ih]
    split <;> rfl
theorem w_size {p : Program} {l : Launch} {e : Env} {R : Room} {s : State} {m : MethodId} {args : Array Value} {below : List Frame} {meth : Method} {c : Code} {H : Heap} {locs : List Loc} {cells slots : Nat} {Q : State → Prop} {g : JFrame} (k : H.size ≤ s.heap.size + cells → W p l e R s m args below meth c H locs cells slots Q g) : W p l e R s m args below meth c H locs cells slots Q g := by
  intro T hT X
  exact k (by have := X.same.2.2.1; rw [← hT]; exact this) T hT X
theorem HK.size {E : EV} {s : State} {H : Heap} {locs : List Loc} {G : GH} (h : HK E s H locs G) (hl : LOW E s.heap) : eB E + G.length ≤ H.size := by
  rcases Nat.eq_zero_or_pos G.length with h0 | h0
  · rw [h0]
    exact Nat.le_trans hl.1 h.2.1
  · have hg : G[G.length - 1]? = some (G[G.length - 1]'(by omega)) := List.getElem?_eq_getElem (by omega)
    have := (h.1 _ _ (wd_get (E := E) hg)).lt
    simp at this
    omega
theorem HK.low {E : EV} {s : State} {H : Heap} {locs : List Loc} {G : GH} (h : HK E s H locs G) (hl : LOW E s.heap) : LOW E H := by
  refine ⟨Nat.le_trans hl.1 h.2.1, fun q hq => ?_⟩
  rw [h.2.2.1 q (Nat.lt_of_lt_of_le hq hl.1) (Nat.not_le.mpr hq)]
  exact hl.2 q hq
def retOK (ret : Option FieldType) (v : Option Value) : Prop := match v with
  | none => ret = none
  | some (.int x) => ∃ ty, ret = some ty ∧ narrow ty (.int x) = .int x
  | some (.long _) => ret = some .long
  | some (.ref _) => ∃ n, ret = some (.object n)
  | _ => False
theorem Run.of {l : Launch} {E : EV} {y : MethodName} {cc : ByteArray} {nL : Nat} {ret : Option FieldType} {d mc ms : Nat} {vs : List Value} {G : GH} {Po : GH → Option Value → Prop} (hy : plainName y.cls = true) (hvs : (entL vs).length ≤ nL) (hro : ∀ G v, Po G v → retOK ret v) (h : Ex l E (y.cls, y.name, cc, nL) d mc ms 0 (ent vs nL) [] G 0 0 Po) : Run l E y cc nL ret d mc ms vs G Po := by
  refine Met.ofW (cc := cc) (maxL := nL) (ret := ret) hy rfl ?_
  intro p e s m args below meth c s₁ B hml hv
  obtain ⟨rfl, hen, hlow, hP, hsz⟩ := hv
  have hx := B.exec
  have hb := B.bytes
  have hr := B.returns
  have hown : s.vm.findClass y.cls = some m.cls := findClass_of_methodNamed B.named
  have hlocks := B.notSynchronized
  have hl := lv_entry (vs.map (rv E)) (n := nL) (by rw [slLen]; exact hvs)
  rw [lg_entry_eq]
  generalize (lg_sl (vs.map (rv E)) ++ List.replicate (nL - (lg_sl (vs.map (rv E))).length) Slot.unset).toArray = ls at hl ⊢
  have hl2 := ent_has hl
  refine h p e (rmk d mc ms) s m _ below meth c s.heap [] ls _ ⟨hx, hb, hml, hown, (name_of_methodNamed B.named B.method).1, hen, hlow, Nat.le_refl _, Nat.le_refl _⟩ (Nat.le_refl _) (Nat.le_refl _) hl2 ⟨hP, va_S.rf⟩ (by omega) ?_
  intro pc' ls' H' locs' ce' sl' G' v hd hH hz hce hsl hpo
  have hret := hro G' v hpo
  subst hce
  refine w_size fun hle => ?_
  have hle2 := hH.size hlow
  have hQ : ∀ t : State, t.heap = H' → s.WarmedH t.vm → PostG E Po (vs.map (rv E)).toArray s (.returned (v.map (rv E))) t := by
    intro t ht hW
    refine ⟨G', v, rfl, by rw [ht]; exact hH.1, ⟨by rw [ht]; exact hH.2.1, fun q hq => ?_⟩, by rw [ht]; omega, hpo⟩
    rw [ht]
    exact hH.2.2.1 q (Nat.lt_of_lt_of_le hq hlow.1) (Nat.not_le.mpr hq)
  refine W.widen (k := ce') (n := ms) (Nat.le_refl _) hsl ?_
  cases v with
  | none => exact W.vret hx hb (hr.trans hret) hQ hH.2.2.2 hd
  | some w =>
    cases w with
    | int x =>
      obtain ⟨ty, h1, h2⟩ := hret
      exact W.zret hx hb (hr.trans h1) h2 hQ hH.2.2.2 hd
    | long x => exact W.lret hx hb (hr.trans hret) hQ hH.2.2.2 hd
    | ref a =>
      obtain ⟨n, h1⟩ := hret
      exact W.aret hx hb (hr.trans h1) (Or.inl ⟨n, rfl⟩) (Or.inr ⟨_, rfl⟩) hQ hH.2.2.2 hd
    | _ => exact hret.elim
/-- weaker ends -/
theorem Ex.mono {l : Launch} {E : EV} {X : MI} {d mc ms : Nat} {pc : Nat} {L : List (Option Value)} {st : List Value} {G : GH} {ce sl : Nat} {Po Po' : GH → Option Value → Prop} (hp : ∀ G v, Po G v → Po' G v) (h : Ex l E X d mc ms pc L st G ce sl Po) : Ex l E X d mc ms pc L st G ce sl Po' := by
  intro p e R s m args below meth c H locs ls Q C h1 h2 hlv hH hz hq
  exact h p e R s m args below meth c H locs ls Q C h1 h2 hlv hH hz (fun pc' ls' H' locs' ce' sl' G' v a1 a2 a3 a4 a5 a6 => hq pc' ls' H' locs' ce' sl' G' v a1 a2 a3 a4 a5 (hp _ _ a6))
/-- the words of a call: by name, own or nest mate; its code; its class -/
def CL (own : String) (index : Nat) (y : MethodName) (cc : ByteArray) (nL : Nat) (ret : Option FieldType) (n : Nat) : Prop :=
  ((Cond.methodLink own index y ∈ lw_tbl) ∨ ∃ host, Cond.methodLinkNest own index y host ∈ lw_tbl) ∧ (Cond.code y cc nL ret ∈ lw_tbl) ∧ (Cond.initialized y.cls ∈ lw_tbl) ∧
  (y.cls ≠ "java/lang/invoke/MethodHandle" ∧ y.cls ≠ "java/lang/invoke/VarHandle" ∧ (parseMethodDescriptor y.desc).map (fun d => d.parameters.length) = some n) ∧ nL ≤ 31
theorem good_code {y : MethodName} {cc : ByteArray} {nL : Nat} {ret : Option FieldType} {args : Array Value} {s : State} {E : EV} (h : EnvOK E s) (hw : Cond.code y cc nL ret ∈ lw_tbl) : GoodIn TK [.code y cc nL ret] := by
  intro w hw2
  have e := List.mem_singleton.mp hw2
  subst e
  exact ⟨List.mem_filter.mpr ⟨hw, rfl⟩, Or.inl rfl⟩
theorem PreG.blind {E : EV} {vs : List Value} {G : GH} : FrameBlind (PreG E vs G) := by
  intro a U g mk h
  obtain ⟨h1, h2, h3, h4, h5⟩ := h
  exact ⟨h1, EnvOK.same (s := U) (U := U.calling g mk a) rfl h2, h3, h4, h5⟩
section RC
variable {l : Launch} {E : EV} {X : MI} {d mc ms : Nat} {pc : Nat} {L : List (Option Value)} {st : List Value} {G : GH} {ce sl : Nat} {Po : GH → Option Value → Prop}
theorem call_go {p : Program} {e : Env} {R : Room} {s : State} {m : MethodId} {args : Array Value} {below : List Frame} {meth : Method} {c : Code} {H : Heap} {locs : List Loc} {ls : Array Slot} {Q : State → Prop} {mc' ms' : Nat} {stk : List Value} {Po' : GH → Option Value → Prop} {aa : Array Value}
    (C : Cx E X d p R s m meth c) (h1 : mc ≤ R.cells) (h2 : ms ≤ R.slots) (hlv : lv_has ls X.2.2.2 (lvs E L)) (hH : HK E s H locs G) (hz : s.heap.size + ce = eB E + G.length) (hHs : H.size = eB E + G.length)
    (hq : ∀ (pc' : Nat) (ls' : Array Slot) (H' : Heap) (locs' : List Loc) (ce' sl' : Nat) (G' : GH) (v : Option Value), decode X.2.2.1 pc' = .ok (retI v, 1) → HK E s H' locs' G' → s.heap.size + ce' = eB E + G'.length → ce' = mc → sl' ≤ ms → Po G' v → W p l e R s m args below meth c H' locs' ce' sl' Q (F0 m pc' ls' ((v.map (rv E)).toList)))
    (hr : CallRun p l e R s m args below meth c H locs ce sl mc' ms' (F0 m pc ls stk) (st.map (rv E)) (PostG E Po' aa) (eA E))
    (hg : ∀ G' v, Po' G' v → G'.length = G.length + mc')
    (kk : ∀ (G' : GH) (v : Option Value), Po' G' v → Ex l E X d mc ms (pc + 3) L (v.toList ++ st) G' (ce + mc') (sl + ms') Po) : W p l e R s m args below meth c H locs ce sl Q (F0 m pc ls stk) := by
  intro T hT Xs
  obtain ⟨v, st₀, t, T', L', h0, X', hL, e1, ⟨G', v', hv, hP, ⟨hs1, hs2⟩, hsz, hpo⟩, stp⟩ := hr T hT Xs
  cases hv
  rw [h0] at hs1 hs2
  have hS : va_S (eA E) s.heap T'.heap (locs ++ L') := by
    refine ⟨Nat.le_trans hH.2.1 (by rw [e1]; exact hs1), fun q hq1 hq2 => ?_, fun q hq1 => ?_⟩
    · have hlt : q < eB E := Nat.not_le.mp hq2
      rw [e1, hs2 q hlt]
      exact hH.2.2.1 q hq1 hq2
    · rcases List.mem_append.mp hq1 with h | h
      · exact hH.2.2.2 q h
      · exact hL q h
  have hlen := hg G' v' hpo
  have K := kk G' v' hpo p e R s m args below meth c T'.heap (locs ++ L') ls Q C h1 h2 hlv ⟨by rw [e1]; exact hP, hS⟩ (by omega) hq
  obtain ⟨t2, a1, b1⟩ := K T' rfl X'
  refine ⟨t2, stp t2 ?_, b1⟩
  have e3 : (v'.toList ++ st).map (rv E) = (v'.map (rv E)).toList ++ st.map (rv E) := by
    cases v' <;> simp
  rw [e3] at a1
  exact a1
theorem pre_ok {p : Program} {R : Room} {s : State} {m : MethodId} {meth : Method} {c : Code} {H : Heap} {locs : List Loc} {vs : List Value} (C : Cx E X d p R s m meth c) (hH : HK E s H locs G) (hHs : H.size = eB E + G.length) : ∀ U : State, U.heap = H → s.WarmedH U.vm → PreG E vs G (vs.map (rv E)).toArray U := by
  intro U hU hW
  refine ⟨rfl, C.2.2.2.2.2.1.moved hW, ?_, ?_, ?_⟩
  · rw [hU]; exact hH.low C.2.2.2.2.2.2.1
  · rw [hU]; exact hH.1
  · rw [hU]; exact hHs
theorem cat_map {st : List Value} : ((st.map (rv E)).map fun v => v.category).sum = (st.map fun v => v.category).sum := by
  rw [List.map_map]
  congr 1
  apply List.map_congr_left
  intro v _
  exact rv_cat E v
theorem ex_callV {index : Nat} {y : MethodName} {cc' : ByteArray} {nL' : Nat} {ret : Option FieldType} {d' mc' ms' ci b : Nat} {fs As stk : List Value} {Po' : GH → Option Value → Prop} (hd : decode X.2.2.1 pc = .ok (.invokevirtual index, 3)) (hc : CL X.1 index y cc' nL' ret As.length) (hi : Cond.instanceMethod y ∈ lw_tbl ∧ Cond.selects y.cls y y ∈ lw_tbl) (hci : ci < 12 ∧ (cN ci).1 = y.cls) (hb : b < 1000000) (hG : G[b]? = some (.inr (ci, fs))) (hst : stk = As.reverse ++ .ref b :: st) (hcat : (st.map fun v => v.category).sum ≤ 8) (hdd : d' + 1 ≤ d) (hm : ce + mc' ≤ mc ∧ sl + ms' ≤ ms)
    (hrun : Run l E y cc' nL' ret d' mc' ms' (.ref b :: As) G Po') (hg : ∀ G' v, Po' G' v → G'.length = G.length + mc') (kk : ∀ (G' : GH) (v : Option Value), Po' G' v → Ex l E X d mc ms (pc + 3) L (v.toList ++ st) G' (ce + mc') (sl + ms') Po) : Ex l E X d mc ms pc L stk G ce sl Po := by
  intro p e R s m args below meth c H locs ls Q C h1 h2 hlv hH hz hq
  refine w_size fun hle => ?_
  have hHs : H.size = eB E + G.length := by have := hH.size C.2.2.2.2.2.2.1; omega
  have hen := C.2.2.2.2.2.1
  obtain ⟨hl, hcode, hini, hdd2, hnL⟩ := hc
  obtain ⟨c1, -⟩ := cOK_all ci hci.1
  have hrec := va_recv hen.2.1 hH.1 c1 (wd_get (E := E) hG)
  rw [hci.2] at hrec
  have hfr := C.2.2.2.2.2.2.2
  have hS : CallFix p m c X.2.2.1 X.2.2.2 s args TK X.1 := ⟨C.1, C.2.1, C.2.2.1, C.2.2.2.1, hen.hts⟩
  have hR : (rmk d' mc' ms').frames + 1 ≤ R.frames ∧ 8 + (nL' + 11) + (rmk d' mc' ms').locals ≤ R.locals := ⟨by show d' + 1 ≤ _; omega, by show 8 + (nL' + 11) + 50 * d' ≤ _; omega⟩
  have hpre := pre_ok (vs := .ref b :: As) C hH hHs
  have hbv : rv E (.ref b) = .ref (eB E + b) := by rw [← al_lt hb]; rfl
  rw [List.map_cons, hbv] at hpre
  subst hst
  have hstk : (As.reverse ++ Value.ref b :: st).map (rv E) = (As.map (rv E)).reverse ++ .ref (eB E + b) :: st.map (rv E) := by simp [hbv]
  rw [hstk]
  rcases hl with hl | ⟨host, hl⟩
  · have cw : CallW R s args X.1 y.cls index y cc' nL' ret [.code y cc' nL' ret] (rmk d' mc' ms') mc' ms' As.length := ⟨callB_of As.length hen.hts (good_code (args := args) hen hcode) rfl rfl rfl (hen.word hini rfl) (hen.word hl rfl) hdd2 hR, hen.word hi.1 rfl, hen.word hi.2 rfl⟩
    exact call_go C h1 h2 hlv hH hz hHs hq (W.runV hS hrun cw ⟨PreG.blind, hrec, hpre⟩ rfl (by simp) hlv.1 rfl (lv_room (by rw [cat_map]; exact hcat)) hd ⟨Nat.le_trans hm.1 h1, Nat.le_trans hm.2 h2⟩) hg kk
  · have cw := va_cnB (R := R) (host := host) (own := X.1) (index := index) As.length (hen.hts (args := args)) (good_code (args := args) hen hcode) rfl (rm := rmk d' mc' ms') rfl rfl (hen.word hl rfl) (hen.word hini rfl) hdd2 hR
    exact call_go C h1 h2 hlv hH hz hHs hq (va_Run.run (va_runVN hS hrun ⟨cw, hen.word hi.1 rfl, hen.word hi.2 rfl⟩ ⟨PreG.blind, hrec, hpre⟩ rfl (by simp) hlv.1 rfl (lv_room (by rw [cat_map]; exact hcat)) hd ⟨Nat.le_trans hm.1 h1, Nat.le_trans hm.2 h2⟩)) hg kk
theorem ex_callS {index : Nat} {y : MethodName} {cc' : ByteArray} {nL' : Nat} {ret : Option FieldType} {d' mc' ms' : Nat} {As stk : List Value} {Po' : GH → Option Value → Prop} (hd : decode X.2.2.1 pc = .ok (.invokestatic index, 3)) (hc : CL X.1 index y cc' nL' ret As.length) (hi : Cond.static y ∈ lw_tbl) (hst : stk = As.reverse ++ st) (hcat : (st.map fun v => v.category).sum ≤ 8) (hdd : d' + 1 ≤ d) (hm : ce + mc' ≤ mc ∧ sl + ms' ≤ ms)
    (hrun : Run l E y cc' nL' ret d' mc' ms' As G Po') (hg : ∀ G' v, Po' G' v → G'.length = G.length + mc') (kk : ∀ (G' : GH) (v : Option Value), Po' G' v → Ex l E X d mc ms (pc + 3) L (v.toList ++ st) G' (ce + mc') (sl + ms') Po) : Ex l E X d mc ms pc L stk G ce sl Po := by
  intro p e R s m args below meth c H locs ls Q C h1 h2 hlv hH hz hq
  refine w_size fun hle => ?_
  have hHs : H.size = eB E + G.length := by have := hH.size C.2.2.2.2.2.2.1; omega
  have hen := C.2.2.2.2.2.1
  obtain ⟨hl, hcode, hini, hdd2, hnL⟩ := hc
  have hfr := C.2.2.2.2.2.2.2
  have hS : CallFix p m c X.2.2.1 X.2.2.2 s args TK X.1 := ⟨C.1, C.2.1, C.2.2.1, C.2.2.2.1, hen.hts⟩
  have hR : (rmk d' mc' ms').frames + 1 ≤ R.frames ∧ 8 + (nL' + 11) + (rmk d' mc' ms').locals ≤ R.locals := ⟨by show d' + 1 ≤ _; omega, by show 8 + (nL' + 11) + 50 * d' ≤ _; omega⟩
  have hpre := pre_ok (vs := As) C hH hHs
  subst hst
  have hstk : (As.reverse ++ st).map (rv E) = (As.map (rv E)).reverse ++ st.map (rv E) := by simp
  rw [hstk]
  rcases hl with hl | ⟨host, hl⟩
  · exact call_go C h1 h2 hlv hH hz hHs hq (W.runS hS hrun ⟨callB_of As.length hen.hts (good_code (args := args) hen hcode) rfl rfl rfl (hen.word hini rfl) (hen.word hl rfl) hdd2 hR, hen.word hi rfl⟩ ⟨PreG.blind, hpre⟩ rfl (by simp) hlv.1 rfl (lv_room (by rw [cat_map]; exact hcat)) hd ⟨Nat.le_trans hm.1 h1, Nat.le_trans hm.2 h2⟩) hg kk
  · have cw := va_cnB (R := R) (host := host) (own := X.1) (index := index) As.length (hen.hts (args := args)) (good_code (args := args) hen hcode) rfl (rm := rmk d' mc' ms') rfl rfl (hen.word hl rfl) (hen.word hini rfl) hdd2 hR
    exact call_go C h1 h2 hlv hH hz hHs hq (va_Run.run (va_runSN hS hrun ⟨cw, hen.word hi rfl, trivial⟩ ⟨PreG.blind, hpre⟩ rfl (by simp) hlv.1 rfl (lv_room (by rw [cat_map]; exact hcat)) hd ⟨Nat.le_trans hm.1 h1, Nat.le_trans hm.2 h2⟩)) hg kk
theorem ex_callI {index : Nat} {y : MethodName} {cc' : ByteArray} {nL' : Nat} {d' mc' ms' b : Nat} {As stk : List Value} {Po' : GH → Option Value → Prop} (hd : decode X.2.2.1 pc = .ok (.invokespecial index, 3)) (hc : CL X.1 index y cc' nL' none As.length) (hi : Cond.instanceMethod y ∈ lw_tbl ∧ y.name = "<init>") (hb : b < 1000000) (hst : stk = As.reverse ++ .ref b :: st) (hcat : (st.map fun v => v.category).sum ≤ 8) (hdd : d' + 1 ≤ d) (hm : ce + mc' ≤ mc ∧ sl + ms' ≤ ms)
    (hrun : Run l E y cc' nL' none d' mc' ms' (.ref b :: As) G Po') (hg : ∀ G' v, Po' G' v → G'.length = G.length + mc') (kk : ∀ (G' : GH) (v : Option Value), Po' G' v → Ex l E X d mc ms (pc + 3) L (v.toList ++ st) G' (ce + mc') (sl + ms') Po) : Ex l E X d mc ms pc L stk G ce sl Po := by
  intro p e R s m args below meth c H locs ls Q C h1 h2 hlv hH hz hq
  refine w_size fun hle => ?_
  have hHs : H.size = eB E + G.length := by have := hH.size C.2.2.2.2.2.2.1; omega
  have hen := C.2.2.2.2.2.1
  obtain ⟨hl, hcode, hini, hdd2, hnL⟩ := hc
  have hfr := C.2.2.2.2.2.2.2
  have hS : CallFix p m c X.2.2.1 X.2.2.2 s args TK X.1 := ⟨C.1, C.2.1, C.2.2.1, C.2.2.2.1, hen.hts⟩
  have hR : (rmk d' mc' ms').frames + 1 ≤ R.frames ∧ 8 + (nL' + 11) + (rmk d' mc' ms').locals ≤ R.locals := ⟨by show d' + 1 ≤ _; omega, by show 8 + (nL' + 11) + 50 * d' ≤ _; omega⟩
  have hpre := pre_ok (vs := .ref b :: As) C hH hHs
  have hbv : rv E (.ref b) = .ref (eB E + b) := by rw [← al_lt hb]; rfl
  rw [List.map_cons, hbv] at hpre
  subst hst
  have hstk : (As.reverse ++ Value.ref b :: st).map (rv E) = (As.map (rv E)).reverse ++ .ref (eB E + b) :: st.map (rv E) := by simp [hbv]
  rw [hstk]
  rcases hl with hl | ⟨host, hl⟩
  · exact call_go C h1 h2 hlv hH hz hHs hq (W.runI hS hrun ⟨callB_of As.length hen.hts (good_code (args := args) hen hcode) rfl rfl rfl (hen.word hini rfl) (hen.word hl rfl) hdd2 hR, hi.2, hen.word hi.1 rfl⟩ ⟨PreG.blind, hpre⟩ rfl (by simp) hlv.1 rfl (lv_room (by rw [cat_map]; exact hcat)) hd ⟨Nat.le_trans hm.1 h1, Nat.le_trans hm.2 h2⟩) hg kk
  · have cw := va_cnB (R := R) (host := host) (own := X.1) (index := index) As.length (hen.hts (args := args)) (good_code (args := args) hen hcode) rfl (rm := rmk d' mc' ms') rfl rfl (hen.word hl rfl) (hen.word hini rfl) hdd2 hR
    exact call_go C h1 h2 hlv hH hz hHs hq (va_Run.run (va_runIN hS hrun ⟨cw, hi.2, hen.word hi.1 rfl⟩ ⟨PreG.blind, hpre⟩ rfl (by simp) hlv.1 rfl (lv_room (by rw [cat_map]; exact hcat)) hd ⟨Nat.le_trans hm.1 h1, Nat.le_trans hm.2 h2⟩)) hg kk
end RC
