/-! ===== ROWS THAT MAKE CELLS (constructors) ===== -/
theorem nn_outer (c : ClassId) (N h0 : Nat) : ∀ i : Nat, Jvm.Free.Multi.outerC c N h0 i = arrV c N (fun j => va_rf (if j < i then some (h0 + 1 + j) else none))
  | 0 => by
    show ({ cls := c, slots := Array.replicate N .null, vm := .none } : Cell) = _
    rw [arrV_new]
    refine congrArg (arrV c N) (funext fun j => ?_)
    simp [va_rf]
  | i + 1 => by
    show (Jvm.Free.Multi.outerC c N h0 i).setSlot i (.ref (h0 + 1 + i)) = _
    rw [nn_outer c N h0 i, arrV_store]
    refine congrArg (arrV c N) (funext fun j => ?_)
    by_cases e : j = i
    · subst e
      simp [updV, va_rf]
    · by_cases h : j < i
      · simp [updV, e, h, Nat.lt_succ_of_lt h]
      · simp [updV, e, h, show ¬ j < i + 1 by omega]
theorem HK.apps {E : EV} {s : State} {H H1 : Heap} {locs : List Loc} {G es : GH} (h : HK E s H locs G) (z1 : H.size ≤ H1.size) (o1 : ∀ q, q < H.size → H1[q]? = H[q]?) (he : ∀ i e, es[i]? = some e → va_at (eD E) vwCl (eB E + (G.length + i), re E e) H1) : HK E s H1 locs (G ++ es) := by
  refine ⟨fun k q hq => ?_, Nat.le_trans h.2.1 z1, fun x h1 h2 => (o1 x (Nat.lt_of_lt_of_le h1 h.2.1)).trans (h.2.2.1 x h1 h2), h.2.2.2⟩
  obtain ⟨e, hg, rfl⟩ := wd_inv hq
  by_cases hk : k < G.length
  · rw [List.getElem?_append_left hk] at hg
    have h0 := h.1 k _ (wd_get (E := E) hg)
    exact h0.kept (o1 _ h0.lt)
  · rw [List.getElem?_append_right (by omega)] at hg
    have := he _ _ hg
    rwa [show G.length + (k - G.length) = k by omega] at this
section RN
variable {l : Launch} {E : EV} {X : MI} {d mc ms : Nat} {pc : Nat} {L : List (Option Value)} {st : List Value} {G : GH} {ce sl : Nat} {Po : GH → Option Value → Prop}
theorem ex_new {index : Nat} (ci : Nat) (fs : List Value) (hd : decode X.2.2.1 pc = .ok (.new index, 3)) (hci : ci < 12) (hw : Cond.classLink X.1 index (cN ci).1 ∈ lw_tbl) (hi : Cond.instantiable (cN ci).1 (cN ci).2.2 ∈ lw_tbl) (hini : Cond.initialized (cN ci).1 ∈ lw_tbl) (hfs : ∀ j, j < (cN ci).2.2 → defaultValue (tyC ci j) = vp_V fs j) (hrv : ∀ E : EV, fs.map (rv E) = fs) (hlt : G.length < 1000000) (hm : ce + 1 ≤ mc ∧ sl + (cN ci).2.2 ≤ ms) (kk : Ex l E X d mc ms (pc + 3) L (.ref G.length :: st) (G ++ [.inr (ci, fs)]) (ce + 1) (sl + (cN ci).2.2) Po) : Ex l E X d mc ms pc L st G ce sl Po := by
  intro p e R s m args below meth c H locs ls Q C h1 h2 hlv hH hz hq
  refine w_size fun hle => ?_
  have hHs : H.size = eB E + G.length := by have := hH.size C.2.2.2.2.2.2.1; omega
  obtain ⟨c1, c2, c3, c4⟩ := cOK_all ci hci
  have hen := C.2.2.2.2.2.1
  have hKn := hen.2.1.1 ci _ c1
  refine W.newcK C.1 C.2.1 C.2.2.2.1 (hen.word hw rfl) (hen.word hi rfl) (hen.word hini rfl) rfl hd (by omega) (by omega) hKn.2.1 rfl fun H1 kC hkC e1 z1 o1 => ?_
  have K := kk p e R s m args below meth c H1 locs ls Q C h1 h2 hlv (hH.apps (by omega) o1 (fun i e he => ?_)) (by rw [List.length_append, List.length_singleton]; omega) hq
  · simp only [List.map_cons, rv, al_lt hlt] at K
    rw [← hHs] at K
    exact K
  · have hi0 : i < 1 := (List.getElem?_eq_some_iff.mp he).1
    rw [show i = 0 by omega] at he ⊢
    cases he
    rw [Nat.add_zero, ← hHs]
    refine ⟨_, c1, ?_⟩
    show t_OB _ _ _ _ _ (vp_V (fs.map (rv E)))
    rw [hrv E]
    exact (u_born (tyC ci) (hen.hts (args := args)) c2 hKn hkC e1 c3).to hfs
theorem ex_newa {n : Int32} (N : Nat) (hd : decode X.2.2.1 pc = .ok (.newarray .int, 2)) (hn : ¬ n < 0) (hN : n.toNatClampNeg = N) (hb : N * 4 ≤ 536870912) (hlt : G.length < 1000000) (hm : ce + 1 ≤ mc ∧ sl + N ≤ ms) (hw : Cond.arrayClass .int ∈ lw_tbl) (kk : Ex l E X d mc ms (pc + 2) L (.ref G.length :: st) (G ++ [.inl (0, N, .inl (fun _ => 0))]) (ce + 1) (sl + N) Po) : Ex l E X d mc ms pc L (.int n :: st) G ce sl Po := by
  intro p e R s m args below meth c H locs ls Q C h1 h2 hlv hH hz hq
  refine w_size fun hle => ?_
  have hHs : H.size = eB E + G.length := by have := hH.size C.2.2.2.2.2.2.1; omega
  have hen := C.2.2.2.2.2.1
  refine va_newaK (atype := .int) C.1 C.2.1 (hen.word hw rfl) rfl hd rfl hn hN hb (by omega) (by omega) rfl fun H1 cA e1 z1 o1 hAr hNm => ?_
  have hcA : cA = eC E 0 := by
    have h3 := (hen.2.1.2 0 _ rfl).2
    exact Option.some.inj (hNm.symm.trans h3)
  subst hcA
  have K := kk p e R s m args below meth c H1 locs ls Q C h1 h2 hlv (hH.apps (by omega) o1 (fun i e he => ?_)) (by rw [List.length_append, List.length_singleton]; omega) hq
  · simp only [List.map_cons, rv, al_lt hlt] at K
    rw [← hHs] at K
    exact K
  · have hi0 : i < 1 := (List.getElem?_eq_some_iff.mp he).1
    rw [show i = 0 by omega] at he ⊢
    cases he
    rw [Nat.add_zero, ← hHs]
    exact e1
theorem ex_anew {index : Nat} {n : Int32} (N : Nat) (hd : decode X.2.2.1 pc = .ok (.anewarray index, 3)) (hcl : Cond.classLink X.1 index "CrustMarket$Rows" ∈ lw_tbl) (hn : ¬ n < 0) (hN : n.toNatClampNeg = N) (hb : N * 4 ≤ 536870912) (hlt : G.length < 1000000) (hm : ce + 1 ≤ mc ∧ sl + N ≤ ms) (kk : Ex l E X d mc ms (pc + 3) L (.ref G.length :: st) (G ++ [.inl (1, N, .inr (.inr (.inr (.inr (fun _ => none)))))]) (ce + 1) (sl + N) Po) : Ex l E X d mc ms pc L (.int n :: st) G ce sl Po := by
  intro p e R s m args below meth c H locs ls Q C h1 h2 hlv hH hz hq
  refine w_size fun hle => ?_
  have hHs : H.size = eB E + G.length := by have := hH.size C.2.2.2.2.2.2.1; omega
  have hen := C.2.2.2.2.2.1
  subst hN
  refine W.anew C.1 C.2.1 C.2.2.2.1 (hen.word hcl rfl) (va_AO.use hen.2.2.2.2.2.1) rfl hd rfl hn hb (by omega) (by omega) fun cA kA comp f1 f2 f3 f4 => ?_
  generalize hH1 : H.push ({ cls := cA, slots := Array.replicate n.toNatClampNeg .null, vm := .none } : Cell) = H1
  have z1 : H1.size = H.size + 1 := by rw [← hH1, Array.size_push]
  have e1 : H1[H.size]? = some (arrV cA n.toNatClampNeg (fun _ => .null)) := by rw [← hH1, Array.getElem?_push_size, ← arrV_new]
  have o1 : ∀ q : Nat, q < H.size → H1[q]? = H[q]? := fun q hq => by rw [← hH1, Array.getElem?_push, if_neg (Nat.ne_of_lt hq)]
  have hcA : cA = eC E 1 := by
    obtain ⟨_, _, _, _, _, h3⟩ := (hen.2.1.2 1 _ rfl).2
    exact Option.some.inj (f1.symm.trans h3)
  subst hcA
  have K := kk p e R s m args below meth c H1 locs ls Q C h1 h2 hlv (hH.apps (by omega) o1 (fun i e he => ?_)) (by rw [List.length_append, List.length_singleton]; omega) hq
  · simp only [List.map_cons, rv, al_lt hlt] at K
    rw [← hHs] at K
    exact K
  · have hi0 : i < 1 := (List.getElem?_eq_some_iff.mp he).1
    rw [show i = 0 by omega] at he ⊢
    cases he
    rw [Nat.add_zero, ← hHs]
    exact e1
theorem ex_mnew {index : Nat} {n k : Int32} (N K : Nat) (hd : decode X.2.2.1 pc = .ok (.multianewarray index 2, 4)) (hcl : Cond.classLink X.1 index "[[I" ∈ lw_tbl) (hw : Cond.arrayClass .int ∈ lw_tbl) (hn : ¬ n < 0) (hk : ¬ k < 0) (hN : n.toNatClampNeg = N) (hK : k.toNatClampNeg = K) (hb : N * 4 ≤ 536870912 ∧ K * 4 ≤ 536870912) (hlt : G.length + N + 1 < 1000000) (hm : ce + (1 + N) ≤ mc ∧ sl + (N + N * K) ≤ ms) (kk : Ex l E X d mc ms (pc + 4) L (.ref G.length :: st) (G ++ (.inl (2, N, .inr (.inr (.inr (.inr (fun i => if i < N then some (G.length + 1 + i) else none))))) :: List.replicate N (.inl (0, K, .inl (fun _ => 0))))) (ce + (1 + N)) (sl + (N + N * K)) Po) : Ex l E X d mc ms pc L (.int k :: .int n :: st) G ce sl Po := by
  intro p e R s m args below meth c H locs ls Q C h1 h2 hlv hH hz hq
  refine w_size fun hle => ?_
  have hHs : H.size = eB E + G.length := by have := hH.size C.2.2.2.2.2.2.1; omega
  have hen := C.2.2.2.2.2.1
  subst hN
  subst hK
  intro T hT Xs
  obtain ⟨vm₁, cA, comp, -, fA, fC, hO, -, X', step⟩ := Xs.multianewarray2F C.1 C.2.2.2.1 (ty := .int) (index := index) (hen.word hcl rfl) hen.2.2.2.2.2.2 (hen.word hw rfl) (g := F0 m pc ls (.int k :: .int n :: st.map (rv E))) rfl (by rw [C.2.1]; exact hd) rfl hn hk hb.1 hb.2 (by omega) rfl rfl (by omega) (by omega)
  have hc0 : comp = eC E 0 := Option.some.inj (fC.symm.trans (hen.2.1.2 0 _ rfl).2)
  have hcA : cA = eC E 2 := Option.some.inj (fA.symm.trans (hen.2.1.2 2 _ rfl).2)
  subst hc0
  subst hcA
  generalize hF : Jvm.Free.Multi.fill (T.setVm vm₁) (eC E 2) (eC E 0) n.toNatClampNeg k.toNatClampNeg (defaultValue .int) n.toNatClampNeg = F at X' step
  have hTh : (T.setVm vm₁).heap = H := hT
  obtain ⟨f1, f2, -, -⟩ := Jvm.Free.Multi.fill_facts (T.setVm vm₁) (eC E 2) (eC E 0) n.toNatClampNeg k.toNatClampNeg (defaultValue .int) n.toNatClampNeg
  rw [hF, hTh] at f1 f2
  have hold : ∀ x : Nat, x < H.size → F.heap[x]? = H[x]? := fun x hx => by
    have := Jvm.Free.Multi.fill_old (T.setVm vm₁) (eC E 2) (eC E 0) n.toNatClampNeg k.toNatClampNeg (defaultValue .int) (a := x) (by rw [hTh]; exact hx) n.toNatClampNeg
    rw [hF, hTh] at this
    exact this
  have hrow : ∀ j : Nat, j < n.toNatClampNeg → F.heap[H.size + 1 + j]? = some (arrV (eC E 0) k.toNatClampNeg (fun _ => .int 0)) := fun j hj => by
    have := Jvm.Free.Multi.fill_inner (T.setVm vm₁) (eC E 2) (eC E 0) n.toNatClampNeg k.toNatClampNeg (defaultValue .int) n.toNatClampNeg j hj
    rw [hF, hTh] at this
    rw [this, ← arrV_new]
    rfl
  have hout : Jvm.Free.Multi.outerC (eC E 2) n.toNatClampNeg H.size n.toNatClampNeg = arrV (eC E 2) n.toNatClampNeg (fun j => va_rf (if j < n.toNatClampNeg then some (H.size + 1 + j) else none)) := nn_outer (eC E 2) n.toNatClampNeg H.size n.toNatClampNeg
  rw [hout] at f2
  have KK := kk p e R s m args below meth c F.heap locs ls Q C h1 h2 hlv (hH.apps (by omega) hold (fun i e he => ?_)) (by rw [List.length_append, List.length_cons, List.length_replicate]; omega) hq
  · simp only [List.map_cons, rv, al_lt (show G.length < 1000000 by omega)] at KK
    rw [← hHs] at KK
    obtain ⟨t, a1, b1⟩ := KK F rfl (by
      have := X'
      rw [show ce + (1 + n.toNatClampNeg) = ce + 1 + n.toNatClampNeg by omega, show sl + (n.toNatClampNeg + n.toNatClampNeg * k.toNatClampNeg) = sl + n.toNatClampNeg + n.toNatClampNeg * k.toNatClampNeg by omega]
      exact this)
    subst hT
    exact ⟨t, step t a1, b1⟩
  · match i, he with
    | 0, he =>
      cases he
      rw [Nat.add_zero, ← hHs]
      show F.heap[H.size]? = some (vp_cell _ _)
      rw [f2]
      congr 1
      show arrV (eC E 2) n.toNatClampNeg _ = arrV (eC E 2) n.toNatClampNeg (fun j => va_rf ((if j < n.toNatClampNeg then some (G.length + 1 + j) else none).map (al E)))
      congr 1
      funext j
      by_cases hj : j < n.toNatClampNeg
      · simp only [if_pos hj, Option.map_some, al_lt (show G.length + 1 + j < 1000000 by omega), hHs]
        congr 2
        omega
      · simp [hj]
    | i + 1, he =>
      have he2 : (List.replicate n.toNatClampNeg (Sum.inl (0, k.toNatClampNeg, Sum.inl (fun _ => (0 : Int32))) : GE))[i]? = some e := he
      rw [List.getElem?_replicate] at he2
      split at he2
      · rename_i hlt2
        cases he2
        have := hrow i hlt2
        rw [hHs, show eB E + G.length + 1 + i = eB E + (G.length + (i + 1)) by omega] at this
        exact this
      · cases he2
/-- an element of an array of Rows -/
theorem ex_aast {a n v : Nat} {f : Nat → Option Nat} {fs : List Value} {i : Int32} (hd : decode X.2.2.1 pc = .ok (.aastore, 1)) (ha : a < 1000000) (hv : v < 1000000) (hG : G[a]? = some (.inl (1, n, .inr (.inr (.inr (.inr f)))))) (hv2 : G[v]? = some (.inr (8, fs))) (hin : vp_in i n) (kk : Ex l E X d mc ms (pc + 1) L st (G.set a (.inl (1, n, .inr (.inr (.inr (.inr (va_up f i.toNatClampNeg (some v)))))))) ce sl Po) : Ex l E X d mc ms pc L (.ref v :: .int i :: .ref a :: st) G ce sl Po := by
  intro p e R s m args below meth c H locs ls Q C h1 h2 hlv hH hz hq
  have he := wd_get (E := E) hG
  have hev := wd_get (E := E) hv2
  have hen := C.2.2.2.2.2.1
  simp only [List.map_cons, rv, al_lt ha, al_lt hv]
  refine va_astq (r := cN 8) C.1 C.2.1 hen.2.1 hH.1 wd_D hH.2 a 1 v 8 he rfl hev (cOK_all 8 (by decide)).1 hin hd ?_
  intro H1 locs1 a1 _ a3
  have e2 : (Sum.inl (eC E 1, n, Sum.inr (Sum.inr (Sum.inr (Sum.inr (va_up (fun i => (f i).map (al E)) i.toNatClampNeg (some (eB E + v))))))) : va_E) = re E (.inl (1, n, .inr (.inr (.inr (.inr (va_up f i.toNatClampNeg (some v))))))) := by
    show _ = Sum.inl (eC E 1, n, Sum.inr (Sum.inr (Sum.inr (Sum.inr (fun j => (va_up f i.toNatClampNeg (some v) j).map (al E))))))
    congr 7
    funext j
    unfold va_up
    split
    · simp [al_lt hv]
    · rfl
  rw [e2, wd_set] at a1
  exact kk p e R s m args below meth c H1 locs1 ls Q C h1 h2 hlv ⟨a1, a3⟩ (by rw [List.length_set]; exact hz) hq
theorem ex_objI {index a : Nat} (hd : decode X.2.2.1 pc = .ok (.invokespecial index, 3)) (hl : Cond.methodLink X.1 index objectInit ∈ lw_tbl) (hi : Cond.instanceMethod objectInit ∈ lw_tbl) (hc : Cond.code objectInit ⟨#[0xb1]⟩ 1 none ∈ lw_tbl) (hdd : 1 ≤ d) (hcat : (st.map fun v => v.category).sum ≤ 8) (ha : a < 1000000) (kk : Ex l E X d mc ms (pc + 3) L st G ce sl Po) : Ex l E X d mc ms pc L (.ref a :: st) G ce sl Po := by
  intro p e R s m args below meth c H locs ls Q C h1 h2 hlv hH hz hq
  have hen := C.2.2.2.2.2.1
  have hfr := C.2.2.2.2.2.2.2
  simp only [List.map_cons, rv, al_lt ha]
  refine W.objInit C.1 C.2.1 C.2.2.2.1 (hen.word hl rfl) (hen.word hi rfl) (hen.word hc rfl) rfl (by rw [C.2.2.1]; exact hlv.1) rfl hd (by omega) ?_ (kk p e R s m args below meth c H locs ls Q C h1 h2 hlv hH hz hq)
  have hr := lv_room (m := m) (pc := pc) (ls := ls) (rest := .ref (eB E + a) :: st.map (rv E)) (st := st.map (rv E)) (by rw [cat_map]; exact hcat)
  omega
theorem exn_new {index : Nat} (ci a : Nat) (fs : List Value) (G2 : GH) (hlen : G.length = a) (hG2 : G ++ [.inr (ci, fs)] = G2) (hd : decode X.2.2.1 pc = .ok (.new index, 3)) (hci : ci < 12) (hw : Cond.classLink X.1 index (cN ci).1 ∈ lw_tbl) (hi : Cond.instantiable (cN ci).1 (cN ci).2.2 ∈ lw_tbl) (hini : Cond.initialized (cN ci).1 ∈ lw_tbl) (hfs : ∀ j, j < (cN ci).2.2 → defaultValue (tyC ci j) = vp_V fs j) (hrv : ∀ E : EV, fs.map (rv E) = fs) (hlt : a < 1000000) (hm : ce + 1 ≤ mc ∧ sl + (cN ci).2.2 ≤ ms) (kk : Ex l E X d mc ms (pc + 3) L (.ref a :: st) G2 (ce + 1) (sl + (cN ci).2.2) Po) : Ex l E X d mc ms pc L st G ce sl Po := by
  subst hlen; subst hG2
  exact ex_new ci fs hd hci hw hi hini hfs hrv hlt hm kk
theorem exn_newa {n : Int32} (N a : Nat) (G2 : GH) (hlen : G.length = a) (hG2 : G ++ [.inl (0, N, .inl (fun _ => 0))] = G2) (hd : decode X.2.2.1 pc = .ok (.newarray .int, 2)) (hn : ¬ n < 0) (hN : n.toNatClampNeg = N) (hb : N * 4 ≤ 536870912) (hlt : a < 1000000) (hm : ce + 1 ≤ mc ∧ sl + N ≤ ms) (hw : Cond.arrayClass .int ∈ lw_tbl) (kk : Ex l E X d mc ms (pc + 2) L (.ref a :: st) G2 (ce + 1) (sl + N) Po) : Ex l E X d mc ms pc L (.int n :: st) G ce sl Po := by
  subst hlen; subst hG2
  exact ex_newa N hd hn hN hb hlt hm hw kk
theorem exn_anew {index : Nat} {n : Int32} (N a : Nat) (G2 : GH) (hlen : G.length = a) (hG2 : G ++ [.inl (1, N, .inr (.inr (.inr (.inr (fun _ => none)))))] = G2) (hd : decode X.2.2.1 pc = .ok (.anewarray index, 3)) (hcl : Cond.classLink X.1 index "CrustMarket$Rows" ∈ lw_tbl) (hn : ¬ n < 0) (hN : n.toNatClampNeg = N) (hb : N * 4 ≤ 536870912) (hlt : a < 1000000) (hm : ce + 1 ≤ mc ∧ sl + N ≤ ms) (kk : Ex l E X d mc ms (pc + 3) L (.ref a :: st) G2 (ce + 1) (sl + N) Po) : Ex l E X d mc ms pc L (.int n :: st) G ce sl Po := by
  subst hlen; subst hG2
  exact ex_anew N hd hcl hn hN hb hlt hm kk
theorem exn_mnew {index : Nat} {n k : Int32} (N K a : Nat) (G2 : GH) (hlen : G.length = a) (hG2 : G ++ (.inl (2, N, .inr (.inr (.inr (.inr (fun i => if i < N then some (a + 1 + i) else none))))) :: List.replicate N (.inl (0, K, .inl (fun _ => 0)))) = G2) (hd : decode X.2.2.1 pc = .ok (.multianewarray index 2, 4)) (hcl : Cond.classLink X.1 index "[[I" ∈ lw_tbl) (hw : Cond.arrayClass .int ∈ lw_tbl) (hn : ¬ n < 0) (hk : ¬ k < 0) (hN : n.toNatClampNeg = N) (hK : k.toNatClampNeg = K) (hb : N * 4 ≤ 536870912 ∧ K * 4 ≤ 536870912) (hlt : a + N + 1 < 1000000) (hm : ce + (1 + N) ≤ mc ∧ sl + (N + N * K) ≤ ms) (kk : Ex l E X d mc ms (pc + 4) L (.ref a :: st) G2 (ce + (1 + N)) (sl + (N + N * K)) Po) : Ex l E X d mc ms pc L (.int k :: .int n :: st) G ce sl Po := by
  subst hlen; subst hG2
  exact ex_mnew N K hd hcl hw hn hk hN hK hb hlt hm kk
theorem exn_aast {a n v : Nat} {f : Nat → Option Nat} {fs : List Value} {i : Int32} (G2 : GH) (hset : G.set a (.inl (1, n, .inr (.inr (.inr (.inr (va_up f i.toNatClampNeg (some v))))))) = G2) (hd : decode X.2.2.1 pc = .ok (.aastore, 1)) (ha : a < 1000000) (hv : v < 1000000) (hG : G[a]? = some (.inl (1, n, .inr (.inr (.inr (.inr f)))))) (hv2 : G[v]? = some (.inr (8, fs))) (hin : vp_in i n) (kk : Ex l E X d mc ms (pc + 1) L st G2 ce sl Po) : Ex l E X d mc ms pc L (.ref v :: .int i :: .ref a :: st) G ce sl Po := by
  subst hset
  exact ex_aast hd ha hv hG hv2 hin kk
theorem exn_putF {index a : Nat} (ci k : Nat) {fs : List Value} {v : Value} (G2 : GH) (hset : G.set a (.inr (ci, fs.set k v)) = G2) (hd : decode X.2.2.1 pc = .ok (.putfield index, 3)) (hci : ci < 12) (hk : k < (cN ci).2.2) (hw : Cond.fieldLink X.1 index ((cN ci).2.1 k).1 ((cN ci).2.1 k).2.1 ((cN ci).2.1 k).2.2.1 ∈ lw_tbl) (hfin : ((cN ci).2.1 k).2.2.2 = true) (hnm : X.2.1 = "<init>") (hdecl : ((cN ci).2.1 k).1 = X.1) (hv : ∀ E : EV, narrow (tyC ci k) (rv E v) = rv E v ∧ fits (tyC ci k) (rv E v) = true) (ha : a < 1000000) (hG : G[a]? = some (.inr (ci, fs))) (hl : k < fs.length) (kk : Ex l E X d mc ms (pc + 3) L st G2 ce sl Po) : Ex l E X d mc ms pc L (v :: .ref a :: st) G ce sl Po := by
  subst hset
  exact ex_putF hd hci hk hw hfin hnm hdecl hv ha hG hl kk
theorem exn_putf {index a : Nat} (ci k : Nat) {fs : List Value} {v : Value} (G2 : GH) (hset : G.set a (.inr (ci, fs.set k v)) = G2) (hd : decode X.2.2.1 pc = .ok (.putfield index, 3)) (hf : FL X.1 index ci k) (hfin : ((cN ci).2.1 k).2.2.2 = false) (hv : ∀ E : EV, narrow (tyC ci k) (rv E v) = rv E v ∧ fits (tyC ci k) (rv E v) = true) (ha : a < 1000000) (hG : G[a]? = some (.inr (ci, fs))) (hl : k < fs.length) (kk : Ex l E X d mc ms (pc + 3) L st G2 ce sl Po) : Ex l E X d mc ms pc L (v :: .ref a :: st) G ce sl Po := by
  subst hset
  exact ex_putf hd hf hfin hv ha hG hl kk
theorem exn_iast {a n : Nat} {f : Nat → Int32} {i x : Int32} (G2 : GH) (hset : G.set a (.inl (0, n, .inl (upd f i.toNatClampNeg x))) = G2) (hd : decode X.2.2.1 pc = .ok (.iastore, 1)) (ha : a < 1000000) (hG : G[a]? = some (.inl (0, n, .inl f))) (hin : vp_in i n) (kk : Ex l E X d mc ms (pc + 1) L st G2 ce sl Po) : Ex l E X d mc ms pc L (.int x :: .int i :: .ref a :: st) G ce sl Po := by
  subst hset
  exact ex_iast hd ha hG hin kk
/-- a constructor's call: what it makes of the heap -/
theorem exn_callI {index : Nat} {y : MethodName} {cc' : ByteArray} {nL' : Nat} {d' mc' ms' : Nat} {stk : List Value} (b : Nat) (As st2 : List Value) (G2 : GH) (hd : decode X.2.2.1 pc = .ok (.invokespecial index, 3)) (hc : CL X.1 index y cc' nL' none As.length) (hi : Cond.instanceMethod y ∈ lw_tbl ∧ y.name = "<init>") (hb : b < 1000000) (hst : stk = As.reverse ++ .ref b :: st2) (hcat : (st2.map fun v => v.category).sum ≤ 8) (hdd : d' + 1 ≤ d) (hm : ce + mc' ≤ mc ∧ sl + ms' ≤ ms) (hrun : Run l E y cc' nL' none d' mc' ms' (.ref b :: As) G (fun G' v => G' = G2 ∧ v = none)) (hg : G2.length = G.length + mc') (kk : Ex l E X d mc ms (pc + 3) L st2 G2 (ce + mc') (sl + ms') Po) : Ex l E X d mc ms pc L stk G ce sl Po :=
  ex_callI hd hc hi hb hst hcat hdd hm hrun (fun G' v q => by rw [q.1]; exact hg) (fun G' v q => by rw [q.1, q.2]; exact kk)
end RN
theorem plen {P S : GH} {n k : Nat} (hn : P.length = n) (hk : S.length = k) : (P ++ S).length = n + k := by rw [List.length_append, hn, hk]
theorem papp {P S T S2 : GH} (h : S ++ T = S2) : (P ++ S) ++ T = P ++ S2 := by rw [List.append_assoc, h]
theorem pget {P S : GH} {n j : Nat} {e : GE} (hn : P.length = n) (h : S[j]? = some e) : (P ++ S)[n + j]? = some e := by
  rw [List.getElem?_append_right (by omega), hn, Nat.add_sub_cancel_left]
  exact h
theorem pget0 {P S : GH} {n : Nat} {e : GE} (hn : P.length = n) (h : S[0]? = some e) : (P ++ S)[n]? = some e := pget (j := 0) hn h
theorem pset {P S S2 : GH} {n j : Nat} {e : GE} (hn : P.length = n) (h : S.set j e = S2) : (P ++ S).set (n + j) e = P ++ S2 := by
  rw [List.set_append_right (n + j) e (by omega), hn, Nat.add_sub_cancel_left, h]
theorem pset0 {P S S2 : GH} {n : Nat} {e : GE} (hn : P.length = n) (h : S.set 0 e = S2) : (P ++ S).set n e = P ++ S2 := pset (j := 0) hn h
