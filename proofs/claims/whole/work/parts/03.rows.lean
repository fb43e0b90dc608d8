/-! ===== ROWS OF THE FLAT MACHINE ===== -/
def clr (L : List (Option Value)) (i : Nat) : List (Option Value) := match i with
  | 0 => L
  | j + 1 => match L[j]? with
    | some (some (.long _)) => L.set j none
    | some (some (.double _)) => L.set j none
    | _ => L
def stl (L : List (Option Value)) (i : Nat) (v : Value) : List (Option Value) := (clr L i).set i (some v)
def stl2 (L : List (Option Value)) (i : Nat) (v : Value) : List (Option Value) := ((clr L i).set i (some v)).set (i + 1) none
theorem clr_get {L : List (Option Value)} {i j : Nat} {v : Value} (h : (clr L i)[j]? = some (some v)) : L[j]? = some (some v) ∧ (j + 1 = i → v.category = 1) := by
  unfold clr at h
  split at h
  · exact ⟨h, fun e => by omega⟩
  · rename_i n
    split at h
    · rw [List.getElem?_set] at h
      split at h
      · split at h <;> simp at h
      · exact ⟨h, fun e => by omega⟩
    · rw [List.getElem?_set] at h
      split at h
      · split at h <;> simp at h
      · exact ⟨h, fun e => by omega⟩
    · rename_i h1 h2
      refine ⟨h, fun e => ?_⟩
      have e2 : j = n := by omega
      subst e2
      cases v <;> first | rfl | (exact absurd h (h1 _)) | (exact absurd h (h2 _))
theorem stl_has {E : EV} {ls : Array Slot} {nL i : Nat} {L : List (Option Value)} {v : Value} (h : lv_has ls nL ((i, rv E v) :: (lvs E L).filter (fun q => !(q.1 == i) && !(q.1 + 1 == i && q.2.category == 2)))) : lv_has ls nL (lvs E (stl L i v)) := by
  refine ⟨h.1, h.2.1, fun q hq => h.2.2 q ?_⟩
  obtain ⟨j, w⟩ := q
  obtain ⟨v', hv', rfl⟩ := lvs_mem.mp hq
  unfold stl at hv'
  rw [List.getElem?_set] at hv'
  split at hv'
  · rename_i e
    subst e
    split at hv'
    · simp at hv'; subst hv'; exact List.mem_cons_self
    · simp at hv'
  · rename_i e
    obtain ⟨h1, h2⟩ := clr_get hv'
    refine List.mem_cons_of_mem _ (List.mem_filter.mpr ⟨lvs_mem.mpr ⟨v', h1, rfl⟩, ?_⟩)
    simp only [rv_cat]
    by_cases e2 : j + 1 = i
    · have := h2 e2
      simp [this]; omega
    · simp [e2]; omega
theorem stl2_has {E : EV} {ls : Array Slot} {nL i : Nat} {L : List (Option Value)} {v : Value} (h : lv_has ls nL ((i, rv E v) :: (lvs E L).filter (fun q => !(q.1 == i) && (!(q.1 == i + 1) && !(q.1 + 1 == i && q.2.category == 2))))) : lv_has ls nL (lvs E (stl2 L i v)) := by
  refine ⟨h.1, h.2.1, fun q hq => h.2.2 q ?_⟩
  obtain ⟨j, w⟩ := q
  obtain ⟨v', hv', rfl⟩ := lvs_mem.mp hq
  unfold stl2 at hv'
  rw [List.getElem?_set] at hv'
  split at hv'
  · split at hv' <;> simp at hv'
  · rename_i e0
    rw [List.getElem?_set] at hv'
    split at hv'
    · rename_i e
      subst e
      split at hv'
      · simp at hv'; subst hv'; exact List.mem_cons_self
      · simp at hv'
    · rename_i e
      obtain ⟨h1, h2⟩ := clr_get hv'
      refine List.mem_cons_of_mem _ (List.mem_filter.mpr ⟨lvs_mem.mpr ⟨v', h1, rfl⟩, ?_⟩)
      simp only [rv_cat]
      by_cases e2 : j + 1 = i
      · have := h2 e2
        simp [this]; omega
      · simp [e2]; omega
/-- fewer locals known -/
theorem lvs_sub {E : EV} {ls : Array Slot} {nL : Nat} {L L' : List (Option Value)} (hs : ∀ (i : Nat) (v : Value), L'[i]? = some (some v) → L[i]? = some (some v)) (h : lv_has ls nL (lvs E L)) : lv_has ls nL (lvs E L') := by
  refine ⟨h.1, h.2.1, fun q hq => h.2.2 q ?_⟩
  obtain ⟨j, w⟩ := q
  obtain ⟨v', hv', rfl⟩ := lvs_mem.mp hq
  exact lvs_mem.mpr ⟨v', hs _ _ hv', rfl⟩
def msk (bs : List Bool) (L : List (Option Value)) : List (Option Value) := List.zipWith (fun b o => if b then o else none) bs L
theorem msk_sub (bs : List Bool) (L : List (Option Value)) : ∀ (i : Nat) (v : Value), (msk bs L)[i]? = some (some v) → L[i]? = some (some v) := by
  intro i v h
  unfold msk at h
  rw [List.getElem?_zipWith] at h
  cases hb : bs[i]? <;> cases hL : L[i]? <;> simp [hb, hL] at h
  rw [h.2]
section RO
variable {l : Launch} {E : EV} {X : MI} {d mc ms : Nat} {pc : Nat} {L : List (Option Value)} {st : List Value} {G : GH} {ce sl : Nat} {Po : GH → Option Value → Prop}
theorem ex_msk (bs : List Bool) (kk : Ex l E X d mc ms pc (msk bs L) st G ce sl Po) : Ex l E X d mc ms pc L st G ce sl Po := by
  intro p e R s m args below meth c H locs ls Q C h1 h2 hlv hH hz hq
  exact kk p e R s m args below meth c H locs ls Q C h1 h2 (lvs_sub (msk_sub bs L) hlv) hH hz hq
theorem ex_ret {v : Option Value} (hd : decode X.2.2.1 pc = .ok (retI v, 1)) (hc : ce = mc) (hs : sl ≤ ms) (hp : Po G v) : Ex l E X d mc ms pc L v.toList G ce sl Po := by
  intro p e R s m args below meth c H locs ls Q C h1 h2 hlv hH hz hq
  have := hq pc ls H locs ce sl G v hd hH hz hc hs hp
  cases v <;> exact this
theorem ex_iconst {n : Int} (v : Int32) (hd : decode X.2.2.1 pc = .ok (.iconst n, 1)) (hv : Int32.ofInt n = v) (kk : Ex l E X d mc ms (pc + 1) L (.int v :: st) G ce sl Po) : Ex l E X d mc ms pc L (st) G ce sl Po := by
  intro p e R s m args below meth c H locs ls Q C h1 h2 hlv hH hz hq
  exact lv_iconst C.1 C.2.1 hd hv (kk p e R s m args below meth c H locs ls Q C h1 h2 hlv hH hz hq)
theorem ex_bipush {n : Int} (v : Int32) (hd : decode X.2.2.1 pc = .ok (.bipush n, 2)) (hv : (Int8.ofInt n).toInt32 = v) (kk : Ex l E X d mc ms (pc + 2) L (.int v :: st) G ce sl Po) : Ex l E X d mc ms pc L (st) G ce sl Po := by
  intro p e R s m args below meth c H locs ls Q C h1 h2 hlv hH hz hq
  exact lv_bipush C.1 C.2.1 hd hv (kk p e R s m args below meth c H locs ls Q C h1 h2 hlv hH hz hq)
theorem ex_sipush {n : Int} (v : Int32) (hd : decode X.2.2.1 pc = .ok (.sipush n, 3)) (hv : (Int16.ofInt n).toInt32 = v) (kk : Ex l E X d mc ms (pc + 3) L (.int v :: st) G ce sl Po) : Ex l E X d mc ms pc L (st) G ce sl Po := by
  intro p e R s m args below meth c H locs ls Q C h1 h2 hlv hH hz hq
  exact lv_sipush C.1 C.2.1 hd hv (kk p e R s m args below meth c H locs ls Q C h1 h2 hlv hH hz hq)
theorem ex_lconst {n : Fin 2} (v : Int64) (hd : decode X.2.2.1 pc = .ok (.lconst n, 1)) (hv : Int64.ofNat (n : Nat) = v) (kk : Ex l E X d mc ms (pc + 1) L (.long v :: st) G ce sl Po) : Ex l E X d mc ms pc L (st) G ce sl Po := by
  intro p e R s m args below meth c H locs ls Q C h1 h2 hlv hH hz hq
  exact lv_lconst C.1 C.2.1 hd hv (kk p e R s m args below meth c H locs ls Q C h1 h2 hlv hH hz hq)
theorem ex_iload_n {k : Fin 4} {x : Int32} (hd : decode X.2.2.1 pc = .ok (.iload_n k, 1)) (hl : L[(k : Nat)]? = some (some (.int x))) (kk : Ex l E X d mc ms (pc + 1) L (.int x :: st) G ce sl Po) : Ex l E X d mc ms pc L (st) G ce sl Po := by
  intro p e R s m args below meth c H locs ls Q C h1 h2 hlv hH hz hq
  exact lv_iload_n C.1 C.2.1 hd rfl (hlv.2.2 _ (lvs_mem.mpr ⟨_, hl, rfl⟩)) (kk p e R s m args below meth c H locs ls Q C h1 h2 hlv hH hz hq)
theorem ex_iload {k : Nat} {x : Int32} (hd : decode X.2.2.1 pc = .ok (.iload k, 2)) (hl : L[k]? = some (some (.int x))) (kk : Ex l E X d mc ms (pc + 2) L (.int x :: st) G ce sl Po) : Ex l E X d mc ms pc L (st) G ce sl Po := by
  intro p e R s m args below meth c H locs ls Q C h1 h2 hlv hH hz hq
  exact lv_iload C.1 C.2.1 hd (hlv.2.2 _ (lvs_mem.mpr ⟨_, hl, rfl⟩)) (kk p e R s m args below meth c H locs ls Q C h1 h2 hlv hH hz hq)
theorem ex_lload_n {k : Fin 4} {x : Int64} (hd : decode X.2.2.1 pc = .ok (.lload_n k, 1)) (hl : L[(k : Nat)]? = some (some (.long x))) (kk : Ex l E X d mc ms (pc + 1) L (.long x :: st) G ce sl Po) : Ex l E X d mc ms pc L (st) G ce sl Po := by
  intro p e R s m args below meth c H locs ls Q C h1 h2 hlv hH hz hq
  exact lv_lload_n C.1 C.2.1 hd rfl (hlv.2.2 _ (lvs_mem.mpr ⟨_, hl, rfl⟩)) (kk p e R s m args below meth c H locs ls Q C h1 h2 hlv hH hz hq)
theorem ex_lload {k : Nat} {x : Int64} (hd : decode X.2.2.1 pc = .ok (.lload k, 2)) (hl : L[k]? = some (some (.long x))) (kk : Ex l E X d mc ms (pc + 2) L (.long x :: st) G ce sl Po) : Ex l E X d mc ms pc L (st) G ce sl Po := by
  intro p e R s m args below meth c H locs ls Q C h1 h2 hlv hH hz hq
  exact lv_lload C.1 C.2.1 hd (hlv.2.2 _ (lvs_mem.mpr ⟨_, hl, rfl⟩)) (kk p e R s m args below meth c H locs ls Q C h1 h2 hlv hH hz hq)
theorem ex_aload_n {k : Fin 4} {x : Nat} (hd : decode X.2.2.1 pc = .ok (.aload_n k, 1)) (hl : L[(k : Nat)]? = some (some (.ref x))) (kk : Ex l E X d mc ms (pc + 1) L (.ref x :: st) G ce sl Po) : Ex l E X d mc ms pc L (st) G ce sl Po := by
  intro p e R s m args below meth c H locs ls Q C h1 h2 hlv hH hz hq
  exact lv_aload_n C.1 C.2.1 hd rfl (hlv.2.2 _ (lvs_mem.mpr ⟨_, hl, rfl⟩)) (kk p e R s m args below meth c H locs ls Q C h1 h2 hlv hH hz hq)
theorem ex_istore_n {k : Fin 4} {x : Int32} {L2 : List (Option Value)} (hd : decode X.2.2.1 pc = .ok (.istore_n k, 1)) (hn : (k : Nat) < X.2.2.2) (h2L : stl L k (.int x) = L2) (kk : Ex l E X d mc ms (pc + 1) L2 (st) G ce sl Po) : Ex l E X d mc ms pc L (.int x :: st) G ce sl Po := by
  intro p e R s m args below meth c H locs ls Q C h1 h2 hlv hH hz hq
  subst h2L
  exact lv_istore_n C.1 C.2.1 hd rfl hlv hn rfl (fun ls hlv => kk p e R s m args below meth c H locs ls Q C h1 h2 (stl_has hlv) hH hz hq)
theorem ex_astore_n {k : Fin 4} {x : Nat} {L2 : List (Option Value)} (hd : decode X.2.2.1 pc = .ok (.astore_n k, 1)) (hn : (k : Nat) < X.2.2.2) (h2L : stl L k (.ref x) = L2) (kk : Ex l E X d mc ms (pc + 1) L2 (st) G ce sl Po) : Ex l E X d mc ms pc L (.ref x :: st) G ce sl Po := by
  intro p e R s m args below meth c H locs ls Q C h1 h2 hlv hH hz hq
  subst h2L
  exact lv_astore_n C.1 C.2.1 hd rfl hlv hn rfl (fun ls hlv => kk p e R s m args below meth c H locs ls Q C h1 h2 (stl_has hlv) hH hz hq)
theorem ex_istore {k : Nat} {x : Int32} {L2 : List (Option Value)} (hd : decode X.2.2.1 pc = .ok (.istore k, 2)) (hn : k < X.2.2.2) (h2L : stl L k (.int x) = L2) (kk : Ex l E X d mc ms (pc + 2) L2 (st) G ce sl Po) : Ex l E X d mc ms pc L (.int x :: st) G ce sl Po := by
  intro p e R s m args below meth c H locs ls Q C h1 h2 hlv hH hz hq
  subst h2L
  exact lv_istore C.1 C.2.1 hd hlv hn rfl (fun ls hlv => kk p e R s m args below meth c H locs ls Q C h1 h2 (stl_has hlv) hH hz hq)
theorem ex_lstore_n {k : Fin 4} {x : Int64} {L2 : List (Option Value)} (hd : decode X.2.2.1 pc = .ok (.lstore_n k, 1)) (hn : (k : Nat) + 1 < X.2.2.2) (h2L : stl2 L k (.long x) = L2) (kk : Ex l E X d mc ms (pc + 1) L2 (st) G ce sl Po) : Ex l E X d mc ms pc L (.long x :: st) G ce sl Po := by
  intro p e R s m args below meth c H locs ls Q C h1 h2 hlv hH hz hq
  subst h2L
  exact lv_lstore_n C.1 C.2.1 hd rfl hlv hn rfl (fun ls hlv => kk p e R s m args below meth c H locs ls Q C h1 h2 (stl2_has hlv) hH hz hq)
theorem ex_lstore {k : Nat} {x : Int64} {L2 : List (Option Value)} (hd : decode X.2.2.1 pc = .ok (.lstore k, 2)) (hn : k + 1 < X.2.2.2) (h2L : stl2 L k (.long x) = L2) (kk : Ex l E X d mc ms (pc + 2) L2 (st) G ce sl Po) : Ex l E X d mc ms pc L (.long x :: st) G ce sl Po := by
  intro p e R s m args below meth c H locs ls Q C h1 h2 hlv hH hz hq
  subst h2L
  exact lv_lstore C.1 C.2.1 hd hlv hn rfl (fun ls hlv => kk p e R s m args below meth c H locs ls Q C h1 h2 (stl2_has hlv) hH hz hq)
theorem ex_iinc {k : Nat} {n : Int} {x : Int32} (v : Int32) {L2 : List (Option Value)} (hd : decode X.2.2.1 pc = .ok (.iinc k n, 3)) (hl : L[k]? = some (some (.int x))) (hv : Int32.ofInt n = v) (hn : k < X.2.2.2) (h2L : stl L k (.int (x + v)) = L2) (kk : Ex l E X d mc ms (pc + 3) L2 (st) G ce sl Po) : Ex l E X d mc ms pc L (st) G ce sl Po := by
  intro p e R s m args below meth c H locs ls Q C h1 h2 hlv hH hz hq
  subst h2L
  subst hv
  obtain ⟨j, hj⟩ := List.getElem?_of_mem (lvs_mem (E := E).mpr ⟨_, hl, rfl⟩)
  exact lv_iinc C.1 C.2.1 hd hlv hj rfl hn rfl (fun ls hlv => kk p e R s m args below meth c H locs ls Q C h1 h2 (stl_has hlv) hH hz hq)
theorem ex_iadd {x y : Int32} (hd : decode X.2.2.1 pc = .ok (.iadd, 1))  (kk : Ex l E X d mc ms (pc + 1) L (.int (x + y) :: st) G ce sl Po) : Ex l E X d mc ms pc L (.int y :: .int x :: st) G ce sl Po := by
  intro p e R s m args below meth c H locs ls Q C h1 h2 hlv hH hz hq
  exact lv_iadd C.1 C.2.1 hd (kk p e R s m args below meth c H locs ls Q C h1 h2 hlv hH hz hq)
theorem ex_isub {x y : Int32} (hd : decode X.2.2.1 pc = .ok (.isub, 1))  (kk : Ex l E X d mc ms (pc + 1) L (.int (x - y) :: st) G ce sl Po) : Ex l E X d mc ms pc L (.int y :: .int x :: st) G ce sl Po := by
  intro p e R s m args below meth c H locs ls Q C h1 h2 hlv hH hz hq
  exact lv_isub C.1 C.2.1 hd (kk p e R s m args below meth c H locs ls Q C h1 h2 hlv hH hz hq)
theorem ex_imul {x y : Int32} (hd : decode X.2.2.1 pc = .ok (.imul, 1))  (kk : Ex l E X d mc ms (pc + 1) L (.int (x * y) :: st) G ce sl Po) : Ex l E X d mc ms pc L (.int y :: .int x :: st) G ce sl Po := by
  intro p e R s m args below meth c H locs ls Q C h1 h2 hlv hH hz hq
  exact lv_imul C.1 C.2.1 hd (kk p e R s m args below meth c H locs ls Q C h1 h2 hlv hH hz hq)
theorem ex_iand {x y : Int32} (hd : decode X.2.2.1 pc = .ok (.iand, 1))  (kk : Ex l E X d mc ms (pc + 1) L (.int (x &&& y) :: st) G ce sl Po) : Ex l E X d mc ms pc L (.int y :: .int x :: st) G ce sl Po := by
  intro p e R s m args below meth c H locs ls Q C h1 h2 hlv hH hz hq
  exact lv_iand C.1 C.2.1 hd (kk p e R s m args below meth c H locs ls Q C h1 h2 hlv hH hz hq)
theorem ex_ior {x y : Int32} (hd : decode X.2.2.1 pc = .ok (.ior, 1))  (kk : Ex l E X d mc ms (pc + 1) L (.int (x ||| y) :: st) G ce sl Po) : Ex l E X d mc ms pc L (.int y :: .int x :: st) G ce sl Po := by
  intro p e R s m args below meth c H locs ls Q C h1 h2 hlv hH hz hq
  exact lv_ior C.1 C.2.1 hd (kk p e R s m args below meth c H locs ls Q C h1 h2 hlv hH hz hq)
theorem ex_ixor {x y : Int32} (hd : decode X.2.2.1 pc = .ok (.ixor, 1))  (kk : Ex l E X d mc ms (pc + 1) L (.int (x ^^^ y) :: st) G ce sl Po) : Ex l E X d mc ms pc L (.int y :: .int x :: st) G ce sl Po := by
  intro p e R s m args below meth c H locs ls Q C h1 h2 hlv hH hz hq
  exact lv_ixor C.1 C.2.1 hd (kk p e R s m args below meth c H locs ls Q C h1 h2 hlv hH hz hq)
theorem ex_ishl {x y : Int32} (hd : decode X.2.2.1 pc = .ok (.ishl, 1))  (kk : Ex l E X d mc ms (pc + 1) L (.int (x <<< (y &&& 31)) :: st) G ce sl Po) : Ex l E X d mc ms pc L (.int y :: .int x :: st) G ce sl Po := by
  intro p e R s m args below meth c H locs ls Q C h1 h2 hlv hH hz hq
  exact lv_ishl C.1 C.2.1 hd (kk p e R s m args below meth c H locs ls Q C h1 h2 hlv hH hz hq)
theorem ex_ishr {x y : Int32} (hd : decode X.2.2.1 pc = .ok (.ishr, 1))  (kk : Ex l E X d mc ms (pc + 1) L (.int (x >>> (y &&& 31)) :: st) G ce sl Po) : Ex l E X d mc ms pc L (.int y :: .int x :: st) G ce sl Po := by
  intro p e R s m args below meth c H locs ls Q C h1 h2 hlv hH hz hq
  exact lv_ishr C.1 C.2.1 hd (kk p e R s m args below meth c H locs ls Q C h1 h2 hlv hH hz hq)
theorem ex_idiv {x y : Int32} (hd : decode X.2.2.1 pc = .ok (.idiv, 1)) (hne : ¬ y = 0) (kk : Ex l E X d mc ms (pc + 1) L (.int (x / y) :: st) G ce sl Po) : Ex l E X d mc ms pc L (.int y :: .int x :: st) G ce sl Po := by
  intro p e R s m args below meth c H locs ls Q C h1 h2 hlv hH hz hq
  exact lv_idiv C.1 C.2.1 hd hne (kk p e R s m args below meth c H locs ls Q C h1 h2 hlv hH hz hq)
theorem ex_irem {x y : Int32} (hd : decode X.2.2.1 pc = .ok (.irem, 1)) (hne : ¬ y = 0) (kk : Ex l E X d mc ms (pc + 1) L (.int (x - x / y * y) :: st) G ce sl Po) : Ex l E X d mc ms pc L (.int y :: .int x :: st) G ce sl Po := by
  intro p e R s m args below meth c H locs ls Q C h1 h2 hlv hH hz hq
  exact lv_irem C.1 C.2.1 hd hne (kk p e R s m args below meth c H locs ls Q C h1 h2 hlv hH hz hq)
def ush (x y : Int32) : Int32 := (x.toUInt32 >>> (y.toUInt32 &&& Int32.toUInt32 31)).toInt32
theorem ex_iushr {x y : Int32} (hd : decode X.2.2.1 pc = .ok (.iushr, 1))  (kk : Ex l E X d mc ms (pc + 1) L (.int (ush x y) :: st) G ce sl Po) : Ex l E X d mc ms pc L (.int y :: .int x :: st) G ce sl Po := by
  intro p e R s m args below meth c H locs ls Q C h1 h2 hlv hH hz hq
  exact lv_iushr C.1 C.2.1 hd rfl (kk p e R s m args below meth c H locs ls Q C h1 h2 hlv hH hz hq)
theorem ex_ladd {x y : Int64} (hd : decode X.2.2.1 pc = .ok (.ladd, 1))  (kk : Ex l E X d mc ms (pc + 1) L (.long (x + y) :: st) G ce sl Po) : Ex l E X d mc ms pc L (.long y :: .long x :: st) G ce sl Po := by
  intro p e R s m args below meth c H locs ls Q C h1 h2 hlv hH hz hq
  exact lv_ladd C.1 C.2.1 hd (kk p e R s m args below meth c H locs ls Q C h1 h2 hlv hH hz hq)
theorem ex_lsub {x y : Int64} (hd : decode X.2.2.1 pc = .ok (.lsub, 1))  (kk : Ex l E X d mc ms (pc + 1) L (.long (x - y) :: st) G ce sl Po) : Ex l E X d mc ms pc L (.long y :: .long x :: st) G ce sl Po := by
  intro p e R s m args below meth c H locs ls Q C h1 h2 hlv hH hz hq
  exact lv_lsub C.1 C.2.1 hd (kk p e R s m args below meth c H locs ls Q C h1 h2 hlv hH hz hq)
theorem ex_lmul {x y : Int64} (hd : decode X.2.2.1 pc = .ok (.lmul, 1))  (kk : Ex l E X d mc ms (pc + 1) L (.long (x * y) :: st) G ce sl Po) : Ex l E X d mc ms pc L (.long y :: .long x :: st) G ce sl Po := by
  intro p e R s m args below meth c H locs ls Q C h1 h2 hlv hH hz hq
  exact lv_lmul C.1 C.2.1 hd (kk p e R s m args below meth c H locs ls Q C h1 h2 hlv hH hz hq)
theorem ex_ldiv {x y : Int64} (hd : decode X.2.2.1 pc = .ok (.ldiv, 1)) (hne : ¬ y = 0) (kk : Ex l E X d mc ms (pc + 1) L (.long (x / y) :: st) G ce sl Po) : Ex l E X d mc ms pc L (.long y :: .long x :: st) G ce sl Po := by
  intro p e R s m args below meth c H locs ls Q C h1 h2 hlv hH hz hq
  exact lv_ldiv C.1 C.2.1 hd hne (kk p e R s m args below meth c H locs ls Q C h1 h2 hlv hH hz hq)
theorem ex_i2l {x : Int32} (hd : decode X.2.2.1 pc = .ok (.i2l, 1))  (kk : Ex l E X d mc ms (pc + 1) L (.long x.toInt64 :: st) G ce sl Po) : Ex l E X d mc ms pc L (.int x :: st) G ce sl Po := by
  intro p e R s m args below meth c H locs ls Q C h1 h2 hlv hH hz hq
  exact lv_i2l C.1 C.2.1 hd rfl (kk p e R s m args below meth c H locs ls Q C h1 h2 hlv hH hz hq)
theorem ex_l2i {x : Int64} (hd : decode X.2.2.1 pc = .ok (.l2i, 1))  (kk : Ex l E X d mc ms (pc + 1) L (.int x.toInt32 :: st) G ce sl Po) : Ex l E X d mc ms pc L (.long x :: st) G ce sl Po := by
  intro p e R s m args below meth c H locs ls Q C h1 h2 hlv hH hz hq
  exact lv_l2i C.1 C.2.1 hd rfl (kk p e R s m args below meth c H locs ls Q C h1 h2 hlv hH hz hq)
theorem ex_lcmp {x y : Int64} (hd : decode X.2.2.1 pc = .ok (.lcmp, 1))  (kk : Ex l E X d mc ms (pc + 1) L (.int (lg_cmp x y) :: st) G ce sl Po) : Ex l E X d mc ms pc L (.long y :: .long x :: st) G ce sl Po := by
  intro p e R s m args below meth c H locs ls Q C h1 h2 hlv hH hz hq
  exact W.lcmp C.1 C.2.1 hd (kk p e R s m args below meth c H locs ls Q C h1 h2 hlv hH hz hq)
theorem ex_dup {v : Value} (hd : decode X.2.2.1 pc = .ok (.dup, 1)) (hv : v.category = 1) (kk : Ex l E X d mc ms (pc + 1) L (v :: v :: st) G ce sl Po) : Ex l E X d mc ms pc L (v :: st) G ce sl Po := by
  intro p e R s m args below meth c H locs ls Q C h1 h2 hlv hH hz hq
  exact lv_dup C.1 C.2.1 hd (by rw [rv_cat]; exact hv) (kk p e R s m args below meth c H locs ls Q C h1 h2 hlv hH hz hq)
theorem ex_pop {v : Value} (hd : decode X.2.2.1 pc = .ok (.pop, 1)) (hv : v.category = 1) (kk : Ex l E X d mc ms (pc + 1) L (st) G ce sl Po) : Ex l E X d mc ms pc L (v :: st) G ce sl Po := by
  intro p e R s m args below meth c H locs ls Q C h1 h2 hlv hH hz hq
  exact lv_pop C.1 C.2.1 hd (by rw [rv_cat]; exact hv) (kk p e R s m args below meth c H locs ls Q C h1 h2 hlv hH hz hq)
theorem ex_dup2 {v w : Value} (hd : decode X.2.2.1 pc = .ok (.dup2, 1)) (hv : v.category = 1) (hw : w.category = 1) (kk : Ex l E X d mc ms (pc + 1) L (v :: w :: v :: w :: st) G ce sl Po) : Ex l E X d mc ms pc L (v :: w :: st) G ce sl Po := by
  intro p e R s m args below meth c H locs ls Q C h1 h2 hlv hH hz hq
  exact lv_dup2_11 C.1 C.2.1 hd (by rw [rv_cat]; exact hv) (by rw [rv_cat]; exact hw) (kk p e R s m args below meth c H locs ls Q C h1 h2 hlv hH hz hq)
theorem ex_if_eq {x : Int32} {off : Int} (tgt : Nat) (hd : decode X.2.2.1 pc = .ok (.ifCond .eq off, 3)) (ht : (pc : Int) + off = (tgt : Int)) (kt : x = 0 → Ex l E X d mc ms tgt L st G ce sl Po) (kf : ¬ (x = 0) → Ex l E X d mc ms (pc + 3) L st G ce sl Po) : Ex l E X d mc ms pc L (.int x :: st) G ce sl Po := by
  intro p e R s m args below meth c H locs ls Q C h1 h2 hlv hH hz hq
  exact lv_if_eq C.1 C.2.1 hd ht (fun z => kt z p e R s m args below meth c H locs ls Q C h1 h2 hlv hH hz hq) (fun z => kf z p e R s m args below meth c H locs ls Q C h1 h2 hlv hH hz hq)
theorem ex_icmp_eq {x y : Int32} {off : Int} (tgt : Nat) (hd : decode X.2.2.1 pc = .ok (.if_icmp .eq off, 3)) (ht : (pc : Int) + off = (tgt : Int)) (kt : x = y → Ex l E X d mc ms tgt L st G ce sl Po) (kf : ¬ (x = y) → Ex l E X d mc ms (pc + 3) L st G ce sl Po) : Ex l E X d mc ms pc L (.int y :: .int x :: st) G ce sl Po := by
  intro p e R s m args below meth c H locs ls Q C h1 h2 hlv hH hz hq
  exact lv_icmp_eq C.1 C.2.1 hd ht (fun z => kt z p e R s m args below meth c H locs ls Q C h1 h2 hlv hH hz hq) (fun z => kf z p e R s m args below meth c H locs ls Q C h1 h2 hlv hH hz hq)
theorem ex_if_ne {x : Int32} {off : Int} (tgt : Nat) (hd : decode X.2.2.1 pc = .ok (.ifCond .ne off, 3)) (ht : (pc : Int) + off = (tgt : Int)) (kt : ¬ x = 0 → Ex l E X d mc ms tgt L st G ce sl Po) (kf : x = 0 → Ex l E X d mc ms (pc + 3) L st G ce sl Po) : Ex l E X d mc ms pc L (.int x :: st) G ce sl Po := by
  intro p e R s m args below meth c H locs ls Q C h1 h2 hlv hH hz hq
  exact lv_if_ne C.1 C.2.1 hd ht (fun z => kt z p e R s m args below meth c H locs ls Q C h1 h2 hlv hH hz hq) (fun z => kf z p e R s m args below meth c H locs ls Q C h1 h2 hlv hH hz hq)
theorem ex_icmp_ne {x y : Int32} {off : Int} (tgt : Nat) (hd : decode X.2.2.1 pc = .ok (.if_icmp .ne off, 3)) (ht : (pc : Int) + off = (tgt : Int)) (kt : ¬ x = y → Ex l E X d mc ms tgt L st G ce sl Po) (kf : x = y → Ex l E X d mc ms (pc + 3) L st G ce sl Po) : Ex l E X d mc ms pc L (.int y :: .int x :: st) G ce sl Po := by
  intro p e R s m args below meth c H locs ls Q C h1 h2 hlv hH hz hq
  exact lv_icmp_ne C.1 C.2.1 hd ht (fun z => kt z p e R s m args below meth c H locs ls Q C h1 h2 hlv hH hz hq) (fun z => kf z p e R s m args below meth c H locs ls Q C h1 h2 hlv hH hz hq)
theorem ex_if_lt {x : Int32} {off : Int} (tgt : Nat) (hd : decode X.2.2.1 pc = .ok (.ifCond .lt off, 3)) (ht : (pc : Int) + off = (tgt : Int)) (kt : x < 0 → Ex l E X d mc ms tgt L st G ce sl Po) (kf : ¬ (x < 0) → Ex l E X d mc ms (pc + 3) L st G ce sl Po) : Ex l E X d mc ms pc L (.int x :: st) G ce sl Po := by
  intro p e R s m args below meth c H locs ls Q C h1 h2 hlv hH hz hq
  exact lv_if_lt C.1 C.2.1 hd ht (fun z => kt z p e R s m args below meth c H locs ls Q C h1 h2 hlv hH hz hq) (fun z => kf z p e R s m args below meth c H locs ls Q C h1 h2 hlv hH hz hq)
theorem ex_icmp_lt {x y : Int32} {off : Int} (tgt : Nat) (hd : decode X.2.2.1 pc = .ok (.if_icmp .lt off, 3)) (ht : (pc : Int) + off = (tgt : Int)) (kt : x < y → Ex l E X d mc ms tgt L st G ce sl Po) (kf : ¬ (x < y) → Ex l E X d mc ms (pc + 3) L st G ce sl Po) : Ex l E X d mc ms pc L (.int y :: .int x :: st) G ce sl Po := by
  intro p e R s m args below meth c H locs ls Q C h1 h2 hlv hH hz hq
  exact lv_icmp_lt C.1 C.2.1 hd ht (fun z => kt z p e R s m args below meth c H locs ls Q C h1 h2 hlv hH hz hq) (fun z => kf z p e R s m args below meth c H locs ls Q C h1 h2 hlv hH hz hq)
theorem ex_if_ge {x : Int32} {off : Int} (tgt : Nat) (hd : decode X.2.2.1 pc = .ok (.ifCond .ge off, 3)) (ht : (pc : Int) + off = (tgt : Int)) (kt : 0 ≤ x → Ex l E X d mc ms tgt L st G ce sl Po) (kf : ¬ (0 ≤ x) → Ex l E X d mc ms (pc + 3) L st G ce sl Po) : Ex l E X d mc ms pc L (.int x :: st) G ce sl Po := by
  intro p e R s m args below meth c H locs ls Q C h1 h2 hlv hH hz hq
  exact lv_if_ge C.1 C.2.1 hd ht (fun z => kt z p e R s m args below meth c H locs ls Q C h1 h2 hlv hH hz hq) (fun z => kf z p e R s m args below meth c H locs ls Q C h1 h2 hlv hH hz hq)
theorem ex_icmp_ge {x y : Int32} {off : Int} (tgt : Nat) (hd : decode X.2.2.1 pc = .ok (.if_icmp .ge off, 3)) (ht : (pc : Int) + off = (tgt : Int)) (kt : y ≤ x → Ex l E X d mc ms tgt L st G ce sl Po) (kf : ¬ (y ≤ x) → Ex l E X d mc ms (pc + 3) L st G ce sl Po) : Ex l E X d mc ms pc L (.int y :: .int x :: st) G ce sl Po := by
  intro p e R s m args below meth c H locs ls Q C h1 h2 hlv hH hz hq
  exact lv_icmp_ge C.1 C.2.1 hd ht (fun z => kt z p e R s m args below meth c H locs ls Q C h1 h2 hlv hH hz hq) (fun z => kf z p e R s m args below meth c H locs ls Q C h1 h2 hlv hH hz hq)
theorem ex_if_gt {x : Int32} {off : Int} (tgt : Nat) (hd : decode X.2.2.1 pc = .ok (.ifCond .gt off, 3)) (ht : (pc : Int) + off = (tgt : Int)) (kt : 0 < x → Ex l E X d mc ms tgt L st G ce sl Po) (kf : ¬ (0 < x) → Ex l E X d mc ms (pc + 3) L st G ce sl Po) : Ex l E X d mc ms pc L (.int x :: st) G ce sl Po := by
  intro p e R s m args below meth c H locs ls Q C h1 h2 hlv hH hz hq
  exact lv_if_gt C.1 C.2.1 hd ht (fun z => kt z p e R s m args below meth c H locs ls Q C h1 h2 hlv hH hz hq) (fun z => kf z p e R s m args below meth c H locs ls Q C h1 h2 hlv hH hz hq)
theorem ex_icmp_gt {x y : Int32} {off : Int} (tgt : Nat) (hd : decode X.2.2.1 pc = .ok (.if_icmp .gt off, 3)) (ht : (pc : Int) + off = (tgt : Int)) (kt : y < x → Ex l E X d mc ms tgt L st G ce sl Po) (kf : ¬ (y < x) → Ex l E X d mc ms (pc + 3) L st G ce sl Po) : Ex l E X d mc ms pc L (.int y :: .int x :: st) G ce sl Po := by
  intro p e R s m args below meth c H locs ls Q C h1 h2 hlv hH hz hq
  exact lv_icmp_gt C.1 C.2.1 hd ht (fun z => kt z p e R s m args below meth c H locs ls Q C h1 h2 hlv hH hz hq) (fun z => kf z p e R s m args below meth c H locs ls Q C h1 h2 hlv hH hz hq)
theorem ex_if_le {x : Int32} {off : Int} (tgt : Nat) (hd : decode X.2.2.1 pc = .ok (.ifCond .le off, 3)) (ht : (pc : Int) + off = (tgt : Int)) (kt : x ≤ 0 → Ex l E X d mc ms tgt L st G ce sl Po) (kf : ¬ (x ≤ 0) → Ex l E X d mc ms (pc + 3) L st G ce sl Po) : Ex l E X d mc ms pc L (.int x :: st) G ce sl Po := by
  intro p e R s m args below meth c H locs ls Q C h1 h2 hlv hH hz hq
  exact lv_if_le C.1 C.2.1 hd ht (fun z => kt z p e R s m args below meth c H locs ls Q C h1 h2 hlv hH hz hq) (fun z => kf z p e R s m args below meth c H locs ls Q C h1 h2 hlv hH hz hq)
theorem ex_icmp_le {x y : Int32} {off : Int} (tgt : Nat) (hd : decode X.2.2.1 pc = .ok (.if_icmp .le off, 3)) (ht : (pc : Int) + off = (tgt : Int)) (kt : x ≤ y → Ex l E X d mc ms tgt L st G ce sl Po) (kf : ¬ (x ≤ y) → Ex l E X d mc ms (pc + 3) L st G ce sl Po) : Ex l E X d mc ms pc L (.int y :: .int x :: st) G ce sl Po := by
  intro p e R s m args below meth c H locs ls Q C h1 h2 hlv hH hz hq
  exact lv_icmp_le C.1 C.2.1 hd ht (fun z => kt z p e R s m args below meth c H locs ls Q C h1 h2 hlv hH hz hq) (fun z => kf z p e R s m args below meth c H locs ls Q C h1 h2 hlv hH hz hq)
theorem ex_goto {off : Int} (tgt : Nat) (hd : decode X.2.2.1 pc = .ok (.goto off, 3)) (ht : (pc : Int) + off = (tgt : Int)) (kk : Ex l E X d mc ms tgt L st G ce sl Po) : Ex l E X d mc ms pc L st G ce sl Po := by
  intro p e R s m args below meth c H locs ls Q C h1 h2 hlv hH hz hq
  exact lv_goto C.1 C.2.1 hd ht (kk p e R s m args below meth c H locs ls Q C h1 h2 hlv hH hz hq)
theorem ex_tswO {dflt lo hi : Int} {offs : Array Int} {len : Nat} {x : Int32} (tgt : Nat) (hd : decode X.2.2.1 pc = .ok (.tableswitch dflt lo hi offs, len)) (h : x.toInt < lo ∨ hi < x.toInt) (ht : (pc : Int) + dflt = (tgt : Int)) (kk : Ex l E X d mc ms tgt L st G ce sl Po) : Ex l E X d mc ms pc L (.int x :: st) G ce sl Po := by
  intro p e R s m args below meth c H locs ls Q C h1 h2 hlv hH hz hq
  exact lv_tableOut C.1 C.2.1 hd h ht (kk p e R s m args below meth c H locs ls Q C h1 h2 hlv hH hz hq)
theorem ex_tswI {dflt lo hi : Int} {offs : Array Int} {len : Nat} {x : Int32} (k : Int32) (off : Int) (tgt : Nat) (hd : decode X.2.2.1 pc = .ok (.tableswitch dflt lo hi offs, len)) (hk : x = k) (hr : (¬ k.toInt < lo ∧ ¬ hi < k.toInt) ∧ offs[(k.toInt - lo).toNat]? = some off) (ht : (pc : Int) + off = (tgt : Int)) (kk : Ex l E X d mc ms tgt L st G ce sl Po) : Ex l E X d mc ms pc L (.int x :: st) G ce sl Po := by
  intro p e R s m args below meth c H locs ls Q C h1 h2 hlv hH hz hq
  subst hk
  exact lv_tableIn C.1 C.2.1 hd hr.1.1 hr.1.2 hr.2 ht (kk p e R s m args below meth c H locs ls Q C h1 h2 hlv hH hz hq)
theorem ex_lsw {dflt : Int} {ps : Array (Int × Int)} {len : Nat} {x : Int32} (off : Int) (tgt : Nat) (hd : decode X.2.2.1 pc = .ok (.lookupswitch dflt ps, len)) (hp : (ps.toList.zip (ps.toList.drop 1)).all (fun (a, next) => a.1 < next.1) = true) (ho : Op.lookupswitch.offset ps.toList dflt x.toInt = off) (ht : (pc : Int) + off = (tgt : Int)) (kk : Ex l E X d mc ms tgt L st G ce sl Po) : Ex l E X d mc ms pc L (.int x :: st) G ce sl Po := by
  intro p e R s m args below meth c H locs ls Q C h1 h2 hlv hH hz hq
  exact lv_lookup C.1 C.2.1 hd hp ho ht (kk p e R s m args below meth c H locs ls Q C h1 h2 hlv hH hz hq)
theorem ex_ldc {index : Nat} (v : Int32) (hd : decode X.2.2.1 pc = .ok (.ldc index, 2)) (hw : Cond.constant X.1 index v ∈ lw_tbl) (kk : Ex l E X d mc ms (pc + 2) L (.int v :: st) G ce sl Po) : Ex l E X d mc ms pc L st G ce sl Po := by
  intro p e R s m args below meth c H locs ls Q C h1 h2 hlv hH hz hq
  exact lv_ldc C.1 C.2.1 C.2.2.2.1 (C.2.2.2.2.2.1.word hw rfl) hd (kk p e R s m args below meth c H locs ls Q C h1 h2 hlv hH hz hq)
theorem ex_ldcw {index : Nat} (v : Int32) (hd : decode X.2.2.1 pc = .ok (.ldc_w index, 3)) (hw : Cond.constant X.1 index v ∈ lw_tbl) (kk : Ex l E X d mc ms (pc + 3) L (.int v :: st) G ce sl Po) : Ex l E X d mc ms pc L st G ce sl Po := by
  intro p e R s m args below meth c H locs ls Q C h1 h2 hlv hH hz hq
  exact lv_ldcw C.1 C.2.1 C.2.2.2.1 (C.2.2.2.2.2.1.word hw rfl) hd (kk p e R s m args below meth c H locs ls Q C h1 h2 hlv hH hz hq)
theorem ex_ldc2 {index : Nat} (v : Int64) (hd : decode X.2.2.1 pc = .ok (.ldc2_w index, 3)) (hw : Cond.constantLong X.1 index v ∈ lw_tbl) (kk : Ex l E X d mc ms (pc + 3) L (.long v :: st) G ce sl Po) : Ex l E X d mc ms pc L st G ce sl Po := by
  intro p e R s m args below meth c H locs ls Q C h1 h2 hlv hH hz hq
  exact lv_ldc2 C.1 C.2.1 C.2.2.2.1 (C.2.2.2.2.2.1.word hw rfl) hd (kk p e R s m args below meth c H locs ls Q C h1 h2 hlv hH hz hq)
theorem ex_ldcS {index : Nat} (j : Nat) {tx : String} (hd : decode X.2.2.1 pc = .ok (.ldc index, 2)) (hj : strS[j]? = some (X.1, index, tx)) (kk : Ex l E X d mc ms (pc + 2) L (.ref (1000001 + j) :: st) G ce sl Po) : Ex l E X d mc ms pc L st G ce sl Po := by
  intro p e R s m args below meth c H locs ls Q C h1 h2 hlv hH hz hq
  have hZ := C.2.2.2.2.2.1.2.2.1.2 j _ hj
  have hj2 : j < 24 := (List.getElem?_eq_some_iff.mp hj).1
  have ha : al E (1000001 + j) = eK E j := by
    unfold al
    rw [if_neg (by omega), if_neg (by omega), if_pos (by omega), show 1000001 + j - 1000001 = j by omega]
  refine va_ldcS C.1 C.2.1 C.2.2.2.1 hZ hd ?_
  have := kk p e R s m args below meth c H locs ls Q C h1 h2 hlv hH hz hq
  simp only [List.map_cons, rv, ha] at this
  exact this
end RO
