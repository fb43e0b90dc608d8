/-! ===== THE FLAT MEMORY: all cells stand, ints alone change ===== -/
abbrev SH : Type := (Nat × List (Option Nat)) ⊕ (Nat ⊕ (Nat × List Nat))
abbrev Mem : Type := Nat → Nat → Int32
/-- every cell that the two constructors make, in the order in which they are made -/
def shp : List SH := [
  .inl (10, [some 1, some 27, some 53, some 79, some 97, some 115, some 136, some 141, some 142, some 151, none]),
  .inl (6, [some 2, some 4, some 6, some 8, some 10, some 12, some 14, some 22, some 26, none, none, none, none, none, none, none]),
  .inl (8, [none, none, some 3, none]),
  .inr (.inl 12),
  .inl (8, [none, none, some 5, none]),
  .inr (.inl 36),
  .inl (8, [none, none, some 7, none]),
  .inr (.inl 60),
  .inl (8, [none, none, some 9, none]),
  .inr (.inl 84),
  .inl (8, [none, none, some 11, none]),
  .inr (.inl 70),
  .inl (8, [none, none, some 13, none]),
  .inr (.inl 600),
  .inl (2, [some 15, some 16, some 17, some 18, some 19, some 20, some 21, none, none]),
  .inr (.inl 16),
  .inr (.inl 16),
  .inr (.inl 16),
  .inr (.inl 16),
  .inr (.inl 400),
  .inr (.inl 400),
  .inr (.inl 32),
  .inl (1, [some 23, some 24, some 25, none, none, none, none]),
  .inr (.inl 14),
  .inr (.inl 14),
  .inr (.inl 14),
  .inr (.inl 7),
  .inl (6, [some 28, some 30, some 32, some 34, some 36, some 38, some 40, some 48, some 52, none, none, none, none, none, none, none]),
  .inl (8, [none, none, some 29, none]),
  .inr (.inl 12),
  .inl (8, [none, none, some 31, none]),
  .inr (.inl 36),
  .inl (8, [none, none, some 33, none]),
  .inr (.inl 60),
  .inl (8, [none, none, some 35, none]),
  .inr (.inl 84),
  .inl (8, [none, none, some 37, none]),
  .inr (.inl 70),
  .inl (8, [none, none, some 39, none]),
  .inr (.inl 600),
  .inl (2, [some 41, some 42, some 43, some 44, some 45, some 46, some 47, none, none]),
  .inr (.inl 16),
  .inr (.inl 16),
  .inr (.inl 16),
  .inr (.inl 16),
  .inr (.inl 400),
  .inr (.inl 400),
  .inr (.inl 32),
  .inl (1, [some 49, some 50, some 51, none, none, none, none]),
  .inr (.inl 14),
  .inr (.inl 14),
  .inr (.inl 14),
  .inr (.inl 7),
  .inl (6, [some 54, some 56, some 58, some 60, some 62, some 64, some 66, some 74, some 78, none, none, none, none, none, none, none]),
  .inl (8, [none, none, some 55, none]),
  .inr (.inl 12),
  .inl (8, [none, none, some 57, none]),
  .inr (.inl 36),
  .inl (8, [none, none, some 59, none]),
  .inr (.inl 60),
  .inl (8, [none, none, some 61, none]),
  .inr (.inl 84),
  .inl (8, [none, none, some 63, none]),
  .inr (.inl 70),
  .inl (8, [none, none, some 65, none]),
  .inr (.inl 600),
  .inl (2, [some 67, some 68, some 69, some 70, some 71, some 72, some 73, none, none]),
  .inr (.inl 16),
  .inr (.inl 16),
  .inr (.inl 16),
  .inr (.inl 16),
  .inr (.inl 400),
  .inr (.inl 400),
  .inr (.inl 32),
  .inl (1, [some 75, some 76, some 77, none, none, none, none]),
  .inr (.inl 14),
  .inr (.inl 14),
  .inr (.inl 14),
  .inr (.inl 7),
  .inl (5, [some 80, some 82, some 84, some 86, some 88, some 96]),
  .inl (8, [none, none, some 81, none]),
  .inr (.inl 12),
  .inl (8, [none, none, some 83, none]),
  .inr (.inl 12),
  .inl (8, [none, none, some 85, none]),
  .inr (.inl 6),
  .inl (8, [none, none, some 87, none]),
  .inr (.inl 32),
  .inr (.inr (2, [89, 90, 91, 92, 93, 94, 95])),
  .inr (.inl 100),
  .inr (.inl 100),
  .inr (.inl 100),
  .inr (.inl 100),
  .inr (.inl 100),
  .inr (.inl 100),
  .inr (.inl 100),
  .inr (.inl 256),
  .inl (5, [some 98, some 100, some 102, some 104, some 106, some 114]),
  .inl (8, [none, none, some 99, none]),
  .inr (.inl 12),
  .inl (8, [none, none, some 101, none]),
  .inr (.inl 12),
  .inl (8, [none, none, some 103, none]),
  .inr (.inl 6),
  .inl (8, [none, none, some 105, none]),
  .inr (.inl 32),
  .inr (.inr (2, [107, 108, 109, 110, 111, 112, 113])),
  .inr (.inl 100),
  .inr (.inl 100),
  .inr (.inl 100),
  .inr (.inl 100),
  .inr (.inl 100),
  .inr (.inl 100),
  .inr (.inl 100),
  .inr (.inl 256),
  .inl (7, [some 116, some 117, none, none]),
  .inr (.inr (1, [124, 126, 128, 130, 132, 134])),
  .inr (.inr (2, [118, 119, 120, 121, 122, 123])),
  .inr (.inl 7),
  .inr (.inl 7),
  .inr (.inl 7),
  .inr (.inl 7),
  .inr (.inl 7),
  .inr (.inl 7),
  .inl (8, [none, none, some 125, none]),
  .inr (.inl 70),
  .inl (8, [none, none, some 127, none]),
  .inr (.inl 70),
  .inl (8, [none, none, some 129, none]),
  .inr (.inl 70),
  .inl (8, [none, none, some 131, none]),
  .inr (.inl 70),
  .inl (8, [none, none, some 133, none]),
  .inr (.inl 70),
  .inl (8, [none, none, some 135, none]),
  .inr (.inl 70),
  .inl (9, [some 137, some 138, some 139, some 140, none, none, none, none, none]),
  .inr (.inl 400),
  .inr (.inl 401),
  .inr (.inl 401),
  .inr (.inl 401),
  .inl (4, [some 136]),
  .inl (3, [some 136, some 143]),
  .inl (2, [some 144, some 145, some 146, some 147, some 148, some 149, some 150, none, none]),
  .inr (.inl 16),
  .inr (.inl 16),
  .inr (.inl 16),
  .inr (.inl 16),
  .inr (.inl 400),
  .inr (.inl 400),
  .inr (.inl 32),
  .inl (0, [some 152, some 153, some 154, none, none]),
  .inr (.inl 1024),
  .inr (.inl 1024),
  .inr (.inl 6),
  .inl (11, [some 156, some 157, some 158, some 159, none, none, some 160, some 161, some 162, some 163, some 164, some 165, none, none, none, none, none, none, none, none, none, none, none, none, none, none, none, some 166, some 167, some 168]),
  .inr (.inl 1856),
  .inr (.inl 1856),
  .inr (.inl 480),
  .inr (.inl 80),
  .inr (.inl 64),
  .inr (.inl 820),
  .inr (.inl 120),
  .inr (.inl 400),
  .inr (.inl 420),
  .inr (.inl 8),
  .inr (.inl 700),
  .inr (.inl 1024),
  .inr (.inl 6)]
def mkS (s : SH) (f : Nat → Int32) : GE := match s with
  | .inl (ci, sl) => .inr (ci, sl.mapIdx (fun j o => match o with | some r => .ref r | none => .int (f j)))
  | .inr (.inl n) => .inl (0, n, .inl f)
  | .inr (.inr (t, rs)) => .inl (t, rs.length, .inr (.inr (.inr (.inr (fun i => rs[i]?)))))
def gh (M : Mem) : GH := shp.mapIdx (fun k s => mkS s (M k))
def up2 (M : Mem) (a j : Nat) (x : Int32) : Mem := fun a' => if a' = a then upd (M a) j x else M a'
def upA (M : Mem) (a : Nat) (f : Nat → Int32) : Mem := fun a' => if a' = a then f else M a'
/-- the class of the object there; its references; the length of the int array there; the references of the array there -/
def oc (a : Nat) : Option Nat := match shp[a]? with
  | some (.inl (ci, _)) => some ci
  | _ => none
def rf (a k : Nat) : Option Nat := match shp[a]? with
  | some (.inl (_, sl)) => sl[k]?.join
  | _ => none
def isi (a k : Nat) : Bool := match shp[a]? with
  | some (.inl (_, sl)) => sl[k]? == some none
  | _ => false
def la (a : Nat) : Option Nat := match shp[a]? with
  | some (.inr (.inl n)) => some n
  | _ => none
def inb (i : Int32) (n : Nat) : Bool := decide (0 ≤ i.toInt) && decide (i.toInt < n)
def rd (M : Mem) (a : Nat) (i : Int32) : Option Int32 := match la a with
  | some n => if inb i n then some (M a i.toNatClampNeg) else none
  | none => none
def wr (M : Mem) (a : Nat) (i x : Int32) : Option Mem := match la a with
  | some n => if inb i n then some (up2 M a i.toNatClampNeg x) else none
  | none => none
def ln (a : Nat) : Option Int32 := (la a).map Int32.ofNat
def rr (a : Nat) (i : Int32) : Option Nat := match shp[a]? with
  | some (.inr (.inr (_, rs))) => if inb i rs.length then rs[i.toNatClampNeg]? else none
  | _ => none
def cpy (M : Mem) (a0 : Nat) (sp : Int32) (a1 : Nat) (dp n : Int32) : Option Mem := match la a0, la a1 with
  | some n0, some n1 => if 0 ≤ sp.toInt ∧ 0 ≤ dp.toInt ∧ 0 ≤ n.toInt ∧ sp.toInt + n.toInt ≤ n0 ∧ dp.toInt + n.toInt ≤ n1 then some (upA M a1 (va_cpy (M a0) (M a1) sp.toNatClampNeg dp.toNatClampNeg n.toNatClampNeg)) else none
  | _, _ => none
theorem inb_in {i : Int32} {n : Nat} (h : inb i n = true) : vp_in i n := by
  unfold inb at h
  rw [Bool.and_eq_true, decide_eq_true_eq, decide_eq_true_eq] at h
  exact vp_in_iff.mpr h
theorem gh_get {M : Mem} {a : Nat} {s : SH} (h : shp[a]? = some s) : (gh M)[a]? = some (mkS s (M a)) := by
  simp [gh, List.getElem?_mapIdx, h]
theorem gh_len (M : Mem) : (gh M).length = shp.length := by simp [gh]
theorem shp_lt {a : Nat} {s : SH} (h : shp[a]? = some s) : a < 1000000 := Nat.lt_of_lt_of_le (List.getElem?_eq_some_iff.mp h).1 (by decide +kernel)
theorem gh_set {M : Mem} {a : Nat} {s : SH} {f : Nat → Int32} (h : shp[a]? = some s) : (gh M).set a (mkS s f) = gh (upA M a f) := by
  apply List.ext_getElem?
  intro i
  simp only [gh, List.getElem?_set, List.getElem?_mapIdx, List.length_mapIdx, upA]
  by_cases e : a = i
  · subst e
    have h2 := (List.getElem?_eq_some_iff.mp h).1
    simp only [if_pos h2, h, Option.map_some, if_true]
  · simp [e, Ne.symm e]
theorem upA_up2 {M : Mem} {a j : Nat} {x : Int32} : upA M a (upd (M a) j x) = up2 M a j x := rfl
theorem oc_inv {a ci : Nat} (h : oc a = some ci) : ∃ sl, shp[a]? = some (.inl (ci, sl)) := by
  unfold oc at h
  split at h
  · rename_i c s hs
    cases h
    exact ⟨s, hs⟩
  · cases h
theorem la_inv {a n : Nat} (h : la a = some n) : shp[a]? = some (.inr (.inl n)) := by
  unfold la at h
  split at h
  · rename_i k hs
    cases h
    exact hs
  · cases h
section RM
variable {l : Launch} {E : EV} {X : MI} {d : Nat} {pc : Nat} {L : List (Option Value)} {st : List Value} {M : Mem} {Po : GH → Option Value → Prop}
theorem mx_geti {index k a : Nat} (ci : Nat) (hd : decode X.2.2.1 pc = .ok (.getfield index, 3)) (hf : FL X.1 index ci k) (ho : oc a = some ci) (hi : isi a k = true) (kk : Ex l E X d 0 0 (pc + 3) L (.int (M a k) :: st) (gh M) 0 0 Po) : Ex l E X d 0 0 pc L (.ref a :: st) (gh M) 0 0 Po := by
  obtain ⟨sl, hs⟩ := oc_inv ho
  have hk : sl[k]? = some none := by
    unfold isi at hi
    rw [hs] at hi
    simpa using hi
  refine ex_getf hd hf (shp_lt hs) (gh_get hs) ?_ kk
  simp [List.getElem?_mapIdx, hk]
theorem mx_getr {index k a : Nat} (ci r : Nat) (hd : decode X.2.2.1 pc = .ok (.getfield index, 3)) (hf : FL X.1 index ci k) (ho : oc a = some ci) (hr : rf a k = some r) (kk : Ex l E X d 0 0 (pc + 3) L (.ref r :: st) (gh M) 0 0 Po) : Ex l E X d 0 0 pc L (.ref a :: st) (gh M) 0 0 Po := by
  obtain ⟨sl, hs⟩ := oc_inv ho
  have hk : sl[k]? = some (some r) := by
    unfold rf at hr
    rw [hs] at hr
    simp only at hr
    cases hq : sl[k]? with
    | none => rw [hq] at hr; simp at hr
    | some x => rw [hq] at hr; simp at hr; rw [hr]
  refine ex_getf hd hf (shp_lt hs) (gh_get hs) ?_ kk
  simp [List.getElem?_mapIdx, hk]
theorem mx_puti {index k a : Nat} {x : Int32} (ci : Nat) (hd : decode X.2.2.1 pc = .ok (.putfield index, 3)) (hf : FL X.1 index ci k) (hfin : ((cN ci).2.1 k).2.2.2 = false) (hv : narrow (tyC ci k) (.int x) = .int x ∧ fits (tyC ci k) (.int x) = true) (ho : oc a = some ci) (hi : isi a k = true) (kk : Ex l E X d 0 0 (pc + 3) L st (gh (up2 M a k x)) 0 0 Po) : Ex l E X d 0 0 pc L (.int x :: .ref a :: st) (gh M) 0 0 Po := by
  obtain ⟨sl, hs⟩ := oc_inv ho
  have hk : sl[k]? = some none := by
    unfold isi at hi
    rw [hs] at hi
    simpa using hi
  have hlt := (List.getElem?_eq_some_iff.mp hk).1
  refine ex_putf hd hf hfin (fun _ => hv) (shp_lt hs) (gh_get hs) (by simpa using hlt) ?_
  have e : (Sum.inr (ci, (sl.mapIdx (fun j o => match o with | some r => Value.ref r | none => Value.int (M a j))).set k (.int x)) : GE) = mkS (.inl (ci, sl)) (upd (M a) k x) := by
    simp only [mkS]
    congr 2
    apply List.ext_getElem?
    intro i
    simp only [List.getElem?_set, List.getElem?_mapIdx, List.length_mapIdx]
    by_cases e : k = i
    · subst e
      simp only [if_pos hlt, hk, Option.map_some, if_true, upd]
    · simp only [if_neg e]
      cases hq : sl[i]? with
      | none => rfl
      | some y => cases y <;> simp [upd, Ne.symm e]
  rw [e, gh_set hs, upA_up2]
  exact kk
theorem mx_iald {a : Nat} {i : Int32} (x : Int32) (hd : decode X.2.2.1 pc = .ok (.iaload, 1)) (h : rd M a i = some x) (kk : Ex l E X d 0 0 (pc + 1) L (.int x :: st) (gh M) 0 0 Po) : Ex l E X d 0 0 pc L (.int i :: .ref a :: st) (gh M) 0 0 Po := by
  unfold rd at h
  split at h
  · rename_i n hn
    split at h
    · rename_i hi
      cases h
      exact ex_iald hd (shp_lt (la_inv hn)) (gh_get (la_inv hn)) (inb_in hi) kk
    · cases h
  · cases h
theorem mx_iast {a : Nat} {i x : Int32} (M' : Mem) (hd : decode X.2.2.1 pc = .ok (.iastore, 1)) (h : wr M a i x = some M') (kk : Ex l E X d 0 0 (pc + 1) L st (gh M') 0 0 Po) : Ex l E X d 0 0 pc L (.int x :: .int i :: .ref a :: st) (gh M) 0 0 Po := by
  unfold wr at h
  split at h
  · rename_i n hn
    split at h
    · rename_i hi
      cases h
      refine ex_iast hd (shp_lt (la_inv hn)) (gh_get (la_inv hn)) (inb_in hi) ?_
      rw [show (Sum.inl (0, n, Sum.inl (upd (M a) i.toNatClampNeg x)) : GE) = mkS (.inr (.inl n)) (upd (M a) i.toNatClampNeg x) from rfl, gh_set (la_inv hn), upA_up2]
      exact kk
    · cases h
  · cases h
theorem mx_alen {a : Nat} (v : Int32) (hd : decode X.2.2.1 pc = .ok (.arraylength, 1)) (h : ln a = some v) (kk : Ex l E X d 0 0 (pc + 1) L (.int v :: st) (gh M) 0 0 Po) : Ex l E X d 0 0 pc L (.ref a :: st) (gh M) 0 0 Po := by
  unfold ln at h
  cases hn : la a with
  | none => rw [hn] at h; cases h
  | some n =>
    rw [hn] at h
    cases h
    exact ex_alen hd (shp_lt (la_inv hn)) (gh_get (la_inv hn)) rfl kk
theorem rr_lt : shp.all (fun s => match s with | .inr (.inr (t, rs)) => (t == 1 || t == 2) && rs.all (fun r => decide (r < 1000000)) | _ => true) = true := by decide +kernel
theorem mx_aald {a : Nat} {i : Int32} (r : Nat) (hd : decode X.2.2.1 pc = .ok (.aaload, 1)) (h : rr a i = some r) (kk : Ex l E X d 0 0 (pc + 1) L (.ref r :: st) (gh M) 0 0 Po) : Ex l E X d 0 0 pc L (.int i :: .ref a :: st) (gh M) 0 0 Po := by
  unfold rr at h
  split at h
  · rename_i t rs hs
    split at h
    · rename_i hi
      have hall := List.all_eq_true.mp rr_lt _ (List.mem_of_getElem? hs)
      simp only [Bool.and_eq_true, Bool.or_eq_true, beq_iff_eq, List.all_eq_true, decide_eq_true_eq] at hall
      have hr := hall.2 r (List.mem_of_getElem? h)
      rcases hall.1 with e | e
      · subst e
        exact ex_aald hd (shp_lt hs) hr (gh_get hs) (inb_in hi) h kk
      · subst e
        exact ex_aald2 hd (shp_lt hs) hr (gh_get hs) (inb_in hi) h kk
    · cases h
  · cases h
/-- System.arraycopy of ints -/
theorem mx_copy {a0 a1 : Nat} {sp dp n : Int32} {index : Nat} (M' : Mem) (hd : decode X.2.2.1 pc = .ok (.invokestatic index, 3)) (hl : Cond.methodLink X.1 index arraycopyName ∈ lw_tbl) (hnat : Cond.native arraycopyName ∈ lw_tbl) (hstat : Cond.static arraycopyName ∈ lw_tbl) (hini : Cond.initialized "java/lang/System" ∈ lw_tbl) (hdd : 1 ≤ d) (hcat : (st.map fun v => v.category).sum ≤ 8) (h : cpy M a0 sp a1 dp n = some M') (kk : Ex l E X d 0 0 (pc + 3) L st (gh M') 0 0 Po) : Ex l E X d 0 0 pc L (.int n :: .int dp :: .ref a1 :: .int sp :: .ref a0 :: st) (gh M) 0 0 Po := by
  unfold cpy at h
  split at h
  · rename_i n0 n1 h0 h1
    split at h
    · rename_i hc
      cases h
      intro p e R s m args below meth c H locs ls Q C g1 g2 hlv hH hz hq
      have he0 := wd_get (E := E) (gh_get (M := M) (la_inv h0))
      have he1 := wd_get (E := E) (gh_get (M := M) (la_inv h1))
      have hen := C.2.2.2.2.2.1
      have hfr := C.2.2.2.2.2.2.2
      have nn : ∀ z : Int32, 0 ≤ z.toInt → ¬ z < 0 := fun z hz q => by
        have := Int32.lt_iff_toInt_lt.mp q
        simp at this
        omega
      have nc : ∀ z : Int32, 0 ≤ z.toInt → (z.toNatClampNeg : Int) = z.toInt := fun z hz => by
        show ((z.toInt.toNat : Nat) : Int) = _
        omega
      have e1 := nc sp hc.1
      have e2 := nc dp hc.2.1
      have e3 := nc n hc.2.2.1
      simp only [List.map_cons, rv, al_lt (shp_lt (la_inv h0)), al_lt (shp_lt (la_inv h1))]
      refine va_copyi (ty := .int) C.1 C.2.1 (C.2.2.1.trans hlv.1.symm) C.2.2.2.1 (hen.word hl rfl) (hen.word hnat rfl) (hen.word hstat rfl) (hen.word hini rfl) hen.2.1 hH.1 wd_D hH.2 a0 a1 0 0 he0 he1 rfl rfl rfl (nn _ hc.1) (nn _ hc.2.1) (nn _ hc.2.2.1) (by omega) (by omega) (fun _ _ => rfl) (by omega) ?_ hd ?_
      · rw [cat_map]
        have : nativeFrameWords "java/lang/System" "arraycopy" 5 + 11 ≤ 42 := by decide +kernel
        omega
      · intro H1 locs1 a1' _ a3
        rw [show (Sum.inl (eC E 0, n1, Sum.inl (va_cpy (M a0) (M a1) sp.toNatClampNeg dp.toNatClampNeg n.toNatClampNeg)) : va_E) = re E (mkS (.inr (.inl n1)) (va_cpy (M a0) (M a1) sp.toNatClampNeg dp.toNatClampNeg n.toNatClampNeg)) from rfl, wd_set, gh_set (la_inv h1)] at a1'
        exact kk p e R s m args below meth c H1 locs1 ls Q C g1 g2 hlv ⟨a1', a3⟩ (by rw [gh_len] at hz ⊢; exact hz) hq
    · cases h
  · cases h
/-- a contract over the flat memory: what the method answers, what the memory is then -/
def RunM (l : Launch) (E : EV) (y : MethodName) (cc : ByteArray) (nL : Nat) (ret : Option FieldType) (d : Nat) (vs : List Value) (M M' : Mem) (v : Option Value) : Prop := Run l E y cc nL ret d 0 0 vs (gh M) (fun G w => (G = gh M' ∧ w = v) ∧ retOK ret w)
abbrev XM (l : Launch) (E : EV) (X : MI) (ret : Option FieldType) (d pc : Nat) (L : List (Option Value)) (st : List Value) (M Mf : Mem) (vf : Option Value) : Prop := Ex l E X d 0 0 pc L st (gh M) 0 0 (fun G w => (G = gh Mf ∧ w = vf) ∧ retOK ret w)
theorem RunM.of {y : MethodName} {cc : ByteArray} {nL : Nat} {ret : Option FieldType} {vs : List Value} {M' : Mem} {v : Option Value} (hy : plainName y.cls = true) (hvs : (entL vs).length ≤ nL) (h : XM l E (y.cls, y.name, cc, nL) ret d 0 (ent vs nL) [] M M' v) : RunM l E y cc nL ret d vs M M' v :=
  Run.of hy hvs (fun G w q => q.2) h
theorem ex_mskL {L2 : List (Option Value)} {G : GH} {ce sl mc ms : Nat} (bs : List Bool) (h : msk bs L = L2) (kk : Ex l E X d mc ms pc L2 st G ce sl Po) : Ex l E X d mc ms pc L st G ce sl Po := by
  subst h
  exact ex_msk bs kk
theorem mx_callV {index : Nat} {y : MethodName} {cc' : ByteArray} {nL' : Nat} {ret : Option FieldType} {d' ci b : Nat} {As stk : List Value} {M' : Mem} {v : Option Value} (hd : decode X.2.2.1 pc = .ok (.invokevirtual index, 3)) (hc : CL X.1 index y cc' nL' ret As.length) (hi : Cond.instanceMethod y ∈ lw_tbl ∧ Cond.selects y.cls y y ∈ lw_tbl) (hci : ci < 12 ∧ (cN ci).1 = y.cls) (ho : oc b = some ci) (hst : stk = As.reverse ++ .ref b :: st) (hcat : (st.map fun v => v.category).sum ≤ 8) (hdd : d' + 1 ≤ d) (hrun : RunM l E y cc' nL' ret d' (.ref b :: As) M M' v) (kk : Ex l E X d 0 0 (pc + 3) L (v.toList ++ st) (gh M') 0 0 Po) : Ex l E X d 0 0 pc L stk (gh M) 0 0 Po := by
  obtain ⟨sl, hs⟩ := oc_inv ho
  exact ex_callV hd hc hi hci (shp_lt hs) (gh_get hs) hst hcat hdd ⟨Nat.le_refl _, Nat.le_refl _⟩ hrun (fun G' w q => by rw [q.1.1, gh_len, gh_len]; rfl) (fun G' w q => by rw [q.1.1, q.1.2]; exact kk)
theorem mx_callS {index : Nat} {y : MethodName} {cc' : ByteArray} {nL' : Nat} {ret : Option FieldType} {d' : Nat} {As stk : List Value} {M' : Mem} {v : Option Value} (hd : decode X.2.2.1 pc = .ok (.invokestatic index, 3)) (hc : CL X.1 index y cc' nL' ret As.length) (hi : Cond.static y ∈ lw_tbl) (hst : stk = As.reverse ++ st) (hcat : (st.map fun v => v.category).sum ≤ 8) (hdd : d' + 1 ≤ d) (hrun : RunM l E y cc' nL' ret d' As M M' v) (kk : Ex l E X d 0 0 (pc + 3) L (v.toList ++ st) (gh M') 0 0 Po) : Ex l E X d 0 0 pc L stk (gh M) 0 0 Po :=
  ex_callS hd hc hi hst hcat hdd ⟨Nat.le_refl _, Nat.le_refl _⟩ hrun (fun G' w q => by rw [q.1.1, gh_len, gh_len]; rfl) (fun G' w q => by rw [q.1.1, q.1.2]; exact kk)
theorem mx_ret {ret : Option FieldType} {v : Option Value} (hd : decode X.2.2.1 pc = .ok (retI v, 1)) (hr : retOK ret v) : XM l E X ret d pc L v.toList M M v := ex_ret hd rfl (Nat.le_refl _) ⟨⟨rfl, rfl⟩, hr⟩
theorem mx_reti {ret : Option FieldType} (ty : FieldType) {x : Int32} (hd : decode X.2.2.1 pc = .ok (.ireturn, 1)) (hr : ret = some ty ∧ narrow ty (.int x) = .int x) : XM l E X ret d pc L [.int x] M M (some (.int x)) := mx_ret (v := some (.int x)) hd ⟨ty, hr⟩
theorem mx_retv {ret : Option FieldType} (hd : decode X.2.2.1 pc = .ok (.return_, 1)) (hr : ret = none) : XM l E X ret d pc L [] M M none := mx_ret (v := none) hd hr
theorem mx_retl {ret : Option FieldType} {x : Int64} (hd : decode X.2.2.1 pc = .ok (.lreturn, 1)) (hr : ret = some .long) : XM l E X ret d pc L [.long x] M M (some (.long x)) := mx_ret (v := some (.long x)) hd hr
theorem mx_reta {ret : Option FieldType} (n : String) {x : Nat} (hd : decode X.2.2.1 pc = .ok (.areturn, 1)) (hr : ret = some (.object n)) : XM l E X ret d pc L [.ref x] M M (some (.ref x)) := mx_ret (v := some (.ref x)) hd ⟨n, hr⟩
end RM
