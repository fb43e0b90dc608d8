/-! THE CLAIM OUT OF ONE WALK OF THE LAW'S BODY. Your part is whole_start (and what it stands on); all else here is the same for every law, but numbers. -/
def R_law : String := "CrustMarketLaw"
def lw_P (b : Addr) (xs : List Int32) (args : Array Value) (s : State) : Prop := args = #[.ref b] ∧ s.IntsAt b xs ∧ xs.length ≤ 3072 ∧ (Jvm.Cond.and given_1 narrow_1).before args s = true
def lw_Q (_ : Array Value) (s : State) (o : Outcome) (t : State) : Prop := o = .returned (some (.int 1)) ∧ Framed s o t [] 600000 7302249
def lw_Z (below : List Frame) (a : Array Value) (s : State) : State → Prop := fun t => ∃ o, t.status = .running ∧ Ended t below o ∧ lw_Q a s o t
/-- the law's own end, with 1 on the stack, nothing written that was there before, its room as the claim has it -/
theorem lw_ret {p : Program} {l : Launch} {e : Env} {s : State} {m : MethodId} {below : List Frame} {meth : Method} {c : Code} {b : Nat} (hx : p.tables.exec = Jvm.exec) (hb : c.code = code) (hr : meth.sig.returnType = ret) (hlocks : meth.locks = false) {pc : Nat} {H : Heap} {ls : Array Slot} (hdg : decode code pc = .ok (.ireturn, 1)) : W p l e room_1 s m #[Value.ref b] below meth c H [] 600000 7302249 (lw_Z below #[Value.ref b] s) (F0 m pc ls [.int 1]) := by
  intro T hT X
  obtain ⟨fs, hret, hrun, hended, hW, hframe⟩ := X.leave (v := some (.int 1)) (hlocks := hlocks) (fun h => by rw [hr] at h; cases h)
  have hmeth' : T.vm.method? m = some meth := X.method'
  refine ⟨T.setFrames fs, ?_, .returned (some (.int 1)), hrun, hended, rfl, ⟨_, rfl⟩, hW, hframe⟩
  jvm_step X.here [X.here.top, hx, hb, hdg, hmeth', hr, ret, narrow_b1]
  (try refine ⟨rfl, ?_⟩); (try refine ⟨rfl, ?_⟩)
  first | (intro acts; rw [hret _ acts rfl rfl rfl]) | rw [hret _ _ rfl rfl rfl]
  exact Steps.refl _
/-- what holds at the law's entry: the machine, the code, the tables' words (any of lw_tbl by 'hts w (by decide +kernel)'), the script of L ints xs at the cell b, what the Statement gives of the start (any of its parts by flat_of_before) -/
def lw_At (p : Program) (s : State) (m : MethodId) (meth : Method) (c : Code) (b L : Nat) (xs : Nat → Int32) : Prop :=
  p.tables.exec = Jvm.exec ∧ c.code = code ∧ meth.sig.returnType = ret ∧ c.maxLocals = 4 ∧ s.vm.findClass R_law = some m.cls ∧ (∀ w ∈ lw_tbl, w.before #[Value.ref b] s = true) ∧ va_X b L xs s s.heap ∧ b < s.heap.size ∧ meth.locks = false ∧ (Jvm.Cond.and given_1 narrow_1).before #[Value.ref b] s = true
/-! ===== THE START: both objects made; the law from its entry ===== -/
def gC (f88 f106 f116 f117 : Nat → Option Nat) : GH := [
  .inr (10, [.ref 1, .ref 27, .ref 53, .ref 79, .ref 97, .ref 115, .ref 136, .ref 141, .ref 142, .ref 151, .int 0]),
  .inr (6, [.ref 2, .ref 4, .ref 6, .ref 8, .ref 10, .ref 12, .ref 14, .ref 22, .ref 26, .int 0, .int 0, .int 100, .int 0, .int 0, .int 0, .int 0]),
  .inr (8, [.int 6, .int 2, .ref 3, .int 0]),
  .inl (0, 12, .inl (fun _ => 0)),
  .inr (8, [.int 12, .int 3, .ref 5, .int 0]),
  .inl (0, 36, .inl (fun _ => 0)),
  .inr (8, [.int 12, .int 5, .ref 7, .int 0]),
  .inl (0, 60, .inl (fun _ => 0)),
  .inr (8, [.int 12, .int 7, .ref 9, .int 0]),
  .inl (0, 84, .inl (fun _ => 0)),
  .inr (8, [.int 14, .int 5, .ref 11, .int 0]),
  .inl (0, 70, .inl (fun _ => 0)),
  .inr (8, [.int 150, .int 4, .ref 13, .int 0]),
  .inl (0, 600, .inl (fun _ => 0)),
  .inr (2, [.ref 15, .ref 16, .ref 17, .ref 18, .ref 19, .ref 20, .ref 21, .int 0, .int 0]),
  .inl (0, 16, .inl (fun _ => 0)),
  .inl (0, 16, .inl (fun _ => 0)),
  .inl (0, 16, .inl (fun _ => 0)),
  .inl (0, 16, .inl (fun _ => 0)),
  .inl (0, 400, .inl (fun _ => 0)),
  .inl (0, 400, .inl (fun _ => 0)),
  .inl (0, 32, .inl (fun _ => 0)),
  .inr (1, [.ref 23, .ref 24, .ref 25, .int 0, .int 0, .int 0, .int 0]),
  .inl (0, 14, .inl (fun _ => 0)),
  .inl (0, 14, .inl (fun _ => 0)),
  .inl (0, 14, .inl (fun _ => 0)),
  .inl (0, 7, .inl (fun _ => 0)),
  .inr (6, [.ref 28, .ref 30, .ref 32, .ref 34, .ref 36, .ref 38, .ref 40, .ref 48, .ref 52, .int 0, .int 0, .int 100, .int 0, .int 0, .int 0, .int 0]),
  .inr (8, [.int 6, .int 2, .ref 29, .int 0]),
  .inl (0, 12, .inl (fun _ => 0)),
  .inr (8, [.int 12, .int 3, .ref 31, .int 0]),
  .inl (0, 36, .inl (fun _ => 0)),
  .inr (8, [.int 12, .int 5, .ref 33, .int 0]),
  .inl (0, 60, .inl (fun _ => 0)),
  .inr (8, [.int 12, .int 7, .ref 35, .int 0]),
  .inl (0, 84, .inl (fun _ => 0)),
  .inr (8, [.int 14, .int 5, .ref 37, .int 0]),
  .inl (0, 70, .inl (fun _ => 0)),
  .inr (8, [.int 150, .int 4, .ref 39, .int 0]),
  .inl (0, 600, .inl (fun _ => 0)),
  .inr (2, [.ref 41, .ref 42, .ref 43, .ref 44, .ref 45, .ref 46, .ref 47, .int 0, .int 0]),
  .inl (0, 16, .inl (fun _ => 0)),
  .inl (0, 16, .inl (fun _ => 0)),
  .inl (0, 16, .inl (fun _ => 0)),
  .inl (0, 16, .inl (fun _ => 0)),
  .inl (0, 400, .inl (fun _ => 0)),
  .inl (0, 400, .inl (fun _ => 0)),
  .inl (0, 32, .inl (fun _ => 0)),
  .inr (1, [.ref 49, .ref 50, .ref 51, .int 0, .int 0, .int 0, .int 0]),
  .inl (0, 14, .inl (fun _ => 0)),
  .inl (0, 14, .inl (fun _ => 0)),
  .inl (0, 14, .inl (fun _ => 0)),
  .inl (0, 7, .inl (fun _ => 0)),
  .inr (6, [.ref 54, .ref 56, .ref 58, .ref 60, .ref 62, .ref 64, .ref 66, .ref 74, .ref 78, .int 0, .int 0, .int 100, .int 0, .int 0, .int 0, .int 0]),
  .inr (8, [.int 6, .int 2, .ref 55, .int 0]),
  .inl (0, 12, .inl (fun _ => 0)),
  .inr (8, [.int 12, .int 3, .ref 57, .int 0]),
  .inl (0, 36, .inl (fun _ => 0)),
  .inr (8, [.int 12, .int 5, .ref 59, .int 0]),
  .inl (0, 60, .inl (fun _ => 0)),
  .inr (8, [.int 12, .int 7, .ref 61, .int 0]),
  .inl (0, 84, .inl (fun _ => 0)),
  .inr (8, [.int 14, .int 5, .ref 63, .int 0]),
  .inl (0, 70, .inl (fun _ => 0)),
  .inr (8, [.int 150, .int 4, .ref 65, .int 0]),
  .inl (0, 600, .inl (fun _ => 0)),
  .inr (2, [.ref 67, .ref 68, .ref 69, .ref 70, .ref 71, .ref 72, .ref 73, .int 0, .int 0]),
  .inl (0, 16, .inl (fun _ => 0)),
  .inl (0, 16, .inl (fun _ => 0)),
  .inl (0, 16, .inl (fun _ => 0)),
  .inl (0, 16, .inl (fun _ => 0)),
  .inl (0, 400, .inl (fun _ => 0)),
  .inl (0, 400, .inl (fun _ => 0)),
  .inl (0, 32, .inl (fun _ => 0)),
  .inr (1, [.ref 75, .ref 76, .ref 77, .int 0, .int 0, .int 0, .int 0]),
  .inl (0, 14, .inl (fun _ => 0)),
  .inl (0, 14, .inl (fun _ => 0)),
  .inl (0, 14, .inl (fun _ => 0)),
  .inl (0, 7, .inl (fun _ => 0)),
  .inr (5, [.ref 80, .ref 82, .ref 84, .ref 86, .ref 88, .ref 96]),
  .inr (8, [.int 6, .int 2, .ref 81, .int 0]),
  .inl (0, 12, .inl (fun _ => 0)),
  .inr (8, [.int 6, .int 2, .ref 83, .int 0]),
  .inl (0, 12, .inl (fun _ => 0)),
  .inr (8, [.int 6, .int 1, .ref 85, .int 0]),
  .inl (0, 6, .inl (fun _ => 0)),
  .inr (8, [.int 8, .int 4, .ref 87, .int 0]),
  .inl (0, 32, .inl (fun _ => 0)),
  .inl (2, 7, .inr (.inr (.inr (.inr f88)))),
  .inl (0, 100, .inl (fun _ => 0)),
  .inl (0, 100, .inl (fun _ => 0)),
  .inl (0, 100, .inl (fun _ => 0)),
  .inl (0, 100, .inl (fun _ => 0)),
  .inl (0, 100, .inl (fun _ => 0)),
  .inl (0, 100, .inl (fun _ => 0)),
  .inl (0, 100, .inl (fun _ => 0)),
  .inl (0, 256, .inl (fun _ => 0)),
  .inr (5, [.ref 98, .ref 100, .ref 102, .ref 104, .ref 106, .ref 114]),
  .inr (8, [.int 6, .int 2, .ref 99, .int 0]),
  .inl (0, 12, .inl (fun _ => 0)),
  .inr (8, [.int 6, .int 2, .ref 101, .int 0]),
  .inl (0, 12, .inl (fun _ => 0)),
  .inr (8, [.int 6, .int 1, .ref 103, .int 0]),
  .inl (0, 6, .inl (fun _ => 0)),
  .inr (8, [.int 8, .int 4, .ref 105, .int 0]),
  .inl (0, 32, .inl (fun _ => 0)),
  .inl (2, 7, .inr (.inr (.inr (.inr f106)))),
  .inl (0, 100, .inl (fun _ => 0)),
  .inl (0, 100, .inl (fun _ => 0)),
  .inl (0, 100, .inl (fun _ => 0)),
  .inl (0, 100, .inl (fun _ => 0)),
  .inl (0, 100, .inl (fun _ => 0)),
  .inl (0, 100, .inl (fun _ => 0)),
  .inl (0, 100, .inl (fun _ => 0)),
  .inl (0, 256, .inl (fun _ => 0)),
  .inr (7, [.ref 116, .ref 117, .int 0, .int 0]),
  .inl (1, 6, .inr (.inr (.inr (.inr f116)))),
  .inl (2, 6, .inr (.inr (.inr (.inr f117)))),
  .inl (0, 7, .inl (fun _ => 0)),
  .inl (0, 7, .inl (fun _ => 0)),
  .inl (0, 7, .inl (fun _ => 0)),
  .inl (0, 7, .inl (fun _ => 0)),
  .inl (0, 7, .inl (fun _ => 0)),
  .inl (0, 7, .inl (fun _ => 0)),
  .inr (8, [.int 14, .int 5, .ref 125, .int 0]),
  .inl (0, 70, .inl (fun _ => 0)),
  .inr (8, [.int 14, .int 5, .ref 127, .int 0]),
  .inl (0, 70, .inl (fun _ => 0)),
  .inr (8, [.int 14, .int 5, .ref 129, .int 0]),
  .inl (0, 70, .inl (fun _ => 0)),
  .inr (8, [.int 14, .int 5, .ref 131, .int 0]),
  .inl (0, 70, .inl (fun _ => 0)),
  .inr (8, [.int 14, .int 5, .ref 133, .int 0]),
  .inl (0, 70, .inl (fun _ => 0)),
  .inr (8, [.int 14, .int 5, .ref 135, .int 0]),
  .inl (0, 70, .inl (fun _ => 0)),
  .inr (9, [.ref 137, .ref 138, .ref 139, .ref 140, .int 0, .int 0, .int 0, .int 0, .int (-1)]),
  .inl (0, 400, .inl (fun _ => 0)),
  .inl (0, 401, .inl (fun _ => 0)),
  .inl (0, 401, .inl (fun _ => 0)),
  .inl (0, 401, .inl (fun _ => 0)),
  .inr (4, [.ref 136]),
  .inr (3, [.ref 136, .ref 143]),
  .inr (2, [.ref 144, .ref 145, .ref 146, .ref 147, .ref 148, .ref 149, .ref 150, .int 0, .int 0]),
  .inl (0, 16, .inl (fun _ => 0)),
  .inl (0, 16, .inl (fun _ => 0)),
  .inl (0, 16, .inl (fun _ => 0)),
  .inl (0, 16, .inl (fun _ => 0)),
  .inl (0, 400, .inl (fun _ => 0)),
  .inl (0, 400, .inl (fun _ => 0)),
  .inl (0, 32, .inl (fun _ => 0)),
  .inr (0, [.ref 152, .ref 153, .ref 154, .int 0, .int 0]),
  .inl (0, 1024, .inl (fun _ => 0)),
  .inl (0, 1024, .inl (fun _ => 0)),
  .inl (0, 6, .inl (fun _ => 0))]
def gD : GH := [
  .inr (11, [.ref 156, .ref 157, .ref 158, .ref 159, .int 0, .int 0, .ref 160, .ref 161, .ref 162, .ref 163, .ref 164, .ref 165, .int 0, .int 0, .int 0, .int 0, .int 0, .int 0, .int 0, .int 0, .int 0, .int 0, .int 0, .int 0, .int 0, .int (-1), .int 0, .ref 166, .ref 167, .ref 168]),
  .inl (0, 1856, .inl (upd (fun _ => 0) (1 : Int32).toNatClampNeg 100)),
  .inl (0, 1856, .inl (fun _ => 0)),
  .inl (0, 480, .inl (fun _ => 0)),
  .inl (0, 80, .inl (fun _ => 0)),
  .inl (0, 64, .inl (fun _ => 0)),
  .inl (0, 820, .inl (fun _ => 0)),
  .inl (0, 120, .inl (fun _ => 0)),
  .inl (0, 400, .inl (fun _ => 0)),
  .inl (0, 420, .inl (fun _ => 0)),
  .inl (0, 8, .inl (fun _ => 0)),
  .inl (0, 700, .inl (fun _ => 0)),
  .inl (0, 1024, .inl (fun _ => 0)),
  .inl (0, 6, .inl (fun _ => 0))]
/-- the memory behind both constructors -/
def M0 : Mem := fun a => match a with
  | 1 => fun j => if j = 11 then 100 else 0
  | 2 => fun j => if j = 0 then 6 else if j = 1 then 2 else 0
  | 4 => fun j => if j = 0 then 12 else if j = 1 then 3 else 0
  | 6 => fun j => if j = 0 then 12 else if j = 1 then 5 else 0
  | 8 => fun j => if j = 0 then 12 else if j = 1 then 7 else 0
  | 10 => fun j => if j = 0 then 14 else if j = 1 then 5 else 0
  | 12 => fun j => if j = 0 then 150 else if j = 1 then 4 else 0
  | 27 => fun j => if j = 11 then 100 else 0
  | 28 => fun j => if j = 0 then 6 else if j = 1 then 2 else 0
  | 30 => fun j => if j = 0 then 12 else if j = 1 then 3 else 0
  | 32 => fun j => if j = 0 then 12 else if j = 1 then 5 else 0
  | 34 => fun j => if j = 0 then 12 else if j = 1 then 7 else 0
  | 36 => fun j => if j = 0 then 14 else if j = 1 then 5 else 0
  | 38 => fun j => if j = 0 then 150 else if j = 1 then 4 else 0
  | 53 => fun j => if j = 11 then 100 else 0
  | 54 => fun j => if j = 0 then 6 else if j = 1 then 2 else 0
  | 56 => fun j => if j = 0 then 12 else if j = 1 then 3 else 0
  | 58 => fun j => if j = 0 then 12 else if j = 1 then 5 else 0
  | 60 => fun j => if j = 0 then 12 else if j = 1 then 7 else 0
  | 62 => fun j => if j = 0 then 14 else if j = 1 then 5 else 0
  | 64 => fun j => if j = 0 then 150 else if j = 1 then 4 else 0
  | 80 => fun j => if j = 0 then 6 else if j = 1 then 2 else 0
  | 82 => fun j => if j = 0 then 6 else if j = 1 then 2 else 0
  | 84 => fun j => if j = 0 then 6 else if j = 1 then 1 else 0
  | 86 => fun j => if j = 0 then 8 else if j = 1 then 4 else 0
  | 98 => fun j => if j = 0 then 6 else if j = 1 then 2 else 0
  | 100 => fun j => if j = 0 then 6 else if j = 1 then 2 else 0
  | 102 => fun j => if j = 0 then 6 else if j = 1 then 1 else 0
  | 104 => fun j => if j = 0 then 8 else if j = 1 then 4 else 0
  | 124 => fun j => if j = 0 then 14 else if j = 1 then 5 else 0
  | 126 => fun j => if j = 0 then 14 else if j = 1 then 5 else 0
  | 128 => fun j => if j = 0 then 14 else if j = 1 then 5 else 0
  | 130 => fun j => if j = 0 then 14 else if j = 1 then 5 else 0
  | 132 => fun j => if j = 0 then 14 else if j = 1 then 5 else 0
  | 134 => fun j => if j = 0 then 14 else if j = 1 then 5 else 0
  | 136 => fun j => if j = 8 then (-1) else 0
  | 155 => fun j => if j = 25 then (-1) else 0
  | 156 => upd (fun _ => 0) (1 : Int32).toNatClampNeg 100
  | _ => fun _ => 0
def ghF : Nat → List SH → Mem → GH
  | _, [], _ => []
  | k, s :: ss, M => mkS s (M k) :: ghF (k + 1) ss M
theorem ghF_get : ∀ (ss : List SH) (k i : Nat) (M : Mem), (ghF k ss M)[i]? = (ss[i]?).map (fun s => mkS s (M (k + i)))
  | [], k, i, M => by simp [ghF]
  | s :: ss, k, 0, M => by simp [ghF]
  | s :: ss, k, i + 1, M => by
    simp only [ghF, List.getElem?_cons_succ]
    rw [ghF_get ss (k + 1) i M, show k + 1 + i = k + (i + 1) by omega]
theorem gh_F (M : Mem) : gh M = ghF 0 shp M := by
  apply List.ext_getElem?
  intro i
  rw [ghF_get]
  simp [gh, List.getElem?_mapIdx]
theorem fn_88 : (fun i => ([89, 90, 91, 92, 93, 94, 95] : List Nat)[i]?) = (fun i => if i < 7 then some (88 + 1 + i) else none) := by
  funext i
  match i with
  | 0 => rfl
  | 1 => rfl
  | 2 => rfl
  | 3 => rfl
  | 4 => rfl
  | 5 => rfl
  | 6 => rfl
  | i + 7 => simp
theorem fn_106 : (fun i => ([107, 108, 109, 110, 111, 112, 113] : List Nat)[i]?) = (fun i => if i < 7 then some (106 + 1 + i) else none) := by
  funext i
  match i with
  | 0 => rfl
  | 1 => rfl
  | 2 => rfl
  | 3 => rfl
  | 4 => rfl
  | 5 => rfl
  | 6 => rfl
  | i + 7 => simp
theorem fn_116 : (fun i => ([124, 126, 128, 130, 132, 134] : List Nat)[i]?) = (va_up (va_up (va_up (va_up (va_up (va_up (fun _ => none) (0 : Int32).toNatClampNeg (some 124)) (1 : Int32).toNatClampNeg (some 126)) (2 : Int32).toNatClampNeg (some 128)) (3 : Int32).toNatClampNeg (some 130)) (4 : Int32).toNatClampNeg (some 132)) (5 : Int32).toNatClampNeg (some 134)) := by
  funext i
  match i with
  | 0 => rfl
  | 1 => rfl
  | 2 => rfl
  | 3 => rfl
  | 4 => rfl
  | 5 => rfl
  | i + 6 => simp [va_up]
theorem fn_117 : (fun i => ([118, 119, 120, 121, 122, 123] : List Nat)[i]?) = (fun i => if i < 6 then some (117 + 1 + i) else none) := by
  funext i
  match i with
  | 0 => rfl
  | 1 => rfl
  | 2 => rfl
  | 3 => rfl
  | 4 => rfl
  | 5 => rfl
  | i + 6 => simp
set_option maxRecDepth 100000 in
set_option maxHeartbeats 4000000 in
theorem gh_M0 : gh M0 = gC (fun i => ([89, 90, 91, 92, 93, 94, 95] : List Nat)[i]?) (fun i => ([107, 108, 109, 110, 111, 112, 113] : List Nat)[i]?) (fun i => ([124, 126, 128, 130, 132, 134] : List Nat)[i]?) (fun i => ([118, 119, 120, 121, 122, 123] : List Nat)[i]?) ++ gD := by
  rw [gh_F]
  rfl
set_option maxRecDepth 100000 in
theorem lk_7 : Cond.classLink RL 7 (cN 10).1 ∈ lw_tbl := (tb (i := 148) (by decide +kernel))
set_option maxRecDepth 100000 in
theorem lk_10 : Cond.classLink RL 10 (cN 11).1 ∈ lw_tbl := (tb (i := 1300) (by decide +kernel))
set_option maxRecDepth 100000 in
set_option maxHeartbeats 4000000 in
/-- the law from its entry: it makes both objects, then its loop -/
theorem start_ex (l : Launch) (E : EV) (nm : String) (h : f_law E M0 = some ()) : Ex l E (RL, nm, cL_law, 4) 200 169 20639 0 [some (.ref 1000000), none, none, none] [] [] 0 0 (fun _ v => v = some (.int 1)) := by
  refine exn_new 10 0 [.null, .null, .null, .null, .null, .null, .null, .null, .null, .null, .int 0] [.inr (10, [.null, .null, .null, .null, .null, .null, .null, .null, .null, .null, .int 0])] rfl rfl dL_law_0 (by decide) lk_7 nw_10.1 nw_10.2 (by decide +kernel) (fun _ => rfl) (by decide) (by decide) ?_
  refine ex_dup dL_law_3 rfl ?_
  refine exn_callI 0 [] [.ref 0] (gC (fun i => if i < 7 then some (88 + 1 + i) else none) (fun i => if i < 7 then some (106 + 1 + i) else none) (va_up (va_up (va_up (va_up (va_up (va_up (fun _ => none) (0 : Int32).toNatClampNeg (some 124)) (1 : Int32).toNatClampNeg (some 126)) (2 : Int32).toNatClampNeg (some 128)) (3 : Int32).toNatClampNeg (some 130)) (4 : Int32).toNatClampNeg (some 132)) (5 : Int32).toNatClampNeg (some 134)) (fun i => if i < 6 then some (117 + 1 + i) else none)) dL_law_4 cl_L_9 ic_X10_init (by decide) rfl (Nat.le_of_ble_eq_true rfl) (by decide) (by decide) (k_X10 l E [] 0 rfl (by decide) rfl rfl) rfl ?_
  rw [← fn_88, ← fn_106, ← fn_116, ← fn_117]
  refine ex_astore_n (L2 := [some (.ref 1000000), some (.ref 0), none, none]) dL_law_7 (Nat.le_of_ble_eq_true rfl) rfl ?_
  generalize hgC : gC (fun i => ([89, 90, 91, 92, 93, 94, 95] : List Nat)[i]?) (fun i => ([107, 108, 109, 110, 111, 112, 113] : List Nat)[i]?) (fun i => ([124, 126, 128, 130, 132, 134] : List Nat)[i]?) (fun i => ([118, 119, 120, 121, 122, 123] : List Nat)[i]?) = gc
  have hlen : gc.length = 155 := by rw [← hgC]; rfl
  refine exn_new 11 155 [.null, .null, .null, .null, .int 0, .int 0, .null, .null, .null, .null, .null, .null, .int 0, .int 0, .int 0, .int 0, .int 0, .int 0, .int 0, .int 0, .int 0, .int 0, .int 0, .int 0, .int 0, .int 0, .int 0, .null, .null, .null] (gc ++ [.inr (11, [.null, .null, .null, .null, .int 0, .int 0, .null, .null, .null, .null, .null, .null, .int 0, .int 0, .int 0, .int 0, .int 0, .int 0, .int 0, .int 0, .int 0, .int 0, .int 0, .int 0, .int 0, .int 0, .int 0, .null, .null, .null])]) hlen rfl dL_law_8 (by decide) lk_10 nw_11.1 nw_11.2 (by decide +kernel) (fun _ => rfl) (by decide) (by decide) ?_
  refine ex_dup dL_law_11 rfl ?_
  refine exn_callI 155 [] [.ref 155] (gc ++ gD) dL_law_12 cl_L_12 ic_X11_init (by decide) rfl (Nat.le_of_ble_eq_true rfl) (by decide) (by decide) (k_X11 l E gc 155 hlen (by decide) rfl rfl) (by rw [List.length_append, List.length_append]; rfl) ?_
  rw [← hgC, ← gh_M0]
  refine ex_astore_n (L2 := [some (.ref 1000000), some (.ref 0), some (.ref 155), none]) dL_law_15 (Nat.le_of_ble_eq_true rfl) rfl ?_
  refine ex_iconst 0 dL_law_16 kI_0 ?_
  refine ex_istore_n (L2 := [some (.ref 1000000), some (.ref 0), some (.ref 155), some (.int 0)]) dL_law_17 (Nat.le_of_ble_eq_true rfl) rfl ?_
  exact t_law l E nm M0 h
theorem wk_any {w : Cond} (hk : wk w = true) {A : Array Value} {s : State} (h : w.before A s = true) (a : Array Value) : w.before a s = true := by
  unfold wk at hk
  rw [Bool.or_eq_true] at hk
  rcases hk with hk | hk
  · exact word_at (State.WarmedH.refl s) (good_of_word hk) h
  · split at hk
    · exact va_Nw.use rfl (va_Nw.of rfl h)
    · exact va_Nw.use rfl (va_Nw.of rfl h)
    · cases hk
def tmS (i : Nat) : Term := match strS[i]? with
  | some q => .string q.1 q.2.1
  | none => .string "" 0
def FC : List Cond := flatC (Cond.and given_1 narrow_1)
def ixE : List Nat := [9, 125, 134, 145, 156, 166, 178, 191, 206, 223, 241, 259, 279, 301, 322, 343, 367, 390, 413, 440, 466, 494, 521, 551]
def ixC : List Nat := [10, 126, 135, 146, 157, 167, 179, 192, 207, 224, 242, 260, 280, 302, 323, 344, 368, 391, 414, 441, 467, 495, 522, 552]
def ixA : List Nat := [11, 127, 136, 147, 158, 168, 180, 193, 208, 225, 243, 261, 281, 303, 324, 345, 369, 392, 415, 442, 468, 496, 523, 553]
def ixL : List Nat := [12, 128, 137, 148, 159, 169, 181, 194, 209, 226, 244, 262, 282, 304, 325, 346, 370, 393, 416, 443, 469, 497, 524, 554]
def ixB : List Nat := [13, 129, 138, 149, 160, 170, 182, 195, 210, 227, 245, 263, 283, 305, 326, 347, 371, 394, 417, 444, 470, 498, 525, 555]
def ixN : List (List Nat) := [[], [133], [143, 144], [153, 154, 155], [162, 163, 164, 165], [173, 174, 175, 176, 177], [185, 186, 187, 188, 189, 190], [199, 200, 201, 202, 203, 204, 205], [215, 216, 217, 218, 219, 220, 221, 222], [232, 233, 234, 235, 236, 237, 238, 239, 240], [249, 250, 251, 252, 253, 254, 255, 256, 257, 258], [268, 269, 270, 271, 272, 273, 274, 275, 276, 277, 278], [289, 290, 291, 292, 293, 294, 295, 296, 297, 298, 299, 300], [309, 310, 311, 312, 313, 314, 315, 316, 317, 318, 319, 320, 321], [329, 330, 331, 332, 333, 334, 335, 336, 337, 338, 339, 340, 341, 342], [352, 353, 354, 355, 356, 357, 358, 359, 360, 361, 362, 363, 364, 365, 366], [374, 375, 376, 377, 378, 379, 380, 381, 382, 383, 384, 385, 386, 387, 388, 389], [396, 397, 398, 399, 400, 401, 402, 403, 404, 405, 406, 407, 408, 409, 410, 411, 412], [422, 423, 424, 425, 426, 427, 428, 429, 430, 431, 432, 433, 434, 435, 436, 437, 438, 439], [447, 448, 449, 450, 451, 452, 453, 454, 455, 456, 457, 458, 459, 460, 461, 462, 463, 464, 465], [474, 475, 476, 477, 478, 479, 480, 481, 482, 483, 484, 485, 486, 487, 488, 489, 490, 491, 492, 493], [500, 501, 502, 503, 504, 505, 506, 507, 508, 509, 510, 511, 512, 513, 514, 515, 516, 517, 518, 519, 520], [529, 530, 531, 532, 533, 534, 535, 536, 537, 538, 539, 540, 541, 542, 543, 544, 545, 546, 547, 548, 549, 550], [559, 560, 561, 562, 563, 564, 565, 566, 567, 568, 569, 570, 571, 572, 573, 574, 575, 576, 577, 578, 579, 580, 581]]
set_option maxRecDepth 100000 in
theorem nar_1 : ∀ i, i < nS → (FC[ixE.getD i 0]? = some (Cond.exactly (tmS i) "java/lang/String") ∧ FC[ixC.getD i 0]? = some (Cond.eq (.field (tmS i) "java/lang/String" "coder" "B") (.int 0)) ∧ FC[ixA.getD i 0]? = some (Cond.arrayOf (.field (tmS i) "java/lang/String" "value" "[B") .byte) ∧ FC[ixL.getD i 0]? = some (Cond.eq (.length (.field (tmS i) "java/lang/String" "value" "[B")) (.int (Int32.ofNat (lenS.getD i 0))))) := by decide +kernel
set_option maxRecDepth 100000 in
theorem nar_2 : ∀ i, i < nS → ∀ j, j < lenS.getD i 0 → FC[ixB.getD i 0 + j]? = some (Cond.eq (.elem (.field (tmS i) "java/lang/String" "value" "[B") (.int (Int32.ofNat j))) (.int ((bytS.getD i []).getD j 0))) := by decide +kernel
set_option maxRecDepth 100000 in
theorem nar_3 : ∀ i, i < nS → ∀ j, j < i → FC[(ixN.getD i []).getD j 0]? = some (Cond.not (Cond.eq (tmS j) (tmS i))) := by decide +kernel
theorem nar_S (i : Nat) (hi : i < nS) : (Cond.exactly (tmS i) "java/lang/String" ∈ flatC (Cond.and given_1 narrow_1)) ∧ (Cond.eq (.field (tmS i) "java/lang/String" "coder" "B") (.int 0) ∈ flatC (Cond.and given_1 narrow_1)) ∧ (Cond.arrayOf (.field (tmS i) "java/lang/String" "value" "[B") .byte ∈ flatC (Cond.and given_1 narrow_1)) ∧ (Cond.eq (.length (.field (tmS i) "java/lang/String" "value" "[B")) (.int (Int32.ofNat (lenS.getD i 0))) ∈ flatC (Cond.and given_1 narrow_1)) ∧ ∀ j, j < lenS.getD i 0 → Cond.eq (.elem (.field (tmS i) "java/lang/String" "value" "[B") (.int (Int32.ofNat j))) (.int ((bytS.getD i []).getD j 0)) ∈ flatC (Cond.and given_1 narrow_1) :=
  ⟨List.mem_of_getElem? (nar_1 i hi).1, List.mem_of_getElem? (nar_1 i hi).2.1, List.mem_of_getElem? (nar_1 i hi).2.2.1, List.mem_of_getElem? (nar_1 i hi).2.2.2, fun j hj => List.mem_of_getElem? (nar_2 i hi j hj)⟩
theorem nar_N (i : Nat) (hi : i < nS) (j : Nat) (hj : j < nS) (hij : i ≠ j) : (Cond.not (Cond.eq (tmS i) (tmS j)) ∈ flatC (Cond.and given_1 narrow_1)) ∨ (Cond.not (Cond.eq (tmS j) (tmS i)) ∈ flatC (Cond.and given_1 narrow_1)) := by
  rcases Nat.lt_or_gt_of_ne hij with h | h
  · exact Or.inl (List.mem_of_getElem? (nar_3 j hj i h))
  · exact Or.inr (List.mem_of_getElem? (nar_3 i hi j h))
set_option maxRecDepth 100000 in
theorem nar_C : (Cond.eq (.static "java/lang/String" "COMPACT_STRINGS" "Z") (.int 1) ∈ flatC (Cond.and given_1 narrow_1)) ∧ (Cond.isRef (.static "jdk/internal/util/Preconditions" "SIOOBE_FORMATTER" "Ljava/util/function/BiFunction;") ∈ flatC (Cond.and given_1 narrow_1)) := by decide +kernel
set_option maxRecDepth 100000 in
theorem str_w : strS.all (fun q => decide (Cond.stringRef q.1 q.2.1 q.2.2 ∈ lw_tbl)) = true := by decide +kernel
set_option maxRecDepth 100000 in
theorem sta_w : (Cond.laysStatic "java/lang/String" "COMPACT_STRINGS" "Z" ∈ lw_tbl) ∧ (Cond.initialized "java/lang/String" ∈ lw_tbl) ∧ (Cond.laysStatic "jdk/internal/util/Preconditions" "SIOOBE_FORMATTER" "Ljava/util/function/BiFunction;" ∈ lw_tbl) ∧ (Cond.initialized "jdk/internal/util/Preconditions" ∈ lw_tbl) ∧ (Cond.arrayOver (.object "CrustMarket$Rows") ∈ lw_tbl) ∧ (Cond.arrayOver (.array .int) ∈ lw_tbl) := by decide +kernel
theorem nw_all : ∀ k, k < 12 → Cond.instantiable (cN k).1 (cN k).2.2 ∈ lw_tbl := fun k h => by
  match k, h with
  | 0, _ => exact nw_0.1
  | 1, _ => exact nw_1.1
  | 2, _ => exact nw_2.1
  | 3, _ => exact nw_3.1
  | 4, _ => exact nw_4.1
  | 5, _ => exact nw_5.1
  | 6, _ => exact nw_6.1
  | 7, _ => exact nw_7.1
  | 8, _ => exact nw_8.1
  | 9, _ => exact nw_9.1
  | 10, _ => exact nw_10.1
  | 11, _ => exact nw_11.1
theorem start_env {p : Program} {s : State} {m : MethodId} {meth : Method} {c : Code} {b L : Nat} {xs : Nat → Int32} (C0 : lw_At p s m meth c b L xs) : ∃ (D : va_G) (cT : Nat → ClassId) (adK adV : Nat → Nat), EnvOK (s.heap, b, L, xs, D, cT, adK, adV) s := by
  obtain ⟨hx, hb, hr, hml, hown, hts, hX, hbl, hlocks, hgv⟩ := id C0
  have hs := flat_of_before _ hgv
  have hA : ∀ a : Nat, a < s.heap.size → ¬ (fun q : Nat => s.heap.size ≤ q) a := fun a ha => Nat.not_le.mpr ha
  have hcl : ∀ k : Nat, ∃ q : ClassId × (Nat → Nat), k < 12 → u_Kn s (cN k).1 (cN k).2.1 (cN k).2.2 q.1 q.2 := by
    intro k
    by_cases hk : k < 12
    · obtain ⟨c1, c2, c3, c4⟩ := cOK_all k hk
      obtain ⟨cC, iS, h⟩ := u_known (n := (cN k).2.2) hts (fun w hw => (List.mem_filter.mp (c2 w hw)).1) (hts _ (nw_all k hk))
      exact ⟨(cC, iS), fun _ => h⟩
    · exact ⟨(m.cls, fun _ => 0), fun h => absurd h hk⟩
  obtain ⟨dq, hdq⟩ := Classical.axiomOfChoice hcl
  obtain ⟨cI, kI, compI, a1, a2, a3⟩ := Cond.arrayClass_spec (hts _ ac_int)
  obtain ⟨comp1, cA1, k1, b1_, b2_, b3, b4, b5⟩ := Cond.arrayOver_spec (hts _ sta_w.2.2.2.2.1)
  obtain ⟨comp2, cA2, k2, d1, d2, d3, d4, d5⟩ := arrayOverA_spec (hts _ sta_w.2.2.2.2.2)
  obtain ⟨adK, adV, hS, hT⟩ := vk_Sof (N := nS) (tm := tmS) (len := lenS) (byt := bytS) (A := fun q => s.heap.size ≤ q) (args := #[Value.ref b]) (s := s) (fun i hi => by have := (strT i hi).2.2.2.1; omega) (fun i hi => hs _ (nar_S i hi).1) (fun i hi => hs _ (nar_S i hi).2.1) (fun i hi => hs _ (nar_S i hi).2.2.1) (fun i hi => hs _ (nar_S i hi).2.2.2.1) (fun i hi j hj => hs _ ((nar_S i hi).2.2.2.2 j hj)) (fun i j hi hj hij => (nar_N i hi j hj hij).imp (fun z => hs _ z) (fun z => hs _ z)) hA
  have hZ1 := va_Zof (A := fun q : Nat => s.heap.size ≤ q) (hts _ sta_w.1) (hts _ sta_w.2.1) (va_eqt (hs _ nar_C.1)) hA
  have hZ2 := va_Zqof (A := fun q : Nat => s.heap.size ≤ q) (hts _ sta_w.2.2.1) (hts _ sta_w.2.2.2.1) (hs _ nar_C.2) hA
  obtain ⟨ft, hft⟩ : ∃ t : Nat, va_Z "jdk/internal/util/Preconditions" "SIOOBE_FORMATTER" "Ljava/util/function/BiFunction;" .null (fun q : Nat => s.heap.size ≤ q) s s.heap ∨ va_Z "jdk/internal/util/Preconditions" "SIOOBE_FORMATTER" "Ljava/util/function/BiFunction;" (.ref t) (fun q : Nat => s.heap.size ≤ q) s s.heap := by
    rcases hZ2 with h | ⟨t, h⟩
    · exact ⟨0, Or.inl h⟩
    · exact ⟨t, Or.inr h⟩
  refine ⟨(fun k => (dq k).1, fun k => (dq k).2), fun k => match k with | 0 => cI | 1 => cA1 | _ => cA2, adK, fun k => if k = 24 then ft else adV k, ?_⟩
  refine ⟨fun w hw hk a => wk_any hk (hts w hw) a, ⟨fun k q hq => ?_, fun k q hq => ?_⟩, ⟨⟨fun i hi => ?_, hS.2⟩, fun j q hq => ?_⟩, ⟨hX, hbl⟩, ⟨hZ1, hft⟩, va_AO.of (hts _ sta_w.2.2.2.2.1), hts _ sta_w.2.2.2.2.2⟩
  · have hk : k < 12 := (List.getElem?_eq_some_iff.mp hq).1
    have e := (cOK_all k hk).1.symm.trans hq
    cases e
    exact hdq k hk
  · match k, hq with
    | 0, hq => cases hq; exact ⟨fun n z => ⟨fun k h => (by cases h), kI, a2, compI, a3⟩, a1⟩
    | 1, hq => cases hq; exact ⟨fun n z => ⟨fun k h => (by cases h), k1, b3, comp1, b4⟩, k1, comp1, b3, b4, b1_, b5⟩
    | 2, hq => cases hq; exact ⟨fun n z => ⟨fun k h => (by cases h), k2, d3, comp2, d4⟩, d5⟩
    | k + 3, hq => simp at hq
  · have hne : ¬ i = 24 := by have : i < 24 := hi; omega
    have := hS.1 i hi
    show va_O _ _ _ _ _ ∧ va_OF _ _ _ _ _ _ _ _ ∧ va_OF _ _ _ (.ref (if i = 24 then ft else adV i)) _ _ _ _ ∧ va_T _ (if i = 24 then ft else adV i) _ _ _ _ _
    rw [if_neg hne]
    exact this
  · have hj : j < nS := (List.getElem?_eq_some_iff.mp hq).1
    have h1 := of_decide_eq_true (List.all_eq_true.mp str_w q (List.mem_of_getElem? hq))
    have h2 := hT j hj
    unfold tmS at h2
    rw [hq] at h2
    exact vk_R.of (A := #[Value.ref b]) (hts _ h1) h2
set_option maxHeartbeats 4000000 in
/-- out of the pure part -/
theorem whole_of (hpure : ∀ E : EV, eL E ≤ 3072 → f_law E M0 = some ()) {p : Program} {e : Env} {s : State} {m : MethodId} {below : List Frame} {meth : Method} {c : Code} (l : Launch) (hflags : l.flags = flags0) {b L : Nat} {xs : Nat → Int32} (hL : L ≤ 3072) (C0 : lw_At p s m meth c b L xs) : W p l e room_1 s m #[Value.ref b] below meth c s.heap [] 0 0 (lw_Z below #[Value.ref b] s) (entryFrame m ([Value.ref b] : List Value).toArray 4) := by
  obtain ⟨D, cT, adK, adV, hen⟩ := start_env C0
  obtain ⟨hx, hb, hr, hml, hown, hts, hX, hbl, hlocks, hgv⟩ := id C0
  have hp := hpure (s.heap, b, L, xs, D, cT, adK, adV) hL
  have hl := lv_entry ([.ref b]) (n := 4) (Nat.le_of_ble_eq_true rfl)
  rw [lg_entry_eq]
  generalize (lg_sl ([.ref b]) ++ List.replicate (4 - (lg_sl ([.ref b])).length) Slot.unset).toArray = ls at hl ⊢
  have hl2 := ent_has (E := (s.heap, b, L, xs, D, cT, adK, adV)) (vs := [.ref 1000000]) (nL := 4) hl
  refine start_ex l (s.heap, b, L, xs, D, cT, adK, adV) meth.name hp p e room_1 s m #[Value.ref b] below meth c s.heap [] ls (lw_Z below #[Value.ref b] s) ⟨hx, hb, hml, hown, rfl, hen, ⟨Nat.le_refl _, fun _ _ => rfl⟩, by decide, by decide⟩ (by decide) (by decide) hl2 ⟨fun k q h => by simp [wd] at h, va_S.rf⟩ rfl ?_
  intro pc' ls' H' locs' ce' sl' G' v hd hH hz hce hsl hpo
  subst hpo
  refine va_forget (fun q hq => hH.2.2.2 q hq) ?_
  refine W.widen (k := 600000) (n := 7302249) (by omega) (by omega) ?_
  exact lw_ret hx hb hr hlocks hd
