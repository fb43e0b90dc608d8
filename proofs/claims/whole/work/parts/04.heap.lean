/-! ===== ROWS OF THE HEAP ===== -/
def TK : List Cond := lw_tbl.filter wk
theorem EnvOK.hts {E : EV} {s : State} {args : Array Value} (h : EnvOK E s) : ∀ w ∈ TK, w.before args s = true := fun w hw => h.1 w (List.mem_filter.mp hw).1 (List.mem_filter.mp hw).2 args
def cN (ci : Nat) : vw_C := vwCl.getD ci (RX0, TX0, 5)
def tyC (ci : Nat) : Nat → FieldType := match ci with
  | 0 => tyX0 | 1 => tyX1 | 2 => tyX2 | 3 => tyX3 | 4 => tyX4 | 5 => tyX5 | 6 => tyX6 | 7 => tyX7 | 8 => tyX8 | 9 => tyX9 | 10 => tyX10 | _ => tyX11
def cOK (ci : Nat) : Prop := vwCl[ci]? = some (cN ci) ∧ (∀ w ∈ u_ws (cN ci).1 (cN ci).2.1 (cN ci).2.2, w ∈ TK) ∧ (∀ k, k < (cN ci).2.2 → parseFieldDescriptor ((cN ci).2.1 k).2.2.1 = some (tyC ci k)) ∧ (∀ a, a < (cN ci).2.2 → ∀ b, b < (cN ci).2.2 → a ≠ b → ((cN ci).2.1 a).2.1 ≠ ((cN ci).2.1 b).2.1)
theorem uws_TK {ws : List Cond} (h : ∀ w ∈ ws, w ∈ lw_tbl) (h2 : ws.all wk = true) : ∀ w ∈ ws, w ∈ TK := fun w hw => List.mem_filter.mpr ⟨h w hw, List.all_eq_true.mp h2 w hw⟩
theorem cOK_0 : cOK 0 := ⟨rfl, uws_TK inX0 (by decide +kernel), tyX0_ok, nmX0⟩
theorem cOK_1 : cOK 1 := ⟨rfl, uws_TK inX1 (by decide +kernel), tyX1_ok, nmX1⟩
theorem cOK_2 : cOK 2 := ⟨rfl, uws_TK inX2 (by decide +kernel), tyX2_ok, nmX2⟩
theorem cOK_3 : cOK 3 := ⟨rfl, uws_TK inX3 (by decide +kernel), tyX3_ok, nmX3⟩
theorem cOK_4 : cOK 4 := ⟨rfl, uws_TK inX4 (by decide +kernel), tyX4_ok, nmX4⟩
theorem cOK_5 : cOK 5 := ⟨rfl, uws_TK inX5 (by decide +kernel), tyX5_ok, nmX5⟩
theorem cOK_6 : cOK 6 := ⟨rfl, uws_TK inX6 (by decide +kernel), tyX6_ok, nmX6⟩
theorem cOK_7 : cOK 7 := ⟨rfl, uws_TK inX7 (by decide +kernel), tyX7_ok, nmX7⟩
theorem cOK_8 : cOK 8 := ⟨rfl, uws_TK inX8 (by decide +kernel), tyX8_ok, nmX8⟩
theorem cOK_9 : cOK 9 := ⟨rfl, uws_TK inX9 (by decide +kernel), tyX9_ok, nmX9⟩
theorem cOK_10 : cOK 10 := ⟨rfl, uws_TK inX10 (by decide +kernel), tyX10_ok, nmX10⟩
theorem cOK_11 : cOK 11 := ⟨rfl, uws_TK inX11 (by decide +kernel), tyX11_ok, nmX11⟩
theorem cOK_all : ∀ ci, ci < 12 → cOK ci := fun ci h => by
  match ci, h with
  | 0, _ => exact cOK_0
  | 1, _ => exact cOK_1
  | 2, _ => exact cOK_2
  | 3, _ => exact cOK_3
  | 4, _ => exact cOK_4
  | 5, _ => exact cOK_5
  | 6, _ => exact cOK_6
  | 7, _ => exact cOK_7
  | 8, _ => exact cOK_8
  | 9, _ => exact cOK_9
  | 10, _ => exact cOK_10
  | 11, _ => exact cOK_11
/-- a constant pool entry of class own names field k of class ci -/
def FL (own : String) (index ci k : Nat) : Prop := ci < 12 ∧ k < (cN ci).2.2 ∧ ((Cond.fieldLink own index ((cN ci).2.1 k).1 ((cN ci).2.1 k).2.1 ((cN ci).2.1 k).2.2.1 ∈ lw_tbl) ∨ ∃ host, Cond.fieldLinkNest own index ((cN ci).2.1 k).1 ((cN ci).2.1 k).2.1 ((cN ci).2.1 k).2.2.1 host ∈ lw_tbl)
section RH
variable {l : Launch} {E : EV} {X : MI} {d mc ms : Nat} {pc : Nat} {L : List (Option Value)} {st : List Value} {G : GH} {ce sl : Nat} {Po : GH → Option Value → Prop}
theorem ex_getf {index ci k a : Nat} {fs : List Value} {v : Value} (hd : decode X.2.2.1 pc = .ok (.getfield index, 3)) (hf : FL X.1 index ci k) (ha : a < 1000000) (hG : G[a]? = some (.inr (ci, fs))) (hv : fs[k]? = some v) (kk : Ex l E X d mc ms (pc + 3) L (v :: st) G ce sl Po) : Ex l E X d mc ms pc L (.ref a :: st) G ce sl Po := by
  intro p e R s m args below meth c H locs ls Q C h1 h2 hlv hH hz hq
  have K := kk p e R s m args below meth c H locs ls Q C h1 h2 hlv hH hz hq
  obtain ⟨hci, hk, hw⟩ := hf
  obtain ⟨c1, c2, c3, c4⟩ := cOK_all ci hci
  have he := wd_get (E := E) hG
  have hv2 : (fs.map (rv E))[k]? = some (rv E v) := by rw [List.getElem?_map, hv]; rfl
  have hen := C.2.2.2.2.2.1
  simp only [List.map_cons, rv, al_lt ha] at K ⊢
  rcases hw with hw | ⟨host, hw⟩
  · exact va_get C.1 C.2.1 hen.hts c2 C.2.2.2.1 hen.2.1 hH.1 a he c1 k hk (hen.word hw rfl) (fun _ h => h) hv2 hd K
  · exact va_getN C.1 C.2.1 hen.hts c2 C.2.2.2.1 hen.2.1 hH.1 a he c1 k hk (hen.word hw rfl) (fun _ h => h) hv2 hd K
theorem ex_putf {index ci k a : Nat} {fs : List Value} {v : Value} (hd : decode X.2.2.1 pc = .ok (.putfield index, 3)) (hf : FL X.1 index ci k) (hfin : ((cN ci).2.1 k).2.2.2 = false) (hv : ∀ E : EV, narrow (tyC ci k) (rv E v) = rv E v ∧ fits (tyC ci k) (rv E v) = true) (ha : a < 1000000) (hG : G[a]? = some (.inr (ci, fs))) (hl : k < fs.length) (kk : Ex l E X d mc ms (pc + 3) L st (G.set a (.inr (ci, fs.set k v))) ce sl Po) : Ex l E X d mc ms pc L (v :: .ref a :: st) G ce sl Po := by
  intro p e R s m args below meth c H locs ls Q C h1 h2 hlv hH hz hq
  obtain ⟨hci, hk, hw⟩ := hf
  obtain ⟨c1, c2, c3, c4⟩ := cOK_all ci hci
  have he := wd_get (E := E) hG
  have hen := C.2.2.2.2.2.1
  have hset : (fs.map (rv E)).set k (rv E v) = (fs.set k v).map (rv E) := by rw [List.map_set]
  have K : ∀ (H1 : Heap) (locs1 : List Loc), va_P (eD E) vwCl ((wd E G).set a (eB E + a, .inr (ci, (fs.map (rv E)).set k (rv E v)))) H1 → va_D (eA E) ((wd E G).set a (eB E + a, .inr (ci, (fs.map (rv E)).set k (rv E v)))) → va_S (eA E) s.heap H1 locs1 → W p l e R s m args below meth c H1 locs1 ce sl Q (F0 m (pc + 3) ls (st.map (rv E))) := by
    intro H1 locs1 a1 _ a3
    rw [hset, show (Sum.inr (ci, (fs.set k v).map (rv E)) : va_E) = re E (.inr (ci, fs.set k v)) from rfl, wd_set] at a1
    exact kk p e R s m args below meth c H1 locs1 ls Q C h1 h2 hlv ⟨a1, a3⟩ (by rw [List.length_set]; exact hz) hq
  have hl2 : k < (fs.map (rv E)).length := by rw [List.length_map]; exact hl
  simp only [List.map_cons]
  rw [show rv E (.ref a) = .ref (eB E + a) from by rw [← al_lt ha]; rfl]
  rcases hw with hw | ⟨host, hw⟩
  · exact va_put C.1 C.2.1 hen.hts c2 (tyC ci) c3 c4 C.2.2.2.1 hen.2.1 hH.1 wd_D hH.2 a he c1 k hk (hen.word hw rfl) (fun _ h => h) hfin (c3 k hk) (hv E).1 (hv E).2 hl2 hd K
  · exact va_putN C.1 C.2.1 hen.hts c2 (tyC ci) c3 c4 C.2.2.2.1 hen.2.1 hH.1 wd_D hH.2 a he c1 k hk (hen.word hw rfl) (fun _ h => h) hfin (c3 k hk) (hv E).1 (hv E).2 hl2 hd K
/-- a final field, in its own constructor -/
theorem ex_putF {index ci k a : Nat} {fs : List Value} {v : Value} (hd : decode X.2.2.1 pc = .ok (.putfield index, 3)) (hci : ci < 12) (hk : k < (cN ci).2.2) (hw : Cond.fieldLink X.1 index ((cN ci).2.1 k).1 ((cN ci).2.1 k).2.1 ((cN ci).2.1 k).2.2.1 ∈ lw_tbl) (hfin : ((cN ci).2.1 k).2.2.2 = true) (hnm : X.2.1 = "<init>") (hdecl : ((cN ci).2.1 k).1 = X.1) (hv : ∀ E : EV, narrow (tyC ci k) (rv E v) = rv E v ∧ fits (tyC ci k) (rv E v) = true) (ha : a < 1000000) (hG : G[a]? = some (.inr (ci, fs))) (hl : k < fs.length) (kk : Ex l E X d mc ms (pc + 3) L st (G.set a (.inr (ci, fs.set k v))) ce sl Po) : Ex l E X d mc ms pc L (v :: .ref a :: st) G ce sl Po := by
  intro p e R s m args below meth c H locs ls Q C h1 h2 hlv hH hz hq
  obtain ⟨c1, c2, c3, c4⟩ := cOK_all ci hci
  have he := wd_get (E := E) hG
  have hen := C.2.2.2.2.2.1
  have hset : (fs.map (rv E)).set k (rv E v) = (fs.set k v).map (rv E) := by rw [List.map_set]
  have K : ∀ (H1 : Heap) (locs1 : List Loc), va_P (eD E) vwCl ((wd E G).set a (eB E + a, .inr (ci, (fs.map (rv E)).set k (rv E v)))) H1 → va_D (eA E) ((wd E G).set a (eB E + a, .inr (ci, (fs.map (rv E)).set k (rv E v)))) → va_S (eA E) s.heap H1 locs1 → W p l e R s m args below meth c H1 locs1 ce sl Q (F0 m (pc + 3) ls (st.map (rv E))) := by
    intro H1 locs1 a1 _ a3
    rw [hset, show (Sum.inr (ci, (fs.set k v).map (rv E)) : va_E) = re E (.inr (ci, fs.set k v)) from rfl, wd_set] at a1
    exact kk p e R s m args below meth c H1 locs1 ls Q C h1 h2 hlv ⟨a1, a3⟩ (by rw [List.length_set]; exact hz) hq
  have hl2 : k < (fs.map (rv E)).length := by rw [List.length_map]; exact hl
  simp only [List.map_cons]
  rw [show rv E (.ref a) = .ref (eB E + a) from by rw [← al_lt ha]; rfl]
  exact va_putF C.1 C.2.1 hen.hts c2 (tyC ci) c3 c4 C.2.2.2.1 hen.2.1 hH.1 wd_D hH.2 a he c1 k hk (hen.word hw rfl) (fun _ h => h) hfin (C.2.2.2.2.1.trans hnm) hdecl (c3 k hk) (hv E).1 (hv E).2 hl2 hd K
theorem ex_iald {a n : Nat} {f : Nat → Int32} {i : Int32} (hd : decode X.2.2.1 pc = .ok (.iaload, 1)) (ha : a < 1000000) (hG : G[a]? = some (.inl (0, n, .inl f))) (hin : vp_in i n) (kk : Ex l E X d mc ms (pc + 1) L (.int (f i.toNatClampNeg) :: st) G ce sl Po) : Ex l E X d mc ms pc L (.int i :: .ref a :: st) G ce sl Po := by
  intro p e R s m args below meth c H locs ls Q C h1 h2 hlv hH hz hq
  have K := kk p e R s m args below meth c H locs ls Q C h1 h2 hlv hH hz hq
  have he := wd_get (E := E) hG
  simp only [List.map_cons, rv, al_lt ha] at K ⊢
  exact va_iald C.1 C.2.1 C.2.2.2.2.2.1.2.1 hH.1 a 0 he rfl hin hd K
theorem ex_iast {a n : Nat} {f : Nat → Int32} {i x : Int32} (hd : decode X.2.2.1 pc = .ok (.iastore, 1)) (ha : a < 1000000) (hG : G[a]? = some (.inl (0, n, .inl f))) (hin : vp_in i n) (kk : Ex l E X d mc ms (pc + 1) L st (G.set a (.inl (0, n, .inl (upd f i.toNatClampNeg x)))) ce sl Po) : Ex l E X d mc ms pc L (.int x :: .int i :: .ref a :: st) G ce sl Po := by
  intro p e R s m args below meth c H locs ls Q C h1 h2 hlv hH hz hq
  have he := wd_get (E := E) hG
  simp only [List.map_cons, rv, al_lt ha]
  refine va_iast C.1 C.2.1 C.2.2.2.2.2.1.2.1 hH.1 wd_D hH.2 a 0 he rfl hin hd ?_
  intro H1 locs1 a1 _ a3
  rw [show (Sum.inl (eC E 0, n, Sum.inl (upd f i.toNatClampNeg x)) : va_E) = re E (.inl (0, n, .inl (upd f i.toNatClampNeg x))) from rfl, wd_set] at a1
  exact kk p e R s m args below meth c H1 locs1 ls Q C h1 h2 hlv ⟨a1, a3⟩ (by rw [List.length_set]; exact hz) hq
theorem ex_alen {a n : Nat} {f : Nat → Int32} {v : Int32} (hd : decode X.2.2.1 pc = .ok (.arraylength, 1)) (ha : a < 1000000) (hG : G[a]? = some (.inl (0, n, .inl f))) (hv : Int32.ofNat n = v) (kk : Ex l E X d mc ms (pc + 1) L (.int v :: st) G ce sl Po) : Ex l E X d mc ms pc L (.ref a :: st) G ce sl Po := by
  intro p e R s m args below meth c H locs ls Q C h1 h2 hlv hH hz hq
  have K := kk p e R s m args below meth c H locs ls Q C h1 h2 hlv hH hz hq
  have he := wd_get (E := E) hG
  simp only [List.map_cons, rv, al_lt ha] at K ⊢
  exact va_alen C.1 C.2.1 C.2.2.2.2.2.1.2.1 hH.1 a 0 he rfl hv hd K
/-- an array of references to objects -/
theorem ex_aald {a n r : Nat} {f : Nat → Option Nat} {i : Int32} (hd : decode X.2.2.1 pc = .ok (.aaload, 1)) (ha : a < 1000000) (hr : r < 1000000) (hG : G[a]? = some (.inl (1, n, .inr (.inr (.inr (.inr f)))))) (hin : vp_in i n) (hf : f i.toNatClampNeg = some r) (kk : Ex l E X d mc ms (pc + 1) L (.ref r :: st) G ce sl Po) : Ex l E X d mc ms pc L (.int i :: .ref a :: st) G ce sl Po := by
  intro p e R s m args below meth c H locs ls Q C h1 h2 hlv hH hz hq
  have K := kk p e R s m args below meth c H locs ls Q C h1 h2 hlv hH hz hq
  have hlt : i.toNatClampNeg < n := Nat.not_le.mp fun q => hin (Or.inr q)
  have hc : H[eB E + a]? = some (vp_cell (eC E 1) (n, .inr (.inr (.inr (.inr (fun i => (f i).map (al E))))))) := hH.1 a _ (wd_get (E := E) hG)
  have hA := (C.2.2.2.2.2.1.2.1.2 1 _ rfl).1
  simp only [List.map_cons, rv, al_lt ha, al_lt hr] at K ⊢
  exact W.aald (v := .ref (eB E + r)) C.1 C.2.1 hc (hA n (fun j => va_rf ((f j).map (al E)))) rfl (fun q => by cases q) (by show ¬ (i < 0 ∨ (arrV _ _ _).slots.size ≤ _); rw [arrV_size]; exact hin) (by show (arrV _ _ _).slots[_]? = _; rw [arrV_read _ _ hlt]; simp [hf, va_rf, al_lt hr]) rfl rfl hd K
/-- an array of arrays -/
theorem ex_aald2 {a n r : Nat} {f : Nat → Option Nat} {i : Int32} (hd : decode X.2.2.1 pc = .ok (.aaload, 1)) (ha : a < 1000000) (hr : r < 1000000) (hG : G[a]? = some (.inl (2, n, .inr (.inr (.inr (.inr f)))))) (hin : vp_in i n) (hf : f i.toNatClampNeg = some r) (kk : Ex l E X d mc ms (pc + 1) L (.ref r :: st) G ce sl Po) : Ex l E X d mc ms pc L (.int i :: .ref a :: st) G ce sl Po := by
  intro p e R s m args below meth c H locs ls Q C h1 h2 hlv hH hz hq
  have K := kk p e R s m args below meth c H locs ls Q C h1 h2 hlv hH hz hq
  have hlt : i.toNatClampNeg < n := Nat.not_le.mp fun q => hin (Or.inr q)
  have hc : H[eB E + a]? = some (vp_cell (eC E 2) (n, .inr (.inr (.inr (.inr (fun i => (f i).map (al E))))))) := hH.1 a _ (wd_get (E := E) hG)
  have hA := (C.2.2.2.2.2.1.2.1.2 2 _ rfl).1
  simp only [List.map_cons, rv, al_lt ha, al_lt hr] at K ⊢
  exact W.aald (v := .ref (eB E + r)) C.1 C.2.1 hc (hA n (fun j => va_rf ((f j).map (al E)))) rfl (fun q => by cases q) (by show ¬ (i < 0 ∨ (arrV _ _ _).slots.size ≤ _); rw [arrV_size]; exact hin) (by show (arrV _ _ _).slots[_]? = _; rw [arrV_read _ _ hlt]; simp [hf, va_rf, al_lt hr]) rfl rfl hd K
end RH
