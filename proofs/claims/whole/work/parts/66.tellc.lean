/-! ===== PURE PART: the whole law, read by the class ===== -/
def catX : LwT → List (Int32 × Int32)
  | [] => []
  | l :: L => xC l.2.1 ++ xC l.2.2 ++ catX L
theorem catX_app (l : Nat × Cd × Cd) : ∀ L : LwT, catX (L ++ [l]) = catX L ++ xC l.2.1 ++ xC l.2.2
  | [] => by
    show xC l.2.1 ++ xC l.2.2 ++ [] = [] ++ xC l.2.1 ++ xC l.2.2
    rw [List.append_nil, List.nil_append]
  | a :: L => by
    show xC a.2.1 ++ xC a.2.2 ++ catX (L ++ [l]) = xC a.2.1 ++ xC a.2.2 ++ catX L ++ xC l.2.1 ++ xC l.2.2
    rw [catX_app l L]
    simp only [List.append_assoc]
theorem catX_get : ∀ (L : LwT) (i : Nat) (l : Nat × Cd × Cd), L[i]? = some l → catX L = catX (L.take i) ++ (xC l.2.1 ++ xC l.2.2 ++ catX (L.drop (i + 1)))
  | [], i, l, h => by simp at h
  | a :: L, 0, l, h => by
    simp at h
    subst h
    rfl
  | a :: L, i + 1, l, h => by
    have := catX_get L i l (by simpa using h)
    show xC a.2.1 ++ xC a.2.2 ++ catX L = (xC a.2.1 ++ xC a.2.2 ++ catX (L.take i)) ++ (xC l.2.1 ++ xC l.2.2 ++ catX (L.drop (i + 1)))
    rw [this]
    simp only [List.append_assoc]
def stL (L : LwT) (i : Nat) : Nat := (catX (L.take i)).length
def LC (L : LwT) (M : Mem) : Prop := M 143 7 = nI L.length ∧ ∀ i l, L[i]? = some l → M (143 + 1) i = nI (287 + l.1) ∧ M (143 + 2) i = nI (stL L i) ∧ M (143 + 3) i = nI (stL L i + (xC l.2.1).length) ∧ M (143 + 4) i = nI (stL L i + (xC l.2.1).length + (xC l.2.2).length)
theorem LC.law {L : LwT} {M : Mem} (h : LC L M) (hS : SC 143 (catX L) M) (hl : (catX L).length ≤ 400) : RLw 143 L M := by
  refine ⟨stL L, h.1, fun i l hi => ?_⟩
  obtain ⟨h1, h2, h3, h4⟩ := h.2 i l hi
  have e := catX_get L i l hi
  have el := congrArg List.length e
  rw [List.length_append, List.length_append, List.length_append] at el
  refine ⟨⟨h1, h2, h3, h4, by unfold stL; omega⟩, ?_⟩
  intro j p hp
  apply hS.2
  rw [e]
  exact get_app_r (get_app_l hp)
def Fl (b : Bool) (M M' : Mem) : Prop := (∀ a, a ≠ 136 → (a < 143 ∨ 150 ≤ a) → M' a = M a) ∧ ∀ k, k ≠ 6 → (b = true → k ≠ 7 ∧ k ≠ 8) → M' 136 k = M 136 k
theorem Fl.refl (b : Bool) (M : Mem) : Fl b M M := ⟨fun _ _ _ => rfl, fun _ _ _ => rfl⟩
theorem Fl.trans {b : Bool} {M M1 M2 : Mem} (h : Fl false M M1) (h2 : Fl b M1 M2) : Fl b M M2 := ⟨fun a b c => (h2.1 a b c).trans (h.1 a b c), fun a b c => (h2.2 a b c).trans (h.2 a b (fun z => by cases z))⟩
theorem Fc.fl {b : Bool} {M M' : Mem} (h : Fc b M M') : Fl b M M' := ⟨fun a b c => h.1 a b (by omega) (by omega) (by omega), h.2.1⟩
theorem Fl.up {b : Bool} {M : Mem} {a j : Nat} {x : Int32} (ha : 143 ≤ a ∧ a < 150) : Fl b M (up2 M a j x) := ⟨fun b _ hb => up2_cell _ _ _ (by omega), fun k _ _ => by rw [up2_cell _ _ _ (by omega)]⟩
section TLC
variable {N : Nat} {ty vl pl : Nat → Nat} {M : Mem}
theorem STc.fl {b : Bool} {M' : Mem} (h : STc N ty vl pl M) (hF : Fl b M M') : STc N ty vl pl M' := by
  unfold STc
  rw [hF.2 5 (by omega) (fun _ => by omega), hF.1 138 (by omega) (by omega), hF.1 139 (by omega) (by omega), hF.1 140 (by omega) (by omega)]
  exact h
def PcL (N : Nat) (pl : Nat → Nat) (i : Nat) (M : Mem) (R : Rs LwT) (p : Mem × Int32) : Prop := Fl (isl R) M p.1 ∧ match R with
  | .inl e => p.2 = 0 ∧ p.1 136 7 = nI e.1 ∧ p.1 136 8 = nI (pl e.2)
  | .inr q => p.2 = 1 ∧ i ≤ q.1 ∧ q.1 ≤ N ∧ p.1 136 6 = nI q.1 ∧ LC q.2 p.1 ∧ SC 143 (catX q.2) p.1 ∧ (catX q.2).length ≤ q.1
theorem pl_fail (hN : N ≤ 400) {M0 : Mem} (h : STc N ty vl pl M) (hF : Fl false M0 M) {i i0 : Nat} (hi : i ≤ N) (h6 : M 136 6 = nI i) {x : Int32} {k : Nat} (hx : x = nI k) : Wq (b2 (f_X9_fails x M) fun M4 x5 => b1 (gz x5) fun x6 => some (M4, x6)) (PcL N pl i0 M0 (.inl (k, i))) := by
  obtain ⟨M', e, h1, h2, h3, h4, _⟩ := fails_ok hN h hi h6 x
  rw [e, b2_some]
  have hg : gz 0 = some 0 := rfl
  rw [hg, b1_some]
  exact wq_some ⟨hF.trans h1.fl, rfl, by show M' 136 7 = nI k; rw [h2, hx], h3⟩
theorem lfull {L : LwT} (h : M 143 7 = nI L.length) (hl : L.length ≤ 16) : f_X2_isFull 143 M = 0 ↔ L.length ≠ 16 := by
  unfold f_X2_isFull
  rw [lt_eq, h]
  by_cases e : L.length = 16
  · rw [if_neg (by
      intro z
      have z : nI L.length < nI 16 := z
      rw [nI_lt_iff (by omega) (by omega)] at z; omega)]
    exact ⟨fun z => absurd z (by decide), fun z => absurd e z⟩
  · rw [if_pos (by
      show nI L.length < nI 16
      rw [nI_lt_iff (by omega) (by omega)]; omega)]
    exact ⟨fun _ => e, fun _ => rfl⟩
/-- the end of a line -/
theorem close_ok (hT : okT N ty) {M0 : Mem} {L : LwT} {l : Nat × Cd × Cd} {i i0 : Nat} (h : STc N ty vl pl M) (hF : Fl false M0 M) (hi0 : i0 ≤ i) (hi : i ≤ N) (h6 : M 136 6 = nI i) (hL : L.length < 16) (hLC : LC L M) (hS : SC 143 (catX L ++ xC l.2.1 ++ xC l.2.2) M) (hlen : (catX L).length + (xC l.2.1).length + (xC l.2.2).length ≤ i) (p1 : M (143 + 1) L.length = nI (287 + l.1)) (p2 : M (143 + 2) L.length = nI (catX L).length) (p3 : M (143 + 3) L.length = nI ((catX L).length + (xC l.2.1).length)) : Wq (b1 (f_X2_closeLine 143 M) fun M12 => b2 (f_X9_takes 59 M12) fun M13 x14 => b1 (gz x14) fun x15 => some (M13, x15)) (PcL N pl i0 M0 (bnR (nxG ty 59 i l) (fun j l => .inr (j, L ++ [l])))) := by
  have hN := hT.1
  have hA := lwAt_143
  unfold f_X2_closeLine
  rw [if_pos ((lfull hLC.1 (by omega)).2 (by omega)), hLC.1, hS.1, wr_nI hA.2.2.2.1 hL (by omega), b1_some, lt_eq, up2_cell _ _ _ (by omega), hLC.1, nI_inc, b1_some]
  generalize hMe : up2 (up2 M (143 + 4) L.length (nI (catX L ++ xC l.2.1 ++ xC l.2.2).length)) 143 7 (nI (L.length + 1)) = Me
  have fMe : Fl false M Me := by rw [← hMe]; exact (Fl.up (by omega)).trans (Fl.up (by omega))
  have g6 : Me 136 6 = nI i := by rw [← hMe, up2_cell _ _ _ (by omega), up2_cell _ _ _ (by omega)]; exact h6
  have hSe : SC 143 (catX (L ++ [l])) Me := by
    rw [catX_app]
    unfold SC
    rw [← hMe, up2_slot _ _ _ (by omega), up2_cell _ _ _ (by omega), up2_cell _ _ _ (by omega), up2_cell _ _ _ (by omega), up2_cell _ _ _ (by omega), up2_cell _ _ _ (by omega)]
    exact hS
  have hLe : LC (L ++ [l]) Me := by
    refine ⟨by rw [← hMe, up2_at, List.length_append]; rfl, ?_⟩
    intro k l' hl'
    rw [← hMe]
    rw [up2_cell _ _ _ (by omega), up2_cell _ _ _ (by omega), up2_cell _ _ _ (by omega), up2_cell _ _ _ (by omega), up2_cell _ _ _ (by omega), up2_cell _ _ _ (by omega), up2_cell _ _ _ (by omega)]
    by_cases e : k = L.length
    · subst e
      rw [List.getElem?_append_right (Nat.le_refl _), Nat.sub_self] at hl'
      have hl' : some l = some l' := hl'
      cases hl'
      have est : stL (L ++ [l]) L.length = (catX L).length := by
        unfold stL
        rw [List.take_append_of_le_length (Nat.le_refl _), List.take_length]
      rw [est]
      refine ⟨p1, p2, p3, ?_⟩
      rw [up2_at, List.length_append, List.length_append]
    · have hk : k < L.length := by
        have := (List.getElem?_eq_some_iff.mp hl').1
        rw [List.length_append] at this
        simp only [List.length_cons, List.length_nil] at this
        omega
      rw [List.getElem?_append_left hk] at hl'
      have est : stL (L ++ [l]) k = stL L k := by
        unfold stL
        rw [List.take_append_of_le_length (by omega)]
      rw [est, up2_slot _ _ _ e]
      exact hLC.2 k l' hl'
  have ht := hT.2.2.2 i
  have e59 := nI_eqc (k := 59) (x := 59) rfl ht (by omega)
  have hSt := h.fl fMe
  unfold f_X9_takes nxG
  rw [type_ok hN hSt hi g6, b1_some]
  by_cases hs : ty i = 59
  · have hiN : i < N := in_tok hT hi hs (by omega)
    rw [if_pos (e59.2 hs), lt_eq, take_ok g6, b2_some, if_pos hs, bnR_r]
    have hg : gz 1 = some 1 := rfl
    rw [hg, b1_some]
    refine wq_some ⟨(hF.trans fMe).trans (Fc.u136 (by omega)).fl, rfl, by simp only; omega, hiN, (by first | exact up2_at _ _ _ _ | (simp only; exact up2_at _ _ _ _)), ?_, hSe.u136, ?_⟩
    · unfold LC
      try simp only
      rw [up2_cell _ _ _ (by omega), up2_cell _ _ _ (by omega), up2_cell _ _ _ (by omega), up2_cell _ _ _ (by omega), up2_cell _ _ _ (by omega)]
      exact hLe
    · try simp only
      rw [catX_app, List.length_append, List.length_append]
      omega
  · rw [if_neg (fun z => hs (e59.1 z)), if_neg hs, bnR_l]
    obtain ⟨⟨M2, x2⟩, q1, q2, q3, q4⟩ := pl_fail (i0 := i0) hN hSt (hF.trans fMe) hi g6 (x := 1) (k := 1) rfl
    rw [q1, b2_some]
    simp only at q3
    rw [q3]
    have hg : gz 0 = some 0 := rfl
    rw [hg, b1_some]
    exact wq_some ⟨q2, rfl, q4⟩
theorem law_rng {t : Nat} (ht : t < 323) : f_X10_within (nI t) 307 310 = 0 ↔ ¬ (307 ≤ t ∧ t ≤ 310) := by
  rw [within0]
  have e1 : nI t < 307 ↔ t < 307 := nI_lt_iff (b := 307) (by omega) (by omega)
  have e2 : (310 : Int32) < nI t ↔ 310 < t := nI_lt_iff (a := 310) (by omega) (by omega)
  rw [e1, e2]; omega
theorem bnR_bnR {α β γ : Type} (x : Rs α) (f : Nat → α → Rs β) (g : Nat → β → Rs γ) : bnR (bnR x f) g = bnR x (fun j a => bnR (f j a) g) := by
  cases x with
  | inl e => rfl
  | inr p => rfl
theorem bnR_ite {α β : Type} {c : Prop} [Decidable c] (x y : Rs α) (g : Nat → α → Rs β) : bnR (if c then x else y) g = if c then bnR x g else bnR y g := by
  by_cases h : c
  · rw [if_pos h, if_pos h]
  · rw [if_neg h, if_neg h]
/-- a code is read, then more of the line -/
theorem pl_b2 {M0 M1 : Mem} {x : Option (Mem × Int32)} {k : Mem → Option (Mem × Int32)} {R : Rs Cd} {f : Nat → Cd → Rs LwT} {i1 i0 : Nat} {X1 : List (Int32 × Int32)} (h : Wq x (PcC N pl i1 X1 M1 R)) (hF : Fl false M0 M1) (hk : ∀ j c M2, i1 < j → j ≤ N → Fc false M1 M2 → M2 136 6 = nI j → SC 143 (X1 ++ xC c) M2 → (xC c).length + i1 ≤ j → Wq (k M2) (PcL N pl i0 M0 (f j c))) : Wq (b2 x fun M2 x2 => if x2 = 0 then some (M2, 0) else k M2) (PcL N pl i0 M0 (bnR R f)) := by
  obtain ⟨⟨M2, x2⟩, rfl, hFF, hm⟩ := h
  rw [b2_some]
  cases R with
  | inl e =>
    obtain ⟨h1, h2, h3, h4⟩ := hm
    simp only at h1
    rw [if_pos h1]
    exact wq_some ⟨hF.trans hFF.fl, rfl, h2, h3⟩
  | inr q =>
    obtain ⟨h1, h2, h3, h4, h5, h6⟩ := hm
    simp only at h1
    rw [if_neg (by rw [h1]; decide)]
    exact hk q.1 q.2 M2 h2 h3 hFF h4 h5 h6
theorem LC.fc {b : Bool} {L : LwT} {M' : Mem} (h : LC L M) (hF : Fc b M M') : LC L M' := by
  unfold LC
  rw [hF.2.2 7 (by omega), hF.1 (143 + 1) (by omega) (by omega) (by omega) (by omega), hF.1 (143 + 2) (by omega) (by omega) (by omega) (by omega), hF.1 (143 + 3) (by omega) (by omega) (by omega) (by omega), hF.1 (143 + 4) (by omega) (by omega) (by omega) (by omega)]
  exact h
theorem readLine_ok (hT : okT N ty) (hv : ∀ i, ty i = 256 → vl i ≤ 9999) (h : STc N ty vl pl M) {i : Nat} {L : LwT} (hi : i ≤ N) (h6 : M 136 6 = nI i) (hL : L.length ≤ 16) (hLC : LC L M) (hS : SC 143 (catX L) M) (hlen : (catX L).length ≤ i) : Wq (f_X3_readLine M) (PcL N pl (i + 1) M (if 307 ≤ ty i ∧ ty i ≤ 310 then (if L.length = 16 then .inl (3, i) else bnR (lnG ty vl i) (fun j l => .inr (j, L ++ [l]))) else .inl (1, i))) := by
  have hN := hT.1
  have hA := lwAt_143
  have ht := hT.2.2.2 i
  unfold f_X3_readLine
  rw [type_ok hN h hi h6, b1_some]
  by_cases hw : 307 ≤ ty i ∧ ty i ≤ 310
  · rw [if_neg (fun z => (law_rng ht).1 z hw), if_pos hw]
    by_cases h16 : L.length = 16
    · rw [if_neg (fun z => (lfull hLC.1 hL).1 z h16), if_pos h16]
      exact pl_fail hN h (Fl.refl _ _) hi h6 rfl
    · have hiN : i < N := in_tok hT hi rfl (by omega)
      rw [if_pos ((lfull hLC.1 hL).2 h16), if_neg h16, lt_eq, take_ok h6]
      unfold f_X2_beginLine
      have hfu : f_X2_isFull 143 (up2 M 136 6 (nI (i + 1))) = 0 := (lfull (L := L) (by rw [up2_cell _ _ _ (by omega)]; exact hLC.1) hL).2 h16
      rw [if_pos hfu, up2_cell _ _ _ (by omega), hLC.1, wr_nI hA.1 (by omega) (by omega), b1_some, up2_cell _ _ _ (by omega), up2_cell _ _ _ (by omega), hLC.1, hS.1, wr_nI hA.2.1 (by omega) (by omega), b1_some, b1_some]
      generalize hM5 : up2 (up2 (up2 M 136 6 (nI (i + 1))) (143 + 1) L.length (nI (ty i))) (143 + 2) L.length (nI (catX L).length) = M5
      have f5 : Fl false M M5 := by rw [← hM5]; exact ((Fc.u136 (by omega)).fl.trans (Fl.up (by omega))).trans (Fl.up (by omega))
      have g6 : M5 136 6 = nI (i + 1) := by rw [← hM5, up2_cell _ _ _ (by omega), up2_cell _ _ _ (by omega), up2_at]
      have s5 : SC 143 (catX L) M5 := by
        unfold SC
        rw [← hM5]
        rw [up2_cell _ _ _ (by omega), up2_cell _ _ _ (by omega), up2_cell _ _ _ (by omega), up2_cell _ _ _ (by omega), up2_cell _ _ _ (by omega), up2_cell _ _ _ (by omega), up2_cell _ _ _ (by omega), up2_cell _ _ _ (by omega), up2_cell _ _ _ (by omega)]
        exact hS
      have q1 : M5 (143 + 1) L.length = nI (287 + (ty i - 287)) := by
        rw [← hM5, up2_cell _ _ _ (by omega), up2_at, show 287 + (ty i - 287) = ty i from by omega]
      have q2 : M5 (143 + 2) L.length = nI (catX L).length := by rw [← hM5, up2_at]
      have l5 : LC L M5 := by
        refine ⟨?_, fun k l hl => ?_⟩
        · rw [← hM5, up2_cell _ _ _ (by omega), up2_cell _ _ _ (by omega), up2_cell _ _ _ (by omega)]; exact hLC.1
        · have hk : k < L.length := (List.getElem?_eq_some_iff.mp hl).1
          rw [← hM5]
          have := hLC.2 k l hl
          refine ⟨?_, ?_, ?_, ?_⟩
          · rw [up2_cell _ _ _ (by omega), up2_slot _ _ _ (by omega), up2_cell _ _ _ (by omega)]; exact this.1
          · rw [up2_slot _ _ _ (by omega), up2_cell _ _ _ (by omega), up2_cell _ _ _ (by omega)]; exact this.2.1
          · rw [up2_cell _ _ _ (by omega), up2_cell _ _ _ (by omega), up2_cell _ _ _ (by omega)]; exact this.2.2.1
          · rw [up2_cell _ _ _ (by omega), up2_cell _ _ _ (by omega), up2_cell _ _ _ (by omega)]; exact this.2.2.2
      unfold lnG
      rw [bnR_bnR]
      refine pl_b2 (readSum_ok hT hv (h.fl f5) hiN g6 s5 (by omega)) f5 ?_
      intro j c M6 h1 h2 h3 h4 h5 h7
      have l6 := l5.fc h3
      unfold f_X2_beginWhen
      rw [if_pos ((lfull l6.1 hL).2 h16), l6.1, h5.1, wr_nI hA.2.2.1 (by omega) (by omega), b1_some, b1_some]
      generalize hM9 : up2 M6 (143 + 3) L.length (nI (catX L ++ xC c).length) = M9
      have f9 : Fl false M6 M9 := by rw [← hM9]; exact Fl.up (by omega)
      have F9 : Fl false M M9 := (f5.trans h3.fl).trans f9
      have g9 : M9 136 6 = nI j := by rw [← hM9, up2_cell _ _ _ (by omega)]; exact h4
      have s9 : SC 143 (catX L ++ xC c) M9 := by
        unfold SC
        rw [← hM9, up2_cell _ _ _ (by omega), up2_cell _ _ _ (by omega), up2_cell _ _ _ (by omega)]
        exact h5
      have l9 : LC L M9 := by
        refine ⟨?_, fun k l hl => ?_⟩
        · rw [← hM9, up2_cell _ _ _ (by omega)]; exact l6.1
        · have hk : k < L.length := (List.getElem?_eq_some_iff.mp hl).1
          rw [← hM9, up2_cell _ _ _ (by omega), up2_cell _ _ _ (by omega), up2_slot _ _ _ (by omega), up2_cell _ _ _ (by omega)]
          exact l6.2 k l hl
      have r1 : M9 (143 + 1) L.length = nI (287 + (ty i - 287)) := by rw [← hM9, up2_cell _ _ _ (by omega), h3.1 (143 + 1) (by omega) (by omega) (by omega) (by omega)]; exact q1
      have r2 : M9 (143 + 2) L.length = nI (catX L).length := by rw [← hM9, up2_cell _ _ _ (by omega), h3.1 (143 + 2) (by omega) (by omega) (by omega) (by omega)]; exact q2
      have r3 : M9 (143 + 3) L.length = nI ((catX L).length + (xC c).length) := by rw [← hM9, up2_at, List.length_append]
      have st9 := h.fl F9
      have e311 := nI_eqc (k := 311) (x := 311) rfl (hT.2.2.2 j) (by omega)
      rw [type_ok hN st9 h2 g9, b1_some, bnR_ite]
      by_cases hs : ty j = 311
      · have hjN : j < N := in_tok hT h2 hs (by omega)
        rw [if_pos (e311.2 hs), if_pos hs, lt_eq, take_ok g9, bnR_bnR]
        have F16 : Fl false M (up2 M9 136 6 (nI (j + 1))) := F9.trans (Fc.u136 (by omega)).fl
        refine pl_b2 (any_ok hT hv (j + 1) _ _ (h.fl F16) hjN (up2_at _ _ _ _) s9.u136 (by rw [List.length_append]; omega)) F16 ?_
        intro j2 c2 M17 k1 k2 k3 k4 k5 k7
        have fc17 : Fc false M9 M17 := (Fc.u136 (by omega)).trans k3
        exact close_ok (l := (ty i - 287, c, c2)) hT (h.fl (F9.trans fc17.fl)) (F9.trans fc17.fl) (by omega) k2 k4 (by omega) (l9.fc fc17) k5 (by simp only; omega) (by rw [fc17.1 (143 + 1) (by omega) (by omega) (by omega) (by omega)]; exact r1) (by rw [fc17.1 (143 + 2) (by omega) (by omega) (by omega) (by omega)]; exact r2) (by rw [fc17.1 (143 + 3) (by omega) (by omega) (by omega) (by omega)]; exact r3)
      · rw [if_neg (fun z => hs (e311.1 z)), if_neg hs]
        exact close_ok (l := (ty i - 287, c, [])) hT st9 F9 (by omega) h2 g9 (by omega) l9 (by show SC 143 (catX L ++ xC c ++ []) M9; rw [List.append_nil]; exact s9) (by show (catX L).length + (xC c).length + 0 ≤ j; omega) r1 r2 r3
  · rw [if_pos ((law_rng ht).2 hw), if_neg hw]
    exact pl_fail hN h (Fl.refl _ _) hi h6 rfl
theorem tell_run (hT : okT N ty) (hv : ∀ i, ty i = 256 → vl i ≤ 9999) {M0 : Mem} (h0 : STc N ty vl pl M0) : ∀ (f i : Nat) (L : LwT) (M : Mem) (fuel : Nat), f + L.length = 17 → L.length ≤ 16 → f < fuel → Fl false M0 M → i ≤ N → M 136 6 = nI i → LC L M → SC 143 (catX L) M → (catX L).length ≤ i → Wq (lp (fun s => w_X3_tell_9 s.1 s.2) fuel (nI L.length, M)) (fun r => PcL N pl 0 M0 (lwG ty vl f i L) (match r with | .inl m => (m, 0) | .inr m => (m, 1)))
  | f, i, L, M, 0, _, _, hfu, _, _, _, _, _, _ => absurd hfu (Nat.not_lt_zero _)
  | 0, i, L, M, fuel + 1, hf, hL, _, _, _, _, _, _, _ => by omega
  | f + 1, i, L, M, fuel + 1, hf, hL, hfu, hF, hi, h6, hLC, hS, hlen => by
    have hN := hT.1
    have hSt := h0.fl hF
    have ht := hT.2.2.2 i
    have e258 := nI_eqc (k := 258) (x := 258) rfl ht (by omega)
    have hae : f_X9_atEnd M = some (if ty i = 258 then 1 else 0) := by
      unfold f_X9_atEnd
      rw [type_ok hN hSt hi h6, b1_some, lt_eq]
      by_cases z : ty i = 258
      · rw [if_pos z, if_pos (e258.2 z)]
      · rw [if_neg z, if_neg (fun y => z (e258.1 y))]
    have h17 : ¬ (16 : Int32) < nI L.length := by
      intro z
      have z : nI 16 < nI L.length := z
      rw [nI_lt_iff (by omega) (by omega)] at z; omega
    unfold lwG
    by_cases hs : ty i = 258
    · rw [if_pos hs]
      have hb : (fun s : Int32 × Mem => w_X3_tell_9 s.1 s.2) (nI L.length, M) = some (.inr (.inr M)) := by
        simp only [w_X3_tell_9]
        rw [if_neg h17, hae, b1_some, if_pos hs, if_neg (by decide)]
      rw [lp_end hb]
      exact wq_some ⟨hF, rfl, Nat.zero_le _, hi, h6, hLC, hS, hlen⟩
    · rw [if_neg hs]
      obtain ⟨⟨M7, x8⟩, e1, hFF, hm⟩ := readLine_ok hT hv hSt hi h6 hL hLC hS hlen
      have hbody : ∀ r, (if x8 = 0 then (some (.inr (.inl M7)) : Option ((Int32 × Mem) ⊕ (Mem ⊕ Mem))) else (some (.inl ((nI L.length + 1), M7)))) = r → (fun s : Int32 × Mem => w_X3_tell_9 s.1 s.2) (nI L.length, M) = r := by
        intro r hr
        simp only [w_X3_tell_9]
        rw [if_neg h17, hae, b1_some, if_neg hs, if_pos rfl, e1, b2_some]
        exact hr
      have fail : ∀ e : Nat × Nat, Fl true M M7 → (x8 = 0 ∧ M7 136 7 = nI e.1 ∧ M7 136 8 = nI (pl e.2)) → Wq (lp (fun s => w_X3_tell_9 s.1 s.2) (fuel + 1) (nI L.length, M)) (fun r => PcL N pl 0 M0 (.inl e) (match r with | .inl m => (m, 0) | .inr m => (m, 1))) := by
        rintro e hFF ⟨z1, z2, z3⟩
        rw [lp_end (hbody _ (if_pos z1))]
        exact wq_some ⟨hF.trans hFF, rfl, z2, z3⟩
      by_cases hw : 307 ≤ ty i ∧ ty i ≤ 310
      · rw [if_pos hw] at hm hFF ⊢
        by_cases h16 : L.length = 16
        · rw [if_pos h16] at hm hFF ⊢
          exact fail _ hFF hm
        · rw [if_neg h16] at hm hFF ⊢
          cases hR : lnG ty vl i with
          | inl e =>
            rw [hR, bnR_l] at hm hFF
            rw [bnR_l]
            exact fail _ hFF hm
          | inr q =>
            obtain ⟨j, l⟩ := q
            rw [hR, bnR_r] at hm hFF
            rw [bnR_r]
            obtain ⟨g1, g2, g3, g4, g5, g6, g7⟩ := hm
            simp only at g1 g2 g3 g4 g5 g6 g7
            have el : (L ++ [l]).length = L.length + 1 := by rw [List.length_append]; rfl
            rw [lp_in (hbody _ (if_neg (by rw [g1]; decide))), nI_inc, ← el]
            exact tell_run hT hv h0 f j (L ++ [l]) M7 fuel (by omega) (by omega) (by omega) (hF.trans hFF) g3 g4 g5 g6 g7
      · rw [if_neg hw] at hm hFF ⊢
        exact fail _ hFF hm
theorem tell_ok (hT : okT N ty) (hv : ∀ i, ty i = 256 → vl i ≤ 9999) (h : STc N ty vl pl M) (h6 : M 136 6 = 0) : Wq (f_X3_tell (1 + 13) M) (fun p => match lwG ty vl 17 0 [] with
    | .inl e => Fl true M p.1 ∧ p.2 = -1 ∧ p.1 136 7 = nI e.1 ∧ p.1 136 8 = nI (pl e.2)
    | .inr q => p.2 = nI q.2.length ∧ RLw (1 + 13) q.2 p.1 ∧ ∃ M1, Fl false M M1 ∧ Out (1 + 13) (1 + 13 + 7) M1 p.1) := by
  have hN := hT.1
  unfold f_X3_tell f_X2_empty
  simp only [lt_eq]
  generalize hM1 : up2 (up2 M 143 7 0) 143 8 0 = M1
  have f1 : Fl false M M1 := by rw [← hM1]; exact (Fl.up (by omega)).trans (Fl.up (by omega))
  have g6 : M1 136 6 = nI 0 := by rw [← hM1, up2_cell _ _ _ (by omega), up2_cell _ _ _ (by omega)]; exact h6
  have l1 : LC [] M1 := ⟨by rw [← hM1, up2_slot _ _ _ (by omega), up2_at]; rfl, fun i l hl => by simp at hl⟩
  have s1 : SC 143 (catX []) M1 := ⟨by rw [← hM1, up2_at]; rfl, fun j p hp => by simp [catX] at hp⟩
  obtain ⟨r, e1, hF, hm⟩ := tell_run hT hv h 17 0 [] M1 FU rfl (by decide) (by unfold FU; omega) f1 (Nat.zero_le _) g6 l1 s1 (Nat.le_refl _)
  have e1 : lp (fun s => w_X3_tell_9 s.1 s.2) FU (0, M1) = some r := e1
  rw [e1, b1_some]
  have hg : OKL ([] : LwT) := ⟨by decide, fun l hl => by simp at hl⟩
  have hok := lw_good (ty := ty) (vl := vl) hv 17 0 [] hg
  cases hR : lwG ty vl 17 0 [] with
  | inl e =>
    rw [hR] at hF hm
    obtain ⟨h1, h2, h3⟩ := hm
    cases r with
    | inr m => exact absurd (show (1 : Int32) = 0 from h1) (by decide)
    | inl m => exact wq_some ⟨hF, rfl, h2, h3⟩
  | inr q =>
    rw [hR] at hF hm
    obtain ⟨h1, h2, h3, h4, h5, h7, h8⟩ := hm
    cases r with
    | inl m => exact absurd (show (0 : Int32) = 1 from h1) (by decide)
    | inr m =>
      simp only at h3 h4 h5 h7 h8 ⊢
      have hL : q.2.length ≤ 16 := (hok q.1 q.2 hR).1
      refine wq_b1 (lawCopy_ok lwAt_14 lwAt_143 hL (h5.law h7 (by omega)) (by omega)) ?_
      rintro M13 ⟨k1, k2⟩
      have k3 := k1
      obtain ⟨st, k4, _⟩ := k3
      exact wq_some ⟨k4, k1, m, hF, k2⟩
end TLC
