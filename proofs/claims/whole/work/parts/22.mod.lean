/-! ===== PURE PART: the same market in the reference's row ===== -/
def tcn (k : Nat) : Nat := [80, 84, 85, 86, 7, 5, 87, 88, 89, 90].getD k 0
def tbs (k : Nat) : Nat := [91, 103, 139, 187, 8, 370, 307, 319, 331, 337].getD k 0
def twd (k : Nat) : Nat := [2, 3, 4, 10, 5, 4, 2, 2, 1, 4].getD k 0
def tmx (k : Nat) : Nat := [6, 12, 12, 12, 14, 150, 6, 6, 6, 8].getD k 0
def nsl (k : Nat) : Nat := [0, 1, 2, 3, 4, 6, 81, 82].getD k 0
def inReg (k j : Nat) : Prop := j = tcn k ∨ (tbs k ≤ j ∧ j < tbs k + tmx k * twd k)
theorem lt10 {k : Nat} (h : k < 10) : k = 0 ∨ k = 1 ∨ k = 2 ∨ k = 3 ∨ k = 4 ∨ k = 5 ∨ k = 6 ∨ k = 7 ∨ k = 8 ∨ k = 9 := by omega
theorem lt8 {k : Nat} (h : k < 8) : k = 0 ∨ k = 1 ∨ k = 2 ∨ k = 3 ∨ k = 4 ∨ k = 5 ∨ k = 6 ∨ k = 7 := by omega
/-- the first and the last place of a table, and its count's -/
theorem reg_disj {k k' j : Nat} (hk : k < 10) (hk' : k' < 10) (hne : k ≠ k') (h : inReg k j) : ¬ inReg k' j := by
  rcases lt10 hk with rfl | rfl | rfl | rfl | rfl | rfl | rfl | rfl | rfl | rfl <;> rcases lt10 hk' with rfl | rfl | rfl | rfl | rfl | rfl | rfl | rfl | rfl | rfl <;> first | exact absurd rfl hne | (simp [inReg, tcn, tbs, twd, tmx] at h ⊢; omega)
theorem reg_num {k i : Nat} (hk : k < 10) (hi : i < 8) : ¬ inReg k (nsl i) := by
  rcases lt10 hk with rfl | rfl | rfl | rfl | rfl | rfl | rfl | rfl | rfl | rfl <;> rcases lt8 hi with rfl | rfl | rfl | rfl | rfl | rfl | rfl | rfl <;> simp [inReg, tcn, tbs, twd, tmx, nsl]
theorem reg_law {k j : Nat} (hk : k < 10) (hj : j = 83 ∨ 970 ≤ j) : ¬ inReg k j := by
  rcases lt10 hk with rfl | rfl | rfl | rfl | rfl | rfl | rfl | rfl | rfl | rfl <;> simp [inReg, tcn, tbs, twd, tmx] <;> omega
theorem num_inj {i i' : Nat} (hi : i < 8) (hi' : i' < 8) (h : nsl i = nsl i') : i = i' := by
  rcases lt8 hi with rfl | rfl | rfl | rfl | rfl | rfl | rfl | rfl <;> rcases lt8 hi' with rfl | rfl | rfl | rfl | rfl | rfl | rfl | rfl <;> first | rfl | (simp [nsl] at h)
theorem num_law {i : Nat} (hi : i < 8) : nsl i ≠ 83 ∧ nsl i < 970 := by
  rcases lt8 hi with rfl | rfl | rfl | rfl | rfl | rfl | rfl | rfl <;> simp [nsl]
def RT (c k : Nat) (T : Tb) (M : Mem) : Prop := M c (tcn k) = nI T.1 ∧ T.1 ≤ tmx k ∧ ∀ r j, r < T.1 → j < twd k → M c (tbs k + (r * twd k + j)) = T.2 r j
def RMm (c : Nat) (A : AS) (M : Mem) : Prop := (∀ k, k < 8 → M c (nsl k) = A.1 k) ∧ (∀ k, k < 10 → RT c k (A.2.1 k) M) ∧ RLm c A.2.2 M
theorem RT.congr {c k : Nat} {T : Tb} {M M' : Mem} (h : RT c k T M) (hs : ∀ j, inReg k j → M' c j = M c j) : RT c k T M' := by
  refine ⟨by rw [hs _ (.inl rfl)]; exact h.1, h.2.1, ?_⟩
  intro r j hr hj
  have := row_lt (m := tmx k) hr hj h.2.1
  rw [hs _ (.inr ⟨by omega, by omega⟩)]
  exact h.2.2 r j hr hj
theorem RLm.congr {c : Nat} {L : LwT} {M M' : Mem} (h : RLm c L M) (hL : L.length ≤ 16) (hs : ∀ j, j = 83 ∨ 970 ≤ j → M' c j = M c j) : RLm c L M' := by
  obtain ⟨st, h1, h2⟩ := h
  refine ⟨st, by rw [hs _ (.inl rfl)]; exact h1, ?_⟩
  intro i l hl
  obtain ⟨⟨r1, r2, r3, r4, r5⟩, r6⟩ := h2 i l hl
  refine ⟨⟨by rw [hs _ (.inr (by omega))]; exact r1, by rw [hs _ (.inr (by omega))]; exact r2, by rw [hs _ (.inr (by omega))]; exact r3, by rw [hs _ (.inr (by omega))]; exact r4, r5⟩, ?_⟩
  intro j p hp
  rw [hs _ (.inr (by omega)), hs _ (.inr (by omega))]
  exact r6 j p hp
theorem RMm.out {c lo hi : Nat} {A : AS} {M M' : Mem} (h : RMm c A M) (hO : Out lo hi M M') (hc : c < lo ∨ hi ≤ c) : RMm c A M' := by
  have e := hO c hc
  refine ⟨fun k hk => by rw [e]; exact h.1 k hk, fun k hk => (h.2.1 k hk).congr (fun j _ => by rw [e]), h.2.2.out hO hc⟩
theorem RMm.putT {c : Nat} {A : AS} {M M' : Mem} (h : RMm c A M) (hL : A.2.2.length ≤ 16) {k : Nat} (hk : k < 10) {T : Tb} (hT : RT c k T M') (hs : ∀ j, ¬ inReg k j → M' c j = M c j) : RMm c (setT A k T) M' := by
  refine ⟨fun i hi => by rw [hs _ (reg_num hk hi)]; exact h.1 i hi, fun i hi => ?_, h.2.2.congr hL (fun j hj => hs _ (reg_law hk hj))⟩
  by_cases e : i = k
  · subst e; show RT c i (if i = i then T else A.2.1 i) M'; rw [if_pos rfl]; exact hT
  · show RT c i (if i = k then T else A.2.1 i) M'
    rw [if_neg e]
    exact (h.2.1 i hi).congr (fun j hj => hs j (reg_disj hi hk e hj))
theorem RMm.putN {c : Nat} {A : AS} {M M' : Mem} (h : RMm c A M) (hL : A.2.2.length ≤ 16) {k : Nat} (hk : k < 8) {v : Int32} (hv : M' c (nsl k) = v) (hs : ∀ j, j ≠ nsl k → M' c j = M c j) : RMm c (setN A k v) M' := by
  refine ⟨fun i hi => ?_, fun i hi => (h.2.1 i hi).congr (fun j hj => hs j (fun e => reg_num hi hk (e ▸ hj))), h.2.2.congr hL (fun j hj => hs j (by have := num_law hk; omega))⟩
  show _ = upd A.1 k v i
  unfold upd
  by_cases e : i = k
  · rw [if_pos e, e]; exact hv
  · rw [if_neg e, hs _ (fun q => e (num_inj hi hk q))]; exact h.1 i hi
theorem RMm.upN {c : Nat} {A : AS} {M : Mem} (h : RMm c A M) (hL : A.2.2.length ≤ 16) {k : Nat} (hk : k < 8) (v : Int32) : RMm c (setN A k v) (up2 M c (nsl k) v) :=
  h.putN hL hk (up2_at _ _ _ _) (fun j hj => up2_slot _ _ _ hj)
section MDL
variable {A : AS} {M : Mem}
theorem rt_rd (h : RMm 156 A M) {k r j n : Nat} (hk : k < 10) (hr : r < (A.2.1 k).1) (hj : j < twd k) (hn : n = tbs k + (r * twd k + j)) : rd M 156 (nI n) = some ((A.2.1 k).2 r j) := by
  have hT := h.2.1 k hk
  have hlt := row_lt (m := tmx k) hr hj hT.2.1
  have hb : tbs k + tmx k * twd k ≤ 970 := by rcases lt10 hk with rfl | rfl | rfl | rfl | rfl | rfl | rfl | rfl | rfl | rfl <;> simp [tbs, tmx, twd]
  subst hn
  rw [rd_nI la_156 (by omega) (by omega), hT.2.2 r j hr hj]
theorem tm_le (h : RMm 156 A M) {k : Nat} (hk : k < 10) : (A.2.1 k).1 ≤ 150 := by
  have := (h.2.1 k hk).2.1
  have hb : tmx k ≤ 150 := by rcases lt10 hk with rfl | rfl | rfl | rfl | rfl | rfl | rfl | rfl | rfl | rfl <;> simp [tmx]
  omega
theorem idx2 (a b i : Nat) : nI a + nI b * nI i = nI (a + b * i) := by rw [nI_mul, nI_add]
theorem idx3 (a b i f : Nat) : (nI a + nI b * nI i) + nI f = nI (a + b * i + f) := by rw [nI_mul, nI_add, nI_add]
theorem ofRemain_nI (h : RMm 156 A M) {i : Nat} (hi : i < (A.2.1 4).1) {f : Nat} (hf : f < 5) : f_X11_ofRemain (nI i) (nI f) M = some ((A.2.1 4).2 i f) := by
  unfold f_X11_ofRemain
  have e : ((8 + (5 * nI i)) + nI f) = nI (8 + 5 * i + f) := idx3 8 5 i f
  rw [e, rt_rd h (k := 4) (by omega) hi (j := f) hf (by simp [tbs, twd]; omega), b1_some]
theorem ofRemain_ok (h : RMm 156 A M) {i : Nat} (hi : i < (A.2.1 4).1) (f : Nat) (hx : (OfNat.ofNat f : Int32) = nI f) (hf : f < 5) : f_X11_ofRemain (nI i) (OfNat.ofNat f) M = some ((A.2.1 4).2 i f) := by rw [hx]; exact ofRemain_nI h hi hf
theorem wholeOf_ok (h : RMm 156 A M) {k : Nat} (hk : k < (A.2.1 0).1) : f_X11_wholeOf (nI k) M = some ((A.2.1 0).2 k 0) := by
  unfold f_X11_wholeOf
  have e : (91 + (2 * nI k)) = nI (91 + 2 * k) := idx2 91 2 k
  rw [e, rt_rd h (k := 0) (by omega) hk (j := 0) (by simp [twd]) (by simp [tbs, twd]; omega), b1_some]
theorem keepsOf_ok (h : RMm 156 A M) {k : Nat} (hk : k < (A.2.1 0).1) : f_X11_keepsOf (nI k) M = some ((A.2.1 0).2 k 1) := by
  unfold f_X11_keepsOf
  have e : ((91 + (2 * nI k)) + 1) = nI (91 + 2 * k + 1) := idx3 91 2 k 1
  rw [e, rt_rd h (k := 0) (by omega) hk (j := 1) (by simp [twd]) (by simp [tbs, twd]; omega), b1_some]
theorem ageOf_m (h : RMm 156 A M) {i : Nat} (hi : i < (A.2.1 4).1) : f_X11_ageOf (nI i) M = some (A.1 0 - (A.2.1 4).2 i 2) := by
  unfold f_X11_ageOf
  rw [ofRemain_ok h hi 2 rfl (by omega), b1_some]
  have : M 156 0 = A.1 0 := h.1 0 (by omega)
  rw [this]
theorem laysFeast_ok (h : RMm 156 A M) {k : Nat} (hk : k < (A.2.1 0).1) (g : Int32) : Wq (f_X11_laysFeast (nI k) g M) (fun M' => (∀ j, j < 7 → M' 165 (j + 1) = factsF A k g j) ∧ Out 165 166 M M') := by
  unfold f_X11_laysFeast
  rw [lt_eq, wholeOf_ok (h.out ((Out.refl 165 166 M).up (j := 1) (x := nI k) (by omega) (by omega)) (by omega)) hk, b1_some]
  simp only [lt_eq]
  refine wq_some ⟨?_, ?_⟩
  · intro j hj
    have hd : M 156 0 = A.1 0 := h.1 0 (by omega)
    have : j = 0 ∨ j = 1 ∨ j = 2 ∨ j = 3 ∨ j = 4 ∨ j = 5 ∨ j = 6 := by omega
    rcases this with rfl | rfl | rfl | rfl | rfl | rfl | rfl <;> simp [up2_eq, factsF, hd]
  · intro a ha
    simp only [up2_cell _ _ _ (show a ≠ 165 by omega)]
theorem laysRemain_ok (h : RMm 156 A M) (hR : okRk A) {i : Nat} (hi : i < (A.2.1 4).1) (later : Int32) : Wq (f_X11_laysRemain (nI i) later M) (fun M' => (∀ j, j < 7 → M' 165 (j + 1) = factsR A i later j) ∧ Out 165 166 M M') := by
  obtain ⟨k, hk, hk2⟩ := hR i hi
  have hk6 : k < 1000 := by have := tm_le h (k := 0) (by omega); omega
  unfold f_X11_laysRemain
  rw [ofRemain_ok h hi 0 rfl (by omega), b1_some, hk2]
  refine wq_b1 (laysFeast_ok h hk 0) ?_
  rintro M2 ⟨hF, hO⟩
  have h2 := h.out hO (by omega)
  have up : ∀ {M' : Mem} (j : Nat) (x : Int32), Out 165 166 M M' → Out 165 166 M (up2 M' 165 j x) := fun j x hx => hx.up (by omega) (by omega)
  rw [ofRemain_ok h2 hi 1 rfl (by omega), b1_some, lt_eq, ageOf_m (h.out (up _ _ hO) (by omega)) hi, b1_some, lt_eq, ofRemain_ok (h.out (up _ _ (up _ _ hO)) (by omega)) hi 3 rfl (by omega), b1_some]
  simp only [lt_eq]
  refine wq_some ⟨?_, ?_⟩
  · intro j hj
    have hd : M2 156 0 = A.1 0 := h2.1 0 (by omega)
    have hkr := kindR_of hk2 hk6
    have f0 := hF 0 (by omega)
    have f1 := hF 1 (by omega)
    have f2 := hF 2 (by omega)
    simp [factsF] at f0 f1 f2
    have : j = 0 ∨ j = 1 ∨ j = 2 ∨ j = 3 ∨ j = 4 ∨ j = 5 ∨ j = 6 := by omega
    rcases this with rfl | rfl | rfl | rfl | rfl | rfl | rfl <;> simp [up2_eq, factsR, hd, hkr, hk2, f0, f1, f2]
  · intro a ha
    simp only [up2_cell _ _ _ (show a ≠ 165 by omega)]
    exact hO a ha
theorem leftOf_ok (h : RMm 156 A M) (hL : OKL A.2.2) {k : Nat} (hk : k < (A.2.1 0).1) (g : Int32) : Wq (f_X11_leftOf (nI k) g M) (fun p => p.2 = leftS A k g ∧ Out 164 166 M p.1) := by
  unfold f_X11_leftOf
  refine wq_b1 (laysFeast_ok h hk g) ?_
  rintro M1 ⟨hF, hO⟩
  have h1 := h.out hO (by omega)
  rw [wholeOf_ok h1 hk, b1_some, b1_some]
  refine wq_b2 (says_ok (w := 20) (F := factsF A k g) hL h1.2.2 (by omega) hF) ?_
  rintro M2 x ⟨hx, hO2⟩
  exact wq_some ⟨hx, (hO.wide (by omega) (by omega)).trans (hO2.wide (by omega) (by omega))⟩
theorem edgeOf_ok (h : RMm 156 A M) (hL : OKL A.2.2) {k : Nat} (hk : k < (A.2.1 0).1) (g : Int32) : Wq (f_X11_edgeOf (nI k) g M) (fun p => p.2 = edgeS A k g ∧ Out 164 166 M p.1) := by
  unfold f_X11_edgeOf
  refine wq_b1 (laysFeast_ok h hk g) ?_
  rintro M1 ⟨hF, hO⟩
  have h1 := h.out hO (by omega)
  refine wq_b2 (says_ok (w := 23) (F := factsF A k g) hL h1.2.2 (by omega) hF) ?_
  rintro M2 x ⟨hx, hO2⟩
  exact wq_some ⟨hx, (hO.wide (by omega) (by omega)).trans (hO2.wide (by omega) (by omega))⟩
theorem priceOf_m (h : RMm 156 A M) (hL : OKL A.2.2) (hR : okRk A) {i : Nat} (hi : i < (A.2.1 4).1) (later : Int32) : Wq (f_X11_priceOf (nI i) later M) (fun p => p.2 = priceS A i later ∧ Out 164 166 M p.1) := by
  unfold f_X11_priceOf
  refine wq_b1 (laysRemain_ok h hR hi later) ?_
  rintro M1 ⟨hF, hO⟩
  have h1 := h.out hO (by omega)
  rw [ofRemain_ok h1 hi 1 rfl (by omega), b1_some]
  refine wq_b2 (says_ok (w := 21) (F := factsR A i later) hL h1.2.2 (by omega) hF) ?_
  rintro M2 x ⟨hx, hO2⟩
  exact wq_some ⟨hx, (hO.wide (by omega) (by omega)).trans (hO2.wide (by omega) (by omega))⟩
theorem spoilOf_m (h : RMm 156 A M) (hL : OKL A.2.2) (hR : okRk A) {i : Nat} (hi : i < (A.2.1 4).1) : Wq (f_X11_spoilOf (nI i) M) (fun p => p.2 = spoilS A i ∧ Out 164 166 M p.1) := by
  unfold f_X11_spoilOf
  refine wq_b1 (laysRemain_ok h hR hi 0) ?_
  rintro M1 ⟨hF, hO⟩
  have h1 := h.out hO (by omega)
  refine wq_b2 (says_ok (w := 22) (F := factsR A i 0) hL h1.2.2 (by omega) hF) ?_
  rintro M2 x ⟨hx, hO2⟩
  exact wq_some ⟨hx, (hO.wide (by omega) (by omega)).trans (hO2.wide (by omega) (by omega))⟩
end MDL
