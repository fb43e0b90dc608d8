/-! ===== PURE PART: a market, told without memory ===== -/
/-- numbers (0 day, 1 coin, 2 fines, 3 eaten, 4 state, 5 wants met, 6 inspect, 7 dogs), tables (0 kinds, 1 feasts, 2 wants, 3 dishes, 4 remains, 5 book, 6 pieces, 7 tests, 8 limits, 9 trades), the law -/
abbrev AS : Type := (Nat → Int32) × (Nat → Tb) × LwT
def setN (A : AS) (k : Nat) (v : Int32) : AS := (upd A.1 k v, A.2)
def setT (A : AS) (k : Nat) (T : Tb) : AS := (A.1, (fun j => if j = k then T else A.2.1 j), A.2.2)
def wantsC (s : Int32) (T : Tb) : Tb := (T.1, fun r c => if c = 4 then f_X10_isIn s (nI r) else T.2 r c)
def needGo (T : Tb) (r k : Nat) : Nat → Int32
  | 0 => 0
  | j + 1 => if T.2 r (2 + 2 * j) = nI k then T.2 r (3 + 2 * j) else needGo T r k j
def needD (T : Tb) (r k : Nat) : Int32 := needGo T r k (T.2 r 1).toInt.toNat
def dishC (T : Tb) : Tb := (T.1, fun r c => if c = 0 then T.2 r 0 else needD T r (c - 1))
/-- the market at o as the class keeps it; in thought (t false) its book may be any -/
def RMk (t : Bool) (o : Nat) (A : AS) (M : Mem) : Prop :=
  (M o 9 = A.1 4 ∧ M o 10 = A.1 0 ∧ M o 11 = A.1 1 ∧ M o 12 = A.1 2 ∧ M o 13 = A.1 6 ∧ M o 14 = A.1 7 ∧ M o 15 = A.1 3) ∧
  (RR (o + 1) 6 2 (A.2.1 0) M ∧ RR (o + 3) 12 3 (A.2.1 1) M ∧ RR (o + 5) 12 5 (wantsC (A.1 5) (A.2.1 2)) M ∧ RR (o + 7) 12 7 (dishC (A.2.1 3)) M ∧ RR (o + 9) 14 5 (A.2.1 4) M ∧ ∃ T, RR (o + 11) 150 4 T M ∧ (t = true → T = A.2.1 5)) ∧ RLw (o + 13) A.2.2 M
def MkAt (o : Nat) : Prop := LwAt (o + 13) ∧ la (o + 25) = some 7 ∧ la (o + 22) = some 14 ∧ la (o + 23) = some 14 ∧ la (o + 24) = some 14
theorem mkAt_1 : MkAt 1 := by unfold MkAt LwAt; decide +kernel
theorem mkAt_27 : MkAt 27 := by unfold MkAt LwAt; decide +kernel
theorem mkAt_53 : MkAt 53 := by unfold MkAt LwAt; decide +kernel
theorem RMk.out {t : Bool} {o lo hi : Nat} {A : AS} {M M' : Mem} (h : RMk t o A M) (hO : Out lo hi M M') (ho : o + 20 ≤ lo ∨ hi ≤ o) : RMk t o A M' := by
  obtain ⟨h1, ⟨t0, t1, t2, t3, t4, T, t5, t6⟩, h3⟩ := h
  refine ⟨?_, ⟨t0.out hO (by omega), t1.out hO (by omega), t2.out hO (by omega), t3.out hO (by omega), t4.out hO (by omega), T, t5.out hO (by omega), t6⟩, h3.out hO (by omega)⟩
  rw [hO o (by omega)]
  exact h1
/-- what the law may ask at a feast, of a remain -/
def factsF (A : AS) (k : Nat) (g : Int32) : Nat → Int32 := fun j => if j = 0 then nI k else if j = 1 then (A.2.1 0).2 k 0 else if j = 2 then g else if j = 6 then A.1 0 else 0
def kindR (A : AS) (i : Nat) : Nat := ((A.2.1 4).2 i 0).toInt.toNat
def factsR (A : AS) (i : Nat) (later : Int32) : Nat → Int32 := fun j => if j = 0 then (A.2.1 4).2 i 0 else if j = 1 then (A.2.1 0).2 (kindR A i) 0 else if j = 2 then 0 else if j = 3 then (A.2.1 4).2 i 1 else if j = 4 then (A.1 0 - (A.2.1 4).2 i 2) + later else if j = 5 then (A.2.1 4).2 i 3 else A.1 0 + later
def leftS (A : AS) (k : Nat) (g : Int32) : Int32 := clampI (sayS (factsF A k g) A.2.2 20 ((A.2.1 0).2 k 0 - (5 * g))) ((A.2.1 0).2 k 0 - 1)
def edgeS (A : AS) (k : Nat) (g : Int32) : Int32 := clampI (sayS (factsF A k g) A.2.2 23 3) 9
def priceS (A : AS) (i : Nat) (later : Int32) : Int32 := clampI (sayS (factsR A i later) A.2.2 21 ((A.2.1 4).2 i 1)) 999
def spoilS (A : AS) (i : Nat) : Int32 := clampI (sayS (factsR A i 0) A.2.2 22 0) 1000
/-- each remain is of a kind that is told -/
def okRk (A : AS) : Prop := ∀ r, r < (A.2.1 4).1 → ∃ k, k < (A.2.1 0).1 ∧ (A.2.1 4).2 r 0 = nI k
theorem kindR_of {A : AS} {i k : Nat} (h : (A.2.1 4).2 i 0 = nI k) (hk : k < 1000) : kindR A i = k := by
  unfold kindR; rw [h, nI_toInt (by omega)]; rfl
section MKC
variable {t : Bool} {o : Nat} {A : AS} {M : Mem}
theorem RMk.n (h : RMk t o A M) : M o 9 = A.1 4 ∧ M o 10 = A.1 0 ∧ M o 11 = A.1 1 ∧ M o 12 = A.1 2 ∧ M o 13 = A.1 6 ∧ M o 14 = A.1 7 ∧ M o 15 = A.1 3 := h.1
theorem RMk.t0 (h : RMk t o A M) : RR (o + 1) 6 2 (A.2.1 0) M := h.2.1.1
theorem RMk.t1 (h : RMk t o A M) : RR (o + 3) 12 3 (A.2.1 1) M := h.2.1.2.1
theorem RMk.t2 (h : RMk t o A M) : RR (o + 5) 12 5 (wantsC (A.1 5) (A.2.1 2)) M := h.2.1.2.2.1
theorem RMk.t3 (h : RMk t o A M) : RR (o + 7) 12 7 (dishC (A.2.1 3)) M := h.2.1.2.2.2.1
theorem RMk.t4 (h : RMk t o A M) : RR (o + 9) 14 5 (A.2.1 4) M := h.2.1.2.2.2.2.1
theorem RMk.t5 (h : RMk t o A M) : ∃ T, RR (o + 11) 150 4 T M ∧ (t = true → T = A.2.1 5) := h.2.1.2.2.2.2.2
theorem RMk.lw (h : RMk t o A M) : RLw (o + 13) A.2.2 M := h.2.2
theorem at_lit {o m w : Nat} {T : Tb} {M : Mem} (h : RR o m w T M) {r : Nat} (c : Nat) (hx : (OfNat.ofNat c : Int32) = nI c) (hr : r < T.1) (hc : c < w) : f_X8_at o (nI r) (OfNat.ofNat c) M = some (T.2 r c) := by rw [hx]; exact at_in h hr hc
theorem askOfFeast_ok (h : RMk t o A M) {k : Nat} (hk : k < (A.2.1 0).1) (g : Int32) : Wq (f_X6_askOfFeast o (nI k) g M) (fun M' => (∀ j, j < 7 → M' (o + 25) j = factsF A k g j) ∧ Out (o + 25) (o + 26) M M') := by
  unfold f_X6_askOfFeast
  rw [lt_eq]
  have h1 := h.t0.out ((Out.refl (o + 25) (o + 26) M).up (j := 0) (x := nI k) (Nat.le_refl _) (by omega)) (by omega)
  rw [at_lit h1 0 rfl hk (by omega), b1_some]
  simp only [lt_eq]
  refine wq_some ⟨?_, ?_⟩
  · intro j hj
    have hd : M o 10 = A.1 0 := h.1.2.1
    have : j = 0 ∨ j = 1 ∨ j = 2 ∨ j = 3 ∨ j = 4 ∨ j = 5 ∨ j = 6 := by omega
    rcases this with rfl | rfl | rfl | rfl | rfl | rfl | rfl <;> simp [up2_eq, factsF, hd]
  · intro a ha
    simp only [up2_cell _ _ _ (show a ≠ o + 25 by omega)]
theorem ageOf_ok (h : RMk t o A M) {i : Nat} (hi : i < (A.2.1 4).1) : f_X6_ageOf o (nI i) M = some (A.1 0 - (A.2.1 4).2 i 2) := by
  unfold f_X6_ageOf
  rw [at_lit h.t4 2 rfl hi (by omega), b1_some, h.1.2.1]
theorem askOfRemain_ok (h : RMk t o A M) (hR : okRk A) {i : Nat} (hi : i < (A.2.1 4).1) (later : Int32) : Wq (f_X6_askOfRemain o (nI i) later M) (fun M' => (∀ j, j < 7 → M' (o + 25) j = factsR A i later j) ∧ Out (o + 25) (o + 26) M M') := by
  obtain ⟨k, hk, hk2⟩ := hR i hi
  have hk6 : k < 1000 := by have := h.t0.le2; omega
  have up : ∀ {M' : Mem} (j : Nat) (x : Int32), Out (o + 25) (o + 26) M M' → Out (o + 25) (o + 26) M (up2 M' (o + 25) j x) := fun j x hx => hx.up (Nat.le_refl _) (by omega)
  have o0 := Out.refl (o + 25) (o + 26) M
  unfold f_X6_askOfRemain
  rw [at_lit h.t4 0 rfl hi (by omega), b1_some, hk2, lt_eq, at_lit (h.t0.out (up _ _ o0) (by omega)) 0 rfl hk (by omega), b1_some]
  simp only [lt_eq]
  rw [at_lit (h.t4.out (up _ _ (up _ _ (up _ _ o0))) (by omega)) 1 rfl hi (by omega), b1_some, ageOf_ok (h.out (up _ _ (up _ _ (up _ _ (up _ _ o0)))) (by omega)) hi, b1_some]
  rw [at_lit (h.t4.out (up _ _ (up _ _ (up _ _ (up _ _ (up _ _ o0))))) (by omega)) 3 rfl hi (by omega), b1_some]
  refine wq_some ⟨?_, ?_⟩
  · intro j hj
    have hd : M o 10 = A.1 0 := h.1.2.1
    have hkr := kindR_of hk2 hk6
    have : j = 0 ∨ j = 1 ∨ j = 2 ∨ j = 3 ∨ j = 4 ∨ j = 5 ∨ j = 6 := by omega
    rcases this with rfl | rfl | rfl | rfl | rfl | rfl | rfl <;> simp [up2_eq, factsR, hd, hkr, hk2]
  · intro a ha
    simp only [up2_cell _ _ _ (show a ≠ o + 25 by omega)]
theorem held_0 (v hi : Int32) : f_X10_held v 0 hi = clampI v hi := rfl
theorem leftByFeast_ok (ho : MkAt o) (h : RMk t o A M) (hL : OKL A.2.2) {k : Nat} (hk : k < (A.2.1 0).1) (g : Int32) : Wq (f_X6_leftByFeast o (nI k) g M) (fun p => p.2 = leftS A k g ∧ Out (o + 20) (o + 26) M p.1) := by
  unfold f_X6_leftByFeast
  rw [at_lit h.t0 0 rfl hk (by omega), b1_some]
  refine wq_b1 (askOfFeast_ok h hk g) ?_
  rintro M1 ⟨hF, hO⟩
  refine wq_b2 (tells_ok (w := 20) (F := factsF A k g) ho.1 ho.2.1 (by omega) hL (h.out hO (by omega)).lw (by omega) hF) ?_
  rintro M2 x ⟨hx, hO2⟩
  refine wq_some ⟨?_, (hO.wide (by omega) (by omega)).trans (hO2.wide (by omega) (by omega))⟩
  simp only at hx ⊢
  rw [hx, held_0]
  rfl
theorem edgeOfFeast_ok (ho : MkAt o) (h : RMk t o A M) (hL : OKL A.2.2) {k : Nat} (hk : k < (A.2.1 0).1) (g : Int32) : Wq (f_X6_edgeOfFeast o (nI k) g M) (fun p => p.2 = edgeS A k g ∧ Out (o + 20) (o + 26) M p.1) := by
  unfold f_X6_edgeOfFeast
  refine wq_b1 (askOfFeast_ok h hk g) ?_
  rintro M1 ⟨hF, hO⟩
  refine wq_b2 (tells_ok (w := 23) (F := factsF A k g) ho.1 ho.2.1 (by omega) hL (h.out hO (by omega)).lw (by omega) hF) ?_
  rintro M2 x ⟨hx, hO2⟩
  refine wq_some ⟨?_, (hO.wide (by omega) (by omega)).trans (hO2.wide (by omega) (by omega))⟩
  simp only at hx ⊢
  rw [hx, held_0]
  rfl
theorem priceOf_ok (ho : MkAt o) (h : RMk t o A M) (hL : OKL A.2.2) (hR : okRk A) {i : Nat} (hi : i < (A.2.1 4).1) (later : Int32) : Wq (f_X6_priceOf o (nI i) later M) (fun p => p.2 = priceS A i later ∧ Out (o + 20) (o + 26) M p.1) := by
  unfold f_X6_priceOf
  refine wq_b1 (askOfRemain_ok h hR hi later) ?_
  rintro M1 ⟨hF, hO⟩
  rw [at_lit (h.out hO (by omega)).t4 1 rfl hi (by omega), b1_some]
  refine wq_b2 (tells_ok (w := 21) (F := factsR A i later) ho.1 ho.2.1 (by omega) hL (h.out hO (by omega)).lw (by omega) hF) ?_
  rintro M2 x ⟨hx, hO2⟩
  refine wq_some ⟨?_, (hO.wide (by omega) (by omega)).trans (hO2.wide (by omega) (by omega))⟩
  simp only at hx ⊢
  rw [hx, held_0]
  rfl
theorem spoilOf_ok (ho : MkAt o) (h : RMk t o A M) (hL : OKL A.2.2) (hR : okRk A) {i : Nat} (hi : i < (A.2.1 4).1) : Wq (f_X6_spoilOf o (nI i) M) (fun p => p.2 = spoilS A i ∧ Out (o + 20) (o + 26) M p.1) := by
  unfold f_X6_spoilOf
  refine wq_b1 (askOfRemain_ok h hR hi 0) ?_
  rintro M1 ⟨hF, hO⟩
  refine wq_b2 (tells_ok (w := 22) (F := factsR A i 0) ho.1 ho.2.1 (by omega) hL (h.out hO (by omega)).lw (by omega) hF) ?_
  rintro M2 x ⟨hx, hO2⟩
  refine wq_some ⟨?_, (hO.wide (by omega) (by omega)).trans (hO2.wide (by omega) (by omega))⟩
  simp only at hx ⊢
  rw [hx, held_0]
  rfl
theorem isTooOld_ok (h : RMk t o A M) (hR : okRk A) {i : Nat} (hi : i < (A.2.1 4).1) (later : Int32) : f_X6_isTooOld o (nI i) later M = some (if (A.1 0 - (A.2.1 4).2 i 2) + later < (A.2.1 0).2 (kindR A i) 1 then 0 else 1) := by
  obtain ⟨k, hk, hk2⟩ := hR i hi
  have hk6 : k < 1000 := by have := h.t0.le2; omega
  unfold f_X6_isTooOld
  rw [ageOf_ok h hi, b1_some, at_lit h.t4 0 rfl hi (by omega), b1_some, hk2, at_lit h.t0 1 rfl hk (by omega), b1_some, lt_eq, kindR_of hk2 hk6]
end MKC
