/-! ===== PURE PART: the start, and the whole law ===== -/
def A0 : AS := ((fun k => if k = 1 then 100 else 0), (fun _ => (0, fun _ _ => 0)), [])
def G0 : GS := (A0, none, (0, fun _ => ((fun _ => 0), (0, fun _ _ => 0), 0)), (0, fun _ => 0), (0, -1))
theorem rr0 {o m w : Nat} (hl : la (o + 1) = some (m * w)) (hm : m ≤ 150) (hw : w ≤ 7) (h0 : M0 o 0 = nI m) (h1 : M0 o 1 = nI w) (h3 : M0 o 3 = 0) {T : Tb} (hT : T.1 = 0) : RR o m w T M0 :=
  ⟨hl, ⟨hm, hw, by omega⟩, ⟨h0, h1, by rw [hT]; exact h3⟩, fun r c hr _ => by rw [hT] at hr; exact absurd hr (Nat.not_lt_zero _)⟩
theorem ms0_1 : RR (1 + 1) 6 2 (0, fun _ _ => 0) M0 ∧ RR (1 + 3) 12 3 (0, fun _ _ => 0) M0 ∧ RR (1 + 5) 12 5 (0, fun _ _ => 0) M0 ∧ RR (1 + 7) 12 7 (0, fun _ _ => 0) M0 ∧ RR (1 + 9) 14 5 (0, fun _ _ => 0) M0 ∧ RR (1 + 11) 150 4 (0, fun _ _ => 0) M0 :=
  ⟨rr0 (by decide +kernel) (by omega) (by omega) rfl rfl rfl rfl, rr0 (by decide +kernel) (by omega) (by omega) rfl rfl rfl rfl, rr0 (by decide +kernel) (by omega) (by omega) rfl rfl rfl rfl, rr0 (by decide +kernel) (by omega) (by omega) rfl rfl rfl rfl, rr0 (by decide +kernel) (by omega) (by omega) rfl rfl rfl rfl, rr0 (by decide +kernel) (by omega) (by omega) rfl rfl rfl rfl⟩
theorem ms0_27 : Ms 27 M0 :=
  ⟨⟨(0, fun _ _ => 0), rr0 (by decide +kernel) (by omega) (by omega) rfl rfl rfl rfl⟩, ⟨(0, fun _ _ => 0), rr0 (by decide +kernel) (by omega) (by omega) rfl rfl rfl rfl⟩, ⟨(0, fun _ _ => 0), rr0 (by decide +kernel) (by omega) (by omega) rfl rfl rfl rfl⟩, ⟨(0, fun _ _ => 0), rr0 (by decide +kernel) (by omega) (by omega) rfl rfl rfl rfl⟩, ⟨(0, fun _ _ => 0), rr0 (by decide +kernel) (by omega) (by omega) rfl rfl rfl rfl⟩, ⟨(0, fun _ _ => 0), rr0 (by decide +kernel) (by omega) (by omega) rfl rfl rfl rfl⟩⟩
theorem ms0_53 : Ms 53 M0 :=
  ⟨⟨(0, fun _ _ => 0), rr0 (by decide +kernel) (by omega) (by omega) rfl rfl rfl rfl⟩, ⟨(0, fun _ _ => 0), rr0 (by decide +kernel) (by omega) (by omega) rfl rfl rfl rfl⟩, ⟨(0, fun _ _ => 0), rr0 (by decide +kernel) (by omega) (by omega) rfl rfl rfl rfl⟩, ⟨(0, fun _ _ => 0), rr0 (by decide +kernel) (by omega) (by omega) rfl rfl rfl rfl⟩, ⟨(0, fun _ _ => 0), rr0 (by decide +kernel) (by omega) (by omega) rfl rfl rfl rfl⟩, ⟨(0, fun _ _ => 0), rr0 (by decide +kernel) (by omega) (by omega) rfl rfl rfl rfl⟩⟩
theorem ls0_79 : RLs 79 A0 M0 :=
  ⟨rr0 (by decide +kernel) (by omega) (by omega) rfl rfl rfl rfl, rr0 (by decide +kernel) (by omega) (by omega) rfl rfl rfl rfl, rr0 (by decide +kernel) (by omega) (by omega) rfl rfl rfl rfl, rr0 (by decide +kernel) (by omega) (by omega) rfl rfl rfl rfl⟩
theorem ls0_97 : RLs 97 A0 M0 :=
  ⟨rr0 (by decide +kernel) (by omega) (by omega) rfl rfl rfl rfl, rr0 (by decide +kernel) (by omega) (by omega) rfl rfl rfl rfl, rr0 (by decide +kernel) (by omega) (by omega) rfl rfl rfl rfl, rr0 (by decide +kernel) (by omega) (by omega) rfl rfl rfl rfl⟩
theorem mk0 : RMk true 1 A0 M0 := by
  obtain ⟨t0, t1, t2, t3, t4, t5⟩ := ms0_1
  refine ⟨⟨rfl, rfl, rfl, rfl, rfl, rfl, rfl⟩, ⟨t0, t1, t2.ext rfl (fun r c hr _ => absurd hr (Nat.not_lt_zero _)), t3.ext rfl (fun r c hr _ => absurd hr (Nat.not_lt_zero _)), t4, _, t5, fun _ => rfl⟩, fun _ => 0, rfl, fun i l hl => ?_⟩
  have hl : ([] : LwT)[i]? = some l := hl
  simp at hl
theorem pc0 : RPc (0, fun _ => ((fun _ => 0), (0, fun _ _ => 0), 0)) M0 := by
  refine ⟨rfl, Nat.zero_le _, fun i hi => ⟨(0, fun _ _ => 0), ?_⟩, 0, by omega, rfl, fun j hj => absurd hj (Nat.not_lt_zero _)⟩
  have : i = 0 ∨ i = 1 ∨ i = 2 ∨ i = 3 ∨ i = 4 ∨ i = 5 := by omega
  rcases this with rfl | rfl | rfl | rfl | rfl | rfl <;> exact rr0 (by decide +kernel) (by omega) (by omega) rfl rfl rfl rfl
theorem invC0 : InvC G0 M0 :=
  ⟨mk0, ls0_79, ⟨fun _ => rfl, fun J hJ => by cases hJ⟩, ⟨ms0_27, ls0_97.lst, ms0_53⟩, pc0, rfl, fun j hj => absurd hj (Nat.not_lt_zero _), rfl, rfl⟩
theorem invM0 : InvM G0 M0 := by
  refine ⟨⟨fun k hk => ?_, fun k hk => ⟨?_, Nat.zero_le _, fun r j hr _ => absurd hr (Nat.not_lt_zero _)⟩, fun _ => 0, rfl, fun i l hl => ?_⟩, ⟨fun _ => rfl, fun J hJ => by cases hJ⟩, ⟨rfl, Nat.zero_le _, fun j hj => absurd hj (Nat.not_lt_zero _)⟩, ⟨rfl, fun j hj => absurd hj (Nat.not_lt_zero _)⟩, rfl, rfl⟩
  · rcases lt8 hk with rfl | rfl | rfl | rfl | rfl | rfl | rfl | rfl <;> rfl
  · rcases lt10 hk with rfl | rfl | rfl | rfl | rfl | rfl | rfl | rfl | rfl | rfl <;> rfl
  · have hl : ([] : LwT)[i]? = some l := hl
    simp at hl
theorem okG0 : OKG G0 := by
  refine ⟨⟨⟨⟨0, by omega, rfl⟩, ⟨0, by omega, rfl⟩, ⟨0, by omega, rfl⟩, 0, rfl, Nat.pow_pos (by omega)⟩, ⟨fun r hr => absurd hr (Nat.not_lt_zero _), fun r hr => absurd hr (Nat.not_lt_zero _), fun r hr => absurd hr (Nat.not_lt_zero _), fun r hr => absurd hr (Nat.not_lt_zero _), fun r hr => absurd hr (Nat.not_lt_zero _)⟩, ⟨fun r hr => absurd hr (Nat.not_lt_zero _), fun r hr => absurd hr (Nat.not_lt_zero _), fun r hr => absurd hr (Nat.not_lt_zero _), fun r hr => absurd hr (Nat.not_lt_zero _)⟩, ?_⟩, fun J hJ => (by cases hJ), OKP.none _ _, Nat.zero_le _, fun j hj => absurd hj (Nat.not_lt_zero _)⟩
  exact ⟨Nat.zero_le _, fun l hl => by
    have hl : l ∈ ([] : LwT) := hl
    simp at hl⟩
theorem inv0 : Inv M0 := ⟨G0, invC0, invM0, okG0⟩
theorem and63 (x : Int32) : ∃ k, k < 64 ∧ x &&& 63 = nI k := by
  refine ⟨x.toBitVec.toNat &&& 63, ?_, ?_⟩
  · have : x.toBitVec.toNat &&& 63 ≤ 63 := Nat.and_le_right
    omega
  · have e := nI_rep x
    have : nI x.toBitVec.toNat &&& 63 = nI (x.toBitVec.toNat &&& 63) := nI_and _ 63
    rw [← this, ← e]
theorem ls_far {E : EV} {i k : Nat} {M : Mem} (C : i + 6 ≤ eL E) (hL : eL E ≤ 3072) (hk : eX E i &&& 63 = nI k) (h36 : 36 < k) (h64 : k < 64) : w_L_law_18 E (nI i) M = some (.inl (nI (i + 6), M)) := by
  obtain ⟨r0, r1, r2, r3, r4, r5, r6, hcond⟩ := ls_rd C hL
  unfold w_L_law_18
  rw [if_neg hcond, r0, b1_some, hk, if_pos (.inr (by rw [nI_toInt (by omega)]; omega)), r6]
theorem ls_all {E : EV} {i : Nat} {M : Mem} (C : i + 6 ≤ eL E) (hL : eL E ≤ 3072) (h : Inv M) : ∃ M', w_L_law_18 E (nI i) M = some (.inl (nI (i + 6), M')) ∧ Inv M' := by
  obtain ⟨k, h64, hk⟩ := and63 (eX E i)
  by_cases h36 : 36 < k
  · exact ⟨M, ls_far C hL hk h36 h64, h⟩
  · have : k = 0 ∨ k = 1 ∨ k = 2 ∨ k = 3 ∨ k = 4 ∨ k = 5 ∨ k = 6 ∨ k = 7 ∨ k = 8 ∨ k = 9 ∨ k = 10 ∨ k = 11 ∨ k = 12 ∨ k = 13 ∨ k = 14 ∨ k = 15 ∨ k = 16 ∨ k = 17 ∨ k = 18 ∨ k = 19 ∨ k = 20 ∨ k = 21 ∨ k = 22 ∨ k = 23 ∨ k = 24 ∨ k = 25 ∨ k = 26 ∨ k = 27 ∨ k = 28 ∨ k = 29 ∨ k = 30 ∨ k = 31 ∨ k = 32 ∨ k = 33 ∨ k = 34 ∨ k = 35 ∨ k = 36 := by omega
    rcases this with rfl | rfl | rfl | rfl | rfl | rfl | rfl | rfl | rfl | rfl | rfl | rfl | rfl | rfl | rfl | rfl | rfl | rfl | rfl | rfl | rfl | rfl | rfl | rfl | rfl | rfl | rfl | rfl | rfl | rfl | rfl | rfl | rfl | rfl | rfl | rfl | rfl
    · exact ls_0 C hL h hk
    · exact ls_1 C hL h hk
    · exact ls_2 C hL h hk
    · exact ls_3 C hL h hk
    · exact ls_4 C hL h hk
    · exact ls_5 C hL h hk
    · exact ls_6 C hL h hk
    · exact ls_7 C hL h hk
    · exact ls_8 C hL h hk
    · exact ls_9 C hL h hk
    · exact ls_10 C hL h hk
    · exact ls_11 C hL h hk
    · exact ls_12 C hL h hk
    · exact ls_13 C hL h hk
    · exact ls_14 C hL h hk
    · exact ls_15 C hL h hk
    · exact ls_16 C hL h hk
    · exact ls_17 C hL h hk
    · exact ls_18 C hL h hk
    · exact ls_19 C hL h hk
    · exact ls_20 C hL h hk
    · exact ls_21 C hL h hk
    · exact ls_22 C hL h hk
    · exact ls_23 C hL h hk
    · exact ls_24 C hL h hk
    · exact ls_25 C hL h hk
    · exact ls_26 C hL h hk
    · exact ls_27 C hL h hk
    · exact ls_28 C hL h hk
    · exact ls_29 C hL h hk
    · exact ls_30 C hL h hk
    · exact ls_31 C hL h hk
    · exact ls_32 C hL h hk
    · exact ls_33 C hL h hk
    · exact ls_34 C hL h hk
    · exact ls_35 C hL h hk
    · exact ls_36 C hL h hk
theorem law_all (E : EV) (hL : eL E ≤ 3072) : f_law E M0 = some () := by
  unfold f_law
  obtain ⟨r, e, _⟩ := lp_inv (body := fun s : Int32 × Mem => w_L_law_18 E s.1 s.2) (fun k s => s.1 = nI (6 * k) ∧ Inv s.2) 513 (Q := fun _ => True) (by
    rintro k ⟨x, M⟩ hk ⟨hx, hI⟩
    simp only at hx hI
    subst hx
    by_cases C : 6 * k + 6 ≤ eL E
    · obtain ⟨M', e1, e2⟩ := ls_all C hL hI
      refine .inl ⟨by omega, _, e1, ?_, e2⟩
      show nI (6 * k + 6) = nI (6 * (k + 1))
      congr 1
    · refine .inr ⟨M, ?_, trivial⟩
      show w_L_law_18 E (nI (6 * k)) M = _
      unfold w_L_law_18
      rw [if_pos ?_]
      rw [Int32.lt_iff_toInt_lt, nI_toInt (by omega)]
      have e6 : ((Int32.ofNat (eL E)) - 6).toInt = (eL E : Int) - 6 := nI_sub_toInt (a := eL E) (b := 6) (by omega) (by omega)
      rw [e6]; omega) (0, M0) ⟨rfl, inv0⟩ (by omega)
  rw [e, b1_some]
