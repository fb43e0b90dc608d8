/-! ===== PURE PART: goes, the call ===== -/
/-- what is answered of a market in thought -/
def goAns (B : AS) (m w : Int32) : Int32 := if w = 0 then B.1 1 else if w = 1 then nI (popc (B.1 5).toInt.toNat) else if w = 2 then nI (B.2.1 4).1 else m
theorem c_goes (n w : Int32) {M : Mem} (h : Inv M) : ∃ M1 M2 r, f_X10_goes n w M = some (M1, r) ∧ f_X11_goes n w M1 = some (M2, r) ∧ Inv M2 := by
  refine both_ok (fc := fun M => f_X10_goes n w M) (fm := fun M => f_X11_goes n w M) h ?_
  rintro ⟨A, I, P, tp, ft⟩ hC hM hG
  have hk6 : (A.2.1 0).1 ≤ 6 := hC.1.t0.le
  have hw12 : (A.2.1 2).1 ≤ 12 := hC.1.t2.le
  have hLL : A.2.2.length ≤ 16 := hG.1.2.2.2.1
  have hxA : OKX A := OKA.x hG.1
  by_cases q : (n < 1 ∨ (60 : Int32) < n) ∨ (w < 0 ∨ (3 : Int32) < w)
  · refine ⟨(A, I, P, tp, ft), -100000, hG, ?_, fun M1 hM1 => ?_⟩
    · show Wq (f_X10_goes n w M) _
      unfold f_X10_goes
      rw [if_pos (by rw [within0, within0]; exact q)]
      exact wq_some ⟨rfl, hC, Hi.refl _⟩
    · show Wq (f_X11_goes n w M1) _
      unfold f_X11_goes
      rw [if_pos (by rw [isInm0, isInm0]; exact q)]
      exact wq_some ⟨rfl, hM1, Lo.refl _⟩
  · obtain ⟨m, m1, m2, rfl⟩ := rng_in (x := n) 1 60 rfl rfl (by omega) (by omega) (fun z => q (.inl z))
    obtain ⟨w', _, hw, rfl⟩ := rng_in (x := w) 0 3 rfl rfl (by omega) (by omega) (fun z => q (.inr z))
    have hw' : w' = 0 ∨ w' = 1 ∨ w' = 2 ∨ w' = 3 := by omega
    obtain ⟨y1, y2, y3⟩ := gyG_ok hxA hk6 hw12 m
    obtain ⟨S, hS, hSlt⟩ := y1.1.2.2
    have e2 := y2.1 2 (by omega) (by omega)
    have hS12 : S < 2 ^ 12 := Nat.lt_of_lt_of_le hSlt (pow2_le (by rw [e2]; exact hw12))
    have hS12 : S < 4096 := hS12
    have eS : ((gyG A m).1.1 5).toInt.toNat = S := by rw [hS, nI_toInt (by omega)]; rfl
    refine ⟨(A, I, P, tp, ft), goAns (gyG A m).1 (gyG A m).2 (nI w'), hG, ?_, fun M1 hM1 => ?_⟩
    · show Wq (f_X10_goes (nI m) (nI w') M) _
      unfold f_X10_goes
      rw [if_neg (by rw [within0, within0]; exact q)]
      refine wq_b1 (mkCopy_ok mkAt_53 mkAt_1 hLL hC.2.2.2.1.2.2 hC.1 (by omega)) ?_
      rintro M4 ⟨h4, o4⟩
      refine wq_b1 (goes_c h4.thought hxA m2) ?_
      rintro ⟨x, M5⟩ ⟨hx, h5, o5⟩
      simp only at hx h5 o5
      subst hx
      have hOO : Out 53 79 M M5 := (o4.wide (by omega) (by omega)).trans o5
      have hIC : InvC (A, I, P, tp, ft) M5 := hC.thk hOO h5.ms
      have hHi : Hi M M5 := hOO.hi (by omega)
      rcases hw' with rfl | rfl | rfl | rfl
      · rw [if_neg (by decide), if_pos (by decide)]
        exact wq_some ⟨h5.1.2.2.1, hIC, hHi⟩
      · rw [if_neg (by decide), if_neg (by decide), if_pos (by decide)]
        simp only
        rw [metSet_ok h5 hS hSlt, b1_some, hS, bitCount_nI (by omega)]
        refine wq_some ⟨?_, hIC, hHi⟩
        unfold goAns
        rw [if_neg (by decide), if_pos (by decide), eS]
      · rw [if_neg (by decide), if_neg (by decide), if_neg (by decide), if_pos (by decide)]
        refine wq_some ⟨?_, hIC, hHi⟩
        unfold goAns
        rw [if_neg (by decide), if_neg (by decide), if_pos (by decide)]
        exact h5.t4.cnt
      · rw [if_pos (by decide)]
        refine wq_some ⟨?_, hIC, hHi⟩
        unfold goAns
        rw [if_neg (by decide), if_neg (by decide), if_neg (by decide)]
    · show Wq (f_X11_goes (nI m) (nI w') M1) _
      unfold f_X11_goes
      rw [if_neg (by rw [isInm0, isInm0]; exact q)]
      have hR1 : RMm 156 A M1 := hM1.1
      refine wq_b1 (lie_put M1) ?_
      rintro M2 ⟨hl, o2⟩
      have hR2 : RMm 156 A (up2 M2 155 26 0) := (hR1.out o2 (by omega)).cell (up2_cell _ _ _ (by omega))
      rw [lt_eq]
      refine wq_b1 (goes_m hR2 (up2_at _ _ _ _) hxA m2) ?_
      rintro ⟨x, M5⟩ ⟨hx, h5, o5⟩
      simp only at hx h5 o5
      subst hx
      have e159 : M5 159 = M2 159 := by rw [o5 159 (by omega) (by omega) (by omega), up2_cell _ _ _ (by omega)]
      have fin : ∀ K, (∀ x, K 156 x = if x < 80 then M5 159 x else M5 156 x) → Out 156 157 M5 K → InvM (A, I, P, tp, ft) K ∧ Lo M1 K := by
        intro K hK oK
        have hRK : RMm 156 A K := lie_back (M := M1) hR1 h5 y2 y3 hLL (by
          intro x
          rw [hK]
          by_cases z : x < 80
          · rw [if_pos z, if_pos z, e159]; exact hl x z
          · rw [if_neg z, if_neg z])
        have c155 : ∀ j, j ≠ 26 → K 155 j = M1 155 j := by
          intro j hj
          rw [oK 155 (by omega), o5 155 (by omega) (by omega) (by omega), up2_slot _ _ _ hj, o2 155 (by omega)]
        have cc : ∀ a, a ≠ 155 → a ≠ 156 → a ≠ 159 → a ≠ 164 → a ≠ 165 → K a = M1 a := by
          intro a a1 a2 a3 a4 a5
          rw [oK a (by omega), o5 a a2 a4 a5, up2_cell _ _ _ a1, o2 a (by omega)]
        obtain ⟨k1, k2, k3, k4, k5, k6⟩ := hM1
        refine ⟨⟨hRK, ?_, ?_, ?_, ?_, ?_⟩, fun a ha => cc a (by omega) (by omega) (by omega) (by omega) (by omega)⟩
        · rw [c155 5 (by omega)]
          exact ⟨k2.1, fun J hJ => ⟨(k2.2 J hJ).1, (k2.2 J hJ).2.cell (cc 157 (by omega) (by omega) (by omega) (by omega) (by omega))⟩⟩
        · unfold RPm RSn at k3 ⊢
          rw [c155 4 (by omega), cc 158 (by omega) (by omega) (by omega) (by omega) (by omega)]; exact k3
        · rw [c155 16 (by omega), cc 163 (by omega) (by omega) (by omega) (by omega) (by omega)]; exact k4
        · rw [c155 23 (by omega)]; exact k5
        · rw [c155 25 (by omega)]; exact k6
      have g1 : M5 156 1 = (gyG A m).1.1 1 := h5.1 1 (by omega)
      have g6 : M5 156 6 = nI S := (h5.1 5 (by omega)).trans hS
      have g7 : M5 156 7 = nI ((gyG A m).1.2.1 4).1 := n156_4 h5
      simp only
      rw [lie_a, lie_b]
      rcases hw' with rfl | rfl | rfl | rfl
      · rw [if_pos (by decide)]
        refine wq_b1 (lie_get M5) ?_
        rintro K ⟨hK, oK⟩
        obtain ⟨f1, f2⟩ := fin K hK oK
        exact wq_some ⟨g1, f1, f2⟩
      · rw [if_neg (by decide), if_pos (by decide), g6, count_nI (by omega), b1_some]
        refine wq_b1 (lie_get M5) ?_
        rintro K ⟨hK, oK⟩
        obtain ⟨f1, f2⟩ := fin K hK oK
        refine wq_some ⟨?_, f1, f2⟩
        unfold goAns
        rw [if_neg (by decide), if_pos (by decide), eS]
      · rw [if_neg (by decide), if_neg (by decide), if_pos (by decide), lt_eq]
        refine wq_b1 (lie_get M5) ?_
        rintro K ⟨hK, oK⟩
        obtain ⟨f1, f2⟩ := fin K hK oK
        refine wq_some ⟨?_, f1, f2⟩
        unfold goAns
        rw [if_neg (by decide), if_neg (by decide), if_pos (by decide)]
        exact g7
      · rw [if_neg (by decide), if_neg (by decide), if_neg (by decide), lt_eq]
        refine wq_b1 (lie_get M5) ?_
        rintro K ⟨hK, oK⟩
        obtain ⟨f1, f2⟩ := fin K hK oK
        refine wq_some ⟨?_, f1, f2⟩
        unfold goAns
        rw [if_neg (by decide), if_neg (by decide), if_neg (by decide)]
