/-! ===== PURE PART: days ===== -/
noncomputable def dayA (t : Bool) (A : AS) : AS := eveA t (mornA t A).1
theorem dayA_x {t : Bool} {A : AS} (h : OKX A) (hk : (A.2.1 0).1 ≤ 6) (hw : (A.2.1 2).1 ≤ 12) : OKX (dayA t A) ∧ Kd A (dayA t A) ∧ (dayA t A).1 0 = A.1 0 + 1 ∧ (mornA t A).2 ≤ 12 := by
  obtain ⟨a1, a2, a3⟩ := mornA_x (t := t) h hk hw
  obtain ⟨b1, b2, b3⟩ := eveA_x (t := t) a1
  exact ⟨b1, a2.d.trans b2, by show (eveA t _).1 0 = _; rw [b3, a2.2.2.2.2.1], a3⟩
/-- the market, the past and what was met behind k days -/
noncomputable def dyG (A : AS) (P : Ps) : Nat → AS × Ps × Nat
  | 0 => (A, P, 0)
  | k + 1 => (dayA true (dyG A P k).1, pKeep (dyG A P k).2.1 (snap (dyG A P k).1), (dyG A P k).2.2 + (mornA true (dyG A P k).1).2)
theorem pKeep_le {P : Ps} {S : Sn} (h : P.1 ≤ 6) : (pKeep P S).1 ≤ 6 := by
  unfold pKeep
  by_cases q : P.1 = 6
  · rw [if_pos q]; simp
  · rw [if_neg q]; show P.1 + 1 ≤ 6; omega
theorem dyG_ok {A : AS} {P : Ps} {d : Nat} (h : OKA A) (hP : OKP A P) (h6 : P.1 ≤ 6) (hk : (A.2.1 0).1 ≤ 6) (hw : (A.2.1 2).1 ≤ 12) (hd : A.1 0 = nI d) : ∀ k, d + k ≤ 9999 → OKA (dyG A P k).1 ∧ Kd A (dyG A P k).1 ∧ OKP (dyG A P k).1 (dyG A P k).2.1 ∧ (dyG A P k).2.1.1 ≤ 6 ∧ (dyG A P k).1.1 0 = nI (d + k) ∧ (dyG A P k).2.2 ≤ 12 * k
  | 0, _ => ⟨h, Kd.refl _, hP, h6, hd, Nat.le_refl _⟩
  | k + 1, hk' => by
    obtain ⟨a1, a2, a3, a4, a5, a6⟩ := dyG_ok h hP h6 hk hw hd k (by omega)
    have e0 := a2.1 0 (by omega) (by omega)
    have e2 := a2.1 2 (by omega) (by omega)
    obtain ⟨b1, b2, b3, b4⟩ := dayA_x (t := true) a1.x (by rw [e0]; exact hk) (by rw [e2]; exact hw)
    have hd' : (dayA true (dyG A P k).1).1 0 = nI (d + (k + 1)) := by rw [b3, a5, nI_inc]; rfl
    refine ⟨b1.a ⟨d + (k + 1), by omega, hd'⟩, a2.trans b2, ?_, pKeep_le a4, hd', ?_⟩
    · exact OKP.keep a3 a1 (by show ((dayA true _).2.1 0).1 = _; rw [b2.1 0 (by omega) (by omega)]) (by show ((dayA true _).2.1 2).1 = _; rw [b2.1 2 (by omega) (by omega)]) b2.2.2.2.2 a4
    · show (dyG A P k).2.2 + (mornA true (dyG A P k).1).2 ≤ _
      omega
theorem c_days (n : Int32) {M : Mem} (h : Inv M) : ∃ M1 M2 r, f_X10_days n M = some (M1, r) ∧ f_X11_days n M1 = some (M2, r) ∧ Inv M2 := by
  refine both_ok (fc := fun M => f_X10_days n M) (fm := fun M => f_X11_days n M) h ?_
  rintro ⟨A, I, P, tp, ft⟩ hC hM hG
  obtain ⟨d, hd9, hd⟩ := hG.1.1.1
  have hd : A.1 0 = nI d := hd
  have hk6 : (A.2.1 0).1 ≤ 6 := hC.1.t0.le
  have hw : (A.2.1 2).1 ≤ 12 := hC.1.t2.le
  have e10 : M 1 10 = nI d := by rw [hC.1.1.2.1]; exact hd
  by_cases q : n < 1 ∨ (60 : Int32) < n
  · refine ⟨(A, I, P, tp, ft), -1, hG, ?_, fun M1 hM1 => ?_⟩
    · show Wq (f_X10_days n M) _
      unfold f_X10_days
      rw [if_pos (.inl ((within0 _ _ _).2 q))]
      exact wq_some ⟨rfl, hC, Hi.refl _⟩
    · show Wq (f_X11_days n M1) _
      unfold f_X11_days
      rw [if_pos (.inl ((isInm0 _ _ _).2 q))]
      exact wq_some ⟨rfl, hM1, Lo.refl _⟩
  · obtain ⟨m, m1, m2, rfl⟩ := rng_in (x := n) 1 60 rfl rfl (by omega) (by omega) q
    have es : (9999 : Int32) - nI m = nI (9999 - m) := nI_sub (a := 9999) (by omega)
    have c1 : ¬ f_X10_within (nI m) 1 60 = 0 := by rw [within0]; exact q
    have mm1 : ¬ f_X11_isIn (nI m) 1 60 = 0 := by rw [isInm0]; exact q
    by_cases q2 : d + m ≤ 9999
    · obtain ⟨z1, z2, z3, z4, z5, z6⟩ := dyG_ok hG.1 hG.2.2.1 (p6 hM) hk6 hw hd m q2
      refine ⟨((dyG A P m).1, I, (dyG A P m).2.1, tp, ft), nI (dyG A P m).2.2, ⟨z1, hG.2.1, z3, hG.2.2.2⟩, ?_, fun M1 hM1 => ?_⟩
      · show Wq (f_X10_days (nI m) M) _
        unfold f_X10_days
        rw [e10, es, if_neg (by
          rintro (z | z)
          · exact c1 z
          · exact z (nI_le (by omega) (by omega)))]
        refine wq_b1 (P := fun r => r.1 = nI (dyG A P m).2.2 ∧ InvC ((dyG A P m).1, I, (dyG A P m).2.1, tp, ft) r.2 ∧ Hi M r.2) (lp_to (fun k s => s.1 = nI (dyG A P k).2.2 ∧ s.2.1 = nI k ∧ InvC ((dyG A P k).1, I, (dyG A P k).2.1, tp, ft) s.2.2 ∧ Hi M s.2.2) m ?_ ?_ _ (by exact ⟨rfl, rfl, hC, Hi.refl _⟩) (by omega)) (fun r hr => wq_some hr)
        · rintro k ⟨a, x, N⟩ hk ⟨ha, hx, hI, hO⟩
          simp only at ha hx hI hO
          subst ha hx
          obtain ⟨y1, y2, y3, y4, y5, y6⟩ := dyG_ok hG.1 hG.2.2.1 (p6 hM) hk6 hw hd k (by omega)
          unfold w_X10_days_31
          simp only
          rw [if_neg (by rw [nI_le_iff (by omega) (by omega)]; omega)]
          obtain ⟨N1, a1, a2, a3⟩ := hI.keep y1
          rw [a1, b1_some]
          obtain ⟨⟨N2, w⟩, b1, b2, b3, b4⟩ := beginDay_ok mkAt_1 a2.1 y1.x
          simp only at b2 b3 b4
          rw [b1, b2_some]
          have e0 := y2.1 0 (by omega) (by omega)
          have e2 := y2.1 2 (by omega) (by omega)
          obtain ⟨x1, x2, x3⟩ := mornA_x (t := true) y1.x (by rw [e0]; exact hk6) (by rw [e2]; exact hw)
          obtain ⟨N3, c1, c2, c3⟩ := endDay_ok (t := true) mkAt_1 b3 x1 (a1 := 0) rfl
          rw [c1, b1_some, b2, nI_add, nI_inc]
          obtain ⟨d1, d2, d3, d4⟩ := dayA_x (t := true) y1.x (by rw [e0]; exact hk6) (by rw [e2]; exact hw)
          have hOO := b4.trans c3
          refine ⟨_, rfl, rfl, rfl, a2.mkt (A' := dayA true (dyG A P k).1) hOO c2 ?_, (hO.trans a3).trans (hOO.hi (by omega))⟩
          intro j hj
          exact d2.1 j (by omega) (by omega)
        · rintro ⟨a, x, N⟩ ⟨ha, hx, hI, hO⟩
          simp only at ha hx hI hO
          subst ha hx
          unfold w_X10_days_31
          simp only
          rw [if_pos (by rw [nI_le_iff (by omega) (by omega)]; omega)]
          exact ⟨_, rfl, rfl, hI, hO⟩
      · show Wq (f_X11_days (nI m) M1) _
        have e0' : M1 156 0 = nI d := by have := num_m 0 (by omega) hM1; exact this.trans hd
        unfold f_X11_days
        rw [e0', nI_add, if_neg (by
          rintro (z | z)
          · exact mm1 z
          · exact z (show nI (d + m) ≤ nI 9999 from nI_le q2 (by omega)))]
        refine wq_b1 (P := fun r => r.1 = nI (dyG A P m).2.2 ∧ InvM ((dyG A P m).1, I, (dyG A P m).2.1, tp, ft) r.2 ∧ Lo M1 r.2) (lp_to (fun k s => s.1 = nI (dyG A P k).2.2 ∧ s.2.1 = nI k ∧ InvM ((dyG A P k).1, I, (dyG A P k).2.1, tp, ft) s.2.2 ∧ Lo M1 s.2.2) m ?_ ?_ _ (by exact ⟨rfl, rfl, hM1, Lo.refl _⟩) (by omega)) (fun r hr => wq_some hr)
        · rintro k ⟨a, x, N⟩ hk ⟨ha, hx, hI, hO⟩
          simp only at ha hx hI hO
          subst ha hx
          obtain ⟨y1, y2, y3, y4, y5, y6⟩ := dyG_ok hG.1 hG.2.2.1 (p6 hM) hk6 hw hd k (by omega)
          unfold w_X11_days_30
          simp only
          rw [if_neg (by rw [nI_le_iff (by omega) (by omega)]; omega)]
          obtain ⟨N1, a1, a2, ht, a3⟩ := hI.keep
          rw [a1, b1_some]
          obtain ⟨⟨N2, w⟩, b1, b2, b3, b4⟩ := morning_ok (t := true) a2.1 ht y1.x
          simp only at b2 b3 b4
          rw [b1, b2_some]
          have e0 := y2.1 0 (by omega) (by omega)
          have e2 := y2.1 2 (by omega) (by omega)
          obtain ⟨x1, x2, x3⟩ := mornA_x (t := true) y1.x (by rw [e0]; exact hk6) (by rw [e2]; exact hw)
          obtain ⟨N3, c1, c2, c3⟩ := evening_ok (t := true) b3 (by rw [b4 155 (by omega) (by omega) (by omega)]; exact ht) x1
          rw [c1, b1_some, b2, nI_add, nI_inc]
          have hOO := b4.trans c3
          exact ⟨_, rfl, rfl, rfl, a2.row (A' := dayA true (dyG A P k).1) hOO c2, (hO.trans a3).trans hOO.lo⟩
        · rintro ⟨a, x, N⟩ ⟨ha, hx, hI, hO⟩
          simp only at ha hx hI hO
          subst ha hx
          unfold w_X11_days_30
          simp only
          rw [if_pos (by rw [nI_le_iff (by omega) (by omega)]; omega)]
          exact ⟨_, rfl, rfl, hI, hO⟩
    · refine ⟨(A, I, P, tp, ft), -1, hG, ?_, fun M1 hM1 => ?_⟩
      · show Wq (f_X10_days (nI m) M) _
        unfold f_X10_days
        rw [e10, es, if_pos (.inr (nI_ge (by omega) (by omega)))]
        exact wq_some ⟨rfl, hC, Hi.refl _⟩
      · show Wq (f_X11_days (nI m) M1) _
        have e0' : M1 156 0 = nI d := by have := num_m 0 (by omega) hM1; exact this.trans hd
        unfold f_X11_days
        rw [e0', nI_add, if_pos (.inr (show ¬ nI (d + m) ≤ nI 9999 from nI_ge (by omega) (by omega)))]
        exact wq_some ⟨rfl, hM1, Lo.refl _⟩
