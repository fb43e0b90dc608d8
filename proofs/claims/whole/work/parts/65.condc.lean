/-! ===== PURE PART: conditions and lines of the law, read by the class ===== -/
section CDC
variable {N : Nat} {ty vl pl : Nat → Nat} {M : Mem}
/-- a reader of a condition that does what it should -/
def RdC (N : Nat) (ty vl pl : Nat → Nat) (rc : Mem → Option (Mem × Int32)) (cd : Nat → Rs Cd) : Prop := ∀ (i : Nat) (X : List (Int32 × Int32)) (M : Mem), STc N ty vl pl M → i ≤ N → M 136 6 = nI i → SC 143 X M → X.length ≤ i → Wq (rc M) (PcC N pl i X M (cd i))
theorem in_tok (hT : okT N ty) {i w : Nat} (hi : i ≤ N) (hw : ty i = w) (h : w ≠ 258) : i < N := by
  rcases Nat.lt_or_ge i N with z | z
  · exact z
  · have : i = N := by omega
    rw [this, hT.2.1] at hw
    exact absurd hw.symm h
theorem readCmp_ok (hT : okT N ty) (hv : ∀ i, ty i = 256 → vl i ≤ 9999) (h : STc N ty vl pl M) {i : Nat} {X : List (Int32 × Int32)} (hi : i ≤ N) (h6 : M 136 6 = nI i) (hX : SC 143 X M) (hl : X.length ≤ i) : Wq (b2 (f_X3_readSum M) fun M41 x42 => if x42 = 0 then (some (M41, 0)) else (b1 (f_X9_type M41) fun x44 => if (x44 = 60 ∨ (x44 = 61 ∨ x44 = 62)) then (lt (f_X9_take M41) fun M49 => b2 (f_X3_readSum M49) fun M50 x51 => b1 (f_X2_addStep 143 x44 0 M50) fun M52 => b1 (gz x51) fun x53 => some (M52, x53)) else (b2 (f_X9_fails 1 M41) fun M54 x55 => b1 (gz x55) fun x56 => some (M54, x56)))) (PcC N pl i X M (cmG ty vl i)) := by
  have hN := hT.1
  unfold cmG
  refine pc_b2 (readSum_ok hT hv h hi h6 hX hl) (Fc.refl _ _) ?_
  intro j c M1 h1 h2 h3 h4 h5 h7
  have ht := hT.2.2.2 j
  have hS1 := h.fc h3
  have hc : (nI (ty j) = 60 ∨ (nI (ty j) = 61 ∨ nI (ty j) = 62)) ↔ (ty j = 60 ∨ ty j = 61 ∨ ty j = 62) := by
    rw [nI_eqc (k := 60) (x := 60) rfl ht (by omega), nI_eqc (k := 61) (x := 61) rfl ht (by omega), nI_eqc (k := 62) (x := 62) rfl ht (by omega)]
  rw [type_ok hN hS1 h2 h4, b1_some]
  by_cases hs : ty j = 60 ∨ ty j = 61 ∨ ty j = 62
  · have hjN : j < N := in_tok hT h2 rfl (by omega)
    rw [if_pos (hc.2 hs), if_pos hs, lt_eq, take_ok h4]
    have hFt : Fc false M (up2 M1 136 6 (nI (j + 1))) := h3.trans (Fc.u136 (by omega))
    refine pc_b2s (readSum_ok (i := j + 1) hT hv (h.fc hFt) hjN (up2_at _ _ _ _) h5.u136 (by rw [List.length_append]; omega)) hFt hN (by rw [List.length_append]; omega) ?_
    intro j2 c2 M2 g1 g2 g3 g4 g5 g7
    have exc : X ++ xC (c ++ c2 ++ [(ty j - 33, 0)]) = X ++ xC c ++ xC c2 ++ [(nI (ty j), 0)] := by
      rw [xC_app, xC_app, xs_op _ (by omega)]
      simp only [List.append_assoc]
      rcases hs with z | z | z <;> rw [z] <;> rfl
    refine ⟨g3, rfl, by simp only; omega, g2, g4, by simp only; rw [exc]; exact g5, ?_⟩
    try simp only
    rw [xC_app, xC_app, xs_op _ (by omega), List.length_append, List.length_append]
    simp only [List.length_cons, List.length_nil]
    omega
  · rw [if_neg (fun z => hs (hc.1 z)), if_neg hs]
    exact pc_fail hN hS1 h3 h2 h4 rfl h5.1 (by rw [List.length_append]; omega)
theorem anc_run (hT : okT N ty) {rc : Int32 → Mem → Option (Mem × Int32)} {a : Int32} {cd : Nat → Rs Cd} (hrc : RdC N ty vl pl (rc a) cd) {M0 : Mem} (h0 : STc N ty vl pl M0) {i0 : Nat} {X : List (Int32 × Int32)} (hX0 : X.length ≤ i0) : ∀ (f i : Nat) (c : Cd) (M : Mem) (more fuel : Nat), f + more = 400 → f < fuel → Fc false M0 M → i0 < i → i ≤ N → M 136 6 = nI i → SC 143 (X ++ xC c) M → (xC c).length + i0 ≤ i → Wq (lp (fun s => w_X3_readEither_24 rc a s.1 s.2) fuel (nI more, M)) (fun r => PcC N pl i0 X M0 (anG ty cd f i c) (match r with | .inl m => (m, 0) | .inr m => (m, 1)))
  | f, i, c, M, more, 0, _, hfu, _, _, _, _, _, _ => absurd hfu (Nat.not_lt_zero _)
  | 0, i, c, M, more, fuel + 1, hf, _, hF, hi0, hi, h6, hS, hlen => by
    have hm : more = 400 := by omega
    subst hm
    have hb : (fun s : Int32 × Mem => w_X3_readEither_24 rc a s.1 s.2) (nI 400, M) = some (.inr (.inr M)) := by
      simp only [w_X3_readEither_24]
      rw [if_pos (by decide)]
    rw [lp_end hb]
    exact wq_some ⟨hF, rfl, hi0, hi, h6, hS, hlen⟩
  | f + 1, i, c, M, more, fuel + 1, hf, hfu, hF, hi0, hi, h6, hS, hlen => by
    have hN := hT.1
    have hSt := h0.fc hF
    have ht := hT.2.2.2 i
    have h400 : ¬ (400 : Int32) ≤ nI more := by
      intro z
      have z : nI 400 ≤ nI more := z
      rw [nI_le_iff (by omega) (by omega)] at z; omega
    have e313 := nI_eqc (k := 313) (x := 313) rfl ht (by omega)
    unfold anG
    by_cases hs : ty i = 313
    · have hiN : i < N := in_tok hT hi hs (by omega)
      rw [if_pos hs]
      have hFt : Fc false M0 (up2 M 136 6 (nI (i + 1))) := hF.trans (Fc.u136 (by omega))
      obtain ⟨⟨M14, x15⟩, e1, hFF, hm⟩ := hrc (i + 1) (X ++ xC c) (up2 M 136 6 (nI (i + 1))) (h0.fc hFt) hiN (up2_at _ _ _ _) hS.u136 (by rw [List.length_append]; omega)
      have hbody : ∀ r, (if x15 = 0 then (some (.inr (.inl M14)) : Option ((Int32 × Mem) ⊕ (Mem ⊕ Mem))) else (b1 (f_X2_addStep 143 313 0 M14) fun M17 => some (.inl ((nI more + 1), M17)))) = r → (fun s : Int32 × Mem => w_X3_readEither_24 rc a s.1 s.2) (nI more, M) = r := by
        intro r hr2
        simp only [w_X3_readEither_24]
        rw [if_neg h400, type_ok hN hSt hi h6, b1_some, if_pos (e313.2 hs), lt_eq, take_ok h6, e1, b2_some]
        exact hr2
      cases hR : cd (i + 1) with
      | inl e =>
        rw [hR] at hm hFF
        obtain ⟨h1, h2, h3, h4⟩ := hm
        simp only at h1
        rw [lp_end (hbody _ (if_pos h1)), bnR_l]
        exact wq_some ⟨hFt.trans hFF, rfl, h2, h3, h4⟩
      | inr q =>
        obtain ⟨j, u⟩ := q
        rw [hR] at hm hFF
        obtain ⟨h1, h2, h3, h4, h5, h7⟩ := hm
        simp only at h1 h2 h3 h4 h5 h7
        obtain ⟨M20, a0, a1, a2⟩ := addStep_ok lwAt_143 h5 (by rw [List.length_append, List.length_append]; omega) 313 0
        have e136 : M20 136 = M14 136 := a2.1 136 (by omega) (by omega) (by omega)
        rw [lp_in (hbody _ (by rw [if_neg (by rw [h1]; decide), a0, b1_some])), bnR_r, nI_inc]
        have exc : X ++ xC (c ++ u ++ [(31, 0)]) = X ++ xC c ++ xC u ++ [(313, 0)] := by
          rw [xC_app, xC_app, xs_op _ (by omega)]
          simp only [List.append_assoc]
          rfl
        refine anc_run hT hrc h0 hX0 f j _ M20 (more + 1) fuel (by omega) (by omega) ((hFt.trans hFF).trans a2.fc) (by omega) h3 (by rw [e136]; exact h4) (by rw [exc]; exact a1) ?_
        rw [xC_app, xC_app, xs_op _ (by omega), List.length_append, List.length_append]
        simp only [List.length_cons, List.length_nil]
        omega
    · rw [if_neg hs]
      have hb : (fun s : Int32 × Mem => w_X3_readEither_24 rc a s.1 s.2) (nI more, M) = some (.inr (.inr M)) := by
        simp only [w_X3_readEither_24]
        rw [if_neg h400, type_ok hN hSt hi h6, b1_some, if_neg (fun z => hs (e313.1 z))]
      rw [lp_end hb]
      exact wq_some ⟨hF, rfl, hi0, hi, h6, hS, hlen⟩
def orC (w : Nat) (c u : Cd) : Cd := if w = 0 then u else c ++ u ++ [(32, 0)]
def eiK (q29 : Mem ⊕ Mem ⊕ Mem ⊕ Mem) : Option (Mem × Int32) := match q29 with | .inl u30 => (some (u30, 0)) | .inr u34 => (match u34 with | .inl u31 => (some (u31, 0)) | .inr u35 => (match u35 with | .inl u32 => (some (u32, 1)) | .inr u33 => (some (u33, 1))))
def eiB (w more : Int32) (q18 : Mem ⊕ Mem) : Option ((Int32 × Int32 × Mem) ⊕ (Mem ⊕ Mem ⊕ Mem ⊕ Mem)) := (match q18 with | .inl u19 => (some (.inr (.inr (.inl u19))) : Option ((Int32 × Int32 × Mem) ⊕ (Mem ⊕ Mem ⊕ Mem ⊕ Mem))) | .inr u20 => (if w = 0 then (b1 (f_X9_type u20) fun x22 => if x22 = 312 then (lt (f_X9_take u20) fun M24 => some (.inl (1, (more + 1), M24))) else (some (.inr (.inr (.inr (.inl u20)))))) else (b1 (f_X2_addStep 143 312 0 u20) fun M25 => b1 (f_X9_type M25) fun x26 => if x26 = 312 then (lt (f_X9_take M25) fun M28 => some (.inl (1, (more + 1), M28))) else (some (.inr (.inr (.inr (.inl M25))))))))
theorem orG_stop {ev : Nat → Rs Cd} {f j : Nat} {c : Cd} (h : ty j ≠ 312) : orG ty ev f j c = .inr (j, c) := by
  cases f with
  | zero => rfl
  | succ f => unfold orG; rw [if_neg h]
theorem orc_run (hT : okT N ty) {rc : Int32 → Mem → Option (Mem × Int32)} {a : Int32} {cd : Nat → Rs Cd} (hrc : RdC N ty vl pl (rc a) cd) {M0 : Mem} (h0 : STc N ty vl pl M0) {i0 : Nat} {X : List (Int32 × Int32)} (hX0 : X.length ≤ i0) : ∀ (f i w : Nat) (c : Cd) (M : Mem) (more fuel : Nat), N ≤ i + f → more ≤ i → f < fuel → Fc false M0 M → (w = 0 ∨ w = 1) → i0 ≤ i → i ≤ N → M 136 6 = nI i → SC 143 (X ++ xC c) M → (w = 0 → c = []) → (xC c).length + w + i0 ≤ i → (i = N → more < 400) → Wq (b1 (lp (fun s => w_X3_readEither_4 rc a s.1 s.2.1 s.2.2) fuel (nI w, nI more, M)) eiK) (PcC N pl i0 X M0 (bnR (evG ty cd i) (fun j u => orG ty (evG ty cd) f j (orC w c u))))
  | f, i, w, c, M, more, 0, _, _, hfu, _, _, _, _, _, _, _, _, _ => absurd hfu (Nat.not_lt_zero _)
  | f, i, w, c, M, more, fuel + 1, hNf, hmi, hfu, hF, hw, hi0, hi, h6, hS, hwc, hlen, hmN => by
    have hN := hT.1
    have hSt := h0.fc hF
    have h400 : ¬ (400 : Int32) ≤ nI more := by
      intro z
      have z : nI 400 ≤ nI more := z
      rw [nI_le_iff (by omega) (by omega)] at z; omega
    obtain ⟨⟨M5, x6⟩, e1, hFF, hm⟩ := hrc i (X ++ xC c) M hSt hi h6 hS (by rw [List.length_append]; omega)
    unfold evG
    cases hR : cd i with
    | inl e =>
      rw [hR] at hm hFF
      obtain ⟨h1, h2, h3, h4⟩ := hm
      simp only at h1
      have hb : (fun s : Int32 × Int32 × Mem => w_X3_readEither_4 rc a s.1 s.2.1 s.2.2) (nI w, nI more, M) = some (.inr (.inl M5)) := by
        simp only [w_X3_readEither_4]
        rw [if_neg h400, e1, b2_some, if_pos h1]
      rw [lp_end hb, b1_some, bnR_l, bnR_l]
      exact wq_some ⟨hF.trans hFF, rfl, h2, h3, h4⟩
    | inr q =>
      obtain ⟨j, u⟩ := q
      rw [hR] at hm hFF
      obtain ⟨h1, h2, h3, h4, h5, h7⟩ := hm
      simp only at h1 h2 h3 h4 h5 h7
      have hF5 : Fc false M0 M5 := hF.trans hFF
      rw [bnR_r]
      obtain ⟨q18, e2, hF18, hm2⟩ := anc_run hT hrc (M0 := M5) (h0.fc hF5) (i0 := i) (X := X ++ xC c) (by rw [List.length_append]; omega) 400 j u M5 0 FU rfl (by unfold FU; omega) (Fc.refl _ _) h2 h3 h4 h5 h7
      have e2 : lp (fun s => w_X3_readEither_24 rc a s.1 s.2) FU (0, M5) = some q18 := e2
      have hbody0 : ∀ r, eiB (nI w) (nI more) q18 = r → (fun s : Int32 × Int32 × Mem => w_X3_readEither_4 rc a s.1 s.2.1 s.2.2) (nI w, nI more, M) = r := by
        intro r hr
        simp only [w_X3_readEither_4]
        rw [if_neg h400, e1, b2_some, if_neg (by rw [h1]; decide), e2, b1_some]
        exact hr
      cases hA : anG ty cd 400 j u with
      | inl e =>
        rw [hA] at hm2 hF18
        obtain ⟨g1, g2, g3, g4⟩ := hm2
        cases q18 with
        | inr u20 => exact absurd (show (1 : Int32) = 0 from g1) (by decide)
        | inl u19 =>
          simp only at g2 g3 g4 hF18
          rw [lp_end (hbody0 _ rfl), b1_some, bnR_l]
          exact wq_some ⟨hF5.trans hF18, rfl, g2, g3, g4⟩
      | inr q2 =>
        obtain ⟨j2, u2⟩ := q2
        rw [hA] at hm2 hF18
        obtain ⟨g1, g2, g3, g4, g5, g7⟩ := hm2
        cases q18 with
        | inl u19 => exact absurd (show (0 : Int32) = 1 from g1) (by decide)
        | inr u20 =>
          simp only at g2 g3 g4 g5 g7 hF18
          rw [bnR_r]
          have hF20 := hF5.trans hF18
          -- the waiting or
          obtain ⟨M25, k0, k1, k2, k3, k4⟩ : ∃ M25, (∀ r, (b1 (f_X9_type M25) fun x26 => if x26 = 312 then (lt (f_X9_take M25) fun M28 => (some (.inl (1, (nI more + 1), M28)) : Option ((Int32 × Int32 × Mem) ⊕ (Mem ⊕ Mem ⊕ Mem ⊕ Mem)))) else (some (.inr (.inr (.inr (.inl M25)))))) = r → (fun s : Int32 × Int32 × Mem => w_X3_readEither_4 rc a s.1 s.2.1 s.2.2) (nI w, nI more, M) = r) ∧ Fc false M0 M25 ∧ M25 136 6 = nI j2 ∧ SC 143 (X ++ xC (orC w c u2)) M25 ∧ (xC (orC w c u2)).length + i0 ≤ j2 := by
            rcases hw with rfl | rfl
            · have hc0 := hwc rfl
              subst hc0
              refine ⟨u20, fun r hr => hbody0 r (by unfold eiB; simp only; rw [if_pos (show nI 0 = 0 from rfl)]; exact hr), hF20, g4, ?_, ?_⟩
              · have : X ++ xC ([] : Cd) ++ xC u2 = X ++ xC (orC 0 [] u2) := by
                  show X ++ [] ++ xC u2 = X ++ xC u2
                  rw [List.append_nil]
                rw [← this]; exact g5
              · show (xC u2).length + i0 ≤ j2
                omega
            · obtain ⟨M25, a0, a1, a2⟩ := addStep_ok lwAt_143 g5 (by rw [List.length_append, List.length_append]; omega) 312 0
              have e136 : M25 136 = u20 136 := a2.1 136 (by omega) (by omega) (by omega)
              have exc : xC (orC 1 c u2) = xC c ++ xC u2 ++ [(312, 0)] := by
                show xC (c ++ u2 ++ [(32, 0)]) = _
                rw [xC_app, xC_app, xs_op _ (by omega)]
                rfl
              refine ⟨M25, fun r hr => hbody0 r (by unfold eiB; simp only; rw [if_neg (by decide), a0, b1_some]; exact hr), hF20.trans a2.fc, by rw [e136]; exact g4, ?_, ?_⟩
              · rw [exc, ← List.append_assoc, ← List.append_assoc]; exact a1
              · rw [exc, List.length_append, List.length_append]
                simp only [List.length_cons, List.length_nil]
                omega
          have ht := hT.2.2.2 j2
          have e312 := nI_eqc (k := 312) (x := 312) rfl ht (by omega)
          have hS25 := h0.fc k1
          by_cases hs : ty j2 = 312
          · have hjN : j2 < N := in_tok hT g3 hs (by omega)
            cases f with
            | zero => omega
            | succ f =>
              have hb := k0 _ (by rw [type_ok hN hS25 g3 k2, b1_some, if_pos (e312.2 hs), lt_eq, take_ok k2])
              rw [lp_in hb, nI_inc]
              have hFt : Fc false M0 (up2 M25 136 6 (nI (j2 + 1))) := k1.trans (Fc.u136 (by omega))
              have := orc_run hT hrc h0 hX0 f (j2 + 1) 1 (orC w c u2) (up2 M25 136 6 (nI (j2 + 1))) (more + 1) fuel (by omega) (by omega) (by omega) hFt (.inr rfl) (by omega) hjN (up2_at _ _ _ _) k3.u136 (fun z => absurd z (by decide)) (by omega) (fun _ => by omega)
              show Wq _ (PcC N pl i0 X M0 (if ty j2 = 312 then bnR (evG ty cd (j2 + 1)) (fun j u => orG ty (evG ty cd) f j (orC w c u2 ++ u ++ [(32, 0)])) else .inr (j2, orC w c u2)))
              rw [if_pos hs]
              exact this
          · have hb := k0 _ (by rw [type_ok hN hS25 g3 k2, b1_some, if_neg (fun z => hs (e312.1 z))])
            rw [lp_end hb, b1_some, orG_stop hs]
            exact wq_some ⟨k1, rfl, by simp only; omega, g3, k2, k3, k4⟩
theorem readEither_ok (hT : okT N ty) {rc re : Int32 → Mem → Option (Mem × Int32)} {a : Int32} {cd : Nat → Rs Cd} (hrc : RdC N ty vl pl (rc a) cd) : RdC N ty vl pl (F_X3_readEither rc re a) (ayG ty (evG ty cd)) := by
  intro i X M h hi h6 hX hl
  have hN := hT.1
  have := orc_run hT hrc h hl 400 i 0 [] M 0 FU (by omega) (Nat.zero_le _) (by unfold FU; omega) (Fc.refl _ _) (.inl rfl) (Nat.le_refl _) hi h6 (by show SC 143 (X ++ []) M; rw [List.append_nil]; exact hX) (fun _ => rfl) (by show 0 + 0 + i ≤ i; omega) (fun _ => by omega)
  exact this
theorem cond_ok (hT : okT N ty) (hv : ∀ i, ty i = 256 → vl i ≤ 9999) : ∀ (r n : Nat), r ≤ 8 → 2 * r + 1 ≤ n → RdC N ty vl pl ((gr_X3_readCondition_X3_readEither n).1 (nI (8 - r))) (cdG ty vl r)
  | 0, 0, _, h => by omega
  | 0, n + 1, _, _ => by
    intro i X M h hi h6 hX hl
    have hN := hT.1
    have ht := hT.2.2.2 i
    have e40 := nI_eqc (k := 40) (x := 40) rfl ht (by omega)
    have e314 := nI_eqc (k := 314) (x := 314) rfl ht (by omega)
    show Wq (F_X3_readCondition _ _ (nI 8) M) (PcC N pl i X M (if ty i = 314 ∨ ty i = 40 then .inl (3, i) else cmG ty vl i))
    unfold F_X3_readCondition
    rw [type_ok hN h hi h6, b1_some]
    by_cases hs : ty i = 314 ∨ ty i = 40
    · rw [if_pos (by rw [e40, e314]; exact hs), if_neg (by decide), if_pos hs]
      exact pc_fail hN h (Fc.refl _ _) hi h6 rfl hX.1 (by omega)
    · rw [if_neg (by rw [e40, e314]; exact hs), if_neg hs, if_neg (by rw [e40]; exact fun z => hs (.inr z)), if_neg (by rw [e314]; exact fun z => hs (.inl z))]
      exact readCmp_ok hT hv h hi h6 hX hl
  | r + 1, 0, _, h => by omega
  | r + 1, 1, _, h => by omega
  | r + 1, n + 2, hr, hn => by
    intro i X M h hi h6 hX hl
    have hN := hT.1
    have ht := hT.2.2.2 i
    have e40 := nI_eqc (k := 40) (x := 40) rfl ht (by omega)
    have e314 := nI_eqc (k := 314) (x := 314) rfl ht (by omega)
    have e8 : nI (8 - (r + 1)) + 1 = nI (8 - r) := by rw [nI_inc]; congr 1; omega
    have hlt : nI (8 - (r + 1)) < 8 := (nI_lt_iff (a := 8 - (r + 1)) (b := 8) (by omega) (by omega)).2 (by omega)
    show Wq (F_X3_readCondition (gr_X3_readCondition_X3_readEither (n + 1)).1 (gr_X3_readCondition_X3_readEither (n + 1)).2 (nI (8 - (r + 1))) M) (PcC N pl i X M (if ty i = 40 then bnR (ayG ty (evG ty (cdG ty vl r)) (i + 1)) (fun j c => nxG ty 41 j c) else if ty i = 314 then bnR (cdG ty vl r (i + 1)) (fun j c => .inr (j, c ++ [(30, 0)])) else cmG ty vl i))
    unfold F_X3_readCondition
    rw [type_ok hN h hi h6, b1_some, e8]
    have hFt : Fc false M (up2 M 136 6 (nI (i + 1))) := Fc.u136 (by omega)
    by_cases h40 : ty i = 40
    · have hiN : i < N := in_tok hT hi h40 (by omega)
      rw [if_pos (.inr (e40.2 h40)), if_pos hlt, if_pos (e40.2 h40), if_pos h40, lt_eq, take_ok h6]
      refine pc_b2 (readEither_ok hT (re := (gr_X3_readCondition_X3_readEither n).2) (cond_ok hT hv r n (by omega) (by omega)) (i + 1) X _ (h.fc hFt) hiN (up2_at _ _ _ _) hX.u136 (by omega)) hFt ?_
      intro j c M1 h1 h2 h3 h4 h5 h7
      have hS1 := h.fc h3
      have htj := hT.2.2.2 j
      have e41 := nI_eqc (k := 41) (x := 41) rfl htj (by omega)
      unfold f_X9_takes nxG
      rw [type_ok hN hS1 h2 h4, b1_some]
      by_cases hs : ty j = 41
      · have hjN : j < N := in_tok hT h2 hs (by omega)
        rw [if_pos (e41.2 hs), lt_eq, take_ok h4, b2_some, if_neg (by decide), if_pos hs]
        exact wq_some ⟨h3.trans (Fc.u136 (by omega)), rfl, by simp only; omega, hjN, (by first | exact up2_at _ _ _ _ | (simp only; exact up2_at _ _ _ _)), h5.u136, by simp only; omega⟩
      · rw [if_neg (fun z => hs (e41.1 z)), if_neg hs]
        obtain ⟨⟨M2, x2⟩, q1, q2, q3, q4, q5⟩ := pc_fail (i0 := i) (X0 := X) hN hS1 h3 h2 h4 (x := 1) (k := 1) rfl h5.1 (by rw [List.length_append]; omega)
        rw [q1, b2_some]
        simp only at q3
        rw [if_pos q3]
        exact wq_some ⟨q2, rfl, q4, q5⟩
    · rw [if_neg h40]
      by_cases h314 : ty i = 314
      · have hiN : i < N := in_tok hT hi h314 (by omega)
        rw [if_pos (.inl (e314.2 h314)), if_pos hlt, if_neg (fun z => h40 (e40.1 z)), if_pos (e314.2 h314), if_pos h314, lt_eq, take_ok h6]
        refine pc_b2s (cond_ok hT hv r (n + 1) (by omega) (by omega) (i + 1) X _ (h.fc hFt) hiN (up2_at _ _ _ _) hX.u136 (by omega)) hFt hN (by omega) ?_
        intro j c M2 g1 g2 g3 g4 g5 g7
        have exc : X ++ xC (c ++ [(30, 0)]) = X ++ xC c ++ [(314, 0)] := by
          rw [xC_app, xs_op _ (by omega), List.append_assoc]
          rfl
        refine ⟨g3, rfl, by simp only; omega, g2, g4, by simp only; rw [exc]; exact g5, ?_⟩
        try simp only
        rw [xC_app, xs_op _ (by omega), List.length_append]
        simp only [List.length_cons, List.length_nil]
        omega
      · rw [if_neg (by rw [e40, e314]; omega), if_neg (fun z => h40 (e40.1 z)), if_neg (fun z => h314 (e314.1 z)), if_neg h314]
        exact readCmp_ok hT hv h hi h6 hX hl
theorem any_ok (hT : okT N ty) (hv : ∀ i, ty i = 256 → vl i ≤ 9999) : RdC N ty vl pl (f_X3_readEither 40 0) (ayG ty (evG ty (cdG ty vl 8))) := by
  have := readEither_ok hT (re := (gr_X3_readCondition_X3_readEither 39).2) (cond_ok (pl := pl) hT hv 8 39 (by omega) (by omega))
  exact this
end CDC
