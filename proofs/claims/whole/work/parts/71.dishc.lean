/-! ===== PURE PART: recipes, and all lines, read by the class ===== -/
theorem had_iff (ps : List (Nat × Nat)) (k : Nat) : hadP ps k = true ↔ ∃ j, j < ps.length ∧ (ps.getD j (0, 0)).1 = k := by
  unfold hadP
  rw [List.any_eq_true]
  constructor
  · rintro ⟨q, h1, h2⟩
    obtain ⟨j, hj, e⟩ := List.getElem_of_mem h1
    refine ⟨j, hj, ?_⟩
    rw [List.getD_eq_getElem?_getD, List.getElem?_eq_getElem hj, e]
    simpa using h2
  · rintro ⟨j, hj, e⟩
    refine ⟨ps[j], List.getElem_mem hj, ?_⟩
    rw [List.getD_eq_getElem?_getD, List.getElem?_eq_getElem hj] at e
    simpa using e
def okPs (ps : List (Nat × Nat)) : Prop := ∀ j, j < ps.length → 1 ≤ (ps.getD j (0, 0)).2 ∧ (ps.getD j (0, 0)).2 ≤ 99
theorem nd_pos {ps : List (Nat × Nat)} (hp : okPs ps) (k : Nat) : ∀ m, m ≤ ps.length → ((∃ j, j < m ∧ (ps.getD j (0, 0)).1 = k) → ¬ ndI ps k m ≤ 0) ∧ ((¬ ∃ j, j < m ∧ (ps.getD j (0, 0)).1 = k) → ndI ps k m = 0)
  | 0, _ => ⟨fun ⟨j, hj, _⟩ => absurd hj (Nat.not_lt_zero _), fun _ => rfl⟩
  | m + 1, hm => by
    obtain ⟨h1, h2⟩ := nd_pos hp k m (by omega)
    unfold ndI
    by_cases e : (ps.getD m (0, 0)).1 = k
    · rw [if_pos e]
      refine ⟨fun _ z => ?_, fun z => absurd ⟨m, by omega, e⟩ z⟩
      have hs := hp m (by omega)
      have z : nI (ps.getD m (0, 0)).2 ≤ nI 0 := z
      rw [nI_le_iff (by omega) (by omega)] at z
      omega
    · rw [if_neg e]
      refine ⟨fun ⟨j, hj, ej⟩ => h1 ⟨j, ?_, ej⟩, fun z => h2 (fun ⟨j, hj, ej⟩ => z ⟨j, by omega, ej⟩)⟩
      rcases Nat.lt_or_ge j m with y | y
      · exact y
      · have : j = m := by omega
        rw [this] at ej
        exact absurd ej e
section DSC
variable {N : Nat} {ty vl pl : Nat → Nat} {M : Mem} {o m w : Nat} {T : Tb}
theorem takesNumber_gen (hT : okT N ty) (hv : ∀ i, ty i = 256 → vl i ≤ 9999) (ho : o + 1 < 136) (h : STc N ty vl pl M) {i lo hs : Nat} {r : Nat → Int32} (hi : i ≤ N) (h6 : M 136 6 = nI i) (hR : RR o m w (tAdd T r) M) {x a b : Int32} {cl : Nat} (hc : cl < w) (hx : x = nI cl) (ha : a = nI lo) (hb : b.toInt = (hs : Int) - 1) (hl : lo < 1000) (hh : hs < 10000) : Wq (f_X4_takesNumber o x a b M) (PrC N pl o m w T (fun v : Nat => fun j => if j = cl then nI v else r j) M (if ty i = 256 then (if lo ≤ vl i ∧ vl i < hs then .inr (i + 1, vl i) else .inl (2, i)) else .inl (1, i))) := by
  have hN := hT.1
  have ht := hT.2.2.2 i
  have e256 := nI_eqc (k := 256) (x := 256) rfl ht (by omega)
  unfold f_X4_takesNumber
  rw [type_ok hN h hi h6, b1_some]
  by_cases h256 : ty i = 256
  · have hiN : i < N := in_tok hT hi h256 (by omega)
    have hv' := hv i h256
    obtain ⟨y, y1, y2⟩ := value_ok hN h hi h6
    have e := num_rng hv' ha hb hl hh
    rw [if_pos (e256.2 h256), y1, b1_some, y2 h256, b1_some, if_pos h256]
    by_cases hr : lo ≤ vl i ∧ vl i < hs
    · rw [if_neg (fun z => e.1 z hr), if_pos hr, hR.cnt]
      have e1 : nI (tAdd T r).1 - 1 = nI T.1 := nI_dec' (show 0 < T.1 + 1 by omega)
      rw [e1, hx]
      refine wq_b1 (put_in hR (r := T.1) (nI (vl i)) (show T.1 < T.1 + 1 by omega) hc) ?_
      rintro M6 ⟨g1, g2⟩
      have e136 : M6 136 = M 136 := g2 136 (by omega)
      rw [lt_eq, take_ok (i := i) (by rw [e136]; exact h6)]
      refine wq_some ⟨(Fr.out ho (g2.wide (by omega) (by omega))).trans Fr.u6, rfl, hiN, (by first | exact up2_at _ _ _ _ | (simp only; exact up2_at _ _ _ _)), RR.u6 ho (RR.ext (T' := tAdd T (fun j => if j = cl then nI (vl i) else r j)) g1 rfl ?_)⟩
      intro r' j hr2 hj
      show (if r' = T.1 then (if j = cl then nI (vl i) else r j) else T.2 r' j) = if r' = T.1 ∧ j = cl then nI (vl i) else (if r' = T.1 then r j else T.2 r' j)
      by_cases er : r' = T.1
      · rw [if_pos er, if_pos er]
        by_cases ej : j = cl
        · rw [if_pos ej, if_pos ⟨er, ej⟩]
        · rw [if_neg ej, if_neg (fun z => ej z.2)]
      · rw [if_neg er, if_neg er, if_neg (fun z => er z.1)]
    · rw [if_pos (e.2 hr), if_neg hr]
      exact pr_fail hN ho h (Fr.refl _ _ _) hi h6 rfl hR
  · rw [if_neg (fun z => h256 (e256.1 z)), if_neg h256]
    exact pr_fail hN ho h (Fr.refl _ _ _) hi h6 rfl hR
def paK (q15 : Mem ⊕ Mem ⊕ Mem ⊕ Mem) : Option (Mem × Int32) := match q15 with | .inl u16 => (b2 (f_X9_fails 2 u16) fun M17 x18 => b1 (gz x18) fun x19 => some (M17, x19)) | .inr u26 => (match u26 with | .inl u20 => (b2 (f_X9_fails 3 u20) fun M21 x22 => b1 (gz x22) fun x23 => some (M21, x23)) | .inr u27 => (match u27 with | .inl u24 => (some (u24, 0)) | .inr u25 => (some (u25, 1))))
theorem rowC_1 {c : List Int32} {ps : List (Nat × Nat)} (hc : c.length = 1) (k : Nat) : rowC (c, ps) (1 + k) = ndI ps k ps.length := by
  unfold rowC
  try simp only
  rw [if_neg (by omega), show 1 + k - 1 = k from by omega]
theorem rowC_snoc {c : List Int32} {ps : List (Nat × Nat)} (hc : c.length = 1) (k s j : Nat) : rowC (c, ps ++ [(k, s)]) j = if j = 1 + k then nI s else rowC (c, ps) j := by
  by_cases hj : j < 1
  · rw [if_neg (by omega)]
    unfold rowC
    try simp only
    rw [if_pos (by omega), if_pos (by omega)]
  · have e : j = 1 + (j - 1) := by omega
    rw [e, rowC_1 hc, rowC_1 hc, ndI_snoc]
    by_cases z : k = j - 1
    · rw [if_pos z, if_pos (by omega)]
    · rw [if_neg z, if_neg (by omega)]
theorem parts_run (hT : okT N ty) (hv : ∀ i, ty i = 256 → vl i ≤ 9999) (ho : o + 1 < 136) {M0 Ms : Mem} (h0 : STc N ty vl pl M0) {nk : Nat} (hk : nk ≤ 6) {c : List Int32} (hc : c.length = 1) (hs3 : Ms o 3 = nI (T.1 + 1)) : ∀ (f i : Nat) (ps : List (Nat × Nat)) (M : Mem) (fuel : Nat), f + ps.length = 5 → ps.length ≤ 4 → okPs ps → f < fuel → Fr false o M0 M → i ≤ N → M 136 6 = nI i → RR o m 7 (tAdd T (rowC (c, ps))) M → Wq (b1 (lp (fun s => w_X4_readParts_10 o (nI nk) Ms s.1 s.2) fuel (nI ps.length, M)) paK) (PrC N pl o m 7 T (fun ps => rowC (c, ps)) M0 (paG ty vl nk f i ps))
  | f, i, ps, M, 0, _, _, _, hfu, _, _, _, _ => absurd hfu (Nat.not_lt_zero _)
  | 0, i, ps, M, fuel + 1, hf, hp4, _, _, _, _, _, _ => by omega
  | f + 1, i, ps, M, fuel + 1, hf, hp4, hps, hfu, hF, hi, h6, hR => by
    have hN := hT.1
    have hSt := h0.fr ho hF
    have ht := hT.2.2.2 i
    have e256 := nI_eqc (k := 256) (x := 256) rfl ht (by omega)
    have h4 : ¬ (4 : Int32) < nI ps.length := by
      intro z
      have z : nI 4 < nI ps.length := z
      rw [nI_lt_iff (by omega) (by omega)] at z; omega
    unfold paG
    by_cases h256 : ty i = 256
    · have hiN : i < N := in_tok hT hi h256 (by omega)
      have hv' := hv i h256
      obtain ⟨y, y1, y2⟩ := value_ok hN hSt hi h6
      have y3 := y2 h256
      subst y3
      rw [if_pos h256]
      have fail2 : ∀ (Mx : Mem ⊕ Mem ⊕ Mem ⊕ Mem), Mx = .inl M → ((fun s : Int32 × Mem => w_X4_readParts_10 o (nI nk) Ms s.1 s.2) (nI ps.length, M) = some (.inr Mx)) → Wq (b1 (lp (fun s => w_X4_readParts_10 o (nI nk) Ms s.1 s.2) (fuel + 1) (nI ps.length, M)) paK) (PrC N pl o m 7 T (fun ps => rowC (c, ps)) M0 (.inl (2, i))) := by
        intro Mx e hb
        subst e
        rw [lp_end hb, b1_some]
        exact pr_fail hN ho hSt hF hi h6 rfl hR
      by_cases hlt : vl i < nk
      · have eat : f_X8_at o ((Ms o 3) - 1) (1 + nI (vl i)) M = some (ndI ps (vl i) ps.length) := by
          have e1 : nI (T.1 + 1) - 1 = nI T.1 := nI_dec' (by omega)
          have e2 : (1 : Int32) + nI (vl i) = nI (1 + vl i) := nI_add 1 _
          rw [hs3, e1, e2, at_in hR (r := T.1) (c := 1 + vl i) (show T.1 < T.1 + 1 by omega) (by omega)]
          show some (if T.1 = T.1 then rowC (c, ps) (1 + vl i) else T.2 T.1 (1 + vl i)) = _
          rw [if_pos rfl, rowC_1 hc]
        obtain ⟨p1, p2⟩ := nd_pos hps (vl i) ps.length (Nat.le_refl _)
        by_cases hh : hadP ps (vl i) = true
        · have hx8 : ¬ ndI ps (vl i) ps.length ≤ 0 := p1 ((had_iff ps (vl i)).1 hh)
          rw [if_pos (.inr hh)]
          refine fail2 _ rfl ?_
          simp only [w_X4_readParts_10]
          rw [if_neg h4, type_ok hN hSt hi h6, b1_some, if_pos (e256.2 h256), y1, b1_some, if_neg (by rw [nI_le_iff (by omega) (by omega)]; omega), eat, b1_some, if_neg hx8]
        · have hx8 : ndI ps (vl i) ps.length = 0 := p2 (fun z => hh ((had_iff ps (vl i)).2 z))
          rw [if_neg (by
            rintro (z | z)
            · exact z hlt
            · exact hh z)]
          by_cases hl4 : ps.length = 4
          · rw [if_pos hl4]
            have hb : (fun s : Int32 × Mem => w_X4_readParts_10 o (nI nk) Ms s.1 s.2) (nI ps.length, M) = some (.inr (.inr (.inl M))) := by
              simp only [w_X4_readParts_10]
              rw [if_neg h4, type_ok hN hSt hi h6, b1_some, if_pos (e256.2 h256), y1, b1_some, if_neg (by rw [nI_le_iff (by omega) (by omega)]; omega), eat, b1_some, hx8, if_pos (by decide), if_pos (by rw [hl4]; rfl)]
            rw [lp_end hb, b1_some]
            exact pr_fail hN ho hSt hF hi h6 rfl hR
          · rw [if_neg hl4]
            have hFt : Fr false o M0 (up2 M 136 6 (nI (i + 1))) := hF.trans Fr.u6
            have e2 : (1 : Int32) + nI (vl i) = nI (1 + vl i) := nI_add 1 _
            obtain ⟨⟨M12, x13⟩, u0, uF, um⟩ := takesNumber_gen (M := up2 M 136 6 (nI (i + 1))) (i := i + 1) (lo := 1) (hs := 100) (a := 1) (b := 99) (cl := 1 + vl i) hT hv ho (h0.fr ho hFt) hiN (up2_at _ _ _ _) (hR.u6 ho) (by omega) e2 rfl rfl (by omega) (by omega)
            have hbody : ∀ r, (if x13 = 0 then (some (.inr (.inr (.inr (.inl M12)))) : Option ((Int32 × Mem) ⊕ (Mem ⊕ Mem ⊕ Mem ⊕ Mem))) else (some (.inl ((nI ps.length + 1), M12)))) = r → (fun s : Int32 × Mem => w_X4_readParts_10 o (nI nk) Ms s.1 s.2) (nI ps.length, M) = r := by
              intro r hr
              simp only [w_X4_readParts_10]
              rw [if_neg h4, type_ok hN hSt hi h6, b1_some, if_pos (e256.2 h256), y1, b1_some, if_neg (by rw [nI_le_iff (by omega) (by omega)]; omega), eat, b1_some, hx8, if_pos (by decide), if_neg (by
                intro z
                have z : nI ps.length = nI 4 := z
                rw [nI_eq_iff (by omega) (by omega)] at z
                exact hl4 z), lt_eq, take_ok h6, u0, b2_some]
              exact hr
            have fail : ∀ e : Nat × Nat, Fr true o (up2 M 136 6 (nI (i + 1))) M12 → (x13 = 0 ∧ M12 136 7 = nI e.1 ∧ M12 136 8 = nI (pl e.2) ∧ ∃ T', RR o m 7 T' M12) → Wq (b1 (lp (fun s => w_X4_readParts_10 o (nI nk) Ms s.1 s.2) (fuel + 1) (nI ps.length, M)) paK) (PrC N pl o m 7 T (fun ps => rowC (c, ps)) M0 (.inl e)) := by
              rintro e hFF ⟨z1, z2⟩
              rw [lp_end (hbody _ (if_pos z1)), b1_some]
              exact wq_some ⟨hFt.trans hFF, rfl, z2⟩
            by_cases h256' : ty (i + 1) = 256
            · rw [if_pos h256'] at uF um ⊢
              by_cases hr : 1 ≤ vl (i + 1) ∧ vl (i + 1) < 100
              · rw [if_pos hr] at uF um ⊢
                obtain ⟨z1, z2, z3, z4⟩ := um
                simp only at z1 z2 z3 z4
                have el : (ps ++ [(vl i, vl (i + 1))]).length = ps.length + 1 := by rw [List.length_append]; rfl
                rw [lp_in (hbody _ (if_neg (by rw [z1]; decide))), nI_inc, ← el]
                refine parts_run hT hv ho h0 hk hc hs3 f (i + 2) (ps ++ [(vl i, vl (i + 1))]) M12 fuel (by omega) (by omega) ?_ (by omega) (hFt.trans uF) z2 z3 (z4.ext rfl ?_)
                · intro j hj
                  by_cases e : j = ps.length
                  · rw [e, getD_app_at]
                    exact ⟨hr.1, by simp only; omega⟩
                  · rw [getD_app_l _ (by omega)]
                    exact hps j (by omega)
                · intro r j hr2 hj
                  show (if r = T.1 then rowC (c, ps ++ [(vl i, vl (i + 1))]) j else T.2 r j) = if r = T.1 then (if j = 1 + vl i then nI (vl (i + 1)) else rowC (c, ps) j) else T.2 r j
                  rw [rowC_snoc hc]
              · rw [if_neg hr] at uF um ⊢
                exact fail _ uF um
            · rw [if_neg h256'] at uF um ⊢
              exact fail _ uF um
      · rw [if_pos (.inl hlt)]
        refine fail2 _ rfl ?_
        simp only [w_X4_readParts_10]
        rw [if_neg h4, type_ok hN hSt hi h6, b1_some, if_pos (e256.2 h256), y1, b1_some, if_pos (by rw [nI_le_iff (by omega) (by omega)]; omega)]
    · rw [if_neg h256]
      have hb : (fun s : Int32 × Mem => w_X4_readParts_10 o (nI nk) Ms s.1 s.2) (nI ps.length, M) = some (.inr (.inr (.inr (.inr M)))) := by
        simp only [w_X4_readParts_10]
        rw [if_neg h4, type_ok hN hSt hi h6, b1_some, if_neg (fun z => h256 (e256.1 z))]
      rw [lp_end hb, b1_some]
      exact wq_some ⟨hF, rfl, hi, h6, hR⟩
theorem readDish_ok (hT : okT N ty) (hv : ∀ i, ty i = 256 → vl i ≤ 9999) (ho : o + 1 < 136) (h : STc N ty vl pl M) {i : Nat} (hi : i ≤ N) (h6 : M 136 6 = nI i) (hR : RR o m 7 T M) {nk : Nat} (hk : nk ≤ 6) : Wq (f_X4_readDish o (nI nk) M) (PrC N pl o m 7 T rowC M (lineG ty vl 4 nk m T.1 i)) := by
  unfold f_X4_readDish
  show Wq _ (PrC N pl o m 7 T rowC M (if ty i = 322 then (if T.1 = m then .inl (3, i) else dishG ty vl nk i) else .inl (1, i)))
  refine begins_row (wd := 322) (x := 322) hT ho h hi h6 hR rfl (by omega) ?_
  intro M1 a1 a2 a3 a4
  unfold dishG
  refine pr_b2 (takesNumber_ok (lo := 1) (hs := 100) hT hv ho (h.fr ho a2) a1 a3 a4 (by decide) rfl rfl rfl (by omega) (by omega)) a2 ?_
  intro j c M2 e2 b1 b2 b3 b4
  have l2 : c.length = 1 := nu_len e2
  have hp := parts_run (m := m) (T := T) hT hv ho (M0 := M2) (Ms := M2) (h.fr ho b2) hk l2 b4.cnt 5 j [] M2 FU rfl (by decide) (fun j hj => absurd hj (Nat.not_lt_zero _)) (by unfold FU; omega) (Fr.refl _ _ _) b1 b3 b4
  refine pr_b2 (x := f_X4_readParts o (nI nk) M2) hp b2 ?_
  intro j2 ps M3 e3 c1 c2 c3 c4
  refine wq_mono (pr_b2 (r2 := rowC) (f := fun j a => .inr (j, a)) (takes_ok (wd := 59) (row := rowC) (a := (c, ps)) hT ho (h.fr ho c2) c1 c3 c4 rfl (by omega)) c2 ?_) ?_
  · intro j c' M5 e5 f1 f2 f3 f4
    exact wq_some ⟨f2, rfl, f1, f3, f4⟩
  · intro p hp
    have e : bnR (nxG ty 59 j2 (c, ps)) (fun j a => .inr (j, a)) = nxG ty 59 j2 (c, ps) := by
      unfold nxG
      by_cases z : ty j2 = 59
      · rw [if_pos z]; rfl
      · rw [if_neg z]; rfl
    rw [e] at hp
    exact hp
theorem gz_wrap {α : Type} {row : α → Nat → Int32} {R : Rs α} {x : Option (Mem × Int32)} (h : Wq x (PrC N pl o m w T row M R)) : Wq (b2 x fun M5 x6 => b1 (gz x6) fun x7 => some (M5, x7)) (PrC N pl o m w T row M R) := by
  obtain ⟨⟨M2, x2⟩, rfl, hF, hm⟩ := h
  rw [b2_some]
  have hx : x2 = 0 ∨ x2 = 1 := by
    cases R with
    | inl e => exact .inl hm.1
    | inr q => exact .inr hm.1
  have hg : gz x2 = some x2 := by unfold gz; rw [if_pos hx]
  rw [hg, b1_some]
  exact wq_some ⟨hF, hm⟩
def wdG (k : Nat) : Nat := if k = 0 then 2 else if k = 2 then 3 else if k = 3 then 5 else 7
theorem readLineC_ok (hT : okT N ty) (hv : ∀ i, ty i = 256 → vl i ≤ 9999) (ho : o + 1 < 136) (h : STc N ty vl pl M) {i k : Nat} (hk4 : k = 0 ∨ k = 2 ∨ k = 3 ∨ k = 4) (hi : i ≤ N) (h6 : M 136 6 = nI i) (hR : RR o m (wdG k) T M) {nk : Nat} (hk : nk ≤ 6) : Wq (f_X4_readLine (nI k) o (nI nk) M) (PrC N pl o m (wdG k) T rowC M (lineG ty vl k nk m T.1 i)) := by
  unfold f_X4_readLine
  rcases hk4 with rfl | rfl | rfl | rfl
  · rw [if_neg (by decide), if_pos (by decide)]
    exact gz_wrap (readKind_ok hT hv ho h hi h6 hR nk)
  · rw [if_neg (by decide), if_neg (by decide), if_neg (by decide), if_pos (by decide)]
    exact gz_wrap (readFeast_ok hT hv ho h hi h6 hR hk)
  · rw [if_neg (by decide), if_neg (by decide), if_neg (by decide), if_neg (by decide), if_pos (by decide)]
    exact gz_wrap (readWant_ok hT hv ho h hi h6 hR hk)
  · rw [if_pos (by decide)]
    exact gz_wrap (readDish_ok hT hv ho h hi h6 hR hk)
def PrL (pl : Nat → Nat) (o m w : Nat) (M : Mem) (R : Rs (List Rw)) (p : Mem × Int32) : Prop := Fr (isl R) o M p.1 ∧ match R with
  | .inl e => p.2 = 0 ∧ p.1 136 7 = nI e.1 ∧ p.1 136 8 = nI (pl e.2) ∧ ∃ T', RR o m w T' p.1
  | .inr q => p.2 = 1 ∧ RR o m w (tbC q.2) p.1
theorem rows_run (hT : okT N ty) (hv : ∀ i, ty i = 256 → vl i ≤ 9999) (ho : o + 1 < 136) {M0 : Mem} (h0 : STc N ty vl pl M0) {k nk : Nat} (hk4 : k = 0 ∨ k = 2 ∨ k = 3 ∨ k = 4) (hk : nk ≤ 6) : ∀ (f i : Nat) (L : List Rw) (M : Mem) (fuel : Nat), f + L.length = 13 → L.length ≤ mxG k → f < fuel → Fr false o M0 M → i ≤ N → M 136 6 = nI i → RR o (mxG k) (wdG k) (tbC L) M → Wq (lp (fun s => w_X4_read_8 (nI k) o (nI nk) s.1 s.2) fuel (nI L.length, M)) (fun r => PrL pl o (mxG k) (wdG k) M0 (rowsG ty vl k nk f i L) (match r with | .inl m => (m, 0) | .inr m => (m, 1)))
  | f, i, L, M, 0, _, _, hfu, _, _, _, _ => absurd hfu (Nat.not_lt_zero _)
  | 0, i, L, M, fuel + 1, hf, hL, _, _, _, _, _ => by
    have : mxG k ≤ 12 := by unfold mxG; rcases hk4 with rfl | rfl | rfl | rfl <;> decide
    omega
  | f + 1, i, L, M, fuel + 1, hf, hL, hfu, hF, hi, h6, hR => by
    have hmx : mxG k ≤ 12 := by unfold mxG; rcases hk4 with rfl | rfl | rfl | rfl <;> decide
    have hN := hT.1
    have hSt := h0.fr ho hF
    have ht := hT.2.2.2 i
    have e258 := nI_eqc (k := 258) (x := 258) rfl ht (by omega)
    have hae : f_X9_atEnd M = some (if ty i = 258 then 1 else 0) := by
      unfold f_X9_atEnd
      rw [type_ok hN hSt hi h6, b1_some, lt_eq]
      by_cases z : ty i = 258
      · rw [if_pos z, if_pos (e258.2 z)]
      · rw [if_neg z, if_neg (fun y => z (e258.1 y))]
    have h12 : ¬ (12 : Int32) < nI L.length := by
      intro z
      have z : nI 12 < nI L.length := z
      rw [nI_lt_iff (by omega) (by omega)] at z; omega
    unfold rowsG
    by_cases hs : ty i = 258
    · rw [if_pos hs]
      have hb : (fun s : Int32 × Mem => w_X4_read_8 (nI k) o (nI nk) s.1 s.2) (nI L.length, M) = some (.inr (.inr M)) := by
        simp only [w_X4_read_8]
        rw [if_neg h12, hae, b1_some, if_pos hs, if_neg (by decide)]
      rw [lp_end hb]
      exact wq_some ⟨hF, rfl, hR⟩
    · rw [if_neg hs]
      obtain ⟨⟨M7, x8⟩, e1, hFF, hm⟩ := readLineC_ok hT hv ho hSt hk4 hi h6 hR hk
      have hbody : ∀ r, (if x8 = 0 then (some (.inr (.inl M7)) : Option ((Int32 × Mem) ⊕ (Mem ⊕ Mem))) else (some (.inl ((nI L.length + 1), M7)))) = r → (fun s : Int32 × Mem => w_X4_read_8 (nI k) o (nI nk) s.1 s.2) (nI L.length, M) = r := by
        intro r hr
        simp only [w_X4_read_8]
        rw [if_neg h12, hae, b1_some, if_neg hs, if_pos rfl, e1, b2_some]
        exact hr
      have fail : ∀ e : Nat × Nat, Fr true o M M7 → (x8 = 0 ∧ M7 136 7 = nI e.1 ∧ M7 136 8 = nI (pl e.2) ∧ ∃ T', RR o (mxG k) (wdG k) T' M7) → Wq (lp (fun s => w_X4_read_8 (nI k) o (nI nk) s.1 s.2) (fuel + 1) (nI L.length, M)) (fun r => PrL pl o (mxG k) (wdG k) M0 (.inl e) (match r with | .inl m => (m, 0) | .inr m => (m, 1))) := by
        rintro e hFF ⟨z1, z2⟩
        rw [lp_end (hbody _ (if_pos z1))]
        exact wq_some ⟨hF.trans hFF, rfl, z2⟩
      have etb : (tbC L).1 = L.length := rfl
      unfold lineG at hm hFF
      rw [etb] at hm hFF
      by_cases hw : ty i = bwG k
      · rw [if_pos hw] at hm hFF ⊢
        by_cases hfull : L.length = mxG k
        · rw [if_pos hfull] at hm hFF ⊢
          exact fail _ hFF hm
        · rw [if_neg hfull] at hm hFF ⊢
          cases hRw : rowG ty vl k nk i with
          | inl e =>
            rw [hRw] at hm hFF
            rw [bnR_l]
            exact fail _ hFF hm
          | inr q =>
            obtain ⟨j, r⟩ := q
            rw [hRw] at hm hFF
            rw [bnR_r]
            obtain ⟨g1, g2, g3, g4⟩ := hm
            simp only at g1 g2 g3 g4
            have el : (L ++ [r]).length = L.length + 1 := by rw [List.length_append]; rfl
            rw [lp_in (hbody _ (if_neg (by rw [g1]; decide))), nI_inc, ← el]
            exact rows_run hT hv ho h0 hk4 hk f j (L ++ [r]) M7 fuel (by omega) (by omega) (by omega) (hF.trans hFF) g2 g3 (tbC_add g4)
      · rw [if_neg hw] at hm hFF ⊢
        exact fail _ hFF hm
theorem read_ok (hT : okT N ty) (hv : ∀ i, ty i = 256 → vl i ≤ 9999) (ho : o + 1 < 136) (h : STc N ty vl pl M) (h6 : M 136 6 = 0) {k nk : Nat} (hk4 : k = 0 ∨ k = 2 ∨ k = 3 ∨ k = 4) (hk : nk ≤ 6) {T0 : Tb} (hR : RR o (mxG k) (wdG k) T0 M) : Wq (f_X4_read (nI k) o (nI nk) M) (PrL pl o (mxG k) (wdG k) M (rowsG ty vl k nk 13 0 [])) := by
  unfold f_X4_read
  obtain ⟨-, r1, o1⟩ := empty_ok hR
  rw [lt_eq]
  have fr1 : Fr false o M (f_X8_empty o M).1 := Fr.out ho (o1.wide (by omega) (by omega))
  have e136 : (f_X8_empty o M).1 136 = M 136 := o1 136 (by omega)
  obtain ⟨r, e1, hF, hm⟩ := rows_run hT hv ho h hk4 hk 13 0 [] (f_X8_empty o M).1 FU rfl (Nat.zero_le _) (by unfold FU; omega) fr1 (Nat.zero_le _) (by rw [e136]; exact h6) (r1.ext rfl (fun r c hr _ => absurd hr (Nat.not_lt_zero _)))
  have e1 : lp (fun s => w_X4_read_8 (nI k) o (nI nk) s.1 s.2) FU (0, (f_X8_empty o M).1) = some r := e1
  rw [e1, b1_some]
  cases r with
  | inl m => exact wq_some ⟨hF, hm⟩
  | inr m => exact wq_some ⟨hF, hm⟩
end DSC
