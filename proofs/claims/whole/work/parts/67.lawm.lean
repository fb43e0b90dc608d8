/-! ===== PURE PART: the law's text, read by the reference ===== -/
theorem tr1_a : ∀ t, t < 323 → trT 1 t < 200 ∧ (trT 1 t = 2 ↔ t = 256) ∧ ((41 ≤ trT 1 t ∧ trT 1 t ≤ 47) ↔ (300 ≤ t ∧ t ≤ 306)) ∧ ((300 ≤ t ∧ t ≤ 306) → trT 1 t - 40 = t - 299) ∧ (trT 1 t = 142 ↔ t = 42) ∧ (trT 1 t = 147 ↔ t = 47) ∧ (trT 1 t = 143 ↔ t = 43) ∧ (trT 1 t = 145 ↔ t = 45) := by decide +kernel
theorem tr1_b : ∀ t, t < 323 → (trT 1 t = 4 ↔ t = 312) ∧ (trT 1 t = 5 ↔ t = 313) ∧ (trT 1 t = 6 ↔ t = 314) ∧ (trT 1 t = 140 ↔ t = 40) ∧ (trT 1 t = 141 ↔ t = 41) ∧ (trT 1 t = 160 ↔ t = 60) ∧ (trT 1 t = 161 ↔ t = 61) ∧ (trT 1 t = 162 ↔ t = 62) ∧ (trT 1 t = 3 ↔ t = 311) ∧ (trT 1 t = 159 ↔ t = 59) ∧ (trT 1 t = 0 ↔ t = 258) := by decide +kernel
theorem tr1_c : ∀ t, t < 323 → ((20 ≤ trT 1 t ∧ trT 1 t ≤ 23) ↔ (307 ≤ t ∧ t ≤ 310)) ∧ ((307 ≤ t ∧ t ≤ 310) → trT 1 t = t - 287) := by decide +kernel
def SM (Y : Cd) (M : Mem) : Prop := M 155 14 = nI Y.length ∧ ∀ j p, Y[j]? = some p → M 161 (2 * j) = nI p.1 ∧ (p.1 = 0 ∨ p.1 = 26 → M 161 (2 * j + 1) = p.2)
def Fm (M M' : Mem) : Prop := (∀ a, a ≠ 155 → a ≠ 161 → M' a = M a) ∧ ∀ k, k ≠ 14 → (k < 17 ∨ 23 ≤ k) → k ≠ 24 → M' 155 k = M 155 k
theorem Fm.refl (M : Mem) : Fm M M := ⟨fun _ _ _ => rfl, fun _ _ _ _ => rfl⟩
theorem Fm.trans {M M1 M2 : Mem} (h : Fm M M1) (h2 : Fm M1 M2) : Fm M M2 := ⟨fun a b c => (h2.1 a b c).trans (h.1 a b c), fun a b c d => (h2.2 a b c d).trans (h.2 a b c d)⟩
theorem Fn.fm {M M' : Mem} (h : Fn M M') : Fm M M' := ⟨fun a b _ => h.1 a b, fun k _ b c => h.2 k (by omega) (by omega) (by omega) (by omega)⟩
theorem Fm.up {M : Mem} {j : Nat} {x : Int32} (hj : j = 14 ∨ (17 ≤ j ∧ j ≤ 22) ∨ j = 24) : Fm M (up2 M 155 j x) := ⟨fun a b _ => up2_cell _ _ _ b, fun k a b c => up2_slot _ _ _ (by omega)⟩
theorem la_161 : la 161 = some 820 := by decide +kernel
theorem SM.fn {Y : Cd} {M M' : Mem} (h : SM Y M) (hF : Fn M M') : SM Y M' := by
  unfold SM
  rw [hF.2 14 (by omega) (by omega) (by omega) (by omega), hF.1 161 (by omega)]
  exact h
theorem SM.up {Y : Cd} {M : Mem} {j : Nat} {x : Int32} (h : SM Y M) (hj : j ≠ 14) : SM Y (up2 M 155 j x) := by
  unfold SM
  rw [up2_slot _ _ _ (by omega), up2_cell _ _ _ (by omega)]
  exact h
section LWM
variable {B : Nat → Nat} {n N : Nat} {M : Mem}
theorem RSm.up {r k j : Nat} {x : Int32} (h : RSm B n r k M) (hj : j ≠ 12 ∧ (j < 16 ∨ 21 ≤ j)) : RSm B n r k (up2 M 155 j x) := by
  unfold RSm
  rw [up2_slot _ _ _ (by omega), up2_slot _ _ _ (by omega), up2_slot _ _ _ (by omega), up2_slot _ _ _ (by omega), up2_slot _ _ _ (by omega)]
  exact ⟨h.1.up (by omega), h.2⟩
theorem lay_ok {Y : Cd} {k : Nat} {x v v' : Int32} (hx : x = nI k) (hY : SM Y M) (hl : Y.length < 410) (hv : k = 0 ∨ k = 26 → v = v') : Wq (f_X11_lay x v M) (fun M' => SM (Y ++ [(k, v')]) M' ∧ (∀ a, a ≠ 155 → a ≠ 161 → M' a = M a) ∧ ∀ j, j ≠ 14 → M' 155 j = M 155 j) := by
  unfold f_X11_lay
  have e1 : 2 * nI Y.length = nI (2 * Y.length) := nI_mul 2 Y.length
  have e2 : nI (2 * Y.length) + 1 = nI (2 * Y.length + 1) := nI_inc _
  rw [hY.1, e1, wr_nI la_161 (by omega) (by omega), b1_some, up2_cell _ _ _ (by omega), hY.1, e1, e2, wr_nI la_161 (by omega) (by omega), b1_some, lt_eq, up2_cell _ _ _ (by omega), up2_cell _ _ _ (by omega), hY.1, nI_inc]
  refine wq_some ⟨⟨by rw [up2_at, List.length_append]; rfl, ?_⟩, ?_, ?_⟩
  · intro j p hp
    rw [up2_cell _ _ _ (by omega)]
    by_cases e : j = Y.length
    · subst e
      rw [List.getElem?_append_right (Nat.le_refl _), Nat.sub_self] at hp
      have hp : some (k, v') = some p := hp
      cases hp
      refine ⟨?_, fun z => ?_⟩
      · rw [up2_slot _ _ _ (by omega), up2_at]; exact hx
      · rw [up2_at]; exact hv z
    · have hj : j < Y.length := by
        have := (List.getElem?_eq_some_iff.mp hp).1
        rw [List.length_append] at this
        simp only [List.length_cons, List.length_nil] at this
        omega
      rw [List.getElem?_append_left hj] at hp
      rw [up2_slot _ _ _ (by omega), up2_slot _ _ _ (by omega), up2_slot _ _ _ (by omega), up2_slot _ _ _ (by omega)]
      exact hY.2 j p hp
  · intro a h1 h2
    rw [up2_cell _ _ _ h1, up2_cell _ _ _ h2, up2_cell _ _ _ h2]
  · intro j hj
    rw [up2_slot _ _ _ hj, up2_cell _ _ _ (by omega), up2_cell _ _ _ (by omega)]
/-- the tokens end -/
def okN (B : Nat → Nat) (n N : Nat) : Prop := okB B n ∧ N ≤ n ∧ tyT B n N = 258 ∧ ∀ k, k < N → tyT B n k ≠ 258
theorem okN.t (h : okN B n N) : okT N (tyT B n) := ⟨by have := h.1.1; have := h.2.1; omega, h.2.2.1, h.2.2.2, ty_lt h.1⟩
theorem okN.v (h : okN B n N) : ∀ i, tyT B n i = 256 → vlT B n i ≤ 9999 := fun i hi => vl_le h.1 hi
theorem nextm (hN : okN B n N) {r k : Nat} (hr : r < 5) (h : RSm B n r k M) : Wq (f_X11_next0 M) (fun M' => RSm B n r (k + 1) M' ∧ Fn M M') := next0_ok hN.1 h.1 hr h.2.1 h.2.2.1
def PmC (B : Nat → Nat) (n N i : Nat) (Y : Cd) (M : Mem) (R : Rs Cd) (p : Mem × Int32) : Prop := Fm M p.1 ∧ match R with
  | .inl e => p.2 = 0 ∧ p.1 155 21 = nI e.1 ∧ p.1 155 22 = nI (plT B n e.2)
  | .inr q => p.2 = 1 ∧ i < q.1 ∧ q.1 ≤ N ∧ RSm B n 1 q.1 p.1 ∧ SM (Y ++ q.2) p.1 ∧ q.2.length + i ≤ q.1 ∧ p.1 155 24 = M 155 24
theorem bad_ok {M0 : Mem} {r k i0 : Nat} {Y0 : Cd} (h : RSm B n r k M) (hF : Fm M0 M) {x : Int32} {w : Nat} (hx : x = nI w) : Wq (lt (f_X11_bad x M) fun p3 => b1 (gz p3.2) fun x4 => some (p3.1, x4)) (PmC B n N i0 Y0 M0 (.inl (w, k))) := by
  unfold f_X11_bad
  simp only [lt_eq]
  have hg : gz 0 = some 0 := rfl
  rw [hg, b1_some]
  refine wq_some ⟨(hF.trans (Fm.up (by omega))).trans (Fm.up (by omega)), rfl, ?_, ?_⟩
  · try simp only
    rw [up2_slot _ _ _ (by omega), up2_at]; exact hx
  · try simp only
    rw [up2_at, up2_slot _ _ _ (by omega)]; exact h.2.2.2.2.1
theorem pm_b2 {M0 M1 : Mem} {x : Option (Mem × Int32)} {k : Mem → Option (Mem × Int32)} {R : Rs Cd} {f : Nat → Cd → Rs Cd} {i1 i0 : Nat} {Y1 Y0 : Cd} (h : Wq x (PmC B n N i1 Y1 M1 R)) (hF : Fm M0 M1) (hk : ∀ j c M2, i1 < j → j ≤ N → Fm M0 M2 → RSm B n 1 j M2 → SM (Y1 ++ c) M2 → c.length + i1 ≤ j → M2 155 24 = M1 155 24 → Wq (k M2) (PmC B n N i0 Y0 M0 (f j c))) : Wq (b2 x fun M2 x2 => if x2 = 0 then some (M2, 0) else k M2) (PmC B n N i0 Y0 M0 (bnR R f)) := by
  obtain ⟨⟨M2, x2⟩, rfl, hFF, hm⟩ := h
  rw [b2_some]
  cases R with
  | inl e =>
    obtain ⟨h1, h2, h3⟩ := hm
    simp only at h1
    rw [if_pos h1]
    exact wq_some ⟨hF.trans hFF, rfl, h2, h3⟩
  | inr q =>
    obtain ⟨h1, h2, h3, h4, h5, h6, h7⟩ := hm
    simp only at h1
    rw [if_neg (by rw [h1]; decide)]
    exact hk q.1 q.2 M2 h2 h3 (hF.trans hFF) h4 h5 h6 h7
theorem tokq {t v w : Nat} {x : Int32} (hx : x = nI v) (ht : t < 323) (hv : v < 1000) (h : trT 1 t = v ↔ t = w) : nI (trT 1 t) = x ↔ t = w := by
  subst hx
  have := (tr1_a t ht).1
  rw [nI_eq_iff (by omega) (by omega)]
  exact h
theorem unitm_ok (hN : okN B n N) {i : Nat} {Y : Cd} (h : RSm B n 1 i M) (hi : i ≤ N) (hY : SM Y M) (hl : Y.length ≤ i) : Wq (f_X11_unit M) (PmC B n N i Y M (unG (tyT B n) (vlT B n) i)) := by
  have hT := hN.t
  have hN4 := hT.1
  have ht := hT.2.2.2 i
  obtain ⟨t1, t2, t3, t4, _⟩ := tr1_a _ ht
  have e18 := h.2.2.2.1
  have e2 := tokq (v := 2) (x := 2) rfl ht (by omega) t2
  have ein : f_X11_isIn (nI (trT 1 (tyT B n i))) 41 47 = 0 ↔ ¬ (300 ≤ tyT B n i ∧ tyT B n i ≤ 306) := by
    rw [isInm0]
    have a1 : nI (trT 1 (tyT B n i)) < 41 ↔ trT 1 (tyT B n i) < 41 := nI_lt_iff (b := 41) (by omega) (by omega)
    have a2 : (47 : Int32) < nI (trT 1 (tyT B n i)) ↔ 47 < trT 1 (tyT B n i) := nI_lt_iff (a := 47) (by omega) (by omega)
    rw [a1, a2, ← t3]; omega
  unfold f_X11_unit unG
  rw [lt_eq, e18]
  by_cases h256 : tyT B n i = 256
  · have hiN : i < N := in_tok hT hi h256 (by omega)
    have hz : f_X11_isIn (nI (trT 1 (tyT B n i))) 41 47 = 0 := ein.2 (by omega)
    rw [if_pos (.inl (e2.2 h256)), lt_eq, if_pos hz, h.2.2.2.2.2 h256, if_pos h256]
    refine wq_b1 (lay_ok (k := 0) (v' := nI (vlT B n i)) rfl hY (by omega) (fun _ => rfl)) ?_
    rintro M7 ⟨a1, a2, a3⟩
    have h7 : RSm B n 1 i M7 := by
      unfold RSm TPm
      rw [a3 12 (by omega), a3 16 (by omega), a3 17 (by omega), a3 18 (by omega), a3 19 (by omega), a3 20 (by omega), a2 163 (by omega) (by omega)]
      exact h
    refine wq_b1 (nextm hN (by omega) h7) ?_
    rintro M8 ⟨g1, g2⟩
    refine wq_some ⟨Fm.trans ⟨a2, fun k b _ _ => a3 k b⟩ g2.fm, rfl, by simp only; omega, hiN, g1, a1.fn g2, by simp only [List.length_cons, List.length_nil]; omega, ?_⟩
    try simp only
    rw [g2.2 24 (by omega) (by omega) (by omega) (by omega), a3 24 (by omega)]
  · rw [if_neg h256]
    by_cases hw : 300 ≤ tyT B n i ∧ tyT B n i ≤ 306
    · have hiN : i < N := in_tok hT hi rfl (by omega)
      have hz : ¬ f_X11_isIn (nI (trT 1 (tyT B n i))) 41 47 = 0 := fun z => (ein.1 z) hw
      have e40 : nI (trT 1 (tyT B n i)) - 40 = nI (tyT B n i - 299) := by
        have : nI (trT 1 (tyT B n i)) - 40 = nI (trT 1 (tyT B n i) - 40) := nI_sub (b := 40) (by have := t3.2 hw; omega)
        rw [this, t4 hw]
      rw [if_pos (.inr hz), lt_eq, if_neg hz, e40, if_pos hw]
      refine wq_b1 (lay_ok (k := tyT B n i - 299) (v' := 0) rfl hY (by omega) (fun z => by omega)) ?_
      rintro M7 ⟨a1, a2, a3⟩
      have h7 : RSm B n 1 i M7 := by
        unfold RSm TPm
        rw [a3 12 (by omega), a3 16 (by omega), a3 17 (by omega), a3 18 (by omega), a3 19 (by omega), a3 20 (by omega), a2 163 (by omega) (by omega)]
        exact h
      refine wq_b1 (nextm hN (by omega) h7) ?_
      rintro M8 ⟨g1, g2⟩
      refine wq_some ⟨Fm.trans ⟨a2, fun k b _ _ => a3 k b⟩ g2.fm, rfl, by simp only; omega, hiN, g1, a1.fn g2, by simp only [List.length_cons, List.length_nil]; omega, ?_⟩
      try simp only
      rw [g2.2 24 (by omega) (by omega) (by omega) (by omega), a3 24 (by omega)]
    · rw [if_neg (by
        rintro (z | z)
        · exact h256 (e2.1 z)
        · exact z (ein.2 hw)), if_neg hw]
      exact bad_ok h (Fm.refl _) rfl
/-- a step is laid behind what was read -/
theorem layop {Y : Cd} {k i : Nat} {x : Int32} (hx : x = nI k) (h : RSm B n 1 i M) (hY : SM Y M) (hl : Y.length < 410) (hk : k ≠ 0 ∧ k ≠ 26) : Wq (f_X11_lay x 0 M) (fun M' => RSm B n 1 i M' ∧ SM (Y ++ [(k, 0)]) M' ∧ Fm M M' ∧ M' 155 24 = M 155 24) := by
  refine wq_mono (lay_ok (v' := 0) hx hY hl (fun _ => rfl)) ?_
  rintro M7 ⟨a1, a2, a3⟩
  refine ⟨?_, a1, ⟨a2, fun k b _ _ => a3 k b⟩, a3 24 (by omega)⟩
  unfold RSm TPm
  rw [a3 12 (by omega), a3 16 (by omega), a3 17 (by omega), a3 18 (by omega), a3 19 (by omega), a3 20 (by omega), a2 163 (by omega) (by omega)]
  exact h
def prK (q20 : Mem ⊕ Mem ⊕ Mem ⊕ Mem) : Option (Mem × Int32) := match q20 with | .inl u21 => (lt (f_X11_bad 1 u21) fun p22 => b1 (gz p22.2) fun x23 => some (p22.1, x23)) | .inr u29 => (match u29 with | .inl u24 => (lt (f_X11_bad 2 u24) fun p25 => b1 (gz p25.2) fun x26 => some (p25.1, x26)) | .inr u30 => (match u30 with | .inl u27 => (some (u27, 0)) | .inr u28 => (some (u28, 1))))
/-- how far a product goes -/
def PpM (B : Nat → Nat) (n N i0 : Nat) (Y : Cd) (M0 : Mem) (G : Nat → Cd → Rs Cd) (f : Nat) (p : Mem × Int32) : Prop := Fm M0 p.1 ∧ ((p.2 = 0 ∧ ∃ e : Nat × Nat, p.1 155 21 = nI e.1 ∧ p.1 155 22 = nI (plT B n e.2) ∧ ∀ w C, G w C = .inl e) ∨ (p.2 = 1 ∧ ∃ f' i' c', f' ≤ f ∧ N ≤ i' + f' ∧ i0 < i' ∧ i' ≤ N ∧ RSm B n 1 i' p.1 ∧ SM (Y ++ c') p.1 ∧ c'.length + i0 ≤ i' ∧ p.1 155 24 = M0 155 24 ∧ tyT B n i' ≠ 42 ∧ tyT B n i' ≠ 47 ∧ ∀ w C, G w C = flG (tyT B n) (vlT B n) f' i' w (C ++ c')))
theorem prod_run (hN : okN B n N) {M0 : Mem} {i0 : Nat} {Y : Cd} (hY0 : Y.length ≤ i0) {G : Nat → Cd → Rs Cd} {f0 : Nat} : ∀ (f i : Nat) (c : Cd) (M : Mem) (fuel : Nat), f ≤ f0 → N ≤ i + f → f < fuel → Fm M0 M → i0 < i → i ≤ N → RSm B n 1 i M → SM (Y ++ c) M → c.length + i0 ≤ i → M 155 24 = M0 155 24 → (∀ w C, G w C = flG (tyT B n) (vlT B n) f i w (C ++ c)) → Wq (b1 (lp (fun s => w_X11_product_9 s) fuel M) prK) (PpM B n N i0 Y M0 G f0)
  | f, i, c, M, 0, _, _, hfu, _, _, _, _, _, _, _, _ => absurd hfu (Nat.not_lt_zero _)
  | f, i, c, M, fuel + 1, hf0, hNf, hfu, hF, hi0, hi, h, hS, hlen, hd, hG => by
    have hT := hN.t
    have hN4 := hT.1
    have ht := hT.2.2.2 i
    obtain ⟨t1, t2, t3, t4, t42, t47, _⟩ := tr1_a _ ht
    have e18 := h.2.2.2.1
    have e42 := tokq (v := 142) (x := 142) rfl ht (by omega) t42
    have e47 := tokq (v := 147) (x := 147) rfl ht (by omega) t47
    by_cases hp : tyT B n i = 42 ∨ tyT B n i = 47
    · have hiN : i < N := in_tok hT hi rfl (by omega)
      cases f with
      | zero => omega
      | succ f =>
        obtain ⟨M10, n0, n1, n2⟩ := nextm hN (by omega) h
        have hF10 := hF.trans n2.fm
        have s10 := hS.fn n2
        have d10 : M10 155 24 = M0 155 24 := by rw [n2.2 24 (by omega) (by omega) (by omega) (by omega)]; exact hd
        by_cases h42 : tyT B n i = 42
        · obtain ⟨⟨M12, x13⟩, u0, uF, um⟩ := unitm_ok hN n1 hiN s10 (by rw [List.length_append]; omega)
          simp only at uF
          have hbody : ∀ r, (if x13 = 0 then (some (.inr (.inr (.inr (.inl M12)))) : Option (Mem ⊕ (Mem ⊕ Mem ⊕ Mem ⊕ Mem))) else (b1 (f_X11_lay 25 0 M12) fun M15 => some (.inl M15))) = r → (fun s => w_X11_product_9 s) M = r := by
            intro r hr
            simp only [w_X11_product_9]
            rw [e18, if_pos (.inl (e42.2 h42)), lt_eq, n0, b1_some, if_pos (by rw [if_neg (fun z => by rw [e47] at z; omega)]), u0, b2_some]
            exact hr
          have hG2 : ∀ w C, G w C = bnR (unG (tyT B n) (vlT B n) (i + 1)) (fun j u => flG (tyT B n) (vlT B n) f j w (C ++ c ++ u ++ [(25, 0)])) := by
            intro w C
            rw [hG w C]
            show (if tyT B n i = 42 then _ else _) = _
            rw [if_pos h42]
          cases hR : unG (tyT B n) (vlT B n) (i + 1) with
          | inl e =>
            rw [hR] at um
            obtain ⟨z1, z2, z3⟩ := um
            simp only at z1
            rw [lp_end (hbody _ (if_pos z1)), b1_some]
            exact wq_some ⟨hF10.trans uF, .inl ⟨rfl, e, z2, z3, fun w C => by rw [hG2, hR, bnR_l]⟩⟩
          | inr q =>
            obtain ⟨j, u⟩ := q
            rw [hR] at um
            obtain ⟨z1, z2, z3, z4, z5, z6, z7⟩ := um
            simp only at z1 z2 z3 z4 z5 z6 z7
            obtain ⟨M15, l0, l1, l2, l3, l4⟩ := layop (k := 25) (x := 25) rfl z4 z5 (by rw [List.length_append, List.length_append]; omega) (by omega)
            rw [lp_in (hbody _ (by rw [if_neg (by rw [z1]; decide), l0, b1_some]))]
            refine prod_run hN hY0 f j (c ++ u ++ [(25, 0)]) M15 fuel (by omega) (by omega) (by omega) ((hF10.trans uF).trans l3) (by omega) z3 l1 (by rw [← List.append_assoc, ← List.append_assoc]; exact l2) ?_ (by rw [l4, z7]; exact d10) ?_
            · rw [List.length_append, List.length_append]
              simp only [List.length_cons, List.length_nil]
              omega
            · intro w C
              rw [hG2, hR, bnR_r, ← List.append_assoc, ← List.append_assoc]
        · have h47 : tyT B n i = 47 := hp.resolve_left h42
          have hG2 : ∀ w C, G w C = bnR (dvG (tyT B n) (vlT B n) (i + 1)) (fun j u => flG (tyT B n) (vlT B n) f j w (C ++ c ++ u)) := by
            intro w C
            rw [hG w C]
            show (if tyT B n i = 42 then _ else if tyT B n i = 47 then _ else _) = _
            rw [if_neg h42, if_pos h47]
          have ht1 := hT.2.2.2 (i + 1)
          have e2 := tokq (v := 2) (x := 2) rfl ht1 (by omega) (tr1_a _ ht1).2.1
          have hbody : ∀ r, (if nI (trT 1 (tyT B n (i + 1))) = 2 then (if (M10 155 20) = 0 then (some (.inr (.inr (.inl M10))) : Option (Mem ⊕ (Mem ⊕ Mem ⊕ Mem ⊕ Mem))) else (b1 (f_X11_next0 M10) fun M18 => b1 (f_X11_lay 26 (M10 155 20) M18) fun M19 => some (.inl M19))) else (some (.inr (.inl M10)))) = r → (fun s => w_X11_product_9 s) M = r := by
            intro r hr
            simp only [w_X11_product_9]
            rw [e18, if_pos (.inr (e47.2 h47)), lt_eq, n0, b1_some, if_neg (by rw [if_pos (e47.2 h47)]; decide), n1.2.2.2.1]
            exact hr
          unfold dvG at hG2
          by_cases h256 : tyT B n (i + 1) = 256
          · have hi1 : i + 1 < N := in_tok hT hiN h256 (by omega)
            have hv := hN.v _ h256
            have e20 := n1.2.2.2.2.2 h256
            rw [if_pos h256] at hG2
            by_cases hz : vlT B n (i + 1) = 0
            · rw [if_pos hz] at hG2
              rw [lp_end (hbody _ (by rw [if_pos (e2.2 h256), if_pos (by rw [e20, hz]; rfl)])), b1_some]
              obtain ⟨p, b0, bF, b1', b2', b3'⟩ := bad_ok (N := N) (i0 := i0) (Y0 := Y) n1 hF10 (x := 2) (w := 2) rfl
              exact wq_eq b0 ⟨bF, .inl ⟨b1', (2, i + 1), b2', b3', fun w C => by rw [hG2, bnR_l]⟩⟩
            · rw [if_neg hz] at hG2
              obtain ⟨M18, m0, m1, m2⟩ := nextm hN (by omega) n1
              obtain ⟨M19, l0, l1, l2, l3⟩ := lay_ok (k := 26) (x := 26) (v := M10 155 20) (v' := nI (vlT B n (i + 1))) rfl (s10.fn m2) (by rw [List.length_append]; omega) (fun _ => e20)
              rw [lp_in (hbody _ (by
                rw [if_pos (e2.2 h256), if_neg (by
                  rw [e20]
                  intro z
                  have z : nI (vlT B n (i + 1)) = nI 0 := z
                  rw [nI_eq_iff (by omega) (by omega)] at z
                  exact hz z), m0, b1_some, l0, b1_some]))]
              have r19 : RSm B n 1 (i + 1 + 1) M19 := by
                unfold RSm TPm
                rw [l3 12 (by omega), l3 16 (by omega), l3 17 (by omega), l3 18 (by omega), l3 19 (by omega), l3 20 (by omega), l2 163 (by omega) (by omega)]
                exact m1
              refine prod_run hN hY0 f (i + 1 + 1) (c ++ [(26, nI (vlT B n (i + 1)))]) M19 fuel (by omega) (by omega) (by omega) ((hF10.trans m2.fm).trans ⟨l2, fun k b _ _ => l3 k b⟩) (by omega) hi1 r19 (by rw [← List.append_assoc]; exact l1) ?_ ?_ ?_
              · rw [List.length_append]
                simp only [List.length_cons, List.length_nil]
                omega
              · rw [l3 24 (by omega), m2.2 24 (by omega) (by omega) (by omega) (by omega)]; exact d10
              · intro w C
                rw [hG2, bnR_r, ← List.append_assoc]
          · rw [if_neg h256] at hG2
            rw [lp_end (hbody _ (by rw [if_neg (fun z => h256 (e2.1 z))])), b1_some]
            obtain ⟨p, b0, bF, b1', b2', b3'⟩ := bad_ok (N := N) (i0 := i0) (Y0 := Y) n1 hF10 (x := 1) (w := 1) rfl
            exact wq_eq b0 ⟨bF, .inl ⟨b1', (1, i + 1), b2', b3', fun w C => by rw [hG2, bnR_l]⟩⟩
    · have hb : (fun s => w_X11_product_9 s) M = some (.inr (.inr (.inr (.inr M)))) := by
        simp only [w_X11_product_9]
        rw [e18, if_neg (by rw [e42, e47]; exact hp)]
      rw [lp_end hb, b1_some]
      exact wq_some ⟨hF, .inr ⟨rfl, f, i, c, hf0, hNf, hi0, hi, h, hS, hlen, hd, fun z => hp (.inl z), fun z => hp (.inr z), hG⟩⟩
theorem productm_ok (hN : okN B n N) {i f : Nat} {Y : Cd} (h : RSm B n 1 i M) (hi : i ≤ N) (hY : SM Y M) (hl : Y.length ≤ i) (hf : N ≤ i + f) (hf2 : f < 1000) : Wq (f_X11_product M) (PpM B n N i Y M (fun w C => bnR (unG (tyT B n) (vlT B n) i) (fun j u => flG (tyT B n) (vlT B n) f j w (C ++ u))) f) := by
  unfold f_X11_product
  obtain ⟨⟨M1, x2⟩, u0, uF, um⟩ := unitm_ok hN h hi hY hl
  rw [u0, b2_some]
  cases hR : unG (tyT B n) (vlT B n) i with
  | inl e =>
    rw [hR] at um
    obtain ⟨z1, z2, z3⟩ := um
    simp only at z1
    rw [if_pos z1]
    exact wq_some ⟨uF, .inl ⟨rfl, e, z2, z3, fun w C => rfl⟩⟩
  | inr q =>
    obtain ⟨j, u⟩ := q
    rw [hR] at um
    obtain ⟨z1, z2, z3, z4, z5, z6, z7⟩ := um
    simp only at z1 z2 z3 z4 z5 z6 z7
    rw [if_neg (by rw [z1]; decide)]
    exact prod_run hN hl f j u M1 FU (Nat.le_refl _) (by omega) (by unfold FU; omega) uF z2 z3 z4 z5 z6 z7 (fun w C => by rw [bnR_r])
theorem fl_wait {ty vl : Nat → Nat} {f i w : Nat} {C : Cd} (h1 : ty i ≠ 42) (h2 : ty i ≠ 47) : flG ty vl f i w C = flG ty vl f i 0 (C ++ waitC w) := by
  have e0 : waitC 0 = [] := rfl
  cases f with
  | zero =>
    show (Sum.inr (i, C ++ waitC w) : Rs Cd) = .inr (i, C ++ waitC w ++ waitC 0)
    rw [e0, List.append_nil]
  | succ f =>
    unfold flG
    rw [if_neg h1, if_neg h2, if_neg h1, if_neg h2, e0, List.append_nil]
def suK (q15 : Mem ⊕ Mem) : Option (Mem × Int32) := match q15 with | .inl u16 => (some (u16, 0)) | .inr u17 => (some (u17, 1))
theorem sum_run (hN : okN B n N) {M0 : Mem} {i0 : Nat} {Y : Cd} (hY0 : Y.length ≤ i0) : ∀ (m f i : Nat) (C : Cd) (M : Mem) (fuel : Nat), f ≤ m → f < 1000 → N ≤ i + f → m < fuel → Fm M0 M → i0 < i → i ≤ N → RSm B n 1 i M → SM (Y ++ C) M → C.length + i0 ≤ i → M 155 24 = M0 155 24 → tyT B n i ≠ 42 → tyT B n i ≠ 47 → Wq (b1 (lp (fun s => w_X11_sumUp_9 s) fuel M) suK) (PmC B n N i0 Y M0 (flG (tyT B n) (vlT B n) f i 0 C))
  | m, f, i, C, M, 0, _, _, _, hfu, _, _, _, _, _, _, _, _, _ => absurd hfu (Nat.not_lt_zero _)
  | m, f, i, C, M, fuel + 1, hfm, hf1, hNf, hfu, hF, hi0, hi, h, hS, hlen, hd, n42, n47 => by
    have hT := hN.t
    have hN4 := hT.1
    have ht := hT.2.2.2 i
    obtain ⟨t1, t2, t3, t4, t42, t47, t43, t45⟩ := tr1_a _ ht
    have e18 := h.2.2.2.1
    have e43 := tokq (v := 143) (x := 143) rfl ht (by omega) t43
    have e45 := tokq (v := 145) (x := 145) rfl ht (by omega) t45
    by_cases hp : tyT B n i = 43 ∨ tyT B n i = 45
    · have hiN : i < N := in_tok hT hi rfl (by omega)
      cases f with
      | zero => omega
      | succ f =>
        cases m with
        | zero => omega
        | succ m =>
          obtain ⟨M10, n0, n1, n2⟩ := nextm hN (by omega) h
          have hF10 := hF.trans n2.fm
          have s10 := hS.fn n2
          have d10 : M10 155 24 = M0 155 24 := by rw [n2.2 24 (by omega) (by omega) (by omega) (by omega)]; exact hd
          have hk : (if tyT B n i = 43 then 23 else 24) = 23 ∨ (if tyT B n i = 43 then 23 else 24) = 24 := by
            by_cases z : tyT B n i = 43
            · rw [if_pos z]; exact .inl rfl
            · rw [if_neg z]; exact .inr rfl
          have hx9 : (if nI (trT 1 (tyT B n i)) = 143 then (23 : Int32) else 24) = nI (if tyT B n i = 43 then 23 else 24) := by
            by_cases z : tyT B n i = 43
            · rw [if_pos z, if_pos (e43.2 z)]; rfl
            · rw [if_neg z, if_neg (fun y => z (e43.1 y))]; rfl
          obtain ⟨⟨M11, x12⟩, u0, uF, um⟩ := productm_ok (f := f) hN n1 hiN s10 (by rw [List.length_append]; omega) (by omega) (by omega)
          simp only at uF
          have hbody : ∀ r, (if x12 = 0 then (some (.inr (.inl M11)) : Option (Mem ⊕ (Mem ⊕ Mem))) else (b1 (f_X11_lay (nI (if tyT B n i = 43 then 23 else 24)) 0 M11) fun M14 => some (.inl M14))) = r → (fun s => w_X11_sumUp_9 s) M = r := by
            intro r hr
            simp only [w_X11_sumUp_9]
            rw [e18, if_pos (by rw [e43, e45]; exact hp), lt_eq, n0, b1_some, u0, b2_some, hx9]
            exact hr
          have hG : flG (tyT B n) (vlT B n) (f + 1) i 0 C = bnR (unG (tyT B n) (vlT B n) (i + 1)) (fun j u => flG (tyT B n) (vlT B n) f j (if tyT B n i = 43 then 23 else 24) (C ++ u)) := by
            show (if tyT B n i = 42 then _ else if tyT B n i = 47 then _ else if tyT B n i = 43 ∨ tyT B n i = 45 then _ else _) = _
            rw [if_neg n42, if_neg n47, if_pos hp]
            have e0 : waitC 0 = [] := rfl
            rw [e0, List.append_nil]
          rw [hG]
          rcases um with ⟨z1, e, z2, z3, z4⟩ | ⟨z1, f', i', c', y1, y2, y3, y4, y5, y6, y7, y8, y9, y10, y11⟩
          · simp only at z1 z4
            rw [lp_end (hbody _ (if_pos z1)), b1_some, z4 (if tyT B n i = 43 then 23 else 24) C]
            exact wq_some ⟨hF10.trans uF, rfl, z2, z3⟩
          · simp only at z1 y5 y6 y8 y11
            obtain ⟨M14, l0, l1, l2, l3, l4⟩ := layop (k := if tyT B n i = 43 then 23 else 24) rfl y5 y6 (by rw [List.length_append, List.length_append]; omega) (by omega)
            have ew : waitC (if tyT B n i = 43 then 23 else 24) = [((if tyT B n i = 43 then 23 else 24), 0)] := by
              unfold waitC
              rw [if_neg (by omega)]
            rw [lp_in (hbody _ (by rw [if_neg (by rw [z1]; decide), l0, b1_some])), y11 (if tyT B n i = 43 then 23 else 24) C, fl_wait y9 y10, ew]
            refine sum_run hN hY0 m f' i' (C ++ c' ++ [((if tyT B n i = 43 then 23 else 24), 0)]) M14 fuel (by omega) (by omega) y2 (by omega) ((hF10.trans uF).trans l3) (by omega) y4 l1 (by rw [← List.append_assoc, ← List.append_assoc]; exact l2) ?_ (by rw [l4, y8]; exact d10) y9 y10
            rw [List.length_append, List.length_append]
            simp only [List.length_cons, List.length_nil]
            omega
    · have hb : (fun s => w_X11_sumUp_9 s) M = some (.inr (.inr M)) := by
        simp only [w_X11_sumUp_9]
        rw [e18, if_neg (by rw [e43, e45]; exact hp)]
      have hG : flG (tyT B n) (vlT B n) f i 0 C = .inr (i, C) := by
        have e0 : waitC 0 = [] := rfl
        cases f with
        | zero =>
          show (Sum.inr (i, C ++ waitC 0) : Rs Cd) = _
          rw [e0, List.append_nil]
        | succ f =>
          unfold flG
          rw [if_neg n42, if_neg n47, if_neg hp, e0, List.append_nil]
      rw [lp_end hb, b1_some, hG]
      exact wq_some ⟨hF, rfl, hi0, hi, h, hS, hlen, hd⟩
theorem sumUp_ok (hN : okN B n N) {i : Nat} {Y : Cd} (h : RSm B n 1 i M) (hi : i ≤ N) (hY : SM Y M) (hl : Y.length ≤ i) : Wq (f_X11_sumUp M) (PmC B n N i Y M (smG (tyT B n) (vlT B n) i)) := by
  have hN4 := hN.t.1
  unfold f_X11_sumUp
  obtain ⟨⟨M1, x2⟩, u0, uF, um⟩ := productm_ok (f := 400) hN h hi hY hl (by omega) (by omega)
  rw [u0, b2_some]
  have hG : smG (tyT B n) (vlT B n) i = bnR (unG (tyT B n) (vlT B n) i) (fun j u => flG (tyT B n) (vlT B n) 400 j 0 ([] ++ u)) := rfl
  rw [hG]
  rcases um with ⟨z1, e, z2, z3, z4⟩ | ⟨z1, f', i', c', y1, y2, y3, y4, y5, y6, y7, y8, y9, y10, y11⟩
  · simp only at z1 z4
    rw [if_pos z1, z4 0 []]
    exact wq_some ⟨uF, rfl, z2, z3⟩
  · simp only at z1 y11
    rw [if_neg (by rw [z1]; decide), y11 0 [], List.nil_append]
    exact sum_run hN hl f' f' i' c' M1 FU (Nat.le_refl _) (by omega) y2 (by unfold FU; omega) uF y3 y4 y5 y6 y7 y8 y9 y10
end LWM
