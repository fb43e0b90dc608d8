/-! ===== PURE PART: what is read becomes what is told ===== -/
def tbM (k : Nat) (L : List Rw) (M : Mem) : Tb := (L.length, fun r j => M 162 (wmG k * r + j))
theorem puts_ok {A : AS} {M : Mem} {rw' t w : Nat} {a1 a2 a3 : Int32} (ht : t < 10) (h : RMm 156 A M) (hL : A.2.2.length ≤ 16) (h15 : M 155 15 = nI rw') (hr : rw' ≤ tmx t) (hw : w = twd t) (hx : tmx t * twd t ≤ 120) (e1 : a1 = nI (tcn t)) (e2 : a2 = nI (tbs t)) (e3 : a3 = nI w) : Wq (f_X11_puts a1 a2 a3 M) (fun p => p.2 = nI rw' ∧ RMm 156 (setT A t (rw', fun r j => M 162 (w * r + j))) p.1 ∧ Out 156 157 M p.1) := by
  subst e1
  subst e2
  subst e3
  have hb : tbs t + tmx t * twd t ≤ 970 ∧ tcn t < 970 := by rcases lt10 ht with rfl | rfl | rfl | rfl | rfl | rfl | rfl | rfl | rfl | rfl <;> simp [tbs, tmx, twd, tcn]
  have hwr : w * rw' ≤ tmx t * twd t := by rw [hw, Nat.mul_comm]; exact Nat.mul_le_mul_right _ hr
  have hno : ∀ j, j < tmx t * twd t → tbs t + j ≠ tcn t := by
    intro j hj
    rcases lt10 ht with rfl | rfl | rfl | rfl | rfl | rfl | rfl | rfl | rfl | rfl <;> simp [tbs, tmx, twd, tcn] at hj ⊢ <;> omega
  unfold f_X11_puts
  rw [h15, wr_nI la_156 (by omega) (by omega), b1_some]
  refine wq_b1 (P := fun M' => (∀ j, j < w * rw' → M' 156 (tbs t + j) = M 162 j) ∧ (∀ x, (∀ j, j < w * rw' → x ≠ tbs t + j) → M' 156 x = up2 M 156 (tcn t) (nI rw') 156 x) ∧ Out 156 157 M M') (lp_to (fun k s => s.1 = nI k ∧ (∀ j, j < k → s.2 156 (tbs t + j) = M 162 j) ∧ (∀ x, (∀ j, j < k → x ≠ tbs t + j) → s.2 156 x = up2 M 156 (tcn t) (nI rw') 156 x) ∧ Out 156 157 M s.2) (w * rw') ?_ ?_ _ ⟨rfl, fun i hi => absurd hi (Nat.not_lt_zero _), fun x _ => rfl, (Out.refl _ _ _).up (by omega) (by omega)⟩ (by omega)) ?_
  · rintro k ⟨i, Q⟩ hk ⟨hi, g1, g2, gO⟩
    simp only at hi g1 g2 gO
    subst hi
    have e155 : Q 155 = M 155 := gO 155 (by omega)
    have e162 : Q 162 = M 162 := gO 162 (by omega)
    unfold w_X11_puts_13
    try simp only
    rw [e155, h15, nI_mul, if_neg (by rw [nI_le_iff (by omega) (by omega)]; omega), nI_add, rd_nI la_162 (by omega) (by omega), b1_some, wr_nI la_156 (by omega) (by omega), b1_some, nI_inc, e162]
    refine ⟨_, rfl, rfl, ?_, ?_, gO.up (by omega) (by omega)⟩
    · intro j hj
      try simp only
      by_cases e : j = k
      · rw [e, up2_at]
      · rw [up2_slot _ _ _ (by omega)]; exact g1 j (by omega)
    · intro x hx'
      try simp only
      rw [up2_slot _ _ _ (hx' k (by omega))]
      exact g2 x (fun j hj => hx' j (by omega))
  · rintro ⟨i, Q⟩ ⟨hi, g1, g2, gO⟩
    simp only at hi g1 g2 gO
    subst hi
    have e155 : Q 155 = M 155 := gO 155 (by omega)
    unfold w_X11_puts_13
    try simp only
    rw [e155, h15, nI_mul, if_pos (by rw [nI_le_iff (by omega) (by omega)]; omega)]
    exact ⟨_, rfl, g1, g2, gO⟩
  · rintro Q ⟨g1, g2, gO⟩
    have e155 : Q 155 = M 155 := gO 155 (by omega)
    refine wq_some ⟨by simp only; rw [e155]; exact h15, ?_, gO⟩
    refine h.putT hL ht ⟨?_, hr, ?_⟩ ?_
    · show Q 156 (tcn t) = nI rw'
      rw [g2 (tcn t) (fun j hj z => hno j (by omega) z.symm), up2_at]
    · intro r j hr2 hj
      show Q 156 (tbs t + (r * twd t + j)) = M 162 (w * r + j)
      have hlt := row_lt (m := rw') hr2 hj (Nat.le_refl _)
      rw [hw, Nat.mul_comm (twd t) r]
      exact g1 _ (by rw [hw, Nat.mul_comm (twd t) rw']; exact hlt)
    · intro j hj
      show Q 156 j = M 156 j
      rw [g2 j (fun i hi z => hj (.inr ⟨by omega, by omega⟩)), up2_slot _ _ _ (fun z => hj (.inl z))]
/-! the two tables are one -/
section TWO
variable {k nk : Nat} {L : List Rw} {M Mx : Mem} {o : Nat}
theorem ab_len (hk : k = 0 ∨ k = 2 ∨ k = 3) {q : Rw} (h : rowAb k nk q) : q.1.length = wmG k ∧ q.2 = [] := by
  unfold rowAb at h
  rcases hk with rfl | rfl | rfl
  · rw [if_pos rfl] at h
    obtain ⟨a, b, rfl, _⟩ := h
    exact ⟨rfl, rfl⟩
  · rw [if_neg (by decide), if_pos rfl] at h
    obtain ⟨a, b, c, rfl, _⟩ := h
    exact ⟨rfl, rfl⟩
  · rw [if_neg (by decide), if_neg (by decide), if_pos rfl] at h
    obtain ⟨a, b, c, d, rfl, _⟩ := h
    exact ⟨rfl, rfl⟩
theorem tb_at (hk : k = 0 ∨ k = 2 ∨ k = 3) (hF : FRm k L M) {r c : Nat} (hr : r < L.length) (hc : c < wmG k) : M 162 (wmG k * r + c) = (L.getD r ([], [])).1.getD c 0 := by
  have h := hF.2 r hr
  unfold rowOK at h
  rw [if_neg (by omega)] at h
  exact h.2 c (by omega)
theorem tb_row (hk : k = 0 ∨ k = 2 ∨ k = 3) (hF : FRm k L M) (hA : ∀ r, r < L.length → rowAb k nk (L.getD r ([], []))) {r c : Nat} (hr : r < L.length) (hc : c < wmG k) : M 162 (wmG k * r + c) = rowC (L.getD r ([], [])) c := by
  rw [tb_at hk hF hr hc]
  unfold rowC
  rw [if_pos (by rw [(ab_len hk (hA r hr)).1]; exact hc)]
theorem tb_same (hk : k = 0 ∨ k = 2 ∨ k = 3) (hF : FRm k L M) (hA : ∀ r, r < L.length → rowAb k nk (L.getD r ([], []))) {m w : Nat} (hw : w = wmG k) (h : RR o m w (tbC L) Mx) : RR o m w (tbM k L M) Mx := by
  refine h.ext rfl (fun r c hr hc => ?_)
  exact tb_row hk hF hA hr (by omega)
theorem tb_want (hF : FRm 3 L M) (hA : ∀ r, r < L.length → rowAb 3 nk (L.getD r ([], []))) (hl : L.length ≤ 12) (h : RR o 12 5 (tbC L) Mx) : RR o 12 5 (wantsC 0 (tbM 3 L M)) Mx := by
  refine h.ext rfl (fun r c hr hc => ?_)
  have hr : r < L.length := hr
  show (if c = 4 then f_X10_isIn 0 (nI r) else M 162 (wmG 3 * r + c)) = rowC (L.getD r ([], [])) c
  by_cases e : c = 4
  · rw [if_pos e]
    have h2 := ab_len (.inr (.inr rfl)) (hA r hr)
    have : f_X10_isIn (nI 0) (nI r) = 0 := by rw [isIn_nI (by omega) (by omega)]; simp
    have this : f_X10_isIn 0 (nI r) = 0 := this
    rw [this]
    unfold rowC
    rw [if_neg (by rw [h2.1, e]; decide), h2.2]
    rfl
  · rw [if_neg e]
    exact tb_row (.inr (.inr rfl)) hF hA hr (by show c < 4; omega)
theorem tb_dish (hF : FRm 4 L M) (hA : ∀ r, r < L.length → rowAb 4 nk (L.getD r ([], []))) (hk6 : nk ≤ 6) (h : RR o 12 7 (tbC L) Mx) : RR o 12 7 (dishC (tbM 4 L M)) Mx := by
  refine h.ext rfl (fun r c hr hc => ?_)
  have hr : r < L.length := hr
  have hq := hA r hr
  have hw := hF.2 r hr
  have e10 : wmG 4 = 10 := rfl
  unfold rowAb at hq
  rw [if_neg (by decide), if_neg (by decide), if_neg (by decide)] at hq
  unfold rowOK at hw
  rw [if_pos rfl] at hw
  obtain ⟨v, ps, eq, v1, v2, p1, p2, p3⟩ := hq
  rw [eq] at hw
  obtain ⟨w1, w2, w3, w4⟩ := hw
  simp only at w1 w2 w3 w4
  show (if c = 0 then M 162 (wmG 4 * r + 0) else needD (tbM 4 L M) r (c - 1)) = rowC (L.getD r ([], [])) c
  rw [eq]
  unfold rowC
  simp only
  by_cases e : c = 0
  · rw [if_pos e, e, if_pos (show 0 < [nI v].length from Nat.zero_lt_one)]
    exact w1
  · rw [if_neg e, if_neg (by simp only [List.length_cons, List.length_nil]; omega)]
    unfold needD
    have em : ((tbM 4 L M).2 r 1).toInt.toNat = ps.length := by
      show (M 162 (wmG 4 * r + 1)).toInt.toNat = _
      rw [w2, nI_toInt (by omega)]
      rfl
    rw [em]
    have key : ∀ m, m ≤ ps.length → needGo (tbM 4 L M) r (c - 1) m = ndI ps (c - 1) m := by
      intro m
      induction m with
      | zero => intro _; rfl
      | succ m ih =>
        intro hm
        have h1 := w4 m (by omega)
        have h2 := (p2 m (by omega)).1
        show (if M 162 (wmG 4 * r + (2 + 2 * m)) = nI (c - 1) then M 162 (wmG 4 * r + (3 + 2 * m)) else needGo (tbM 4 L M) r (c - 1) m) = if (ps.getD m (0, 0)).1 = c - 1 then nI (ps.getD m (0, 0)).2 else ndI ps (c - 1) m
        rw [← Nat.add_assoc, ← Nat.add_assoc, h1.1, h1.2, ih (by omega)]
        by_cases z : (ps.getD m (0, 0)).1 = c - 1
        · rw [if_pos z, if_pos (by rw [z])]
        · rw [if_neg z, if_neg (by rw [nI_eq_iff (by omega) (by omega)]; exact z)]
    exact key _ (Nat.le_refl _)
theorem ok_kinds (hF : FRm 0 L M) (hA : ∀ r, r < L.length → rowAb 0 nk (L.getD r ([], []))) : okKd (tbM 0 L M) := by
  intro r hr
  have hr : r < L.length := hr
  have hq := hA r hr
  unfold rowAb at hq
  rw [if_pos rfl] at hq
  obtain ⟨a, b, eq, a1, a2, b1, b2⟩ := hq
  have t0 := tb_at (.inl rfl) hF hr (c := 0) (by decide)
  have t1 := tb_at (.inl rfl) hF hr (c := 1) (by decide)
  rw [eq] at t0 t1
  exact ⟨a, b, a1, a2, b1, b2, t0, t1⟩
theorem ok_feasts (hF : FRm 2 L M) (hA : ∀ r, r < L.length → rowAb 2 nk (L.getD r ([], []))) : okFea nk (tbM 2 L M) := by
  intro r hr
  have hr : r < L.length := hr
  have hq := hA r hr
  unfold rowAb at hq
  rw [if_neg (by decide), if_pos rfl] at hq
  obtain ⟨d, kd, g, eq, h1⟩ := hq
  have t1 := tb_at (.inr (.inl rfl)) hF hr (c := 1) (by decide)
  rw [eq] at t1
  exact ⟨kd, h1, t1⟩
theorem ok_wants (hF : FRm 3 L M) (hA : ∀ r, r < L.length → rowAb 3 nk (L.getD r ([], []))) : okWan nk (tbM 3 L M) := by
  intro r hr
  have hr : r < L.length := hr
  have hq := hA r hr
  unfold rowAb at hq
  rw [if_neg (by decide), if_neg (by decide), if_pos rfl] at hq
  obtain ⟨kd, s, b, p, eq, h1, h2, h3⟩ := hq
  have t0 := tb_at (.inr (.inr rfl)) hF hr (c := 0) (by decide)
  have t1 := tb_at (.inr (.inr rfl)) hF hr (c := 1) (by decide)
  rw [eq] at t0 t1
  exact ⟨kd, s, h1, h2, h3, t0, t1⟩
theorem ok_dishes (hF : FRm 4 L M) (hA : ∀ r, r < L.length → rowAb 4 nk (L.getD r ([], []))) (hk6 : nk ≤ 6) : okDsh nk (tbM 4 L M) := by
  intro r hr
  have hr : r < L.length := hr
  have hq := hA r hr
  have hw := hF.2 r hr
  unfold rowAb at hq
  rw [if_neg (by decide), if_neg (by decide), if_neg (by decide)] at hq
  unfold rowOK at hw
  rw [if_pos rfl] at hw
  obtain ⟨v, ps, eq, v1, v2, p1, p2, p3⟩ := hq
  rw [eq] at hw
  obtain ⟨w1, w2, w3, w4⟩ := hw
  simp only at w1 w2 w3 w4
  refine ⟨ps.length, v, p1, v1, v2, w1, w2, ?_, ?_⟩
  · intro j hj
    have h1 := w4 j hj
    have h2 := p2 j hj
    refine ⟨_, _, h2.1, h2.2.1, h2.2.2, ?_, ?_⟩
    · show M 162 (wmG 4 * r + (2 + 2 * j)) = _
      rw [← Nat.add_assoc]; exact h1.1
    · show M 162 (wmG 4 * r + (3 + 2 * j)) = _
      rw [← Nat.add_assoc]; exact h1.2
  · intro j j' hj hj'
    have h1 := (w4 j (by omega)).1
    have h2 := (w4 j' hj').1
    have b1' := (p2 j (by omega)).1
    have b2' := (p2 j' hj').1
    show ¬ M 162 (wmG 4 * r + (2 + 2 * j)) = M 162 (wmG 4 * r + (2 + 2 * j'))
    rw [← Nat.add_assoc, ← Nat.add_assoc, h1, h2, nI_eq_iff (by omega) (by omega)]
    exact p3 j j' hj hj'
end TWO
