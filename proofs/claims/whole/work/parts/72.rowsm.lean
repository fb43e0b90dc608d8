/-! ===== PURE PART: the texts that are lists, read by the reference ===== -/
theorem trA : ∀ r, r < 5 → ∀ t, t < 323 → trT r t < 200 ∧ (trT r t = 2 ↔ t = 256) ∧ (trT r t = 0 ↔ t = 258) ∧ (trT r t = 159 ↔ t = 59) := by decide +kernel
theorem tr0 : ∀ t, t < 323 → (trT 0 t = 7 ↔ t = 300) ∧ (trT 0 t = 8 ↔ t = 315) := by decide +kernel
theorem tr2 : ∀ t, t < 323 → (trT 2 t = 9 ↔ t = 316) ∧ (trT 2 t = 10 ↔ t = 317) ∧ (trT 2 t = 11 ↔ t = 318) := by decide +kernel
theorem tr3 : ∀ t, t < 323 → (trT 3 t = 12 ↔ t = 319) ∧ (trT 3 t = 13 ↔ t = 320) ∧ (trT 3 t = 14 ↔ t = 321) := by decide +kernel
theorem tr4 : ∀ t, t < 323 → (trT 4 t = 15 ↔ t = 322) := by decide +kernel
theorem la_162 : la 162 = some 120 := by decide +kernel
theorem tokr {r t v w : Nat} {x : Int32} (hx : x = nI v) (hr : r < 5) (ht : t < 323) (hv : v < 1000) (h : trT r t = v ↔ t = w) : nI (trT r t) = x ↔ t = w := by
  subst hx
  have := (trA r hr t ht).1
  rw [nI_eq_iff (by omega) (by omega)]
  exact h
def preOK (b : Nat) (c : List Int32) (M : Mem) : Prop := ∀ j, j < c.length → M 162 (b + j) = c.getD j 0
def Fw2 (b : Nat) (M M' : Mem) : Prop := (∀ a, a ≠ 155 → a ≠ 162 → M' a = M a) ∧ (∀ k, (k < 17 ∨ 23 ≤ k) → M' 155 k = M 155 k) ∧ ∀ j, j < b → M' 162 j = M 162 j
theorem Fw2.refl (b : Nat) (M : Mem) : Fw2 b M M := ⟨fun _ _ _ => rfl, fun _ _ => rfl, fun _ _ => rfl⟩
theorem Fw2.trans {b : Nat} {M M1 M2 : Mem} (h : Fw2 b M M1) (h2 : Fw2 b M1 M2) : Fw2 b M M2 := ⟨fun a c d => (h2.1 a c d).trans (h.1 a c d), fun a c => (h2.2.1 a c).trans (h.2.1 a c), fun a c => (h2.2.2 a c).trans (h.2.2 a c)⟩
theorem Fn.fw2 {b : Nat} {M M' : Mem} (h : Fn M M') : Fw2 b M M' := ⟨fun a c _ => h.1 a c, fun k c => h.2 k (by omega) (by omega) (by omega) (by omega), fun j _ => by rw [h.1 162 (by omega)]⟩
theorem Fw2.w {b j : Nat} {M : Mem} {x : Int32} (hj : b ≤ j) : Fw2 b M (up2 M 162 j x) := ⟨fun a _ c => up2_cell _ _ _ c, fun k _ => by rw [up2_cell _ _ _ (by omega)], fun i hi => up2_slot _ _ _ (by omega)⟩
section RWM
variable {B : Nat → Nat} {n N : Nat} {M : Mem}
theorem RSm.w2 {r k j : Nat} {x : Int32} (h : RSm B n r k M) : RSm B n r k (up2 M 162 j x) := by
  unfold RSm TPm
  rw [up2_cell _ _ _ (by omega), up2_cell _ _ _ (by omega)]
  exact h
def PwC {α : Type} (B : Nat → Nat) (n N r b : Nat) (ok : α → Mem → Prop) (M : Mem) (R : Rs α) (p : Mem × Int32) : Prop := Fw2 b M p.1 ∧ match R with
  | .inl e => p.2 = 0 ∧ p.1 155 21 = nI e.1 ∧ p.1 155 22 = nI (plT B n e.2)
  | .inr q => p.2 = 1 ∧ q.1 ≤ N ∧ RSm B n r q.1 p.1 ∧ ok q.2 p.1
theorem pw_bad {α : Type} {ok : α → Mem → Prop} {M0 : Mem} {r k b : Nat} (h : RSm B n r k M) (hF : Fw2 b M0 M) {x : Int32} {w : Nat} (hx : x = nI w) : Wq (lt (f_X11_bad x M) fun p3 => b1 (gz p3.2) fun x4 => some (p3.1, x4)) (PwC B n N r b ok M0 (.inl (w, k))) := by
  unfold f_X11_bad
  simp only [lt_eq]
  have hg : gz 0 = some 0 := rfl
  rw [hg, b1_some]
  refine wq_some ⟨hF.trans ⟨fun a c _ => ?_, fun k c => ?_, fun j _ => ?_⟩, rfl, ?_, ?_⟩
  · show up2 (up2 M 155 21 x) 155 22 (up2 M 155 21 x 155 19) a = M a
    rw [up2_cell _ _ _ c, up2_cell _ _ _ c]
  · show up2 (up2 M 155 21 x) 155 22 (up2 M 155 21 x 155 19) 155 k = M 155 k
    rw [up2_slot _ _ _ (by omega), up2_slot _ _ _ (by omega)]
  · show up2 (up2 M 155 21 x) 155 22 (up2 M 155 21 x 155 19) 162 j = M 162 j
    rw [up2_cell _ _ _ (by omega), up2_cell _ _ _ (by omega)]
  · show up2 (up2 M 155 21 x) 155 22 (up2 M 155 21 x 155 19) 155 21 = _
    rw [up2_slot _ _ _ (by omega), up2_at]; exact hx
  · show up2 (up2 M 155 21 x) 155 22 (up2 M 155 21 x 155 19) 155 22 = _
    rw [up2_at, up2_slot _ _ _ (by omega)]; exact h.2.2.2.2.1
theorem pw_b2 {α β : Type} {o1 : α → Mem → Prop} {o2 : β → Mem → Prop} {r b : Nat} {M0 M1 : Mem} {x : Option (Mem × Int32)} {k : Mem → Option (Mem × Int32)} {R : Rs α} {f : Nat → α → Rs β} (h : Wq x (PwC B n N r b o1 M1 R)) (hF : Fw2 b M0 M1) (hk : ∀ j c M2, R = .inr (j, c) → j ≤ N → Fw2 b M0 M2 → RSm B n r j M2 → o1 c M2 → Wq (k M2) (PwC B n N r b o2 M0 (f j c))) : Wq (b2 x fun M2 x2 => if x2 = 0 then some (M2, 0) else k M2) (PwC B n N r b o2 M0 (bnR R f)) := by
  obtain ⟨⟨M2, x2⟩, rfl, hFF, hm⟩ := h
  rw [b2_some]
  cases R with
  | inl e =>
    obtain ⟨h1, h2⟩ := hm
    simp only at h1
    rw [if_pos h1]
    exact wq_some ⟨hF.trans hFF, rfl, h2⟩
  | inr q =>
    obtain ⟨h1, h2, h3, h4⟩ := hm
    simp only at h1
    rw [if_neg (by rw [h1]; decide)]
    exact hk q.1 q.2 M2 rfl h2 (hF.trans hFF) h3 h4
theorem pw_fin {α : Type} {o1 : α → Mem → Prop} {r b : Nat} {M0 M1 : Mem} {x : Option (Mem × Int32)} {R : Rs α} (h : Wq x (PwC B n N r b o1 M1 R)) (hF : Fw2 b M0 M1) : Wq (b2 x fun M2 x2 => if x2 = 0 then some (M2, 0) else some (M2, 1)) (PwC B n N r b o1 M0 R) := by
  obtain ⟨⟨M2, x2⟩, rfl, hFF, hm⟩ := h
  rw [b2_some]
  cases R with
  | inl e =>
    obtain ⟨h1, h2⟩ := hm
    simp only at h1
    rw [if_pos h1]
    exact wq_some ⟨hF.trans hFF, rfl, h2⟩
  | inr q =>
    obtain ⟨h1, h2⟩ := hm
    simp only at h1
    rw [if_neg (by rw [h1]; decide)]
    exact wq_some ⟨hF.trans hFF, rfl, h2⟩
theorem pw_gz {α : Type} {o1 : α → Mem → Prop} {r b : Nat} {M1 : Mem} {x : Option (Mem × Int32)} {R : Rs α} (h : Wq x (PwC B n N r b o1 M1 R)) : Wq (b2 x fun M5 x6 => b1 (gz x6) fun x7 => some (M5, x7)) (PwC B n N r b o1 M1 R) := by
  obtain ⟨⟨M2, x2⟩, rfl, hF, hm⟩ := h
  rw [b2_some]
  have hx : x2 = 0 ∨ x2 = 1 := by
    cases R with
    | inl e => exact .inl hm.1
    | inr q => exact .inr hm.1
  have hg : gz x2 = some x2 := by unfold gz; rw [if_pos hx]
  rw [hg, b1_some]
  exact wq_some ⟨hF, hm⟩
theorem need_ok {α : Type} {ok : α → Mem → Prop} (hN : okN B n N) {r i b v wd : Nat} {a : α} {x : Int32} (hr : r < 5) (h : RSm B n r i M) (hi : i ≤ N) (ha : ok a M) (hst : ∀ M', Fn M M' → ok a M') (hx : x = nI v) (hv : v < 1000) (hw : wd ≠ 258) (hq : trT r (tyT B n i) = v ↔ tyT B n i = wd) : Wq (f_X11_need x M) (PwC B n N r b ok M (nxG (tyT B n) wd i a)) := by
  have hT := hN.t
  have e := tokr hx hr (hT.2.2.2 i) hv hq
  unfold f_X11_need nxG
  rw [h.2.2.2.1]
  by_cases hs : tyT B n i = wd
  · have hiN : i < N := in_tok hT hi hs hw
    rw [if_pos (e.2 hs), if_pos hs]
    refine wq_b1 (nextm hN hr h) ?_
    rintro M2 ⟨n1, n2⟩
    exact wq_some ⟨n2.fw2, rfl, hiN, n1, hst M2 n2⟩
  · rw [if_neg (fun z => hs (e.1 z)), if_neg hs]
    exact pw_bad h (Fw2.refl _ _) rfl
theorem num_rngm {v lo hs : Nat} {a b : Int32} (hv : v ≤ 9999) (ha : a = nI lo) (hb : b.toInt = (hs : Int) - 1) (hl : lo < 1000) (hh : hs < 10000) : f_X11_isIn (nI v) a b = 0 ↔ ¬ (lo ≤ v ∧ v < hs) := by
  rw [isInm0, ha, nI_lt_iff (by omega) (by omega), Int32.lt_iff_toInt_lt, hb, nI_toInt (by omega)]
  omega
theorem number_gen (hN : okN B n N) {r i b pl lo hs : Nat} {x a c : Int32} (hr : r < 5) (h : RSm B n r i M) (hi : i ≤ N) (hx : x = nI pl) (hp : b ≤ pl ∧ pl < 120) (ha : a = nI lo) (hc : c.toInt = (hs : Int) - 1) (hl : lo < 1000) (hh : hs < 10000) : Wq (f_X11_number x a c M) (PwC B n N r b (fun v M' => M' 162 = up2 M 162 pl (nI v) 162) M (if tyT B n i = 256 then (if lo ≤ vlT B n i ∧ vlT B n i < hs then .inr (i + 1, vlT B n i) else .inl (2, i)) else .inl (1, i))) := by
  have hT := hN.t
  have ht := hT.2.2.2 i
  have e2 := tokr (v := 2) (x := 2) rfl hr ht (by omega) (trA r hr _ ht).2.1
  unfold f_X11_number
  rw [h.2.2.2.1]
  by_cases h256 : tyT B n i = 256
  · have hiN : i < N := in_tok hT hi h256 (by omega)
    have hv := hN.v i h256
    have e := num_rngm hv ha hc hl hh
    rw [if_pos (e2.2 h256), h.2.2.2.2.2 h256, if_pos h256]
    by_cases hq : lo ≤ vlT B n i ∧ vlT B n i < hs
    · rw [if_neg (fun z => e.1 z hq), if_pos hq, hx, wr_nI la_162 hp.2 (by omega), b1_some]
      refine wq_b1 (nextm hN hr h.w2) ?_
      rintro M4 ⟨n1, n2⟩
      exact wq_some ⟨(Fw2.w hp.1).trans n2.fw2, rfl, hiN, n1, n2.1 162 (by omega)⟩
    · rw [if_pos (e.2 hq), if_neg hq]
      exact pw_bad h (Fw2.refl _ _) rfl
  · rw [if_neg (fun z => h256 (e2.1 z)), if_neg h256]
    exact pw_bad h (Fw2.refl _ _) rfl
theorem preOK.fn {b : Nat} {c : List Int32} {M' : Mem} (h : preOK b c M) (hF : Fn M M') : preOK b c M' := by
  unfold preOK
  rw [hF.1 162 (by omega)]
  exact h
theorem number_ok (hN : okN B n N) {r i b lo hs : Nat} {cs : List Int32} {x a c : Int32} (hr : r < 5) (h : RSm B n r i M) (hi : i ≤ N) (hpre : preOK b cs M) (hx : x = nI (b + cs.length)) (hp : b + cs.length < 120) (ha : a = nI lo) (hc : c.toInt = (hs : Int) - 1) (hl : lo < 1000) (hh : hs < 10000) : Wq (f_X11_number x a c M) (PwC B n N r b (preOK b) M (nuG (tyT B n) (vlT B n) lo hs i cs)) := by
  obtain ⟨⟨M2, x2⟩, e, hF, hm⟩ := number_gen (b := b) hN hr h hi hx ⟨by omega, hp⟩ ha hc hl hh
  refine wq_eq e ?_
  unfold nuG
  by_cases h256 : tyT B n i = 256
  · rw [if_pos h256] at hm ⊢
    by_cases hq : lo ≤ vlT B n i ∧ vlT B n i < hs
    · rw [if_pos hq] at hm ⊢
      obtain ⟨h1, h2, h3, h4⟩ := hm
      refine ⟨hF, h1, h2, h3, ?_⟩
      intro j hj
      simp only at h4 hj ⊢
      rw [List.length_append] at hj
      simp only [List.length_cons, List.length_nil] at hj
      rw [h4]
      by_cases e : j = cs.length
      · rw [e, up2_at, getD_app_at]
      · rw [up2_slot _ _ _ (by omega), getD_app_l _ (by omega)]
        exact hpre j (by omega)
    · rw [if_neg hq] at hm ⊢
      exact ⟨hF, hm⟩
  · rw [if_neg h256] at hm ⊢
    exact ⟨hF, hm⟩
theorem told_ok (hN : okN B n N) {r i b v wd lo hs : Nat} {cs : List Int32} {x a c y : Int32} (hr : r < 5) (h : RSm B n r i M) (hi : i ≤ N) (hpre : preOK b cs M) (hx : x = nI (b + cs.length)) (hp : b + cs.length < 120) (hy : y = nI v) (hv : v < 1000) (hw : wd ≠ 258) (hq : ∀ t, t < 323 → (trT r t = v ↔ t = wd)) (ha : a = nI lo) (hc : c.toInt = (hs : Int) - 1) (hl : lo < 1000) (hh : hs < 10000) : Wq (f_X11_told x y a c M) (PwC B n N r b (preOK b) M (bnR (nxG (tyT B n) wd i cs) (fun j cs => nuG (tyT B n) (vlT B n) lo hs j cs))) := by
  unfold f_X11_told
  refine pw_b2 (need_ok (ok := preOK b) (b := b) hN hr h hi hpre (fun M' hF => hpre.fn hF) hy hv hw (hq _ (hN.t.2.2.2 i))) (Fw2.refl _ _) ?_
  intro j c' M2 e2 a1 a2 a3 a4
  have := nx_eq e2
  subst this
  exact pw_fin (number_ok hN hr a3 a1 a4 hx hp ha hc hl hh) a2
def wmG (k : Nat) : Nat := if k = 0 then 2 else if k = 2 then 3 else if k = 3 then 4 else 10
/-- a row as the reference keeps it -/
def rowOK (k b : Nat) (q : Rw) (M : Mem) : Prop := if k = 4 then (M 162 b = q.1.getD 0 0 ∧ M 162 (b + 1) = nI q.2.length ∧ q.2.length ≤ 4 ∧ ∀ i, i < q.2.length → M 162 (b + 2 + 2 * i) = nI (q.2.getD i (0, 0)).1 ∧ M 162 (b + 3 + 2 * i) = nI (q.2.getD i (0, 0)).2) else (q.1.length = wmG k ∧ preOK b q.1 M)
theorem rowOK.same {k b : Nat} {q : Rw} {M' : Mem} (h : rowOK k b q M) (hk : k = 0 ∨ k = 2 ∨ k = 3 ∨ k = 4) (he : ∀ j, j < b + wmG k → M' 162 j = M 162 j) : rowOK k b q M' := by
  unfold rowOK at h ⊢
  by_cases h4 : k = 4
  · rw [if_pos h4] at h ⊢
    have : wmG k = 10 := by rw [h4]; rfl
    obtain ⟨h1, h2, h3, h5⟩ := h
    refine ⟨by rw [he _ (by omega)]; exact h1, by rw [he _ (by omega)]; exact h2, h3, fun i hi => ?_⟩
    rw [he _ (by omega), he _ (by omega)]
    exact h5 i hi
  · rw [if_neg h4] at h ⊢
    refine ⟨h.1, fun j hj => ?_⟩
    rw [he _ (by have := h.1; omega)]
    exact h.2 j hj
def rowS (ty vl : Nat → Nat) (k nk i : Nat) : Rs Rw := if k = 4 then bnR (nuG ty vl 1 100 (i + 1) []) (fun j c => bnR (paG ty vl nk 5 j []) (fun j2 ps => .inr (j2, (c, ps))))
  else if k = 0 then bnR (nuG ty vl 1 100 (i + 1) []) (fun j c => bnR (nxG ty 315 j c) (fun j c => bnR (nuG ty vl 1 31 j c) (fun j c => .inr (j, (c, ([] : List (Nat × Nat)))))))
  else if k = 2 then bnR (nuG ty vl 0 1000 (i + 1) []) (fun j c => bnR (nxG ty 317 j c) (fun j c => bnR (nuG ty vl 0 nk j c) (fun j c => bnR (nxG ty 318 j c) (fun j c => bnR (nuG ty vl 1 21 j c) (fun j c => .inr (j, (c, ([] : List (Nat × Nat)))))))))
  else bnR (nuG ty vl 0 nk (i + 1) []) (fun j c => bnR (nuG ty vl 1 100 j c) (fun j c => bnR (nxG ty 320 j c) (fun j c => bnR (nuG ty vl 0 1000 j c) (fun j c => bnR (nxG ty 321 j c) (fun j c => bnR (nuG ty vl 0 1000 j c) (fun j c => .inr (j, (c, ([] : List (Nat × Nat))))))))))
theorem nx_map {ty : Nat → Nat} {α β : Type} (w j : Nat) (c : α) (g : α → β) : bnR (nxG ty w j c) (fun j c => .inr (j, g c)) = nxG ty w j (g c) := by
  unfold nxG
  by_cases h : ty j = w
  · rw [if_pos h, if_pos h]; rfl
  · rw [if_neg h, if_neg h]; rfl
theorem row_split {ty vl : Nat → Nat} {k nk i : Nat} (hk : k = 0 ∨ k = 2 ∨ k = 3 ∨ k = 4) : rowG ty vl k nk i = bnR (rowS ty vl k nk i) (fun j q => nxG ty 59 j q) := by
  have e : ∀ j (c : List Int32), bnR (bnR (nxG ty 59 j c) (fun j c => (.inr (j, c) : Rs (List Int32)))) (fun j c => (.inr (j, (c, ([] : List (Nat × Nat)))) : Rs Rw)) = nxG ty 59 j (c, ([] : List (Nat × Nat))) := by
    intro j c
    rw [nx_map 59 j c (fun c => c), nx_map 59 j c (fun c => (c, ([] : List (Nat × Nat))))]
  rcases hk with rfl | rfl | rfl | rfl
  · show bnR (bnR (nuG ty vl 1 100 (i + 1) []) (fun j c => bnR (nxG ty 315 j c) (fun j c => bnR (nuG ty vl 1 31 j c) (fun j c => bnR (nxG ty 59 j c) (fun j c => .inr (j, c)))))) (fun j c => .inr (j, (c, ([] : List (Nat × Nat))))) = bnR (bnR (nuG ty vl 1 100 (i + 1) []) (fun j c => bnR (nxG ty 315 j c) (fun j c => bnR (nuG ty vl 1 31 j c) (fun j c => .inr (j, (c, ([] : List (Nat × Nat)))))))) (fun j q => nxG ty 59 j q)
    rw [bnR_bnR, bnR_bnR]; congr 1; funext j c
    rw [bnR_bnR, bnR_bnR]; congr 1; funext j c
    rw [bnR_bnR, bnR_bnR]; congr 1; funext j c
    exact e j c
  · show bnR (bnR (nuG ty vl 0 1000 (i + 1) []) (fun j c => bnR (nxG ty 317 j c) (fun j c => bnR (nuG ty vl 0 nk j c) (fun j c => bnR (nxG ty 318 j c) (fun j c => bnR (nuG ty vl 1 21 j c) (fun j c => bnR (nxG ty 59 j c) (fun j c => .inr (j, c)))))))) (fun j c => .inr (j, (c, ([] : List (Nat × Nat))))) = bnR (bnR (nuG ty vl 0 1000 (i + 1) []) (fun j c => bnR (nxG ty 317 j c) (fun j c => bnR (nuG ty vl 0 nk j c) (fun j c => bnR (nxG ty 318 j c) (fun j c => bnR (nuG ty vl 1 21 j c) (fun j c => .inr (j, (c, ([] : List (Nat × Nat)))))))))) (fun j q => nxG ty 59 j q)
    rw [bnR_bnR, bnR_bnR]; congr 1; funext j c
    rw [bnR_bnR, bnR_bnR]; congr 1; funext j c
    rw [bnR_bnR, bnR_bnR]; congr 1; funext j c
    rw [bnR_bnR, bnR_bnR]; congr 1; funext j c
    rw [bnR_bnR, bnR_bnR]; congr 1; funext j c
    exact e j c
  · show bnR (bnR (nuG ty vl 0 nk (i + 1) []) (fun j c => bnR (nuG ty vl 1 100 j c) (fun j c => bnR (nxG ty 320 j c) (fun j c => bnR (nuG ty vl 0 1000 j c) (fun j c => bnR (nxG ty 321 j c) (fun j c => bnR (nuG ty vl 0 1000 j c) (fun j c => bnR (nxG ty 59 j c) (fun j c => .inr (j, c))))))))) (fun j c => .inr (j, (c, ([] : List (Nat × Nat))))) = bnR (bnR (nuG ty vl 0 nk (i + 1) []) (fun j c => bnR (nuG ty vl 1 100 j c) (fun j c => bnR (nxG ty 320 j c) (fun j c => bnR (nuG ty vl 0 1000 j c) (fun j c => bnR (nxG ty 321 j c) (fun j c => bnR (nuG ty vl 0 1000 j c) (fun j c => .inr (j, (c, ([] : List (Nat × Nat))))))))))) (fun j q => nxG ty 59 j q)
    rw [bnR_bnR, bnR_bnR]; congr 1; funext j c
    rw [bnR_bnR, bnR_bnR]; congr 1; funext j c
    rw [bnR_bnR, bnR_bnR]; congr 1; funext j c
    rw [bnR_bnR, bnR_bnR]; congr 1; funext j c
    rw [bnR_bnR, bnR_bnR]; congr 1; funext j c
    rw [bnR_bnR, bnR_bnR]; congr 1; funext j c
    exact e j c
  · show bnR (nuG ty vl 1 100 (i + 1) []) (fun j c => bnR (paG ty vl nk 5 j []) (fun j2 ps => nxG ty 59 j2 (c, ps))) = bnR (bnR (nuG ty vl 1 100 (i + 1) []) (fun j c => bnR (paG ty vl nk 5 j []) (fun j2 ps => .inr (j2, (c, ps))))) (fun j q => nxG ty 59 j q)
    rw [bnR_bnR]; congr 1; funext j c
    rw [bnR_bnR]; rfl
end RWM
