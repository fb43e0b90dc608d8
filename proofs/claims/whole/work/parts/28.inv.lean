/-! ===== PURE PART: what holds between two calls ===== -/
def okKd (T : Tb) : Prop := ∀ r, r < T.1 → ∃ a b, 1 ≤ a ∧ a ≤ 99 ∧ 1 ≤ b ∧ b ≤ 30 ∧ T.2 r 0 = nI a ∧ T.2 r 1 = nI b
def okRem (nk : Nat) (T : Tb) : Prop := ∀ r, r < T.1 → ∃ k s, k < nk ∧ 1 ≤ s ∧ s ≤ 99 ∧ T.2 r 0 = nI k ∧ T.2 r 1 = nI s ∧ (T.2 r 4 = 0 ∨ T.2 r 4 = 1)
def okFea (nk : Nat) (T : Tb) : Prop := ∀ r, r < T.1 → ∃ k, k < nk ∧ T.2 r 1 = nI k
def okWan (nk : Nat) (T : Tb) : Prop := ∀ r, r < T.1 → ∃ k s, k < nk ∧ 1 ≤ s ∧ s ≤ 99 ∧ T.2 r 0 = nI k ∧ T.2 r 1 = nI s
def okMet (s : Int32) (n : Nat) : Prop := ∃ S, s = nI S ∧ S < 2 ^ n
def okDsh (nk : Nat) (T : Tb) : Prop := ∀ r, r < T.1 → ∃ m v, m ≤ 4 ∧ 1 ≤ v ∧ v ≤ 99 ∧ T.2 r 0 = nI v ∧ T.2 r 1 = nI m ∧ (∀ j, j < m → ∃ k s, k < nk ∧ 1 ≤ s ∧ s ≤ 99 ∧ T.2 r (2 + 2 * j) = nI k ∧ T.2 r (3 + 2 * j) = nI s) ∧ ∀ j j', j < j' → j' < m → T.2 r (2 + 2 * j) ≠ T.2 r (2 + 2 * j')
def okPie (T : Tb) : Prop := ∀ r, r < T.1 → ∃ a b, 1 ≤ a ∧ a ≤ 30 ∧ 1 ≤ b ∧ b ≤ 99 ∧ T.2 r 0 = nI a ∧ T.2 r 1 = nI b
def okTes (T : Tb) : Prop := ∀ r, r < T.1 → ∃ a b, 1 ≤ a ∧ a ≤ 999 ∧ 1 ≤ b ∧ b ≤ 999 ∧ T.2 r 0 = nI a ∧ T.2 r 1 = nI b
def okLim (T : Tb) : Prop := ∀ r, r < T.1 → ∃ a, 1 ≤ a ∧ a ≤ 999 ∧ T.2 r 0 = nI a
def okTrd (T : Tb) : Prop := ∀ r, r < T.1 → ∃ a b n m, a < 6 ∧ b < 6 ∧ a ≠ b ∧ 1 ≤ n ∧ n ≤ 9 ∧ 1 ≤ m ∧ m ≤ 9 ∧ T.2 r 0 = nI a ∧ T.2 r 1 = nI b ∧ T.2 r 2 = nI n ∧ T.2 r 3 = nI m
def okDay (d : Int32) : Prop := ∃ n, n ≤ 9999 ∧ d = nI n
def okTho (v : Int32) : Prop := ∃ n, n ≤ 1000 ∧ v = nI n
def OKN (A : AS) : Prop := okDay (A.1 0) ∧ okTho (A.1 6) ∧ okTho (A.1 7) ∧ okMet (A.1 5) (A.2.1 2).1
def OKT (A : AS) : Prop := okKd (A.2.1 0) ∧ okRem (A.2.1 0).1 (A.2.1 4) ∧ okFea (A.2.1 0).1 (A.2.1 1) ∧ okWan (A.2.1 0).1 (A.2.1 2) ∧ okDsh (A.2.1 0).1 (A.2.1 3)
def OKI (A : AS) : Prop := okPie (A.2.1 6) ∧ okTes (A.2.1 7) ∧ okLim (A.2.1 8) ∧ okTrd (A.2.1 9)
def OKA (A : AS) : Prop := OKN A ∧ OKT A ∧ OKI A ∧ OKL A.2.2
def OKS (A : AS) (S : Sn) : Prop := okDay (S.1 0) ∧ okMet (S.1 5) (A.2.1 2).1 ∧ okRem (A.2.1 0).1 S.2.1 ∧ S.2.2 ≤ (A.2.1 5).1
def OKP (A : AS) (P : Ps) : Prop := (∀ j, j < P.1 → OKS A (P.2 j)) ∧ ∀ j, j + 1 < P.1 → (P.2 j).2.2 ≤ (P.2 (j + 1)).2.2
/-- the market, the image, the past, the tape, the fault -/
abbrev GS : Type := AS × Option AS × Ps × Sk × (Int32 × Int32)
def OKG (G : GS) : Prop := OKA G.1 ∧ (∀ J, G.2.1 = some J → OKA J) ∧ OKP G.1 G.2.2.1 ∧ (G.2.2.2.1.1 ≤ 400 ∧ ∀ j, j < G.2.2.2.1.1 → ∃ b, b < 256 ∧ G.2.2.2.1.2 j = nI b)
/-! the class -/
def RLs (o : Nat) (A : AS) (M : Mem) : Prop := RR (o + 1) 6 2 (A.2.1 6) M ∧ RR (o + 3) 6 2 (A.2.1 7) M ∧ RR (o + 5) 6 1 (A.2.1 8) M ∧ RR (o + 7) 8 4 (A.2.1 9) M
def Ms (o : Nat) (M : Mem) : Prop := (∃ T, RR (o + 1) 6 2 T M) ∧ (∃ T, RR (o + 3) 12 3 T M) ∧ (∃ T, RR (o + 5) 12 5 T M) ∧ (∃ T, RR (o + 7) 12 7 T M) ∧ (∃ T, RR (o + 9) 14 5 T M) ∧ ∃ T, RR (o + 11) 150 4 T M
def Lst (o : Nat) (M : Mem) : Prop := (∃ T, RR (o + 1) 6 2 T M) ∧ (∃ T, RR (o + 3) 6 2 T M) ∧ (∃ T, RR (o + 5) 6 1 T M) ∧ ∃ T, RR (o + 7) 8 4 T M
def RTk (tp : Sk) (ft : Int32 × Int32) (M : Mem) : Prop := M 136 4 = nI tp.1 ∧ (∀ j, j < tp.1 → M 137 j = tp.2 j) ∧ M 136 7 = ft.1 ∧ M 136 8 = ft.2
def RIm (I : Option AS) (M : Mem) : Prop := (I = none → M 0 10 = 0) ∧ ∀ J, I = some J → M 0 10 = 1 ∧ RMk true 27 J M ∧ RLs 97 J M
def InvC (G : GS) (M : Mem) : Prop := RMk true 1 G.1 M ∧ RLs 79 G.1 M ∧ RIm G.2.1 M ∧ (Ms 27 M ∧ Lst 97 M ∧ Ms 53 M) ∧ RPc G.2.2.1 M ∧ RTk G.2.2.2.1 G.2.2.2.2 M
theorem RLs.out {o lo hi : Nat} {A : AS} {M M' : Mem} (h : RLs o A M) (hO : Out lo hi M M') (ho : o + 8 < lo ∨ hi ≤ o) : RLs o A M' :=
  ⟨h.1.out hO (by omega), h.2.1.out hO (by omega), h.2.2.1.out hO (by omega), h.2.2.2.out hO (by omega)⟩
theorem Ms.out {o lo hi : Nat} {M M' : Mem} (h : Ms o M) (hO : Out lo hi M M') (ho : o + 12 < lo ∨ hi ≤ o) : Ms o M' := by
  obtain ⟨⟨a, ha⟩, ⟨b, hb⟩, ⟨c, hc⟩, ⟨d, hd⟩, ⟨e, he⟩, ⟨f, hf⟩⟩ := h
  exact ⟨⟨a, ha.out hO (by omega)⟩, ⟨b, hb.out hO (by omega)⟩, ⟨c, hc.out hO (by omega)⟩, ⟨d, hd.out hO (by omega)⟩, ⟨e, he.out hO (by omega)⟩, ⟨f, hf.out hO (by omega)⟩⟩
theorem Lst.out {o lo hi : Nat} {M M' : Mem} (h : Lst o M) (hO : Out lo hi M M') (ho : o + 8 < lo ∨ hi ≤ o) : Lst o M' := by
  obtain ⟨⟨a, ha⟩, ⟨b, hb⟩, ⟨c, hc⟩, ⟨d, hd⟩⟩ := h
  exact ⟨⟨a, ha.out hO (by omega)⟩, ⟨b, hb.out hO (by omega)⟩, ⟨c, hc.out hO (by omega)⟩, ⟨d, hd.out hO (by omega)⟩⟩
theorem RTk.out {lo hi : Nat} {tp : Sk} {ft : Int32 × Int32} {M M' : Mem} (h : RTk tp ft M) (hO : Out lo hi M M') (ho : 137 < lo ∨ hi ≤ 136) : RTk tp ft M' := by
  unfold RTk
  rw [hO 136 (by omega), hO 137 (by omega)]
  exact h
theorem RIm.out {lo hi : Nat} {I : Option AS} {M M' : Mem} (h : RIm I M) (hO : Out lo hi M M') (h0 : 0 < lo) (ho : hi ≤ 27 ∨ (46 < lo ∧ hi ≤ 97) ∨ 105 < lo) : RIm I M' := by
  unfold RIm
  rw [hO 0 (by omega)]
  refine ⟨h.1, fun J hJ => ?_⟩
  obtain ⟨h1, h2, h3⟩ := h.2 J hJ
  exact ⟨h1, h2.out hO (by omega), h3.out hO (by omega)⟩
theorem RMk.ms {t : Bool} {o : Nat} {A : AS} {M : Mem} (h : RMk t o A M) : Ms o M := by
  obtain ⟨T, h5, _⟩ := h.t5
  exact ⟨⟨_, h.t0⟩, ⟨_, h.t1⟩, ⟨_, h.t2⟩, ⟨_, h.t3⟩, ⟨_, h.t4⟩, ⟨T, h5⟩⟩
theorem RLs.lst {o : Nat} {A : AS} {M : Mem} (h : RLs o A M) : Lst o M := ⟨⟨_, h.1⟩, ⟨_, h.2.1⟩, ⟨_, h.2.2.1⟩, ⟨_, h.2.2.2⟩⟩
/-- cells that no call's answer hangs on may change -/
theorem InvC.scr {G : GS} {lo hi : Nat} {M M' : Mem} (h : InvC G M) (hO : Out lo hi M M') (ho : (21 ≤ lo ∧ hi ≤ 27) ∨ (73 ≤ lo ∧ hi ≤ 79) ∨ (88 ≤ lo ∧ hi ≤ 97) ∨ 138 ≤ lo) : InvC G M' := by
  obtain ⟨h1, h2, h3, ⟨h4, h5, h6⟩, h7, h8⟩ := h
  exact ⟨h1.out hO (by omega), h2.out hO (by omega), h3.out hO (by omega) (by omega), ⟨h4.out hO (by omega), h5.out hO (by omega), h6.out hO (by omega)⟩, h7.out hO (by omega), h8.out hO (by omega)⟩
theorem InvC.mkt {A : AS} {r : Option AS × Ps × Sk × (Int32 × Int32)} {A' : AS} {M M' : Mem} (h : InvC (A, r) M) (hO : Out 1 27 M M') (hR : RMk true 1 A' M') (hl : ∀ k, 6 ≤ k → A'.2.1 k = A.2.1 k) : InvC (A', r) M' := by
  obtain ⟨h1, h2, h3, ⟨h4, h5, h6⟩, h7, h8⟩ := h
  refine ⟨hR, ?_, h3.out hO (by omega) (by omega), ⟨h4.out hO (by omega), h5.out hO (by omega), h6.out hO (by omega)⟩, h7.out hO (by omega), h8.out hO (by omega)⟩
  have h2 := h2.out hO (by omega)
  unfold RLs at h2 ⊢
  show RR _ _ _ (A'.2.1 6) _ ∧ RR _ _ _ (A'.2.1 7) _ ∧ RR _ _ _ (A'.2.1 8) _ ∧ RR _ _ _ (A'.2.1 9) _
  rw [hl 6 (by omega), hl 7 (by omega), hl 8 (by omega), hl 9 (by omega)]
  exact h2
theorem InvC.pst {A : AS} {I : Option AS} {P P' : Ps} {r : Sk × (Int32 × Int32)} {M M' : Mem} (h : InvC (A, I, P, r) M) (hO : Out 115 136 M M') (hP : RPc P' M') : InvC (A, I, P', r) M' := by
  obtain ⟨h1, h2, h3, ⟨h4, h5, h6⟩, h7, h8⟩ := h
  exact ⟨h1.out hO (by omega), h2.out hO (by omega), h3.out hO (by omega) (by omega), ⟨h4.out hO (by omega), h5.out hO (by omega), h6.out hO (by omega)⟩, hP, h8.out hO (by omega)⟩
theorem InvC.tok {A : AS} {I : Option AS} {P : Ps} {tp tp' : Sk} {ft ft' : Int32 × Int32} {M M' : Mem} (h : InvC (A, I, P, tp, ft) M) (hO : Out 136 141 M M') (hT : RTk tp' ft' M') : InvC (A, I, P, tp', ft') M' := by
  obtain ⟨h1, h2, h3, ⟨h4, h5, h6⟩, h7, h8⟩ := h
  exact ⟨h1.out hO (by omega), h2.out hO (by omega), h3.out hO (by omega) (by omega), ⟨h4.out hO (by omega), h5.out hO (by omega), h6.out hO (by omega)⟩, h7.out hO (by omega), hT⟩
theorem InvC.thk {G : GS} {M M' : Mem} (h : InvC G M) (hO : Out 53 79 M M') (hM : Ms 53 M') : InvC G M' := by
  obtain ⟨h1, h2, h3, ⟨h4, h5, h6⟩, h7, h8⟩ := h
  exact ⟨h1.out hO (by omega), h2.out hO (by omega), h3.out hO (by omega) (by omega), ⟨h4.out hO (by omega), h5.out hO (by omega), hM⟩, h7.out hO (by omega), h8.out hO (by omega)⟩
theorem InvC.lsts {A A' : AS} {r : Option AS × Ps × Sk × (Int32 × Int32)} {M M' : Mem} (h : InvC (A, r) M) (hO : Out 79 97 M M') (hR : RLs 79 A' M') (h1' : A'.1 = A.1) (hl : ∀ k, k < 6 → A'.2.1 k = A.2.1 k) (hw : A'.2.2 = A.2.2) : InvC (A', r) M' := by
  obtain ⟨h1, h2, h3, ⟨h4, h5, h6⟩, h7, h8⟩ := h
  refine ⟨?_, hR, h3.out hO (by omega) (by omega), ⟨h4.out hO (by omega), h5.out hO (by omega), h6.out hO (by omega)⟩, h7.out hO (by omega), h8.out hO (by omega)⟩
  have h1 : RMk true 1 A M' := h1.out hO (by omega)
  show RMk true 1 A' M'
  unfold RMk at h1 ⊢
  rw [h1', hl 0 (by omega), hl 1 (by omega), hl 2 (by omega), hl 3 (by omega), hl 4 (by omega), hl 5 (by omega), hw]
  exact h1
/-- the class's calls leave the reference's cells, the reference's the class's -/
def Hi (M M' : Mem) : Prop := Out 0 155 M M'
def Lo (M M' : Mem) : Prop := Out 155 169 M M'
theorem Out.hi {lo hi : Nat} {M M' : Mem} (h : Out lo hi M M') (hh : hi ≤ 155) : Hi M M' := h.wide (Nat.zero_le _) hh
theorem Out.lo {lo hi : Nat} {M M' : Mem} (h : Out lo hi M M') (hl : 155 ≤ lo) (hh : hi ≤ 169) : Lo M M' := h.wide hl hh
theorem Hi.trans {M M1 M2 : Mem} (h : Hi M M1) (h2 : Hi M1 M2) : Hi M M2 := Out.trans h h2
theorem Lo.trans {M M1 M2 : Mem} (h : Lo M M1) (h2 : Lo M1 M2) : Lo M M2 := Out.trans h h2
theorem Hi.refl (M : Mem) : Hi M M := Out.refl _ _ _
theorem Lo.refl (M : Mem) : Lo M M := Out.refl _ _ _
theorem Mo.lo {M M' : Mem} (h : Mo M M') : Lo M M' := fun a ha => h a (by omega) (by omega) (by omega)
/-! the reference -/
def InvM (G : GS) (M : Mem) : Prop := RMm 156 G.1 M ∧ ((G.2.1 = none → M 155 5 = 0) ∧ ∀ J, G.2.1 = some J → M 155 5 = 1 ∧ RMm 157 J M) ∧ RPm G.2.2.1 M ∧ (M 155 16 = nI G.2.2.2.1.1 ∧ ∀ j, j < G.2.2.2.1.1 → M 163 j = G.2.2.2.1.2 j) ∧ M 155 23 = G.2.2.2.2.1 ∧ M 155 25 = G.2.2.2.2.2
theorem InvM.hi {G : GS} {M M' : Mem} (h : InvM G M) (hH : Hi M M') : InvM G M' := by
  obtain ⟨h1, h2, h3, h4, h5, h6⟩ := h
  have hO : Out 0 155 M M' := hH
  refine ⟨h1.out hO (by omega), ?_, ?_, ?_, ?_, ?_⟩
  · rw [hO 155 (by omega)]
    exact ⟨h2.1, fun J hJ => ⟨(h2.2 J hJ).1, (h2.2 J hJ).2.out hO (by omega)⟩⟩
  · unfold RPm RSn at h3 ⊢
    rw [hO 155 (by omega), hO 158 (by omega)]
    exact h3
  · rw [hO 155 (by omega), hO 163 (by omega)]; exact h4
  · rw [hO 155 (by omega)]; exact h5
  · rw [hO 155 (by omega)]; exact h6
theorem InvC.lo {G : GS} {M M' : Mem} (h : InvC G M) (hH : Lo M M') : InvC G M' := h.scr (lo := 155) (hi := 169) hH (by omega)
theorem InvM.row {A A' : AS} {r : Option AS × Ps × Sk × (Int32 × Int32)} {M M' : Mem} (h : InvM (A, r) M) (hO : Mo M M') (hR : RMm 156 A' M') : InvM (A', r) M' := by
  obtain ⟨h1, h2, h3, h4, h5, h6⟩ := h
  have e155 := hO 155 (by omega) (by omega) (by omega)
  have e157 := hO 157 (by omega) (by omega) (by omega)
  have e158 := hO 158 (by omega) (by omega) (by omega)
  have e163 := hO 163 (by omega) (by omega) (by omega)
  refine ⟨hR, ?_, ?_, ?_, ?_, ?_⟩
  · rw [e155]
    refine ⟨h2.1, fun J hJ => ⟨(h2.2 J hJ).1, ?_⟩⟩
    have := (h2.2 J hJ).2
    unfold RMm RT RLm at this ⊢
    rw [e157]; exact this
  · unfold RPm RSn at h3 ⊢
    rw [e155, e158]; exact h3
  · rw [e155, e163]; exact h4
  · rw [e155]; exact h5
  · rw [e155]; exact h6
theorem InvM.upd155 {A : AS} {I : Option AS} {P P' : Ps} {tp tp' : Sk} {ft ft' : Int32 × Int32} {M M' : Mem} (h : InvM (A, I, P, tp, ft) M) (hA : M' 156 = M 156) (h157 : M' 157 = M 157) (h5 : M' 155 5 = M 155 5) (hP : RPm P' M') (ht : M' 155 16 = nI tp'.1 ∧ ∀ j, j < tp'.1 → M' 163 j = tp'.2 j) (hf : M' 155 23 = ft'.1 ∧ M' 155 25 = ft'.2) : InvM (A, I, P', tp', ft') M' := by
  obtain ⟨h1, h2, h3, h4, h6⟩ := h
  refine ⟨?_, ?_, hP, ht, hf⟩
  · show RMm 156 A M'
    have h1 : RMm 156 A M := h1
    unfold RMm RT RLm at h1 ⊢
    rw [hA]; exact h1
  · rw [h5]
    refine ⟨h2.1, fun J hJ => ⟨(h2.2 J hJ).1, ?_⟩⟩
    have := (h2.2 J hJ).2
    unfold RMm RT RLm at this ⊢
    rw [h157]; exact this
/-- what a call must do on both sides -/
def Inv (M : Mem) : Prop := ∃ G, InvC G M ∧ InvM G M ∧ OKG G
theorem both_ok {fc fm : Mem → Option (Mem × Int32)} {M : Mem} (h : Inv M) (hc : ∀ G, InvC G M → InvM G M → OKG G → ∃ G' r, OKG G' ∧ Wq (fc M) (fun p => p.2 = r ∧ InvC G' p.1 ∧ Hi M p.1) ∧ ∀ M1, InvM G M1 → Wq (fm M1) (fun p => p.2 = r ∧ InvM G' p.1 ∧ Lo M1 p.1)) : ∃ M1 M2 r, fc M = some (M1, r) ∧ fm M1 = some (M2, r) ∧ Inv M2 := by
  obtain ⟨G, h1, h2, h3⟩ := h
  obtain ⟨G', r, g1, ⟨⟨M1, r1⟩, e1, e2, e3, e4⟩, g3⟩ := hc G h1 h2 h3
  simp only at e2 e3 e4
  obtain ⟨⟨M2, r2⟩, k1, k2, k3, k4⟩ := g3 M1 (h2.hi e4)
  simp only at k2 k3 k4
  subst e2
  subst k2
  exact ⟨M1, M2, r2, e1, k1, G', e3.lo k4, k3, g1⟩
