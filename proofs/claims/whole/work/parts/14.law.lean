/-! ===== THE LAW'S LOOP ===== -/
def rdS (E : EV) (i : Int32) : Option Int32 := if inb i (eL E) then some (eX E i.toNatClampNeg) else none
abbrev LX (l : Launch) (E : EV) (nm : String) (pc : Nat) (L : List (Option Value)) (st : List Value) (M : Mem) : Prop := Ex l E (RL, nm, cL_law, 4) 200 169 20639 pc L st (gh M) 169 20639 (fun _ v => v = some (.int 1))
section RL
variable {l : Launch} {E : EV} {X : MI} {d mc ms : Nat} {pc : Nat} {L : List (Option Value)} {G : GH} {ce sl : Nat} {M : Mem} {Po : GH → Option Value → Prop}
theorem lx_sld {i : Int32} {st : List Value} (x : Int32) (hd : decode X.2.2.1 pc = .ok (.iaload, 1)) (h : rdS E i = some x) (kk : Ex l E X d mc ms (pc + 1) L (.int x :: st) G ce sl Po) : Ex l E X d mc ms pc L (.int i :: .ref 1000000 :: st) G ce sl Po := by
  intro p e R s m args below meth c H locs ls Q C h1 h2 hlv hH hz hq
  have K := kk p e R s m args below meth c H locs ls Q C h1 h2 hlv hH hz hq
  unfold rdS at h
  split at h
  · rename_i hi
    cases h
    have hen := C.2.2.2.2.2.1
    have hlow := C.2.2.2.2.2.2.1
    have hX : va_X (eb E) (eL E) (eX E) s s.heap := hen.2.2.2.1.1.kept (hlow.2 _ hen.2.2.2.1.2)
    simp only [List.map_cons, rv, show al E 1000000 = eb E from rfl] at K ⊢
    exact va_sld C.1 C.2.1 hX (Nat.lt_of_lt_of_le hen.2.2.2.1.2 hlow.1) (Nat.not_le.mpr hen.2.2.2.1.2) hH.2 (inb_in hi) hd K
  · cases h
theorem lx_slen {st : List Value} (hd : decode X.2.2.1 pc = .ok (.arraylength, 1)) (kk : Ex l E X d mc ms (pc + 1) L (.int (Int32.ofNat (eL E)) :: st) G ce sl Po) : Ex l E X d mc ms pc L (.ref 1000000 :: st) G ce sl Po := by
  intro p e R s m args below meth c H locs ls Q C h1 h2 hlv hH hz hq
  have K := kk p e R s m args below meth c H locs ls Q C h1 h2 hlv hH hz hq
  have hen := C.2.2.2.2.2.1
  have hlow := C.2.2.2.2.2.2.1
  have hX : va_X (eb E) (eL E) (eX E) s s.heap := hen.2.2.2.1.1.kept (hlow.2 _ hen.2.2.2.1.2)
  simp only [List.map_cons, rv, show al E 1000000 = eb E from rfl] at K ⊢
  exact va_slen C.1 C.2.1 hX (Nat.lt_of_lt_of_le hen.2.2.2.1.2 hlow.1) (Nat.not_le.mpr hen.2.2.2.1.2) hH.2 hd K
theorem lx_cVi (As st : List Value) (b ci : Nat) (x : Int32) {index : Nat} {y : MethodName} {cc' : ByteArray} {nL' : Nat} {ret : Option FieldType} {d' : Nat} {stk : List Value} {M' : Mem} (hd : decode X.2.2.1 pc = .ok (.invokevirtual index, 3)) (hc : CL X.1 index y cc' nL' ret As.length) (hi : Cond.instanceMethod y ∈ lw_tbl ∧ Cond.selects y.cls y y ∈ lw_tbl) (hci : ci < 12 ∧ (cN ci).1 = y.cls) (ho : oc b = some ci) (hst : stk = As.reverse ++ .ref b :: st) (hcat : (st.map fun v => v.category).sum ≤ 8) (hdd : d' + 1 ≤ d) (hrun : RunM l E y cc' nL' ret d' (.ref b :: As) M M' (some (.int x))) (kk : Ex l E X d 169 20639 (pc + 3) L (.int x :: st) (gh M') 169 20639 Po) : Ex l E X d 169 20639 pc L stk (gh M) 169 20639 Po := by
  obtain ⟨sl, hs⟩ := oc_inv ho
  exact ex_callV hd hc hi hci (shp_lt hs) (gh_get hs) hst hcat hdd ⟨Nat.le_refl _, Nat.le_refl _⟩ hrun (fun G' w q => by rw [q.1.1, gh_len, gh_len]; rfl) (fun G' w q => by rw [q.1.1, q.1.2]; exact kk)
end RL
def w_L_law_18 (E : EV) (i1 : Int32) (M2 : Mem) : Option ((Int32 × Mem) ⊕ (Mem)) :=
  if ((Int32.ofNat (eL E)) - 6) < i1 then (some (.inr M2)) else (b1 (rdS E i1) fun x4 => if (x4 &&& 63).toInt < 0 ∨ 36 < (x4 &&& 63).toInt then (some (.inl ((i1 + 6), M2))) else if (x4 &&& 63) = 0 then (b1 (rdS E (i1 + 1)) fun x6 => lt (f_X10_state x6 M2) fun p7 => b1 (rdS E (i1 + 1)) fun x8 => b2 (f_X11_state x8 p7.1) fun M9 x10 => if p7.2 = x10 then (some (.inl ((i1 + 6), M9))) else (none)) else if (x4 &&& 63) = 1 then (b1 (rdS E (i1 + 1)) fun x13 => b1 (rdS E (i1 + 2)) fun x14 => lt (f_X10_set x13 x14 M2) fun p15 => b1 (rdS E (i1 + 1)) fun x16 => b1 (rdS E (i1 + 2)) fun x17 => b2 (f_X11_set x16 x17 p15.1) fun M18 x19 => if p15.2 = x19 then (some (.inl ((i1 + 6), M18))) else (none)) else if (x4 &&& 63) = 2 then (b1 (rdS E (i1 + 1)) fun x22 => b1 (rdS E (i1 + 2)) fun x23 => b2 (f_X10_feast x22 x23 M2) fun M24 x25 => b1 (rdS E (i1 + 1)) fun x26 => b1 (rdS E (i1 + 2)) fun x27 => b2 (f_X11_feast x26 x27 M24) fun M28 x29 => if x25 = x29 then (some (.inl ((i1 + 6), M28))) else (none)) else if (x4 &&& 63) = 3 then (b1 (rdS E (i1 + 1)) fun x32 => b1 (rdS E (i1 + 2)) fun x33 => b2 (f_X10_forge x32 x33 M2) fun M34 x35 => b1 (rdS E (i1 + 1)) fun x36 => b1 (rdS E (i1 + 2)) fun x37 => b2 (f_X11_forge x36 x37 M34) fun M38 x39 => if x35 = x39 then (some (.inl ((i1 + 6), M38))) else (none)) else if (x4 &&& 63) = 4 then (b1 (rdS E (i1 + 1)) fun x42 => b1 (rdS E (i1 + 2)) fun x43 => b2 (f_X10_cut x42 x43 M2) fun M44 x45 => b1 (rdS E (i1 + 1)) fun x46 => b1 (rdS E (i1 + 2)) fun x47 => b2 (f_X11_cut x46 x47 M44) fun M48 x49 => if x45 = x49 then (some (.inl ((i1 + 6), M48))) else (none)) else if (x4 &&& 63) = 5 then (b1 (rdS E (i1 + 1)) fun x52 => b1 (rdS E (i1 + 2)) fun x53 => b2 (f_X10_join x52 x53 M2) fun M54 x55 => b1 (rdS E (i1 + 1)) fun x56 => b1 (rdS E (i1 + 2)) fun x57 => b2 (f_X11_join x56 x57 M54) fun M58 x59 => if x55 = x59 then (some (.inl ((i1 + 6), M58))) else (none)) else if (x4 &&& 63) = 6 then (b1 (rdS E (i1 + 1)) fun x62 => b2 (f_X10_sell x62 M2) fun M63 x64 => b1 (rdS E (i1 + 1)) fun x65 => b2 (f_X11_sell x65 M63) fun M66 x67 => if x64 = x67 then (some (.inl ((i1 + 6), M66))) else (none)) else if (x4 &&& 63) = 7 then (b1 (rdS E (i1 + 1)) fun x70 => b2 (f_X10_days x70 M2) fun M71 x72 => b1 (rdS E (i1 + 1)) fun x73 => b2 (f_X11_days x73 M71) fun M74 x75 => if x72 = x75 then (some (.inl ((i1 + 6), M74))) else (none)) else if (x4 &&& 63) = 8 then (b1 (rdS E (i1 + 1)) fun x78 => b1 (rdS E (i1 + 2)) fun x79 => b1 (rdS E (i1 + 3)) fun x80 => b1 (rdS E (i1 + 4)) fun x81 => b1 (rdS E (i1 + 5)) fun x82 => b2 (f_X10_feed x78 x79 x80 x81 x82 M2) fun M83 x84 => b1 (rdS E (i1 + 1)) fun x85 => b1 (rdS E (i1 + 2)) fun x86 => b1 (rdS E (i1 + 3)) fun x87 => b1 (rdS E (i1 + 4)) fun x88 => b1 (rdS E (i1 + 5)) fun x89 => b2 (f_X11_feed x85 x86 x87 x88 x89 M83) fun M90 x91 => if x84 = x91 then (some (.inl ((i1 + 6), M90))) else (none)) else if (x4 &&& 63) = 9 then (b1 (rdS E (i1 + 1)) fun x94 => lt (f_X10_end x94 M2) fun p95 => b1 (rdS E (i1 + 1)) fun x96 => lt (f_X11_end x96 p95.1) fun p97 => if p95.2 = p97.2 then (some (.inl ((i1 + 6), p97.1))) else (none)) else if (x4 &&& 63) = 10 then (b1 (rdS E (i1 + 1)) fun x100 => b2 (f_X10_text x100 M2) fun M101 x102 => b1 (rdS E (i1 + 1)) fun x103 => b2 (f_X11_text x103 M101) fun M104 x105 => if x102 = x105 then (some (.inl ((i1 + 6), M104))) else (none)) else if (x4 &&& 63) = 11 then (b1 (rdS E (i1 + 1)) fun x108 => b1 (rdS E (i1 + 1)) fun x109 => if (f_X10_fault x108 M2) = (f_X11_fault x109 M2) then (some (.inl ((i1 + 6), M2))) else (none)) else if (x4 &&& 63) = 12 then (b1 (rdS E (i1 + 1)) fun x112 => b1 (rdS E (i1 + 2)) fun x113 => b2 (f_X10_remain x112 x113 M2) fun M114 x115 => b1 (rdS E (i1 + 1)) fun x116 => b1 (rdS E (i1 + 2)) fun x117 => b2 (f_X11_remain x116 x117 M114) fun M118 x119 => if x115 = x119 then (some (.inl ((i1 + 6), M118))) else (none)) else if (x4 &&& 63) = 13 then (b1 (rdS E (i1 + 1)) fun x122 => b1 (rdS E (i1 + 2)) fun x123 => b1 (f_X10_kind x122 x123 M2) fun x124 => b1 (rdS E (i1 + 1)) fun x125 => b1 (rdS E (i1 + 2)) fun x126 => b1 (f_X11_kind x125 x126 M2) fun x127 => if x124 = x127 then (some (.inl ((i1 + 6), M2))) else (none)) else if (x4 &&& 63) = 14 then (b1 (rdS E (i1 + 1)) fun x130 => b1 (rdS E (i1 + 2)) fun x131 => b1 (rdS E (i1 + 3)) fun x132 => lt ((if x132 = 0 then 0 else 1) : Int32) fun x134 => b2 (f_X10_left x130 x131 x134 M2) fun M135 x136 => b1 (rdS E (i1 + 1)) fun x137 => b1 (rdS E (i1 + 2)) fun x138 => b1 (rdS E (i1 + 3)) fun x139 => lt ((if x139 = 0 then 0 else 1) : Int32) fun x141 => b2 (f_X11_left x137 x138 x141 M135) fun M142 x143 => if x136 = x143 then (some (.inl ((i1 + 6), M142))) else (none)) else if (x4 &&& 63) = 15 then (b1 (rdS E (i1 + 1)) fun x146 => b1 (rdS E (i1 + 2)) fun x147 => b1 (f_X10_want x146 x147 M2) fun x148 => b1 (rdS E (i1 + 1)) fun x149 => b1 (rdS E (i1 + 2)) fun x150 => b1 (f_X11_want x149 x150 M2) fun x151 => if x148 = x151 then (some (.inl ((i1 + 6), M2))) else (none)) else if (x4 &&& 63) = 16 then (b1 (rdS E (i1 + 1)) fun x154 => b1 (rdS E (i1 + 2)) fun x155 => b1 (f_X10_book x154 x155 M2) fun x156 => b1 (rdS E (i1 + 1)) fun x157 => b1 (rdS E (i1 + 2)) fun x158 => b1 (f_X11_book x157 x158 M2) fun x159 => if x156 = x159 then (some (.inl ((i1 + 6), M2))) else (none)) else if (x4 &&& 63) = 17 then (b1 (rdS E (i1 + 1)) fun x162 => b1 (rdS E (i1 + 2)) fun x163 => b2 (f_X10_goes x162 x163 M2) fun M164 x165 => b1 (rdS E (i1 + 1)) fun x166 => b1 (rdS E (i1 + 2)) fun x167 => b2 (f_X11_goes x166 x167 M164) fun M168 x169 => if x165 = x169 then (some (.inl ((i1 + 6), M168))) else (none)) else if (x4 &&& 63) = 18 then (b1 (rdS E (i1 + 1)) fun x172 => b1 (rdS E (i1 + 2)) fun x173 => b1 (rdS E (i1 + 3)) fun x174 => b2 (f_X10_joins x172 x173 x174 M2) fun M175 x176 => b1 (rdS E (i1 + 1)) fun x177 => b1 (rdS E (i1 + 2)) fun x178 => b1 (rdS E (i1 + 3)) fun x179 => b1 (f_X11_joins x177 x178 x179 M175) fun x180 => if x176 = x180 then (some (.inl ((i1 + 6), M175))) else (none)) else if (x4 &&& 63) = 19 then (b1 (rdS E (i1 + 1)) fun x183 => b1 (rdS E (i1 + 2)) fun x184 => b1 (rdS E (i1 + 3)) fun x185 => b2 (f_X10_most x183 x184 x185 M2) fun M186 x187 => b1 (rdS E (i1 + 1)) fun x188 => b1 (rdS E (i1 + 2)) fun x189 => b1 (rdS E (i1 + 3)) fun x190 => b2 (f_X11_most x188 x189 x190 M186) fun M191 x192 => if x187 = x192 then (some (.inl ((i1 + 6), M191))) else (none)) else if (x4 &&& 63) = 20 then (b1 (rdS E (i1 + 1)) fun x195 => b1 (rdS E (i1 + 2)) fun x196 => b2 (f_X10_piece x195 x196 M2) fun M197 x198 => b1 (rdS E (i1 + 1)) fun x199 => b1 (rdS E (i1 + 2)) fun x200 => b2 (f_X11_piece x199 x200 M197) fun M201 x202 => if x198 = x202 then (some (.inl ((i1 + 6), M201))) else (none)) else if (x4 &&& 63) = 21 then (b1 (rdS E (i1 + 1)) fun x205 => b1 (rdS E (i1 + 2)) fun x206 => b2 (f_X10_cuts x205 x206 M2) fun M207 x208 => b1 (rdS E (i1 + 1)) fun x209 => b1 (rdS E (i1 + 2)) fun x210 => b2 (f_X11_cuts x209 x210 M207) fun M211 x212 => if x208 = x212 then (some (.inl ((i1 + 6), M211))) else (none)) else if (x4 &&& 63) = 22 then (b1 (rdS E (i1 + 1)) fun x215 => b2 (f_X10_stalls x215 M2) fun M216 x217 => b1 (rdS E (i1 + 1)) fun x218 => b2 (f_X11_stalls x218 M216) fun M219 x220 => if x217 = x220 then (some (.inl ((i1 + 6), M219))) else (none)) else if (x4 &&& 63) = 23 then (b1 (rdS E (i1 + 1)) fun x223 => b1 (rdS E (i1 + 2)) fun x224 => b2 (f_X10_test x223 x224 M2) fun M225 x226 => b1 (rdS E (i1 + 1)) fun x227 => b1 (rdS E (i1 + 2)) fun x228 => b2 (f_X11_test x227 x228 M225) fun M229 x230 => if x226 = x230 then (some (.inl ((i1 + 6), M229))) else (none)) else if (x4 &&& 63) = 24 then (b1 (rdS E (i1 + 1)) fun x233 => b1 (rdS E (i1 + 2)) fun x234 => b1 (rdS E (i1 + 3)) fun x235 => b1 (f_X10_forged x233 x234 x235 M2) fun x236 => b1 (rdS E (i1 + 1)) fun x237 => b1 (rdS E (i1 + 2)) fun x238 => b1 (rdS E (i1 + 3)) fun x239 => b1 (f_X11_forged x237 x238 x239 M2) fun x240 => if x236 = x240 then (some (.inl ((i1 + 6), M2))) else (none)) else if (x4 &&& 63) = 25 then (b1 (rdS E (i1 + 1)) fun x243 => b1 (f_X10_lookAt x243 M2) fun x244 => b1 (rdS E (i1 + 1)) fun x245 => b1 (f_X11_lookAt x245 M2) fun x246 => if x244 = x246 then (some (.inl ((i1 + 6), M2))) else (none)) else if (x4 &&& 63) = 26 then (b1 (rdS E (i1 + 1)) fun x249 => b1 (rdS E (i1 + 2)) fun x250 => b2 (f_X10_crumbs x249 x250 M2) fun M251 x252 => b1 (rdS E (i1 + 1)) fun x253 => b1 (rdS E (i1 + 2)) fun x254 => b2 (f_X11_crumbs x253 x254 M251) fun M255 x256 => if x252 = x256 then (some (.inl ((i1 + 6), M255))) else (none)) else if (x4 &&& 63) = 27 then (b1 (rdS E (i1 + 1)) fun x259 => b2 (f_X10_cooks x259 M2) fun M260 x261 => b1 (rdS E (i1 + 1)) fun x262 => b2 (f_X11_cooks x262 M260) fun M263 x264 => if x261 = x264 then (some (.inl ((i1 + 6), M263))) else (none)) else if (x4 &&& 63) = 28 then (b1 (rdS E (i1 + 1)) fun x267 => b1 (rdS E (i1 + 2)) fun x268 => b2 (f_X10_waits x267 x268 M2) fun M269 x270 => b1 (rdS E (i1 + 1)) fun x271 => b1 (rdS E (i1 + 2)) fun x272 => b2 (f_X11_waits x271 x272 M269) fun M273 x274 => if x270 = x274 then (some (.inl ((i1 + 6), M273))) else (none)) else if (x4 &&& 63) = 29 then (b1 (rdS E (i1 + 1)) fun x277 => b2 (f_X10_limit x277 M2) fun M278 x279 => b1 (rdS E (i1 + 1)) fun x280 => b2 (f_X11_limit x280 M278) fun M281 x282 => if x279 = x282 then (some (.inl ((i1 + 6), M281))) else (none)) else if (x4 &&& 63) = 30 then (b1 (rdS E (i1 + 1)) fun x285 => b1 (rdS E (i1 + 2)) fun x286 => b1 (rdS E (i1 + 3)) fun x287 => b1 (f_X10_dusk x285 x286 x287 M2) fun x288 => b1 (rdS E (i1 + 1)) fun x289 => b1 (rdS E (i1 + 2)) fun x290 => b1 (rdS E (i1 + 3)) fun x291 => b1 (f_X11_dusk x289 x290 x291 M2) fun x292 => if x288 = x292 then (some (.inl ((i1 + 6), M2))) else (none)) else if (x4 &&& 63) = 31 then (b1 (rdS E (i1 + 1)) fun x295 => b1 (rdS E (i1 + 2)) fun x296 => b1 (rdS E (i1 + 3)) fun x297 => b1 (rdS E (i1 + 4)) fun x298 => b2 (f_X10_trade x295 x296 x297 x298 M2) fun M299 x300 => b1 (rdS E (i1 + 1)) fun x301 => b1 (rdS E (i1 + 2)) fun x302 => b1 (rdS E (i1 + 3)) fun x303 => b1 (rdS E (i1 + 4)) fun x304 => b2 (f_X11_trade x301 x302 x303 x304 M299) fun M305 x306 => if x300 = x306 then (some (.inl ((i1 + 6), M305))) else (none)) else if (x4 &&& 63) = 32 then (b1 (rdS E (i1 + 1)) fun x309 => b1 (rdS E (i1 + 2)) fun x310 => b1 (f_X10_ring x309 x310 M2) fun x311 => b1 (rdS E (i1 + 1)) fun x312 => b1 (rdS E (i1 + 2)) fun x313 => b1 (f_X11_ring x312 x313 M2) fun x314 => if x311 = x314 then (some (.inl ((i1 + 6), M2))) else (none)) else if (x4 &&& 63) = 33 then (b1 (rdS E (i1 + 1)) fun x317 => b2 (f_X10_back x317 M2) fun M318 x319 => b1 (rdS E (i1 + 1)) fun x320 => b1 (f_X11_back x320 M318) fun x321 => if x319 = x321 then (some (.inl ((i1 + 6), M318))) else (none)) else if (x4 &&& 63) = 34 then (b2 (f_X10_undo M2) fun M324 x325 => b2 (f_X11_undo M324) fun M326 x327 => if x325 = x327 then (some (.inl ((i1 + 6), M326))) else (none)) else if (x4 &&& 63) = 35 then (b1 (rdS E (i1 + 1)) fun x330 => lt ((if x330 = 0 then 0 else 1) : Int32) fun x332 => b2 (f_X10_image x332 M2) fun M333 x334 => b1 (rdS E (i1 + 1)) fun x335 => lt ((if x335 = 0 then 0 else 1) : Int32) fun x337 => b2 (f_X11_image x337 M333) fun M338 x339 => if x334 = x339 then (some (.inl ((i1 + 6), M338))) else (none)) else if (x4 &&& 63) = 36 then (b1 (rdS E (i1 + 1)) fun x342 => b1 (f_X10_look x342 M2) fun x343 => b1 (rdS E (i1 + 1)) fun x344 => b1 (f_X11_look x344 M2) fun x345 => if x343 = x345 then (some (.inl ((i1 + 6), M2))) else (none)) else none)
def f_law (E : EV) (M : Mem) : Option Unit :=
  b1 (lp (fun s => w_L_law_18 E s.1 s.2) FU (0, M)) fun q348 => some ()
set_option maxRecDepth 100000 in
set_option maxHeartbeats 8000000 in
theorem t_law (l : Launch) (E : EV) (nm : String) (M : Mem) (h : f_law E M = some ()) : LX l E nm 18 [some (.ref 1000000), some (.ref 0), some (.ref 155), some (.int 0)] [] M := by
  unfold f_law at h
  refine ex_mskL [true, true, true, true] (L2 := [some (.ref 1000000), some (.ref 0), some (.ref 155), some (.int 0)]) rfl ?_
  obtain ⟨q348, hlq348, h⟩ := b1E h
  have hx : LX l E nm 1405 [none, none, none, none] [] q348 := by
    refine ex_iconst 1 dL_law_1405 kI_1 ?_
    exact ex_ret (v := some (.int 1)) dL_law_1406 rfl (Nat.le_refl _) rfl
  clear h
  have key : ∀ (k : Nat) (s : Int32 × Mem), lp (fun s => w_L_law_18 E s.1 s.2) k s = some q348 → LX l E nm 18 [some (.ref 1000000), some (.ref 0), some (.ref 155), some (.int s.1)] [] s.2 := lp_ind (P := fun (s : Int32 × Mem) => LX l E nm 18 [some (.ref 1000000), some (.ref 0), some (.ref 155), some (.int s.1)] [] s.2) (fun s t hb hk he => by
    obtain ⟨i1, M2⟩ := s
    show LX l E nm 18 [some (.ref 1000000), some (.ref 0), some (.ref 155), some (.int i1)] [] M2
    change w_L_law_18 E i1 M2 = some t at hb
    unfold w_L_law_18 at hb
    refine ex_iload_n dL_law_18 rfl ?_
    refine ex_aload_n dL_law_19 rfl ?_
    refine lx_slen dL_law_20 ?_
    refine ex_bipush 6 dL_law_21 kB_6 ?_
    refine ex_isub dL_law_23 ?_
    refine ex_icmp_gt 1405 dL_law_24 (by decide) (fun c3 => ?_) (fun c3 => ?_)
    · rw [if_pos c3] at hb
      refine ex_mskL [false, false, false, false] (L2 := [none, none, none, none]) rfl ?_
      cases hb
      cases (he _ rfl) <;> exact hx
    · rw [if_neg c3] at hb
      refine ex_aload_n dL_law_27 rfl ?_
      refine ex_iload_n dL_law_28 rfl ?_
      obtain ⟨x4, qx4, hb⟩ := b1E hb
      refine lx_sld x4 dL_law_29 qx4 ?_
      refine ex_bipush 63 dL_law_30 kB_63 ?_
      refine ex_iand dL_law_32 ?_
      by_cases c5 : (x4 &&& 63).toInt < 0 ∨ 36 < (x4 &&& 63).toInt
      · rw [if_pos c5] at hb
        refine ex_tswO 1399 dL_law_33 c5 (by decide) ?_
        refine ex_iinc 6 (L2 := [some (.ref 1000000), some (.ref 0), some (.ref 155), some (.int (i1 + 6))]) dL_law_1399 rfl (by decide) (Nat.le_of_ble_eq_true rfl) rfl ?_
        refine ex_goto 18 dL_law_1402 (by decide) ?_
        refine ex_mskL [true, true, true, true] (L2 := [some (.ref 1000000), some (.ref 0), some (.ref 155), some (.int (i1 + 6))]) rfl ?_
        cases hb
        exact hk ((i1 + 6), M2) rfl
      rw [if_neg c5] at hb
      by_cases c12 : (x4 &&& 63) = 0
      · rw [if_pos c12] at hb
        refine ex_tswI 0 (163) 196 dL_law_33 c12 (by decide) (by decide) ?_
        refine ex_aload_n dL_law_196 rfl ?_
        refine ex_aload_n dL_law_197 rfl ?_
        refine ex_iload_n dL_law_198 rfl ?_
        refine ex_iconst 1 dL_law_199 kI_1 ?_
        refine ex_iadd dL_law_200 ?_
        obtain ⟨x6, qx6, hb⟩ := b1E hb
        refine lx_sld x6 dL_law_201 qx6 ?_
        obtain ⟨p7, ep7, hb⟩ := ltE hb
        refine lx_cVi [.int x6] [] 0 10 p7.2 dL_law_202 cl_L_13 im_X10_state cy_X10_state oc_at_0 rfl (Nat.le_of_ble_eq_true rfl) (by decide) (t_X10_state l E x6 M2 ep7.symm) ?_
        refine ex_aload_n dL_law_205 rfl ?_
        refine ex_aload_n dL_law_206 rfl ?_
        refine ex_iload_n dL_law_207 rfl ?_
        refine ex_iconst 1 dL_law_208 kI_1 ?_
        refine ex_iadd dL_law_209 ?_
        obtain ⟨x8, qx8, hb⟩ := b1E hb
        refine lx_sld x8 dL_law_210 qx8 ?_
        obtain ⟨M9, x10, qx10, hb⟩ := b2E hb
        refine lx_cVi [.int x8] [.int p7.2] 155 11 x10 dL_law_211 cl_L_17 im_X11_state cy_X11_state oc_at_155 rfl (Nat.le_of_ble_eq_true rfl) (by decide) (t_X11_state l E x8 p7.1 qx10) ?_
        refine ex_icmp_eq 1399 dL_law_214 (by decide) (fun c11 => ?_) (fun c11 => ?_)
        · rw [if_pos c11] at hb
          refine ex_iinc 6 (L2 := [some (.ref 1000000), some (.ref 0), some (.ref 155), some (.int (i1 + 6))]) dL_law_1399 rfl (by decide) (Nat.le_of_ble_eq_true rfl) rfl ?_
          refine ex_goto 18 dL_law_1402 (by decide) ?_
          refine ex_mskL [true, true, true, true] (L2 := [some (.ref 1000000), some (.ref 0), some (.ref 155), some (.int (i1 + 6))]) rfl ?_
          cases hb
          exact hk ((i1 + 6), M9) rfl
        · rw [if_neg c11] at hb
          cases hb
      rw [if_neg c12] at hb
      by_cases c21 : (x4 &&& 63) = 1
      · rw [if_pos c21] at hb
        refine ex_tswI 1 (186) 219 dL_law_33 c21 (by decide) (by decide) ?_
        refine ex_aload_n dL_law_219 rfl ?_
        refine ex_aload_n dL_law_220 rfl ?_
        refine ex_iload_n dL_law_221 rfl ?_
        refine ex_iconst 1 dL_law_222 kI_1 ?_
        refine ex_iadd dL_law_223 ?_
        obtain ⟨x13, qx13, hb⟩ := b1E hb
        refine lx_sld x13 dL_law_224 qx13 ?_
        refine ex_aload_n dL_law_225 rfl ?_
        refine ex_iload_n dL_law_226 rfl ?_
        refine ex_iconst 2 dL_law_227 kI_2 ?_
        refine ex_iadd dL_law_228 ?_
        obtain ⟨x14, qx14, hb⟩ := b1E hb
        refine lx_sld x14 dL_law_229 qx14 ?_
        obtain ⟨p15, ep15, hb⟩ := ltE hb
        refine lx_cVi [.int x13, .int x14] [] 0 10 p15.2 dL_law_230 cl_L_18 im_X10_set cy_X10_set oc_at_0 rfl (Nat.le_of_ble_eq_true rfl) (by decide) (t_X10_set l E x13 x14 M2 ep15.symm) ?_
        refine ex_aload_n dL_law_233 rfl ?_
        refine ex_aload_n dL_law_234 rfl ?_
        refine ex_iload_n dL_law_235 rfl ?_
        refine ex_iconst 1 dL_law_236 kI_1 ?_
        refine ex_iadd dL_law_237 ?_
        obtain ⟨x16, qx16, hb⟩ := b1E hb
        refine lx_sld x16 dL_law_238 qx16 ?_
        refine ex_aload_n dL_law_239 rfl ?_
        refine ex_iload_n dL_law_240 rfl ?_
        refine ex_iconst 2 dL_law_241 kI_2 ?_
        refine ex_iadd dL_law_242 ?_
        obtain ⟨x17, qx17, hb⟩ := b1E hb
        refine lx_sld x17 dL_law_243 qx17 ?_
        obtain ⟨M18, x19, qx19, hb⟩ := b2E hb
        refine lx_cVi [.int x16, .int x17] [.int p15.2] 155 11 x19 dL_law_244 cl_L_22 im_X11_set cy_X11_set oc_at_155 rfl (Nat.le_of_ble_eq_true rfl) (by decide) (t_X11_set l E x16 x17 p15.1 qx19) ?_
        refine ex_icmp_eq 1399 dL_law_247 (by decide) (fun c20 => ?_) (fun c20 => ?_)
        · rw [if_pos c20] at hb
          refine ex_iinc 6 (L2 := [some (.ref 1000000), some (.ref 0), some (.ref 155), some (.int (i1 + 6))]) dL_law_1399 rfl (by decide) (Nat.le_of_ble_eq_true rfl) rfl ?_
          refine ex_goto 18 dL_law_1402 (by decide) ?_
          refine ex_mskL [true, true, true, true] (L2 := [some (.ref 1000000), some (.ref 0), some (.ref 155), some (.int (i1 + 6))]) rfl ?_
          cases hb
          exact hk ((i1 + 6), M18) rfl
        · rw [if_neg c20] at hb
          cases hb
      rw [if_neg c21] at hb
      by_cases c31 : (x4 &&& 63) = 2
      · rw [if_pos c31] at hb
        refine ex_tswI 2 (219) 252 dL_law_33 c31 (by decide) (by decide) ?_
        refine ex_aload_n dL_law_252 rfl ?_
        refine ex_aload_n dL_law_253 rfl ?_
        refine ex_iload_n dL_law_254 rfl ?_
        refine ex_iconst 1 dL_law_255 kI_1 ?_
        refine ex_iadd dL_law_256 ?_
        obtain ⟨x22, qx22, hb⟩ := b1E hb
        refine lx_sld x22 dL_law_257 qx22 ?_
        refine ex_aload_n dL_law_258 rfl ?_
        refine ex_iload_n dL_law_259 rfl ?_
        refine ex_iconst 2 dL_law_260 kI_2 ?_
        refine ex_iadd dL_law_261 ?_
        obtain ⟨x23, qx23, hb⟩ := b1E hb
        refine lx_sld x23 dL_law_262 qx23 ?_
        obtain ⟨M24, x25, qx25, hb⟩ := b2E hb
        refine lx_cVi [.int x22, .int x23] [] 0 10 x25 dL_law_263 cl_L_23 im_X10_feast cy_X10_feast oc_at_0 rfl (Nat.le_of_ble_eq_true rfl) (by decide) (t_X10_feast l E x22 x23 M2 qx25) ?_
        refine ex_aload_n dL_law_266 rfl ?_
        refine ex_aload_n dL_law_267 rfl ?_
        refine ex_iload_n dL_law_268 rfl ?_
        refine ex_iconst 1 dL_law_269 kI_1 ?_
        refine ex_iadd dL_law_270 ?_
        obtain ⟨x26, qx26, hb⟩ := b1E hb
        refine lx_sld x26 dL_law_271 qx26 ?_
        refine ex_aload_n dL_law_272 rfl ?_
        refine ex_iload_n dL_law_273 rfl ?_
        refine ex_iconst 2 dL_law_274 kI_2 ?_
        refine ex_iadd dL_law_275 ?_
        obtain ⟨x27, qx27, hb⟩ := b1E hb
        refine lx_sld x27 dL_law_276 qx27 ?_
        obtain ⟨M28, x29, qx29, hb⟩ := b2E hb
        refine lx_cVi [.int x26, .int x27] [.int x25] 155 11 x29 dL_law_277 cl_L_27 im_X11_feast cy_X11_feast oc_at_155 rfl (Nat.le_of_ble_eq_true rfl) (by decide) (t_X11_feast l E x26 x27 M24 qx29) ?_
        refine ex_icmp_eq 1399 dL_law_280 (by decide) (fun c30 => ?_) (fun c30 => ?_)
        · rw [if_pos c30] at hb
          refine ex_iinc 6 (L2 := [some (.ref 1000000), some (.ref 0), some (.ref 155), some (.int (i1 + 6))]) dL_law_1399 rfl (by decide) (Nat.le_of_ble_eq_true rfl) rfl ?_
          refine ex_goto 18 dL_law_1402 (by decide) ?_
          refine ex_mskL [true, true, true, true] (L2 := [some (.ref 1000000), some (.ref 0), some (.ref 155), some (.int (i1 + 6))]) rfl ?_
          cases hb
          exact hk ((i1 + 6), M28) rfl
        · rw [if_neg c30] at hb
          cases hb
      rw [if_neg c31] at hb
      by_cases c41 : (x4 &&& 63) = 3
      · rw [if_pos c41] at hb
        refine ex_tswI 3 (252) 285 dL_law_33 c41 (by decide) (by decide) ?_
        refine ex_aload_n dL_law_285 rfl ?_
        refine ex_aload_n dL_law_286 rfl ?_
        refine ex_iload_n dL_law_287 rfl ?_
        refine ex_iconst 1 dL_law_288 kI_1 ?_
        refine ex_iadd dL_law_289 ?_
        obtain ⟨x32, qx32, hb⟩ := b1E hb
        refine lx_sld x32 dL_law_290 qx32 ?_
        refine ex_aload_n dL_law_291 rfl ?_
        refine ex_iload_n dL_law_292 rfl ?_
        refine ex_iconst 2 dL_law_293 kI_2 ?_
        refine ex_iadd dL_law_294 ?_
        obtain ⟨x33, qx33, hb⟩ := b1E hb
        refine lx_sld x33 dL_law_295 qx33 ?_
        obtain ⟨M34, x35, qx35, hb⟩ := b2E hb
        refine lx_cVi [.int x32, .int x33] [] 0 10 x35 dL_law_296 cl_L_28 im_X10_forge cy_X10_forge oc_at_0 rfl (Nat.le_of_ble_eq_true rfl) (by decide) (t_X10_forge l E x32 x33 M2 qx35) ?_
        refine ex_aload_n dL_law_299 rfl ?_
        refine ex_aload_n dL_law_300 rfl ?_
        refine ex_iload_n dL_law_301 rfl ?_
        refine ex_iconst 1 dL_law_302 kI_1 ?_
        refine ex_iadd dL_law_303 ?_
        obtain ⟨x36, qx36, hb⟩ := b1E hb
        refine lx_sld x36 dL_law_304 qx36 ?_
        refine ex_aload_n dL_law_305 rfl ?_
        refine ex_iload_n dL_law_306 rfl ?_
        refine ex_iconst 2 dL_law_307 kI_2 ?_
        refine ex_iadd dL_law_308 ?_
        obtain ⟨x37, qx37, hb⟩ := b1E hb
        refine lx_sld x37 dL_law_309 qx37 ?_
        obtain ⟨M38, x39, qx39, hb⟩ := b2E hb
        refine lx_cVi [.int x36, .int x37] [.int x35] 155 11 x39 dL_law_310 cl_L_31 im_X11_forge cy_X11_forge oc_at_155 rfl (Nat.le_of_ble_eq_true rfl) (by decide) (t_X11_forge l E x36 x37 M34 qx39) ?_
        refine ex_icmp_eq 1399 dL_law_313 (by decide) (fun c40 => ?_) (fun c40 => ?_)
        · rw [if_pos c40] at hb
          refine ex_iinc 6 (L2 := [some (.ref 1000000), some (.ref 0), some (.ref 155), some (.int (i1 + 6))]) dL_law_1399 rfl (by decide) (Nat.le_of_ble_eq_true rfl) rfl ?_
          refine ex_goto 18 dL_law_1402 (by decide) ?_
          refine ex_mskL [true, true, true, true] (L2 := [some (.ref 1000000), some (.ref 0), some (.ref 155), some (.int (i1 + 6))]) rfl ?_
          cases hb
          exact hk ((i1 + 6), M38) rfl
        · rw [if_neg c40] at hb
          cases hb
      rw [if_neg c41] at hb
      by_cases c51 : (x4 &&& 63) = 4
      · rw [if_pos c51] at hb
        refine ex_tswI 4 (285) 318 dL_law_33 c51 (by decide) (by decide) ?_
        refine ex_aload_n dL_law_318 rfl ?_
        refine ex_aload_n dL_law_319 rfl ?_
        refine ex_iload_n dL_law_320 rfl ?_
        refine ex_iconst 1 dL_law_321 kI_1 ?_
        refine ex_iadd dL_law_322 ?_
        obtain ⟨x42, qx42, hb⟩ := b1E hb
        refine lx_sld x42 dL_law_323 qx42 ?_
        refine ex_aload_n dL_law_324 rfl ?_
        refine ex_iload_n dL_law_325 rfl ?_
        refine ex_iconst 2 dL_law_326 kI_2 ?_
        refine ex_iadd dL_law_327 ?_
        obtain ⟨x43, qx43, hb⟩ := b1E hb
        refine lx_sld x43 dL_law_328 qx43 ?_
        obtain ⟨M44, x45, qx45, hb⟩ := b2E hb
        refine lx_cVi [.int x42, .int x43] [] 0 10 x45 dL_law_329 cl_L_32 im_X10_cut cy_X10_cut oc_at_0 rfl (Nat.le_of_ble_eq_true rfl) (by decide) (t_X10_cut l E x42 x43 M2 qx45) ?_
        refine ex_aload_n dL_law_332 rfl ?_
        refine ex_aload_n dL_law_333 rfl ?_
        refine ex_iload_n dL_law_334 rfl ?_
        refine ex_iconst 1 dL_law_335 kI_1 ?_
        refine ex_iadd dL_law_336 ?_
        obtain ⟨x46, qx46, hb⟩ := b1E hb
        refine lx_sld x46 dL_law_337 qx46 ?_
        refine ex_aload_n dL_law_338 rfl ?_
        refine ex_iload_n dL_law_339 rfl ?_
        refine ex_iconst 2 dL_law_340 kI_2 ?_
        refine ex_iadd dL_law_341 ?_
        obtain ⟨x47, qx47, hb⟩ := b1E hb
        refine lx_sld x47 dL_law_342 qx47 ?_
        obtain ⟨M48, x49, qx49, hb⟩ := b2E hb
        refine lx_cVi [.int x46, .int x47] [.int x45] 155 11 x49 dL_law_343 cl_L_35 im_X11_cut cy_X11_cut oc_at_155 rfl (Nat.le_of_ble_eq_true rfl) (by decide) (t_X11_cut l E x46 x47 M44 qx49) ?_
        refine ex_icmp_eq 1399 dL_law_346 (by decide) (fun c50 => ?_) (fun c50 => ?_)
        · rw [if_pos c50] at hb
          refine ex_iinc 6 (L2 := [some (.ref 1000000), some (.ref 0), some (.ref 155), some (.int (i1 + 6))]) dL_law_1399 rfl (by decide) (Nat.le_of_ble_eq_true rfl) rfl ?_
          refine ex_goto 18 dL_law_1402 (by decide) ?_
          refine ex_mskL [true, true, true, true] (L2 := [some (.ref 1000000), some (.ref 0), some (.ref 155), some (.int (i1 + 6))]) rfl ?_
          cases hb
          exact hk ((i1 + 6), M48) rfl
        · rw [if_neg c50] at hb
          cases hb
      rw [if_neg c51] at hb
      by_cases c61 : (x4 &&& 63) = 5
      · rw [if_pos c61] at hb
        refine ex_tswI 5 (318) 351 dL_law_33 c61 (by decide) (by decide) ?_
        refine ex_aload_n dL_law_351 rfl ?_
        refine ex_aload_n dL_law_352 rfl ?_
        refine ex_iload_n dL_law_353 rfl ?_
        refine ex_iconst 1 dL_law_354 kI_1 ?_
        refine ex_iadd dL_law_355 ?_
        obtain ⟨x52, qx52, hb⟩ := b1E hb
        refine lx_sld x52 dL_law_356 qx52 ?_
        refine ex_aload_n dL_law_357 rfl ?_
        refine ex_iload_n dL_law_358 rfl ?_
        refine ex_iconst 2 dL_law_359 kI_2 ?_
        refine ex_iadd dL_law_360 ?_
        obtain ⟨x53, qx53, hb⟩ := b1E hb
        refine lx_sld x53 dL_law_361 qx53 ?_
        obtain ⟨M54, x55, qx55, hb⟩ := b2E hb
        refine lx_cVi [.int x52, .int x53] [] 0 10 x55 dL_law_362 cl_L_36 im_X10_join cy_X10_join oc_at_0 rfl (Nat.le_of_ble_eq_true rfl) (by decide) (t_X10_join l E x52 x53 M2 qx55) ?_
        refine ex_aload_n dL_law_365 rfl ?_
        refine ex_aload_n dL_law_366 rfl ?_
        refine ex_iload_n dL_law_367 rfl ?_
        refine ex_iconst 1 dL_law_368 kI_1 ?_
        refine ex_iadd dL_law_369 ?_
        obtain ⟨x56, qx56, hb⟩ := b1E hb
        refine lx_sld x56 dL_law_370 qx56 ?_
        refine ex_aload_n dL_law_371 rfl ?_
        refine ex_iload_n dL_law_372 rfl ?_
        refine ex_iconst 2 dL_law_373 kI_2 ?_
        refine ex_iadd dL_law_374 ?_
        obtain ⟨x57, qx57, hb⟩ := b1E hb
        refine lx_sld x57 dL_law_375 qx57 ?_
        obtain ⟨M58, x59, qx59, hb⟩ := b2E hb
        refine lx_cVi [.int x56, .int x57] [.int x55] 155 11 x59 dL_law_376 cl_L_39 im_X11_join cy_X11_join oc_at_155 rfl (Nat.le_of_ble_eq_true rfl) (by decide) (t_X11_join l E x56 x57 M54 qx59) ?_
        refine ex_icmp_eq 1399 dL_law_379 (by decide) (fun c60 => ?_) (fun c60 => ?_)
        · rw [if_pos c60] at hb
          refine ex_iinc 6 (L2 := [some (.ref 1000000), some (.ref 0), some (.ref 155), some (.int (i1 + 6))]) dL_law_1399 rfl (by decide) (Nat.le_of_ble_eq_true rfl) rfl ?_
          refine ex_goto 18 dL_law_1402 (by decide) ?_
          refine ex_mskL [true, true, true, true] (L2 := [some (.ref 1000000), some (.ref 0), some (.ref 155), some (.int (i1 + 6))]) rfl ?_
          cases hb
          exact hk ((i1 + 6), M58) rfl
        · rw [if_neg c60] at hb
          cases hb
      rw [if_neg c61] at hb
      by_cases c69 : (x4 &&& 63) = 6
      · rw [if_pos c69] at hb
        refine ex_tswI 6 (351) 384 dL_law_33 c69 (by decide) (by decide) ?_
        refine ex_aload_n dL_law_384 rfl ?_
        refine ex_aload_n dL_law_385 rfl ?_
        refine ex_iload_n dL_law_386 rfl ?_
        refine ex_iconst 1 dL_law_387 kI_1 ?_
        refine ex_iadd dL_law_388 ?_
        obtain ⟨x62, qx62, hb⟩ := b1E hb
        refine lx_sld x62 dL_law_389 qx62 ?_
        obtain ⟨M63, x64, qx64, hb⟩ := b2E hb
        refine lx_cVi [.int x62] [] 0 10 x64 dL_law_390 cl_L_40 im_X10_sell cy_X10_sell oc_at_0 rfl (Nat.le_of_ble_eq_true rfl) (by decide) (t_X10_sell l E x62 M2 qx64) ?_
        refine ex_aload_n dL_law_393 rfl ?_
        refine ex_aload_n dL_law_394 rfl ?_
        refine ex_iload_n dL_law_395 rfl ?_
        refine ex_iconst 1 dL_law_396 kI_1 ?_
        refine ex_iadd dL_law_397 ?_
        obtain ⟨x65, qx65, hb⟩ := b1E hb
        refine lx_sld x65 dL_law_398 qx65 ?_
        obtain ⟨M66, x67, qx67, hb⟩ := b2E hb
        refine lx_cVi [.int x65] [.int x64] 155 11 x67 dL_law_399 cl_L_43 im_X11_sell cy_X11_sell oc_at_155 rfl (Nat.le_of_ble_eq_true rfl) (by decide) (t_X11_sell l E x65 M63 qx67) ?_
        refine ex_icmp_eq 1399 dL_law_402 (by decide) (fun c68 => ?_) (fun c68 => ?_)
        · rw [if_pos c68] at hb
          refine ex_iinc 6 (L2 := [some (.ref 1000000), some (.ref 0), some (.ref 155), some (.int (i1 + 6))]) dL_law_1399 rfl (by decide) (Nat.le_of_ble_eq_true rfl) rfl ?_
          refine ex_goto 18 dL_law_1402 (by decide) ?_
          refine ex_mskL [true, true, true, true] (L2 := [some (.ref 1000000), some (.ref 0), some (.ref 155), some (.int (i1 + 6))]) rfl ?_
          cases hb
          exact hk ((i1 + 6), M66) rfl
        · rw [if_neg c68] at hb
          cases hb
      rw [if_neg c69] at hb
      by_cases c77 : (x4 &&& 63) = 7
      · rw [if_pos c77] at hb
        refine ex_tswI 7 (374) 407 dL_law_33 c77 (by decide) (by decide) ?_
        refine ex_aload_n dL_law_407 rfl ?_
        refine ex_aload_n dL_law_408 rfl ?_
        refine ex_iload_n dL_law_409 rfl ?_
        refine ex_iconst 1 dL_law_410 kI_1 ?_
        refine ex_iadd dL_law_411 ?_
        obtain ⟨x70, qx70, hb⟩ := b1E hb
        refine lx_sld x70 dL_law_412 qx70 ?_
        obtain ⟨M71, x72, qx72, hb⟩ := b2E hb
        refine lx_cVi [.int x70] [] 0 10 x72 dL_law_413 cl_L_44 im_X10_days cy_X10_days oc_at_0 rfl (Nat.le_of_ble_eq_true rfl) (by decide) (t_X10_days l E x70 M2 qx72) ?_
        refine ex_aload_n dL_law_416 rfl ?_
        refine ex_aload_n dL_law_417 rfl ?_
        refine ex_iload_n dL_law_418 rfl ?_
        refine ex_iconst 1 dL_law_419 kI_1 ?_
        refine ex_iadd dL_law_420 ?_
        obtain ⟨x73, qx73, hb⟩ := b1E hb
        refine lx_sld x73 dL_law_421 qx73 ?_
        obtain ⟨M74, x75, qx75, hb⟩ := b2E hb
        refine lx_cVi [.int x73] [.int x72] 155 11 x75 dL_law_422 cl_L_47 im_X11_days cy_X11_days oc_at_155 rfl (Nat.le_of_ble_eq_true rfl) (by decide) (t_X11_days l E x73 M71 qx75) ?_
        refine ex_icmp_eq 1399 dL_law_425 (by decide) (fun c76 => ?_) (fun c76 => ?_)
        · rw [if_pos c76] at hb
          refine ex_iinc 6 (L2 := [some (.ref 1000000), some (.ref 0), some (.ref 155), some (.int (i1 + 6))]) dL_law_1399 rfl (by decide) (Nat.le_of_ble_eq_true rfl) rfl ?_
          refine ex_goto 18 dL_law_1402 (by decide) ?_
          refine ex_mskL [true, true, true, true] (L2 := [some (.ref 1000000), some (.ref 0), some (.ref 155), some (.int (i1 + 6))]) rfl ?_
          cases hb
          exact hk ((i1 + 6), M74) rfl
        · rw [if_neg c76] at hb
          cases hb
      rw [if_neg c77] at hb
      by_cases c93 : (x4 &&& 63) = 8
      · rw [if_pos c93] at hb
        refine ex_tswI 8 (397) 430 dL_law_33 c93 (by decide) (by decide) ?_
        refine ex_aload_n dL_law_430 rfl ?_
        refine ex_aload_n dL_law_431 rfl ?_
        refine ex_iload_n dL_law_432 rfl ?_
        refine ex_iconst 1 dL_law_433 kI_1 ?_
        refine ex_iadd dL_law_434 ?_
        obtain ⟨x78, qx78, hb⟩ := b1E hb
        refine lx_sld x78 dL_law_435 qx78 ?_
        refine ex_aload_n dL_law_436 rfl ?_
        refine ex_iload_n dL_law_437 rfl ?_
        refine ex_iconst 2 dL_law_438 kI_2 ?_
        refine ex_iadd dL_law_439 ?_
        obtain ⟨x79, qx79, hb⟩ := b1E hb
        refine lx_sld x79 dL_law_440 qx79 ?_
        refine ex_aload_n dL_law_441 rfl ?_
        refine ex_iload_n dL_law_442 rfl ?_
        refine ex_iconst 3 dL_law_443 kI_3 ?_
        refine ex_iadd dL_law_444 ?_
        obtain ⟨x80, qx80, hb⟩ := b1E hb
        refine lx_sld x80 dL_law_445 qx80 ?_
        refine ex_aload_n dL_law_446 rfl ?_
        refine ex_iload_n dL_law_447 rfl ?_
        refine ex_iconst 4 dL_law_448 kI_4 ?_
        refine ex_iadd dL_law_449 ?_
        obtain ⟨x81, qx81, hb⟩ := b1E hb
        refine lx_sld x81 dL_law_450 qx81 ?_
        refine ex_aload_n dL_law_451 rfl ?_
        refine ex_iload_n dL_law_452 rfl ?_
        refine ex_iconst 5 dL_law_453 kI_5 ?_
        refine ex_iadd dL_law_454 ?_
        obtain ⟨x82, qx82, hb⟩ := b1E hb
        refine lx_sld x82 dL_law_455 qx82 ?_
        obtain ⟨M83, x84, qx84, hb⟩ := b2E hb
        refine lx_cVi [.int x78, .int x79, .int x80, .int x81, .int x82] [] 0 10 x84 dL_law_456 cl_L_48 im_X10_feed cy_X10_feed oc_at_0 rfl (Nat.le_of_ble_eq_true rfl) (by decide) (t_X10_feed l E x78 x79 x80 x81 x82 M2 qx84) ?_
        refine ex_aload_n dL_law_459 rfl ?_
        refine ex_aload_n dL_law_460 rfl ?_
        refine ex_iload_n dL_law_461 rfl ?_
        refine ex_iconst 1 dL_law_462 kI_1 ?_
        refine ex_iadd dL_law_463 ?_
        obtain ⟨x85, qx85, hb⟩ := b1E hb
        refine lx_sld x85 dL_law_464 qx85 ?_
        refine ex_aload_n dL_law_465 rfl ?_
        refine ex_iload_n dL_law_466 rfl ?_
        refine ex_iconst 2 dL_law_467 kI_2 ?_
        refine ex_iadd dL_law_468 ?_
        obtain ⟨x86, qx86, hb⟩ := b1E hb
        refine lx_sld x86 dL_law_469 qx86 ?_
        refine ex_aload_n dL_law_470 rfl ?_
        refine ex_iload_n dL_law_471 rfl ?_
        refine ex_iconst 3 dL_law_472 kI_3 ?_
        refine ex_iadd dL_law_473 ?_
        obtain ⟨x87, qx87, hb⟩ := b1E hb
        refine lx_sld x87 dL_law_474 qx87 ?_
        refine ex_aload_n dL_law_475 rfl ?_
        refine ex_iload_n dL_law_476 rfl ?_
        refine ex_iconst 4 dL_law_477 kI_4 ?_
        refine ex_iadd dL_law_478 ?_
        obtain ⟨x88, qx88, hb⟩ := b1E hb
        refine lx_sld x88 dL_law_479 qx88 ?_
        refine ex_aload_n dL_law_480 rfl ?_
        refine ex_iload_n dL_law_481 rfl ?_
        refine ex_iconst 5 dL_law_482 kI_5 ?_
        refine ex_iadd dL_law_483 ?_
        obtain ⟨x89, qx89, hb⟩ := b1E hb
        refine lx_sld x89 dL_law_484 qx89 ?_
        obtain ⟨M90, x91, qx91, hb⟩ := b2E hb
        refine lx_cVi [.int x85, .int x86, .int x87, .int x88, .int x89] [.int x84] 155 11 x91 dL_law_485 cl_L_52 im_X11_feed cy_X11_feed oc_at_155 rfl (Nat.le_of_ble_eq_true rfl) (by decide) (t_X11_feed l E x85 x86 x87 x88 x89 M83 qx91) ?_
        refine ex_icmp_eq 1399 dL_law_488 (by decide) (fun c92 => ?_) (fun c92 => ?_)
        · rw [if_pos c92] at hb
          refine ex_iinc 6 (L2 := [some (.ref 1000000), some (.ref 0), some (.ref 155), some (.int (i1 + 6))]) dL_law_1399 rfl (by decide) (Nat.le_of_ble_eq_true rfl) rfl ?_
          refine ex_goto 18 dL_law_1402 (by decide) ?_
          refine ex_mskL [true, true, true, true] (L2 := [some (.ref 1000000), some (.ref 0), some (.ref 155), some (.int (i1 + 6))]) rfl ?_
          cases hb
          exact hk ((i1 + 6), M90) rfl
        · rw [if_neg c92] at hb
          cases hb
      rw [if_neg c93] at hb
      by_cases c99 : (x4 &&& 63) = 9
      · rw [if_pos c99] at hb
        refine ex_tswI 9 (460) 493 dL_law_33 c99 (by decide) (by decide) ?_
        refine ex_aload_n dL_law_493 rfl ?_
        refine ex_aload_n dL_law_494 rfl ?_
        refine ex_iload_n dL_law_495 rfl ?_
        refine ex_iconst 1 dL_law_496 kI_1 ?_
        refine ex_iadd dL_law_497 ?_
        obtain ⟨x94, qx94, hb⟩ := b1E hb
        refine lx_sld x94 dL_law_498 qx94 ?_
        obtain ⟨p95, ep95, hb⟩ := ltE hb
        refine lx_cVi [.int x94] [] 0 10 p95.2 dL_law_499 cl_L_53 im_X10_end cy_X10_end oc_at_0 rfl (Nat.le_of_ble_eq_true rfl) (by decide) (t_X10_end l E x94 M2 ep95.symm) ?_
        refine ex_aload_n dL_law_502 rfl ?_
        refine ex_aload_n dL_law_503 rfl ?_
        refine ex_iload_n dL_law_504 rfl ?_
        refine ex_iconst 1 dL_law_505 kI_1 ?_
        refine ex_iadd dL_law_506 ?_
        obtain ⟨x96, qx96, hb⟩ := b1E hb
        refine lx_sld x96 dL_law_507 qx96 ?_
        obtain ⟨p97, ep97, hb⟩ := ltE hb
        refine lx_cVi [.int x96] [.int p95.2] 155 11 p97.2 dL_law_508 cl_L_57 im_X11_end cy_X11_end oc_at_155 rfl (Nat.le_of_ble_eq_true rfl) (by decide) (t_X11_end l E x96 p95.1 ep97.symm) ?_
        refine ex_icmp_eq 1399 dL_law_511 (by decide) (fun c98 => ?_) (fun c98 => ?_)
        · rw [if_pos c98] at hb
          refine ex_iinc 6 (L2 := [some (.ref 1000000), some (.ref 0), some (.ref 155), some (.int (i1 + 6))]) dL_law_1399 rfl (by decide) (Nat.le_of_ble_eq_true rfl) rfl ?_
          refine ex_goto 18 dL_law_1402 (by decide) ?_
          refine ex_mskL [true, true, true, true] (L2 := [some (.ref 1000000), some (.ref 0), some (.ref 155), some (.int (i1 + 6))]) rfl ?_
          cases hb
          exact hk ((i1 + 6), p97.1) rfl
        · rw [if_neg c98] at hb
          cases hb
      rw [if_neg c99] at hb
      by_cases c107 : (x4 &&& 63) = 10
      · rw [if_pos c107] at hb
        refine ex_tswI 10 (483) 516 dL_law_33 c107 (by decide) (by decide) ?_
        refine ex_aload_n dL_law_516 rfl ?_
        refine ex_aload_n dL_law_517 rfl ?_
        refine ex_iload_n dL_law_518 rfl ?_
        refine ex_iconst 1 dL_law_519 kI_1 ?_
        refine ex_iadd dL_law_520 ?_
        obtain ⟨x100, qx100, hb⟩ := b1E hb
        refine lx_sld x100 dL_law_521 qx100 ?_
        obtain ⟨M101, x102, qx102, hb⟩ := b2E hb
        refine lx_cVi [.int x100] [] 0 10 x102 dL_law_522 cl_L_58 im_X10_text cy_X10_text oc_at_0 rfl (Nat.le_of_ble_eq_true rfl) (by decide) (t_X10_text l E x100 M2 qx102) ?_
        refine ex_aload_n dL_law_525 rfl ?_
        refine ex_aload_n dL_law_526 rfl ?_
        refine ex_iload_n dL_law_527 rfl ?_
        refine ex_iconst 1 dL_law_528 kI_1 ?_
        refine ex_iadd dL_law_529 ?_
        obtain ⟨x103, qx103, hb⟩ := b1E hb
        refine lx_sld x103 dL_law_530 qx103 ?_
        obtain ⟨M104, x105, qx105, hb⟩ := b2E hb
        refine lx_cVi [.int x103] [.int x102] 155 11 x105 dL_law_531 cl_L_61 im_X11_text cy_X11_text oc_at_155 rfl (Nat.le_of_ble_eq_true rfl) (by decide) (t_X11_text l E x103 M101 qx105) ?_
        refine ex_icmp_eq 1399 dL_law_534 (by decide) (fun c106 => ?_) (fun c106 => ?_)
        · rw [if_pos c106] at hb
          refine ex_iinc 6 (L2 := [some (.ref 1000000), some (.ref 0), some (.ref 155), some (.int (i1 + 6))]) dL_law_1399 rfl (by decide) (Nat.le_of_ble_eq_true rfl) rfl ?_
          refine ex_goto 18 dL_law_1402 (by decide) ?_
          refine ex_mskL [true, true, true, true] (L2 := [some (.ref 1000000), some (.ref 0), some (.ref 155), some (.int (i1 + 6))]) rfl ?_
          cases hb
          exact hk ((i1 + 6), M104) rfl
        · rw [if_neg c106] at hb
          cases hb
      rw [if_neg c107] at hb
      by_cases c111 : (x4 &&& 63) = 11
      · rw [if_pos c111] at hb
        refine ex_tswI 11 (506) 539 dL_law_33 c111 (by decide) (by decide) ?_
        refine ex_aload_n dL_law_539 rfl ?_
        refine ex_aload_n dL_law_540 rfl ?_
        refine ex_iload_n dL_law_541 rfl ?_
        refine ex_iconst 1 dL_law_542 kI_1 ?_
        refine ex_iadd dL_law_543 ?_
        obtain ⟨x108, qx108, hb⟩ := b1E hb
        refine lx_sld x108 dL_law_544 qx108 ?_
        refine lx_cVi [.int x108] [] 0 10 (f_X10_fault x108 M2) dL_law_545 cl_L_62 im_X10_fault cy_X10_fault oc_at_0 rfl (Nat.le_of_ble_eq_true rfl) (by decide) (t_X10_fault l E x108 M2 rfl) ?_
        refine ex_aload_n dL_law_548 rfl ?_
        refine ex_aload_n dL_law_549 rfl ?_
        refine ex_iload_n dL_law_550 rfl ?_
        refine ex_iconst 1 dL_law_551 kI_1 ?_
        refine ex_iadd dL_law_552 ?_
        obtain ⟨x109, qx109, hb⟩ := b1E hb
        refine lx_sld x109 dL_law_553 qx109 ?_
        refine lx_cVi [.int x109] [.int (f_X10_fault x108 M2)] 155 11 (f_X11_fault x109 M2) dL_law_554 cl_L_65 im_X11_fault cy_X11_fault oc_at_155 rfl (Nat.le_of_ble_eq_true rfl) (by decide) (t_X11_fault l E x109 M2 rfl) ?_
        refine ex_icmp_eq 1399 dL_law_557 (by decide) (fun c110 => ?_) (fun c110 => ?_)
        · rw [if_pos c110] at hb
          refine ex_iinc 6 (L2 := [some (.ref 1000000), some (.ref 0), some (.ref 155), some (.int (i1 + 6))]) dL_law_1399 rfl (by decide) (Nat.le_of_ble_eq_true rfl) rfl ?_
          refine ex_goto 18 dL_law_1402 (by decide) ?_
          refine ex_mskL [true, true, true, true] (L2 := [some (.ref 1000000), some (.ref 0), some (.ref 155), some (.int (i1 + 6))]) rfl ?_
          cases hb
          exact hk ((i1 + 6), M2) rfl
        · rw [if_neg c110] at hb
          cases hb
      rw [if_neg c111] at hb
      by_cases c121 : (x4 &&& 63) = 12
      · rw [if_pos c121] at hb
        refine ex_tswI 12 (529) 562 dL_law_33 c121 (by decide) (by decide) ?_
        refine ex_aload_n dL_law_562 rfl ?_
        refine ex_aload_n dL_law_563 rfl ?_
        refine ex_iload_n dL_law_564 rfl ?_
        refine ex_iconst 1 dL_law_565 kI_1 ?_
        refine ex_iadd dL_law_566 ?_
        obtain ⟨x112, qx112, hb⟩ := b1E hb
        refine lx_sld x112 dL_law_567 qx112 ?_
        refine ex_aload_n dL_law_568 rfl ?_
        refine ex_iload_n dL_law_569 rfl ?_
        refine ex_iconst 2 dL_law_570 kI_2 ?_
        refine ex_iadd dL_law_571 ?_
        obtain ⟨x113, qx113, hb⟩ := b1E hb
        refine lx_sld x113 dL_law_572 qx113 ?_
        obtain ⟨M114, x115, qx115, hb⟩ := b2E hb
        refine lx_cVi [.int x112, .int x113] [] 0 10 x115 dL_law_573 cl_L_66 im_X10_remain cy_X10_remain oc_at_0 rfl (Nat.le_of_ble_eq_true rfl) (by decide) (t_X10_remain l E x112 x113 M2 qx115) ?_
        refine ex_aload_n dL_law_576 rfl ?_
        refine ex_aload_n dL_law_577 rfl ?_
        refine ex_iload_n dL_law_578 rfl ?_
        refine ex_iconst 1 dL_law_579 kI_1 ?_
        refine ex_iadd dL_law_580 ?_
        obtain ⟨x116, qx116, hb⟩ := b1E hb
        refine lx_sld x116 dL_law_581 qx116 ?_
        refine ex_aload_n dL_law_582 rfl ?_
        refine ex_iload_n dL_law_583 rfl ?_
        refine ex_iconst 2 dL_law_584 kI_2 ?_
        refine ex_iadd dL_law_585 ?_
        obtain ⟨x117, qx117, hb⟩ := b1E hb
        refine lx_sld x117 dL_law_586 qx117 ?_
        obtain ⟨M118, x119, qx119, hb⟩ := b2E hb
        refine lx_cVi [.int x116, .int x117] [.int x115] 155 11 x119 dL_law_587 cl_L_69 im_X11_remain cy_X11_remain oc_at_155 rfl (Nat.le_of_ble_eq_true rfl) (by decide) (t_X11_remain l E x116 x117 M114 qx119) ?_
        refine ex_icmp_eq 1399 dL_law_590 (by decide) (fun c120 => ?_) (fun c120 => ?_)
        · rw [if_pos c120] at hb
          refine ex_iinc 6 (L2 := [some (.ref 1000000), some (.ref 0), some (.ref 155), some (.int (i1 + 6))]) dL_law_1399 rfl (by decide) (Nat.le_of_ble_eq_true rfl) rfl ?_
          refine ex_goto 18 dL_law_1402 (by decide) ?_
          refine ex_mskL [true, true, true, true] (L2 := [some (.ref 1000000), some (.ref 0), some (.ref 155), some (.int (i1 + 6))]) rfl ?_
          cases hb
          exact hk ((i1 + 6), M118) rfl
        · rw [if_neg c120] at hb
          cases hb
      rw [if_neg c121] at hb
      by_cases c129 : (x4 &&& 63) = 13
      · rw [if_pos c129] at hb
        refine ex_tswI 13 (562) 595 dL_law_33 c129 (by decide) (by decide) ?_
        refine ex_aload_n dL_law_595 rfl ?_
        refine ex_aload_n dL_law_596 rfl ?_
        refine ex_iload_n dL_law_597 rfl ?_
        refine ex_iconst 1 dL_law_598 kI_1 ?_
        refine ex_iadd dL_law_599 ?_
        obtain ⟨x122, qx122, hb⟩ := b1E hb
        refine lx_sld x122 dL_law_600 qx122 ?_
        refine ex_aload_n dL_law_601 rfl ?_
        refine ex_iload_n dL_law_602 rfl ?_
        refine ex_iconst 2 dL_law_603 kI_2 ?_
        refine ex_iadd dL_law_604 ?_
        obtain ⟨x123, qx123, hb⟩ := b1E hb
        refine lx_sld x123 dL_law_605 qx123 ?_
        obtain ⟨x124, qx124, hb⟩ := b1E hb
        refine lx_cVi [.int x122, .int x123] [] 0 10 x124 dL_law_606 cl_L_70 im_X10_kind cy_X10_kind oc_at_0 rfl (Nat.le_of_ble_eq_true rfl) (by decide) (t_X10_kind l E x122 x123 M2 qx124) ?_
        refine ex_aload_n dL_law_609 rfl ?_
        refine ex_aload_n dL_law_610 rfl ?_
        refine ex_iload_n dL_law_611 rfl ?_
        refine ex_iconst 1 dL_law_612 kI_1 ?_
        refine ex_iadd dL_law_613 ?_
        obtain ⟨x125, qx125, hb⟩ := b1E hb
        refine lx_sld x125 dL_law_614 qx125 ?_
        refine ex_aload_n dL_law_615 rfl ?_
        refine ex_iload_n dL_law_616 rfl ?_
        refine ex_iconst 2 dL_law_617 kI_2 ?_
        refine ex_iadd dL_law_618 ?_
        obtain ⟨x126, qx126, hb⟩ := b1E hb
        refine lx_sld x126 dL_law_619 qx126 ?_
        obtain ⟨x127, qx127, hb⟩ := b1E hb
        refine lx_cVi [.int x125, .int x126] [.int x124] 155 11 x127 dL_law_620 cl_L_73 im_X11_kind cy_X11_kind oc_at_155 rfl (Nat.le_of_ble_eq_true rfl) (by decide) (t_X11_kind l E x125 x126 M2 qx127) ?_
        refine ex_icmp_eq 1399 dL_law_623 (by decide) (fun c128 => ?_) (fun c128 => ?_)
        · rw [if_pos c128] at hb
          refine ex_iinc 6 (L2 := [some (.ref 1000000), some (.ref 0), some (.ref 155), some (.int (i1 + 6))]) dL_law_1399 rfl (by decide) (Nat.le_of_ble_eq_true rfl) rfl ?_
          refine ex_goto 18 dL_law_1402 (by decide) ?_
          refine ex_mskL [true, true, true, true] (L2 := [some (.ref 1000000), some (.ref 0), some (.ref 155), some (.int (i1 + 6))]) rfl ?_
          cases hb
          exact hk ((i1 + 6), M2) rfl
        · rw [if_neg c128] at hb
          cases hb
      rw [if_neg c129] at hb
      by_cases c145 : (x4 &&& 63) = 14
      · rw [if_pos c145] at hb
        refine ex_tswI 14 (595) 628 dL_law_33 c145 (by decide) (by decide) ?_
        refine ex_aload_n dL_law_628 rfl ?_
        refine ex_aload_n dL_law_629 rfl ?_
        refine ex_iload_n dL_law_630 rfl ?_
        refine ex_iconst 1 dL_law_631 kI_1 ?_
        refine ex_iadd dL_law_632 ?_
        obtain ⟨x130, qx130, hb⟩ := b1E hb
        refine lx_sld x130 dL_law_633 qx130 ?_
        refine ex_aload_n dL_law_634 rfl ?_
        refine ex_iload_n dL_law_635 rfl ?_
        refine ex_iconst 2 dL_law_636 kI_2 ?_
        refine ex_iadd dL_law_637 ?_
        obtain ⟨x131, qx131, hb⟩ := b1E hb
        refine lx_sld x131 dL_law_638 qx131 ?_
        refine ex_aload_n dL_law_639 rfl ?_
        refine ex_iload_n dL_law_640 rfl ?_
        refine ex_iconst 3 dL_law_641 kI_3 ?_
        refine ex_iadd dL_law_642 ?_
        obtain ⟨x132, qx132, hb⟩ := b1E hb
        refine lx_sld x132 dL_law_643 qx132 ?_
        obtain ⟨x134, ex134, hb⟩ := ltE hb
        have Jx134 : LX l E nm 652 [some (.ref 1000000), some (.ref 0), some (.ref 155), some (.int i1)] [.int x134, .int x131, .int x130, .ref 0] M2 := by
          obtain ⟨M135, x136, qx136, hb⟩ := b2E hb
          refine lx_cVi [.int x130, .int x131, .int x134] [] 0 10 x136 dL_law_652 cl_L_74 im_X10_left cy_X10_left oc_at_0 rfl (Nat.le_of_ble_eq_true rfl) (by decide) (t_X10_left l E x130 x131 x134 M2 qx136) ?_
          refine ex_aload_n dL_law_655 rfl ?_
          refine ex_aload_n dL_law_656 rfl ?_
          refine ex_iload_n dL_law_657 rfl ?_
          refine ex_iconst 1 dL_law_658 kI_1 ?_
          refine ex_iadd dL_law_659 ?_
          obtain ⟨x137, qx137, hb⟩ := b1E hb
          refine lx_sld x137 dL_law_660 qx137 ?_
          refine ex_aload_n dL_law_661 rfl ?_
          refine ex_iload_n dL_law_662 rfl ?_
          refine ex_iconst 2 dL_law_663 kI_2 ?_
          refine ex_iadd dL_law_664 ?_
          obtain ⟨x138, qx138, hb⟩ := b1E hb
          refine lx_sld x138 dL_law_665 qx138 ?_
          refine ex_aload_n dL_law_666 rfl ?_
          refine ex_iload_n dL_law_667 rfl ?_
          refine ex_iconst 3 dL_law_668 kI_3 ?_
          refine ex_iadd dL_law_669 ?_
          obtain ⟨x139, qx139, hb⟩ := b1E hb
          refine lx_sld x139 dL_law_670 qx139 ?_
          obtain ⟨x141, ex141, hb⟩ := ltE hb
          have Jx141 : LX l E nm 679 [some (.ref 1000000), some (.ref 0), some (.ref 155), some (.int i1)] [.int x141, .int x138, .int x137, .ref 155, .int x136] M135 := by
            obtain ⟨M142, x143, qx143, hb⟩ := b2E hb
            refine lx_cVi [.int x137, .int x138, .int x141] [.int x136] 155 11 x143 dL_law_679 cl_L_78 im_X11_left cy_X11_left oc_at_155 rfl (Nat.le_of_ble_eq_true rfl) (by decide) (t_X11_left l E x137 x138 x141 M135 qx143) ?_
            refine ex_icmp_eq 1399 dL_law_682 (by decide) (fun c144 => ?_) (fun c144 => ?_)
            · rw [if_pos c144] at hb
              refine ex_iinc 6 (L2 := [some (.ref 1000000), some (.ref 0), some (.ref 155), some (.int (i1 + 6))]) dL_law_1399 rfl (by decide) (Nat.le_of_ble_eq_true rfl) rfl ?_
              refine ex_goto 18 dL_law_1402 (by decide) ?_
              refine ex_mskL [true, true, true, true] (L2 := [some (.ref 1000000), some (.ref 0), some (.ref 155), some (.int (i1 + 6))]) rfl ?_
              cases hb
              exact hk ((i1 + 6), M142) rfl
            · rw [if_neg c144] at hb
              cases hb
          clear hb
          refine ex_if_eq 678 dL_law_671 (by decide) (fun c140 => ?_) (fun c140 => ?_)
          · rw [if_pos c140] at ex141
            refine ex_iconst 0 dL_law_678 kI_0 ?_
            subst ex141
            exact Jx141
          · rw [if_neg c140] at ex141
            refine ex_iconst 1 dL_law_674 kI_1 ?_
            refine ex_goto 679 dL_law_675 (by decide) ?_
            subst ex141
            exact Jx141
        clear hb
        refine ex_if_eq 651 dL_law_644 (by decide) (fun c133 => ?_) (fun c133 => ?_)
        · rw [if_pos c133] at ex134
          refine ex_iconst 0 dL_law_651 kI_0 ?_
          subst ex134
          exact Jx134
        · rw [if_neg c133] at ex134
          refine ex_iconst 1 dL_law_647 kI_1 ?_
          refine ex_goto 652 dL_law_648 (by decide) ?_
          subst ex134
          exact Jx134
      rw [if_neg c145] at hb
      by_cases c153 : (x4 &&& 63) = 15
      · rw [if_pos c153] at hb
        refine ex_tswI 15 (654) 687 dL_law_33 c153 (by decide) (by decide) ?_
        refine ex_aload_n dL_law_687 rfl ?_
        refine ex_aload_n dL_law_688 rfl ?_
        refine ex_iload_n dL_law_689 rfl ?_
        refine ex_iconst 1 dL_law_690 kI_1 ?_
        refine ex_iadd dL_law_691 ?_
        obtain ⟨x146, qx146, hb⟩ := b1E hb
        refine lx_sld x146 dL_law_692 qx146 ?_
        refine ex_aload_n dL_law_693 rfl ?_
        refine ex_iload_n dL_law_694 rfl ?_
        refine ex_iconst 2 dL_law_695 kI_2 ?_
        refine ex_iadd dL_law_696 ?_
        obtain ⟨x147, qx147, hb⟩ := b1E hb
        refine lx_sld x147 dL_law_697 qx147 ?_
        obtain ⟨x148, qx148, hb⟩ := b1E hb
        refine lx_cVi [.int x146, .int x147] [] 0 10 x148 dL_law_698 cl_L_79 im_X10_want cy_X10_want oc_at_0 rfl (Nat.le_of_ble_eq_true rfl) (by decide) (t_X10_want l E x146 x147 M2 qx148) ?_
        refine ex_aload_n dL_law_701 rfl ?_
        refine ex_aload_n dL_law_702 rfl ?_
        refine ex_iload_n dL_law_703 rfl ?_
        refine ex_iconst 1 dL_law_704 kI_1 ?_
        refine ex_iadd dL_law_705 ?_
        obtain ⟨x149, qx149, hb⟩ := b1E hb
        refine lx_sld x149 dL_law_706 qx149 ?_
        refine ex_aload_n dL_law_707 rfl ?_
        refine ex_iload_n dL_law_708 rfl ?_
        refine ex_iconst 2 dL_law_709 kI_2 ?_
        refine ex_iadd dL_law_710 ?_
        obtain ⟨x150, qx150, hb⟩ := b1E hb
        refine lx_sld x150 dL_law_711 qx150 ?_
        obtain ⟨x151, qx151, hb⟩ := b1E hb
        refine lx_cVi [.int x149, .int x150] [.int x148] 155 11 x151 dL_law_712 cl_L_82 im_X11_want cy_X11_want oc_at_155 rfl (Nat.le_of_ble_eq_true rfl) (by decide) (t_X11_want l E x149 x150 M2 qx151) ?_
        refine ex_icmp_eq 1399 dL_law_715 (by decide) (fun c152 => ?_) (fun c152 => ?_)
        · rw [if_pos c152] at hb
          refine ex_iinc 6 (L2 := [some (.ref 1000000), some (.ref 0), some (.ref 155), some (.int (i1 + 6))]) dL_law_1399 rfl (by decide) (Nat.le_of_ble_eq_true rfl) rfl ?_
          refine ex_goto 18 dL_law_1402 (by decide) ?_
          refine ex_mskL [true, true, true, true] (L2 := [some (.ref 1000000), some (.ref 0), some (.ref 155), some (.int (i1 + 6))]) rfl ?_
          cases hb
          exact hk ((i1 + 6), M2) rfl
        · rw [if_neg c152] at hb
          cases hb
      rw [if_neg c153] at hb
      by_cases c161 : (x4 &&& 63) = 16
      · rw [if_pos c161] at hb
        refine ex_tswI 16 (687) 720 dL_law_33 c161 (by decide) (by decide) ?_
        refine ex_aload_n dL_law_720 rfl ?_
        refine ex_aload_n dL_law_721 rfl ?_
        refine ex_iload_n dL_law_722 rfl ?_
        refine ex_iconst 1 dL_law_723 kI_1 ?_
        refine ex_iadd dL_law_724 ?_
        obtain ⟨x154, qx154, hb⟩ := b1E hb
        refine lx_sld x154 dL_law_725 qx154 ?_
        refine ex_aload_n dL_law_726 rfl ?_
        refine ex_iload_n dL_law_727 rfl ?_
        refine ex_iconst 2 dL_law_728 kI_2 ?_
        refine ex_iadd dL_law_729 ?_
        obtain ⟨x155, qx155, hb⟩ := b1E hb
        refine lx_sld x155 dL_law_730 qx155 ?_
        obtain ⟨x156, qx156, hb⟩ := b1E hb
        refine lx_cVi [.int x154, .int x155] [] 0 10 x156 dL_law_731 cl_L_83 im_X10_book cy_X10_book oc_at_0 rfl (Nat.le_of_ble_eq_true rfl) (by decide) (t_X10_book l E x154 x155 M2 qx156) ?_
        refine ex_aload_n dL_law_734 rfl ?_
        refine ex_aload_n dL_law_735 rfl ?_
        refine ex_iload_n dL_law_736 rfl ?_
        refine ex_iconst 1 dL_law_737 kI_1 ?_
        refine ex_iadd dL_law_738 ?_
        obtain ⟨x157, qx157, hb⟩ := b1E hb
        refine lx_sld x157 dL_law_739 qx157 ?_
        refine ex_aload_n dL_law_740 rfl ?_
        refine ex_iload_n dL_law_741 rfl ?_
        refine ex_iconst 2 dL_law_742 kI_2 ?_
        refine ex_iadd dL_law_743 ?_
        obtain ⟨x158, qx158, hb⟩ := b1E hb
        refine lx_sld x158 dL_law_744 qx158 ?_
        obtain ⟨x159, qx159, hb⟩ := b1E hb
        refine lx_cVi [.int x157, .int x158] [.int x156] 155 11 x159 dL_law_745 cl_L_86 im_X11_book cy_X11_book oc_at_155 rfl (Nat.le_of_ble_eq_true rfl) (by decide) (t_X11_book l E x157 x158 M2 qx159) ?_
        refine ex_icmp_eq 1399 dL_law_748 (by decide) (fun c160 => ?_) (fun c160 => ?_)
        · rw [if_pos c160] at hb
          refine ex_iinc 6 (L2 := [some (.ref 1000000), some (.ref 0), some (.ref 155), some (.int (i1 + 6))]) dL_law_1399 rfl (by decide) (Nat.le_of_ble_eq_true rfl) rfl ?_
          refine ex_goto 18 dL_law_1402 (by decide) ?_
          refine ex_mskL [true, true, true, true] (L2 := [some (.ref 1000000), some (.ref 0), some (.ref 155), some (.int (i1 + 6))]) rfl ?_
          cases hb
          exact hk ((i1 + 6), M2) rfl
        · rw [if_neg c160] at hb
          cases hb
      rw [if_neg c161] at hb
      by_cases c171 : (x4 &&& 63) = 17
      · rw [if_pos c171] at hb
        refine ex_tswI 17 (720) 753 dL_law_33 c171 (by decide) (by decide) ?_
        refine ex_aload_n dL_law_753 rfl ?_
        refine ex_aload_n dL_law_754 rfl ?_
        refine ex_iload_n dL_law_755 rfl ?_
        refine ex_iconst 1 dL_law_756 kI_1 ?_
        refine ex_iadd dL_law_757 ?_
        obtain ⟨x162, qx162, hb⟩ := b1E hb
        refine lx_sld x162 dL_law_758 qx162 ?_
        refine ex_aload_n dL_law_759 rfl ?_
        refine ex_iload_n dL_law_760 rfl ?_
        refine ex_iconst 2 dL_law_761 kI_2 ?_
        refine ex_iadd dL_law_762 ?_
        obtain ⟨x163, qx163, hb⟩ := b1E hb
        refine lx_sld x163 dL_law_763 qx163 ?_
        obtain ⟨M164, x165, qx165, hb⟩ := b2E hb
        refine lx_cVi [.int x162, .int x163] [] 0 10 x165 dL_law_764 cl_L_87 im_X10_goes cy_X10_goes oc_at_0 rfl (Nat.le_of_ble_eq_true rfl) (by decide) (t_X10_goes l E x162 x163 M2 qx165) ?_
        refine ex_aload_n dL_law_767 rfl ?_
        refine ex_aload_n dL_law_768 rfl ?_
        refine ex_iload_n dL_law_769 rfl ?_
        refine ex_iconst 1 dL_law_770 kI_1 ?_
        refine ex_iadd dL_law_771 ?_
        obtain ⟨x166, qx166, hb⟩ := b1E hb
        refine lx_sld x166 dL_law_772 qx166 ?_
        refine ex_aload_n dL_law_773 rfl ?_
        refine ex_iload_n dL_law_774 rfl ?_
        refine ex_iconst 2 dL_law_775 kI_2 ?_
        refine ex_iadd dL_law_776 ?_
        obtain ⟨x167, qx167, hb⟩ := b1E hb
        refine lx_sld x167 dL_law_777 qx167 ?_
        obtain ⟨M168, x169, qx169, hb⟩ := b2E hb
        refine lx_cVi [.int x166, .int x167] [.int x165] 155 11 x169 dL_law_778 cl_L_90 im_X11_goes cy_X11_goes oc_at_155 rfl (Nat.le_of_ble_eq_true rfl) (by decide) (t_X11_goes l E x166 x167 M164 qx169) ?_
        refine ex_icmp_eq 1399 dL_law_781 (by decide) (fun c170 => ?_) (fun c170 => ?_)
        · rw [if_pos c170] at hb
          refine ex_iinc 6 (L2 := [some (.ref 1000000), some (.ref 0), some (.ref 155), some (.int (i1 + 6))]) dL_law_1399 rfl (by decide) (Nat.le_of_ble_eq_true rfl) rfl ?_
          refine ex_goto 18 dL_law_1402 (by decide) ?_
          refine ex_mskL [true, true, true, true] (L2 := [some (.ref 1000000), some (.ref 0), some (.ref 155), some (.int (i1 + 6))]) rfl ?_
          cases hb
          exact hk ((i1 + 6), M168) rfl
        · rw [if_neg c170] at hb
          cases hb
      rw [if_neg c171] at hb
      by_cases c182 : (x4 &&& 63) = 18
      · rw [if_pos c182] at hb
        refine ex_tswI 18 (753) 786 dL_law_33 c182 (by decide) (by decide) ?_
        refine ex_aload_n dL_law_786 rfl ?_
        refine ex_aload_n dL_law_787 rfl ?_
        refine ex_iload_n dL_law_788 rfl ?_
        refine ex_iconst 1 dL_law_789 kI_1 ?_
        refine ex_iadd dL_law_790 ?_
        obtain ⟨x172, qx172, hb⟩ := b1E hb
        refine lx_sld x172 dL_law_791 qx172 ?_
        refine ex_aload_n dL_law_792 rfl ?_
        refine ex_iload_n dL_law_793 rfl ?_
        refine ex_iconst 2 dL_law_794 kI_2 ?_
        refine ex_iadd dL_law_795 ?_
        obtain ⟨x173, qx173, hb⟩ := b1E hb
        refine lx_sld x173 dL_law_796 qx173 ?_
        refine ex_aload_n dL_law_797 rfl ?_
        refine ex_iload_n dL_law_798 rfl ?_
        refine ex_iconst 3 dL_law_799 kI_3 ?_
        refine ex_iadd dL_law_800 ?_
        obtain ⟨x174, qx174, hb⟩ := b1E hb
        refine lx_sld x174 dL_law_801 qx174 ?_
        obtain ⟨M175, x176, qx176, hb⟩ := b2E hb
        refine lx_cVi [.int x172, .int x173, .int x174] [] 0 10 x176 dL_law_802 cl_L_91 im_X10_joins cy_X10_joins oc_at_0 rfl (Nat.le_of_ble_eq_true rfl) (by decide) (t_X10_joins l E x172 x173 x174 M2 qx176) ?_
        refine ex_aload_n dL_law_805 rfl ?_
        refine ex_aload_n dL_law_806 rfl ?_
        refine ex_iload_n dL_law_807 rfl ?_
        refine ex_iconst 1 dL_law_808 kI_1 ?_
        refine ex_iadd dL_law_809 ?_
        obtain ⟨x177, qx177, hb⟩ := b1E hb
        refine lx_sld x177 dL_law_810 qx177 ?_
        refine ex_aload_n dL_law_811 rfl ?_
        refine ex_iload_n dL_law_812 rfl ?_
        refine ex_iconst 2 dL_law_813 kI_2 ?_
        refine ex_iadd dL_law_814 ?_
        obtain ⟨x178, qx178, hb⟩ := b1E hb
        refine lx_sld x178 dL_law_815 qx178 ?_
        refine ex_aload_n dL_law_816 rfl ?_
        refine ex_iload_n dL_law_817 rfl ?_
        refine ex_iconst 3 dL_law_818 kI_3 ?_
        refine ex_iadd dL_law_819 ?_
        obtain ⟨x179, qx179, hb⟩ := b1E hb
        refine lx_sld x179 dL_law_820 qx179 ?_
        obtain ⟨x180, qx180, hb⟩ := b1E hb
        refine lx_cVi [.int x177, .int x178, .int x179] [.int x176] 155 11 x180 dL_law_821 cl_L_95 im_X11_joins cy_X11_joins oc_at_155 rfl (Nat.le_of_ble_eq_true rfl) (by decide) (t_X11_joins l E x177 x178 x179 M175 qx180) ?_
        refine ex_icmp_eq 1399 dL_law_824 (by decide) (fun c181 => ?_) (fun c181 => ?_)
        · rw [if_pos c181] at hb
          refine ex_iinc 6 (L2 := [some (.ref 1000000), some (.ref 0), some (.ref 155), some (.int (i1 + 6))]) dL_law_1399 rfl (by decide) (Nat.le_of_ble_eq_true rfl) rfl ?_
          refine ex_goto 18 dL_law_1402 (by decide) ?_
          refine ex_mskL [true, true, true, true] (L2 := [some (.ref 1000000), some (.ref 0), some (.ref 155), some (.int (i1 + 6))]) rfl ?_
          cases hb
          exact hk ((i1 + 6), M175) rfl
        · rw [if_neg c181] at hb
          cases hb
      rw [if_neg c182] at hb
      by_cases c194 : (x4 &&& 63) = 19
      · rw [if_pos c194] at hb
        refine ex_tswI 19 (796) 829 dL_law_33 c194 (by decide) (by decide) ?_
        refine ex_aload_n dL_law_829 rfl ?_
        refine ex_aload_n dL_law_830 rfl ?_
        refine ex_iload_n dL_law_831 rfl ?_
        refine ex_iconst 1 dL_law_832 kI_1 ?_
        refine ex_iadd dL_law_833 ?_
        obtain ⟨x183, qx183, hb⟩ := b1E hb
        refine lx_sld x183 dL_law_834 qx183 ?_
        refine ex_aload_n dL_law_835 rfl ?_
        refine ex_iload_n dL_law_836 rfl ?_
        refine ex_iconst 2 dL_law_837 kI_2 ?_
        refine ex_iadd dL_law_838 ?_
        obtain ⟨x184, qx184, hb⟩ := b1E hb
        refine lx_sld x184 dL_law_839 qx184 ?_
        refine ex_aload_n dL_law_840 rfl ?_
        refine ex_iload_n dL_law_841 rfl ?_
        refine ex_iconst 3 dL_law_842 kI_3 ?_
        refine ex_iadd dL_law_843 ?_
        obtain ⟨x185, qx185, hb⟩ := b1E hb
        refine lx_sld x185 dL_law_844 qx185 ?_
        obtain ⟨M186, x187, qx187, hb⟩ := b2E hb
        refine lx_cVi [.int x183, .int x184, .int x185] [] 0 10 x187 dL_law_845 cl_L_96 im_X10_most cy_X10_most oc_at_0 rfl (Nat.le_of_ble_eq_true rfl) (by decide) (t_X10_most l E x183 x184 x185 M2 qx187) ?_
        refine ex_aload_n dL_law_848 rfl ?_
        refine ex_aload_n dL_law_849 rfl ?_
        refine ex_iload_n dL_law_850 rfl ?_
        refine ex_iconst 1 dL_law_851 kI_1 ?_
        refine ex_iadd dL_law_852 ?_
        obtain ⟨x188, qx188, hb⟩ := b1E hb
        refine lx_sld x188 dL_law_853 qx188 ?_
        refine ex_aload_n dL_law_854 rfl ?_
        refine ex_iload_n dL_law_855 rfl ?_
        refine ex_iconst 2 dL_law_856 kI_2 ?_
        refine ex_iadd dL_law_857 ?_
        obtain ⟨x189, qx189, hb⟩ := b1E hb
        refine lx_sld x189 dL_law_858 qx189 ?_
        refine ex_aload_n dL_law_859 rfl ?_
        refine ex_iload_n dL_law_860 rfl ?_
        refine ex_iconst 3 dL_law_861 kI_3 ?_
        refine ex_iadd dL_law_862 ?_
        obtain ⟨x190, qx190, hb⟩ := b1E hb
        refine lx_sld x190 dL_law_863 qx190 ?_
        obtain ⟨M191, x192, qx192, hb⟩ := b2E hb
        refine lx_cVi [.int x188, .int x189, .int x190] [.int x187] 155 11 x192 dL_law_864 cl_L_99 im_X11_most cy_X11_most oc_at_155 rfl (Nat.le_of_ble_eq_true rfl) (by decide) (t_X11_most l E x188 x189 x190 M186 qx192) ?_
        refine ex_icmp_eq 1399 dL_law_867 (by decide) (fun c193 => ?_) (fun c193 => ?_)
        · rw [if_pos c193] at hb
          refine ex_iinc 6 (L2 := [some (.ref 1000000), some (.ref 0), some (.ref 155), some (.int (i1 + 6))]) dL_law_1399 rfl (by decide) (Nat.le_of_ble_eq_true rfl) rfl ?_
          refine ex_goto 18 dL_law_1402 (by decide) ?_
          refine ex_mskL [true, true, true, true] (L2 := [some (.ref 1000000), some (.ref 0), some (.ref 155), some (.int (i1 + 6))]) rfl ?_
          cases hb
          exact hk ((i1 + 6), M191) rfl
        · rw [if_neg c193] at hb
          cases hb
      rw [if_neg c194] at hb
      by_cases c204 : (x4 &&& 63) = 20
      · rw [if_pos c204] at hb
        refine ex_tswI 20 (839) 872 dL_law_33 c204 (by decide) (by decide) ?_
        refine ex_aload_n dL_law_872 rfl ?_
        refine ex_aload_n dL_law_873 rfl ?_
        refine ex_iload_n dL_law_874 rfl ?_
        refine ex_iconst 1 dL_law_875 kI_1 ?_
        refine ex_iadd dL_law_876 ?_
        obtain ⟨x195, qx195, hb⟩ := b1E hb
        refine lx_sld x195 dL_law_877 qx195 ?_
        refine ex_aload_n dL_law_878 rfl ?_
        refine ex_iload_n dL_law_879 rfl ?_
        refine ex_iconst 2 dL_law_880 kI_2 ?_
        refine ex_iadd dL_law_881 ?_
        obtain ⟨x196, qx196, hb⟩ := b1E hb
        refine lx_sld x196 dL_law_882 qx196 ?_
        obtain ⟨M197, x198, qx198, hb⟩ := b2E hb
        refine lx_cVi [.int x195, .int x196] [] 0 10 x198 dL_law_883 cl_L_100 im_X10_piece cy_X10_piece oc_at_0 rfl (Nat.le_of_ble_eq_true rfl) (by decide) (t_X10_piece l E x195 x196 M2 qx198) ?_
        refine ex_aload_n dL_law_886 rfl ?_
        refine ex_aload_n dL_law_887 rfl ?_
        refine ex_iload_n dL_law_888 rfl ?_
        refine ex_iconst 1 dL_law_889 kI_1 ?_
        refine ex_iadd dL_law_890 ?_
        obtain ⟨x199, qx199, hb⟩ := b1E hb
        refine lx_sld x199 dL_law_891 qx199 ?_
        refine ex_aload_n dL_law_892 rfl ?_
        refine ex_iload_n dL_law_893 rfl ?_
        refine ex_iconst 2 dL_law_894 kI_2 ?_
        refine ex_iadd dL_law_895 ?_
        obtain ⟨x200, qx200, hb⟩ := b1E hb
        refine lx_sld x200 dL_law_896 qx200 ?_
        obtain ⟨M201, x202, qx202, hb⟩ := b2E hb
        refine lx_cVi [.int x199, .int x200] [.int x198] 155 11 x202 dL_law_897 cl_L_103 im_X11_piece cy_X11_piece oc_at_155 rfl (Nat.le_of_ble_eq_true rfl) (by decide) (t_X11_piece l E x199 x200 M197 qx202) ?_
        refine ex_icmp_eq 1399 dL_law_900 (by decide) (fun c203 => ?_) (fun c203 => ?_)
        · rw [if_pos c203] at hb
          refine ex_iinc 6 (L2 := [some (.ref 1000000), some (.ref 0), some (.ref 155), some (.int (i1 + 6))]) dL_law_1399 rfl (by decide) (Nat.le_of_ble_eq_true rfl) rfl ?_
          refine ex_goto 18 dL_law_1402 (by decide) ?_
          refine ex_mskL [true, true, true, true] (L2 := [some (.ref 1000000), some (.ref 0), some (.ref 155), some (.int (i1 + 6))]) rfl ?_
          cases hb
          exact hk ((i1 + 6), M201) rfl
        · rw [if_neg c203] at hb
          cases hb
      rw [if_neg c204] at hb
      by_cases c214 : (x4 &&& 63) = 21
      · rw [if_pos c214] at hb
        refine ex_tswI 21 (872) 905 dL_law_33 c214 (by decide) (by decide) ?_
        refine ex_aload_n dL_law_905 rfl ?_
        refine ex_aload_n dL_law_906 rfl ?_
        refine ex_iload_n dL_law_907 rfl ?_
        refine ex_iconst 1 dL_law_908 kI_1 ?_
        refine ex_iadd dL_law_909 ?_
        obtain ⟨x205, qx205, hb⟩ := b1E hb
        refine lx_sld x205 dL_law_910 qx205 ?_
        refine ex_aload_n dL_law_911 rfl ?_
        refine ex_iload_n dL_law_912 rfl ?_
        refine ex_iconst 2 dL_law_913 kI_2 ?_
        refine ex_iadd dL_law_914 ?_
        obtain ⟨x206, qx206, hb⟩ := b1E hb
        refine lx_sld x206 dL_law_915 qx206 ?_
        obtain ⟨M207, x208, qx208, hb⟩ := b2E hb
        refine lx_cVi [.int x205, .int x206] [] 0 10 x208 dL_law_916 cl_L_104 im_X10_cuts cy_X10_cuts oc_at_0 rfl (Nat.le_of_ble_eq_true rfl) (by decide) (t_X10_cuts l E x205 x206 M2 qx208) ?_
        refine ex_aload_n dL_law_919 rfl ?_
        refine ex_aload_n dL_law_920 rfl ?_
        refine ex_iload_n dL_law_921 rfl ?_
        refine ex_iconst 1 dL_law_922 kI_1 ?_
        refine ex_iadd dL_law_923 ?_
        obtain ⟨x209, qx209, hb⟩ := b1E hb
        refine lx_sld x209 dL_law_924 qx209 ?_
        refine ex_aload_n dL_law_925 rfl ?_
        refine ex_iload_n dL_law_926 rfl ?_
        refine ex_iconst 2 dL_law_927 kI_2 ?_
        refine ex_iadd dL_law_928 ?_
        obtain ⟨x210, qx210, hb⟩ := b1E hb
        refine lx_sld x210 dL_law_929 qx210 ?_
        obtain ⟨M211, x212, qx212, hb⟩ := b2E hb
        refine lx_cVi [.int x209, .int x210] [.int x208] 155 11 x212 dL_law_930 cl_L_107 im_X11_cuts cy_X11_cuts oc_at_155 rfl (Nat.le_of_ble_eq_true rfl) (by decide) (t_X11_cuts l E x209 x210 M207 qx212) ?_
        refine ex_icmp_eq 1399 dL_law_933 (by decide) (fun c213 => ?_) (fun c213 => ?_)
        · rw [if_pos c213] at hb
          refine ex_iinc 6 (L2 := [some (.ref 1000000), some (.ref 0), some (.ref 155), some (.int (i1 + 6))]) dL_law_1399 rfl (by decide) (Nat.le_of_ble_eq_true rfl) rfl ?_
          refine ex_goto 18 dL_law_1402 (by decide) ?_
          refine ex_mskL [true, true, true, true] (L2 := [some (.ref 1000000), some (.ref 0), some (.ref 155), some (.int (i1 + 6))]) rfl ?_
          cases hb
          exact hk ((i1 + 6), M211) rfl
        · rw [if_neg c213] at hb
          cases hb
      rw [if_neg c214] at hb
      by_cases c222 : (x4 &&& 63) = 22
      · rw [if_pos c222] at hb
        refine ex_tswI 22 (905) 938 dL_law_33 c222 (by decide) (by decide) ?_
        refine ex_aload_n dL_law_938 rfl ?_
        refine ex_aload_n dL_law_939 rfl ?_
        refine ex_iload_n dL_law_940 rfl ?_
        refine ex_iconst 1 dL_law_941 kI_1 ?_
        refine ex_iadd dL_law_942 ?_
        obtain ⟨x215, qx215, hb⟩ := b1E hb
        refine lx_sld x215 dL_law_943 qx215 ?_
        obtain ⟨M216, x217, qx217, hb⟩ := b2E hb
        refine lx_cVi [.int x215] [] 0 10 x217 dL_law_944 cl_L_108 im_X10_stalls cy_X10_stalls oc_at_0 rfl (Nat.le_of_ble_eq_true rfl) (by decide) (t_X10_stalls l E x215 M2 qx217) ?_
        refine ex_aload_n dL_law_947 rfl ?_
        refine ex_aload_n dL_law_948 rfl ?_
        refine ex_iload_n dL_law_949 rfl ?_
        refine ex_iconst 1 dL_law_950 kI_1 ?_
        refine ex_iadd dL_law_951 ?_
        obtain ⟨x218, qx218, hb⟩ := b1E hb
        refine lx_sld x218 dL_law_952 qx218 ?_
        obtain ⟨M219, x220, qx220, hb⟩ := b2E hb
        refine lx_cVi [.int x218] [.int x217] 155 11 x220 dL_law_953 cl_L_111 im_X11_stalls cy_X11_stalls oc_at_155 rfl (Nat.le_of_ble_eq_true rfl) (by decide) (t_X11_stalls l E x218 M216 qx220) ?_
        refine ex_icmp_eq 1399 dL_law_956 (by decide) (fun c221 => ?_) (fun c221 => ?_)
        · rw [if_pos c221] at hb
          refine ex_iinc 6 (L2 := [some (.ref 1000000), some (.ref 0), some (.ref 155), some (.int (i1 + 6))]) dL_law_1399 rfl (by decide) (Nat.le_of_ble_eq_true rfl) rfl ?_
          refine ex_goto 18 dL_law_1402 (by decide) ?_
          refine ex_mskL [true, true, true, true] (L2 := [some (.ref 1000000), some (.ref 0), some (.ref 155), some (.int (i1 + 6))]) rfl ?_
          cases hb
          exact hk ((i1 + 6), M219) rfl
        · rw [if_neg c221] at hb
          cases hb
      rw [if_neg c222] at hb
      by_cases c232 : (x4 &&& 63) = 23
      · rw [if_pos c232] at hb
        refine ex_tswI 23 (928) 961 dL_law_33 c232 (by decide) (by decide) ?_
        refine ex_aload_n dL_law_961 rfl ?_
        refine ex_aload_n dL_law_962 rfl ?_
        refine ex_iload_n dL_law_963 rfl ?_
        refine ex_iconst 1 dL_law_964 kI_1 ?_
        refine ex_iadd dL_law_965 ?_
        obtain ⟨x223, qx223, hb⟩ := b1E hb
        refine lx_sld x223 dL_law_966 qx223 ?_
        refine ex_aload_n dL_law_967 rfl ?_
        refine ex_iload_n dL_law_968 rfl ?_
        refine ex_iconst 2 dL_law_969 kI_2 ?_
        refine ex_iadd dL_law_970 ?_
        obtain ⟨x224, qx224, hb⟩ := b1E hb
        refine lx_sld x224 dL_law_971 qx224 ?_
        obtain ⟨M225, x226, qx226, hb⟩ := b2E hb
        refine lx_cVi [.int x223, .int x224] [] 0 10 x226 dL_law_972 cl_L_112 im_X10_test cy_X10_test oc_at_0 rfl (Nat.le_of_ble_eq_true rfl) (by decide) (t_X10_test l E x223 x224 M2 qx226) ?_
        refine ex_aload_n dL_law_975 rfl ?_
        refine ex_aload_n dL_law_976 rfl ?_
        refine ex_iload_n dL_law_977 rfl ?_
        refine ex_iconst 1 dL_law_978 kI_1 ?_
        refine ex_iadd dL_law_979 ?_
        obtain ⟨x227, qx227, hb⟩ := b1E hb
        refine lx_sld x227 dL_law_980 qx227 ?_
        refine ex_aload_n dL_law_981 rfl ?_
        refine ex_iload_n dL_law_982 rfl ?_
        refine ex_iconst 2 dL_law_983 kI_2 ?_
        refine ex_iadd dL_law_984 ?_
        obtain ⟨x228, qx228, hb⟩ := b1E hb
        refine lx_sld x228 dL_law_985 qx228 ?_
        obtain ⟨M229, x230, qx230, hb⟩ := b2E hb
        refine lx_cVi [.int x227, .int x228] [.int x226] 155 11 x230 dL_law_986 cl_L_115 im_X11_test cy_X11_test oc_at_155 rfl (Nat.le_of_ble_eq_true rfl) (by decide) (t_X11_test l E x227 x228 M225 qx230) ?_
        refine ex_icmp_eq 1399 dL_law_989 (by decide) (fun c231 => ?_) (fun c231 => ?_)
        · rw [if_pos c231] at hb
          refine ex_iinc 6 (L2 := [some (.ref 1000000), some (.ref 0), some (.ref 155), some (.int (i1 + 6))]) dL_law_1399 rfl (by decide) (Nat.le_of_ble_eq_true rfl) rfl ?_
          refine ex_goto 18 dL_law_1402 (by decide) ?_
          refine ex_mskL [true, true, true, true] (L2 := [some (.ref 1000000), some (.ref 0), some (.ref 155), some (.int (i1 + 6))]) rfl ?_
          cases hb
          exact hk ((i1 + 6), M229) rfl
        · rw [if_neg c231] at hb
          cases hb
      rw [if_neg c232] at hb
      by_cases c242 : (x4 &&& 63) = 24
      · rw [if_pos c242] at hb
        refine ex_tswI 24 (961) 994 dL_law_33 c242 (by decide) (by decide) ?_
        refine ex_aload_n dL_law_994 rfl ?_
        refine ex_aload_n dL_law_995 rfl ?_
        refine ex_iload_n dL_law_996 rfl ?_
        refine ex_iconst 1 dL_law_997 kI_1 ?_
        refine ex_iadd dL_law_998 ?_
        obtain ⟨x233, qx233, hb⟩ := b1E hb
        refine lx_sld x233 dL_law_999 qx233 ?_
        refine ex_aload_n dL_law_1000 rfl ?_
        refine ex_iload_n dL_law_1001 rfl ?_
        refine ex_iconst 2 dL_law_1002 kI_2 ?_
        refine ex_iadd dL_law_1003 ?_
        obtain ⟨x234, qx234, hb⟩ := b1E hb
        refine lx_sld x234 dL_law_1004 qx234 ?_
        refine ex_aload_n dL_law_1005 rfl ?_
        refine ex_iload_n dL_law_1006 rfl ?_
        refine ex_iconst 3 dL_law_1007 kI_3 ?_
        refine ex_iadd dL_law_1008 ?_
        obtain ⟨x235, qx235, hb⟩ := b1E hb
        refine lx_sld x235 dL_law_1009 qx235 ?_
        obtain ⟨x236, qx236, hb⟩ := b1E hb
        refine lx_cVi [.int x233, .int x234, .int x235] [] 0 10 x236 dL_law_1010 cl_L_116 im_X10_forged cy_X10_forged oc_at_0 rfl (Nat.le_of_ble_eq_true rfl) (by decide) (t_X10_forged l E x233 x234 x235 M2 qx236) ?_
        refine ex_aload_n dL_law_1013 rfl ?_
        refine ex_aload_n dL_law_1014 rfl ?_
        refine ex_iload_n dL_law_1015 rfl ?_
        refine ex_iconst 1 dL_law_1016 kI_1 ?_
        refine ex_iadd dL_law_1017 ?_
        obtain ⟨x237, qx237, hb⟩ := b1E hb
        refine lx_sld x237 dL_law_1018 qx237 ?_
        refine ex_aload_n dL_law_1019 rfl ?_
        refine ex_iload_n dL_law_1020 rfl ?_
        refine ex_iconst 2 dL_law_1021 kI_2 ?_
        refine ex_iadd dL_law_1022 ?_
        obtain ⟨x238, qx238, hb⟩ := b1E hb
        refine lx_sld x238 dL_law_1023 qx238 ?_
        refine ex_aload_n dL_law_1024 rfl ?_
        refine ex_iload_n dL_law_1025 rfl ?_
        refine ex_iconst 3 dL_law_1026 kI_3 ?_
        refine ex_iadd dL_law_1027 ?_
        obtain ⟨x239, qx239, hb⟩ := b1E hb
        refine lx_sld x239 dL_law_1028 qx239 ?_
        obtain ⟨x240, qx240, hb⟩ := b1E hb
        refine lx_cVi [.int x237, .int x238, .int x239] [.int x236] 155 11 x240 dL_law_1029 cl_L_119 im_X11_forged cy_X11_forged oc_at_155 rfl (Nat.le_of_ble_eq_true rfl) (by decide) (t_X11_forged l E x237 x238 x239 M2 qx240) ?_
        refine ex_icmp_eq 1399 dL_law_1032 (by decide) (fun c241 => ?_) (fun c241 => ?_)
        · rw [if_pos c241] at hb
          refine ex_iinc 6 (L2 := [some (.ref 1000000), some (.ref 0), some (.ref 155), some (.int (i1 + 6))]) dL_law_1399 rfl (by decide) (Nat.le_of_ble_eq_true rfl) rfl ?_
          refine ex_goto 18 dL_law_1402 (by decide) ?_
          refine ex_mskL [true, true, true, true] (L2 := [some (.ref 1000000), some (.ref 0), some (.ref 155), some (.int (i1 + 6))]) rfl ?_
          cases hb
          exact hk ((i1 + 6), M2) rfl
        · rw [if_neg c241] at hb
          cases hb
      rw [if_neg c242] at hb
      by_cases c248 : (x4 &&& 63) = 25
      · rw [if_pos c248] at hb
        refine ex_tswI 25 (1004) 1037 dL_law_33 c248 (by decide) (by decide) ?_
        refine ex_aload_n dL_law_1037 rfl ?_
        refine ex_aload_n dL_law_1038 rfl ?_
        refine ex_iload_n dL_law_1039 rfl ?_
        refine ex_iconst 1 dL_law_1040 kI_1 ?_
        refine ex_iadd dL_law_1041 ?_
        obtain ⟨x243, qx243, hb⟩ := b1E hb
        refine lx_sld x243 dL_law_1042 qx243 ?_
        obtain ⟨x244, qx244, hb⟩ := b1E hb
        refine lx_cVi [.int x243] [] 0 10 x244 dL_law_1043 cl_L_120 im_X10_lookAt cy_X10_lookAt oc_at_0 rfl (Nat.le_of_ble_eq_true rfl) (by decide) (t_X10_lookAt l E x243 M2 qx244) ?_
        refine ex_aload_n dL_law_1046 rfl ?_
        refine ex_aload_n dL_law_1047 rfl ?_
        refine ex_iload_n dL_law_1048 rfl ?_
        refine ex_iconst 1 dL_law_1049 kI_1 ?_
        refine ex_iadd dL_law_1050 ?_
        obtain ⟨x245, qx245, hb⟩ := b1E hb
        refine lx_sld x245 dL_law_1051 qx245 ?_
        obtain ⟨x246, qx246, hb⟩ := b1E hb
        refine lx_cVi [.int x245] [.int x244] 155 11 x246 dL_law_1052 cl_L_123 im_X11_lookAt cy_X11_lookAt oc_at_155 rfl (Nat.le_of_ble_eq_true rfl) (by decide) (t_X11_lookAt l E x245 M2 qx246) ?_
        refine ex_icmp_eq 1399 dL_law_1055 (by decide) (fun c247 => ?_) (fun c247 => ?_)
        · rw [if_pos c247] at hb
          refine ex_iinc 6 (L2 := [some (.ref 1000000), some (.ref 0), some (.ref 155), some (.int (i1 + 6))]) dL_law_1399 rfl (by decide) (Nat.le_of_ble_eq_true rfl) rfl ?_
          refine ex_goto 18 dL_law_1402 (by decide) ?_
          refine ex_mskL [true, true, true, true] (L2 := [some (.ref 1000000), some (.ref 0), some (.ref 155), some (.int (i1 + 6))]) rfl ?_
          cases hb
          exact hk ((i1 + 6), M2) rfl
        · rw [if_neg c247] at hb
          cases hb
      rw [if_neg c248] at hb
      by_cases c258 : (x4 &&& 63) = 26
      · rw [if_pos c258] at hb
        refine ex_tswI 26 (1027) 1060 dL_law_33 c258 (by decide) (by decide) ?_
        refine ex_aload_n dL_law_1060 rfl ?_
        refine ex_aload_n dL_law_1061 rfl ?_
        refine ex_iload_n dL_law_1062 rfl ?_
        refine ex_iconst 1 dL_law_1063 kI_1 ?_
        refine ex_iadd dL_law_1064 ?_
        obtain ⟨x249, qx249, hb⟩ := b1E hb
        refine lx_sld x249 dL_law_1065 qx249 ?_
        refine ex_aload_n dL_law_1066 rfl ?_
        refine ex_iload_n dL_law_1067 rfl ?_
        refine ex_iconst 2 dL_law_1068 kI_2 ?_
        refine ex_iadd dL_law_1069 ?_
        obtain ⟨x250, qx250, hb⟩ := b1E hb
        refine lx_sld x250 dL_law_1070 qx250 ?_
        obtain ⟨M251, x252, qx252, hb⟩ := b2E hb
        refine lx_cVi [.int x249, .int x250] [] 0 10 x252 dL_law_1071 cl_L_124 im_X10_crumbs cy_X10_crumbs oc_at_0 rfl (Nat.le_of_ble_eq_true rfl) (by decide) (t_X10_crumbs l E x249 x250 M2 qx252) ?_
        refine ex_aload_n dL_law_1074 rfl ?_
        refine ex_aload_n dL_law_1075 rfl ?_
        refine ex_iload_n dL_law_1076 rfl ?_
        refine ex_iconst 1 dL_law_1077 kI_1 ?_
        refine ex_iadd dL_law_1078 ?_
        obtain ⟨x253, qx253, hb⟩ := b1E hb
        refine lx_sld x253 dL_law_1079 qx253 ?_
        refine ex_aload_n dL_law_1080 rfl ?_
        refine ex_iload_n dL_law_1081 rfl ?_
        refine ex_iconst 2 dL_law_1082 kI_2 ?_
        refine ex_iadd dL_law_1083 ?_
        obtain ⟨x254, qx254, hb⟩ := b1E hb
        refine lx_sld x254 dL_law_1084 qx254 ?_
        obtain ⟨M255, x256, qx256, hb⟩ := b2E hb
        refine lx_cVi [.int x253, .int x254] [.int x252] 155 11 x256 dL_law_1085 cl_L_127 im_X11_crumbs cy_X11_crumbs oc_at_155 rfl (Nat.le_of_ble_eq_true rfl) (by decide) (t_X11_crumbs l E x253 x254 M251 qx256) ?_
        refine ex_icmp_eq 1399 dL_law_1088 (by decide) (fun c257 => ?_) (fun c257 => ?_)
        · rw [if_pos c257] at hb
          refine ex_iinc 6 (L2 := [some (.ref 1000000), some (.ref 0), some (.ref 155), some (.int (i1 + 6))]) dL_law_1399 rfl (by decide) (Nat.le_of_ble_eq_true rfl) rfl ?_
          refine ex_goto 18 dL_law_1402 (by decide) ?_
          refine ex_mskL [true, true, true, true] (L2 := [some (.ref 1000000), some (.ref 0), some (.ref 155), some (.int (i1 + 6))]) rfl ?_
          cases hb
          exact hk ((i1 + 6), M255) rfl
        · rw [if_neg c257] at hb
          cases hb
      rw [if_neg c258] at hb
      by_cases c266 : (x4 &&& 63) = 27
      · rw [if_pos c266] at hb
        refine ex_tswI 27 (1060) 1093 dL_law_33 c266 (by decide) (by decide) ?_
        refine ex_aload_n dL_law_1093 rfl ?_
        refine ex_aload_n dL_law_1094 rfl ?_
        refine ex_iload_n dL_law_1095 rfl ?_
        refine ex_iconst 1 dL_law_1096 kI_1 ?_
        refine ex_iadd dL_law_1097 ?_
        obtain ⟨x259, qx259, hb⟩ := b1E hb
        refine lx_sld x259 dL_law_1098 qx259 ?_
        obtain ⟨M260, x261, qx261, hb⟩ := b2E hb
        refine lx_cVi [.int x259] [] 0 10 x261 dL_law_1099 cl_L_128 im_X10_cooks cy_X10_cooks oc_at_0 rfl (Nat.le_of_ble_eq_true rfl) (by decide) (t_X10_cooks l E x259 M2 qx261) ?_
        refine ex_aload_n dL_law_1102 rfl ?_
        refine ex_aload_n dL_law_1103 rfl ?_
        refine ex_iload_n dL_law_1104 rfl ?_
        refine ex_iconst 1 dL_law_1105 kI_1 ?_
        refine ex_iadd dL_law_1106 ?_
        obtain ⟨x262, qx262, hb⟩ := b1E hb
        refine lx_sld x262 dL_law_1107 qx262 ?_
        obtain ⟨M263, x264, qx264, hb⟩ := b2E hb
        refine lx_cVi [.int x262] [.int x261] 155 11 x264 dL_law_1108 cl_L_131 im_X11_cooks cy_X11_cooks oc_at_155 rfl (Nat.le_of_ble_eq_true rfl) (by decide) (t_X11_cooks l E x262 M260 qx264) ?_
        refine ex_icmp_eq 1399 dL_law_1111 (by decide) (fun c265 => ?_) (fun c265 => ?_)
        · rw [if_pos c265] at hb
          refine ex_iinc 6 (L2 := [some (.ref 1000000), some (.ref 0), some (.ref 155), some (.int (i1 + 6))]) dL_law_1399 rfl (by decide) (Nat.le_of_ble_eq_true rfl) rfl ?_
          refine ex_goto 18 dL_law_1402 (by decide) ?_
          refine ex_mskL [true, true, true, true] (L2 := [some (.ref 1000000), some (.ref 0), some (.ref 155), some (.int (i1 + 6))]) rfl ?_
          cases hb
          exact hk ((i1 + 6), M263) rfl
        · rw [if_neg c265] at hb
          cases hb
      rw [if_neg c266] at hb
      by_cases c276 : (x4 &&& 63) = 28
      · rw [if_pos c276] at hb
        refine ex_tswI 28 (1083) 1116 dL_law_33 c276 (by decide) (by decide) ?_
        refine ex_aload_n dL_law_1116 rfl ?_
        refine ex_aload_n dL_law_1117 rfl ?_
        refine ex_iload_n dL_law_1118 rfl ?_
        refine ex_iconst 1 dL_law_1119 kI_1 ?_
        refine ex_iadd dL_law_1120 ?_
        obtain ⟨x267, qx267, hb⟩ := b1E hb
        refine lx_sld x267 dL_law_1121 qx267 ?_
        refine ex_aload_n dL_law_1122 rfl ?_
        refine ex_iload_n dL_law_1123 rfl ?_
        refine ex_iconst 2 dL_law_1124 kI_2 ?_
        refine ex_iadd dL_law_1125 ?_
        obtain ⟨x268, qx268, hb⟩ := b1E hb
        refine lx_sld x268 dL_law_1126 qx268 ?_
        obtain ⟨M269, x270, qx270, hb⟩ := b2E hb
        refine lx_cVi [.int x267, .int x268] [] 0 10 x270 dL_law_1127 cl_L_132 im_X10_waits cy_X10_waits oc_at_0 rfl (Nat.le_of_ble_eq_true rfl) (by decide) (t_X10_waits l E x267 x268 M2 qx270) ?_
        refine ex_aload_n dL_law_1130 rfl ?_
        refine ex_aload_n dL_law_1131 rfl ?_
        refine ex_iload_n dL_law_1132 rfl ?_
        refine ex_iconst 1 dL_law_1133 kI_1 ?_
        refine ex_iadd dL_law_1134 ?_
        obtain ⟨x271, qx271, hb⟩ := b1E hb
        refine lx_sld x271 dL_law_1135 qx271 ?_
        refine ex_aload_n dL_law_1136 rfl ?_
        refine ex_iload_n dL_law_1137 rfl ?_
        refine ex_iconst 2 dL_law_1138 kI_2 ?_
        refine ex_iadd dL_law_1139 ?_
        obtain ⟨x272, qx272, hb⟩ := b1E hb
        refine lx_sld x272 dL_law_1140 qx272 ?_
        obtain ⟨M273, x274, qx274, hb⟩ := b2E hb
        refine lx_cVi [.int x271, .int x272] [.int x270] 155 11 x274 dL_law_1141 cl_L_135 im_X11_waits cy_X11_waits oc_at_155 rfl (Nat.le_of_ble_eq_true rfl) (by decide) (t_X11_waits l E x271 x272 M269 qx274) ?_
        refine ex_icmp_eq 1399 dL_law_1144 (by decide) (fun c275 => ?_) (fun c275 => ?_)
        · rw [if_pos c275] at hb
          refine ex_iinc 6 (L2 := [some (.ref 1000000), some (.ref 0), some (.ref 155), some (.int (i1 + 6))]) dL_law_1399 rfl (by decide) (Nat.le_of_ble_eq_true rfl) rfl ?_
          refine ex_goto 18 dL_law_1402 (by decide) ?_
          refine ex_mskL [true, true, true, true] (L2 := [some (.ref 1000000), some (.ref 0), some (.ref 155), some (.int (i1 + 6))]) rfl ?_
          cases hb
          exact hk ((i1 + 6), M273) rfl
        · rw [if_neg c275] at hb
          cases hb
      rw [if_neg c276] at hb
      by_cases c284 : (x4 &&& 63) = 29
      · rw [if_pos c284] at hb
        refine ex_tswI 29 (1116) 1149 dL_law_33 c284 (by decide) (by decide) ?_
        refine ex_aload_n dL_law_1149 rfl ?_
        refine ex_aload_n dL_law_1150 rfl ?_
        refine ex_iload_n dL_law_1151 rfl ?_
        refine ex_iconst 1 dL_law_1152 kI_1 ?_
        refine ex_iadd dL_law_1153 ?_
        obtain ⟨x277, qx277, hb⟩ := b1E hb
        refine lx_sld x277 dL_law_1154 qx277 ?_
        obtain ⟨M278, x279, qx279, hb⟩ := b2E hb
        refine lx_cVi [.int x277] [] 0 10 x279 dL_law_1155 cl_L_136 im_X10_limit cy_X10_limit oc_at_0 rfl (Nat.le_of_ble_eq_true rfl) (by decide) (t_X10_limit l E x277 M2 qx279) ?_
        refine ex_aload_n dL_law_1158 rfl ?_
        refine ex_aload_n dL_law_1159 rfl ?_
        refine ex_iload_n dL_law_1160 rfl ?_
        refine ex_iconst 1 dL_law_1161 kI_1 ?_
        refine ex_iadd dL_law_1162 ?_
        obtain ⟨x280, qx280, hb⟩ := b1E hb
        refine lx_sld x280 dL_law_1163 qx280 ?_
        obtain ⟨M281, x282, qx282, hb⟩ := b2E hb
        refine lx_cVi [.int x280] [.int x279] 155 11 x282 dL_law_1164 cl_L_139 im_X11_limit cy_X11_limit oc_at_155 rfl (Nat.le_of_ble_eq_true rfl) (by decide) (t_X11_limit l E x280 M278 qx282) ?_
        refine ex_icmp_eq 1399 dL_law_1167 (by decide) (fun c283 => ?_) (fun c283 => ?_)
        · rw [if_pos c283] at hb
          refine ex_iinc 6 (L2 := [some (.ref 1000000), some (.ref 0), some (.ref 155), some (.int (i1 + 6))]) dL_law_1399 rfl (by decide) (Nat.le_of_ble_eq_true rfl) rfl ?_
          refine ex_goto 18 dL_law_1402 (by decide) ?_
          refine ex_mskL [true, true, true, true] (L2 := [some (.ref 1000000), some (.ref 0), some (.ref 155), some (.int (i1 + 6))]) rfl ?_
          cases hb
          exact hk ((i1 + 6), M281) rfl
        · rw [if_neg c283] at hb
          cases hb
      rw [if_neg c284] at hb
      by_cases c294 : (x4 &&& 63) = 30
      · rw [if_pos c294] at hb
        refine ex_tswI 30 (1139) 1172 dL_law_33 c294 (by decide) (by decide) ?_
        refine ex_aload_n dL_law_1172 rfl ?_
        refine ex_aload_n dL_law_1173 rfl ?_
        refine ex_iload_n dL_law_1174 rfl ?_
        refine ex_iconst 1 dL_law_1175 kI_1 ?_
        refine ex_iadd dL_law_1176 ?_
        obtain ⟨x285, qx285, hb⟩ := b1E hb
        refine lx_sld x285 dL_law_1177 qx285 ?_
        refine ex_aload_n dL_law_1178 rfl ?_
        refine ex_iload_n dL_law_1179 rfl ?_
        refine ex_iconst 2 dL_law_1180 kI_2 ?_
        refine ex_iadd dL_law_1181 ?_
        obtain ⟨x286, qx286, hb⟩ := b1E hb
        refine lx_sld x286 dL_law_1182 qx286 ?_
        refine ex_aload_n dL_law_1183 rfl ?_
        refine ex_iload_n dL_law_1184 rfl ?_
        refine ex_iconst 3 dL_law_1185 kI_3 ?_
        refine ex_iadd dL_law_1186 ?_
        obtain ⟨x287, qx287, hb⟩ := b1E hb
        refine lx_sld x287 dL_law_1187 qx287 ?_
        obtain ⟨x288, qx288, hb⟩ := b1E hb
        refine lx_cVi [.int x285, .int x286, .int x287] [] 0 10 x288 dL_law_1188 cl_L_140 im_X10_dusk cy_X10_dusk oc_at_0 rfl (Nat.le_of_ble_eq_true rfl) (by decide) (t_X10_dusk l E x285 x286 x287 M2 qx288) ?_
        refine ex_aload_n dL_law_1191 rfl ?_
        refine ex_aload_n dL_law_1192 rfl ?_
        refine ex_iload_n dL_law_1193 rfl ?_
        refine ex_iconst 1 dL_law_1194 kI_1 ?_
        refine ex_iadd dL_law_1195 ?_
        obtain ⟨x289, qx289, hb⟩ := b1E hb
        refine lx_sld x289 dL_law_1196 qx289 ?_
        refine ex_aload_n dL_law_1197 rfl ?_
        refine ex_iload_n dL_law_1198 rfl ?_
        refine ex_iconst 2 dL_law_1199 kI_2 ?_
        refine ex_iadd dL_law_1200 ?_
        obtain ⟨x290, qx290, hb⟩ := b1E hb
        refine lx_sld x290 dL_law_1201 qx290 ?_
        refine ex_aload_n dL_law_1202 rfl ?_
        refine ex_iload_n dL_law_1203 rfl ?_
        refine ex_iconst 3 dL_law_1204 kI_3 ?_
        refine ex_iadd dL_law_1205 ?_
        obtain ⟨x291, qx291, hb⟩ := b1E hb
        refine lx_sld x291 dL_law_1206 qx291 ?_
        obtain ⟨x292, qx292, hb⟩ := b1E hb
        refine lx_cVi [.int x289, .int x290, .int x291] [.int x288] 155 11 x292 dL_law_1207 cl_L_143 im_X11_dusk cy_X11_dusk oc_at_155 rfl (Nat.le_of_ble_eq_true rfl) (by decide) (t_X11_dusk l E x289 x290 x291 M2 qx292) ?_
        refine ex_icmp_eq 1399 dL_law_1210 (by decide) (fun c293 => ?_) (fun c293 => ?_)
        · rw [if_pos c293] at hb
          refine ex_iinc 6 (L2 := [some (.ref 1000000), some (.ref 0), some (.ref 155), some (.int (i1 + 6))]) dL_law_1399 rfl (by decide) (Nat.le_of_ble_eq_true rfl) rfl ?_
          refine ex_goto 18 dL_law_1402 (by decide) ?_
          refine ex_mskL [true, true, true, true] (L2 := [some (.ref 1000000), some (.ref 0), some (.ref 155), some (.int (i1 + 6))]) rfl ?_
          cases hb
          exact hk ((i1 + 6), M2) rfl
        · rw [if_neg c293] at hb
          cases hb
      rw [if_neg c294] at hb
      by_cases c308 : (x4 &&& 63) = 31
      · rw [if_pos c308] at hb
        refine ex_tswI 31 (1182) 1215 dL_law_33 c308 (by decide) (by decide) ?_
        refine ex_aload_n dL_law_1215 rfl ?_
        refine ex_aload_n dL_law_1216 rfl ?_
        refine ex_iload_n dL_law_1217 rfl ?_
        refine ex_iconst 1 dL_law_1218 kI_1 ?_
        refine ex_iadd dL_law_1219 ?_
        obtain ⟨x295, qx295, hb⟩ := b1E hb
        refine lx_sld x295 dL_law_1220 qx295 ?_
        refine ex_aload_n dL_law_1221 rfl ?_
        refine ex_iload_n dL_law_1222 rfl ?_
        refine ex_iconst 2 dL_law_1223 kI_2 ?_
        refine ex_iadd dL_law_1224 ?_
        obtain ⟨x296, qx296, hb⟩ := b1E hb
        refine lx_sld x296 dL_law_1225 qx296 ?_
        refine ex_aload_n dL_law_1226 rfl ?_
        refine ex_iload_n dL_law_1227 rfl ?_
        refine ex_iconst 3 dL_law_1228 kI_3 ?_
        refine ex_iadd dL_law_1229 ?_
        obtain ⟨x297, qx297, hb⟩ := b1E hb
        refine lx_sld x297 dL_law_1230 qx297 ?_
        refine ex_aload_n dL_law_1231 rfl ?_
        refine ex_iload_n dL_law_1232 rfl ?_
        refine ex_iconst 4 dL_law_1233 kI_4 ?_
        refine ex_iadd dL_law_1234 ?_
        obtain ⟨x298, qx298, hb⟩ := b1E hb
        refine lx_sld x298 dL_law_1235 qx298 ?_
        obtain ⟨M299, x300, qx300, hb⟩ := b2E hb
        refine lx_cVi [.int x295, .int x296, .int x297, .int x298] [] 0 10 x300 dL_law_1236 cl_L_144 im_X10_trade cy_X10_trade oc_at_0 rfl (Nat.le_of_ble_eq_true rfl) (by decide) (t_X10_trade l E x295 x296 x297 x298 M2 qx300) ?_
        refine ex_aload_n dL_law_1239 rfl ?_
        refine ex_aload_n dL_law_1240 rfl ?_
        refine ex_iload_n dL_law_1241 rfl ?_
        refine ex_iconst 1 dL_law_1242 kI_1 ?_
        refine ex_iadd dL_law_1243 ?_
        obtain ⟨x301, qx301, hb⟩ := b1E hb
        refine lx_sld x301 dL_law_1244 qx301 ?_
        refine ex_aload_n dL_law_1245 rfl ?_
        refine ex_iload_n dL_law_1246 rfl ?_
        refine ex_iconst 2 dL_law_1247 kI_2 ?_
        refine ex_iadd dL_law_1248 ?_
        obtain ⟨x302, qx302, hb⟩ := b1E hb
        refine lx_sld x302 dL_law_1249 qx302 ?_
        refine ex_aload_n dL_law_1250 rfl ?_
        refine ex_iload_n dL_law_1251 rfl ?_
        refine ex_iconst 3 dL_law_1252 kI_3 ?_
        refine ex_iadd dL_law_1253 ?_
        obtain ⟨x303, qx303, hb⟩ := b1E hb
        refine lx_sld x303 dL_law_1254 qx303 ?_
        refine ex_aload_n dL_law_1255 rfl ?_
        refine ex_iload_n dL_law_1256 rfl ?_
        refine ex_iconst 4 dL_law_1257 kI_4 ?_
        refine ex_iadd dL_law_1258 ?_
        obtain ⟨x304, qx304, hb⟩ := b1E hb
        refine lx_sld x304 dL_law_1259 qx304 ?_
        obtain ⟨M305, x306, qx306, hb⟩ := b2E hb
        refine lx_cVi [.int x301, .int x302, .int x303, .int x304] [.int x300] 155 11 x306 dL_law_1260 cl_L_148 im_X11_trade cy_X11_trade oc_at_155 rfl (Nat.le_of_ble_eq_true rfl) (by decide) (t_X11_trade l E x301 x302 x303 x304 M299 qx306) ?_
        refine ex_icmp_eq 1399 dL_law_1263 (by decide) (fun c307 => ?_) (fun c307 => ?_)
        · rw [if_pos c307] at hb
          refine ex_iinc 6 (L2 := [some (.ref 1000000), some (.ref 0), some (.ref 155), some (.int (i1 + 6))]) dL_law_1399 rfl (by decide) (Nat.le_of_ble_eq_true rfl) rfl ?_
          refine ex_goto 18 dL_law_1402 (by decide) ?_
          refine ex_mskL [true, true, true, true] (L2 := [some (.ref 1000000), some (.ref 0), some (.ref 155), some (.int (i1 + 6))]) rfl ?_
          cases hb
          exact hk ((i1 + 6), M305) rfl
        · rw [if_neg c307] at hb
          cases hb
      rw [if_neg c308] at hb
      by_cases c316 : (x4 &&& 63) = 32
      · rw [if_pos c316] at hb
        refine ex_tswI 32 (1235) 1268 dL_law_33 c316 (by decide) (by decide) ?_
        refine ex_aload_n dL_law_1268 rfl ?_
        refine ex_aload_n dL_law_1269 rfl ?_
        refine ex_iload_n dL_law_1270 rfl ?_
        refine ex_iconst 1 dL_law_1271 kI_1 ?_
        refine ex_iadd dL_law_1272 ?_
        obtain ⟨x309, qx309, hb⟩ := b1E hb
        refine lx_sld x309 dL_law_1273 qx309 ?_
        refine ex_aload_n dL_law_1274 rfl ?_
        refine ex_iload_n dL_law_1275 rfl ?_
        refine ex_iconst 2 dL_law_1276 kI_2 ?_
        refine ex_iadd dL_law_1277 ?_
        obtain ⟨x310, qx310, hb⟩ := b1E hb
        refine lx_sld x310 dL_law_1278 qx310 ?_
        obtain ⟨x311, qx311, hb⟩ := b1E hb
        refine lx_cVi [.int x309, .int x310] [] 0 10 x311 dL_law_1279 cl_L_149 im_X10_ring cy_X10_ring oc_at_0 rfl (Nat.le_of_ble_eq_true rfl) (by decide) (t_X10_ring l E x309 x310 M2 qx311) ?_
        refine ex_aload_n dL_law_1282 rfl ?_
        refine ex_aload_n dL_law_1283 rfl ?_
        refine ex_iload_n dL_law_1284 rfl ?_
        refine ex_iconst 1 dL_law_1285 kI_1 ?_
        refine ex_iadd dL_law_1286 ?_
        obtain ⟨x312, qx312, hb⟩ := b1E hb
        refine lx_sld x312 dL_law_1287 qx312 ?_
        refine ex_aload_n dL_law_1288 rfl ?_
        refine ex_iload_n dL_law_1289 rfl ?_
        refine ex_iconst 2 dL_law_1290 kI_2 ?_
        refine ex_iadd dL_law_1291 ?_
        obtain ⟨x313, qx313, hb⟩ := b1E hb
        refine lx_sld x313 dL_law_1292 qx313 ?_
        obtain ⟨x314, qx314, hb⟩ := b1E hb
        refine lx_cVi [.int x312, .int x313] [.int x311] 155 11 x314 dL_law_1293 cl_L_152 im_X11_ring cy_X11_ring oc_at_155 rfl (Nat.le_of_ble_eq_true rfl) (by decide) (t_X11_ring l E x312 x313 M2 qx314) ?_
        refine ex_icmp_eq 1399 dL_law_1296 (by decide) (fun c315 => ?_) (fun c315 => ?_)
        · rw [if_pos c315] at hb
          refine ex_iinc 6 (L2 := [some (.ref 1000000), some (.ref 0), some (.ref 155), some (.int (i1 + 6))]) dL_law_1399 rfl (by decide) (Nat.le_of_ble_eq_true rfl) rfl ?_
          refine ex_goto 18 dL_law_1402 (by decide) ?_
          refine ex_mskL [true, true, true, true] (L2 := [some (.ref 1000000), some (.ref 0), some (.ref 155), some (.int (i1 + 6))]) rfl ?_
          cases hb
          exact hk ((i1 + 6), M2) rfl
        · rw [if_neg c315] at hb
          cases hb
      rw [if_neg c316] at hb
      by_cases c323 : (x4 &&& 63) = 33
      · rw [if_pos c323] at hb
        refine ex_tswI 33 (1268) 1301 dL_law_33 c323 (by decide) (by decide) ?_
        refine ex_aload_n dL_law_1301 rfl ?_
        refine ex_aload_n dL_law_1302 rfl ?_
        refine ex_iload_n dL_law_1303 rfl ?_
        refine ex_iconst 1 dL_law_1304 kI_1 ?_
        refine ex_iadd dL_law_1305 ?_
        obtain ⟨x317, qx317, hb⟩ := b1E hb
        refine lx_sld x317 dL_law_1306 qx317 ?_
        obtain ⟨M318, x319, qx319, hb⟩ := b2E hb
        refine lx_cVi [.int x317] [] 0 10 x319 dL_law_1307 cl_L_153 im_X10_back cy_X10_back oc_at_0 rfl (Nat.le_of_ble_eq_true rfl) (by decide) (t_X10_back l E x317 M2 qx319) ?_
        refine ex_aload_n dL_law_1310 rfl ?_
        refine ex_aload_n dL_law_1311 rfl ?_
        refine ex_iload_n dL_law_1312 rfl ?_
        refine ex_iconst 1 dL_law_1313 kI_1 ?_
        refine ex_iadd dL_law_1314 ?_
        obtain ⟨x320, qx320, hb⟩ := b1E hb
        refine lx_sld x320 dL_law_1315 qx320 ?_
        obtain ⟨x321, qx321, hb⟩ := b1E hb
        refine lx_cVi [.int x320] [.int x319] 155 11 x321 dL_law_1316 cl_L_156 im_X11_back cy_X11_back oc_at_155 rfl (Nat.le_of_ble_eq_true rfl) (by decide) (t_X11_back l E x320 M318 qx321) ?_
        refine ex_icmp_eq 1399 dL_law_1319 (by decide) (fun c322 => ?_) (fun c322 => ?_)
        · rw [if_pos c322] at hb
          refine ex_iinc 6 (L2 := [some (.ref 1000000), some (.ref 0), some (.ref 155), some (.int (i1 + 6))]) dL_law_1399 rfl (by decide) (Nat.le_of_ble_eq_true rfl) rfl ?_
          refine ex_goto 18 dL_law_1402 (by decide) ?_
          refine ex_mskL [true, true, true, true] (L2 := [some (.ref 1000000), some (.ref 0), some (.ref 155), some (.int (i1 + 6))]) rfl ?_
          cases hb
          exact hk ((i1 + 6), M318) rfl
        · rw [if_neg c322] at hb
          cases hb
      rw [if_neg c323] at hb
      by_cases c329 : (x4 &&& 63) = 34
      · rw [if_pos c329] at hb
        refine ex_tswI 34 (1291) 1324 dL_law_33 c329 (by decide) (by decide) ?_
        refine ex_aload_n dL_law_1324 rfl ?_
        obtain ⟨M324, x325, qx325, hb⟩ := b2E hb
        refine lx_cVi [] [] 0 10 x325 dL_law_1325 cl_L_157 im_X10_undo cy_X10_undo oc_at_0 rfl (Nat.le_of_ble_eq_true rfl) (by decide) (t_X10_undo l E M2 qx325) ?_
        refine ex_aload_n dL_law_1328 rfl ?_
        obtain ⟨M326, x327, qx327, hb⟩ := b2E hb
        refine lx_cVi [] [.int x325] 155 11 x327 dL_law_1329 cl_L_161 im_X11_undo cy_X11_undo oc_at_155 rfl (Nat.le_of_ble_eq_true rfl) (by decide) (t_X11_undo l E M324 qx327) ?_
        refine ex_icmp_eq 1399 dL_law_1332 (by decide) (fun c328 => ?_) (fun c328 => ?_)
        · rw [if_pos c328] at hb
          refine ex_iinc 6 (L2 := [some (.ref 1000000), some (.ref 0), some (.ref 155), some (.int (i1 + 6))]) dL_law_1399 rfl (by decide) (Nat.le_of_ble_eq_true rfl) rfl ?_
          refine ex_goto 18 dL_law_1402 (by decide) ?_
          refine ex_mskL [true, true, true, true] (L2 := [some (.ref 1000000), some (.ref 0), some (.ref 155), some (.int (i1 + 6))]) rfl ?_
          cases hb
          exact hk ((i1 + 6), M326) rfl
        · rw [if_neg c328] at hb
          cases hb
      rw [if_neg c329] at hb
      by_cases c341 : (x4 &&& 63) = 35
      · rw [if_pos c341] at hb
        refine ex_tswI 35 (1304) 1337 dL_law_33 c341 (by decide) (by decide) ?_
        refine ex_aload_n dL_law_1337 rfl ?_
        refine ex_aload_n dL_law_1338 rfl ?_
        refine ex_iload_n dL_law_1339 rfl ?_
        refine ex_iconst 1 dL_law_1340 kI_1 ?_
        refine ex_iadd dL_law_1341 ?_
        obtain ⟨x330, qx330, hb⟩ := b1E hb
        refine lx_sld x330 dL_law_1342 qx330 ?_
        obtain ⟨x332, ex332, hb⟩ := ltE hb
        have Jx332 : LX l E nm 1351 [some (.ref 1000000), some (.ref 0), some (.ref 155), some (.int i1)] [.int x332, .ref 0] M2 := by
          obtain ⟨M333, x334, qx334, hb⟩ := b2E hb
          refine lx_cVi [.int x332] [] 0 10 x334 dL_law_1351 cl_L_162 im_X10_image cy_X10_image oc_at_0 rfl (Nat.le_of_ble_eq_true rfl) (by decide) (t_X10_image l E x332 M2 qx334) ?_
          refine ex_aload_n dL_law_1354 rfl ?_
          refine ex_aload_n dL_law_1355 rfl ?_
          refine ex_iload_n dL_law_1356 rfl ?_
          refine ex_iconst 1 dL_law_1357 kI_1 ?_
          refine ex_iadd dL_law_1358 ?_
          obtain ⟨x335, qx335, hb⟩ := b1E hb
          refine lx_sld x335 dL_law_1359 qx335 ?_
          obtain ⟨x337, ex337, hb⟩ := ltE hb
          have Jx337 : LX l E nm 1368 [some (.ref 1000000), some (.ref 0), some (.ref 155), some (.int i1)] [.int x337, .ref 155, .int x334] M333 := by
            obtain ⟨M338, x339, qx339, hb⟩ := b2E hb
            refine lx_cVi [.int x337] [.int x334] 155 11 x339 dL_law_1368 cl_L_166 im_X11_image cy_X11_image oc_at_155 rfl (Nat.le_of_ble_eq_true rfl) (by decide) (t_X11_image l E x337 M333 qx339) ?_
            refine ex_icmp_eq 1399 dL_law_1371 (by decide) (fun c340 => ?_) (fun c340 => ?_)
            · rw [if_pos c340] at hb
              refine ex_iinc 6 (L2 := [some (.ref 1000000), some (.ref 0), some (.ref 155), some (.int (i1 + 6))]) dL_law_1399 rfl (by decide) (Nat.le_of_ble_eq_true rfl) rfl ?_
              refine ex_goto 18 dL_law_1402 (by decide) ?_
              refine ex_mskL [true, true, true, true] (L2 := [some (.ref 1000000), some (.ref 0), some (.ref 155), some (.int (i1 + 6))]) rfl ?_
              cases hb
              exact hk ((i1 + 6), M338) rfl
            · rw [if_neg c340] at hb
              cases hb
          clear hb
          refine ex_if_eq 1367 dL_law_1360 (by decide) (fun c336 => ?_) (fun c336 => ?_)
          · rw [if_pos c336] at ex337
            refine ex_iconst 0 dL_law_1367 kI_0 ?_
            subst ex337
            exact Jx337
          · rw [if_neg c336] at ex337
            refine ex_iconst 1 dL_law_1363 kI_1 ?_
            refine ex_goto 1368 dL_law_1364 (by decide) ?_
            subst ex337
            exact Jx337
        clear hb
        refine ex_if_eq 1350 dL_law_1343 (by decide) (fun c331 => ?_) (fun c331 => ?_)
        · rw [if_pos c331] at ex332
          refine ex_iconst 0 dL_law_1350 kI_0 ?_
          subst ex332
          exact Jx332
        · rw [if_neg c331] at ex332
          refine ex_iconst 1 dL_law_1346 kI_1 ?_
          refine ex_goto 1351 dL_law_1347 (by decide) ?_
          subst ex332
          exact Jx332
      rw [if_neg c341] at hb
      by_cases c347 : (x4 &&& 63) = 36
      · rw [if_pos c347] at hb
        refine ex_tswI 36 (1343) 1376 dL_law_33 c347 (by decide) (by decide) ?_
        refine ex_aload_n dL_law_1376 rfl ?_
        refine ex_aload_n dL_law_1377 rfl ?_
        refine ex_iload_n dL_law_1378 rfl ?_
        refine ex_iconst 1 dL_law_1379 kI_1 ?_
        refine ex_iadd dL_law_1380 ?_
        obtain ⟨x342, qx342, hb⟩ := b1E hb
        refine lx_sld x342 dL_law_1381 qx342 ?_
        obtain ⟨x343, qx343, hb⟩ := b1E hb
        refine lx_cVi [.int x342] [] 0 10 x343 dL_law_1382 cl_L_167 im_X10_look cy_X10_look oc_at_0 rfl (Nat.le_of_ble_eq_true rfl) (by decide) (t_X10_look l E x342 M2 qx343) ?_
        refine ex_aload_n dL_law_1385 rfl ?_
        refine ex_aload_n dL_law_1386 rfl ?_
        refine ex_iload_n dL_law_1387 rfl ?_
        refine ex_iconst 1 dL_law_1388 kI_1 ?_
        refine ex_iadd dL_law_1389 ?_
        obtain ⟨x344, qx344, hb⟩ := b1E hb
        refine lx_sld x344 dL_law_1390 qx344 ?_
        obtain ⟨x345, qx345, hb⟩ := b1E hb
        refine lx_cVi [.int x344] [.int x343] 155 11 x345 dL_law_1391 cl_L_170 im_X11_look cy_X11_look oc_at_155 rfl (Nat.le_of_ble_eq_true rfl) (by decide) (t_X11_look l E x344 M2 qx345) ?_
        refine ex_icmp_eq 1399 dL_law_1394 (by decide) (fun c346 => ?_) (fun c346 => ?_)
        · rw [if_pos c346] at hb
          refine ex_iinc 6 (L2 := [some (.ref 1000000), some (.ref 0), some (.ref 155), some (.int (i1 + 6))]) dL_law_1399 rfl (by decide) (Nat.le_of_ble_eq_true rfl) rfl ?_
          refine ex_goto 18 dL_law_1402 (by decide) ?_
          refine ex_mskL [true, true, true, true] (L2 := [some (.ref 1000000), some (.ref 0), some (.ref 155), some (.int (i1 + 6))]) rfl ?_
          cases hb
          exact hk ((i1 + 6), M2) rfl
        · rw [if_neg c346] at hb
          cases hb
      rw [if_neg c347] at hb
      cases hb)
  exact key FU (0, M) hlq348
