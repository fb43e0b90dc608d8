/-! ===== THE LAW'S LOOP ===== -/
def rdS (E : EV) (i : Int32) : Option Int32 := if inb i (eL E) then some (eX E i.toNatClampNeg) else none
abbrev LX (l : Launch) (E : EV) (nm : String) (pc : Nat) (L : List (Option Value)) (st : List Value) (M : Mem) : Prop := Ex l E (RL, nm, cL_law, 4) 200 169 20639 pc L st (gh M) 169 20639 (fun _ v => v = some (.int 1))
section RL
variable {l : Launch} {E : EV} {X : MI} {d mc ms : Nat} {pc : Nat} {L : List (Option Value)} {G : GH} {ce sl : Nat} {M : Mem} {Po : GH → Option Value → Prop}
theorem lx_sld {i : Int32} {st : List Value} (x : Int32) (hd : decode X.2.2.1 pc = .ok (.iaload, 1)) (h : rdS E i = some x) (kk : Ex l E X d mc ms (pc + 1) L (.int x :: st) G ce sl Po) : Ex l E X d mc ms pc L (.int i :: .ref 1000000 :: st) G ce sl Po := by
  intro p e R s m args below meth c H locs ls Q C h1 h2 hlv hH hz hq
  have K := kk p e R s m args below meth c H locs ls Q C h1 h2 hlv hH hz hq
  unfold rdS at h
  split at h
  · rename_i hi
    cases h
    have hen := C.2.2.2.2.2.1
    have hlow := C.2.2.2.2.2.2.1
    have hX : va_X (eb E) (eL E) (eX E) s s.heap := hen.2.2.2.1.1.kept (hlow.2 _ hen.2.2.2.1.2)
    simp only [List.map_cons, rv, show al E 1000000 = eb E from rfl] at K ⊢
    exact va_sld C.1 C.2.1 hX (Nat.lt_of_lt_of_le hen.2.2.2.1.2 hlow.1) (Nat.not_le.mpr hen.2.2.2.1.2) hH.2 (inb_in hi) hd K
  · cases h
theorem lx_slen {st : List Value} (hd : decode X.2.2.1 pc = .ok (.arraylength, 1)) (kk : Ex l E X d mc ms (pc + 1) L (.int (Int32.ofNat (eL E)) :: st) G ce sl Po) : Ex l E X d mc ms pc L (.ref 1000000 :: st) G ce sl Po := by
  intro p e R s m args below meth c H locs ls Q C h1 h2 hlv hH hz hq
  have K := kk p e R s m args below meth c H locs ls Q C h1 h2 hlv hH hz hq
  have hen := C.2.2.2.2.2.1
  have hlow := C.2.2.2.2.2.2.1
  have hX : va_X (eb E) (eL E) (eX E) s s.heap := hen.2.2.2.1.1.kept (hlow.2 _ hen.2.2.2.1.2)
  simp only [List.map_cons, rv, show al E 1000000 = eb E from rfl] at K ⊢
  exact va_slen C.1 C.2.1 hX (Nat.lt_of_lt_of_le hen.2.2.2.1.2 hlow.1) (Nat.not_le.mpr hen.2.2.2.1.2) hH.2 hd K
theorem lx_cVi (As st : List Value) (b ci : Nat) (x : Int32) {index : Nat} {y : MethodName} {cc' : ByteArray} {nL' : Nat} {ret : Option FieldType} {d' : Nat} {stk : List Value} {M' : Mem} (hd : decode X.2.2.1 pc = .ok (.invokevirtual index, 3)) (hc : CL X.1 index y cc' nL' ret As.length) (hi : Cond.instanceMethod y ∈ lw_tbl ∧ Cond.selects y.cls y y ∈ lw_tbl) (hci : ci < 12 ∧ (cN ci).1 = y.cls) (ho : oc b = some ci) (hst : stk = As.reverse ++ .ref b :: st) (hcat : (st.map fun v => v.category).sum ≤ 8) (hdd : d' + 1 ≤ d) (hrun : RunM l E y cc' nL' ret d' (.ref b :: As) M M' (some (.int x))) (kk : Ex l E X d 169 20639 (pc + 3) L (.int x :: st) (gh M') 169 20639 Po) : Ex l E X d 169 20639 pc L stk (gh M) 169 20639 Po := by
  obtain ⟨sl, hs⟩ := oc_inv ho
  exact ex_callV hd hc hi hci (shp_lt hs) (gh_get hs) hst hcat hdd ⟨Nat.le_refl _, Nat.le_refl _⟩ hrun (fun G' w q => by rw [q.1.1, gh_len, gh_len]; rfl) (fun G' w q => by rw [q.1.1, q.1.2]; exact kk)
end RL
def w_L_law_18 (E : EV) (i1 : Int32) (M2 : Mem) : Option ((Int32 × Mem) ⊕ (Mem)) :=
  if ((Int32.ofNat (eL E)) - 6) < i1 then (some (.inr M2)) else (b1 (rdS E i1) fun x4 => if (x4 &&& 63).toInt < 0 ∨ 36 < (x4 &&& 63).toInt then (some (.inl ((i1 + 6), M2))) else if (x4 &&& 63) = 0 then (b1 (rdS E (i1 + 1)) fun x6 => lt (f_X10_state x6 M2) fun p7 => b1 (rdS E (i1 + 1)) fun x8 => lt (f_X11_state x8 p7.1) fun p9 => if p7.2 = p9.2 then (some (.inl ((i1 + 6), p9.1))) else (none)) else if (x4 &&& 63) = 1 then (b1 (rdS E (i1 + 1)) fun x12 => b1 (rdS E (i1 + 2)) fun x13 => lt (f_X10_set x12 x13 M2) fun p14 => b1 (rdS E (i1 + 1)) fun x15 => b1 (rdS E (i1 + 2)) fun x16 => b2 (f_X11_set x15 x16 p14.1) fun M17 x18 => if p14.2 = x18 then (some (.inl ((i1 + 6), M17))) else (none)) else if (x4 &&& 63) = 2 then (b1 (rdS E (i1 + 1)) fun x21 => b1 (rdS E (i1 + 2)) fun x22 => b2 (f_X10_feast x21 x22 M2) fun M23 x24 => b1 (rdS E (i1 + 1)) fun x25 => b1 (rdS E (i1 + 2)) fun x26 => b2 (f_X11_feast x25 x26 M23) fun M27 x28 => if x24 = x28 then (some (.inl ((i1 + 6), M27))) else (none)) else if (x4 &&& 63) = 3 then (b1 (rdS E (i1 + 1)) fun x31 => b1 (rdS E (i1 + 2)) fun x32 => b2 (f_X10_forge x31 x32 M2) fun M33 x34 => b1 (rdS E (i1 + 1)) fun x35 => b1 (rdS E (i1 + 2)) fun x36 => b2 (f_X11_forge x35 x36 M33) fun M37 x38 => if x34 = x38 then (some (.inl ((i1 + 6), M37))) else (none)) else if (x4 &&& 63) = 4 then (b1 (rdS E (i1 + 1)) fun x41 => b1 (rdS E (i1 + 2)) fun x42 => b2 (f_X10_cut x41 x42 M2) fun M43 x44 => b1 (rdS E (i1 + 1)) fun x45 => b1 (rdS E (i1 + 2)) fun x46 => b2 (f_X11_cut x45 x46 M43) fun M47 x48 => if x44 = x48 then (some (.inl ((i1 + 6), M47))) else (none)) else if (x4 &&& 63) = 5 then (b1 (rdS E (i1 + 1)) fun x51 => b1 (rdS E (i1 + 2)) fun x52 => b2 (f_X10_join x51 x52 M2) fun M53 x54 => b1 (rdS E (i1 + 1)) fun x55 => b1 (rdS E (i1 + 2)) fun x56 => b2 (f_X11_join x55 x56 M53) fun M57 x58 => if x54 = x58 then (some (.inl ((i1 + 6), M57))) else (none)) else if (x4 &&& 63) = 6 then (b1 (rdS E (i1 + 1)) fun x61 => b2 (f_X10_sell x61 M2) fun M62 x63 => b1 (rdS E (i1 + 1)) fun x64 => b2 (f_X11_sell x64 M62) fun M65 x66 => if x63 = x66 then (some (.inl ((i1 + 6), M65))) else (none)) else if (x4 &&& 63) = 7 then (b1 (rdS E (i1 + 1)) fun x69 => b2 (f_X10_days x69 M2) fun M70 x71 => b1 (rdS E (i1 + 1)) fun x72 => b2 (f_X11_days x72 M70) fun M73 x74 => if x71 = x74 then (some (.inl ((i1 + 6), M73))) else (none)) else if (x4 &&& 63) = 8 then (b1 (rdS E (i1 + 1)) fun x77 => b1 (rdS E (i1 + 2)) fun x78 => b1 (rdS E (i1 + 3)) fun x79 => b1 (rdS E (i1 + 4)) fun x80 => b1 (rdS E (i1 + 5)) fun x81 => b2 (f_X10_feed x77 x78 x79 x80 x81 M2) fun M82 x83 => b1 (rdS E (i1 + 1)) fun x84 => b1 (rdS E (i1 + 2)) fun x85 => b1 (rdS E (i1 + 3)) fun x86 => b1 (rdS E (i1 + 4)) fun x87 => b1 (rdS E (i1 + 5)) fun x88 => b2 (f_X11_feed x84 x85 x86 x87 x88 M82) fun M89 x90 => if x83 = x90 then (some (.inl ((i1 + 6), M89))) else (none)) else if (x4 &&& 63) = 9 then (b1 (rdS E (i1 + 1)) fun x93 => lt (f_X10_end x93 M2) fun p94 => b1 (rdS E (i1 + 1)) fun x95 => lt (f_X11_end x95 p94.1) fun p96 => if p94.2 = p96.2 then (some (.inl ((i1 + 6), p96.1))) else (none)) else if (x4 &&& 63) = 10 then (b1 (rdS E (i1 + 1)) fun x99 => b2 (f_X10_text x99 M2) fun M100 x101 => b1 (rdS E (i1 + 1)) fun x102 => b2 (f_X11_text x102 M100) fun M103 x104 => if x101 = x104 then (some (.inl ((i1 + 6), M103))) else (none)) else if (x4 &&& 63) = 11 then (b1 (rdS E (i1 + 1)) fun x107 => b1 (rdS E (i1 + 1)) fun x108 => if (f_X10_fault x107 M2) = (f_X11_fault x108 M2) then (some (.inl ((i1 + 6), M2))) else (none)) else if (x4 &&& 63) = 12 then (b1 (rdS E (i1 + 1)) fun x111 => b1 (rdS E (i1 + 2)) fun x112 => b2 (f_X10_remain x111 x112 M2) fun M113 x114 => b1 (rdS E (i1 + 1)) fun x115 => b1 (rdS E (i1 + 2)) fun x116 => b2 (f_X11_remain x115 x116 M113) fun M117 x118 => if x114 = x118 then (some (.inl ((i1 + 6), M117))) else (none)) else if (x4 &&& 63) = 13 then (b1 (rdS E (i1 + 1)) fun x121 => b1 (rdS E (i1 + 2)) fun x122 => b1 (f_X10_kind x121 x122 M2) fun x123 => b1 (rdS E (i1 + 1)) fun x124 => b1 (rdS E (i1 + 2)) fun x125 => b1 (f_X11_kind x124 x125 M2) fun x126 => if x123 = x126 then (some (.inl ((i1 + 6), M2))) else (none)) else if (x4 &&& 63) = 14 then (b1 (rdS E (i1 + 1)) fun x129 => b1 (rdS E (i1 + 2)) fun x130 => b1 (rdS E (i1 + 3)) fun x131 => lt ((if x131 = 0 then 0 else 1) : Int32) fun x133 => b2 (f_X10_left x129 x130 x133 M2) fun M134 x135 => b1 (rdS E (i1 + 1)) fun x136 => b1 (rdS E (i1 + 2)) fun x137 => b1 (rdS E (i1 + 3)) fun x138 => lt ((if x138 = 0 then 0 else 1) : Int32) fun x140 => b2 (f_X11_left x136 x137 x140 M134) fun M141 x142 => if x135 = x142 then (some (.inl ((i1 + 6), M141))) else (none)) else if (x4 &&& 63) = 15 then (b1 (rdS E (i1 + 1)) fun x145 => b1 (rdS E (i1 + 2)) fun x146 => b1 (f_X10_want x145 x146 M2) fun x147 => b1 (rdS E (i1 + 1)) fun x148 => b1 (rdS E (i1 + 2)) fun x149 => b1 (f_X11_want x148 x149 M2) fun x150 => if x147 = x150 then (some (.inl ((i1 + 6), M2))) else (none)) else if (x4 &&& 63) = 16 then (b1 (rdS E (i1 + 1)) fun x153 => b1 (rdS E (i1 + 2)) fun x154 => b1 (f_X10_book x153 x154 M2) fun x155 => b1 (rdS E (i1 + 1)) fun x156 => b1 (rdS E (i1 + 2)) fun x157 => b1 (f_X11_book x156 x157 M2) fun x158 => if x155 = x158 then (some (.inl ((i1 + 6), M2))) else (none)) else if (x4 &&& 63) = 17 then (b1 (rdS E (i1 + 1)) fun x161 => b1 (rdS E (i1 + 2)) fun x162 => b2 (f_X10_goes x161 x162 M2) fun M163 x164 => b1 (rdS E (i1 + 1)) fun x165 => b1 (rdS E (i1 + 2)) fun x166 => b2 (f_X11_goes x165 x166 M163) fun M167 x168 => if x164 = x168 then (some (.inl ((i1 + 6), M167))) else (none)) else if (x4 &&& 63) = 18 then (b1 (rdS E (i1 + 1)) fun x171 => b1 (rdS E (i1 + 2)) fun x172 => b1 (rdS E (i1 + 3)) fun x173 => b2 (f_X10_joins x171 x172 x173 M2) fun M174 x175 => b1 (rdS E (i1 + 1)) fun x176 => b1 (rdS E (i1 + 2)) fun x177 => b1 (rdS E (i1 + 3)) fun x178 => b1 (f_X11_joins x176 x177 x178 M174) fun x179 => if x175 = x179 then (some (.inl ((i1 + 6), M174))) else (none)) else if (x4 &&& 63) = 19 then (b1 (rdS E (i1 + 1)) fun x182 => b1 (rdS E (i1 + 2)) fun x183 => b1 (rdS E (i1 + 3)) fun x184 => b2 (f_X10_most x182 x183 x184 M2) fun M185 x186 => b1 (rdS E (i1 + 1)) fun x187 => b1 (rdS E (i1 + 2)) fun x188 => b1 (rdS E (i1 + 3)) fun x189 => b2 (f_X11_most x187 x188 x189 M185) fun M190 x191 => if x186 = x191 then (some (.inl ((i1 + 6), M190))) else (none)) else if (x4 &&& 63) = 20 then (b1 (rdS E (i1 + 1)) fun x194 => b1 (rdS E (i1 + 2)) fun x195 => b2 (f_X10_piece x194 x195 M2) fun M196 x197 => b1 (rdS E (i1 + 1)) fun x198 => b1 (rdS E (i1 + 2)) fun x199 => b2 (f_X11_piece x198 x199 M196) fun M200 x201 => if x197 = x201 then (some (.inl ((i1 + 6), M200))) else (none)) else if (x4 &&& 63) = 21 then (b1 (rdS E (i1 + 1)) fun x204 => b1 (rdS E (i1 + 2)) fun x205 => b2 (f_X10_cuts x204 x205 M2) fun M206 x207 => b1 (rdS E (i1 + 1)) fun x208 => b1 (rdS E (i1 + 2)) fun x209 => b2 (f_X11_cuts x208 x209 M206) fun M210 x211 => if x207 = x211 then (some (.inl ((i1 + 6), M210))) else (none)) else if (x4 &&& 63) = 22 then (b1 (rdS E (i1 + 1)) fun x214 => b2 (f_X10_stalls x214 M2) fun M215 x216 => b1 (rdS E (i1 + 1)) fun x217 => b2 (f_X11_stalls x217 M215) fun M218 x219 => if x216 = x219 then (some (.inl ((i1 + 6), M218))) else (none)) else if (x4 &&& 63) = 23 then (b1 (rdS E (i1 + 1)) fun x222 => b1 (rdS E (i1 + 2)) fun x223 => b2 (f_X10_test x222 x223 M2) fun M224 x225 => b1 (rdS E (i1 + 1)) fun x226 => b1 (rdS E (i1 + 2)) fun x227 => b2 (f_X11_test x226 x227 M224) fun M228 x229 => if x225 = x229 then (some (.inl ((i1 + 6), M228))) else (none)) else if (x4 &&& 63) = 24 then (b1 (rdS E (i1 + 1)) fun x232 => b1 (rdS E (i1 + 2)) fun x233 => b1 (rdS E (i1 + 3)) fun x234 => b1 (f_X10_forged x232 x233 x234 M2) fun x235 => b1 (rdS E (i1 + 1)) fun x236 => b1 (rdS E (i1 + 2)) fun x237 => b1 (rdS E (i1 + 3)) fun x238 => b1 (f_X11_forged x236 x237 x238 M2) fun x239 => if x235 = x239 then (some (.inl ((i1 + 6), M2))) else (none)) else if (x4 &&& 63) = 25 then (b1 (rdS E (i1 + 1)) fun x242 => b1 (f_X10_lookAt x242 M2) fun x243 => b1 (rdS E (i1 + 1)) fun x244 => b1 (f_X11_lookAt x244 M2) fun x245 => if x243 = x245 then (some (.inl ((i1 + 6), M2))) else (none)) else if (x4 &&& 63) = 26 then (b1 (rdS E (i1 + 1)) fun x248 => b1 (rdS E (i1 + 2)) fun x249 => b2 (f_X10_crumbs x248 x249 M2) fun M250 x251 => b1 (rdS E (i1 + 1)) fun x252 => b1 (rdS E (i1 + 2)) fun x253 => b2 (f_X11_crumbs x252 x253 M250) fun M254 x255 => if x251 = x255 then (some (.inl ((i1 + 6), M254))) else (none)) else if (x4 &&& 63) = 27 then (b1 (rdS E (i1 + 1)) fun x258 => b2 (f_X10_cooks x258 M2) fun M259 x260 => b1 (rdS E (i1 + 1)) fun x261 => b2 (f_X11_cooks x261 M259) fun M262 x263 => if x260 = x263 then (some (.inl ((i1 + 6), M262))) else (none)) else if (x4 &&& 63) = 28 then (b1 (rdS E (i1 + 1)) fun x266 => b1 (rdS E (i1 + 2)) fun x267 => b2 (f_X10_waits x266 x267 M2) fun M268 x269 => b1 (rdS E (i1 + 1)) fun x270 => b1 (rdS E (i1 + 2)) fun x271 => b2 (f_X11_waits x270 x271 M268) fun M272 x273 => if x269 = x273 then (some (.inl ((i1 + 6), M272))) else (none)) else if (x4 &&& 63) = 29 then (b1 (rdS E (i1 + 1)) fun x276 => b2 (f_X10_limit x276 M2) fun M277 x278 => b1 (rdS E (i1 + 1)) fun x279 => b2 (f_X11_limit x279 M277) fun M280 x281 => if x278 = x281 then (some (.inl ((i1 + 6), M280))) else (none)) else if (x4 &&& 63) = 30 then (b1 (rdS E (i1 + 1)) fun x284 => b1 (rdS E (i1 + 2)) fun x285 => b1 (rdS E (i1 + 3)) fun x286 => b1 (f_X10_dusk x284 x285 x286 M2) fun x287 => b1 (rdS E (i1 + 1)) fun x288 => b1 (rdS E (i1 + 2)) fun x289 => b1 (rdS E (i1 + 3)) fun x290 => b1 (f_X11_dusk x288 x289 x290 M2) fun x291 => if x287 = x291 then (some (.inl ((i1 + 6), M2))) else (none)) else if (x4 &&& 63) = 31 then (b1 (rdS E (i1 + 1)) fun x294 => b1 (rdS E (i1 + 2)) fun x295 => b1 (rdS E (i1 + 3)) fun x296 => b1 (rdS E (i1 + 4)) fun x297 => b2 (f_X10_trade x294 x295 x296 x297 M2) fun M298 x299 => b1 (rdS E (i1 + 1)) fun x300 => b1 (rdS E (i1 + 2)) fun x301 => b1 (rdS E (i1 + 3)) fun x302 => b1 (rdS E (i1 + 4)) fun x303 => b2 (f_X11_trade x300 x301 x302 x303 M298) fun M304 x305 => if x299 = x305 then (some (.inl ((i1 + 6), M304))) else (none)) else if (x4 &&& 63) = 32 then (b1 (rdS E (i1 + 1)) fun x308 => b1 (rdS E (i1 + 2)) fun x309 => b1 (f_X10_ring x308 x309 M2) fun x310 => b1 (rdS E (i1 + 1)) fun x311 => b1 (rdS E (i1 + 2)) fun x312 => b1 (f_X11_ring x311 x312 M2) fun x313 => if x310 = x313 then (some (.inl ((i1 + 6), M2))) else (none)) else if (x4 &&& 63) = 33 then (b1 (rdS E (i1 + 1)) fun x316 => b2 (f_X10_back x316 M2) fun M317 x318 => b1 (rdS E (i1 + 1)) fun x319 => b1 (f_X11_back x319 M317) fun x320 => if x318 = x320 then (some (.inl ((i1 + 6), M317))) else (none)) else if (x4 &&& 63) = 34 then (b2 (f_X10_undo M2) fun M323 x324 => b2 (f_X11_undo M323) fun M325 x326 => if x324 = x326 then (some (.inl ((i1 + 6), M325))) else (none)) else if (x4 &&& 63) = 35 then (b1 (rdS E (i1 + 1)) fun x329 => lt ((if x329 = 0 then 0 else 1) : Int32) fun x331 => b2 (f_X10_image x331 M2) fun M332 x333 => b1 (rdS E (i1 + 1)) fun x334 => lt ((if x334 = 0 then 0 else 1) : Int32) fun x336 => b2 (f_X11_image x336 M332) fun M337 x338 => if x333 = x338 then (some (.inl ((i1 + 6), M337))) else (none)) else if (x4 &&& 63) = 36 then (b1 (rdS E (i1 + 1)) fun x341 => b1 (f_X10_look x341 M2) fun x342 => b1 (rdS E (i1 + 1)) fun x343 => b1 (f_X11_look x343 M2) fun x344 => if x342 = x344 then (some (.inl ((i1 + 6), M2))) else (none)) else none)
def f_law (E : EV) (M : Mem) : Option Unit :=
  b1 (lp (fun s => w_L_law_18 E s.1 s.2) FU (0, M)) fun q347 => some ()
set_option maxRecDepth 100000 in
set_option maxHeartbeats 8000000 in
theorem t_law (l : Launch) (E : EV) (nm : String) (M : Mem) (h : f_law E M = some ()) : LX l E nm 18 [some (.ref 1000000), some (.ref 0), some (.ref 155), some (.int 0)] [] M := by
  unfold f_law at h
  refine ex_mskL [true, true, true, true] (L2 := [some (.ref 1000000), some (.ref 0), some (.ref 155), some (.int 0)]) rfl ?_
  obtain ⟨q347, hlq347, h⟩ := b1E h
  have hx : LX l E nm 1405 [none, none, none, none] [] q347 := by
    refine ex_iconst 1 dL_law_1405 kI_1 ?_
    exact ex_ret (v := some (.int 1)) dL_law_1406 rfl (Nat.le_refl _) rfl
  clear h
  have key : ∀ (k : Nat) (s : Int32 × Mem), lp (fun s => w_L_law_18 E s.1 s.2) k s = some q347 → LX l E nm 18 [some (.ref 1000000), some (.ref 0), some (.ref 155), some (.int s.1)] [] s.2 := lp_ind (P := fun (s : Int32 × Mem) => LX l E nm 18 [some (.ref 1000000), some (.ref 0), some (.ref 155), some (.int s.1)] [] s.2) (fun s t hb hk he => by
    obtain ⟨i1, M2⟩ := s
    show LX l E nm 18 [some (.ref 1000000), some (.ref 0), some (.ref 155), some (.int i1)] [] M2
    change w_L_law_18 E i1 M2 = some t at hb
    unfold w_L_law_18 at hb
    refine ex_iload_n dL_law_18 rfl ?_
    refine ex_aload_n dL_law_19 rfl ?_
    refine lx_slen dL_law_20 ?_
    refine ex_bipush 6 dL_law_21 kB_6 ?_
    refine ex_isub dL_law_23 ?_
    refine ex_icmp_gt 1405 dL_law_24 (by decide) (fun c3 => ?_) (fun c3 => ?_)
    · rw [if_pos c3] at hb
      refine ex_mskL [false, false, false, false] (L2 := [none, none, none, none]) rfl ?_
      cases hb
      cases (he _ rfl) <;> exact hx
    · rw [if_neg c3] at hb
      refine ex_aload_n dL_law_27 rfl ?_
      refine ex_iload_n dL_law_28 rfl ?_
      obtain ⟨x4, qx4, hb⟩ := b1E hb
      refine lx_sld x4 dL_law_29 qx4 ?_
      refine ex_bipush 63 dL_law_30 kB_63 ?_
      refine ex_iand dL_law_32 ?_
      by_cases c5 : (x4 &&& 63).toInt < 0 ∨ 36 < (x4 &&& 63).toInt
      · rw [if_pos c5] at hb
        refine ex_tswO 1399 dL_law_33 c5 (by decide) ?_
        refine ex_iinc 6 (L2 := [some (.ref 1000000), some (.ref 0), some (.ref 155), some (.int (i1 + 6))]) dL_law_1399 rfl (by decide) (Nat.le_of_ble_eq_true rfl) rfl ?_
        refine ex_goto 18 dL_law_1402 (by decide) ?_
        refine ex_mskL [true, true, true, true] (L2 := [some (.ref 1000000), some (.ref 0), some (.ref 155), some (.int (i1 + 6))]) rfl ?_
        cases hb
        exact hk ((i1 + 6), M2) rfl
      rw [if_neg c5] at hb
      by_cases c11 : (x4 &&& 63) = 0
      · rw [if_pos c11] at hb
        refine ex_tswI 0 (163) 196 dL_law_33 c11 (by decide) (by decide) ?_
        refine ex_aload_n dL_law_196 rfl ?_
        refine ex_aload_n dL_law_197 rfl ?_
        refine ex_iload_n dL_law_198 rfl ?_
        refine ex_iconst 1 dL_law_199 kI_1 ?_
        refine ex_iadd dL_law_200 ?_
        obtain ⟨x6, qx6, hb⟩ := b1E hb
        refine lx_sld x6 dL_law_201 qx6 ?_
        obtain ⟨p7, ep7, hb⟩ := ltE hb
        refine lx_cVi [.int x6] [] 0 10 p7.2 dL_law_202 cl_L_13 im_X10_state cy_X10_state oc_at_0 rfl (Nat.le_of_ble_eq_true rfl) (by decide) (t_X10_state l E x6 M2 ep7.symm) ?_
        refine ex_aload_n dL_law_205 rfl ?_
        refine ex_aload_n dL_law_206 rfl ?_
        refine ex_iload_n dL_law_207 rfl ?_
        refine ex_iconst 1 dL_law_208 kI_1 ?_
        refine ex_iadd dL_law_209 ?_
        obtain ⟨x8, qx8, hb⟩ := b1E hb
        refine lx_sld x8 dL_law_210 qx8 ?_
        obtain ⟨p9, ep9, hb⟩ := ltE hb
        refine lx_cVi [.int x8] [.int p7.2] 155 11 p9.2 dL_law_211 cl_L_17 im_X11_state cy_X11_state oc_at_155 rfl (Nat.le_of_ble_eq_true rfl) (by decide) (t_X11_state l E x8 p7.1 ep9.symm) ?_
        refine ex_icmp_eq 1399 dL_law_214 (by decide) (fun c10 => ?_) (fun c10 => ?_)
        · rw [if_pos c10] at hb
          refine ex_iinc 6 (L2 := [some (.ref 1000000), some (.ref 0), some (.ref 155), some (.int (i1 + 6))]) dL_law_1399 rfl (by decide) (Nat.le_of_ble_eq_true rfl) rfl ?_
          refine ex_goto 18 dL_law_1402 (by decide) ?_
          refine ex_mskL [true, true, true, true] (L2 := [some (.ref 1000000), some (.ref 0), some (.ref 155), some (.int (i1 + 6))]) rfl ?_
          cases hb
          exact hk ((i1 + 6), p9.1) rfl
        · rw [if_neg c10] at hb
          cases hb
      rw [if_neg c11] at hb
      by_cases c20 : (x4 &&& 63) = 1
      · rw [if_pos c20] at hb
        refine ex_tswI 1 (186) 219 dL_law_33 c20 (by decide) (by decide) ?_
        refine ex_aload_n dL_law_219 rfl ?_
        refine ex_aload_n dL_law_220 rfl ?_
        refine ex_iload_n dL_law_221 rfl ?_
        refine ex_iconst 1 dL_law_222 kI_1 ?_
        refine ex_iadd dL_law_223 ?_
        obtain ⟨x12, qx12, hb⟩ := b1E hb
        refine lx_sld x12 dL_law_224 qx12 ?_
        refine ex_aload_n dL_law_225 rfl ?_
        refine ex_iload_n dL_law_226 rfl ?_
        refine ex_iconst 2 dL_law_227 kI_2 ?_
        refine ex_iadd dL_law_228 ?_
        obtain ⟨x13, qx13, hb⟩ := b1E hb
        refine lx_sld x13 dL_law_229 qx13 ?_
        obtain ⟨p14, ep14, hb⟩ := ltE hb
        refine lx_cVi [.int x12, .int x13] [] 0 10 p14.2 dL_law_230 cl_L_18 im_X10_set cy_X10_set oc_at_0 rfl (Nat.le_of_ble_eq_true rfl) (by decide) (t_X10_set l E x12 x13 M2 ep14.symm) ?_
        refine ex_aload_n dL_law_233 rfl ?_
        refine ex_aload_n dL_law_234 rfl ?_
        refine ex_iload_n dL_law_235 rfl ?_
        refine ex_iconst 1 dL_law_236 kI_1 ?_
        refine ex_iadd dL_law_237 ?_
        obtain ⟨x15, qx15, hb⟩ := b1E hb
        refine lx_sld x15 dL_law_238 qx15 ?_
        refine ex_aload_n dL_law_239 rfl ?_
        refine ex_iload_n dL_law_240 rfl ?_
        refine ex_iconst 2 dL_law_241 kI_2 ?_
        refine ex_iadd dL_law_242 ?_
        obtain ⟨x16, qx16, hb⟩ := b1E hb
        refine lx_sld x16 dL_law_243 qx16 ?_
        obtain ⟨M17, x18, qx18, hb⟩ := b2E hb
        refine lx_cVi [.int x15, .int x16] [.int p14.2] 155 11 x18 dL_law_244 cl_L_22 im_X11_set cy_X11_set oc_at_155 rfl (Nat.le_of_ble_eq_true rfl) (by decide) (t_X11_set l E x15 x16 p14.1 qx18) ?_
        refine ex_icmp_eq 1399 dL_law_247 (by decide) (fun c19 => ?_) (fun c19 => ?_)
        · rw [if_pos c19] at hb
          refine ex_iinc 6 (L2 := [some (.ref 1000000), some (.ref 0), some (.ref 155), some (.int (i1 + 6))]) dL_law_1399 rfl (by decide) (Nat.le_of_ble_eq_true rfl) rfl ?_
          refine ex_goto 18 dL_law_1402 (by decide) ?_
          refine ex_mskL [true, true, true, true] (L2 := [some (.ref 1000000), some (.ref 0), some (.ref 155), some (.int (i1 + 6))]) rfl ?_
          cases hb
          exact hk ((i1 + 6), M17) rfl
        · rw [if_neg c19] at hb
          cases hb
      rw [if_neg c20] at hb
      by_cases c30 : (x4 &&& 63) = 2
      · rw [if_pos c30] at hb
        refine ex_tswI 2 (219) 252 dL_law_33 c30 (by decide) (by decide) ?_
        refine ex_aload_n dL_law_252 rfl ?_
        refine ex_aload_n dL_law_253 rfl ?_
        refine ex_iload_n dL_law_254 rfl ?_
        refine ex_iconst 1 dL_law_255 kI_1 ?_
        refine ex_iadd dL_law_256 ?_
        obtain ⟨x21, qx21, hb⟩ := b1E hb
        refine lx_sld x21 dL_law_257 qx21 ?_
        refine ex_aload_n dL_law_258 rfl ?_
        refine ex_iload_n dL_law_259 rfl ?_
        refine ex_iconst 2 dL_law_260 kI_2 ?_
        refine ex_iadd dL_law_261 ?_
        obtain ⟨x22, qx22, hb⟩ := b1E hb
        refine lx_sld x22 dL_law_262 qx22 ?_
        obtain ⟨M23, x24, qx24, hb⟩ := b2E hb
        refine lx_cVi [.int x21, .int x22] [] 0 10 x24 dL_law_263 cl_L_23 im_X10_feast cy_X10_feast oc_at_0 rfl (Nat.le_of_ble_eq_true rfl) (by decide) (t_X10_feast l E x21 x22 M2 qx24) ?_
        refine ex_aload_n dL_law_266 rfl ?_
        refine ex_aload_n dL_law_267 rfl ?_
        refine ex_iload_n dL_law_268 rfl ?_
        refine ex_iconst 1 dL_law_269 kI_1 ?_
        refine ex_iadd dL_law_270 ?_
        obtain ⟨x25, qx25, hb⟩ := b1E hb
        refine lx_sld x25 dL_law_271 qx25 ?_
        refine ex_aload_n dL_law_272 rfl ?_
        refine ex_iload_n dL_law_273 rfl ?_
        refine ex_iconst 2 dL_law_274 kI_2 ?_
        refine ex_iadd dL_law_275 ?_
        obtain ⟨x26, qx26, hb⟩ := b1E hb
        refine lx_sld x26 dL_law_276 qx26 ?_
        obtain ⟨M27, x28, qx28, hb⟩ := b2E hb
        refine lx_cVi [.int x25, .int x26] [.int x24] 155 11 x28 dL_law_277 cl_L_27 im_X11_feast cy_X11_feast oc_at_155 rfl (Nat.le_of_ble_eq_true rfl) (by decide) (t_X11_feast l E x25 x26 M23 qx28) ?_
        refine ex_icmp_eq 1399 dL_law_280 (by decide) (fun c29 => ?_) (fun c29 => ?_)
        · rw [if_pos c29] at hb
          refine ex_iinc 6 (L2 := [some (.ref 1000000), some (.ref 0), some (.ref 155), some (.int (i1 + 6))]) dL_law_1399 rfl (by decide) (Nat.le_of_ble_eq_true rfl) rfl ?_
          refine ex_goto 18 dL_law_1402 (by decide) ?_
          refine ex_mskL [true, true, true, true] (L2 := [some (.ref 1000000), some (.ref 0), some (.ref 155), some (.int (i1 + 6))]) rfl ?_
          cases hb
          exact hk ((i1 + 6), M27) rfl
        · rw [if_neg c29] at hb
          cases hb
      rw [if_neg c30] at hb
      by_cases c40 : (x4 &&& 63) = 3
      · rw [if_pos c40] at hb
        refine ex_tswI 3 (252) 285 dL_law_33 c40 (by decide) (by decide) ?_
        refine ex_aload_n dL_law_285 rfl ?_
        refine ex_aload_n dL_law_286 rfl ?_
        refine ex_iload_n dL_law_287 rfl ?_
        refine ex_iconst 1 dL_law_288 kI_1 ?_
        refine ex_iadd dL_law_289 ?_
        obtain ⟨x31, qx31, hb⟩ := b1E hb
        refine lx_sld x31 dL_law_290 qx31 ?_
        refine ex_aload_n dL_law_291 rfl ?_
        refine ex_iload_n dL_law_292 rfl ?_
        refine ex_iconst 2 dL_law_293 kI_2 ?_
        refine ex_iadd dL_law_294 ?_
        obtain ⟨x32, qx32, hb⟩ := b1E hb
        refine lx_sld x32 dL_law_295 qx32 ?_
        obtain ⟨M33, x34, qx34, hb⟩ := b2E hb
        refine lx_cVi [.int x31, .int x32] [] 0 10 x34 dL_law_296 cl_L_28 im_X10_forge cy_X10_forge oc_at_0 rfl (Nat.le_of_ble_eq_true rfl) (by decide) (t_X10_forge l E x31 x32 M2 qx34) ?_
        refine ex_aload_n dL_law_299 rfl ?_
        refine ex_aload_n dL_law_300 rfl ?_
        refine ex_iload_n dL_law_301 rfl ?_
        refine ex_iconst 1 dL_law_302 kI_1 ?_
        refine ex_iadd dL_law_303 ?_
        obtain ⟨x35, qx35, hb⟩ := b1E hb
        refine lx_sld x35 dL_law_304 qx35 ?_
        refine ex_aload_n dL_law_305 rfl ?_
        refine ex_iload_n dL_law_306 rfl ?_
        refine ex_iconst 2 dL_law_307 kI_2 ?_
        refine ex_iadd dL_law_308 ?_
        obtain ⟨x36, qx36, hb⟩ := b1E hb
        refine lx_sld x36 dL_law_309 qx36 ?_
        obtain ⟨M37, x38, qx38, hb⟩ := b2E hb
        refine lx_cVi [.int x35, .int x36] [.int x34] 155 11 x38 dL_law_310 cl_L_31 im_X11_forge cy_X11_forge oc_at_155 rfl (Nat.le_of_ble_eq_true rfl) (by decide) (t_X11_forge l E x35 x36 M33 qx38) ?_
        refine ex_icmp_eq 1399 dL_law_313 (by decide) (fun c39 => ?_) (fun c39 => ?_)
        · rw [if_pos c39] at hb
          refine ex_iinc 6 (L2 := [some (.ref 1000000), some (.ref 0), some (.ref 155), some (.int (i1 + 6))]) dL_law_1399 rfl (by decide) (Nat.le_of_ble_eq_true rfl) rfl ?_
          refine ex_goto 18 dL_law_1402 (by decide) ?_
          refine ex_mskL [true, true, true, true] (L2 := [some (.ref 1000000), some (.ref 0), some (.ref 155), some (.int (i1 + 6))]) rfl ?_
          cases hb
          exact hk ((i1 + 6), M37) rfl
        · rw [if_neg c39] at hb
          cases hb
      rw [if_neg c40] at hb
      by_cases c50 : (x4 &&& 63) = 4
      · rw [if_pos c50] at hb
        refine ex_tswI 4 (285) 318 dL_law_33 c50 (by decide) (by decide) ?_
        refine ex_aload_n dL_law_318 rfl ?_
        refine ex_aload_n dL_law_319 rfl ?_
        refine ex_iload_n dL_law_320 rfl ?_
        refine ex_iconst 1 dL_law_321 kI_1 ?_
        refine ex_iadd dL_law_322 ?_
        obtain ⟨x41, qx41, hb⟩ := b1E hb
        refine lx_sld x41 dL_law_323 qx41 ?_
        refine ex_aload_n dL_law_324 rfl ?_
        refine ex_iload_n dL_law_325 rfl ?_
        refine ex_iconst 2 dL_law_326 kI_2 ?_
        refine ex_iadd dL_law_327 ?_
        obtain ⟨x42, qx42, hb⟩ := b1E hb
        refine lx_sld x42 dL_law_328 qx42 ?_
        obtain ⟨M43, x44, qx44, hb⟩ := b2E hb
        refine lx_cVi [.int x41, .int x42] [] 0 10 x44 dL_law_329 cl_L_32 im_X10_cut cy_X10_cut oc_at_0 rfl (Nat.le_of_ble_eq_true rfl) (by decide) (t_X10_cut l E x41 x42 M2 qx44) ?_
        refine ex_aload_n dL_law_332 rfl ?_
        refine ex_aload_n dL_law_333 rfl ?_
        refine ex_iload_n dL_law_334 rfl ?_
        refine ex_iconst 1 dL_law_335 kI_1 ?_
        refine ex_iadd dL_law_336 ?_
        obtain ⟨x45, qx45, hb⟩ := b1E hb
        refine lx_sld x45 dL_law_337 qx45 ?_
        refine ex_aload_n dL_law_338 rfl ?_
        refine ex_iload_n dL_law_339 rfl ?_
        refine ex_iconst 2 dL_law_340 kI_2 ?_
        refine ex_iadd dL_law_341 ?_
        obtain ⟨x46, qx46, hb⟩ := b1E hb
        refine lx_sld x46 dL_law_342 qx46 ?_
        obtain ⟨M47, x48, qx48, hb⟩ := b2E hb
        refine lx_cVi [.int x45, .int x46] [.int x44] 155 11 x48 dL_law_343 cl_L_35 im_X11_cut cy_X11_cut oc_at_155 rfl (Nat.le_of_ble_eq_true rfl) (by decide) (t_X11_cut l E x45 x46 M43 qx48) ?_
        refine ex_icmp_eq 1399 dL_law_346 (by decide) (fun c49 => ?_) (fun c49 => ?_)
        · rw [if_pos c49] at hb
          refine ex_iinc 6 (L2 := [some (.ref 1000000), some (.ref 0), some (.ref 155), some (.int (i1 + 6))]) dL_law_1399 rfl (by decide) (Nat.le_of_ble_eq_true rfl) rfl ?_
          refine ex_goto 18 dL_law_1402 (by decide) ?_
          refine ex_mskL [true, true, true, true] (L2 := [some (.ref 1000000), some (.ref 0), some (.ref 155), some (.int (i1 + 6))]) rfl ?_
          cases hb
          exact hk ((i1 + 6), M47) rfl
        · rw [if_neg c49] at hb
          cases hb
      rw [if_neg c50] at hb
      by_cases c60 : (x4 &&& 63) = 5
      · rw [if_pos c60] at hb
        refine ex_tswI 5 (318) 351 dL_law_33 c60 (by decide) (by decide) ?_
        refine ex_aload_n dL_law_351 rfl ?_
        refine ex_aload_n dL_law_352 rfl ?_
        refine ex_iload_n dL_law_353 rfl ?_
        refine ex_iconst 1 dL_law_354 kI_1 ?_
        refine ex_iadd dL_law_355 ?_
        obtain ⟨x51, qx51, hb⟩ := b1E hb
        refine lx_sld x51 dL_law_356 qx51 ?_
        refine ex_aload_n dL_law_357 rfl ?_
        refine ex_iload_n dL_law_358 rfl ?_
        refine ex_iconst 2 dL_law_359 kI_2 ?_
        refine ex_iadd dL_law_360 ?_
        obtain ⟨x52, qx52, hb⟩ := b1E hb
        refine lx_sld x52 dL_law_361 qx52 ?_
        obtain ⟨M53, x54, qx54, hb⟩ := b2E hb
        refine lx_cVi [.int x51, .int x52] [] 0 10 x54 dL_law_362 cl_L_36 im_X10_join cy_X10_join oc_at_0 rfl (Nat.le_of_ble_eq_true rfl) (by decide) (t_X10_join l E x51 x52 M2 qx54) ?_
        refine ex_aload_n dL_law_365 rfl ?_
        refine ex_aload_n dL_law_366 rfl ?_
        refine ex_iload_n dL_law_367 rfl ?_
        refine ex_iconst 1 dL_law_368 kI_1 ?_
        refine ex_iadd dL_law_369 ?_
        obtain ⟨x55, qx55, hb⟩ := b1E hb
        refine lx_sld x55 dL_law_370 qx55 ?_
        refine ex_aload_n dL_law_371 rfl ?_
        refine ex_iload_n dL_law_372 rfl ?_
        refine ex_iconst 2 dL_law_373 kI_2 ?_
        refine ex_iadd dL_law_374 ?_
        obtain ⟨x56, qx56, hb⟩ := b1E hb
        refine lx_sld x56 dL_law_375 qx56 ?_
        obtain ⟨M57, x58, qx58, hb⟩ := b2E hb
        refine lx_cVi [.int x55, .int x56] [.int x54] 155 11 x58 dL_law_376 cl_L_39 im_X11_join cy_X11_join oc_at_155 rfl (Nat.le_of_ble_eq_true rfl) (by decide) (t_X11_join l E x55 x56 M53 qx58) ?_
        refine ex_icmp_eq 1399 dL_law_379 (by decide) (fun c59 => ?_) (fun c59 => ?_)
        · rw [if_pos c59] at hb
          refine ex_iinc 6 (L2 := [some (.ref 1000000), some (.ref 0), some (.ref 155), some (.int (i1 + 6))]) dL_law_1399 rfl (by decide) (Nat.le_of_ble_eq_true rfl) rfl ?_
          refine ex_goto 18 dL_law_1402 (by decide) ?_
          refine ex_mskL [true, true, true, true] (L2 := [some (.ref 1000000), some (.ref 0), some (.ref 155), some (.int (i1 + 6))]) rfl ?_
          cases hb
          exact hk ((i1 + 6), M57) rfl
        · rw [if_neg c59] at hb
          cases hb
      rw [if_neg c60] at hb
      by_cases c68 : (x4 &&& 63) = 6
      · rw [if_pos c68] at hb
        refine ex_tswI 6 (351) 384 dL_law_33 c68 (by decide) (by decide) ?_
        refine ex_aload_n dL_law_384 rfl ?_
        refine ex_aload_n dL_law_385 rfl ?_
        refine ex_iload_n dL_law_386 rfl ?_
        refine ex_iconst 1 dL_law_387 kI_1 ?_
        refine ex_iadd dL_law_388 ?_
        obtain ⟨x61, qx61, hb⟩ := b1E hb
        refine lx_sld x61 dL_law_389 qx61 ?_
        obtain ⟨M62, x63, qx63, hb⟩ := b2E hb
        refine lx_cVi [.int x61] [] 0 10 x63 dL_law_390 cl_L_40 im_X10_sell cy_X10_sell oc_at_0 rfl (Nat.le_of_ble_eq_true rfl) (by decide) (t_X10_sell l E x61 M2 qx63) ?_
        refine ex_aload_n dL_law_393 rfl ?_
        refine ex_aload_n dL_law_394 rfl ?_
        refine ex_iload_n dL_law_395 rfl ?_
        refine ex_iconst 1 dL_law_396 kI_1 ?_
        refine ex_iadd dL_law_397 ?_
        obtain ⟨x64, qx64, hb⟩ := b1E hb
        refine lx_sld x64 dL_law_398 qx64 ?_
        obtain ⟨M65, x66, qx66, hb⟩ := b2E hb
        refine lx_cVi [.int x64] [.int x63] 155 11 x66 dL_law_399 cl_L_43 im_X11_sell cy_X11_sell oc_at_155 rfl (Nat.le_of_ble_eq_true rfl) (by decide) (t_X11_sell l E x64 M62 qx66) ?_
        refine ex_icmp_eq 1399 dL_law_402 (by decide) (fun c67 => ?_) (fun c67 => ?_)
        · rw [if_pos c67] at hb
          refine ex_iinc 6 (L2 := [some (.ref 1000000), some (.ref 0), some (.ref 155), some (.int (i1 + 6))]) dL_law_1399 rfl (by decide) (Nat.le_of_ble_eq_true rfl) rfl ?_
          refine ex_goto 18 dL_law_1402 (by decide) ?_
          refine ex_mskL [true, true, true, true] (L2 := [some (.ref 1000000), some (.ref 0), some (.ref 155), some (.int (i1 + 6))]) rfl ?_
          cases hb
          exact hk ((i1 + 6), M65) rfl
        · rw [if_neg c67] at hb
          cases hb
      rw [if_neg c68] at hb
      by_cases c76 : (x4 &&& 63) = 7
      · rw [if_pos c76] at hb
        refine ex_tswI 7 (374) 407 dL_law_33 c76 (by decide) (by decide) ?_
        refine ex_aload_n dL_law_407 rfl ?_
        refine ex_aload_n dL_law_408 rfl ?_
        refine ex_iload_n dL_law_409 rfl ?_
        refine ex_iconst 1 dL_law_410 kI_1 ?_
        refine ex_iadd dL_law_411 ?_
        obtain ⟨x69, qx69, hb⟩ := b1E hb
        refine lx_sld x69 dL_law_412 qx69 ?_
        obtain ⟨M70, x71, qx71, hb⟩ := b2E hb
        refine lx_cVi [.int x69] [] 0 10 x71 dL_law_413 cl_L_44 im_X10_days cy_X10_days oc_at_0 rfl (Nat.le_of_ble_eq_true rfl) (by decide) (t_X10_days l E x69 M2 qx71) ?_
        refine ex_aload_n dL_law_416 rfl ?_
        refine ex_aload_n dL_law_417 rfl ?_
        refine ex_iload_n dL_law_418 rfl ?_
        refine ex_iconst 1 dL_law_419 kI_1 ?_
        refine ex_iadd dL_law_420 ?_
        obtain ⟨x72, qx72, hb⟩ := b1E hb
        refine lx_sld x72 dL_law_421 qx72 ?_
        obtain ⟨M73, x74, qx74, hb⟩ := b2E hb
        refine lx_cVi [.int x72] [.int x71] 155 11 x74 dL_law_422 cl_L_47 im_X11_days cy_X11_days oc_at_155 rfl (Nat.le_of_ble_eq_true rfl) (by decide) (t_X11_days l E x72 M70 qx74) ?_
        refine ex_icmp_eq 1399 dL_law_425 (by decide) (fun c75 => ?_) (fun c75 => ?_)
        · rw [if_pos c75] at hb
          refine ex_iinc 6 (L2 := [some (.ref 1000000), some (.ref 0), some (.ref 155), some (.int (i1 + 6))]) dL_law_1399 rfl (by decide) (Nat.le_of_ble_eq_true rfl) rfl ?_
          refine ex_goto 18 dL_law_1402 (by decide) ?_
          refine ex_mskL [true, true, true, true] (L2 := [some (.ref 1000000), some (.ref 0), some (.ref 155), some (.int (i1 + 6))]) rfl ?_
          cases hb
          exact hk ((i1 + 6), M73) rfl
        · rw [if_neg c75] at hb
          cases hb
      rw [if_neg c76] at hb
      by_cases c92 : (x4 &&& 63) = 8
      · rw [if_pos c92] at hb
        refine ex_tswI 8 (397) 430 dL_law_33 c92 (by decide) (by decide) ?_
        refine ex_aload_n dL_law_430 rfl ?_
        refine ex_aload_n dL_law_431 rfl ?_
        refine ex_iload_n dL_law_432 rfl ?_
        refine ex_iconst 1 dL_law_433 kI_1 ?_
        refine ex_iadd dL_law_434 ?_
        obtain ⟨x77, qx77, hb⟩ := b1E hb
        refine lx_sld x77 dL_law_435 qx77 ?_
        refine ex_aload_n dL_law_436 rfl ?_
        refine ex_iload_n dL_law_437 rfl ?_
        refine ex_iconst 2 dL_law_438 kI_2 ?_
        refine ex_iadd dL_law_439 ?_
        obtain ⟨x78, qx78, hb⟩ := b1E hb
        refine lx_sld x78 dL_law_440 qx78 ?_
        refine ex_aload_n dL_law_441 rfl ?_
        refine ex_iload_n dL_law_442 rfl ?_
        refine ex_iconst 3 dL_law_443 kI_3 ?_
        refine ex_iadd dL_law_444 ?_
        obtain ⟨x79, qx79, hb⟩ := b1E hb
        refine lx_sld x79 dL_law_445 qx79 ?_
        refine ex_aload_n dL_law_446 rfl ?_
        refine ex_iload_n dL_law_447 rfl ?_
        refine ex_iconst 4 dL_law_448 kI_4 ?_
        refine ex_iadd dL_law_449 ?_
        obtain ⟨x80, qx80, hb⟩ := b1E hb
        refine lx_sld x80 dL_law_450 qx80 ?_
        refine ex_aload_n dL_law_451 rfl ?_
        refine ex_iload_n dL_law_452 rfl ?_
        refine ex_iconst 5 dL_law_453 kI_5 ?_
        refine ex_iadd dL_law_454 ?_
        obtain ⟨x81, qx81, hb⟩ := b1E hb
        refine lx_sld x81 dL_law_455 qx81 ?_
        obtain ⟨M82, x83, qx83, hb⟩ := b2E hb
        refine lx_cVi [.int x77, .int x78, .int x79, .int x80, .int x81] [] 0 10 x83 dL_law_456 cl_L_48 im_X10_feed cy_X10_feed oc_at_0 rfl (Nat.le_of_ble_eq_true rfl) (by decide) (t_X10_feed l E x77 x78 x79 x80 x81 M2 qx83) ?_
        refine ex_aload_n dL_law_459 rfl ?_
        refine ex_aload_n dL_law_460 rfl ?_
        refine ex_iload_n dL_law_461 rfl ?_
        refine ex_iconst 1 dL_law_462 kI_1 ?_
        refine ex_iadd dL_law_463 ?_
        obtain ⟨x84, qx84, hb⟩ := b1E hb
        refine lx_sld x84 dL_law_464 qx84 ?_
        refine ex_aload_n dL_law_465 rfl ?_
        refine ex_iload_n dL_law_466 rfl ?_
        refine ex_iconst 2 dL_law_467 kI_2 ?_
        refine ex_iadd dL_law_468 ?_
        obtain ⟨x85, qx85, hb⟩ := b1E hb
        refine lx_sld x85 dL_law_469 qx85 ?_
        refine ex_aload_n dL_law_470 rfl ?_
        refine ex_iload_n dL_law_471 rfl ?_
        refine ex_iconst 3 dL_law_472 kI_3 ?_
        refine ex_iadd dL_law_473 ?_
        obtain ⟨x86, qx86, hb⟩ := b1E hb
        refine lx_sld x86 dL_law_474 qx86 ?_
        refine ex_aload_n dL_law_475 rfl ?_
        refine ex_iload_n dL_law_476 rfl ?_
        refine ex_iconst 4 dL_law_477 kI_4 ?_
        refine ex_iadd dL_law_478 ?_
        obtain ⟨x87, qx87, hb⟩ := b1E hb
        refine lx_sld x87 dL_law_479 qx87 ?_
        refine ex_aload_n dL_law_480 rfl ?_
        refine ex_iload_n dL_law_481 rfl ?_
        refine ex_iconst 5 dL_law_482 kI_5 ?_
        refine ex_iadd dL_law_483 ?_
        obtain ⟨x88, qx88, hb⟩ := b1E hb
        refine lx_sld x88 dL_law_484 qx88 ?_
        obtain ⟨M89, x90, qx90, hb⟩ := b2E hb
        refine lx_cVi [.int x84, .int x85, .int x86, .int x87, .int x88] [.int x83] 155 11 x90 dL_law_485 cl_L_52 im_X11_feed cy_X11_feed oc_at_155 rfl (Nat.le_of_ble_eq_true rfl) (by decide) (t_X11_feed l E x84 x85 x86 x87 x88 M82 qx90) ?_
        refine ex_icmp_eq 1399 dL_law_488 (by decide) (fun c91 => ?_) (fun c91 => ?_)
        · rw [if_pos c91] at hb
          refine ex_iinc 6 (L2 := [some (.ref 1000000), some (.ref 0), some (.ref 155), some (.int (i1 + 6))]) dL_law_1399 rfl (by decide) (Nat.le_of_ble_eq_true rfl) rfl ?_
          refine ex_goto 18 dL_law_1402 (by decide) ?_
          refine ex_mskL [true, true, true, true] (L2 := [some (.ref 1000000), some (.ref 0), some (.ref 155), some (.int (i1 + 6))]) rfl ?_
          cases hb
          exact hk ((i1 + 6), M89) rfl
        · rw [if_neg c91] at hb
          cases hb
      rw [if_neg c92] at hb
      by_cases c98 : (x4 &&& 63) = 9
      · rw [if_pos c98] at hb
        refine ex_tswI 9 (460) 493 dL_law_33 c98 (by decide) (by decide) ?_
        refine ex_aload_n dL_law_493 rfl ?_
        refine ex_aload_n dL_law_494 rfl ?_
        refine ex_iload_n dL_law_495 rfl ?_
        refine ex_iconst 1 dL_law_496 kI_1 ?_
        refine ex_iadd dL_law_497 ?_
        obtain ⟨x93, qx93, hb⟩ := b1E hb
        refine lx_sld x93 dL_law_498 qx93 ?_
        obtain ⟨p94, ep94, hb⟩ := ltE hb
        refine lx_cVi [.int x93] [] 0 10 p94.2 dL_law_499 cl_L_53 im_X10_end cy_X10_end oc_at_0 rfl (Nat.le_of_ble_eq_true rfl) (by decide) (t_X10_end l E x93 M2 ep94.symm) ?_
        refine ex_aload_n dL_law_502 rfl ?_
        refine ex_aload_n dL_law_503 rfl ?_
        refine ex_iload_n dL_law_504 rfl ?_
        refine ex_iconst 1 dL_law_505 kI_1 ?_
        refine ex_iadd dL_law_506 ?_
        obtain ⟨x95, qx95, hb⟩ := b1E hb
        refine lx_sld x95 dL_law_507 qx95 ?_
        obtain ⟨p96, ep96, hb⟩ := ltE hb
        refine lx_cVi [.int x95] [.int p94.2] 155 11 p96.2 dL_law_508 cl_L_57 im_X11_end cy_X11_end oc_at_155 rfl (Nat.le_of_ble_eq_true rfl) (by decide) (t_X11_end l E x95 p94.1 ep96.symm) ?_
        refine ex_icmp_eq 1399 dL_law_511 (by decide) (fun c97 => ?_) (fun c97 => ?_)
        · rw [if_pos c97] at hb
          refine ex_iinc 6 (L2 := [some (.ref 1000000), some (.ref 0), some (.ref 155), some (.int (i1 + 6))]) dL_law_1399 rfl (by decide) (Nat.le_of_ble_eq_true rfl) rfl ?_
          refine ex_goto 18 dL_law_1402 (by decide) ?_
          refine ex_mskL [true, true, true, true] (L2 := [some (.ref 1000000), some (.ref 0), some (.ref 155), some (.int (i1 + 6))]) rfl ?_
          cases hb
          exact hk ((i1 + 6), p96.1) rfl
        · rw [if_neg c97] at hb
          cases hb
      rw [if_neg c98] at hb
      by_cases c106 : (x4 &&& 63) = 10
      · rw [if_pos c106] at hb
        refine ex_tswI 10 (483) 516 dL_law_33 c106 (by decide) (by decide) ?_
        refine ex_aload_n dL_law_516 rfl ?_
        refine ex_aload_n dL_law_517 rfl ?_
        refine ex_iload_n dL_law_518 rfl ?_
        refine ex_iconst 1 dL_law_519 kI_1 ?_
        refine ex_iadd dL_law_520 ?_
        obtain ⟨x99, qx99, hb⟩ := b1E hb
        refine lx_sld x99 dL_law_521 qx99 ?_
        obtain ⟨M100, x101, qx101, hb⟩ := b2E hb
        refine lx_cVi [.int x99] [] 0 10 x101 dL_law_522 cl_L_58 im_X10_text cy_X10_text oc_at_0 rfl (Nat.le_of_ble_eq_true rfl) (by decide) (t_X10_text l E x99 M2 qx101) ?_
        refine ex_aload_n dL_law_525 rfl ?_
        refine ex_aload_n dL_law_526 rfl ?_
        refine ex_iload_n dL_law_527 rfl ?_
        refine ex_iconst 1 dL_law_528 kI_1 ?_
        refine ex_iadd dL_law_529 ?_
        obtain ⟨x102, qx102, hb⟩ := b1E hb
        refine lx_sld x102 dL_law_530 qx102 ?_
        obtain ⟨M103, x104, qx104, hb⟩ := b2E hb
        refine lx_cVi [.int x102] [.int x101] 155 11 x104 dL_law_531 cl_L_61 im_X11_text cy_X11_text oc_at_155 rfl (Nat.le_of_ble_eq_true rfl) (by decide) (t_X11_text l E x102 M100 qx104) ?_
        refine ex_icmp_eq 1399 dL_law_534 (by decide) (fun c105 => ?_) (fun c105 => ?_)
        · rw [if_pos c105] at hb
          refine ex_iinc 6 (L2 := [some (.ref 1000000), some (.ref 0), some (.ref 155), some (.int (i1 + 6))]) dL_law_1399 rfl (by decide) (Nat.le_of_ble_eq_true rfl) rfl ?_
          refine ex_goto 18 dL_law_1402 (by decide) ?_
          refine ex_mskL [true, true, true, true] (L2 := [some (.ref 1000000), some (.ref 0), some (.ref 155), some (.int (i1 + 6))]) rfl ?_
          cases hb
          exact hk ((i1 + 6), M103) rfl
        · rw [if_neg c105] at hb
          cases hb
      rw [if_neg c106] at hb
      by_cases c110 : (x4 &&& 63) = 11
      · rw [if_pos c110] at hb
        refine ex_tswI 11 (506) 539 dL_law_33 c110 (by decide) (by decide) ?_
        refine ex_aload_n dL_law_539 rfl ?_
        refine ex_aload_n dL_law_540 rfl ?_
        refine ex_iload_n dL_law_541 rfl ?_
        refine ex_iconst 1 dL_law_542 kI_1 ?_
        refine ex_iadd dL_law_543 ?_
        obtain ⟨x107, qx107, hb⟩ := b1E hb
        refine lx_sld x107 dL_law_544 qx107 ?_
        refine lx_cVi [.int x107] [] 0 10 (f_X10_fault x107 M2) dL_law_545 cl_L_62 im_X10_fault cy_X10_fault oc_at_0 rfl (Nat.le_of_ble_eq_true rfl) (by decide) (t_X10_fault l E x107 M2 rfl) ?_
        refine ex_aload_n dL_law_548 rfl ?_
        refine ex_aload_n dL_law_549 rfl ?_
        refine ex_iload_n dL_law_550 rfl ?_
        refine ex_iconst 1 dL_law_551 kI_1 ?_
        refine ex_iadd dL_law_552 ?_
        obtain ⟨x108, qx108, hb⟩ := b1E hb
        refine lx_sld x108 dL_law_553 qx108 ?_
        refine lx_cVi [.int x108] [.int (f_X10_fault x107 M2)] 155 11 (f_X11_fault x108 M2) dL_law_554 cl_L_65 im_X11_fault cy_X11_fault oc_at_155 rfl (Nat.le_of_ble_eq_true rfl) (by decide) (t_X11_fault l E x108 M2 rfl) ?_
        refine ex_icmp_eq 1399 dL_law_557 (by decide) (fun c109 => ?_) (fun c109 => ?_)
        · rw [if_pos c109] at hb
          refine ex_iinc 6 (L2 := [some (.ref 1000000), some (.ref 0), some (.ref 155), some (.int (i1 + 6))]) dL_law_1399 rfl (by decide) (Nat.le_of_ble_eq_true rfl) rfl ?_
          refine ex_goto 18 dL_law_1402 (by decide) ?_
          refine ex_mskL [true, true, true, true] (L2 := [some (.ref 1000000), some (.ref 0), some (.ref 155), some (.int (i1 + 6))]) rfl ?_
          cases hb
          exact hk ((i1 + 6), M2) rfl
        · rw [if_neg c109] at hb
          cases hb
      rw [if_neg c110] at hb
      by_cases c120 : (x4 &&& 63) = 12
      · rw [if_pos c120] at hb
        refine ex_tswI 12 (529) 562 dL_law_33 c120 (by decide) (by decide) ?_
        refine ex_aload_n dL_law_562 rfl ?_
        refine ex_aload_n dL_law_563 rfl ?_
        refine ex_iload_n dL_law_564 rfl ?_
        refine ex_iconst 1 dL_law_565 kI_1 ?_
        refine ex_iadd dL_law_566 ?_
        obtain ⟨x111, qx111, hb⟩ := b1E hb
        refine lx_sld x111 dL_law_567 qx111 ?_
        refine ex_aload_n dL_law_568 rfl ?_
        refine ex_iload_n dL_law_569 rfl ?_
        refine ex_iconst 2 dL_law_570 kI_2 ?_
        refine ex_iadd dL_law_571 ?_
        obtain ⟨x112, qx112, hb⟩ := b1E hb
        refine lx_sld x112 dL_law_572 qx112 ?_
        obtain ⟨M113, x114, qx114, hb⟩ := b2E hb
        refine lx_cVi [.int x111, .int x112] [] 0 10 x114 dL_law_573 cl_L_66 im_X10_remain cy_X10_remain oc_at_0 rfl (Nat.le_of_ble_eq_true rfl) (by decide) (t_X10_remain l E x111 x112 M2 qx114) ?_
        refine ex_aload_n dL_law_576 rfl ?_
        refine ex_aload_n dL_law_577 rfl ?_
        refine ex_iload_n dL_law_578 rfl ?_
        refine ex_iconst 1 dL_law_579 kI_1 ?_
        refine ex_iadd dL_law_580 ?_
        obtain ⟨x115, qx115, hb⟩ := b1E hb
        refine lx_sld x115 dL_law_581 qx115 ?_
        refine ex_aload_n dL_law_582 rfl ?_
        refine ex_iload_n dL_law_583 rfl ?_
        refine ex_iconst 2 dL_law_584 kI_2 ?_
        refine ex_iadd dL_law_585 ?_
        obtain ⟨x116, qx116, hb⟩ := b1E hb
        refine lx_sld x116 dL_law_586 qx116 ?_
        obtain ⟨M117, x118, qx118, hb⟩ := b2E hb
        refine lx_cVi [.int x115, .int x116] [.int x114] 155 11 x118 dL_law_587 cl_L_69 im_X11_remain cy_X11_remain oc_at_155 rfl (Nat.le_of_ble_eq_true rfl) (by decide) (t_X11_remain l E x115 x116 M113 qx118) ?_
        refine ex_icmp_eq 1399 dL_law_590 (by decide) (fun c119 => ?_) (fun c119 => ?_)
        · rw [if_pos c119] at hb
          refine ex_iinc 6 (L2 := [some (.ref 1000000), some (.ref 0), some (.ref 155), some (.int (i1 + 6))]) dL_law_1399 rfl (by decide) (Nat.le_of_ble_eq_true rfl) rfl ?_
          refine ex_goto 18 dL_law_1402 (by decide) ?_
          refine ex_mskL [true, true, true, true] (L2 := [some (.ref 1000000), some (.ref 0), some (.ref 155), some (.int (i1 + 6))]) rfl ?_
          cases hb
          exact hk ((i1 + 6), M117) rfl
        · rw [if_neg c119] at hb
          cases hb
      rw [if_neg c120] at hb
      by_cases c128 : (x4 &&& 63) = 13
      · rw [if_pos c128] at hb
        refine ex_tswI 13 (562) 595 dL_law_33 c128 (by decide) (by decide) ?_
        refine ex_aload_n dL_law_595 rfl ?_
        refine ex_aload_n dL_law_596 rfl ?_
        refine ex_iload_n dL_law_597 rfl ?_
        refine ex_iconst 1 dL_law_598 kI_1 ?_
        refine ex_iadd dL_law_599 ?_
        obtain ⟨x121, qx121, hb⟩ := b1E hb
        refine lx_sld x121 dL_law_600 qx121 ?_
        refine ex_aload_n dL_law_601 rfl ?_
        refine ex_iload_n dL_law_602 rfl ?_
        refine ex_iconst 2 dL_law_603 kI_2 ?_
        refine ex_iadd dL_law_604 ?_
        obtain ⟨x122, qx122, hb⟩ := b1E hb
        refine lx_sld x122 dL_law_605 qx122 ?_
        obtain ⟨x123, qx123, hb⟩ := b1E hb
        refine lx_cVi [.int x121, .int x122] [] 0 10 x123 dL_law_606 cl_L_70 im_X10_kind cy_X10_kind oc_at_0 rfl (Nat.le_of_ble_eq_true rfl) (by decide) (t_X10_kind l E x121 x122 M2 qx123) ?_
        refine ex_aload_n dL_law_609 rfl ?_
        refine ex_aload_n dL_law_610 rfl ?_
        refine ex_iload_n dL_law_611 rfl ?_
        refine ex_iconst 1 dL_law_612 kI_1 ?_
        refine ex_iadd dL_law_613 ?_
        obtain ⟨x124, qx124, hb⟩ := b1E hb
        refine lx_sld x124 dL_law_614 qx124 ?_
        refine ex_aload_n dL_law_615 rfl ?_
        refine ex_iload_n dL_law_616 rfl ?_
        refine ex_iconst 2 dL_law_617 kI_2 ?_
        refine ex_iadd dL_law_618 ?_
        obtain ⟨x125, qx125, hb⟩ := b1E hb
        refine lx_sld x125 dL_law_619 qx125 ?_
        obtain ⟨x126, qx126, hb⟩ := b1E hb
        refine lx_cVi [.int x124, .int x125] [.int x123] 155 11 x126 dL_law_620 cl_L_73 im_X11_kind cy_X11_kind oc_at_155 rfl (Nat.le_of_ble_eq_true rfl) (by decide) (t_X11_kind l E x124 x125 M2 qx126) ?_
        refine ex_icmp_eq 1399 dL_law_623 (by decide) (fun c127 => ?_) (fun c127 => ?_)
        · rw [if_pos c127] at hb
          refine ex_iinc 6 (L2 := [some (.ref 1000000), some (.ref 0), some (.ref 155), some (.int (i1 + 6))]) dL_law_1399 rfl (by decide) (Nat.le_of_ble_eq_true rfl) rfl ?_
          refine ex_goto 18 dL_law_1402 (by decide) ?_
          refine ex_mskL [true, true, true, true] (L2 := [some (.ref 1000000), some (.ref 0), some (.ref 155), some (.int (i1 + 6))]) rfl ?_
          cases hb
          exact hk ((i1 + 6), M2) rfl
        · rw [if_neg c127] at hb
          cases hb
      rw [if_neg c128] at hb
      by_cases c144 : (x4 &&& 63) = 14
      · rw [if_pos c144] at hb
        refine ex_tswI 14 (595) 628 dL_law_33 c144 (by decide) (by decide) ?_
        refine ex_aload_n dL_law_628 rfl ?_
        refine ex_aload_n dL_law_629 rfl ?_
        refine ex_iload_n dL_law_630 rfl ?_
        refine ex_iconst 1 dL_law_631 kI_1 ?_
        refine ex_iadd dL_law_632 ?_
        obtain ⟨x129, qx129, hb⟩ := b1E hb
        refine lx_sld x129 dL_law_633 qx129 ?_
        refine ex_aload_n dL_law_634 rfl ?_
        refine ex_iload_n dL_law_635 rfl ?_
        refine ex_iconst 2 dL_law_636 kI_2 ?_
        refine ex_iadd dL_law_637 ?_
        obtain ⟨x130, qx130, hb⟩ := b1E hb
        refine lx_sld x130 dL_law_638 qx130 ?_
        refine ex_aload_n dL_law_639 rfl ?_
        refine ex_iload_n dL_law_640 rfl ?_
        refine ex_iconst 3 dL_law_641 kI_3 ?_
        refine ex_iadd dL_law_642 ?_
        obtain ⟨x131, qx131, hb⟩ := b1E hb
        refine lx_sld x131 dL_law_643 qx131 ?_
        obtain ⟨x133, ex133, hb⟩ := ltE hb
        have Jx133 : LX l E nm 652 [some (.ref 1000000), some (.ref 0), some (.ref 155), some (.int i1)] [.int x133, .int x130, .int x129, .ref 0] M2 := by
          obtain ⟨M134, x135, qx135, hb⟩ := b2E hb
          refine lx_cVi [.int x129, .int x130, .int x133] [] 0 10 x135 dL_law_652 cl_L_74 im_X10_left cy_X10_left oc_at_0 rfl (Nat.le_of_ble_eq_true rfl) (by decide) (t_X10_left l E x129 x130 x133 M2 qx135) ?_
          refine ex_aload_n dL_law_655 rfl ?_
          refine ex_aload_n dL_law_656 rfl ?_
          refine ex_iload_n dL_law_657 rfl ?_
          refine ex_iconst 1 dL_law_658 kI_1 ?_
          refine ex_iadd dL_law_659 ?_
          obtain ⟨x136, qx136, hb⟩ := b1E hb
          refine lx_sld x136 dL_law_660 qx136 ?_
          refine ex_aload_n dL_law_661 rfl ?_
          refine ex_iload_n dL_law_662 rfl ?_
          refine ex_iconst 2 dL_law_663 kI_2 ?_
          refine ex_iadd dL_law_664 ?_
          obtain ⟨x137, qx137, hb⟩ := b1E hb
          refine lx_sld x137 dL_law_665 qx137 ?_
          refine ex_aload_n dL_law_666 rfl ?_
          refine ex_iload_n dL_law_667 rfl ?_
          refine ex_iconst 3 dL_law_668 kI_3 ?_
          refine ex_iadd dL_law_669 ?_
          obtain ⟨x138, qx138, hb⟩ := b1E hb
          refine lx_sld x138 dL_law_670 qx138 ?_
          obtain ⟨x140, ex140, hb⟩ := ltE hb
          have Jx140 : LX l E nm 679 [some (.ref 1000000), some (.ref 0), some (.ref 155), some (.int i1)] [.int x140, .int x137, .int x136, .ref 155, .int x135] M134 := by
            obtain ⟨M141, x142, qx142, hb⟩ := b2E hb
            refine lx_cVi [.int x136, .int x137, .int x140] [.int x135] 155 11 x142 dL_law_679 cl_L_78 im_X11_left cy_X11_left oc_at_155 rfl (Nat.le_of_ble_eq_true rfl) (by decide) (t_X11_left l E x136 x137 x140 M134 qx142) ?_
            refine ex_icmp_eq 1399 dL_law_682 (by decide) (fun c143 => ?_) (fun c143 => ?_)
            · rw [if_pos c143] at hb
              refine ex_iinc 6 (L2 := [some (.ref 1000000), some (.ref 0), some (.ref 155), some (.int (i1 + 6))]) dL_law_1399 rfl (by decide) (Nat.le_of_ble_eq_true rfl) rfl ?_
              refine ex_goto 18 dL_law_1402 (by decide) ?_
              refine ex_mskL [true, true, true, true] (L2 := [some (.ref 1000000), some (.ref 0), some (.ref 155), some (.int (i1 + 6))]) rfl ?_
              cases hb
              exact hk ((i1 + 6), M141) rfl
            · rw [if_neg c143] at hb
              cases hb
          clear hb
          refine ex_if_eq 678 dL_law_671 (by decide) (fun c139 => ?_) (fun c139 => ?_)
          · rw [if_pos c139] at ex140
            refine ex_iconst 0 dL_law_678 kI_0 ?_
            subst ex140
            exact Jx140
          · rw [if_neg c139] at ex140
            refine ex_iconst 1 dL_law_674 kI_1 ?_
            refine ex_goto 679 dL_law_675 (by decide) ?_
            subst ex140
            exact Jx140
        clear hb
        refine ex_if_eq 651 dL_law_644 (by decide) (fun c132 => ?_) (fun c132 => ?_)
        · rw [if_pos c132] at ex133
          refine ex_iconst 0 dL_law_651 kI_0 ?_
          subst ex133
          exact Jx133
        · rw [if_neg c132] at ex133
          refine ex_iconst 1 dL_law_647 kI_1 ?_
          refine ex_goto 652 dL_law_648 (by decide) ?_
          subst ex133
          exact Jx133
      rw [if_neg c144] at hb
      by_cases c152 : (x4 &&& 63) = 15
      · rw [if_pos c152] at hb
        refine ex_tswI 15 (654) 687 dL_law_33 c152 (by decide) (by decide) ?_
        refine ex_aload_n dL_law_687 rfl ?_
        refine ex_aload_n dL_law_688 rfl ?_
        refine ex_iload_n dL_law_689 rfl ?_
        refine ex_iconst 1 dL_law_690 kI_1 ?_
        refine ex_iadd dL_law_691 ?_
        obtain ⟨x145, qx145, hb⟩ := b1E hb
        refine lx_sld x145 dL_law_692 qx145 ?_
        refine ex_aload_n dL_law_693 rfl ?_
        refine ex_iload_n dL_law_694 rfl ?_
        refine ex_iconst 2 dL_law_695 kI_2 ?_
        refine ex_iadd dL_law_696 ?_
        obtain ⟨x146, qx146, hb⟩ := b1E hb
        refine lx_sld x146 dL_law_697 qx146 ?_
        obtain ⟨x147, qx147, hb⟩ := b1E hb
        refine lx_cVi [.int x145, .int x146] [] 0 10 x147 dL_law_698 cl_L_79 im_X10_want cy_X10_want oc_at_0 rfl (Nat.le_of_ble_eq_true rfl) (by decide) (t_X10_want l E x145 x146 M2 qx147) ?_
        refine ex_aload_n dL_law_701 rfl ?_
        refine ex_aload_n dL_law_702 rfl ?_
        refine ex_iload_n dL_law_703 rfl ?_
        refine ex_iconst 1 dL_law_704 kI_1 ?_
        refine ex_iadd dL_law_705 ?_
        obtain ⟨x148, qx148, hb⟩ := b1E hb
        refine lx_sld x148 dL_law_706 qx148 ?_
        refine ex_aload_n dL_law_707 rfl ?_
        refine ex_iload_n dL_law_708 rfl ?_
        refine ex_iconst 2 dL_law_709 kI_2 ?_
        refine ex_iadd dL_law_710 ?_
        obtain ⟨x149, qx149, hb⟩ := b1E hb
        refine lx_sld x149 dL_law_711 qx149 ?_
        obtain ⟨x150, qx150, hb⟩ := b1E hb
        refine lx_cVi [.int x148, .int x149] [.int x147] 155 11 x150 dL_law_712 cl_L_82 im_X11_want cy_X11_want oc_at_155 rfl (Nat.le_of_ble_eq_true rfl) (by decide) (t_X11_want l E x148 x149 M2 qx150) ?_
        refine ex_icmp_eq 1399 dL_law_715 (by decide) (fun c151 => ?_) (fun c151 => ?_)
        · rw [if_pos c151] at hb
          refine ex_iinc 6 (L2 := [some (.ref 1000000), some (.ref 0), some (.ref 155), some (.int (i1 + 6))]) dL_law_1399 rfl (by decide) (Nat.le_of_ble_eq_true rfl) rfl ?_
          refine ex_goto 18 dL_law_1402 (by decide) ?_
          refine ex_mskL [true, true, true, true] (L2 := [some (.ref 1000000), some (.ref 0), some (.ref 155), some (.int (i1 + 6))]) rfl ?_
          cases hb
          exact hk ((i1 + 6), M2) rfl
        · rw [if_neg c151] at hb
          cases hb
      rw [if_neg c152] at hb
      by_cases c160 : (x4 &&& 63) = 16
      · rw [if_pos c160] at hb
        refine ex_tswI 16 (687) 720 dL_law_33 c160 (by decide) (by decide) ?_
        refine ex_aload_n dL_law_720 rfl ?_
        refine ex_aload_n dL_law_721 rfl ?_
        refine ex_iload_n dL_law_722 rfl ?_
        refine ex_iconst 1 dL_law_723 kI_1 ?_
        refine ex_iadd dL_law_724 ?_
        obtain ⟨x153, qx153, hb⟩ := b1E hb
        refine lx_sld x153 dL_law_725 qx153 ?_
        refine ex_aload_n dL_law_726 rfl ?_
        refine ex_iload_n dL_law_727 rfl ?_
        refine ex_iconst 2 dL_law_728 kI_2 ?_
        refine ex_iadd dL_law_729 ?_
        obtain ⟨x154, qx154, hb⟩ := b1E hb
        refine lx_sld x154 dL_law_730 qx154 ?_
        obtain ⟨x155, qx155, hb⟩ := b1E hb
        refine lx_cVi [.int x153, .int x154] [] 0 10 x155 dL_law_731 cl_L_83 im_X10_book cy_X10_book oc_at_0 rfl (Nat.le_of_ble_eq_true rfl) (by decide) (t_X10_book l E x153 x154 M2 qx155) ?_
        refine ex_aload_n dL_law_734 rfl ?_
        refine ex_aload_n dL_law_735 rfl ?_
        refine ex_iload_n dL_law_736 rfl ?_
        refine ex_iconst 1 dL_law_737 kI_1 ?_
        refine ex_iadd dL_law_738 ?_
        obtain ⟨x156, qx156, hb⟩ := b1E hb
        refine lx_sld x156 dL_law_739 qx156 ?_
        refine ex_aload_n dL_law_740 rfl ?_
        refine ex_iload_n dL_law_741 rfl ?_
        refine ex_iconst 2 dL_law_742 kI_2 ?_
        refine ex_iadd dL_law_743 ?_
        obtain ⟨x157, qx157, hb⟩ := b1E hb
        refine lx_sld x157 dL_law_744 qx157 ?_
        obtain ⟨x158, qx158, hb⟩ := b1E hb
        refine lx_cVi [.int x156, .int x157] [.int x155] 155 11 x158 dL_law_745 cl_L_86 im_X11_book cy_X11_book oc_at_155 rfl (Nat.le_of_ble_eq_true rfl) (by decide) (t_X11_book l E x156 x157 M2 qx158) ?_
        refine ex_icmp_eq 1399 dL_law_748 (by decide) (fun c159 => ?_) (fun c159 => ?_)
        · rw [if_pos c159] at hb
          refine ex_iinc 6 (L2 := [some (.ref 1000000), some (.ref 0), some (.ref 155), some (.int (i1 + 6))]) dL_law_1399 rfl (by decide) (Nat.le_of_ble_eq_true rfl) rfl ?_
          refine ex_goto 18 dL_law_1402 (by decide) ?_
          refine ex_mskL [true, true, true, true] (L2 := [some (.ref 1000000), some (.ref 0), some (.ref 155), some (.int (i1 + 6))]) rfl ?_
          cases hb
          exact hk ((i1 + 6), M2) rfl
        · rw [if_neg c159] at hb
          cases hb
      rw [if_neg c160] at hb
      by_cases c170 : (x4 &&& 63) = 17
      · rw [if_pos c170] at hb
        refine ex_tswI 17 (720) 753 dL_law_33 c170 (by decide) (by decide) ?_
        refine ex_aload_n dL_law_753 rfl ?_
        refine ex_aload_n dL_law_754 rfl ?_
        refine ex_iload_n dL_law_755 rfl ?_
        refine ex_iconst 1 dL_law_756 kI_1 ?_
        refine ex_iadd dL_law_757 ?_
        obtain ⟨x161, qx161, hb⟩ := b1E hb
        refine lx_sld x161 dL_law_758 qx161 ?_
        refine ex_aload_n dL_law_759 rfl ?_
        refine ex_iload_n dL_law_760 rfl ?_
        refine ex_iconst 2 dL_law_761 kI_2 ?_
        refine ex_iadd dL_law_762 ?_
        obtain ⟨x162, qx162, hb⟩ := b1E hb
        refine lx_sld x162 dL_law_763 qx162 ?_
        obtain ⟨M163, x164, qx164, hb⟩ := b2E hb
        refine lx_cVi [.int x161, .int x162] [] 0 10 x164 dL_law_764 cl_L_87 im_X10_goes cy_X10_goes oc_at_0 rfl (Nat.le_of_ble_eq_true rfl) (by decide) (t_X10_goes l E x161 x162 M2 qx164) ?_
        refine ex_aload_n dL_law_767 rfl ?_
        refine ex_aload_n dL_law_768 rfl ?_
        refine ex_iload_n dL_law_769 rfl ?_
        refine ex_iconst 1 dL_law_770 kI_1 ?_
        refine ex_iadd dL_law_771 ?_
        obtain ⟨x165, qx165, hb⟩ := b1E hb
        refine lx_sld x165 dL_law_772 qx165 ?_
        refine ex_aload_n dL_law_773 rfl ?_
        refine ex_iload_n dL_law_774 rfl ?_
        refine ex_iconst 2 dL_law_775 kI_2 ?_
        refine ex_iadd dL_law_776 ?_
        obtain ⟨x166, qx166, hb⟩ := b1E hb
        refine lx_sld x166 dL_law_777 qx166 ?_
        obtain ⟨M167, x168, qx168, hb⟩ := b2E hb
        refine lx_cVi [.int x165, .int x166] [.int x164] 155 11 x168 dL_law_778 cl_L_90 im_X11_goes cy_X11_goes oc_at_155 rfl (Nat.le_of_ble_eq_true rfl) (by decide) (t_X11_goes l E x165 x166 M163 qx168) ?_
        refine ex_icmp_eq 1399 dL_law_781 (by decide) (fun c169 => ?_) (fun c169 => ?_)
        · rw [if_pos c169] at hb
          refine ex_iinc 6 (L2 := [some (.ref 1000000), some (.ref 0), some (.ref 155), some (.int (i1 + 6))]) dL_law_1399 rfl (by decide) (Nat.le_of_ble_eq_true rfl) rfl ?_
          refine ex_goto 18 dL_law_1402 (by decide) ?_
          refine ex_mskL [true, true, true, true] (L2 := [some (.ref 1000000), some (.ref 0), some (.ref 155), some (.int (i1 + 6))]) rfl ?_
          cases hb
          exact hk ((i1 + 6), M167) rfl
        · rw [if_neg c169] at hb
          cases hb
      rw [if_neg c170] at hb
      by_cases c181 : (x4 &&& 63) = 18
      · rw [if_pos c181] at hb
        refine ex_tswI 18 (753) 786 dL_law_33 c181 (by decide) (by decide) ?_
        refine ex_aload_n dL_law_786 rfl ?_
        refine ex_aload_n dL_law_787 rfl ?_
        refine ex_iload_n dL_law_788 rfl ?_
        refine ex_iconst 1 dL_law_789 kI_1 ?_
        refine ex_iadd dL_law_790 ?_
        obtain ⟨x171, qx171, hb⟩ := b1E hb
        refine lx_sld x171 dL_law_791 qx171 ?_
        refine ex_aload_n dL_law_792 rfl ?_
        refine ex_iload_n dL_law_793 rfl ?_
        refine ex_iconst 2 dL_law_794 kI_2 ?_
        refine ex_iadd dL_law_795 ?_
        obtain ⟨x172, qx172, hb⟩ := b1E hb
        refine lx_sld x172 dL_law_796 qx172 ?_
        refine ex_aload_n dL_law_797 rfl ?_
        refine ex_iload_n dL_law_798 rfl ?_
        refine ex_iconst 3 dL_law_799 kI_3 ?_
        refine ex_iadd dL_law_800 ?_
        obtain ⟨x173, qx173, hb⟩ := b1E hb
        refine lx_sld x173 dL_law_801 qx173 ?_
        obtain ⟨M174, x175, qx175, hb⟩ := b2E hb
        refine lx_cVi [.int x171, .int x172, .int x173] [] 0 10 x175 dL_law_802 cl_L_91 im_X10_joins cy_X10_joins oc_at_0 rfl (Nat.le_of_ble_eq_true rfl) (by decide) (t_X10_joins l E x171 x172 x173 M2 qx175) ?_
        refine ex_aload_n dL_law_805 rfl ?_
        refine ex_aload_n dL_law_806 rfl ?_
        refine ex_iload_n dL_law_807 rfl ?_
        refine ex_iconst 1 dL_law_808 kI_1 ?_
        refine ex_iadd dL_law_809 ?_
        obtain ⟨x176, qx176, hb⟩ := b1E hb
        refine lx_sld x176 dL_law_810 qx176 ?_
        refine ex_aload_n dL_law_811 rfl ?_
        refine ex_iload_n dL_law_812 rfl ?_
        refine ex_iconst 2 dL_law_813 kI_2 ?_
        refine ex_iadd dL_law_814 ?_
        obtain ⟨x177, qx177, hb⟩ := b1E hb
        refine lx_sld x177 dL_law_815 qx177 ?_
        refine ex_aload_n dL_law_816 rfl ?_
        refine ex_iload_n dL_law_817 rfl ?_
        refine ex_iconst 3 dL_law_818 kI_3 ?_
        refine ex_iadd dL_law_819 ?_
        obtain ⟨x178, qx178, hb⟩ := b1E hb
        refine lx_sld x178 dL_law_820 qx178 ?_
        obtain ⟨x179, qx179, hb⟩ := b1E hb
        refine lx_cVi [.int x176, .int x177, .int x178] [.int x175] 155 11 x179 dL_law_821 cl_L_95 im_X11_joins cy_X11_joins oc_at_155 rfl (Nat.le_of_ble_eq_true rfl) (by decide) (t_X11_joins l E x176 x177 x178 M174 qx179) ?_
        refine ex_icmp_eq 1399 dL_law_824 (by decide) (fun c180 => ?_) (fun c180 => ?_)
        · rw [if_pos c180] at hb
          refine ex_iinc 6 (L2 := [some (.ref 1000000), some (.ref 0), some (.ref 155), some (.int (i1 + 6))]) dL_law_1399 rfl (by decide) (Nat.le_of_ble_eq_true rfl) rfl ?_
          refine ex_goto 18 dL_law_1402 (by decide) ?_
          refine ex_mskL [true, true, true, true] (L2 := [some (.ref 1000000), some (.ref 0), some (.ref 155), some (.int (i1 + 6))]) rfl ?_
          cases hb
          exact hk ((i1 + 6), M174) rfl
        · rw [if_neg c180] at hb
          cases hb
      rw [if_neg c181] at hb
      by_cases c193 : (x4 &&& 63) = 19
      · rw [if_pos c193] at hb
        refine ex_tswI 19 (796) 829 dL_law_33 c193 (by decide) (by decide) ?_
        refine ex_aload_n dL_law_829 rfl ?_
        refine ex_aload_n dL_law_830 rfl ?_
        refine ex_iload_n dL_law_831 rfl ?_
        refine ex_iconst 1 dL_law_832 kI_1 ?_
        refine ex_iadd dL_law_833 ?_
        obtain ⟨x182, qx182, hb⟩ := b1E hb
        refine lx_sld x182 dL_law_834 qx182 ?_
        refine ex_aload_n dL_law_835 rfl ?_
        refine ex_iload_n dL_law_836 rfl ?_
        refine ex_iconst 2 dL_law_837 kI_2 ?_
        refine ex_iadd dL_law_838 ?_
        obtain ⟨x183, qx183, hb⟩ := b1E hb
        refine lx_sld x183 dL_law_839 qx183 ?_
        refine ex_aload_n dL_law_840 rfl ?_
        refine ex_iload_n dL_law_841 rfl ?_
        refine ex_iconst 3 dL_law_842 kI_3 ?_
        refine ex_iadd dL_law_843 ?_
        obtain ⟨x184, qx184, hb⟩ := b1E hb
        refine lx_sld x184 dL_law_844 qx184 ?_
        obtain ⟨M185, x186, qx186, hb⟩ := b2E hb
        refine lx_cVi [.int x182, .int x183, .int x184] [] 0 10 x186 dL_law_845 cl_L_96 im_X10_most cy_X10_most oc_at_0 rfl (Nat.le_of_ble_eq_true rfl) (by decide) (t_X10_most l E x182 x183 x184 M2 qx186) ?_
        refine ex_aload_n dL_law_848 rfl ?_
        refine ex_aload_n dL_law_849 rfl ?_
        refine ex_iload_n dL_law_850 rfl ?_
        refine ex_iconst 1 dL_law_851 kI_1 ?_
        refine ex_iadd dL_law_852 ?_
        obtain ⟨x187, qx187, hb⟩ := b1E hb
        refine lx_sld x187 dL_law_853 qx187 ?_
        refine ex_aload_n dL_law_854 rfl ?_
        refine ex_iload_n dL_law_855 rfl ?_
        refine ex_iconst 2 dL_law_856 kI_2 ?_
        refine ex_iadd dL_law_857 ?_
        obtain ⟨x188, qx188, hb⟩ := b1E hb
        refine lx_sld x188 dL_law_858 qx188 ?_
        refine ex_aload_n dL_law_859 rfl ?_
        refine ex_iload_n dL_law_860 rfl ?_
        refine ex_iconst 3 dL_law_861 kI_3 ?_
        refine ex_iadd dL_law_862 ?_
        obtain ⟨x189, qx189, hb⟩ := b1E hb
        refine lx_sld x189 dL_law_863 qx189 ?_
        obtain ⟨M190, x191, qx191, hb⟩ := b2E hb
        refine lx_cVi [.int x187, .int x188, .int x189] [.int x186] 155 11 x191 dL_law_864 cl_L_99 im_X11_most cy_X11_most oc_at_155 rfl (Nat.le_of_ble_eq_true rfl) (by decide) (t_X11_most l E x187 x188 x189 M185 qx191) ?_
        refine ex_icmp_eq 1399 dL_law_867 (by decide) (fun c192 => ?_) (fun c192 => ?_)
        · rw [if_pos c192] at hb
          refine ex_iinc 6 (L2 := [some (.ref 1000000), some (.ref 0), some (.ref 155), some (.int (i1 + 6))]) dL_law_1399 rfl (by decide) (Nat.le_of_ble_eq_true rfl) rfl ?_
          refine ex_goto 18 dL_law_1402 (by decide) ?_
          refine ex_mskL [true, true, true, true] (L2 := [some (.ref 1000000), some (.ref 0), some (.ref 155), some (.int (i1 + 6))]) rfl ?_
          cases hb
          exact hk ((i1 + 6), M190) rfl
        · rw [if_neg c192] at hb
          cases hb
      rw [if_neg c193] at hb
      by_cases c203 : (x4 &&& 63) = 20
      · rw [if_pos c203] at hb
        refine ex_tswI 20 (839) 872 dL_law_33 c203 (by decide) (by decide) ?_
        refine ex_aload_n dL_law_872 rfl ?_
        refine ex_aload_n dL_law_873 rfl ?_
        refine ex_iload_n dL_law_874 rfl ?_
        refine ex_iconst 1 dL_law_875 kI_1 ?_
        refine ex_iadd dL_law_876 ?_
        obtain ⟨x194, qx194, hb⟩ := b1E hb
        refine lx_sld x194 dL_law_877 qx194 ?_
        refine ex_aload_n dL_law_878 rfl ?_
        refine ex_iload_n dL_law_879 rfl ?_
        refine ex_iconst 2 dL_law_880 kI_2 ?_
        refine ex_iadd dL_law_881 ?_
        obtain ⟨x195, qx195, hb⟩ := b1E hb
        refine lx_sld x195 dL_law_882 qx195 ?_
        obtain ⟨M196, x197, qx197, hb⟩ := b2E hb
        refine lx_cVi [.int x194, .int x195] [] 0 10 x197 dL_law_883 cl_L_100 im_X10_piece cy_X10_piece oc_at_0 rfl (Nat.le_of_ble_eq_true rfl) (by decide) (t_X10_piece l E x194 x195 M2 qx197) ?_
        refine ex_aload_n dL_law_886 rfl ?_
        refine ex_aload_n dL_law_887 rfl ?_
        refine ex_iload_n dL_law_888 rfl ?_
        refine ex_iconst 1 dL_law_889 kI_1 ?_
        refine ex_iadd dL_law_890 ?_
        obtain ⟨x198, qx198, hb⟩ := b1E hb
        refine lx_sld x198 dL_law_891 qx198 ?_
        refine ex_aload_n dL_law_892 rfl ?_
        refine ex_iload_n dL_law_893 rfl ?_
        refine ex_iconst 2 dL_law_894 kI_2 ?_
        refine ex_iadd dL_law_895 ?_
        obtain ⟨x199, qx199, hb⟩ := b1E hb
        refine lx_sld x199 dL_law_896 qx199 ?_
        obtain ⟨M200, x201, qx201, hb⟩ := b2E hb
        refine lx_cVi [.int x198, .int x199] [.int x197] 155 11 x201 dL_law_897 cl_L_103 im_X11_piece cy_X11_piece oc_at_155 rfl (Nat.le_of_ble_eq_true rfl) (by decide) (t_X11_piece l E x198 x199 M196 qx201) ?_
        refine ex_icmp_eq 1399 dL_law_900 (by decide) (fun c202 => ?_) (fun c202 => ?_)
        · rw [if_pos c202] at hb
          refine ex_iinc 6 (L2 := [some (.ref 1000000), some (.ref 0), some (.ref 155), some (.int (i1 + 6))]) dL_law_1399 rfl (by decide) (Nat.le_of_ble_eq_true rfl) rfl ?_
          refine ex_goto 18 dL_law_1402 (by decide) ?_
          refine ex_mskL [true, true, true, true] (L2 := [some (.ref 1000000), some (.ref 0), some (.ref 155), some (.int (i1 + 6))]) rfl ?_
          cases hb
          exact hk ((i1 + 6), M200) rfl
        · rw [if_neg c202] at hb
          cases hb
      rw [if_neg c203] at hb
      by_cases c213 : (x4 &&& 63) = 21
      · rw [if_pos c213] at hb
        refine ex_tswI 21 (872) 905 dL_law_33 c213 (by decide) (by decide) ?_
        refine ex_aload_n dL_law_905 rfl ?_
        refine ex_aload_n dL_law_906 rfl ?_
        refine ex_iload_n dL_law_907 rfl ?_
        refine ex_iconst 1 dL_law_908 kI_1 ?_
        refine ex_iadd dL_law_909 ?_
        obtain ⟨x204, qx204, hb⟩ := b1E hb
        refine lx_sld x204 dL_law_910 qx204 ?_
        refine ex_aload_n dL_law_911 rfl ?_
        refine ex_iload_n dL_law_912 rfl ?_
        refine ex_iconst 2 dL_law_913 kI_2 ?_
        refine ex_iadd dL_law_914 ?_
        obtain ⟨x205, qx205, hb⟩ := b1E hb
        refine lx_sld x205 dL_law_915 qx205 ?_
        obtain ⟨M206, x207, qx207, hb⟩ := b2E hb
        refine lx_cVi [.int x204, .int x205] [] 0 10 x207 dL_law_916 cl_L_104 im_X10_cuts cy_X10_cuts oc_at_0 rfl (Nat.le_of_ble_eq_true rfl) (by decide) (t_X10_cuts l E x204 x205 M2 qx207) ?_
        refine ex_aload_n dL_law_919 rfl ?_
        refine ex_aload_n dL_law_920 rfl ?_
        refine ex_iload_n dL_law_921 rfl ?_
        refine ex_iconst 1 dL_law_922 kI_1 ?_
        refine ex_iadd dL_law_923 ?_
        obtain ⟨x208, qx208, hb⟩ := b1E hb
        refine lx_sld x208 dL_law_924 qx208 ?_
        refine ex_aload_n dL_law_925 rfl ?_
        refine ex_iload_n dL_law_926 rfl ?_
        refine ex_iconst 2 dL_law_927 kI_2 ?_
        refine ex_iadd dL_law_928 ?_
        obtain ⟨x209, qx209, hb⟩ := b1E hb
        refine lx_sld x209 dL_law_929 qx209 ?_
        obtain ⟨M210, x211, qx211, hb⟩ := b2E hb
        refine lx_cVi [.int x208, .int x209] [.int x207] 155 11 x211 dL_law_930 cl_L_107 im_X11_cuts cy_X11_cuts oc_at_155 rfl (Nat.le_of_ble_eq_true rfl) (by decide) (t_X11_cuts l E x208 x209 M206 qx211) ?_
        refine ex_icmp_eq 1399 dL_law_933 (by decide) (fun c212 => ?_) (fun c212 => ?_)
        · rw [if_pos c212] at hb
          refine ex_iinc 6 (L2 := [some (.ref 1000000), some (.ref 0), some (.ref 155), some (.int (i1 + 6))]) dL_law_1399 rfl (by decide) (Nat.le_of_ble_eq_true rfl) rfl ?_
          refine ex_goto 18 dL_law_1402 (by decide) ?_
          refine ex_mskL [true, true, true, true] (L2 := [some (.ref 1000000), some (.ref 0), some (.ref 155), some (.int (i1 + 6))]) rfl ?_
          cases hb
          exact hk ((i1 + 6), M210) rfl
        · rw [if_neg c212] at hb
          cases hb
      rw [if_neg c213] at hb
      by_cases c221 : (x4 &&& 63) = 22
      · rw [if_pos c221] at hb
        refine ex_tswI 22 (905) 938 dL_law_33 c221 (by decide) (by decide) ?_
        refine ex_aload_n dL_law_938 rfl ?_
        refine ex_aload_n dL_law_939 rfl ?_
        refine ex_iload_n dL_law_940 rfl ?_
        refine ex_iconst 1 dL_law_941 kI_1 ?_
        refine ex_iadd dL_law_942 ?_
        obtain ⟨x214, qx214, hb⟩ := b1E hb
        refine lx_sld x214 dL_law_943 qx214 ?_
        obtain ⟨M215, x216, qx216, hb⟩ := b2E hb
        refine lx_cVi [.int x214] [] 0 10 x216 dL_law_944 cl_L_108 im_X10_stalls cy_X10_stalls oc_at_0 rfl (Nat.le_of_ble_eq_true rfl) (by decide) (t_X10_stalls l E x214 M2 qx216) ?_
        refine ex_aload_n dL_law_947 rfl ?_
        refine ex_aload_n dL_law_948 rfl ?_
        refine ex_iload_n dL_law_949 rfl ?_
        refine ex_iconst 1 dL_law_950 kI_1 ?_
        refine ex_iadd dL_law_951 ?_
        obtain ⟨x217, qx217, hb⟩ := b1E hb
        refine lx_sld x217 dL_law_952 qx217 ?_
        obtain ⟨M218, x219, qx219, hb⟩ := b2E hb
        refine lx_cVi [.int x217] [.int x216] 155 11 x219 dL_law_953 cl_L_111 im_X11_stalls cy_X11_stalls oc_at_155 rfl (Nat.le_of_ble_eq_true rfl) (by decide) (t_X11_stalls l E x217 M215 qx219) ?_
        refine ex_icmp_eq 1399 dL_law_956 (by decide) (fun c220 => ?_) (fun c220 => ?_)
        · rw [if_pos c220] at hb
          refine ex_iinc 6 (L2 := [some (.ref 1000000), some (.ref 0), some (.ref 155), some (.int (i1 + 6))]) dL_law_1399 rfl (by decide) (Nat.le_of_ble_eq_true rfl) rfl ?_
          refine ex_goto 18 dL_law_1402 (by decide) ?_
          refine ex_mskL [true, true, true, true] (L2 := [some (.ref 1000000), some (.ref 0), some (.ref 155), some (.int (i1 + 6))]) rfl ?_
          cases hb
          exact hk ((i1 + 6), M218) rfl
        · rw [if_neg c220] at hb
          cases hb
      rw [if_neg c221] at hb
      by_cases c231 : (x4 &&& 63) = 23
      · rw [if_pos c231] at hb
        refine ex_tswI 23 (928) 961 dL_law_33 c231 (by decide) (by decide) ?_
        refine ex_aload_n dL_law_961 rfl ?_
        refine ex_aload_n dL_law_962 rfl ?_
        refine ex_iload_n dL_law_963 rfl ?_
        refine ex_iconst 1 dL_law_964 kI_1 ?_
        refine ex_iadd dL_law_965 ?_
        obtain ⟨x222, qx222, hb⟩ := b1E hb
        refine lx_sld x222 dL_law_966 qx222 ?_
        refine ex_aload_n dL_law_967 rfl ?_
        refine ex_iload_n dL_law_968 rfl ?_
        refine ex_iconst 2 dL_law_969 kI_2 ?_
        refine ex_iadd dL_law_970 ?_
        obtain ⟨x223, qx223, hb⟩ := b1E hb
        refine lx_sld x223 dL_law_971 qx223 ?_
        obtain ⟨M224, x225, qx225, hb⟩ := b2E hb
        refine lx_cVi [.int x222, .int x223] [] 0 10 x225 dL_law_972 cl_L_112 im_X10_test cy_X10_test oc_at_0 rfl (Nat.le_of_ble_eq_true rfl) (by decide) (t_X10_test l E x222 x223 M2 qx225) ?_
        refine ex_aload_n dL_law_975 rfl ?_
        refine ex_aload_n dL_law_976 rfl ?_
        refine ex_iload_n dL_law_977 rfl ?_
        refine ex_iconst 1 dL_law_978 kI_1 ?_
        refine ex_iadd dL_law_979 ?_
        obtain ⟨x226, qx226, hb⟩ := b1E hb
        refine lx_sld x226 dL_law_980 qx226 ?_
        refine ex_aload_n dL_law_981 rfl ?_
        refine ex_iload_n dL_law_982 rfl ?_
        refine ex_iconst 2 dL_law_983 kI_2 ?_
        refine ex_iadd dL_law_984 ?_
        obtain ⟨x227, qx227, hb⟩ := b1E hb
        refine lx_sld x227 dL_law_985 qx227 ?_
        obtain ⟨M228, x229, qx229, hb⟩ := b2E hb
        refine lx_cVi [.int x226, .int x227] [.int x225] 155 11 x229 dL_law_986 cl_L_115 im_X11_test cy_X11_test oc_at_155 rfl (Nat.le_of_ble_eq_true rfl) (by decide) (t_X11_test l E x226 x227 M224 qx229) ?_
        refine ex_icmp_eq 1399 dL_law_989 (by decide) (fun c230 => ?_) (fun c230 => ?_)
        · rw [if_pos c230] at hb
          refine ex_iinc 6 (L2 := [some (.ref 1000000), some (.ref 0), some (.ref 155), some (.int (i1 + 6))]) dL_law_1399 rfl (by decide) (Nat.le_of_ble_eq_true rfl) rfl ?_
          refine ex_goto 18 dL_law_1402 (by decide) ?_
          refine ex_mskL [true, true, true, true] (L2 := [some (.ref 1000000), some (.ref 0), some (.ref 155), some (.int (i1 + 6))]) rfl ?_
          cases hb
          exact hk ((i1 + 6), M228) rfl
        · rw [if_neg c230] at hb
          cases hb
      rw [if_neg c231] at hb
      by_cases c241 : (x4 &&& 63) = 24
      · rw [if_pos c241] at hb
        refine ex_tswI 24 (961) 994 dL_law_33 c241 (by decide) (by decide) ?_
        refine ex_aload_n dL_law_994 rfl ?_
        refine ex_aload_n dL_law_995 rfl ?_
        refine ex_iload_n dL_law_996 rfl ?_
        refine ex_iconst 1 dL_law_997 kI_1 ?_
        refine ex_iadd dL_law_998 ?_
        obtain ⟨x232, qx232, hb⟩ := b1E hb
        refine lx_sld x232 dL_law_999 qx232 ?_
        refine ex_aload_n dL_law_1000 rfl ?_
        refine ex_iload_n dL_law_1001 rfl ?_
        refine ex_iconst 2 dL_law_1002 kI_2 ?_
        refine ex_iadd dL_law_1003 ?_
        obtain ⟨x233, qx233, hb⟩ := b1E hb
        refine lx_sld x233 dL_law_1004 qx233 ?_
        refine ex_aload_n dL_law_1005 rfl ?_
        refine ex_iload_n dL_law_1006 rfl ?_
        refine ex_iconst 3 dL_law_1007 kI_3 ?_
        refine ex_iadd dL_law_1008 ?_
        obtain ⟨x234, qx234, hb⟩ := b1E hb
        refine lx_sld x234 dL_law_1009 qx234 ?_
        obtain ⟨x235, qx235, hb⟩ := b1E hb
        refine lx_cVi [.int x232, .int x233, .int x234] [] 0 10 x235 dL_law_1010 cl_L_116 im_X10_forged cy_X10_forged oc_at_0 rfl (Nat.le_of_ble_eq_true rfl) (by decide) (t_X10_forged l E x232 x233 x234 M2 qx235) ?_
        refine ex_aload_n dL_law_1013 rfl ?_
        refine ex_aload_n dL_law_1014 rfl ?_
        refine ex_iload_n dL_law_1015 rfl ?_
        refine ex_iconst 1 dL_law_1016 kI_1 ?_
        refine ex_iadd dL_law_1017 ?_
        obtain ⟨x236, qx236, hb⟩ := b1E hb
        refine lx_sld x236 dL_law_1018 qx236 ?_
        refine ex_aload_n dL_law_1019 rfl ?_
        refine ex_iload_n dL_law_1020 rfl ?_
        refine ex_iconst 2 dL_law_1021 kI_2 ?_
        refine ex_iadd dL_law_1022 ?_
        obtain ⟨x237, qx237, hb⟩ := b1E hb
        refine lx_sld x237 dL_law_1023 qx237 ?_
        refine ex_aload_n dL_law_1024 rfl ?_
        refine ex_iload_n dL_law_1025 rfl ?_
        refine ex_iconst 3 dL_law_1026 kI_3 ?_
        refine ex_iadd dL_law_1027 ?_
        obtain ⟨x238, qx238, hb⟩ := b1E hb
        refine lx_sld x238 dL_law_1028 qx238 ?_
        obtain ⟨x239, qx239, hb⟩ := b1E hb
        refine lx_cVi [.int x236, .int x237, .int x238] [.int x235] 155 11 x239 dL_law_1029 cl_L_119 im_X11_forged cy_X11_forged oc_at_155 rfl (Nat.le_of_ble_eq_true rfl) (by decide) (t_X11_forged l E x236 x237 x238 M2 qx239) ?_
        refine ex_icmp_eq 1399 dL_law_1032 (by decide) (fun c240 => ?_) (fun c240 => ?_)
        · rw [if_pos c240] at hb
          refine ex_iinc 6 (L2 := [some (.ref 1000000), some (.ref 0), some (.ref 155), some (.int (i1 + 6))]) dL_law_1399 rfl (by decide) (Nat.le_of_ble_eq_true rfl) rfl ?_
          refine ex_goto 18 dL_law_1402 (by decide) ?_
          refine ex_mskL [true, true, true, true] (L2 := [some (.ref 1000000), some (.ref 0), some (.ref 155), some (.int (i1 + 6))]) rfl ?_
          cases hb
          exact hk ((i1 + 6), M2) rfl
        · rw [if_neg c240] at hb
          cases hb
      rw [if_neg c241] at hb
      by_cases c247 : (x4 &&& 63) = 25
      · rw [if_pos c247] at hb
        refine ex_tswI 25 (1004) 1037 dL_law_33 c247 (by decide) (by decide) ?_
        refine ex_aload_n dL_law_1037 rfl ?_
        refine ex_aload_n dL_law_1038 rfl ?_
        refine ex_iload_n dL_law_1039 rfl ?_
        refine ex_iconst 1 dL_law_1040 kI_1 ?_
        refine ex_iadd dL_law_1041 ?_
        obtain ⟨x242, qx242, hb⟩ := b1E hb
        refine lx_sld x242 dL_law_1042 qx242 ?_
        obtain ⟨x243, qx243, hb⟩ := b1E hb
        refine lx_cVi [.int x242] [] 0 10 x243 dL_law_1043 cl_L_120 im_X10_lookAt cy_X10_lookAt oc_at_0 rfl (Nat.le_of_ble_eq_true rfl) (by decide) (t_X10_lookAt l E x242 M2 qx243) ?_
        refine ex_aload_n dL_law_1046 rfl ?_
        refine ex_aload_n dL_law_1047 rfl ?_
        refine ex_iload_n dL_law_1048 rfl ?_
        refine ex_iconst 1 dL_law_1049 kI_1 ?_
        refine ex_iadd dL_law_1050 ?_
        obtain ⟨x244, qx244, hb⟩ := b1E hb
        refine lx_sld x244 dL_law_1051 qx244 ?_
        obtain ⟨x245, qx245, hb⟩ := b1E hb
        refine lx_cVi [.int x244] [.int x243] 155 11 x245 dL_law_1052 cl_L_123 im_X11_lookAt cy_X11_lookAt oc_at_155 rfl (Nat.le_of_ble_eq_true rfl) (by decide) (t_X11_lookAt l E x244 M2 qx245) ?_
        refine ex_icmp_eq 1399 dL_law_1055 (by decide) (fun c246 => ?_) (fun c246 => ?_)
        · rw [if_pos c246] at hb
          refine ex_iinc 6 (L2 := [some (.ref 1000000), some (.ref 0), some (.ref 155), some (.int (i1 + 6))]) dL_law_1399 rfl (by decide) (Nat.le_of_ble_eq_true rfl) rfl ?_
          refine ex_goto 18 dL_law_1402 (by decide) ?_
          refine ex_mskL [true, true, true, true] (L2 := [some (.ref 1000000), some (.ref 0), some (.ref 155), some (.int (i1 + 6))]) rfl ?_
          cases hb
          exact hk ((i1 + 6), M2) rfl
        · rw [if_neg c246] at hb
          cases hb
      rw [if_neg c247] at hb
      by_cases c257 : (x4 &&& 63) = 26
      · rw [if_pos c257] at hb
        refine ex_tswI 26 (1027) 1060 dL_law_33 c257 (by decide) (by decide) ?_
        refine ex_aload_n dL_law_1060 rfl ?_
        refine ex_aload_n dL_law_1061 rfl ?_
        refine ex_iload_n dL_law_1062 rfl ?_
        refine ex_iconst 1 dL_law_1063 kI_1 ?_
        refine ex_iadd dL_law_1064 ?_
        obtain ⟨x248, qx248, hb⟩ := b1E hb
        refine lx_sld x248 dL_law_1065 qx248 ?_
        refine ex_aload_n dL_law_1066 rfl ?_
        refine ex_iload_n dL_law_1067 rfl ?_
        refine ex_iconst 2 dL_law_1068 kI_2 ?_
        refine ex_iadd dL_law_1069 ?_
        obtain ⟨x249, qx249, hb⟩ := b1E hb
        refine lx_sld x249 dL_law_1070 qx249 ?_
        obtain ⟨M250, x251, qx251, hb⟩ := b2E hb
        refine lx_cVi [.int x248, .int x249] [] 0 10 x251 dL_law_1071 cl_L_124 im_X10_crumbs cy_X10_crumbs oc_at_0 rfl (Nat.le_of_ble_eq_true rfl) (by decide) (t_X10_crumbs l E x248 x249 M2 qx251) ?_
        refine ex_aload_n dL_law_1074 rfl ?_
        refine ex_aload_n dL_law_1075 rfl ?_
        refine ex_iload_n dL_law_1076 rfl ?_
        refine ex_iconst 1 dL_law_1077 kI_1 ?_
        refine ex_iadd dL_law_1078 ?_
        obtain ⟨x252, qx252, hb⟩ := b1E hb
        refine lx_sld x252 dL_law_1079 qx252 ?_
        refine ex_aload_n dL_law_1080 rfl ?_
        refine ex_iload_n dL_law_1081 rfl ?_
        refine ex_iconst 2 dL_law_1082 kI_2 ?_
        refine ex_iadd dL_law_1083 ?_
        obtain ⟨x253, qx253, hb⟩ := b1E hb
        refine lx_sld x253 dL_law_1084 qx253 ?_
        obtain ⟨M254, x255, qx255, hb⟩ := b2E hb
        refine lx_cVi [.int x252, .int x253] [.int x251] 155 11 x255 dL_law_1085 cl_L_127 im_X11_crumbs cy_X11_crumbs oc_at_155 rfl (Nat.le_of_ble_eq_true rfl) (by decide) (t_X11_crumbs l E x252 x253 M250 qx255) ?_
        refine ex_icmp_eq 1399 dL_law_1088 (by decide) (fun c256 => ?_) (fun c256 => ?_)
        · rw [if_pos c256] at hb
          refine ex_iinc 6 (L2 := [some (.ref 1000000), some (.ref 0), some (.ref 155), some (.int (i1 + 6))]) dL_law_1399 rfl (by decide) (Nat.le_of_ble_eq_true rfl) rfl ?_
          refine ex_goto 18 dL_law_1402 (by decide) ?_
          refine ex_mskL [true, true, true, true] (L2 := [some (.ref 1000000), some (.ref 0), some (.ref 155), some (.int (i1 + 6))]) rfl ?_
          cases hb
          exact hk ((i1 + 6), M254) rfl
        · rw [if_neg c256] at hb
          cases hb
      rw [if_neg c257] at hb
      by_cases c265 : (x4 &&& 63) = 27
      · rw [if_pos c265] at hb
        refine ex_tswI 27 (1060) 1093 dL_law_33 c265 (by decide) (by decide) ?_
        refine ex_aload_n dL_law_1093 rfl ?_
        refine ex_aload_n dL_law_1094 rfl ?_
        refine ex_iload_n dL_law_1095 rfl ?_
        refine ex_iconst 1 dL_law_1096 kI_1 ?_
        refine ex_iadd dL_law_1097 ?_
        obtain ⟨x258, qx258, hb⟩ := b1E hb
        refine lx_sld x258 dL_law_1098 qx258 ?_
        obtain ⟨M259, x260, qx260, hb⟩ := b2E hb
        refine lx_cVi [.int x258] [] 0 10 x260 dL_law_1099 cl_L_128 im_X10_cooks cy_X10_cooks oc_at_0 rfl (Nat.le_of_ble_eq_true rfl) (by decide) (t_X10_cooks l E x258 M2 qx260) ?_
        refine ex_aload_n dL_law_1102 rfl ?_
        refine ex_aload_n dL_law_1103 rfl ?_
        refine ex_iload_n dL_law_1104 rfl ?_
        refine ex_iconst 1 dL_law_1105 kI_1 ?_
        refine ex_iadd dL_law_1106 ?_
        obtain ⟨x261, qx261, hb⟩ := b1E hb
        refine lx_sld x261 dL_law_1107 qx261 ?_
        obtain ⟨M262, x263, qx263, hb⟩ := b2E hb
        refine lx_cVi [.int x261] [.int x260] 155 11 x263 dL_law_1108 cl_L_131 im_X11_cooks cy_X11_cooks oc_at_155 rfl (Nat.le_of_ble_eq_true rfl) (by decide) (t_X11_cooks l E x261 M259 qx263) ?_
        refine ex_icmp_eq 1399 dL_law_1111 (by decide) (fun c264 => ?_) (fun c264 => ?_)
        · rw [if_pos c264] at hb
          refine ex_iinc 6 (L2 := [some (.ref 1000000), some (.ref 0), some (.ref 155), some (.int (i1 + 6))]) dL_law_1399 rfl (by decide) (Nat.le_of_ble_eq_true rfl) rfl ?_
          refine ex_goto 18 dL_law_1402 (by decide) ?_
          refine ex_mskL [true, true, true, true] (L2 := [some (.ref 1000000), some (.ref 0), some (.ref 155), some (.int (i1 + 6))]) rfl ?_
          cases hb
          exact hk ((i1 + 6), M262) rfl
        · rw [if_neg c264] at hb
          cases hb
      rw [if_neg c265] at hb
      by_cases c275 : (x4 &&& 63) = 28
      · rw [if_pos c275] at hb
        refine ex_tswI 28 (1083) 1116 dL_law_33 c275 (by decide) (by decide) ?_
        refine ex_aload_n dL_law_1116 rfl ?_
        refine ex_aload_n dL_law_1117 rfl ?_
        refine ex_iload_n dL_law_1118 rfl ?_
        refine ex_iconst 1 dL_law_1119 kI_1 ?_
        refine ex_iadd dL_law_1120 ?_
        obtain ⟨x266, qx266, hb⟩ := b1E hb
        refine lx_sld x266 dL_law_1121 qx266 ?_
        refine ex_aload_n dL_law_1122 rfl ?_
        refine ex_iload_n dL_law_1123 rfl ?_
        refine ex_iconst 2 dL_law_1124 kI_2 ?_
        refine ex_iadd dL_law_1125 ?_
        obtain ⟨x267, qx267, hb⟩ := b1E hb
        refine lx_sld x267 dL_law_1126 qx267 ?_
        obtain ⟨M268, x269, qx269, hb⟩ := b2E hb
        refine lx_cVi [.int x266, .int x267] [] 0 10 x269 dL_law_1127 cl_L_132 im_X10_waits cy_X10_waits oc_at_0 rfl (Nat.le_of_ble_eq_true rfl) (by decide) (t_X10_waits l E x266 x267 M2 qx269) ?_
        refine ex_aload_n dL_law_1130 rfl ?_
        refine ex_aload_n dL_law_1131 rfl ?_
        refine ex_iload_n dL_law_1132 rfl ?_
        refine ex_iconst 1 dL_law_1133 kI_1 ?_
        refine ex_iadd dL_law_1134 ?_
        obtain ⟨x270, qx270, hb⟩ := b1E hb
        refine lx_sld x270 dL_law_1135 qx270 ?_
        refine ex_aload_n dL_law_1136 rfl ?_
        refine ex_iload_n dL_law_1137 rfl ?_
        refine ex_iconst 2 dL_law_1138 kI_2 ?_
        refine ex_iadd dL_law_1139 ?_
        obtain ⟨x271, qx271, hb⟩ := b1E hb
        refine lx_sld x271 dL_law_1140 qx271 ?_
        obtain ⟨M272, x273, qx273, hb⟩ := b2E hb
        refine lx_cVi [.int x270, .int x271] [.int x269] 155 11 x273 dL_law_1141 cl_L_135 im_X11_waits cy_X11_waits oc_at_155 rfl (Nat.le_of_ble_eq_true rfl) (by decide) (t_X11_waits l E x270 x271 M268 qx273) ?_
        refine ex_icmp_eq 1399 dL_law_1144 (by decide) (fun c274 => ?_) (fun c274 => ?_)
        · rw [if_pos c274] at hb
          refine ex_iinc 6 (L2 := [some (.ref 1000000), some (.ref 0), some (.ref 155), some (.int (i1 + 6))]) dL_law_1399 rfl (by decide) (Nat.le_of_ble_eq_true rfl) rfl ?_
          refine ex_goto 18 dL_law_1402 (by decide) ?_
          refine ex_mskL [true, true, true, true] (L2 := [some (.ref 1000000), some (.ref 0), some (.ref 155), some (.int (i1 + 6))]) rfl ?_
          cases hb
          exact hk ((i1 + 6), M272) rfl
        · rw [if_neg c274] at hb
          cases hb
      rw [if_neg c275] at hb
      by_cases c283 : (x4 &&& 63) = 29
      · rw [if_pos c283] at hb
        refine ex_tswI 29 (1116) 1149 dL_law_33 c283 (by decide) (by decide) ?_
        refine ex_aload_n dL_law_1149 rfl ?_
        refine ex_aload_n dL_law_1150 rfl ?_
        refine ex_iload_n dL_law_1151 rfl ?_
        refine ex_iconst 1 dL_law_1152 kI_1 ?_
        refine ex_iadd dL_law_1153 ?_
        obtain ⟨x276, qx276, hb⟩ := b1E hb
        refine lx_sld x276 dL_law_1154 qx276 ?_
        obtain ⟨M277, x278, qx278, hb⟩ := b2E hb
        refine lx_cVi [.int x276] [] 0 10 x278 dL_law_1155 cl_L_136 im_X10_limit cy_X10_limit oc_at_0 rfl (Nat.le_of_ble_eq_true rfl) (by decide) (t_X10_limit l E x276 M2 qx278) ?_
        refine ex_aload_n dL_law_1158 rfl ?_
        refine ex_aload_n dL_law_1159 rfl ?_
        refine ex_iload_n dL_law_1160 rfl ?_
        refine ex_iconst 1 dL_law_1161 kI_1 ?_
        refine ex_iadd dL_law_1162 ?_
        obtain ⟨x279, qx279, hb⟩ := b1E hb
        refine lx_sld x279 dL_law_1163 qx279 ?_
        obtain ⟨M280, x281, qx281, hb⟩ := b2E hb
        refine lx_cVi [.int x279] [.int x278] 155 11 x281 dL_law_1164 cl_L_139 im_X11_limit cy_X11_limit oc_at_155 rfl (Nat.le_of_ble_eq_true rfl) (by decide) (t_X11_limit l E x279 M277 qx281) ?_
        refine ex_icmp_eq 1399 dL_law_1167 (by decide) (fun c282 => ?_) (fun c282 => ?_)
        · rw [if_pos c282] at hb
          refine ex_iinc 6 (L2 := [some (.ref 1000000), some (.ref 0), some (.ref 155), some (.int (i1 + 6))]) dL_law_1399 rfl (by decide) (Nat.le_of_ble_eq_true rfl) rfl ?_
          refine ex_goto 18 dL_law_1402 (by decide) ?_
          refine ex_mskL [true, true, true, true] (L2 := [some (.ref 1000000), some (.ref 0), some (.ref 155), some (.int (i1 + 6))]) rfl ?_
          cases hb
          exact hk ((i1 + 6), M280) rfl
        · rw [if_neg c282] at hb
          cases hb
      rw [if_neg c283] at hb
      by_cases c293 : (x4 &&& 63) = 30
      · rw [if_pos c293] at hb
        refine ex_tswI 30 (1139) 1172 dL_law_33 c293 (by decide) (by decide) ?_
        refine ex_aload_n dL_law_1172 rfl ?_
        refine ex_aload_n dL_law_1173 rfl ?_
        refine ex_iload_n dL_law_1174 rfl ?_
        refine ex_iconst 1 dL_law_1175 kI_1 ?_
        refine ex_iadd dL_law_1176 ?_
        obtain ⟨x284, qx284, hb⟩ := b1E hb
        refine lx_sld x284 dL_law_1177 qx284 ?_
        refine ex_aload_n dL_law_1178 rfl ?_
        refine ex_iload_n dL_law_1179 rfl ?_
        refine ex_iconst 2 dL_law_1180 kI_2 ?_
        refine ex_iadd dL_law_1181 ?_
        obtain ⟨x285, qx285, hb⟩ := b1E hb
        refine lx_sld x285 dL_law_1182 qx285 ?_
        refine ex_aload_n dL_law_1183 rfl ?_
        refine ex_iload_n dL_law_1184 rfl ?_
        refine ex_iconst 3 dL_law_1185 kI_3 ?_
        refine ex_iadd dL_law_1186 ?_
        obtain ⟨x286, qx286, hb⟩ := b1E hb
        refine lx_sld x286 dL_law_1187 qx286 ?_
        obtain ⟨x287, qx287, hb⟩ := b1E hb
        refine lx_cVi [.int x284, .int x285, .int x286] [] 0 10 x287 dL_law_1188 cl_L_140 im_X10_dusk cy_X10_dusk oc_at_0 rfl (Nat.le_of_ble_eq_true rfl) (by decide) (t_X10_dusk l E x284 x285 x286 M2 qx287) ?_
        refine ex_aload_n dL_law_1191 rfl ?_
        refine ex_aload_n dL_law_1192 rfl ?_
        refine ex_iload_n dL_law_1193 rfl ?_
        refine ex_iconst 1 dL_law_1194 kI_1 ?_
        refine ex_iadd dL_law_1195 ?_
        obtain ⟨x288, qx288, hb⟩ := b1E hb
        refine lx_sld x288 dL_law_1196 qx288 ?_
        refine ex_aload_n dL_law_1197 rfl ?_
        refine ex_iload_n dL_law_1198 rfl ?_
        refine ex_iconst 2 dL_law_1199 kI_2 ?_
        refine ex_iadd dL_law_1200 ?_
        obtain ⟨x289, qx289, hb⟩ := b1E hb
        refine lx_sld x289 dL_law_1201 qx289 ?_
        refine ex_aload_n dL_law_1202 rfl ?_
        refine ex_iload_n dL_law_1203 rfl ?_
        refine ex_iconst 3 dL_law_1204 kI_3 ?_
        refine ex_iadd dL_law_1205 ?_
        obtain ⟨x290, qx290, hb⟩ := b1E hb
        refine lx_sld x290 dL_law_1206 qx290 ?_
        obtain ⟨x291, qx291, hb⟩ := b1E hb
        refine lx_cVi [.int x288, .int x289, .int x290] [.int x287] 155 11 x291 dL_law_1207 cl_L_143 im_X11_dusk cy_X11_dusk oc_at_155 rfl (Nat.le_of_ble_eq_true rfl) (by decide) (t_X11_dusk l E x288 x289 x290 M2 qx291) ?_
        refine ex_icmp_eq 1399 dL_law_1210 (by decide) (fun c292 => ?_) (fun c292 => ?_)
        · rw [if_pos c292] at hb
          refine ex_iinc 6 (L2 := [some (.ref 1000000), some (.ref 0), some (.ref 155), some (.int (i1 + 6))]) dL_law_1399 rfl (by decide) (Nat.le_of_ble_eq_true rfl) rfl ?_
          refine ex_goto 18 dL_law_1402 (by decide) ?_
          refine ex_mskL [true, true, true, true] (L2 := [some (.ref 1000000), some (.ref 0), some (.ref 155), some (.int (i1 + 6))]) rfl ?_
          cases hb
          exact hk ((i1 + 6), M2) rfl
        · rw [if_neg c292] at hb
          cases hb
      rw [if_neg c293] at hb
      by_cases c307 : (x4 &&& 63) = 31
      · rw [if_pos c307] at hb
        refine ex_tswI 31 (1182) 1215 dL_law_33 c307 (by decide) (by decide) ?_
        refine ex_aload_n dL_law_1215 rfl ?_
        refine ex_aload_n dL_law_1216 rfl ?_
        refine ex_iload_n dL_law_1217 rfl ?_
        refine ex_iconst 1 dL_law_1218 kI_1 ?_
        refine ex_iadd dL_law_1219 ?_
        obtain ⟨x294, qx294, hb⟩ := b1E hb
        refine lx_sld x294 dL_law_1220 qx294 ?_
        refine ex_aload_n dL_law_1221 rfl ?_
        refine ex_iload_n dL_law_1222 rfl ?_
        refine ex_iconst 2 dL_law_1223 kI_2 ?_
        refine ex_iadd dL_law_1224 ?_
        obtain ⟨x295, qx295, hb⟩ := b1E hb
        refine lx_sld x295 dL_law_1225 qx295 ?_
        refine ex_aload_n dL_law_1226 rfl ?_
        refine ex_iload_n dL_law_1227 rfl ?_
        refine ex_iconst 3 dL_law_1228 kI_3 ?_
        refine ex_iadd dL_law_1229 ?_
        obtain ⟨x296, qx296, hb⟩ := b1E hb
        refine lx_sld x296 dL_law_1230 qx296 ?_
        refine ex_aload_n dL_law_1231 rfl ?_
        refine ex_iload_n dL_law_1232 rfl ?_
        refine ex_iconst 4 dL_law_1233 kI_4 ?_
        refine ex_iadd dL_law_1234 ?_
        obtain ⟨x297, qx297, hb⟩ := b1E hb
        refine lx_sld x297 dL_law_1235 qx297 ?_
        obtain ⟨M298, x299, qx299, hb⟩ := b2E hb
        refine lx_cVi [.int x294, .int x295, .int x296, .int x297] [] 0 10 x299 dL_law_1236 cl_L_144 im_X10_trade cy_X10_trade oc_at_0 rfl (Nat.le_of_ble_eq_true rfl) (by decide) (t_X10_trade l E x294 x295 x296 x297 M2 qx299) ?_
        refine ex_aload_n dL_law_1239 rfl ?_
        refine ex_aload_n dL_law_1240 rfl ?_
        refine ex_iload_n dL_law_1241 rfl ?_
        refine ex_iconst 1 dL_law_1242 kI_1 ?_
        refine ex_iadd dL_law_1243 ?_
        obtain ⟨x300, qx300, hb⟩ := b1E hb
        refine lx_sld x300 dL_law_1244 qx300 ?_
        refine ex_aload_n dL_law_1245 rfl ?_
        refine ex_iload_n dL_law_1246 rfl ?_
        refine ex_iconst 2 dL_law_1247 kI_2 ?_
        refine ex_iadd dL_law_1248 ?_
        obtain ⟨x301, qx301, hb⟩ := b1E hb
        refine lx_sld x301 dL_law_1249 qx301 ?_
        refine ex_aload_n dL_law_1250 rfl ?_
        refine ex_iload_n dL_law_1251 rfl ?_
        refine ex_iconst 3 dL_law_1252 kI_3 ?_
        refine ex_iadd dL_law_1253 ?_
        obtain ⟨x302, qx302, hb⟩ := b1E hb
        refine lx_sld x302 dL_law_1254 qx302 ?_
        refine ex_aload_n dL_law_1255 rfl ?_
        refine ex_iload_n dL_law_1256 rfl ?_
        refine ex_iconst 4 dL_law_1257 kI_4 ?_
        refine ex_iadd dL_law_1258 ?_
        obtain ⟨x303, qx303, hb⟩ := b1E hb
        refine lx_sld x303 dL_law_1259 qx303 ?_
        obtain ⟨M304, x305, qx305, hb⟩ := b2E hb
        refine lx_cVi [.int x300, .int x301, .int x302, .int x303] [.int x299] 155 11 x305 dL_law_1260 cl_L_148 im_X11_trade cy_X11_trade oc_at_155 rfl (Nat.le_of_ble_eq_true rfl) (by decide) (t_X11_trade l E x300 x301 x302 x303 M298 qx305) ?_
        refine ex_icmp_eq 1399 dL_law_1263 (by decide) (fun c306 => ?_) (fun c306 => ?_)
        · rw [if_pos c306] at hb
          refine ex_iinc 6 (L2 := [some (.ref 1000000), some (.ref 0), some (.ref 155), some (.int (i1 + 6))]) dL_law_1399 rfl (by decide) (Nat.le_of_ble_eq_true rfl) rfl ?_
          refine ex_goto 18 dL_law_1402 (by decide) ?_
          refine ex_mskL [true, true, true, true] (L2 := [some (.ref 1000000), some (.ref 0), some (.ref 155), some (.int (i1 + 6))]) rfl ?_
          cases hb
          exact hk ((i1 + 6), M304) rfl
        · rw [if_neg c306] at hb
          cases hb
      rw [if_neg c307] at hb
      by_cases c315 : (x4 &&& 63) = 32
      · rw [if_pos c315] at hb
        refine ex_tswI 32 (1235) 1268 dL_law_33 c315 (by decide) (by decide) ?_
        refine ex_aload_n dL_law_1268 rfl ?_
        refine ex_aload_n dL_law_1269 rfl ?_
        refine ex_iload_n dL_law_1270 rfl ?_
        refine ex_iconst 1 dL_law_1271 kI_1 ?_
        refine ex_iadd dL_law_1272 ?_
        obtain ⟨x308, qx308, hb⟩ := b1E hb
        refine lx_sld x308 dL_law_1273 qx308 ?_
        refine ex_aload_n dL_law_1274 rfl ?_
        refine ex_iload_n dL_law_1275 rfl ?_
        refine ex_iconst 2 dL_law_1276 kI_2 ?_
        refine ex_iadd dL_law_1277 ?_
        obtain ⟨x309, qx309, hb⟩ := b1E hb
        refine lx_sld x309 dL_law_1278 qx309 ?_
        obtain ⟨x310, qx310, hb⟩ := b1E hb
        refine lx_cVi [.int x308, .int x309] [] 0 10 x310 dL_law_1279 cl_L_149 im_X10_ring cy_X10_ring oc_at_0 rfl (Nat.le_of_ble_eq_true rfl) (by decide) (t_X10_ring l E x308 x309 M2 qx310) ?_
        refine ex_aload_n dL_law_1282 rfl ?_
        refine ex_aload_n dL_law_1283 rfl ?_
        refine ex_iload_n dL_law_1284 rfl ?_
        refine ex_iconst 1 dL_law_1285 kI_1 ?_
        refine ex_iadd dL_law_1286 ?_
        obtain ⟨x311, qx311, hb⟩ := b1E hb
        refine lx_sld x311 dL_law_1287 qx311 ?_
        refine ex_aload_n dL_law_1288 rfl ?_
        refine ex_iload_n dL_law_1289 rfl ?_
        refine ex_iconst 2 dL_law_1290 kI_2 ?_
        refine ex_iadd dL_law_1291 ?_
        obtain ⟨x312, qx312, hb⟩ := b1E hb
        refine lx_sld x312 dL_law_1292 qx312 ?_
        obtain ⟨x313, qx313, hb⟩ := b1E hb
        refine lx_cVi [.int x311, .int x312] [.int x310] 155 11 x313 dL_law_1293 cl_L_152 im_X11_ring cy_X11_ring oc_at_155 rfl (Nat.le_of_ble_eq_true rfl) (by decide) (t_X11_ring l E x311 x312 M2 qx313) ?_
        refine ex_icmp_eq 1399 dL_law_1296 (by decide) (fun c314 => ?_) (fun c314 => ?_)
        · rw [if_pos c314] at hb
          refine ex_iinc 6 (L2 := [some (.ref 1000000), some (.ref 0), some (.ref 155), some (.int (i1 + 6))]) dL_law_1399 rfl (by decide) (Nat.le_of_ble_eq_true rfl) rfl ?_
          refine ex_goto 18 dL_law_1402 (by decide) ?_
          refine ex_mskL [true, true, true, true] (L2 := [some (.ref 1000000), some (.ref 0), some (.ref 155), some (.int (i1 + 6))]) rfl ?_
          cases hb
          exact hk ((i1 + 6), M2) rfl
        · rw [if_neg c314] at hb
          cases hb
      rw [if_neg c315] at hb
      by_cases c322 : (x4 &&& 63) = 33
      · rw [if_pos c322] at hb
        refine ex_tswI 33 (1268) 1301 dL_law_33 c322 (by decide) (by decide) ?_
        refine ex_aload_n dL_law_1301 rfl ?_
        refine ex_aload_n dL_law_1302 rfl ?_
        refine ex_iload_n dL_law_1303 rfl ?_
        refine ex_iconst 1 dL_law_1304 kI_1 ?_
        refine ex_iadd dL_law_1305 ?_
        obtain ⟨x316, qx316, hb⟩ := b1E hb
        refine lx_sld x316 dL_law_1306 qx316 ?_
        obtain ⟨M317, x318, qx318, hb⟩ := b2E hb
        refine lx_cVi [.int x316] [] 0 10 x318 dL_law_1307 cl_L_153 im_X10_back cy_X10_back oc_at_0 rfl (Nat.le_of_ble_eq_true rfl) (by decide) (t_X10_back l E x316 M2 qx318) ?_
        refine ex_aload_n dL_law_1310 rfl ?_
        refine ex_aload_n dL_law_1311 rfl ?_
        refine ex_iload_n dL_law_1312 rfl ?_
        refine ex_iconst 1 dL_law_1313 kI_1 ?_
        refine ex_iadd dL_law_1314 ?_
        obtain ⟨x319, qx319, hb⟩ := b1E hb
        refine lx_sld x319 dL_law_1315 qx319 ?_
        obtain ⟨x320, qx320, hb⟩ := b1E hb
        refine lx_cVi [.int x319] [.int x318] 155 11 x320 dL_law_1316 cl_L_156 im_X11_back cy_X11_back oc_at_155 rfl (Nat.le_of_ble_eq_true rfl) (by decide) (t_X11_back l E x319 M317 qx320) ?_
        refine ex_icmp_eq 1399 dL_law_1319 (by decide) (fun c321 => ?_) (fun c321 => ?_)
        · rw [if_pos c321] at hb
          refine ex_iinc 6 (L2 := [some (.ref 1000000), some (.ref 0), some (.ref 155), some (.int (i1 + 6))]) dL_law_1399 rfl (by decide) (Nat.le_of_ble_eq_true rfl) rfl ?_
          refine ex_goto 18 dL_law_1402 (by decide) ?_
          refine ex_mskL [true, true, true, true] (L2 := [some (.ref 1000000), some (.ref 0), some (.ref 155), some (.int (i1 + 6))]) rfl ?_
          cases hb
          exact hk ((i1 + 6), M317) rfl
        · rw [if_neg c321] at hb
          cases hb
      rw [if_neg c322] at hb
      by_cases c328 : (x4 &&& 63) = 34
      · rw [if_pos c328] at hb
        refine ex_tswI 34 (1291) 1324 dL_law_33 c328 (by decide) (by decide) ?_
        refine ex_aload_n dL_law_1324 rfl ?_
        obtain ⟨M323, x324, qx324, hb⟩ := b2E hb
        refine lx_cVi [] [] 0 10 x324 dL_law_1325 cl_L_157 im_X10_undo cy_X10_undo oc_at_0 rfl (Nat.le_of_ble_eq_true rfl) (by decide) (t_X10_undo l E M2 qx324) ?_
        refine ex_aload_n dL_law_1328 rfl ?_
        obtain ⟨M325, x326, qx326, hb⟩ := b2E hb
        refine lx_cVi [] [.int x324] 155 11 x326 dL_law_1329 cl_L_161 im_X11_undo cy_X11_undo oc_at_155 rfl (Nat.le_of_ble_eq_true rfl) (by decide) (t_X11_undo l E M323 qx326) ?_
        refine ex_icmp_eq 1399 dL_law_1332 (by decide) (fun c327 => ?_) (fun c327 => ?_)
        · rw [if_pos c327] at hb
          refine ex_iinc 6 (L2 := [some (.ref 1000000), some (.ref 0), some (.ref 155), some (.int (i1 + 6))]) dL_law_1399 rfl (by decide) (Nat.le_of_ble_eq_true rfl) rfl ?_
          refine ex_goto 18 dL_law_1402 (by decide) ?_
          refine ex_mskL [true, true, true, true] (L2 := [some (.ref 1000000), some (.ref 0), some (.ref 155), some (.int (i1 + 6))]) rfl ?_
          cases hb
          exact hk ((i1 + 6), M325) rfl
        · rw [if_neg c327] at hb
          cases hb
      rw [if_neg c328] at hb
      by_cases c340 : (x4 &&& 63) = 35
      · rw [if_pos c340] at hb
        refine ex_tswI 35 (1304) 1337 dL_law_33 c340 (by decide) (by decide) ?_
        refine ex_aload_n dL_law_1337 rfl ?_
        refine ex_aload_n dL_law_1338 rfl ?_
        refine ex_iload_n dL_law_1339 rfl ?_
        refine ex_iconst 1 dL_law_1340 kI_1 ?_
        refine ex_iadd dL_law_1341 ?_
        obtain ⟨x329, qx329, hb⟩ := b1E hb
        refine lx_sld x329 dL_law_1342 qx329 ?_
        obtain ⟨x331, ex331, hb⟩ := ltE hb
        have Jx331 : LX l E nm 1351 [some (.ref 1000000), some (.ref 0), some (.ref 155), some (.int i1)] [.int x331, .ref 0] M2 := by
          obtain ⟨M332, x333, qx333, hb⟩ := b2E hb
          refine lx_cVi [.int x331] [] 0 10 x333 dL_law_1351 cl_L_162 im_X10_image cy_X10_image oc_at_0 rfl (Nat.le_of_ble_eq_true rfl) (by decide) (t_X10_image l E x331 M2 qx333) ?_
          refine ex_aload_n dL_law_1354 rfl ?_
          refine ex_aload_n dL_law_1355 rfl ?_
          refine ex_iload_n dL_law_1356 rfl ?_
          refine ex_iconst 1 dL_law_1357 kI_1 ?_
          refine ex_iadd dL_law_1358 ?_
          obtain ⟨x334, qx334, hb⟩ := b1E hb
          refine lx_sld x334 dL_law_1359 qx334 ?_
          obtain ⟨x336, ex336, hb⟩ := ltE hb
          have Jx336 : LX l E nm 1368 [some (.ref 1000000), some (.ref 0), some (.ref 155), some (.int i1)] [.int x336, .ref 155, .int x333] M332 := by
            obtain ⟨M337, x338, qx338, hb⟩ := b2E hb
            refine lx_cVi [.int x336] [.int x333] 155 11 x338 dL_law_1368 cl_L_166 im_X11_image cy_X11_image oc_at_155 rfl (Nat.le_of_ble_eq_true rfl) (by decide) (t_X11_image l E x336 M332 qx338) ?_
            refine ex_icmp_eq 1399 dL_law_1371 (by decide) (fun c339 => ?_) (fun c339 => ?_)
            · rw [if_pos c339] at hb
              refine ex_iinc 6 (L2 := [some (.ref 1000000), some (.ref 0), some (.ref 155), some (.int (i1 + 6))]) dL_law_1399 rfl (by decide) (Nat.le_of_ble_eq_true rfl) rfl ?_
              refine ex_goto 18 dL_law_1402 (by decide) ?_
              refine ex_mskL [true, true, true, true] (L2 := [some (.ref 1000000), some (.ref 0), some (.ref 155), some (.int (i1 + 6))]) rfl ?_
              cases hb
              exact hk ((i1 + 6), M337) rfl
            · rw [if_neg c339] at hb
              cases hb
          clear hb
          refine ex_if_eq 1367 dL_law_1360 (by decide) (fun c335 => ?_) (fun c335 => ?_)
          · rw [if_pos c335] at ex336
            refine ex_iconst 0 dL_law_1367 kI_0 ?_
            subst ex336
            exact Jx336
          · rw [if_neg c335] at ex336
            refine ex_iconst 1 dL_law_1363 kI_1 ?_
            refine ex_goto 1368 dL_law_1364 (by decide) ?_
            subst ex336
            exact Jx336
        clear hb
        refine ex_if_eq 1350 dL_law_1343 (by decide) (fun c330 => ?_) (fun c330 => ?_)
        · rw [if_pos c330] at ex331
          refine ex_iconst 0 dL_law_1350 kI_0 ?_
          subst ex331
          exact Jx331
        · rw [if_neg c330] at ex331
          refine ex_iconst 1 dL_law_1346 kI_1 ?_
          refine ex_goto 1351 dL_law_1347 (by decide) ?_
          subst ex331
          exact Jx331
      rw [if_neg c340] at hb
      by_cases c346 : (x4 &&& 63) = 36
      · rw [if_pos c346] at hb
        refine ex_tswI 36 (1343) 1376 dL_law_33 c346 (by decide) (by decide) ?_
        refine ex_aload_n dL_law_1376 rfl ?_
        refine ex_aload_n dL_law_1377 rfl ?_
        refine ex_iload_n dL_law_1378 rfl ?_
        refine ex_iconst 1 dL_law_1379 kI_1 ?_
        refine ex_iadd dL_law_1380 ?_
        obtain ⟨x341, qx341, hb⟩ := b1E hb
        refine lx_sld x341 dL_law_1381 qx341 ?_
        obtain ⟨x342, qx342, hb⟩ := b1E hb
        refine lx_cVi [.int x341] [] 0 10 x342 dL_law_1382 cl_L_167 im_X10_look cy_X10_look oc_at_0 rfl (Nat.le_of_ble_eq_true rfl) (by decide) (t_X10_look l E x341 M2 qx342) ?_
        refine ex_aload_n dL_law_1385 rfl ?_
        refine ex_aload_n dL_law_1386 rfl ?_
        refine ex_iload_n dL_law_1387 rfl ?_
        refine ex_iconst 1 dL_law_1388 kI_1 ?_
        refine ex_iadd dL_law_1389 ?_
        obtain ⟨x343, qx343, hb⟩ := b1E hb
        refine lx_sld x343 dL_law_1390 qx343 ?_
        obtain ⟨x344, qx344, hb⟩ := b1E hb
        refine lx_cVi [.int x343] [.int x342] 155 11 x344 dL_law_1391 cl_L_170 im_X11_look cy_X11_look oc_at_155 rfl (Nat.le_of_ble_eq_true rfl) (by decide) (t_X11_look l E x343 M2 qx344) ?_
        refine ex_icmp_eq 1399 dL_law_1394 (by decide) (fun c345 => ?_) (fun c345 => ?_)
        · rw [if_pos c345] at hb
          refine ex_iinc 6 (L2 := [some (.ref 1000000), some (.ref 0), some (.ref 155), some (.int (i1 + 6))]) dL_law_1399 rfl (by decide) (Nat.le_of_ble_eq_true rfl) rfl ?_
          refine ex_goto 18 dL_law_1402 (by decide) ?_
          refine ex_mskL [true, true, true, true] (L2 := [some (.ref 1000000), some (.ref 0), some (.ref 155), some (.int (i1 + 6))]) rfl ?_
          cases hb
          exact hk ((i1 + 6), M2) rfl
        · rw [if_neg c345] at hb
          cases hb
      rw [if_neg c346] at hb
      cases hb)
  exact key FU (0, M) hlq347
