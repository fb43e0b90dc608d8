/-! ===== LINKS: fields, methods, classes of the cells ===== -/
theorem tb {i : Nat} {w : Cond} (h : lw_tbl[i]? = some w) : w ∈ lw_tbl := List.mem_of_getElem? h
set_option maxRecDepth 100000 in
theorem co_J0_charAt_5068e : Cond.code yJ0_charAt_5068e cJ0_charAt_5068e 2 (some .char) ∈ lw_tbl := tb (i := 817) (by decide +kernel)
set_option maxRecDepth 100000 in
theorem in_J0_charAt_5068e : Cond.initialized yJ0_charAt_5068e.cls ∈ lw_tbl := tb (i := 144) (by decide +kernel)
set_option maxRecDepth 100000 in
theorem im_J0_charAt_5068e : Cond.instanceMethod yJ0_charAt_5068e ∈ lw_tbl ∧ Cond.selects yJ0_charAt_5068e.cls yJ0_charAt_5068e yJ0_charAt_5068e ∈ lw_tbl := ⟨tb (i := 815) (by decide +kernel), tb (i := 816) (by decide +kernel)⟩
set_option maxRecDepth 100000 in
theorem co_J0_checkIndex_df160 : Cond.code yJ0_checkIndex_df160 cJ0_checkIndex_df160 2 none ∈ lw_tbl := tb (i := 827) (by decide +kernel)
set_option maxRecDepth 100000 in
theorem in_J0_checkIndex_df160 : Cond.initialized yJ0_checkIndex_df160.cls ∈ lw_tbl := tb (i := 144) (by decide +kernel)
set_option maxRecDepth 100000 in
theorem sm_J0_checkIndex_df160 : Cond.static yJ0_checkIndex_df160 ∈ lw_tbl := tb (i := 826) (by decide +kernel)
set_option maxRecDepth 100000 in
theorem co_J0_coder_7d493 : Cond.code yJ0_coder_7d493 cJ0_coder_7d493 1 (some .byte) ∈ lw_tbl := tb (i := 811) (by decide +kernel)
set_option maxRecDepth 100000 in
theorem in_J0_coder_7d493 : Cond.initialized yJ0_coder_7d493.cls ∈ lw_tbl := tb (i := 144) (by decide +kernel)
set_option maxRecDepth 100000 in
theorem im_J0_coder_7d493 : Cond.instanceMethod yJ0_coder_7d493 ∈ lw_tbl ∧ Cond.selects yJ0_coder_7d493.cls yJ0_coder_7d493 yJ0_coder_7d493 ∈ lw_tbl := ⟨tb (i := 809) (by decide +kernel), tb (i := 810) (by decide +kernel)⟩
set_option maxRecDepth 100000 in
theorem co_J0_isLatin1_aae02 : Cond.code yJ0_isLatin1_aae02 cJ0_isLatin1_aae02 1 (some .boolean) ∈ lw_tbl := tb (i := 821) (by decide +kernel)
set_option maxRecDepth 100000 in
theorem in_J0_isLatin1_aae02 : Cond.initialized yJ0_isLatin1_aae02.cls ∈ lw_tbl := tb (i := 144) (by decide +kernel)
set_option maxRecDepth 100000 in
theorem im_J0_isLatin1_aae02 : Cond.instanceMethod yJ0_isLatin1_aae02 ∈ lw_tbl ∧ Cond.selects yJ0_isLatin1_aae02.cls yJ0_isLatin1_aae02 yJ0_isLatin1_aae02 ∈ lw_tbl := ⟨tb (i := 819) (by decide +kernel), tb (i := 820) (by decide +kernel)⟩
set_option maxRecDepth 100000 in
theorem co_J0_length_8abf5 : Cond.code yJ0_length_8abf5 cJ0_length_8abf5 1 (some .int) ∈ lw_tbl := tb (i := 807) (by decide +kernel)
set_option maxRecDepth 100000 in
theorem in_J0_length_8abf5 : Cond.initialized yJ0_length_8abf5.cls ∈ lw_tbl := tb (i := 144) (by decide +kernel)
set_option maxRecDepth 100000 in
theorem im_J0_length_8abf5 : Cond.instanceMethod yJ0_length_8abf5 ∈ lw_tbl ∧ Cond.selects yJ0_length_8abf5.cls yJ0_length_8abf5 yJ0_length_8abf5 ∈ lw_tbl := ⟨tb (i := 805) (by decide +kernel), tb (i := 806) (by decide +kernel)⟩
set_option maxRecDepth 100000 in
theorem co_J1_charAt_3b067 : Cond.code yJ1_charAt_3b067 cJ1_charAt_3b067 2 (some .char) ∈ lw_tbl := tb (i := 824) (by decide +kernel)
set_option maxRecDepth 100000 in
theorem in_J1_charAt_3b067 : Cond.initialized yJ1_charAt_3b067.cls ∈ lw_tbl := tb (i := 145) (by decide +kernel)
set_option maxRecDepth 100000 in
theorem sm_J1_charAt_3b067 : Cond.static yJ1_charAt_3b067 ∈ lw_tbl := tb (i := 823) (by decide +kernel)
set_option maxRecDepth 100000 in
theorem co_J2_charAt_3b067 : Cond.code yJ2_charAt_3b067 cJ2_charAt_3b067 2 (some .char) ∈ lw_tbl := tb (i := 835) (by decide +kernel)
set_option maxRecDepth 100000 in
theorem in_J2_charAt_3b067 : Cond.initialized yJ2_charAt_3b067.cls ∈ lw_tbl := tb (i := 147) (by decide +kernel)
set_option maxRecDepth 100000 in
theorem sm_J2_charAt_3b067 : Cond.static yJ2_charAt_3b067 ∈ lw_tbl := tb (i := 834) (by decide +kernel)
set_option maxRecDepth 100000 in
theorem co_J3_checkIndex_8e157 : Cond.code yJ3_checkIndex_8e157 cJ3_checkIndex_8e157 3 (some .int) ∈ lw_tbl := tb (i := 832) (by decide +kernel)
set_option maxRecDepth 100000 in
theorem in_J3_checkIndex_8e157 : Cond.initialized yJ3_checkIndex_8e157.cls ∈ lw_tbl := tb (i := 146) (by decide +kernel)
set_option maxRecDepth 100000 in
theorem sm_J3_checkIndex_8e157 : Cond.static yJ3_checkIndex_8e157 ∈ lw_tbl := tb (i := 831) (by decide +kernel)
set_option maxRecDepth 100000 in
theorem co_J6_bitCount_0f7a4 : Cond.code yJ6_bitCount_0f7a4 cJ6_bitCount_0f7a4 1 (some .int) ∈ lw_tbl := tb (i := 718) (by decide +kernel)
set_option maxRecDepth 100000 in
theorem in_J6_bitCount_0f7a4 : Cond.initialized yJ6_bitCount_0f7a4.cls ∈ lw_tbl := tb (i := 143) (by decide +kernel)
set_option maxRecDepth 100000 in
theorem sm_J6_bitCount_0f7a4 : Cond.static yJ6_bitCount_0f7a4 ∈ lw_tbl := tb (i := 717) (by decide +kernel)
set_option maxRecDepth 100000 in
theorem co_J9_max_7cf53 : Cond.code yJ9_max_7cf53 cJ9_max_7cf53 2 (some .int) ∈ lw_tbl := tb (i := 582) (by decide +kernel)
set_option maxRecDepth 100000 in
theorem in_J9_max_7cf53 : Cond.initialized yJ9_max_7cf53.cls ∈ lw_tbl := tb (i := 142) (by decide +kernel)
set_option maxRecDepth 100000 in
theorem sm_J9_max_7cf53 : Cond.static yJ9_max_7cf53 ∈ lw_tbl := tb (i := 581) (by decide +kernel)
set_option maxRecDepth 100000 in
theorem co_J9_min_7cf53 : Cond.code yJ9_min_7cf53 cJ9_min_7cf53 2 (some .int) ∈ lw_tbl := tb (i := 555) (by decide +kernel)
set_option maxRecDepth 100000 in
theorem in_J9_min_7cf53 : Cond.initialized yJ9_min_7cf53.cls ∈ lw_tbl := tb (i := 142) (by decide +kernel)
set_option maxRecDepth 100000 in
theorem sm_J9_min_7cf53 : Cond.static yJ9_min_7cf53 ∈ lw_tbl := tb (i := 554) (by decide +kernel)
set_option maxRecDepth 100000 in
theorem co_X0_canCook : Cond.code yX0_canCook cX0_canCook 4 (some .boolean) ∈ lw_tbl := tb (i := 1199) (by decide +kernel)
set_option maxRecDepth 100000 in
theorem in_X0_canCook : Cond.initialized yX0_canCook.cls ∈ lw_tbl := tb (i := 139) (by decide +kernel)
set_option maxRecDepth 100000 in
theorem im_X0_canCook : Cond.instanceMethod yX0_canCook ∈ lw_tbl ∧ Cond.selects yX0_canCook.cls yX0_canCook yX0_canCook ∈ lw_tbl := ⟨tb (i := 1198) (by decide +kernel), tb (i := 43) (by decide +kernel)⟩
set_option maxRecDepth 100000 in
theorem co_X0_cook : Cond.code yX0_cook cX0_cook 4 none ∈ lw_tbl := tb (i := 1190) (by decide +kernel)
set_option maxRecDepth 100000 in
theorem in_X0_cook : Cond.initialized yX0_cook.cls ∈ lw_tbl := tb (i := 139) (by decide +kernel)
set_option maxRecDepth 100000 in
theorem im_X0_cook : Cond.instanceMethod yX0_cook ∈ lw_tbl ∧ Cond.selects yX0_cook.cls yX0_cook yX0_cook ∈ lw_tbl := ⟨tb (i := 1188) (by decide +kernel), tb (i := 1189) (by decide +kernel)⟩
set_option maxRecDepth 100000 in
theorem co_X0_cookFrom : Cond.code yX0_cookFrom cX0_cookFrom 7 none ∈ lw_tbl := tb (i := 1195) (by decide +kernel)
set_option maxRecDepth 100000 in
theorem in_X0_cookFrom : Cond.initialized yX0_cookFrom.cls ∈ lw_tbl := tb (i := 139) (by decide +kernel)
set_option maxRecDepth 100000 in
theorem im_X0_cookFrom : Cond.instanceMethod yX0_cookFrom ∈ lw_tbl ∧ Cond.selects yX0_cookFrom.cls yX0_cookFrom yX0_cookFrom ∈ lw_tbl := ⟨tb (i := 1194) (by decide +kernel), tb (i := 42) (by decide +kernel)⟩
set_option maxRecDepth 100000 in
theorem co_X0_fewestStalls : Cond.code yX0_fewestStalls cX0_fewestStalls 7 (some .int) ∈ lw_tbl := tb (i := 1130) (by decide +kernel)
set_option maxRecDepth 100000 in
theorem in_X0_fewestStalls : Cond.initialized yX0_fewestStalls.cls ∈ lw_tbl := tb (i := 139) (by decide +kernel)
set_option maxRecDepth 100000 in
theorem im_X0_fewestStalls : Cond.instanceMethod yX0_fewestStalls ∈ lw_tbl ∧ Cond.selects yX0_fewestStalls.cls yX0_fewestStalls yX0_fewestStalls ∈ lw_tbl := ⟨tb (i := 1128) (by decide +kernel), tb (i := 1129) (by decide +kernel)⟩
set_option maxRecDepth 100000 in
theorem co_X0_init : Cond.code yX0_init cX0_init 1 none ∈ lw_tbl := tb (i := 448) (by decide +kernel)
set_option maxRecDepth 100000 in
theorem in_X0_init : Cond.initialized yX0_init.cls ∈ lw_tbl := tb (i := 139) (by decide +kernel)
set_option maxRecDepth 100000 in
theorem co_X0_layLast : Cond.code yX0_layLast cX0_layLast 8 none ∈ lw_tbl := tb (i := 1138) (by decide +kernel)
set_option maxRecDepth 100000 in
theorem in_X0_layLast : Cond.initialized yX0_layLast.cls ∈ lw_tbl := tb (i := 139) (by decide +kernel)
set_option maxRecDepth 100000 in
theorem im_X0_layLast : Cond.instanceMethod yX0_layLast ∈ lw_tbl ∧ Cond.selects yX0_layLast.cls yX0_layLast yX0_layLast ∈ lw_tbl := ⟨tb (i := 1137) (by decide +kernel), tb (i := 40) (by decide +kernel)⟩
set_option maxRecDepth 100000 in
theorem co_X0_use : Cond.code yX0_use cX0_use 5 none ∈ lw_tbl := tb (i := 1203) (by decide +kernel)
set_option maxRecDepth 100000 in
theorem in_X0_use : Cond.initialized yX0_use.cls ∈ lw_tbl := tb (i := 139) (by decide +kernel)
set_option maxRecDepth 100000 in
theorem im_X0_use : Cond.instanceMethod yX0_use ∈ lw_tbl ∧ Cond.selects yX0_use.cls yX0_use yX0_use ∈ lw_tbl := ⟨tb (i := 1202) (by decide +kernel), tb (i := 44) (by decide +kernel)⟩
set_option maxRecDepth 100000 in
theorem co_X10_back : Cond.code yX10_back cX10_back 2 (some .int) ∈ lw_tbl := tb (i := 1252) (by decide +kernel)
set_option maxRecDepth 100000 in
theorem in_X10_back : Cond.initialized yX10_back.cls ∈ lw_tbl := tb (i := 129) (by decide +kernel)
set_option maxRecDepth 100000 in
theorem im_X10_back : Cond.instanceMethod yX10_back ∈ lw_tbl ∧ Cond.selects yX10_back.cls yX10_back yX10_back ∈ lw_tbl := ⟨tb (i := 1250) (by decide +kernel), tb (i := 1251) (by decide +kernel)⟩
set_option maxRecDepth 100000 in
theorem co_X10_book : Cond.code yX10_book cX10_book 3 (some .int) ∈ lw_tbl := tb (i := 1057) (by decide +kernel)
set_option maxRecDepth 100000 in
theorem in_X10_book : Cond.initialized yX10_book.cls ∈ lw_tbl := tb (i := 129) (by decide +kernel)
set_option maxRecDepth 100000 in
theorem im_X10_book : Cond.instanceMethod yX10_book ∈ lw_tbl ∧ Cond.selects yX10_book.cls yX10_book yX10_book ∈ lw_tbl := ⟨tb (i := 1055) (by decide +kernel), tb (i := 1056) (by decide +kernel)⟩
set_option maxRecDepth 100000 in
theorem co_X10_cooks : Cond.code yX10_cooks cX10_cooks 2 (some .int) ∈ lw_tbl := tb (i := 1186) (by decide +kernel)
set_option maxRecDepth 100000 in
theorem in_X10_cooks : Cond.initialized yX10_cooks.cls ∈ lw_tbl := tb (i := 129) (by decide +kernel)
set_option maxRecDepth 100000 in
theorem im_X10_cooks : Cond.instanceMethod yX10_cooks ∈ lw_tbl ∧ Cond.selects yX10_cooks.cls yX10_cooks yX10_cooks ∈ lw_tbl := ⟨tb (i := 1184) (by decide +kernel), tb (i := 1185) (by decide +kernel)⟩
set_option maxRecDepth 100000 in
theorem co_X10_crumbs : Cond.code yX10_crumbs cX10_crumbs 4 (some .int) ∈ lw_tbl := tb (i := 1170) (by decide +kernel)
set_option maxRecDepth 100000 in
theorem in_X10_crumbs : Cond.initialized yX10_crumbs.cls ∈ lw_tbl := tb (i := 129) (by decide +kernel)
set_option maxRecDepth 100000 in
theorem im_X10_crumbs : Cond.instanceMethod yX10_crumbs ∈ lw_tbl ∧ Cond.selects yX10_crumbs.cls yX10_crumbs yX10_crumbs ∈ lw_tbl := ⟨tb (i := 1168) (by decide +kernel), tb (i := 1169) (by decide +kernel)⟩
set_option maxRecDepth 100000 in
theorem co_X10_cut : Cond.code yX10_cut cX10_cut 3 (some .int) ∈ lw_tbl := tb (i := 624) (by decide +kernel)
set_option maxRecDepth 100000 in
theorem in_X10_cut : Cond.initialized yX10_cut.cls ∈ lw_tbl := tb (i := 129) (by decide +kernel)
set_option maxRecDepth 100000 in
theorem im_X10_cut : Cond.instanceMethod yX10_cut ∈ lw_tbl ∧ Cond.selects yX10_cut.cls yX10_cut yX10_cut ∈ lw_tbl := ⟨tb (i := 622) (by decide +kernel), tb (i := 623) (by decide +kernel)⟩
set_option maxRecDepth 100000 in
theorem co_X10_cuts : Cond.code yX10_cuts cX10_cuts 4 (some .int) ∈ lw_tbl := tb (i := 1103) (by decide +kernel)
set_option maxRecDepth 100000 in
theorem in_X10_cuts : Cond.initialized yX10_cuts.cls ∈ lw_tbl := tb (i := 129) (by decide +kernel)
set_option maxRecDepth 100000 in
theorem im_X10_cuts : Cond.instanceMethod yX10_cuts ∈ lw_tbl ∧ Cond.selects yX10_cuts.cls yX10_cuts yX10_cuts ∈ lw_tbl := ⟨tb (i := 1101) (by decide +kernel), tb (i := 1102) (by decide +kernel)⟩
set_option maxRecDepth 100000 in
theorem co_X10_days : Cond.code yX10_days cX10_days 4 (some .int) ∈ lw_tbl := tb (i := 677) (by decide +kernel)
set_option maxRecDepth 100000 in
theorem in_X10_days : Cond.initialized yX10_days.cls ∈ lw_tbl := tb (i := 129) (by decide +kernel)
set_option maxRecDepth 100000 in
theorem im_X10_days : Cond.instanceMethod yX10_days ∈ lw_tbl ∧ Cond.selects yX10_days.cls yX10_days yX10_days ∈ lw_tbl := ⟨tb (i := 675) (by decide +kernel), tb (i := 676) (by decide +kernel)⟩
set_option maxRecDepth 100000 in
theorem co_X10_dusk : Cond.code yX10_dusk cX10_dusk 5 (some .int) ∈ lw_tbl := tb (i := 1220) (by decide +kernel)
set_option maxRecDepth 100000 in
theorem in_X10_dusk : Cond.initialized yX10_dusk.cls ∈ lw_tbl := tb (i := 129) (by decide +kernel)
set_option maxRecDepth 100000 in
theorem im_X10_dusk : Cond.instanceMethod yX10_dusk ∈ lw_tbl ∧ Cond.selects yX10_dusk.cls yX10_dusk yX10_dusk ∈ lw_tbl := ⟨tb (i := 1218) (by decide +kernel), tb (i := 1219) (by decide +kernel)⟩
set_option maxRecDepth 100000 in
theorem co_X10_end : Cond.code yX10_end cX10_end 2 (some .boolean) ∈ lw_tbl := tb (i := 771) (by decide +kernel)
set_option maxRecDepth 100000 in
theorem in_X10_end : Cond.initialized yX10_end.cls ∈ lw_tbl := tb (i := 129) (by decide +kernel)
set_option maxRecDepth 100000 in
theorem im_X10_end : Cond.instanceMethod yX10_end ∈ lw_tbl ∧ Cond.selects yX10_end.cls yX10_end yX10_end ∈ lw_tbl := ⟨tb (i := 769) (by decide +kernel), tb (i := 770) (by decide +kernel)⟩
set_option maxRecDepth 100000 in
theorem co_X10_fault : Cond.code yX10_fault cX10_fault 2 (some .int) ∈ lw_tbl := tb (i := 1024) (by decide +kernel)
set_option maxRecDepth 100000 in
theorem in_X10_fault : Cond.initialized yX10_fault.cls ∈ lw_tbl := tb (i := 129) (by decide +kernel)
set_option maxRecDepth 100000 in
theorem im_X10_fault : Cond.instanceMethod yX10_fault ∈ lw_tbl ∧ Cond.selects yX10_fault.cls yX10_fault yX10_fault ∈ lw_tbl := ⟨tb (i := 1022) (by decide +kernel), tb (i := 1023) (by decide +kernel)⟩
set_option maxRecDepth 100000 in
theorem co_X10_feast : Cond.code yX10_feast cX10_feast 3 (some .int) ∈ lw_tbl := tb (i := 520) (by decide +kernel)
set_option maxRecDepth 100000 in
theorem in_X10_feast : Cond.initialized yX10_feast.cls ∈ lw_tbl := tb (i := 129) (by decide +kernel)
set_option maxRecDepth 100000 in
theorem im_X10_feast : Cond.instanceMethod yX10_feast ∈ lw_tbl ∧ Cond.selects yX10_feast.cls yX10_feast yX10_feast ∈ lw_tbl := ⟨tb (i := 518) (by decide +kernel), tb (i := 519) (by decide +kernel)⟩
set_option maxRecDepth 100000 in
theorem co_X10_feastsHeld : Cond.code yX10_feastsHeld cX10_feastsHeld 3 (some .int) ∈ lw_tbl := tb (i := 1090) (by decide +kernel)
set_option maxRecDepth 100000 in
theorem in_X10_feastsHeld : Cond.initialized yX10_feastsHeld.cls ∈ lw_tbl := tb (i := 129) (by decide +kernel)
set_option maxRecDepth 100000 in
theorem sm_X10_feastsHeld : Cond.static yX10_feastsHeld ∈ lw_tbl := tb (i := 1089) (by decide +kernel)
set_option maxRecDepth 100000 in
theorem co_X10_feed : Cond.code yX10_feed cX10_feed 6 (some .int) ∈ lw_tbl := tb (i := 759) (by decide +kernel)
set_option maxRecDepth 100000 in
theorem in_X10_feed : Cond.initialized yX10_feed.cls ∈ lw_tbl := tb (i := 129) (by decide +kernel)
set_option maxRecDepth 100000 in
theorem im_X10_feed : Cond.instanceMethod yX10_feed ∈ lw_tbl ∧ Cond.selects yX10_feed.cls yX10_feed yX10_feed ∈ lw_tbl := ⟨tb (i := 757) (by decide +kernel), tb (i := 758) (by decide +kernel)⟩
set_option maxRecDepth 100000 in
theorem co_X10_forge : Cond.code yX10_forge cX10_forge 3 (some .int) ∈ lw_tbl := tb (i := 611) (by decide +kernel)
set_option maxRecDepth 100000 in
theorem in_X10_forge : Cond.initialized yX10_forge.cls ∈ lw_tbl := tb (i := 129) (by decide +kernel)
set_option maxRecDepth 100000 in
theorem im_X10_forge : Cond.instanceMethod yX10_forge ∈ lw_tbl ∧ Cond.selects yX10_forge.cls yX10_forge yX10_forge ∈ lw_tbl := ⟨tb (i := 609) (by decide +kernel), tb (i := 610) (by decide +kernel)⟩
set_option maxRecDepth 100000 in
theorem co_X10_forged : Cond.code yX10_forged cX10_forged 5 (some .int) ∈ lw_tbl := tb (i := 1146) (by decide +kernel)
set_option maxRecDepth 100000 in
theorem in_X10_forged : Cond.initialized yX10_forged.cls ∈ lw_tbl := tb (i := 129) (by decide +kernel)
set_option maxRecDepth 100000 in
theorem im_X10_forged : Cond.instanceMethod yX10_forged ∈ lw_tbl ∧ Cond.selects yX10_forged.cls yX10_forged yX10_forged ∈ lw_tbl := ⟨tb (i := 1144) (by decide +kernel), tb (i := 1145) (by decide +kernel)⟩
set_option maxRecDepth 100000 in
theorem co_X10_goes : Cond.code yX10_goes cX10_goes 5 (some .int) ∈ lw_tbl := tb (i := 1061) (by decide +kernel)
set_option maxRecDepth 100000 in
theorem in_X10_goes : Cond.initialized yX10_goes.cls ∈ lw_tbl := tb (i := 129) (by decide +kernel)
set_option maxRecDepth 100000 in
theorem im_X10_goes : Cond.instanceMethod yX10_goes ∈ lw_tbl ∧ Cond.selects yX10_goes.cls yX10_goes yX10_goes ∈ lw_tbl := ⟨tb (i := 1059) (by decide +kernel), tb (i := 1060) (by decide +kernel)⟩
set_option maxRecDepth 100000 in
theorem co_X10_held : Cond.code yX10_held cX10_held 3 (some .int) ∈ lw_tbl := tb (i := 588) (by decide +kernel)
set_option maxRecDepth 100000 in
theorem in_X10_held : Cond.initialized yX10_held.cls ∈ lw_tbl := tb (i := 129) (by decide +kernel)
set_option maxRecDepth 100000 in
theorem sm_X10_held : Cond.static yX10_held ∈ lw_tbl := tb (i := 587) (by decide +kernel)
set_option maxRecDepth 100000 in
theorem co_X10_image : Cond.code yX10_image cX10_image 2 (some .boolean) ∈ lw_tbl := tb (i := 1285) (by decide +kernel)
set_option maxRecDepth 100000 in
theorem in_X10_image : Cond.initialized yX10_image.cls ∈ lw_tbl := tb (i := 129) (by decide +kernel)
set_option maxRecDepth 100000 in
theorem im_X10_image : Cond.instanceMethod yX10_image ∈ lw_tbl ∧ Cond.selects yX10_image.cls yX10_image yX10_image ∈ lw_tbl := ⟨tb (i := 1283) (by decide +kernel), tb (i := 1284) (by decide +kernel)⟩
set_option maxRecDepth 100000 in
theorem co_X10_init : Cond.code yX10_init cX10_init 1 none ∈ lw_tbl := tb (i := 152) (by decide +kernel)
set_option maxRecDepth 100000 in
theorem in_X10_init : Cond.initialized yX10_init.cls ∈ lw_tbl := tb (i := 129) (by decide +kernel)
set_option maxRecDepth 100000 in
theorem co_X10_isIn : Cond.code yX10_isIn cX10_isIn 2 (some .boolean) ∈ lw_tbl := tb (i := 715) (by decide +kernel)
set_option maxRecDepth 100000 in
theorem in_X10_isIn : Cond.initialized yX10_isIn.cls ∈ lw_tbl := tb (i := 129) (by decide +kernel)
set_option maxRecDepth 100000 in
theorem sm_X10_isIn : Cond.static yX10_isIn ∈ lw_tbl := tb (i := 714) (by decide +kernel)
set_option maxRecDepth 100000 in
theorem co_X10_isTradeKind : Cond.code yX10_isTradeKind cX10_isTradeKind 1 (some .boolean) ∈ lw_tbl := tb (i := 1236) (by decide +kernel)
set_option maxRecDepth 100000 in
theorem in_X10_isTradeKind : Cond.initialized yX10_isTradeKind.cls ∈ lw_tbl := tb (i := 129) (by decide +kernel)
set_option maxRecDepth 100000 in
theorem sm_X10_isTradeKind : Cond.static yX10_isTradeKind ∈ lw_tbl := tb (i := 1235) (by decide +kernel)
set_option maxRecDepth 100000 in
theorem co_X10_join : Cond.code yX10_join cX10_join 3 (some .int) ∈ lw_tbl := tb (i := 637) (by decide +kernel)
set_option maxRecDepth 100000 in
theorem in_X10_join : Cond.initialized yX10_join.cls ∈ lw_tbl := tb (i := 129) (by decide +kernel)
set_option maxRecDepth 100000 in
theorem im_X10_join : Cond.instanceMethod yX10_join ∈ lw_tbl ∧ Cond.selects yX10_join.cls yX10_join yX10_join ∈ lw_tbl := ⟨tb (i := 635) (by decide +kernel), tb (i := 636) (by decide +kernel)⟩
set_option maxRecDepth 100000 in
theorem co_X10_joins : Cond.code yX10_joins cX10_joins 5 (some .int) ∈ lw_tbl := tb (i := 1078) (by decide +kernel)
set_option maxRecDepth 100000 in
theorem in_X10_joins : Cond.initialized yX10_joins.cls ∈ lw_tbl := tb (i := 129) (by decide +kernel)
set_option maxRecDepth 100000 in
theorem im_X10_joins : Cond.instanceMethod yX10_joins ∈ lw_tbl ∧ Cond.selects yX10_joins.cls yX10_joins yX10_joins ∈ lw_tbl := ⟨tb (i := 1076) (by decide +kernel), tb (i := 1077) (by decide +kernel)⟩
set_option maxRecDepth 100000 in
theorem co_X10_kind : Cond.code yX10_kind cX10_kind 3 (some .int) ∈ lw_tbl := tb (i := 1035) (by decide +kernel)
set_option maxRecDepth 100000 in
theorem in_X10_kind : Cond.initialized yX10_kind.cls ∈ lw_tbl := tb (i := 129) (by decide +kernel)
set_option maxRecDepth 100000 in
theorem im_X10_kind : Cond.instanceMethod yX10_kind ∈ lw_tbl ∧ Cond.selects yX10_kind.cls yX10_kind yX10_kind ∈ lw_tbl := ⟨tb (i := 1033) (by decide +kernel), tb (i := 1034) (by decide +kernel)⟩
set_option maxRecDepth 100000 in
theorem co_X10_left : Cond.code yX10_left cX10_left 4 (some .int) ∈ lw_tbl := tb (i := 1047) (by decide +kernel)
set_option maxRecDepth 100000 in
theorem in_X10_left : Cond.initialized yX10_left.cls ∈ lw_tbl := tb (i := 129) (by decide +kernel)
set_option maxRecDepth 100000 in
theorem im_X10_left : Cond.instanceMethod yX10_left ∈ lw_tbl ∧ Cond.selects yX10_left.cls yX10_left yX10_left ∈ lw_tbl := ⟨tb (i := 1045) (by decide +kernel), tb (i := 1046) (by decide +kernel)⟩
set_option maxRecDepth 100000 in
theorem co_X10_limit : Cond.code yX10_limit cX10_limit 2 (some .int) ∈ lw_tbl := tb (i := 1216) (by decide +kernel)
set_option maxRecDepth 100000 in
theorem in_X10_limit : Cond.initialized yX10_limit.cls ∈ lw_tbl := tb (i := 129) (by decide +kernel)
set_option maxRecDepth 100000 in
theorem im_X10_limit : Cond.instanceMethod yX10_limit ∈ lw_tbl ∧ Cond.selects yX10_limit.cls yX10_limit yX10_limit ∈ lw_tbl := ⟨tb (i := 1214) (by decide +kernel), tb (i := 1215) (by decide +kernel)⟩
set_option maxRecDepth 100000 in
theorem co_X10_look : Cond.code yX10_look cX10_look 2 (some .int) ∈ lw_tbl := tb (i := 1294) (by decide +kernel)
set_option maxRecDepth 100000 in
theorem in_X10_look : Cond.initialized yX10_look.cls ∈ lw_tbl := tb (i := 129) (by decide +kernel)
set_option maxRecDepth 100000 in
theorem im_X10_look : Cond.instanceMethod yX10_look ∈ lw_tbl ∧ Cond.selects yX10_look.cls yX10_look yX10_look ∈ lw_tbl := ⟨tb (i := 1292) (by decide +kernel), tb (i := 1293) (by decide +kernel)⟩
set_option maxRecDepth 100000 in
theorem co_X10_lookAt : Cond.code yX10_lookAt cX10_lookAt 2 (some .int) ∈ lw_tbl := tb (i := 1160) (by decide +kernel)
set_option maxRecDepth 100000 in
theorem in_X10_lookAt : Cond.initialized yX10_lookAt.cls ∈ lw_tbl := tb (i := 129) (by decide +kernel)
set_option maxRecDepth 100000 in
theorem im_X10_lookAt : Cond.instanceMethod yX10_lookAt ∈ lw_tbl ∧ Cond.selects yX10_lookAt.cls yX10_lookAt yX10_lookAt ∈ lw_tbl := ⟨tb (i := 1158) (by decide +kernel), tb (i := 1159) (by decide +kernel)⟩
set_option maxRecDepth 100000 in
theorem co_X10_lookAtTold : Cond.code yX10_lookAtTold cX10_lookAtTold 2 (some .int) ∈ lw_tbl := tb (i := 1298) (by decide +kernel)
set_option maxRecDepth 100000 in
theorem in_X10_lookAtTold : Cond.initialized yX10_lookAtTold.cls ∈ lw_tbl := tb (i := 129) (by decide +kernel)
set_option maxRecDepth 100000 in
theorem im_X10_lookAtTold : Cond.instanceMethod yX10_lookAtTold ∈ lw_tbl ∧ Cond.selects yX10_lookAtTold.cls yX10_lookAtTold yX10_lookAtTold ∈ lw_tbl := ⟨tb (i := 1297) (by decide +kernel), tb (i := 48) (by decide +kernel)⟩
set_option maxRecDepth 100000 in
theorem co_X10_most : Cond.code yX10_most cX10_most 6 (some .int) ∈ lw_tbl := tb (i := 1083) (by decide +kernel)
set_option maxRecDepth 100000 in
theorem in_X10_most : Cond.initialized yX10_most.cls ∈ lw_tbl := tb (i := 129) (by decide +kernel)
set_option maxRecDepth 100000 in
theorem im_X10_most : Cond.instanceMethod yX10_most ∈ lw_tbl ∧ Cond.selects yX10_most.cls yX10_most yX10_most ∈ lw_tbl := ⟨tb (i := 1081) (by decide +kernel), tb (i := 1082) (by decide +kernel)⟩
set_option maxRecDepth 100000 in
theorem co_X10_piece : Cond.code yX10_piece cX10_piece 3 (some .int) ∈ lw_tbl := tb (i := 1094) (by decide +kernel)
set_option maxRecDepth 100000 in
theorem in_X10_piece : Cond.initialized yX10_piece.cls ∈ lw_tbl := tb (i := 129) (by decide +kernel)
set_option maxRecDepth 100000 in
theorem im_X10_piece : Cond.instanceMethod yX10_piece ∈ lw_tbl ∧ Cond.selects yX10_piece.cls yX10_piece yX10_piece ∈ lw_tbl := ⟨tb (i := 1092) (by decide +kernel), tb (i := 1093) (by decide +kernel)⟩
set_option maxRecDepth 100000 in
theorem co_X10_remain : Cond.code yX10_remain cX10_remain 3 (some .int) ∈ lw_tbl := tb (i := 1028) (by decide +kernel)
set_option maxRecDepth 100000 in
theorem in_X10_remain : Cond.initialized yX10_remain.cls ∈ lw_tbl := tb (i := 129) (by decide +kernel)
set_option maxRecDepth 100000 in
theorem im_X10_remain : Cond.instanceMethod yX10_remain ∈ lw_tbl ∧ Cond.selects yX10_remain.cls yX10_remain yX10_remain ∈ lw_tbl := ⟨tb (i := 1026) (by decide +kernel), tb (i := 1027) (by decide +kernel)⟩
set_option maxRecDepth 100000 in
theorem co_X10_ring : Cond.code yX10_ring cX10_ring 3 (some .int) ∈ lw_tbl := tb (i := 1240) (by decide +kernel)
set_option maxRecDepth 100000 in
theorem in_X10_ring : Cond.initialized yX10_ring.cls ∈ lw_tbl := tb (i := 129) (by decide +kernel)
set_option maxRecDepth 100000 in
theorem im_X10_ring : Cond.instanceMethod yX10_ring ∈ lw_tbl ∧ Cond.selects yX10_ring.cls yX10_ring yX10_ring ∈ lw_tbl := ⟨tb (i := 1238) (by decide +kernel), tb (i := 1239) (by decide +kernel)⟩
set_option maxRecDepth 100000 in
theorem co_X10_sell : Cond.code yX10_sell cX10_sell 2 (some .int) ∈ lw_tbl := tb (i := 656) (by decide +kernel)
set_option maxRecDepth 100000 in
theorem in_X10_sell : Cond.initialized yX10_sell.cls ∈ lw_tbl := tb (i := 129) (by decide +kernel)
set_option maxRecDepth 100000 in
theorem im_X10_sell : Cond.instanceMethod yX10_sell ∈ lw_tbl ∧ Cond.selects yX10_sell.cls yX10_sell yX10_sell ∈ lw_tbl := ⟨tb (i := 654) (by decide +kernel), tb (i := 655) (by decide +kernel)⟩
set_option maxRecDepth 100000 in
theorem co_X10_set : Cond.code yX10_set cX10_set 3 (some .boolean) ∈ lw_tbl := tb (i := 513) (by decide +kernel)
set_option maxRecDepth 100000 in
theorem in_X10_set : Cond.initialized yX10_set.cls ∈ lw_tbl := tb (i := 129) (by decide +kernel)
set_option maxRecDepth 100000 in
theorem im_X10_set : Cond.instanceMethod yX10_set ∈ lw_tbl ∧ Cond.selects yX10_set.cls yX10_set yX10_set ∈ lw_tbl := ⟨tb (i := 511) (by decide +kernel), tb (i := 512) (by decide +kernel)⟩
set_option maxRecDepth 100000 in
theorem co_X10_stalls : Cond.code yX10_stalls cX10_stalls 2 (some .int) ∈ lw_tbl := tb (i := 1126) (by decide +kernel)
set_option maxRecDepth 100000 in
theorem in_X10_stalls : Cond.initialized yX10_stalls.cls ∈ lw_tbl := tb (i := 129) (by decide +kernel)
set_option maxRecDepth 100000 in
theorem im_X10_stalls : Cond.instanceMethod yX10_stalls ∈ lw_tbl ∧ Cond.selects yX10_stalls.cls yX10_stalls yX10_stalls ∈ lw_tbl := ⟨tb (i := 1124) (by decide +kernel), tb (i := 1125) (by decide +kernel)⟩
set_option maxRecDepth 100000 in
theorem co_X10_state : Cond.code yX10_state cX10_state 3 (some .int) ∈ lw_tbl := tb (i := 505) (by decide +kernel)
set_option maxRecDepth 100000 in
theorem in_X10_state : Cond.initialized yX10_state.cls ∈ lw_tbl := tb (i := 129) (by decide +kernel)
set_option maxRecDepth 100000 in
theorem im_X10_state : Cond.instanceMethod yX10_state ∈ lw_tbl ∧ Cond.selects yX10_state.cls yX10_state yX10_state ∈ lw_tbl := ⟨tb (i := 503) (by decide +kernel), tb (i := 504) (by decide +kernel)⟩
set_option maxRecDepth 100000 in
theorem co_X10_tellLines : Cond.code yX10_tellLines cX10_tellLines 4 (some .int) ∈ lw_tbl := tb (i := 1017) (by decide +kernel)
set_option maxRecDepth 100000 in
theorem in_X10_tellLines : Cond.initialized yX10_tellLines.cls ∈ lw_tbl := tb (i := 129) (by decide +kernel)
set_option maxRecDepth 100000 in
theorem im_X10_tellLines : Cond.instanceMethod yX10_tellLines ∈ lw_tbl ∧ Cond.selects yX10_tellLines.cls yX10_tellLines yX10_tellLines ∈ lw_tbl := ⟨tb (i := 1016) (by decide +kernel), tb (i := 38) (by decide +kernel)⟩
set_option maxRecDepth 100000 in
theorem co_X10_test : Cond.code yX10_test cX10_test 3 (some .int) ∈ lw_tbl := tb (i := 1142) (by decide +kernel)
set_option maxRecDepth 100000 in
theorem in_X10_test : Cond.initialized yX10_test.cls ∈ lw_tbl := tb (i := 129) (by decide +kernel)
set_option maxRecDepth 100000 in
theorem im_X10_test : Cond.instanceMethod yX10_test ∈ lw_tbl ∧ Cond.selects yX10_test.cls yX10_test yX10_test ∈ lw_tbl := ⟨tb (i := 1140) (by decide +kernel), tb (i := 1141) (by decide +kernel)⟩
set_option maxRecDepth 100000 in
theorem co_X10_text : Cond.code yX10_text cX10_text 2 (some .int) ∈ lw_tbl := tb (i := 775) (by decide +kernel)
set_option maxRecDepth 100000 in
theorem in_X10_text : Cond.initialized yX10_text.cls ∈ lw_tbl := tb (i := 129) (by decide +kernel)
set_option maxRecDepth 100000 in
theorem im_X10_text : Cond.instanceMethod yX10_text ∈ lw_tbl ∧ Cond.selects yX10_text.cls yX10_text yX10_text ∈ lw_tbl := ⟨tb (i := 773) (by decide +kernel), tb (i := 774) (by decide +kernel)⟩
set_option maxRecDepth 100000 in
theorem co_X10_trade : Cond.code yX10_trade cX10_trade 6 (some .int) ∈ lw_tbl := tb (i := 1233) (by decide +kernel)
set_option maxRecDepth 100000 in
theorem in_X10_trade : Cond.initialized yX10_trade.cls ∈ lw_tbl := tb (i := 129) (by decide +kernel)
set_option maxRecDepth 100000 in
theorem im_X10_trade : Cond.instanceMethod yX10_trade ∈ lw_tbl ∧ Cond.selects yX10_trade.cls yX10_trade yX10_trade ∈ lw_tbl := ⟨tb (i := 1231) (by decide +kernel), tb (i := 1232) (by decide +kernel)⟩
set_option maxRecDepth 100000 in
theorem co_X10_undo : Cond.code yX10_undo cX10_undo 1 (some .boolean) ∈ lw_tbl := tb (i := 1269) (by decide +kernel)
set_option maxRecDepth 100000 in
theorem in_X10_undo : Cond.initialized yX10_undo.cls ∈ lw_tbl := tb (i := 129) (by decide +kernel)
set_option maxRecDepth 100000 in
theorem im_X10_undo : Cond.instanceMethod yX10_undo ∈ lw_tbl ∧ Cond.selects yX10_undo.cls yX10_undo yX10_undo ∈ lw_tbl := ⟨tb (i := 1267) (by decide +kernel), tb (i := 1268) (by decide +kernel)⟩
set_option maxRecDepth 100000 in
theorem co_X10_waits : Cond.code yX10_waits cX10_waits 4 (some .int) ∈ lw_tbl := tb (i := 1207) (by decide +kernel)
set_option maxRecDepth 100000 in
theorem in_X10_waits : Cond.initialized yX10_waits.cls ∈ lw_tbl := tb (i := 129) (by decide +kernel)
set_option maxRecDepth 100000 in
theorem im_X10_waits : Cond.instanceMethod yX10_waits ∈ lw_tbl ∧ Cond.selects yX10_waits.cls yX10_waits yX10_waits ∈ lw_tbl := ⟨tb (i := 1205) (by decide +kernel), tb (i := 1206) (by decide +kernel)⟩
set_option maxRecDepth 100000 in
theorem co_X10_want : Cond.code yX10_want cX10_want 3 (some .int) ∈ lw_tbl := tb (i := 1053) (by decide +kernel)
set_option maxRecDepth 100000 in
theorem in_X10_want : Cond.initialized yX10_want.cls ∈ lw_tbl := tb (i := 129) (by decide +kernel)
set_option maxRecDepth 100000 in
theorem im_X10_want : Cond.instanceMethod yX10_want ∈ lw_tbl ∧ Cond.selects yX10_want.cls yX10_want yX10_want ∈ lw_tbl := ⟨tb (i := 1051) (by decide +kernel), tb (i := 1052) (by decide +kernel)⟩
set_option maxRecDepth 100000 in
theorem co_X10_within : Cond.code yX10_within cX10_within 3 (some .boolean) ∈ lw_tbl := tb (i := 516) (by decide +kernel)
set_option maxRecDepth 100000 in
theorem in_X10_within : Cond.initialized yX10_within.cls ∈ lw_tbl := tb (i := 129) (by decide +kernel)
set_option maxRecDepth 100000 in
theorem sm_X10_within : Cond.static yX10_within ∈ lw_tbl := tb (i := 515) (by decide +kernel)
set_option maxRecDepth 100000 in
theorem co_X11_aDish : Cond.code yX11_aDish cX11_aDish 5 (some .boolean) ∈ lw_tbl := tb (i := 1570) (by decide +kernel)
set_option maxRecDepth 100000 in
theorem in_X11_aDish : Cond.initialized yX11_aDish.cls ∈ lw_tbl := tb (i := 140) (by decide +kernel)
set_option maxRecDepth 100000 in
theorem im_X11_aDish : Cond.instanceMethod yX11_aDish ∈ lw_tbl ∧ Cond.selects yX11_aDish.cls yX11_aDish yX11_aDish ∈ lw_tbl := ⟨tb (i := 1569) (by decide +kernel), tb (i := 78) (by decide +kernel)⟩
set_option maxRecDepth 100000 in
theorem co_X11_aFeast : Cond.code yX11_aFeast cX11_aFeast 1 (some .boolean) ∈ lw_tbl := tb (i := 1562) (by decide +kernel)
set_option maxRecDepth 100000 in
theorem in_X11_aFeast : Cond.initialized yX11_aFeast.cls ∈ lw_tbl := tb (i := 140) (by decide +kernel)
set_option maxRecDepth 100000 in
theorem im_X11_aFeast : Cond.instanceMethod yX11_aFeast ∈ lw_tbl ∧ Cond.selects yX11_aFeast.cls yX11_aFeast yX11_aFeast ∈ lw_tbl := ⟨tb (i := 1561) (by decide +kernel), tb (i := 76) (by decide +kernel)⟩
set_option maxRecDepth 100000 in
theorem co_X11_aKind : Cond.code yX11_aKind cX11_aKind 1 (some .boolean) ∈ lw_tbl := tb (i := 1550) (by decide +kernel)
set_option maxRecDepth 100000 in
theorem in_X11_aKind : Cond.initialized yX11_aKind.cls ∈ lw_tbl := tb (i := 140) (by decide +kernel)
set_option maxRecDepth 100000 in
theorem im_X11_aKind : Cond.instanceMethod yX11_aKind ∈ lw_tbl ∧ Cond.selects yX11_aKind.cls yX11_aKind yX11_aKind ∈ lw_tbl := ⟨tb (i := 1549) (by decide +kernel), tb (i := 73) (by decide +kernel)⟩
set_option maxRecDepth 100000 in
theorem co_X11_aLine : Cond.code yX11_aLine cX11_aLine 1 (some .boolean) ∈ lw_tbl := tb (i := 1498) (by decide +kernel)
set_option maxRecDepth 100000 in
theorem in_X11_aLine : Cond.initialized yX11_aLine.cls ∈ lw_tbl := tb (i := 140) (by decide +kernel)
set_option maxRecDepth 100000 in
theorem im_X11_aLine : Cond.instanceMethod yX11_aLine ∈ lw_tbl ∧ Cond.selects yX11_aLine.cls yX11_aLine yX11_aLine ∈ lw_tbl := ⟨tb (i := 1497) (by decide +kernel), tb (i := 60) (by decide +kernel)⟩
set_option maxRecDepth 100000 in
theorem co_X11_aRow : Cond.code yX11_aRow cX11_aRow 1 (some .boolean) ∈ lw_tbl := tb (i := 1546) (by decide +kernel)
set_option maxRecDepth 100000 in
theorem in_X11_aRow : Cond.initialized yX11_aRow.cls ∈ lw_tbl := tb (i := 140) (by decide +kernel)
set_option maxRecDepth 100000 in
theorem im_X11_aRow : Cond.instanceMethod yX11_aRow ∈ lw_tbl ∧ Cond.selects yX11_aRow.cls yX11_aRow yX11_aRow ∈ lw_tbl := ⟨tb (i := 1545) (by decide +kernel), tb (i := 72) (by decide +kernel)⟩
set_option maxRecDepth 100000 in
theorem co_X11_aWant : Cond.code yX11_aWant cX11_aWant 2 (some .boolean) ∈ lw_tbl := tb (i := 1566) (by decide +kernel)
set_option maxRecDepth 100000 in
theorem in_X11_aWant : Cond.initialized yX11_aWant.cls ∈ lw_tbl := tb (i := 140) (by decide +kernel)
set_option maxRecDepth 100000 in
theorem im_X11_aWant : Cond.instanceMethod yX11_aWant ∈ lw_tbl ∧ Cond.selects yX11_aWant.cls yX11_aWant yX11_aWant ∈ lw_tbl := ⟨tb (i := 1565) (by decide +kernel), tb (i := 77) (by decide +kernel)⟩
set_option maxRecDepth 100000 in
theorem co_X11_ageOf : Cond.code yX11_ageOf cX11_ageOf 2 (some .int) ∈ lw_tbl := tb (i := 1698) (by decide +kernel)
set_option maxRecDepth 100000 in
theorem in_X11_ageOf : Cond.initialized yX11_ageOf.cls ∈ lw_tbl := tb (i := 140) (by decide +kernel)
set_option maxRecDepth 100000 in
theorem im_X11_ageOf : Cond.instanceMethod yX11_ageOf ∈ lw_tbl ∧ Cond.selects yX11_ageOf.cls yX11_ageOf yX11_ageOf ∈ lw_tbl := ⟨tb (i := 1697) (by decide +kernel), tb (i := 100) (by decide +kernel)⟩
set_option maxRecDepth 100000 in
theorem co_X11_any : Cond.code yX11_any cX11_any 1 (some .boolean) ∈ lw_tbl := tb (i := 1522) (by decide +kernel)
set_option maxRecDepth 100000 in
theorem in_X11_any : Cond.initialized yX11_any.cls ∈ lw_tbl := tb (i := 140) (by decide +kernel)
set_option maxRecDepth 100000 in
theorem im_X11_any : Cond.instanceMethod yX11_any ∈ lw_tbl ∧ Cond.selects yX11_any.cls yX11_any yX11_any ∈ lw_tbl := ⟨tb (i := 1521) (by decide +kernel), tb (i := 66) (by decide +kernel)⟩
set_option maxRecDepth 100000 in
theorem co_X11_areTests : Cond.code yX11_areTests cX11_areTests 2 (some .boolean) ∈ lw_tbl := tb (i := 1845) (by decide +kernel)
set_option maxRecDepth 100000 in
theorem in_X11_areTests : Cond.initialized yX11_areTests.cls ∈ lw_tbl := tb (i := 140) (by decide +kernel)
set_option maxRecDepth 100000 in
theorem im_X11_areTests : Cond.instanceMethod yX11_areTests ∈ lw_tbl ∧ Cond.selects yX11_areTests.cls yX11_areTests yX11_areTests ∈ lw_tbl := ⟨tb (i := 1844) (by decide +kernel), tb (i := 121) (by decide +kernel)⟩
set_option maxRecDepth 100000 in
theorem co_X11_asked : Cond.code yX11_asked cX11_asked 1 (some .int) ∈ lw_tbl := tb (i := 1466) (by decide +kernel)
set_option maxRecDepth 100000 in
theorem in_X11_asked : Cond.initialized yX11_asked.cls ∈ lw_tbl := tb (i := 140) (by decide +kernel)
set_option maxRecDepth 100000 in
theorem im_X11_asked : Cond.instanceMethod yX11_asked ∈ lw_tbl ∧ Cond.selects yX11_asked.cls yX11_asked yX11_asked ∈ lw_tbl := ⟨tb (i := 1465) (by decide +kernel), tb (i := 56) (by decide +kernel)⟩
set_option maxRecDepth 100000 in
theorem co_X11_back : Cond.code yX11_back cX11_back 3 (some .int) ∈ lw_tbl := tb (i := 1907) (by decide +kernel)
set_option maxRecDepth 100000 in
theorem in_X11_back : Cond.initialized yX11_back.cls ∈ lw_tbl := tb (i := 140) (by decide +kernel)
set_option maxRecDepth 100000 in
theorem im_X11_back : Cond.instanceMethod yX11_back ∈ lw_tbl ∧ Cond.selects yX11_back.cls yX11_back yX11_back ∈ lw_tbl := ⟨tb (i := 1905) (by decide +kernel), tb (i := 1906) (by decide +kernel)⟩
set_option maxRecDepth 100000 in
theorem co_X11_backFrom : Cond.code yX11_backFrom cX11_backFrom 11 (some .int) ∈ lw_tbl := tb (i := 1911) (by decide +kernel)
set_option maxRecDepth 100000 in
theorem in_X11_backFrom : Cond.initialized yX11_backFrom.cls ∈ lw_tbl := tb (i := 140) (by decide +kernel)
set_option maxRecDepth 100000 in
theorem im_X11_backFrom : Cond.instanceMethod yX11_backFrom ∈ lw_tbl ∧ Cond.selects yX11_backFrom.cls yX11_backFrom yX11_backFrom ∈ lw_tbl := ⟨tb (i := 1910) (by decide +kernel), tb (i := 127) (by decide +kernel)⟩
set_option maxRecDepth 100000 in
theorem co_X11_bad : Cond.code yX11_bad cX11_bad 2 (some .boolean) ∈ lw_tbl := tb (i := 1502) (by decide +kernel)
set_option maxRecDepth 100000 in
theorem in_X11_bad : Cond.initialized yX11_bad.cls ∈ lw_tbl := tb (i := 140) (by decide +kernel)
set_option maxRecDepth 100000 in
theorem im_X11_bad : Cond.instanceMethod yX11_bad ∈ lw_tbl ∧ Cond.selects yX11_bad.cls yX11_bad yX11_bad ∈ lw_tbl := ⟨tb (i := 1501) (by decide +kernel), tb (i := 61) (by decide +kernel)⟩
set_option maxRecDepth 100000 in
theorem co_X11_book : Cond.code yX11_book cX11_book 3 (some .int) ∈ lw_tbl := tb (i := 1795) (by decide +kernel)
set_option maxRecDepth 100000 in
theorem in_X11_book : Cond.initialized yX11_book.cls ∈ lw_tbl := tb (i := 140) (by decide +kernel)
set_option maxRecDepth 100000 in
theorem im_X11_book : Cond.instanceMethod yX11_book ∈ lw_tbl ∧ Cond.selects yX11_book.cls yX11_book yX11_book ∈ lw_tbl := ⟨tb (i := 1793) (by decide +kernel), tb (i := 1794) (by decide +kernel)⟩
set_option maxRecDepth 100000 in
theorem co_X11_both : Cond.code yX11_both cX11_both 3 (some .int) ∈ lw_tbl := tb (i := 1637) (by decide +kernel)
set_option maxRecDepth 100000 in
theorem in_X11_both : Cond.initialized yX11_both.cls ∈ lw_tbl := tb (i := 140) (by decide +kernel)
set_option maxRecDepth 100000 in
theorem sm_X11_both : Cond.static yX11_both ∈ lw_tbl := tb (i := 1636) (by decide +kernel)
set_option maxRecDepth 100000 in
theorem co_X11_byTest : Cond.code yX11_byTest cX11_byTest 9 (some .long) ∈ lw_tbl := tb (i := 1850) (by decide +kernel)
set_option maxRecDepth 100000 in
theorem in_X11_byTest : Cond.initialized yX11_byTest.cls ∈ lw_tbl := tb (i := 140) (by decide +kernel)
set_option maxRecDepth 100000 in
theorem im_X11_byTest : Cond.instanceMethod yX11_byTest ∈ lw_tbl ∧ Cond.selects yX11_byTest.cls yX11_byTest yX11_byTest ∈ lw_tbl := ⟨tb (i := 1849) (by decide +kernel), tb (i := 122) (by decide +kernel)⟩
set_option maxRecDepth 100000 in
theorem co_X11_comes : Cond.code yX11_comes cX11_comes 8 (some .int) ∈ lw_tbl := tb (i := 1651) (by decide +kernel)
set_option maxRecDepth 100000 in
theorem in_X11_comes : Cond.initialized yX11_comes.cls ∈ lw_tbl := tb (i := 140) (by decide +kernel)
set_option maxRecDepth 100000 in
theorem im_X11_comes : Cond.instanceMethod yX11_comes ∈ lw_tbl ∧ Cond.selects yX11_comes.cls yX11_comes yX11_comes ∈ lw_tbl := ⟨tb (i := 1650) (by decide +kernel), tb (i := 93) (by decide +kernel)⟩
set_option maxRecDepth 100000 in
theorem co_X11_comesTo : Cond.code yX11_comesTo cX11_comesTo 8 (some .int) ∈ lw_tbl := tb (i := 1634) (by decide +kernel)
set_option maxRecDepth 100000 in
theorem in_X11_comesTo : Cond.initialized yX11_comesTo.cls ∈ lw_tbl := tb (i := 140) (by decide +kernel)
set_option maxRecDepth 100000 in
theorem im_X11_comesTo : Cond.instanceMethod yX11_comesTo ∈ lw_tbl ∧ Cond.selects yX11_comesTo.cls yX11_comesTo yX11_comesTo ∈ lw_tbl := ⟨tb (i := 1633) (by decide +kernel), tb (i := 91) (by decide +kernel)⟩
set_option maxRecDepth 100000 in
theorem co_X11_cookedOf : Cond.code yX11_cookedOf cX11_cookedOf 6 (some .int) ∈ lw_tbl := tb (i := 1876) (by decide +kernel)
set_option maxRecDepth 100000 in
theorem in_X11_cookedOf : Cond.initialized yX11_cookedOf.cls ∈ lw_tbl := tb (i := 140) (by decide +kernel)
set_option maxRecDepth 100000 in
theorem im_X11_cookedOf : Cond.instanceMethod yX11_cookedOf ∈ lw_tbl ∧ Cond.selects yX11_cookedOf.cls yX11_cookedOf yX11_cookedOf ∈ lw_tbl := ⟨tb (i := 1875) (by decide +kernel), tb (i := 125) (by decide +kernel)⟩
set_option maxRecDepth 100000 in
theorem co_X11_cooks : Cond.code yX11_cooks cX11_cooks 6 (some .int) ∈ lw_tbl := tb (i := 1872) (by decide +kernel)
set_option maxRecDepth 100000 in
theorem in_X11_cooks : Cond.initialized yX11_cooks.cls ∈ lw_tbl := tb (i := 140) (by decide +kernel)
set_option maxRecDepth 100000 in
theorem im_X11_cooks : Cond.instanceMethod yX11_cooks ∈ lw_tbl ∧ Cond.selects yX11_cooks.cls yX11_cooks yX11_cooks ∈ lw_tbl := ⟨tb (i := 1870) (by decide +kernel), tb (i := 1871) (by decide +kernel)⟩
set_option maxRecDepth 100000 in
theorem co_X11_count : Cond.code yX11_count cX11_count 3 (some .int) ∈ lw_tbl := tb (i := 1721) (by decide +kernel)
set_option maxRecDepth 100000 in
theorem in_X11_count : Cond.initialized yX11_count.cls ∈ lw_tbl := tb (i := 140) (by decide +kernel)
set_option maxRecDepth 100000 in
theorem sm_X11_count : Cond.static yX11_count ∈ lw_tbl := tb (i := 1720) (by decide +kernel)
set_option maxRecDepth 100000 in
theorem co_X11_crumbs : Cond.code yX11_crumbs cX11_crumbs 6 (some .int) ∈ lw_tbl := tb (i := 1860) (by decide +kernel)
set_option maxRecDepth 100000 in
theorem in_X11_crumbs : Cond.initialized yX11_crumbs.cls ∈ lw_tbl := tb (i := 140) (by decide +kernel)
set_option maxRecDepth 100000 in
theorem im_X11_crumbs : Cond.instanceMethod yX11_crumbs ∈ lw_tbl ∧ Cond.selects yX11_crumbs.cls yX11_crumbs yX11_crumbs ∈ lw_tbl := ⟨tb (i := 1858) (by decide +kernel), tb (i := 1859) (by decide +kernel)⟩
set_option maxRecDepth 100000 in
theorem co_X11_cut : Cond.code yX11_cut cX11_cut 5 (some .int) ∈ lw_tbl := tb (i := 1663) (by decide +kernel)
set_option maxRecDepth 100000 in
theorem in_X11_cut : Cond.initialized yX11_cut.cls ∈ lw_tbl := tb (i := 140) (by decide +kernel)
set_option maxRecDepth 100000 in
theorem im_X11_cut : Cond.instanceMethod yX11_cut ∈ lw_tbl ∧ Cond.selects yX11_cut.cls yX11_cut yX11_cut ∈ lw_tbl := ⟨tb (i := 1661) (by decide +kernel), tb (i := 1662) (by decide +kernel)⟩
set_option maxRecDepth 100000 in
theorem co_X11_cuts : Cond.code yX11_cuts cX11_cuts 7 (some .int) ∈ lw_tbl := tb (i := 1824) (by decide +kernel)
set_option maxRecDepth 100000 in
theorem in_X11_cuts : Cond.initialized yX11_cuts.cls ∈ lw_tbl := tb (i := 140) (by decide +kernel)
set_option maxRecDepth 100000 in
theorem im_X11_cuts : Cond.instanceMethod yX11_cuts ∈ lw_tbl ∧ Cond.selects yX11_cuts.cls yX11_cuts yX11_cuts ∈ lw_tbl := ⟨tb (i := 1822) (by decide +kernel), tb (i := 1823) (by decide +kernel)⟩
set_option maxRecDepth 100000 in
theorem co_X11_days : Cond.code yX11_days cX11_days 4 (some .int) ∈ lw_tbl := tb (i := 1725) (by decide +kernel)
set_option maxRecDepth 100000 in
theorem in_X11_days : Cond.initialized yX11_days.cls ∈ lw_tbl := tb (i := 140) (by decide +kernel)
set_option maxRecDepth 100000 in
theorem im_X11_days : Cond.instanceMethod yX11_days ∈ lw_tbl ∧ Cond.selects yX11_days.cls yX11_days yX11_days ∈ lw_tbl := ⟨tb (i := 1723) (by decide +kernel), tb (i := 1724) (by decide +kernel)⟩
set_option maxRecDepth 100000 in
theorem co_X11_doesFor : Cond.code yX11_doesFor cX11_doesFor 3 (some .boolean) ∈ lw_tbl := tb (i := 1718) (by decide +kernel)
set_option maxRecDepth 100000 in
theorem in_X11_doesFor : Cond.initialized yX11_doesFor.cls ∈ lw_tbl := tb (i := 140) (by decide +kernel)
set_option maxRecDepth 100000 in
theorem im_X11_doesFor : Cond.instanceMethod yX11_doesFor ∈ lw_tbl ∧ Cond.selects yX11_doesFor.cls yX11_doesFor yX11_doesFor ∈ lw_tbl := ⟨tb (i := 1717) (by decide +kernel), tb (i := 104) (by decide +kernel)⟩
set_option maxRecDepth 100000 in
theorem co_X11_dogs : Cond.code yX11_dogs cX11_dogs 2 none ∈ lw_tbl := tb (i := 1775) (by decide +kernel)
set_option maxRecDepth 100000 in
theorem in_X11_dogs : Cond.initialized yX11_dogs.cls ∈ lw_tbl := tb (i := 140) (by decide +kernel)
set_option maxRecDepth 100000 in
theorem im_X11_dogs : Cond.instanceMethod yX11_dogs ∈ lw_tbl ∧ Cond.selects yX11_dogs.cls yX11_dogs yX11_dogs ∈ lw_tbl := ⟨tb (i := 1774) (by decide +kernel), tb (i := 116) (by decide +kernel)⟩
set_option maxRecDepth 100000 in
theorem co_X11_draw : Cond.code yX11_draw cX11_draw 2 (some .int) ∈ lw_tbl := tb (i := 1765) (by decide +kernel)
set_option maxRecDepth 100000 in
theorem in_X11_draw : Cond.initialized yX11_draw.cls ∈ lw_tbl := tb (i := 140) (by decide +kernel)
set_option maxRecDepth 100000 in
theorem im_X11_draw : Cond.instanceMethod yX11_draw ∈ lw_tbl ∧ Cond.selects yX11_draw.cls yX11_draw yX11_draw ∈ lw_tbl := ⟨tb (i := 1764) (by decide +kernel), tb (i := 114) (by decide +kernel)⟩
set_option maxRecDepth 100000 in
theorem co_X11_dusk : Cond.code yX11_dusk cX11_dusk 5 (some .int) ∈ lw_tbl := tb (i := 1888) (by decide +kernel)
set_option maxRecDepth 100000 in
theorem in_X11_dusk : Cond.initialized yX11_dusk.cls ∈ lw_tbl := tb (i := 140) (by decide +kernel)
set_option maxRecDepth 100000 in
theorem im_X11_dusk : Cond.instanceMethod yX11_dusk ∈ lw_tbl ∧ Cond.selects yX11_dusk.cls yX11_dusk yX11_dusk ∈ lw_tbl := ⟨tb (i := 1886) (by decide +kernel), tb (i := 1887) (by decide +kernel)⟩
set_option maxRecDepth 100000 in
theorem co_X11_edgeOf : Cond.code yX11_edgeOf cX11_edgeOf 3 (some .int) ∈ lw_tbl := tb (i := 1647) (by decide +kernel)
set_option maxRecDepth 100000 in
theorem in_X11_edgeOf : Cond.initialized yX11_edgeOf.cls ∈ lw_tbl := tb (i := 140) (by decide +kernel)
set_option maxRecDepth 100000 in
theorem im_X11_edgeOf : Cond.instanceMethod yX11_edgeOf ∈ lw_tbl ∧ Cond.selects yX11_edgeOf.cls yX11_edgeOf yX11_edgeOf ∈ lw_tbl := ⟨tb (i := 1646) (by decide +kernel), tb (i := 92) (by decide +kernel)⟩
set_option maxRecDepth 100000 in
theorem co_X11_end : Cond.code yX11_end cX11_end 2 (some .boolean) ∈ lw_tbl := tb (i := 1419) (by decide +kernel)
set_option maxRecDepth 100000 in
theorem in_X11_end : Cond.initialized yX11_end.cls ∈ lw_tbl := tb (i := 140) (by decide +kernel)
set_option maxRecDepth 100000 in
theorem im_X11_end : Cond.instanceMethod yX11_end ∈ lw_tbl ∧ Cond.selects yX11_end.cls yX11_end yX11_end ∈ lw_tbl := ⟨tb (i := 1417) (by decide +kernel), tb (i := 1418) (by decide +kernel)⟩
set_option maxRecDepth 100000 in
theorem co_X11_evening : Cond.code yX11_evening cX11_evening 1 none ∈ lw_tbl := tb (i := 1745) (by decide +kernel)
set_option maxRecDepth 100000 in
theorem in_X11_evening : Cond.initialized yX11_evening.cls ∈ lw_tbl := tb (i := 140) (by decide +kernel)
set_option maxRecDepth 100000 in
theorem im_X11_evening : Cond.instanceMethod yX11_evening ∈ lw_tbl ∧ Cond.selects yX11_evening.cls yX11_evening yX11_evening ∈ lw_tbl := ⟨tb (i := 1744) (by decide +kernel), tb (i := 109) (by decide +kernel)⟩
set_option maxRecDepth 100000 in
theorem co_X11_every : Cond.code yX11_every cX11_every 1 (some .boolean) ∈ lw_tbl := tb (i := 1526) (by decide +kernel)
set_option maxRecDepth 100000 in
theorem in_X11_every : Cond.initialized yX11_every.cls ∈ lw_tbl := tb (i := 140) (by decide +kernel)
set_option maxRecDepth 100000 in
theorem im_X11_every : Cond.instanceMethod yX11_every ∈ lw_tbl ∧ Cond.selects yX11_every.cls yX11_every yX11_every ∈ lw_tbl := ⟨tb (i := 1525) (by decide +kernel), tb (i := 67) (by decide +kernel)⟩
set_option maxRecDepth 100000 in
theorem co_X11_fault : Cond.code yX11_fault cX11_fault 2 (some .int) ∈ lw_tbl := tb (i := 1594) (by decide +kernel)
set_option maxRecDepth 100000 in
theorem in_X11_fault : Cond.initialized yX11_fault.cls ∈ lw_tbl := tb (i := 140) (by decide +kernel)
set_option maxRecDepth 100000 in
theorem im_X11_fault : Cond.instanceMethod yX11_fault ∈ lw_tbl ∧ Cond.selects yX11_fault.cls yX11_fault yX11_fault ∈ lw_tbl := ⟨tb (i := 1592) (by decide +kernel), tb (i := 1593) (by decide +kernel)⟩
set_option maxRecDepth 100000 in
theorem co_X11_feast : Cond.code yX11_feast cX11_feast 3 (some .int) ∈ lw_tbl := tb (i := 1602) (by decide +kernel)
set_option maxRecDepth 100000 in
theorem in_X11_feast : Cond.initialized yX11_feast.cls ∈ lw_tbl := tb (i := 140) (by decide +kernel)
set_option maxRecDepth 100000 in
theorem im_X11_feast : Cond.instanceMethod yX11_feast ∈ lw_tbl ∧ Cond.selects yX11_feast.cls yX11_feast yX11_feast ∈ lw_tbl := ⟨tb (i := 1600) (by decide +kernel), tb (i := 1601) (by decide +kernel)⟩
set_option maxRecDepth 100000 in
theorem co_X11_feastWord : Cond.code yX11_feastWord cX11_feastWord 1 (some .int) ∈ lw_tbl := tb (i := 1476) (by decide +kernel)
set_option maxRecDepth 100000 in
theorem in_X11_feastWord : Cond.initialized yX11_feastWord.cls ∈ lw_tbl := tb (i := 140) (by decide +kernel)
set_option maxRecDepth 100000 in
theorem im_X11_feastWord : Cond.instanceMethod yX11_feastWord ∈ lw_tbl ∧ Cond.selects yX11_feastWord.cls yX11_feastWord yX11_feastWord ∈ lw_tbl := ⟨tb (i := 1475) (by decide +kernel), tb (i := 57) (by decide +kernel)⟩
set_option maxRecDepth 100000 in
theorem co_X11_feasts : Cond.code yX11_feasts cX11_feasts 5 (some .int) ∈ lw_tbl := tb (i := 1610) (by decide +kernel)
set_option maxRecDepth 100000 in
theorem in_X11_feasts : Cond.initialized yX11_feasts.cls ∈ lw_tbl := tb (i := 140) (by decide +kernel)
set_option maxRecDepth 100000 in
theorem im_X11_feasts : Cond.instanceMethod yX11_feasts ∈ lw_tbl ∧ Cond.selects yX11_feasts.cls yX11_feasts yX11_feasts ∈ lw_tbl := ⟨tb (i := 1609) (by decide +kernel), tb (i := 85) (by decide +kernel)⟩
set_option maxRecDepth 100000 in
theorem co_X11_feed : Cond.code yX11_feed cX11_feed 8 (some .int) ∈ lw_tbl := tb (i := 1415) (by decide +kernel)
set_option maxRecDepth 100000 in
theorem in_X11_feed : Cond.initialized yX11_feed.cls ∈ lw_tbl := tb (i := 140) (by decide +kernel)
set_option maxRecDepth 100000 in
theorem im_X11_feed : Cond.instanceMethod yX11_feed ∈ lw_tbl ∧ Cond.selects yX11_feed.cls yX11_feed yX11_feed ∈ lw_tbl := ⟨tb (i := 1413) (by decide +kernel), tb (i := 1414) (by decide +kernel)⟩
set_option maxRecDepth 100000 in
theorem co_X11_firstMissed : Cond.code yX11_firstMissed cX11_firstMissed 2 (some .int) ∈ lw_tbl := tb (i := 1804) (by decide +kernel)
set_option maxRecDepth 100000 in
theorem in_X11_firstMissed : Cond.initialized yX11_firstMissed.cls ∈ lw_tbl := tb (i := 140) (by decide +kernel)
set_option maxRecDepth 100000 in
theorem im_X11_firstMissed : Cond.instanceMethod yX11_firstMissed ∈ lw_tbl ∧ Cond.selects yX11_firstMissed.cls yX11_firstMissed yX11_firstMissed ∈ lw_tbl := ⟨tb (i := 1803) (by decide +kernel), tb (i := 117) (by decide +kernel)⟩
set_option maxRecDepth 100000 in
theorem co_X11_forge : Cond.code yX11_forge cX11_forge 3 (some .int) ∈ lw_tbl := tb (i := 1659) (by decide +kernel)
set_option maxRecDepth 100000 in
theorem in_X11_forge : Cond.initialized yX11_forge.cls ∈ lw_tbl := tb (i := 140) (by decide +kernel)
set_option maxRecDepth 100000 in
theorem im_X11_forge : Cond.instanceMethod yX11_forge ∈ lw_tbl ∧ Cond.selects yX11_forge.cls yX11_forge yX11_forge ∈ lw_tbl := ⟨tb (i := 1657) (by decide +kernel), tb (i := 1658) (by decide +kernel)⟩
set_option maxRecDepth 100000 in
theorem co_X11_forged : Cond.code yX11_forged cX11_forged 7 (some .int) ∈ lw_tbl := tb (i := 1841) (by decide +kernel)
set_option maxRecDepth 100000 in
theorem in_X11_forged : Cond.initialized yX11_forged.cls ∈ lw_tbl := tb (i := 140) (by decide +kernel)
set_option maxRecDepth 100000 in
theorem im_X11_forged : Cond.instanceMethod yX11_forged ∈ lw_tbl ∧ Cond.selects yX11_forged.cls yX11_forged yX11_forged ∈ lw_tbl := ⟨tb (i := 1839) (by decide +kernel), tb (i := 1840) (by decide +kernel)⟩
set_option maxRecDepth 100000 in
theorem co_X11_forgets : Cond.code yX11_forgets cX11_forgets 1 none ∈ lw_tbl := tb (i := 1404) (by decide +kernel)
set_option maxRecDepth 100000 in
theorem in_X11_forgets : Cond.initialized yX11_forgets.cls ∈ lw_tbl := tb (i := 140) (by decide +kernel)
set_option maxRecDepth 100000 in
theorem im_X11_forgets : Cond.instanceMethod yX11_forgets ∈ lw_tbl ∧ Cond.selects yX11_forgets.cls yX11_forgets yX11_forgets ∈ lw_tbl := ⟨tb (i := 1403) (by decide +kernel), tb (i := 49) (by decide +kernel)⟩
set_option maxRecDepth 100000 in
theorem co_X11_goes : Cond.code yX11_goes cX11_goes 6 (some .int) ∈ lw_tbl := tb (i := 1799) (by decide +kernel)
set_option maxRecDepth 100000 in
theorem in_X11_goes : Cond.initialized yX11_goes.cls ∈ lw_tbl := tb (i := 140) (by decide +kernel)
set_option maxRecDepth 100000 in
theorem im_X11_goes : Cond.instanceMethod yX11_goes ∈ lw_tbl ∧ Cond.selects yX11_goes.cls yX11_goes yX11_goes ∈ lw_tbl := ⟨tb (i := 1797) (by decide +kernel), tb (i := 1798) (by decide +kernel)⟩
set_option maxRecDepth 100000 in
theorem co_X11_goesAway : Cond.code yX11_goesAway cX11_goesAway 3 none ∈ lw_tbl := tb (i := 1682) (by decide +kernel)
set_option maxRecDepth 100000 in
theorem in_X11_goesAway : Cond.initialized yX11_goesAway.cls ∈ lw_tbl := tb (i := 140) (by decide +kernel)
set_option maxRecDepth 100000 in
theorem im_X11_goesAway : Cond.instanceMethod yX11_goesAway ∈ lw_tbl ∧ Cond.selects yX11_goesAway.cls yX11_goesAway yX11_goesAway ∈ lw_tbl := ⟨tb (i := 1681) (by decide +kernel), tb (i := 97) (by decide +kernel)⟩
set_option maxRecDepth 100000 in
theorem co_X11_greater : Cond.code yX11_greater cX11_greater 2 (some .int) ∈ lw_tbl := tb (i := 1643) (by decide +kernel)
set_option maxRecDepth 100000 in
theorem in_X11_greater : Cond.initialized yX11_greater.cls ∈ lw_tbl := tb (i := 140) (by decide +kernel)
set_option maxRecDepth 100000 in
theorem sm_X11_greater : Cond.static yX11_greater ∈ lw_tbl := tb (i := 1642) (by decide +kernel)
set_option maxRecDepth 100000 in
theorem co_X11_greaterPart : Cond.code yX11_greaterPart cX11_greaterPart 5 (some .int) ∈ lw_tbl := tb (i := 1868) (by decide +kernel)
set_option maxRecDepth 100000 in
theorem in_X11_greaterPart : Cond.initialized yX11_greaterPart.cls ∈ lw_tbl := tb (i := 140) (by decide +kernel)
set_option maxRecDepth 100000 in
theorem im_X11_greaterPart : Cond.instanceMethod yX11_greaterPart ∈ lw_tbl ∧ Cond.selects yX11_greaterPart.cls yX11_greaterPart yX11_greaterPart ∈ lw_tbl := ⟨tb (i := 1867) (by decide +kernel), tb (i := 124) (by decide +kernel)⟩
set_option maxRecDepth 100000 in
theorem co_X11_holds : Cond.code yX11_holds cX11_holds 4 (some .int) ∈ lw_tbl := tb (i := 1816) (by decide +kernel)
set_option maxRecDepth 100000 in
theorem in_X11_holds : Cond.initialized yX11_holds.cls ∈ lw_tbl := tb (i := 140) (by decide +kernel)
set_option maxRecDepth 100000 in
theorem im_X11_holds : Cond.instanceMethod yX11_holds ∈ lw_tbl ∧ Cond.selects yX11_holds.cls yX11_holds yX11_holds ∈ lw_tbl := ⟨tb (i := 1815) (by decide +kernel), tb (i := 119) (by decide +kernel)⟩
set_option maxRecDepth 100000 in
theorem co_X11_image : Cond.code yX11_image cX11_image 3 (some .boolean) ∈ lw_tbl := tb (i := 1915) (by decide +kernel)
set_option maxRecDepth 100000 in
theorem in_X11_image : Cond.initialized yX11_image.cls ∈ lw_tbl := tb (i := 140) (by decide +kernel)
set_option maxRecDepth 100000 in
theorem im_X11_image : Cond.instanceMethod yX11_image ∈ lw_tbl ∧ Cond.selects yX11_image.cls yX11_image yX11_image ∈ lw_tbl := ⟨tb (i := 1913) (by decide +kernel), tb (i := 1914) (by decide +kernel)⟩
set_option maxRecDepth 100000 in
theorem co_X11_init : Cond.code yX11_init cX11_init 1 none ∈ lw_tbl := tb (i := 1304) (by decide +kernel)
set_option maxRecDepth 100000 in
theorem in_X11_init : Cond.initialized yX11_init.cls ∈ lw_tbl := tb (i := 140) (by decide +kernel)
set_option maxRecDepth 100000 in
theorem co_X11_inspects : Cond.code yX11_inspects cX11_inspects 2 none ∈ lw_tbl := tb (i := 1771) (by decide +kernel)
set_option maxRecDepth 100000 in
theorem in_X11_inspects : Cond.initialized yX11_inspects.cls ∈ lw_tbl := tb (i := 140) (by decide +kernel)
set_option maxRecDepth 100000 in
theorem im_X11_inspects : Cond.instanceMethod yX11_inspects ∈ lw_tbl ∧ Cond.selects yX11_inspects.cls yX11_inspects yX11_inspects ∈ lw_tbl := ⟨tb (i := 1770) (by decide +kernel), tb (i := 115) (by decide +kernel)⟩
set_option maxRecDepth 100000 in
theorem co_X11_is : Cond.code yX11_is cX11_is 4 (some .boolean) ∈ lw_tbl := tb (i := 1447) (by decide +kernel)
set_option maxRecDepth 100000 in
theorem in_X11_is : Cond.initialized yX11_is.cls ∈ lw_tbl := tb (i := 140) (by decide +kernel)
set_option maxRecDepth 100000 in
theorem im_X11_is : Cond.instanceMethod yX11_is ∈ lw_tbl ∧ Cond.selects yX11_is.cls yX11_is yX11_is ∈ lw_tbl := ⟨tb (i := 1446) (by decide +kernel), tb (i := 54) (by decide +kernel)⟩
set_option maxRecDepth 100000 in
theorem co_X11_isDigit : Cond.code yX11_isDigit cX11_isDigit 1 (some .boolean) ∈ lw_tbl := tb (i := 1490) (by decide +kernel)
set_option maxRecDepth 100000 in
theorem in_X11_isDigit : Cond.initialized yX11_isDigit.cls ∈ lw_tbl := tb (i := 140) (by decide +kernel)
set_option maxRecDepth 100000 in
theorem sm_X11_isDigit : Cond.static yX11_isDigit ∈ lw_tbl := tb (i := 1489) (by decide +kernel)
set_option maxRecDepth 100000 in
theorem co_X11_isIn : Cond.code yX11_isIn cX11_isIn 3 (some .boolean) ∈ lw_tbl := tb (i := 1411) (by decide +kernel)
set_option maxRecDepth 100000 in
theorem in_X11_isIn : Cond.initialized yX11_isIn.cls ∈ lw_tbl := tb (i := 140) (by decide +kernel)
set_option maxRecDepth 100000 in
theorem sm_X11_isIn : Cond.static yX11_isIn ∈ lw_tbl := tb (i := 1410) (by decide +kernel)
set_option maxRecDepth 100000 in
theorem co_X11_isKind : Cond.code yX11_isKind cX11_isKind 2 (some .boolean) ∈ lw_tbl := tb (i := 1574) (by decide +kernel)
set_option maxRecDepth 100000 in
theorem in_X11_isKind : Cond.initialized yX11_isKind.cls ∈ lw_tbl := tb (i := 140) (by decide +kernel)
set_option maxRecDepth 100000 in
theorem im_X11_isKind : Cond.instanceMethod yX11_isKind ∈ lw_tbl ∧ Cond.selects yX11_isKind.cls yX11_isKind yX11_isKind ∈ lw_tbl := ⟨tb (i := 1573) (by decide +kernel), tb (i := 79) (by decide +kernel)⟩
set_option maxRecDepth 100000 in
theorem co_X11_isLetter : Cond.code yX11_isLetter cX11_isLetter 1 (some .boolean) ∈ lw_tbl := tb (i := 1434) (by decide +kernel)
set_option maxRecDepth 100000 in
theorem in_X11_isLetter : Cond.initialized yX11_isLetter.cls ∈ lw_tbl := tb (i := 140) (by decide +kernel)
set_option maxRecDepth 100000 in
theorem sm_X11_isLetter : Cond.static yX11_isLetter ∈ lw_tbl := tb (i := 1433) (by decide +kernel)
set_option maxRecDepth 100000 in
theorem co_X11_isMet : Cond.code yX11_isMet cX11_isMet 2 (some .boolean) ∈ lw_tbl := tb (i := 1737) (by decide +kernel)
set_option maxRecDepth 100000 in
theorem in_X11_isMet : Cond.initialized yX11_isMet.cls ∈ lw_tbl := tb (i := 140) (by decide +kernel)
set_option maxRecDepth 100000 in
theorem im_X11_isMet : Cond.instanceMethod yX11_isMet ∈ lw_tbl ∧ Cond.selects yX11_isMet.cls yX11_isMet yX11_isMet ∈ lw_tbl := ⟨tb (i := 1736) (by decide +kernel), tb (i := 107) (by decide +kernel)⟩
set_option maxRecDepth 100000 in
theorem co_X11_isOne : Cond.code yX11_isOne cX11_isOne 1 (some .boolean) ∈ lw_tbl := tb (i := 1899) (by decide +kernel)
set_option maxRecDepth 100000 in
theorem in_X11_isOne : Cond.initialized yX11_isOne.cls ∈ lw_tbl := tb (i := 140) (by decide +kernel)
set_option maxRecDepth 100000 in
theorem sm_X11_isOne : Cond.static yX11_isOne ∈ lw_tbl := tb (i := 1898) (by decide +kernel)
set_option maxRecDepth 100000 in
theorem co_X11_isRemain : Cond.code yX11_isRemain cX11_isRemain 2 (some .boolean) ∈ lw_tbl := tb (i := 1667) (by decide +kernel)
set_option maxRecDepth 100000 in
theorem in_X11_isRemain : Cond.initialized yX11_isRemain.cls ∈ lw_tbl := tb (i := 140) (by decide +kernel)
set_option maxRecDepth 100000 in
theorem im_X11_isRemain : Cond.instanceMethod yX11_isRemain ∈ lw_tbl ∧ Cond.selects yX11_isRemain.cls yX11_isRemain yX11_isRemain ∈ lw_tbl := ⟨tb (i := 1666) (by decide +kernel), tb (i := 95) (by decide +kernel)⟩
set_option maxRecDepth 100000 in
theorem co_X11_isSo : Cond.code yX11_isSo cX11_isSo 2 (some .boolean) ∈ lw_tbl := tb (i := 1630) (by decide +kernel)
set_option maxRecDepth 100000 in
theorem in_X11_isSo : Cond.initialized yX11_isSo.cls ∈ lw_tbl := tb (i := 140) (by decide +kernel)
set_option maxRecDepth 100000 in
theorem im_X11_isSo : Cond.instanceMethod yX11_isSo ∈ lw_tbl ∧ Cond.selects yX11_isSo.cls yX11_isSo yX11_isSo ∈ lw_tbl := ⟨tb (i := 1629) (by decide +kernel), tb (i := 90) (by decide +kernel)⟩
set_option maxRecDepth 100000 in
theorem co_X11_isSpoilt : Cond.code yX11_isSpoilt cX11_isSpoilt 3 (some .boolean) ∈ lw_tbl := tb (i := 1753) (by decide +kernel)
set_option maxRecDepth 100000 in
theorem in_X11_isSpoilt : Cond.initialized yX11_isSpoilt.cls ∈ lw_tbl := tb (i := 140) (by decide +kernel)
set_option maxRecDepth 100000 in
theorem im_X11_isSpoilt : Cond.instanceMethod yX11_isSpoilt ∈ lw_tbl ∧ Cond.selects yX11_isSpoilt.cls yX11_isSpoilt yX11_isSpoilt ∈ lw_tbl := ⟨tb (i := 1752) (by decide +kernel), tb (i := 111) (by decide +kernel)⟩
set_option maxRecDepth 100000 in
theorem co_X11_join : Cond.code yX11_join cX11_join 5 (some .int) ∈ lw_tbl := tb (i := 1675) (by decide +kernel)
set_option maxRecDepth 100000 in
theorem in_X11_join : Cond.initialized yX11_join.cls ∈ lw_tbl := tb (i := 140) (by decide +kernel)
set_option maxRecDepth 100000 in
theorem im_X11_join : Cond.instanceMethod yX11_join ∈ lw_tbl ∧ Cond.selects yX11_join.cls yX11_join yX11_join ∈ lw_tbl := ⟨tb (i := 1673) (by decide +kernel), tb (i := 1674) (by decide +kernel)⟩
set_option maxRecDepth 100000 in
theorem co_X11_joined : Cond.code yX11_joined cX11_joined 1 (some .int) ∈ lw_tbl := tb (i := 1678) (by decide +kernel)
set_option maxRecDepth 100000 in
theorem in_X11_joined : Cond.initialized yX11_joined.cls ∈ lw_tbl := tb (i := 140) (by decide +kernel)
set_option maxRecDepth 100000 in
theorem sm_X11_joined : Cond.static yX11_joined ∈ lw_tbl := tb (i := 1677) (by decide +kernel)
set_option maxRecDepth 100000 in
theorem co_X11_joins : Cond.code yX11_joins cX11_joins 5 (some .int) ∈ lw_tbl := tb (i := 1702) (by decide +kernel)
set_option maxRecDepth 100000 in
theorem in_X11_joins : Cond.initialized yX11_joins.cls ∈ lw_tbl := tb (i := 140) (by decide +kernel)
set_option maxRecDepth 100000 in
theorem im_X11_joins : Cond.instanceMethod yX11_joins ∈ lw_tbl ∧ Cond.selects yX11_joins.cls yX11_joins yX11_joins ∈ lw_tbl := ⟨tb (i := 1700) (by decide +kernel), tb (i := 1701) (by decide +kernel)⟩
set_option maxRecDepth 100000 in
theorem co_X11_joinsOf : Cond.code yX11_joinsOf cX11_joinsOf 8 (some .int) ∈ lw_tbl := tb (i := 1706) (by decide +kernel)
set_option maxRecDepth 100000 in
theorem in_X11_joinsOf : Cond.initialized yX11_joinsOf.cls ∈ lw_tbl := tb (i := 140) (by decide +kernel)
set_option maxRecDepth 100000 in
theorem im_X11_joinsOf : Cond.instanceMethod yX11_joinsOf ∈ lw_tbl ∧ Cond.selects yX11_joinsOf.cls yX11_joinsOf yX11_joinsOf ∈ lw_tbl := ⟨tb (i := 1705) (by decide +kernel), tb (i := 101) (by decide +kernel)⟩
set_option maxRecDepth 100000 in
theorem co_X11_keeps : Cond.code yX11_keeps cX11_keeps 2 none ∈ lw_tbl := tb (i := 1606) (by decide +kernel)
set_option maxRecDepth 100000 in
theorem in_X11_keeps : Cond.initialized yX11_keeps.cls ∈ lw_tbl := tb (i := 140) (by decide +kernel)
set_option maxRecDepth 100000 in
theorem im_X11_keeps : Cond.instanceMethod yX11_keeps ∈ lw_tbl ∧ Cond.selects yX11_keeps.cls yX11_keeps yX11_keeps ∈ lw_tbl := ⟨tb (i := 1605) (by decide +kernel), tb (i := 84) (by decide +kernel)⟩
set_option maxRecDepth 100000 in
theorem co_X11_keepsOf : Cond.code yX11_keepsOf cX11_keepsOf 2 (some .int) ∈ lw_tbl := tb (i := 1757) (by decide +kernel)
set_option maxRecDepth 100000 in
theorem in_X11_keepsOf : Cond.initialized yX11_keepsOf.cls ∈ lw_tbl := tb (i := 140) (by decide +kernel)
set_option maxRecDepth 100000 in
theorem im_X11_keepsOf : Cond.instanceMethod yX11_keepsOf ∈ lw_tbl ∧ Cond.selects yX11_keepsOf.cls yX11_keepsOf yX11_keepsOf ∈ lw_tbl := ⟨tb (i := 1756) (by decide +kernel), tb (i := 112) (by decide +kernel)⟩
set_option maxRecDepth 100000 in
theorem co_X11_kind : Cond.code yX11_kind cX11_kind 3 (some .int) ∈ lw_tbl := tb (i := 1783) (by decide +kernel)
set_option maxRecDepth 100000 in
theorem in_X11_kind : Cond.initialized yX11_kind.cls ∈ lw_tbl := tb (i := 140) (by decide +kernel)
set_option maxRecDepth 100000 in
theorem im_X11_kind : Cond.instanceMethod yX11_kind ∈ lw_tbl ∧ Cond.selects yX11_kind.cls yX11_kind yX11_kind ∈ lw_tbl := ⟨tb (i := 1781) (by decide +kernel), tb (i := 1782) (by decide +kernel)⟩
set_option maxRecDepth 100000 in
theorem co_X11_kindWord : Cond.code yX11_kindWord cX11_kindWord 1 (some .int) ∈ lw_tbl := tb (i := 1442) (by decide +kernel)
set_option maxRecDepth 100000 in
theorem in_X11_kindWord : Cond.initialized yX11_kindWord.cls ∈ lw_tbl := tb (i := 140) (by decide +kernel)
set_option maxRecDepth 100000 in
theorem im_X11_kindWord : Cond.instanceMethod yX11_kindWord ∈ lw_tbl ∧ Cond.selects yX11_kindWord.cls yX11_kindWord yX11_kindWord ∈ lw_tbl := ⟨tb (i := 1441) (by decide +kernel), tb (i := 53) (by decide +kernel)⟩
set_option maxRecDepth 100000 in
theorem co_X11_lawWord : Cond.code yX11_lawWord cX11_lawWord 1 (some .int) ∈ lw_tbl := tb (i := 1454) (by decide +kernel)
set_option maxRecDepth 100000 in
theorem in_X11_lawWord : Cond.initialized yX11_lawWord.cls ∈ lw_tbl := tb (i := 140) (by decide +kernel)
set_option maxRecDepth 100000 in
theorem im_X11_lawWord : Cond.instanceMethod yX11_lawWord ∈ lw_tbl ∧ Cond.selects yX11_lawWord.cls yX11_lawWord yX11_lawWord ∈ lw_tbl := ⟨tb (i := 1453) (by decide +kernel), tb (i := 55) (by decide +kernel)⟩
set_option maxRecDepth 100000 in
theorem co_X11_lay : Cond.code yX11_lay cX11_lay 3 none ∈ lw_tbl := tb (i := 1518) (by decide +kernel)
set_option maxRecDepth 100000 in
theorem in_X11_lay : Cond.initialized yX11_lay.cls ∈ lw_tbl := tb (i := 140) (by decide +kernel)
set_option maxRecDepth 100000 in
theorem im_X11_lay : Cond.instanceMethod yX11_lay ∈ lw_tbl ∧ Cond.selects yX11_lay.cls yX11_lay yX11_lay ∈ lw_tbl := ⟨tb (i := 1517) (by decide +kernel), tb (i := 65) (by decide +kernel)⟩
set_option maxRecDepth 100000 in
theorem co_X11_laysCuts : Cond.code yX11_laysCuts cX11_laysCuts 6 none ∈ lw_tbl := tb (i := 1828) (by decide +kernel)
set_option maxRecDepth 100000 in
theorem in_X11_laysCuts : Cond.initialized yX11_laysCuts.cls ∈ lw_tbl := tb (i := 140) (by decide +kernel)
set_option maxRecDepth 100000 in
theorem im_X11_laysCuts : Cond.instanceMethod yX11_laysCuts ∈ lw_tbl ∧ Cond.selects yX11_laysCuts.cls yX11_laysCuts yX11_laysCuts ∈ lw_tbl := ⟨tb (i := 1827) (by decide +kernel), tb (i := 120) (by decide +kernel)⟩
set_option maxRecDepth 100000 in
theorem co_X11_laysFeast : Cond.code yX11_laysFeast cX11_laysFeast 3 none ∈ lw_tbl := tb (i := 1618) (by decide +kernel)
set_option maxRecDepth 100000 in
theorem in_X11_laysFeast : Cond.initialized yX11_laysFeast.cls ∈ lw_tbl := tb (i := 140) (by decide +kernel)
set_option maxRecDepth 100000 in
theorem im_X11_laysFeast : Cond.instanceMethod yX11_laysFeast ∈ lw_tbl ∧ Cond.selects yX11_laysFeast.cls yX11_laysFeast yX11_laysFeast ∈ lw_tbl := ⟨tb (i := 1617) (by decide +kernel), tb (i := 87) (by decide +kernel)⟩
set_option maxRecDepth 100000 in
theorem co_X11_laysRemain : Cond.code yX11_laysRemain cX11_laysRemain 3 none ∈ lw_tbl := tb (i := 1694) (by decide +kernel)
set_option maxRecDepth 100000 in
theorem in_X11_laysRemain : Cond.initialized yX11_laysRemain.cls ∈ lw_tbl := tb (i := 140) (by decide +kernel)
set_option maxRecDepth 100000 in
theorem im_X11_laysRemain : Cond.instanceMethod yX11_laysRemain ∈ lw_tbl ∧ Cond.selects yX11_laysRemain.cls yX11_laysRemain yX11_laysRemain ∈ lw_tbl := ⟨tb (i := 1693) (by decide +kernel), tb (i := 99) (by decide +kernel)⟩
set_option maxRecDepth 100000 in
theorem co_X11_left : Cond.code yX11_left cX11_left 4 (some .int) ∈ lw_tbl := tb (i := 1787) (by decide +kernel)
set_option maxRecDepth 100000 in
theorem in_X11_left : Cond.initialized yX11_left.cls ∈ lw_tbl := tb (i := 140) (by decide +kernel)
set_option maxRecDepth 100000 in
theorem im_X11_left : Cond.instanceMethod yX11_left ∈ lw_tbl ∧ Cond.selects yX11_left.cls yX11_left yX11_left ∈ lw_tbl := ⟨tb (i := 1785) (by decide +kernel), tb (i := 1786) (by decide +kernel)⟩
set_option maxRecDepth 100000 in
theorem co_X11_leftOf : Cond.code yX11_leftOf cX11_leftOf 3 (some .int) ∈ lw_tbl := tb (i := 1614) (by decide +kernel)
set_option maxRecDepth 100000 in
theorem in_X11_leftOf : Cond.initialized yX11_leftOf.cls ∈ lw_tbl := tb (i := 140) (by decide +kernel)
set_option maxRecDepth 100000 in
theorem im_X11_leftOf : Cond.instanceMethod yX11_leftOf ∈ lw_tbl ∧ Cond.selects yX11_leftOf.cls yX11_leftOf yX11_leftOf ∈ lw_tbl := ⟨tb (i := 1613) (by decide +kernel), tb (i := 86) (by decide +kernel)⟩
set_option maxRecDepth 100000 in
theorem co_X11_lesser : Cond.code yX11_lesser cX11_lesser 2 (some .int) ∈ lw_tbl := tb (i := 1640) (by decide +kernel)
set_option maxRecDepth 100000 in
theorem in_X11_lesser : Cond.initialized yX11_lesser.cls ∈ lw_tbl := tb (i := 140) (by decide +kernel)
set_option maxRecDepth 100000 in
theorem sm_X11_lesser : Cond.static yX11_lesser ∈ lw_tbl := tb (i := 1639) (by decide +kernel)
set_option maxRecDepth 100000 in
theorem co_X11_limit : Cond.code yX11_limit cX11_limit 2 (some .int) ∈ lw_tbl := tb (i := 1884) (by decide +kernel)
set_option maxRecDepth 100000 in
theorem in_X11_limit : Cond.initialized yX11_limit.cls ∈ lw_tbl := tb (i := 140) (by decide +kernel)
set_option maxRecDepth 100000 in
theorem im_X11_limit : Cond.instanceMethod yX11_limit ∈ lw_tbl ∧ Cond.selects yX11_limit.cls yX11_limit yX11_limit ∈ lw_tbl := ⟨tb (i := 1882) (by decide +kernel), tb (i := 1883) (by decide +kernel)⟩
set_option maxRecDepth 100000 in
theorem co_X11_linesLeaving : Cond.code yX11_linesLeaving cX11_linesLeaving 4 (some .int) ∈ lw_tbl := tb (i := 1864) (by decide +kernel)
set_option maxRecDepth 100000 in
theorem in_X11_linesLeaving : Cond.initialized yX11_linesLeaving.cls ∈ lw_tbl := tb (i := 140) (by decide +kernel)
set_option maxRecDepth 100000 in
theorem im_X11_linesLeaving : Cond.instanceMethod yX11_linesLeaving ∈ lw_tbl ∧ Cond.selects yX11_linesLeaving.cls yX11_linesLeaving yX11_linesLeaving ∈ lw_tbl := ⟨tb (i := 1863) (by decide +kernel), tb (i := 123) (by decide +kernel)⟩
set_option maxRecDepth 100000 in
theorem co_X11_look : Cond.code yX11_look cX11_look 2 (some .int) ∈ lw_tbl := tb (i := 1919) (by decide +kernel)
set_option maxRecDepth 100000 in
theorem in_X11_look : Cond.initialized yX11_look.cls ∈ lw_tbl := tb (i := 140) (by decide +kernel)
set_option maxRecDepth 100000 in
theorem im_X11_look : Cond.instanceMethod yX11_look ∈ lw_tbl ∧ Cond.selects yX11_look.cls yX11_look yX11_look ∈ lw_tbl := ⟨tb (i := 1917) (by decide +kernel), tb (i := 1918) (by decide +kernel)⟩
set_option maxRecDepth 100000 in
theorem co_X11_lookAt : Cond.code yX11_lookAt cX11_lookAt 12 (some .int) ∈ lw_tbl := tb (i := 1855) (by decide +kernel)
set_option maxRecDepth 100000 in
theorem in_X11_lookAt : Cond.initialized yX11_lookAt.cls ∈ lw_tbl := tb (i := 140) (by decide +kernel)
set_option maxRecDepth 100000 in
theorem im_X11_lookAt : Cond.instanceMethod yX11_lookAt ∈ lw_tbl ∧ Cond.selects yX11_lookAt.cls yX11_lookAt yX11_lookAt ∈ lw_tbl := ⟨tb (i := 1853) (by decide +kernel), tb (i := 1854) (by decide +kernel)⟩
set_option maxRecDepth 100000 in
theorem co_X11_meetsWants : Cond.code yX11_meetsWants cX11_meetsWants 5 (some .int) ∈ lw_tbl := tb (i := 1733) (by decide +kernel)
set_option maxRecDepth 100000 in
theorem in_X11_meetsWants : Cond.initialized yX11_meetsWants.cls ∈ lw_tbl := tb (i := 140) (by decide +kernel)
set_option maxRecDepth 100000 in
theorem im_X11_meetsWants : Cond.instanceMethod yX11_meetsWants ∈ lw_tbl ∧ Cond.selects yX11_meetsWants.cls yX11_meetsWants yX11_meetsWants ∈ lw_tbl := ⟨tb (i := 1732) (by decide +kernel), tb (i := 106) (by decide +kernel)⟩
set_option maxRecDepth 100000 in
theorem co_X11_morning : Cond.code yX11_morning cX11_morning 2 (some .int) ∈ lw_tbl := tb (i := 1729) (by decide +kernel)
set_option maxRecDepth 100000 in
theorem in_X11_morning : Cond.initialized yX11_morning.cls ∈ lw_tbl := tb (i := 140) (by decide +kernel)
set_option maxRecDepth 100000 in
theorem im_X11_morning : Cond.instanceMethod yX11_morning ∈ lw_tbl ∧ Cond.selects yX11_morning.cls yX11_morning yX11_morning ∈ lw_tbl := ⟨tb (i := 1728) (by decide +kernel), tb (i := 105) (by decide +kernel)⟩
set_option maxRecDepth 100000 in
theorem co_X11_most : Cond.code yX11_most cX11_most 6 (some .int) ∈ lw_tbl := tb (i := 1808) (by decide +kernel)
set_option maxRecDepth 100000 in
theorem in_X11_most : Cond.initialized yX11_most.cls ∈ lw_tbl := tb (i := 140) (by decide +kernel)
set_option maxRecDepth 100000 in
theorem im_X11_most : Cond.instanceMethod yX11_most ∈ lw_tbl ∧ Cond.selects yX11_most.cls yX11_most yX11_most ∈ lw_tbl := ⟨tb (i := 1806) (by decide +kernel), tb (i := 1807) (by decide +kernel)⟩
set_option maxRecDepth 100000 in
theorem co_X11_mostGuests : Cond.code yX11_mostGuests cX11_mostGuests 4 (some .int) ∈ lw_tbl := tb (i := 1812) (by decide +kernel)
set_option maxRecDepth 100000 in
theorem in_X11_mostGuests : Cond.initialized yX11_mostGuests.cls ∈ lw_tbl := tb (i := 140) (by decide +kernel)
set_option maxRecDepth 100000 in
theorem im_X11_mostGuests : Cond.instanceMethod yX11_mostGuests ∈ lw_tbl ∧ Cond.selects yX11_mostGuests.cls yX11_mostGuests yX11_mostGuests ∈ lw_tbl := ⟨tb (i := 1811) (by decide +kernel), tb (i := 118) (by decide +kernel)⟩
set_option maxRecDepth 100000 in
theorem co_X11_need : Cond.code yX11_need cX11_need 2 (some .boolean) ∈ lw_tbl := tb (i := 1538) (by decide +kernel)
set_option maxRecDepth 100000 in
theorem in_X11_need : Cond.initialized yX11_need.cls ∈ lw_tbl := tb (i := 140) (by decide +kernel)
set_option maxRecDepth 100000 in
theorem im_X11_need : Cond.instanceMethod yX11_need ∈ lw_tbl ∧ Cond.selects yX11_need.cls yX11_need yX11_need ∈ lw_tbl := ⟨tb (i := 1537) (by decide +kernel), tb (i := 70) (by decide +kernel)⟩
set_option maxRecDepth 100000 in
theorem co_X11_next0 : Cond.code yX11_next0 cX11_next0 3 none ∈ lw_tbl := tb (i := 1427) (by decide +kernel)
set_option maxRecDepth 100000 in
theorem in_X11_next0 : Cond.initialized yX11_next0.cls ∈ lw_tbl := tb (i := 140) (by decide +kernel)
set_option maxRecDepth 100000 in
theorem im_X11_next0 : Cond.instanceMethod yX11_next0 ∈ lw_tbl ∧ Cond.selects yX11_next0.cls yX11_next0 yX11_next0 ∈ lw_tbl := ⟨tb (i := 1426) (by decide +kernel), tb (i := 50) (by decide +kernel)⟩
set_option maxRecDepth 100000 in
theorem co_X11_notes : Cond.code yX11_notes cX11_notes 5 none ∈ lw_tbl := tb (i := 1655) (by decide +kernel)
set_option maxRecDepth 100000 in
theorem in_X11_notes : Cond.initialized yX11_notes.cls ∈ lw_tbl := tb (i := 140) (by decide +kernel)
set_option maxRecDepth 100000 in
theorem im_X11_notes : Cond.instanceMethod yX11_notes ∈ lw_tbl ∧ Cond.selects yX11_notes.cls yX11_notes yX11_notes ∈ lw_tbl := ⟨tb (i := 1654) (by decide +kernel), tb (i := 94) (by decide +kernel)⟩
set_option maxRecDepth 100000 in
theorem co_X11_number : Cond.code yX11_number cX11_number 4 (some .boolean) ∈ lw_tbl := tb (i := 1558) (by decide +kernel)
set_option maxRecDepth 100000 in
theorem in_X11_number : Cond.initialized yX11_number.cls ∈ lw_tbl := tb (i := 140) (by decide +kernel)
set_option maxRecDepth 100000 in
theorem im_X11_number : Cond.instanceMethod yX11_number ∈ lw_tbl ∧ Cond.selects yX11_number.cls yX11_number yX11_number ∈ lw_tbl := ⟨tb (i := 1557) (by decide +kernel), tb (i := 75) (by decide +kernel)⟩
set_option maxRecDepth 100000 in
theorem co_X11_ofRemain : Cond.code yX11_ofRemain cX11_ofRemain 3 (some .int) ∈ lw_tbl := tb (i := 1671) (by decide +kernel)
set_option maxRecDepth 100000 in
theorem in_X11_ofRemain : Cond.initialized yX11_ofRemain.cls ∈ lw_tbl := tb (i := 140) (by decide +kernel)
set_option maxRecDepth 100000 in
theorem im_X11_ofRemain : Cond.instanceMethod yX11_ofRemain ∈ lw_tbl ∧ Cond.selects yX11_ofRemain.cls yX11_ofRemain yX11_ofRemain ∈ lw_tbl := ⟨tb (i := 1670) (by decide +kernel), tb (i := 96) (by decide +kernel)⟩
set_option maxRecDepth 100000 in
theorem co_X11_ofWant : Cond.code yX11_ofWant cX11_ofWant 3 (some .int) ∈ lw_tbl := tb (i := 1741) (by decide +kernel)
set_option maxRecDepth 100000 in
theorem in_X11_ofWant : Cond.initialized yX11_ofWant.cls ∈ lw_tbl := tb (i := 140) (by decide +kernel)
set_option maxRecDepth 100000 in
theorem im_X11_ofWant : Cond.instanceMethod yX11_ofWant ∈ lw_tbl ∧ Cond.selects yX11_ofWant.cls yX11_ofWant yX11_ofWant ∈ lw_tbl := ⟨tb (i := 1740) (by decide +kernel), tb (i := 108) (by decide +kernel)⟩
set_option maxRecDepth 100000 in
theorem co_X11_oneTest : Cond.code yX11_oneTest cX11_oneTest 2 (some .boolean) ∈ lw_tbl := tb (i := 1530) (by decide +kernel)
set_option maxRecDepth 100000 in
theorem in_X11_oneTest : Cond.initialized yX11_oneTest.cls ∈ lw_tbl := tb (i := 140) (by decide +kernel)
set_option maxRecDepth 100000 in
theorem im_X11_oneTest : Cond.instanceMethod yX11_oneTest ∈ lw_tbl ∧ Cond.selects yX11_oneTest.cls yX11_oneTest yX11_oneTest ∈ lw_tbl := ⟨tb (i := 1529) (by decide +kernel), tb (i := 68) (by decide +kernel)⟩
set_option maxRecDepth 100000 in
theorem co_X11_opens : Cond.code yX11_opens cX11_opens 1 (some .boolean) ∈ lw_tbl := tb (i := 1534) (by decide +kernel)
set_option maxRecDepth 100000 in
theorem in_X11_opens : Cond.initialized yX11_opens.cls ∈ lw_tbl := tb (i := 140) (by decide +kernel)
set_option maxRecDepth 100000 in
theorem im_X11_opens : Cond.instanceMethod yX11_opens ∈ lw_tbl ∧ Cond.selects yX11_opens.cls yX11_opens yX11_opens ∈ lw_tbl := ⟨tb (i := 1533) (by decide +kernel), tb (i := 69) (by decide +kernel)⟩
set_option maxRecDepth 100000 in
theorem co_X11_piece : Cond.code yX11_piece cX11_piece 3 (some .int) ∈ lw_tbl := tb (i := 1820) (by decide +kernel)
set_option maxRecDepth 100000 in
theorem in_X11_piece : Cond.initialized yX11_piece.cls ∈ lw_tbl := tb (i := 140) (by decide +kernel)
set_option maxRecDepth 100000 in
theorem im_X11_piece : Cond.instanceMethod yX11_piece ∈ lw_tbl ∧ Cond.selects yX11_piece.cls yX11_piece yX11_piece ∈ lw_tbl := ⟨tb (i := 1818) (by decide +kernel), tb (i := 1819) (by decide +kernel)⟩
set_option maxRecDepth 100000 in
theorem co_X11_placesOf : Cond.code yX11_placesOf cX11_placesOf 4 (some .int) ∈ lw_tbl := tb (i := 1710) (by decide +kernel)
set_option maxRecDepth 100000 in
theorem in_X11_placesOf : Cond.initialized yX11_placesOf.cls ∈ lw_tbl := tb (i := 140) (by decide +kernel)
set_option maxRecDepth 100000 in
theorem im_X11_placesOf : Cond.instanceMethod yX11_placesOf ∈ lw_tbl ∧ Cond.selects yX11_placesOf.cls yX11_placesOf yX11_placesOf ∈ lw_tbl := ⟨tb (i := 1709) (by decide +kernel), tb (i := 102) (by decide +kernel)⟩
set_option maxRecDepth 100000 in
theorem co_X11_priceOf : Cond.code yX11_priceOf cX11_priceOf 3 (some .int) ∈ lw_tbl := tb (i := 1690) (by decide +kernel)
set_option maxRecDepth 100000 in
theorem in_X11_priceOf : Cond.initialized yX11_priceOf.cls ∈ lw_tbl := tb (i := 140) (by decide +kernel)
set_option maxRecDepth 100000 in
theorem im_X11_priceOf : Cond.instanceMethod yX11_priceOf ∈ lw_tbl ∧ Cond.selects yX11_priceOf.cls yX11_priceOf yX11_priceOf ∈ lw_tbl := ⟨tb (i := 1689) (by decide +kernel), tb (i := 98) (by decide +kernel)⟩
set_option maxRecDepth 100000 in
theorem co_X11_product : Cond.code yX11_product cX11_product 3 (some .boolean) ∈ lw_tbl := tb (i := 1510) (by decide +kernel)
set_option maxRecDepth 100000 in
theorem in_X11_product : Cond.initialized yX11_product.cls ∈ lw_tbl := tb (i := 140) (by decide +kernel)
set_option maxRecDepth 100000 in
theorem im_X11_product : Cond.instanceMethod yX11_product ∈ lw_tbl ∧ Cond.selects yX11_product.cls yX11_product yX11_product ∈ lw_tbl := ⟨tb (i := 1509) (by decide +kernel), tb (i := 63) (by decide +kernel)⟩
set_option maxRecDepth 100000 in
theorem co_X11_puts : Cond.code yX11_puts cX11_puts 5 (some .int) ∈ lw_tbl := tb (i := 1586) (by decide +kernel)
set_option maxRecDepth 100000 in
theorem in_X11_puts : Cond.initialized yX11_puts.cls ∈ lw_tbl := tb (i := 140) (by decide +kernel)
set_option maxRecDepth 100000 in
theorem im_X11_puts : Cond.instanceMethod yX11_puts ∈ lw_tbl ∧ Cond.selects yX11_puts.cls yX11_puts yX11_puts ∈ lw_tbl := ⟨tb (i := 1585) (by decide +kernel), tb (i := 82) (by decide +kernel)⟩
set_option maxRecDepth 100000 in
theorem co_X11_putsKinds : Cond.code yX11_putsKinds cX11_putsKinds 1 (some .int) ∈ lw_tbl := tb (i := 1590) (by decide +kernel)
set_option maxRecDepth 100000 in
theorem in_X11_putsKinds : Cond.initialized yX11_putsKinds.cls ∈ lw_tbl := tb (i := 140) (by decide +kernel)
set_option maxRecDepth 100000 in
theorem im_X11_putsKinds : Cond.instanceMethod yX11_putsKinds ∈ lw_tbl ∧ Cond.selects yX11_putsKinds.cls yX11_putsKinds yX11_putsKinds ∈ lw_tbl := ⟨tb (i := 1589) (by decide +kernel), tb (i := 83) (by decide +kernel)⟩
set_option maxRecDepth 100000 in
theorem co_X11_putsLaw : Cond.code yX11_putsLaw cX11_putsLaw 2 (some .int) ∈ lw_tbl := tb (i := 1582) (by decide +kernel)
set_option maxRecDepth 100000 in
theorem in_X11_putsLaw : Cond.initialized yX11_putsLaw.cls ∈ lw_tbl := tb (i := 140) (by decide +kernel)
set_option maxRecDepth 100000 in
theorem im_X11_putsLaw : Cond.instanceMethod yX11_putsLaw ∈ lw_tbl ∧ Cond.selects yX11_putsLaw.cls yX11_putsLaw yX11_putsLaw ∈ lw_tbl := ⟨tb (i := 1581) (by decide +kernel), tb (i := 81) (by decide +kernel)⟩
set_option maxRecDepth 100000 in
theorem co_X11_putsText : Cond.code yX11_putsText cX11_putsText 2 (some .int) ∈ lw_tbl := tb (i := 1578) (by decide +kernel)
set_option maxRecDepth 100000 in
theorem in_X11_putsText : Cond.initialized yX11_putsText.cls ∈ lw_tbl := tb (i := 140) (by decide +kernel)
set_option maxRecDepth 100000 in
theorem im_X11_putsText : Cond.instanceMethod yX11_putsText ∈ lw_tbl ∧ Cond.selects yX11_putsText.cls yX11_putsText yX11_putsText ∈ lw_tbl := ⟨tb (i := 1577) (by decide +kernel), tb (i := 80) (by decide +kernel)⟩
set_option maxRecDepth 100000 in
theorem co_X11_readsLaw : Cond.code yX11_readsLaw cX11_readsLaw 2 (some .boolean) ∈ lw_tbl := tb (i := 1494) (by decide +kernel)
set_option maxRecDepth 100000 in
theorem in_X11_readsLaw : Cond.initialized yX11_readsLaw.cls ∈ lw_tbl := tb (i := 140) (by decide +kernel)
set_option maxRecDepth 100000 in
theorem im_X11_readsLaw : Cond.instanceMethod yX11_readsLaw ∈ lw_tbl ∧ Cond.selects yX11_readsLaw.cls yX11_readsLaw yX11_readsLaw ∈ lw_tbl := ⟨tb (i := 1493) (by decide +kernel), tb (i := 59) (by decide +kernel)⟩
set_option maxRecDepth 100000 in
theorem co_X11_readsRows : Cond.code yX11_readsRows cX11_readsRows 3 (some .boolean) ∈ lw_tbl := tb (i := 1542) (by decide +kernel)
set_option maxRecDepth 100000 in
theorem in_X11_readsRows : Cond.initialized yX11_readsRows.cls ∈ lw_tbl := tb (i := 140) (by decide +kernel)
set_option maxRecDepth 100000 in
theorem im_X11_readsRows : Cond.instanceMethod yX11_readsRows ∈ lw_tbl ∧ Cond.selects yX11_readsRows.cls yX11_readsRows yX11_readsRows ∈ lw_tbl := ⟨tb (i := 1541) (by decide +kernel), tb (i := 71) (by decide +kernel)⟩
set_option maxRecDepth 100000 in
theorem co_X11_remain : Cond.code yX11_remain cX11_remain 3 (some .int) ∈ lw_tbl := tb (i := 1779) (by decide +kernel)
set_option maxRecDepth 100000 in
theorem in_X11_remain : Cond.initialized yX11_remain.cls ∈ lw_tbl := tb (i := 140) (by decide +kernel)
set_option maxRecDepth 100000 in
theorem im_X11_remain : Cond.instanceMethod yX11_remain ∈ lw_tbl ∧ Cond.selects yX11_remain.cls yX11_remain yX11_remain ∈ lw_tbl := ⟨tb (i := 1777) (by decide +kernel), tb (i := 1778) (by decide +kernel)⟩
set_option maxRecDepth 100000 in
theorem co_X11_ring : Cond.code yX11_ring cX11_ring 7 (some .int) ∈ lw_tbl := tb (i := 1903) (by decide +kernel)
set_option maxRecDepth 100000 in
theorem in_X11_ring : Cond.initialized yX11_ring.cls ∈ lw_tbl := tb (i := 140) (by decide +kernel)
set_option maxRecDepth 100000 in
theorem im_X11_ring : Cond.instanceMethod yX11_ring ∈ lw_tbl ∧ Cond.selects yX11_ring.cls yX11_ring yX11_ring ∈ lw_tbl := ⟨tb (i := 1901) (by decide +kernel), tb (i := 1902) (by decide +kernel)⟩
set_option maxRecDepth 100000 in
theorem co_X11_says : Cond.code yX11_says cX11_says 5 (some .int) ∈ lw_tbl := tb (i := 1626) (by decide +kernel)
set_option maxRecDepth 100000 in
theorem in_X11_says : Cond.initialized yX11_says.cls ∈ lw_tbl := tb (i := 140) (by decide +kernel)
set_option maxRecDepth 100000 in
theorem im_X11_says : Cond.instanceMethod yX11_says ∈ lw_tbl ∧ Cond.selects yX11_says.cls yX11_says yX11_says ∈ lw_tbl := ⟨tb (i := 1625) (by decide +kernel), tb (i := 89) (by decide +kernel)⟩
set_option maxRecDepth 100000 in
theorem co_X11_see : Cond.code yX11_see cX11_see 2 (some .int) ∈ lw_tbl := tb (i := 1431) (by decide +kernel)
set_option maxRecDepth 100000 in
theorem in_X11_see : Cond.initialized yX11_see.cls ∈ lw_tbl := tb (i := 140) (by decide +kernel)
set_option maxRecDepth 100000 in
theorem im_X11_see : Cond.instanceMethod yX11_see ∈ lw_tbl ∧ Cond.selects yX11_see.cls yX11_see yX11_see ∈ lw_tbl := ⟨tb (i := 1430) (by decide +kernel), tb (i := 51) (by decide +kernel)⟩
set_option maxRecDepth 100000 in
theorem co_X11_sell : Cond.code yX11_sell cX11_sell 3 (some .int) ∈ lw_tbl := tb (i := 1686) (by decide +kernel)
set_option maxRecDepth 100000 in
theorem in_X11_sell : Cond.initialized yX11_sell.cls ∈ lw_tbl := tb (i := 140) (by decide +kernel)
set_option maxRecDepth 100000 in
theorem im_X11_sell : Cond.instanceMethod yX11_sell ∈ lw_tbl ∧ Cond.selects yX11_sell.cls yX11_sell yX11_sell ∈ lw_tbl := ⟨tb (i := 1684) (by decide +kernel), tb (i := 1685) (by decide +kernel)⟩
set_option maxRecDepth 100000 in
theorem co_X11_set : Cond.code yX11_set cX11_set 3 (some .boolean) ∈ lw_tbl := tb (i := 1408) (by decide +kernel)
set_option maxRecDepth 100000 in
theorem in_X11_set : Cond.initialized yX11_set.cls ∈ lw_tbl := tb (i := 140) (by decide +kernel)
set_option maxRecDepth 100000 in
theorem im_X11_set : Cond.instanceMethod yX11_set ∈ lw_tbl ∧ Cond.selects yX11_set.cls yX11_set yX11_set ∈ lw_tbl := ⟨tb (i := 1406) (by decide +kernel), tb (i := 1407) (by decide +kernel)⟩
set_option maxRecDepth 100000 in
theorem co_X11_spoilOf : Cond.code yX11_spoilOf cX11_spoilOf 2 (some .int) ∈ lw_tbl := tb (i := 1761) (by decide +kernel)
set_option maxRecDepth 100000 in
theorem in_X11_spoilOf : Cond.initialized yX11_spoilOf.cls ∈ lw_tbl := tb (i := 140) (by decide +kernel)
set_option maxRecDepth 100000 in
theorem im_X11_spoilOf : Cond.instanceMethod yX11_spoilOf ∈ lw_tbl ∧ Cond.selects yX11_spoilOf.cls yX11_spoilOf yX11_spoilOf ∈ lw_tbl := ⟨tb (i := 1760) (by decide +kernel), tb (i := 113) (by decide +kernel)⟩
set_option maxRecDepth 100000 in
theorem co_X11_spoils : Cond.code yX11_spoils cX11_spoils 2 none ∈ lw_tbl := tb (i := 1749) (by decide +kernel)
set_option maxRecDepth 100000 in
theorem in_X11_spoils : Cond.initialized yX11_spoils.cls ∈ lw_tbl := tb (i := 140) (by decide +kernel)
set_option maxRecDepth 100000 in
theorem im_X11_spoils : Cond.instanceMethod yX11_spoils ∈ lw_tbl ∧ Cond.selects yX11_spoils.cls yX11_spoils yX11_spoils ∈ lw_tbl := ⟨tb (i := 1748) (by decide +kernel), tb (i := 110) (by decide +kernel)⟩
set_option maxRecDepth 100000 in
theorem co_X11_stalls : Cond.code yX11_stalls cX11_stalls 5 (some .int) ∈ lw_tbl := tb (i := 1833) (by decide +kernel)
set_option maxRecDepth 100000 in
theorem in_X11_stalls : Cond.initialized yX11_stalls.cls ∈ lw_tbl := tb (i := 140) (by decide +kernel)
set_option maxRecDepth 100000 in
theorem im_X11_stalls : Cond.instanceMethod yX11_stalls ∈ lw_tbl ∧ Cond.selects yX11_stalls.cls yX11_stalls yX11_stalls ∈ lw_tbl := ⟨tb (i := 1831) (by decide +kernel), tb (i := 1832) (by decide +kernel)⟩
set_option maxRecDepth 100000 in
theorem co_X11_state : Cond.code yX11_state cX11_state 3 (some .int) ∈ lw_tbl := tb (i := 1400) (by decide +kernel)
set_option maxRecDepth 100000 in
theorem in_X11_state : Cond.initialized yX11_state.cls ∈ lw_tbl := tb (i := 140) (by decide +kernel)
set_option maxRecDepth 100000 in
theorem im_X11_state : Cond.instanceMethod yX11_state ∈ lw_tbl ∧ Cond.selects yX11_state.cls yX11_state yX11_state ∈ lw_tbl := ⟨tb (i := 1398) (by decide +kernel), tb (i := 1399) (by decide +kernel)⟩
set_option maxRecDepth 100000 in
theorem co_X11_sumOf : Cond.code yX11_sumOf cX11_sumOf 4 (some .int) ∈ lw_tbl := tb (i := 1714) (by decide +kernel)
set_option maxRecDepth 100000 in
theorem in_X11_sumOf : Cond.initialized yX11_sumOf.cls ∈ lw_tbl := tb (i := 140) (by decide +kernel)
set_option maxRecDepth 100000 in
theorem im_X11_sumOf : Cond.instanceMethod yX11_sumOf ∈ lw_tbl ∧ Cond.selects yX11_sumOf.cls yX11_sumOf yX11_sumOf ∈ lw_tbl := ⟨tb (i := 1713) (by decide +kernel), tb (i := 103) (by decide +kernel)⟩
set_option maxRecDepth 100000 in
theorem co_X11_sumUp : Cond.code yX11_sumUp cX11_sumUp 2 (some .boolean) ∈ lw_tbl := tb (i := 1506) (by decide +kernel)
set_option maxRecDepth 100000 in
theorem in_X11_sumUp : Cond.initialized yX11_sumUp.cls ∈ lw_tbl := tb (i := 140) (by decide +kernel)
set_option maxRecDepth 100000 in
theorem im_X11_sumUp : Cond.instanceMethod yX11_sumUp ∈ lw_tbl ∧ Cond.selects yX11_sumUp.cls yX11_sumUp yX11_sumUp ∈ lw_tbl := ⟨tb (i := 1505) (by decide +kernel), tb (i := 62) (by decide +kernel)⟩
set_option maxRecDepth 100000 in
theorem co_X11_takerAt : Cond.code yX11_takerAt cX11_takerAt 3 (some .int) ∈ lw_tbl := tb (i := 1892) (by decide +kernel)
set_option maxRecDepth 100000 in
theorem in_X11_takerAt : Cond.initialized yX11_takerAt.cls ∈ lw_tbl := tb (i := 140) (by decide +kernel)
set_option maxRecDepth 100000 in
theorem im_X11_takerAt : Cond.instanceMethod yX11_takerAt ∈ lw_tbl ∧ Cond.selects yX11_takerAt.cls yX11_takerAt yX11_takerAt ∈ lw_tbl := ⟨tb (i := 1891) (by decide +kernel), tb (i := 126) (by decide +kernel)⟩
set_option maxRecDepth 100000 in
theorem co_X11_test : Cond.code yX11_test cX11_test 3 (some .int) ∈ lw_tbl := tb (i := 1837) (by decide +kernel)
set_option maxRecDepth 100000 in
theorem in_X11_test : Cond.initialized yX11_test.cls ∈ lw_tbl := tb (i := 140) (by decide +kernel)
set_option maxRecDepth 100000 in
theorem im_X11_test : Cond.instanceMethod yX11_test ∈ lw_tbl ∧ Cond.selects yX11_test.cls yX11_test yX11_test ∈ lw_tbl := ⟨tb (i := 1835) (by decide +kernel), tb (i := 1836) (by decide +kernel)⟩
set_option maxRecDepth 100000 in
theorem co_X11_text : Cond.code yX11_text cX11_text 3 (some .int) ∈ lw_tbl := tb (i := 1423) (by decide +kernel)
set_option maxRecDepth 100000 in
theorem in_X11_text : Cond.initialized yX11_text.cls ∈ lw_tbl := tb (i := 140) (by decide +kernel)
set_option maxRecDepth 100000 in
theorem im_X11_text : Cond.instanceMethod yX11_text ∈ lw_tbl ∧ Cond.selects yX11_text.cls yX11_text yX11_text ∈ lw_tbl := ⟨tb (i := 1421) (by decide +kernel), tb (i := 1422) (by decide +kernel)⟩
set_option maxRecDepth 100000 in
theorem co_X11_told : Cond.code yX11_told cX11_told 5 (some .boolean) ∈ lw_tbl := tb (i := 1554) (by decide +kernel)
set_option maxRecDepth 100000 in
theorem in_X11_told : Cond.initialized yX11_told.cls ∈ lw_tbl := tb (i := 140) (by decide +kernel)
set_option maxRecDepth 100000 in
theorem im_X11_told : Cond.instanceMethod yX11_told ∈ lw_tbl ∧ Cond.selects yX11_told.cls yX11_told yX11_told ∈ lw_tbl := ⟨tb (i := 1553) (by decide +kernel), tb (i := 74) (by decide +kernel)⟩
set_option maxRecDepth 100000 in
theorem co_X11_trade : Cond.code yX11_trade cX11_trade 6 (some .int) ∈ lw_tbl := tb (i := 1896) (by decide +kernel)
set_option maxRecDepth 100000 in
theorem in_X11_trade : Cond.initialized yX11_trade.cls ∈ lw_tbl := tb (i := 140) (by decide +kernel)
set_option maxRecDepth 100000 in
theorem im_X11_trade : Cond.instanceMethod yX11_trade ∈ lw_tbl ∧ Cond.selects yX11_trade.cls yX11_trade yX11_trade ∈ lw_tbl := ⟨tb (i := 1894) (by decide +kernel), tb (i := 1895) (by decide +kernel)⟩
set_option maxRecDepth 100000 in
theorem co_X11_undo : Cond.code yX11_undo cX11_undo 2 (some .boolean) ∈ lw_tbl := tb (i := 1598) (by decide +kernel)
set_option maxRecDepth 100000 in
theorem in_X11_undo : Cond.initialized yX11_undo.cls ∈ lw_tbl := tb (i := 140) (by decide +kernel)
set_option maxRecDepth 100000 in
theorem im_X11_undo : Cond.instanceMethod yX11_undo ∈ lw_tbl ∧ Cond.selects yX11_undo.cls yX11_undo yX11_undo ∈ lw_tbl := ⟨tb (i := 1596) (by decide +kernel), tb (i := 1597) (by decide +kernel)⟩
set_option maxRecDepth 100000 in
theorem co_X11_unit : Cond.code yX11_unit cX11_unit 2 (some .boolean) ∈ lw_tbl := tb (i := 1514) (by decide +kernel)
set_option maxRecDepth 100000 in
theorem in_X11_unit : Cond.initialized yX11_unit.cls ∈ lw_tbl := tb (i := 140) (by decide +kernel)
set_option maxRecDepth 100000 in
theorem im_X11_unit : Cond.instanceMethod yX11_unit ∈ lw_tbl ∧ Cond.selects yX11_unit.cls yX11_unit yX11_unit ∈ lw_tbl := ⟨tb (i := 1513) (by decide +kernel), tb (i := 64) (by decide +kernel)⟩
set_option maxRecDepth 100000 in
theorem co_X11_waits : Cond.code yX11_waits cX11_waits 7 (some .int) ∈ lw_tbl := tb (i := 1880) (by decide +kernel)
set_option maxRecDepth 100000 in
theorem in_X11_waits : Cond.initialized yX11_waits.cls ∈ lw_tbl := tb (i := 140) (by decide +kernel)
set_option maxRecDepth 100000 in
theorem im_X11_waits : Cond.instanceMethod yX11_waits ∈ lw_tbl ∧ Cond.selects yX11_waits.cls yX11_waits yX11_waits ∈ lw_tbl := ⟨tb (i := 1878) (by decide +kernel), tb (i := 1879) (by decide +kernel)⟩
set_option maxRecDepth 100000 in
theorem co_X11_want : Cond.code yX11_want cX11_want 3 (some .int) ∈ lw_tbl := tb (i := 1791) (by decide +kernel)
set_option maxRecDepth 100000 in
theorem in_X11_want : Cond.initialized yX11_want.cls ∈ lw_tbl := tb (i := 140) (by decide +kernel)
set_option maxRecDepth 100000 in
theorem im_X11_want : Cond.instanceMethod yX11_want ∈ lw_tbl ∧ Cond.selects yX11_want.cls yX11_want yX11_want ∈ lw_tbl := ⟨tb (i := 1789) (by decide +kernel), tb (i := 1790) (by decide +kernel)⟩
set_option maxRecDepth 100000 in
theorem co_X11_wantWord : Cond.code yX11_wantWord cX11_wantWord 1 (some .int) ∈ lw_tbl := tb (i := 1483) (by decide +kernel)
set_option maxRecDepth 100000 in
theorem in_X11_wantWord : Cond.initialized yX11_wantWord.cls ∈ lw_tbl := tb (i := 140) (by decide +kernel)
set_option maxRecDepth 100000 in
theorem im_X11_wantWord : Cond.instanceMethod yX11_wantWord ∈ lw_tbl ∧ Cond.selects yX11_wantWord.cls yX11_wantWord yX11_wantWord ∈ lw_tbl := ⟨tb (i := 1482) (by decide +kernel), tb (i := 58) (by decide +kernel)⟩
set_option maxRecDepth 100000 in
theorem co_X11_wholeOf : Cond.code yX11_wholeOf cX11_wholeOf 2 (some .int) ∈ lw_tbl := tb (i := 1622) (by decide +kernel)
set_option maxRecDepth 100000 in
theorem in_X11_wholeOf : Cond.initialized yX11_wholeOf.cls ∈ lw_tbl := tb (i := 140) (by decide +kernel)
set_option maxRecDepth 100000 in
theorem im_X11_wholeOf : Cond.instanceMethod yX11_wholeOf ∈ lw_tbl ∧ Cond.selects yX11_wholeOf.cls yX11_wholeOf yX11_wholeOf ∈ lw_tbl := ⟨tb (i := 1621) (by decide +kernel), tb (i := 88) (by decide +kernel)⟩
set_option maxRecDepth 100000 in
theorem co_X11_word : Cond.code yX11_word cX11_word 1 (some .int) ∈ lw_tbl := tb (i := 1438) (by decide +kernel)
set_option maxRecDepth 100000 in
theorem in_X11_word : Cond.initialized yX11_word.cls ∈ lw_tbl := tb (i := 140) (by decide +kernel)
set_option maxRecDepth 100000 in
theorem im_X11_word : Cond.instanceMethod yX11_word ∈ lw_tbl ∧ Cond.selects yX11_word.cls yX11_word yX11_word ∈ lw_tbl := ⟨tb (i := 1437) (by decide +kernel), tb (i := 52) (by decide +kernel)⟩
set_option maxRecDepth 100000 in
theorem co_X1_addFalling : Cond.code yX1_addFalling cX1_addFalling 3 none ∈ lw_tbl := tb (i := 699) (by decide +kernel)
set_option maxRecDepth 100000 in
theorem in_X1_addFalling : Cond.initialized yX1_addFalling.cls ∈ lw_tbl := tb (i := 133) (by decide +kernel)
set_option maxRecDepth 100000 in
theorem im_X1_addFalling : Cond.instanceMethod yX1_addFalling ∈ lw_tbl ∧ Cond.selects yX1_addFalling.cls yX1_addFalling yX1_addFalling ∈ lw_tbl := ⟨tb (i := 698) (by decide +kernel), tb (i := 7) (by decide +kernel)⟩
set_option maxRecDepth 100000 in
theorem co_X1_bestAlone : Cond.code yX1_bestAlone cX1_bestAlone 5 (some .int) ∈ lw_tbl := tb (i := 703) (by decide +kernel)
set_option maxRecDepth 100000 in
theorem in_X1_bestAlone : Cond.initialized yX1_bestAlone.cls ∈ lw_tbl := tb (i := 133) (by decide +kernel)
set_option maxRecDepth 100000 in
theorem im_X1_bestAlone : Cond.instanceMethod yX1_bestAlone ∈ lw_tbl ∧ Cond.selects yX1_bestAlone.cls yX1_bestAlone yX1_bestAlone ∈ lw_tbl := ⟨tb (i := 702) (by decide +kernel), tb (i := 8) (by decide +kernel)⟩
set_option maxRecDepth 100000 in
theorem co_X1_fewest : Cond.code yX1_fewest cX1_fewest 6 (some .int) ∈ lw_tbl := tb (i := 690) (by decide +kernel)
set_option maxRecDepth 100000 in
theorem in_X1_fewest : Cond.initialized yX1_fewest.cls ∈ lw_tbl := tb (i := 133) (by decide +kernel)
set_option maxRecDepth 100000 in
theorem im_X1_fewest : Cond.instanceMethod yX1_fewest ∈ lw_tbl ∧ Cond.selects yX1_fewest.cls yX1_fewest yX1_fewest ∈ lw_tbl := ⟨tb (i := 688) (by decide +kernel), tb (i := 689) (by decide +kernel)⟩
set_option maxRecDepth 100000 in
theorem co_X1_fewestReaching : Cond.code yX1_fewestReaching cX1_fewestReaching 3 (some .int) ∈ lw_tbl := tb (i := 708) (by decide +kernel)
set_option maxRecDepth 100000 in
theorem in_X1_fewestReaching : Cond.initialized yX1_fewestReaching.cls ∈ lw_tbl := tb (i := 133) (by decide +kernel)
set_option maxRecDepth 100000 in
theorem im_X1_fewestReaching : Cond.instanceMethod yX1_fewestReaching ∈ lw_tbl ∧ Cond.selects yX1_fewestReaching.cls yX1_fewestReaching yX1_fewestReaching ∈ lw_tbl := ⟨tb (i := 707) (by decide +kernel), tb (i := 9) (by decide +kernel)⟩
set_option maxRecDepth 100000 in
theorem co_X1_gather : Cond.code yX1_gather cX1_gather 4 none ∈ lw_tbl := tb (i := 694) (by decide +kernel)
set_option maxRecDepth 100000 in
theorem in_X1_gather : Cond.initialized yX1_gather.cls ∈ lw_tbl := tb (i := 133) (by decide +kernel)
set_option maxRecDepth 100000 in
theorem im_X1_gather : Cond.instanceMethod yX1_gather ∈ lw_tbl ∧ Cond.selects yX1_gather.cls yX1_gather yX1_gather ∈ lw_tbl := ⟨tb (i := 693) (by decide +kernel), tb (i := 6) (by decide +kernel)⟩
set_option maxRecDepth 100000 in
theorem co_X1_init : Cond.code yX1_init cX1_init 1 none ∈ lw_tbl := tb (i := 229) (by decide +kernel)
set_option maxRecDepth 100000 in
theorem in_X1_init : Cond.initialized yX1_init.cls ∈ lw_tbl := tb (i := 133) (by decide +kernel)
set_option maxRecDepth 100000 in
theorem co_X1_search : Cond.code yX1_search cX1_search 5 none ∈ lw_tbl := tb (i := 712) (by decide +kernel)
set_option maxRecDepth 100000 in
theorem in_X1_search : Cond.initialized yX1_search.cls ∈ lw_tbl := tb (i := 133) (by decide +kernel)
set_option maxRecDepth 100000 in
theorem im_X1_search : Cond.instanceMethod yX1_search ∈ lw_tbl ∧ Cond.selects yX1_search.cls yX1_search yX1_search ∈ lw_tbl := ⟨tb (i := 711) (by decide +kernel), tb (i := 10) (by decide +kernel)⟩
set_option maxRecDepth 100000 in
theorem co_X2_addStep : Cond.code yX2_addStep cX2_addStep 3 none ∈ lw_tbl := tb (i := 925) (by decide +kernel)
set_option maxRecDepth 100000 in
theorem in_X2_addStep : Cond.initialized yX2_addStep.cls ∈ lw_tbl := tb (i := 132) (by decide +kernel)
set_option maxRecDepth 100000 in
theorem im_X2_addStep : Cond.instanceMethod yX2_addStep ∈ lw_tbl ∧ Cond.selects yX2_addStep.cls yX2_addStep yX2_addStep ∈ lw_tbl := ⟨tb (i := 923) (by decide +kernel), tb (i := 924) (by decide +kernel)⟩
set_option maxRecDepth 100000 in
theorem co_X2_beginLine : Cond.code yX2_beginLine cX2_beginLine 2 none ∈ lw_tbl := tb (i := 908) (by decide +kernel)
set_option maxRecDepth 100000 in
theorem in_X2_beginLine : Cond.initialized yX2_beginLine.cls ∈ lw_tbl := tb (i := 132) (by decide +kernel)
set_option maxRecDepth 100000 in
theorem im_X2_beginLine : Cond.instanceMethod yX2_beginLine ∈ lw_tbl ∧ Cond.selects yX2_beginLine.cls yX2_beginLine yX2_beginLine ∈ lw_tbl := ⟨tb (i := 906) (by decide +kernel), tb (i := 907) (by decide +kernel)⟩
set_option maxRecDepth 100000 in
theorem co_X2_beginWhen : Cond.code yX2_beginWhen cX2_beginWhen 1 none ∈ lw_tbl := tb (i := 936) (by decide +kernel)
set_option maxRecDepth 100000 in
theorem in_X2_beginWhen : Cond.initialized yX2_beginWhen.cls ∈ lw_tbl := tb (i := 132) (by decide +kernel)
set_option maxRecDepth 100000 in
theorem im_X2_beginWhen : Cond.instanceMethod yX2_beginWhen ∈ lw_tbl ∧ Cond.selects yX2_beginWhen.cls yX2_beginWhen yX2_beginWhen ∈ lw_tbl := ⟨tb (i := 934) (by decide +kernel), tb (i := 935) (by decide +kernel)⟩
set_option maxRecDepth 100000 in
theorem co_X2_closeLine : Cond.code yX2_closeLine cX2_closeLine 1 none ∈ lw_tbl := tb (i := 954) (by decide +kernel)
set_option maxRecDepth 100000 in
theorem in_X2_closeLine : Cond.initialized yX2_closeLine.cls ∈ lw_tbl := tb (i := 132) (by decide +kernel)
set_option maxRecDepth 100000 in
theorem im_X2_closeLine : Cond.instanceMethod yX2_closeLine ∈ lw_tbl ∧ Cond.selects yX2_closeLine.cls yX2_closeLine yX2_closeLine ∈ lw_tbl := ⟨tb (i := 952) (by decide +kernel), tb (i := 953) (by decide +kernel)⟩
set_option maxRecDepth 100000 in
theorem co_X2_copyFrom : Cond.code yX2_copyFrom cX2_copyFrom 2 none ∈ lw_tbl := tb (i := 958) (by decide +kernel)
set_option maxRecDepth 100000 in
theorem in_X2_copyFrom : Cond.initialized yX2_copyFrom.cls ∈ lw_tbl := tb (i := 132) (by decide +kernel)
set_option maxRecDepth 100000 in
theorem im_X2_copyFrom : Cond.instanceMethod yX2_copyFrom ∈ lw_tbl ∧ Cond.selects yX2_copyFrom.cls yX2_copyFrom yX2_copyFrom ∈ lw_tbl := ⟨tb (i := 956) (by decide +kernel), tb (i := 957) (by decide +kernel)⟩
set_option maxRecDepth 100000 in
theorem co_X2_empty : Cond.code yX2_empty cX2_empty 1 none ∈ lw_tbl := tb (i := 878) (by decide +kernel)
set_option maxRecDepth 100000 in
theorem in_X2_empty : Cond.initialized yX2_empty.cls ∈ lw_tbl := tb (i := 132) (by decide +kernel)
set_option maxRecDepth 100000 in
theorem im_X2_empty : Cond.instanceMethod yX2_empty ∈ lw_tbl ∧ Cond.selects yX2_empty.cls yX2_empty yX2_empty ∈ lw_tbl := ⟨tb (i := 876) (by decide +kernel), tb (i := 877) (by decide +kernel)⟩
set_option maxRecDepth 100000 in
theorem co_X2_init : Cond.code yX2_init cX2_init 1 none ∈ lw_tbl := tb (i := 193) (by decide +kernel)
set_option maxRecDepth 100000 in
theorem in_X2_init : Cond.initialized yX2_init.cls ∈ lw_tbl := tb (i := 132) (by decide +kernel)
set_option maxRecDepth 100000 in
theorem co_X2_isFull : Cond.code yX2_isFull cX2_isFull 1 (some .boolean) ∈ lw_tbl := tb (i := 900) (by decide +kernel)
set_option maxRecDepth 100000 in
theorem in_X2_isFull : Cond.initialized yX2_isFull.cls ∈ lw_tbl := tb (i := 132) (by decide +kernel)
set_option maxRecDepth 100000 in
theorem im_X2_isFull : Cond.instanceMethod yX2_isFull ∈ lw_tbl ∧ Cond.selects yX2_isFull.cls yX2_isFull yX2_isFull ∈ lw_tbl := ⟨tb (i := 898) (by decide +kernel), tb (i := 899) (by decide +kernel)⟩
set_option maxRecDepth 100000 in
theorem co_X2_ofTwo : Cond.code yX2_ofTwo cX2_ofTwo 3 (some .int) ∈ lw_tbl := tb (i := 585) (by decide +kernel)
set_option maxRecDepth 100000 in
theorem in_X2_ofTwo : Cond.initialized yX2_ofTwo.cls ∈ lw_tbl := tb (i := 132) (by decide +kernel)
set_option maxRecDepth 100000 in
theorem sm_X2_ofTwo : Cond.static yX2_ofTwo ∈ lw_tbl := tb (i := 584) (by decide +kernel)
set_option maxRecDepth 100000 in
theorem co_X2_tells : Cond.code yX2_tells cX2_tells 6 (some .int) ∈ lw_tbl := tb (i := 575) (by decide +kernel)
set_option maxRecDepth 100000 in
theorem in_X2_tells : Cond.initialized yX2_tells.cls ∈ lw_tbl := tb (i := 132) (by decide +kernel)
set_option maxRecDepth 100000 in
theorem im_X2_tells : Cond.instanceMethod yX2_tells ∈ lw_tbl ∧ Cond.selects yX2_tells.cls yX2_tells yX2_tells ∈ lw_tbl := ⟨tb (i := 573) (by decide +kernel), tb (i := 574) (by decide +kernel)⟩
set_option maxRecDepth 100000 in
theorem co_X2_worked : Cond.code yX2_worked cX2_worked 8 (some .int) ∈ lw_tbl := tb (i := 579) (by decide +kernel)
set_option maxRecDepth 100000 in
theorem in_X2_worked : Cond.initialized yX2_worked.cls ∈ lw_tbl := tb (i := 132) (by decide +kernel)
set_option maxRecDepth 100000 in
theorem im_X2_worked : Cond.instanceMethod yX2_worked ∈ lw_tbl ∧ Cond.selects yX2_worked.cls yX2_worked yX2_worked ∈ lw_tbl := ⟨tb (i := 578) (by decide +kernel), tb (i := 2) (by decide +kernel)⟩
set_option maxRecDepth 100000 in
theorem co_X3_addWaiting : Cond.code yX3_addWaiting cX3_addWaiting 2 none ∈ lw_tbl := tb (i := 932) (by decide +kernel)
set_option maxRecDepth 100000 in
theorem in_X3_addWaiting : Cond.initialized yX3_addWaiting.cls ∈ lw_tbl := tb (i := 138) (by decide +kernel)
set_option maxRecDepth 100000 in
theorem im_X3_addWaiting : Cond.instanceMethod yX3_addWaiting ∈ lw_tbl ∧ Cond.selects yX3_addWaiting.cls yX3_addWaiting yX3_addWaiting ∈ lw_tbl := ⟨tb (i := 931) (by decide +kernel), tb (i := 27) (by decide +kernel)⟩
set_option maxRecDepth 100000 in
theorem co_X3_init : Cond.code yX3_init cX3_init 2 none ∈ lw_tbl := tb (i := 433) (by decide +kernel)
set_option maxRecDepth 100000 in
theorem in_X3_init : Cond.initialized yX3_init.cls ∈ lw_tbl := tb (i := 138) (by decide +kernel)
set_option maxRecDepth 100000 in
theorem co_X3_isReckoning : Cond.code yX3_isReckoning cX3_isReckoning 1 (some .boolean) ∈ lw_tbl := tb (i := 928) (by decide +kernel)
set_option maxRecDepth 100000 in
theorem in_X3_isReckoning : Cond.initialized yX3_isReckoning.cls ∈ lw_tbl := tb (i := 138) (by decide +kernel)
set_option maxRecDepth 100000 in
theorem sm_X3_isReckoning : Cond.static yX3_isReckoning ∈ lw_tbl := tb (i := 927) (by decide +kernel)
set_option maxRecDepth 100000 in
theorem co_X3_readCondition : Cond.code yX3_readCondition cX3_readCondition 5 (some .boolean) ∈ lw_tbl := tb (i := 944) (by decide +kernel)
set_option maxRecDepth 100000 in
theorem in_X3_readCondition : Cond.initialized yX3_readCondition.cls ∈ lw_tbl := tb (i := 138) (by decide +kernel)
set_option maxRecDepth 100000 in
theorem im_X3_readCondition : Cond.instanceMethod yX3_readCondition ∈ lw_tbl ∧ Cond.selects yX3_readCondition.cls yX3_readCondition yX3_readCondition ∈ lw_tbl := ⟨tb (i := 943) (by decide +kernel), tb (i := 29) (by decide +kernel)⟩
set_option maxRecDepth 100000 in
theorem co_X3_readEither : Cond.code yX3_readEither cX3_readEither 5 (some .boolean) ∈ lw_tbl := tb (i := 940) (by decide +kernel)
set_option maxRecDepth 100000 in
theorem in_X3_readEither : Cond.initialized yX3_readEither.cls ∈ lw_tbl := tb (i := 138) (by decide +kernel)
set_option maxRecDepth 100000 in
theorem im_X3_readEither : Cond.instanceMethod yX3_readEither ∈ lw_tbl ∧ Cond.selects yX3_readEither.cls yX3_readEither yX3_readEither ∈ lw_tbl := ⟨tb (i := 939) (by decide +kernel), tb (i := 28) (by decide +kernel)⟩
set_option maxRecDepth 100000 in
theorem co_X3_readLine : Cond.code yX3_readLine cX3_readLine 2 (some .boolean) ∈ lw_tbl := tb (i := 890) (by decide +kernel)
set_option maxRecDepth 100000 in
theorem in_X3_readLine : Cond.initialized yX3_readLine.cls ∈ lw_tbl := tb (i := 138) (by decide +kernel)
set_option maxRecDepth 100000 in
theorem im_X3_readLine : Cond.instanceMethod yX3_readLine ∈ lw_tbl ∧ Cond.selects yX3_readLine.cls yX3_readLine yX3_readLine ∈ lw_tbl := ⟨tb (i := 889) (by decide +kernel), tb (i := 24) (by decide +kernel)⟩
set_option maxRecDepth 100000 in
theorem co_X3_readSum : Cond.code yX3_readSum cX3_readSum 5 (some .boolean) ∈ lw_tbl := tb (i := 913) (by decide +kernel)
set_option maxRecDepth 100000 in
theorem in_X3_readSum : Cond.initialized yX3_readSum.cls ∈ lw_tbl := tb (i := 138) (by decide +kernel)
set_option maxRecDepth 100000 in
theorem im_X3_readSum : Cond.instanceMethod yX3_readSum ∈ lw_tbl ∧ Cond.selects yX3_readSum.cls yX3_readSum yX3_readSum ∈ lw_tbl := ⟨tb (i := 912) (by decide +kernel), tb (i := 25) (by decide +kernel)⟩
set_option maxRecDepth 100000 in
theorem co_X3_readUnit : Cond.code yX3_readUnit cX3_readUnit 4 (some .boolean) ∈ lw_tbl := tb (i := 917) (by decide +kernel)
set_option maxRecDepth 100000 in
theorem in_X3_readUnit : Cond.initialized yX3_readUnit.cls ∈ lw_tbl := tb (i := 138) (by decide +kernel)
set_option maxRecDepth 100000 in
theorem im_X3_readUnit : Cond.instanceMethod yX3_readUnit ∈ lw_tbl ∧ Cond.selects yX3_readUnit.cls yX3_readUnit yX3_readUnit ∈ lw_tbl := ⟨tb (i := 916) (by decide +kernel), tb (i := 26) (by decide +kernel)⟩
set_option maxRecDepth 100000 in
theorem co_X3_tell : Cond.code yX3_tell cX3_tell 3 (some .int) ∈ lw_tbl := tb (i := 874) (by decide +kernel)
set_option maxRecDepth 100000 in
theorem in_X3_tell : Cond.initialized yX3_tell.cls ∈ lw_tbl := tb (i := 138) (by decide +kernel)
set_option maxRecDepth 100000 in
theorem im_X3_tell : Cond.instanceMethod yX3_tell ∈ lw_tbl ∧ Cond.selects yX3_tell.cls yX3_tell yX3_tell ∈ lw_tbl := ⟨tb (i := 872) (by decide +kernel), tb (i := 873) (by decide +kernel)⟩
set_option maxRecDepth 100000 in
theorem co_X4_begins : Cond.code yX4_begins cX4_begins 3 (some .boolean) ∈ lw_tbl := tb (i := 984) (by decide +kernel)
set_option maxRecDepth 100000 in
theorem in_X4_begins : Cond.initialized yX4_begins.cls ∈ lw_tbl := tb (i := 137) (by decide +kernel)
set_option maxRecDepth 100000 in
theorem im_X4_begins : Cond.instanceMethod yX4_begins ∈ lw_tbl ∧ Cond.selects yX4_begins.cls yX4_begins yX4_begins ∈ lw_tbl := ⟨tb (i := 983) (by decide +kernel), tb (i := 32) (by decide +kernel)⟩
set_option maxRecDepth 100000 in
theorem co_X4_init : Cond.code yX4_init cX4_init 2 none ∈ lw_tbl := tb (i := 423) (by decide +kernel)
set_option maxRecDepth 100000 in
theorem in_X4_init : Cond.initialized yX4_init.cls ∈ lw_tbl := tb (i := 137) (by decide +kernel)
set_option maxRecDepth 100000 in
theorem co_X4_read : Cond.code yX4_read cX4_read 5 (some .boolean) ∈ lw_tbl := tb (i := 967) (by decide +kernel)
set_option maxRecDepth 100000 in
theorem in_X4_read : Cond.initialized yX4_read.cls ∈ lw_tbl := tb (i := 137) (by decide +kernel)
set_option maxRecDepth 100000 in
theorem im_X4_read : Cond.instanceMethod yX4_read ∈ lw_tbl ∧ Cond.selects yX4_read.cls yX4_read yX4_read ∈ lw_tbl := ⟨tb (i := 965) (by decide +kernel), tb (i := 966) (by decide +kernel)⟩
set_option maxRecDepth 100000 in
theorem co_X4_readDish : Cond.code yX4_readDish cX4_readDish 3 (some .boolean) ∈ lw_tbl := tb (i := 1008) (by decide +kernel)
set_option maxRecDepth 100000 in
theorem in_X4_readDish : Cond.initialized yX4_readDish.cls ∈ lw_tbl := tb (i := 137) (by decide +kernel)
set_option maxRecDepth 100000 in
theorem im_X4_readDish : Cond.instanceMethod yX4_readDish ∈ lw_tbl ∧ Cond.selects yX4_readDish.cls yX4_readDish yX4_readDish ∈ lw_tbl := ⟨tb (i := 1007) (by decide +kernel), tb (i := 36) (by decide +kernel)⟩
set_option maxRecDepth 100000 in
theorem co_X4_readFeast : Cond.code yX4_readFeast cX4_readFeast 3 (some .boolean) ∈ lw_tbl := tb (i := 1000) (by decide +kernel)
set_option maxRecDepth 100000 in
theorem in_X4_readFeast : Cond.initialized yX4_readFeast.cls ∈ lw_tbl := tb (i := 137) (by decide +kernel)
set_option maxRecDepth 100000 in
theorem im_X4_readFeast : Cond.instanceMethod yX4_readFeast ∈ lw_tbl ∧ Cond.selects yX4_readFeast.cls yX4_readFeast yX4_readFeast ∈ lw_tbl := ⟨tb (i := 999) (by decide +kernel), tb (i := 34) (by decide +kernel)⟩
set_option maxRecDepth 100000 in
theorem co_X4_readKind : Cond.code yX4_readKind cX4_readKind 2 (some .boolean) ∈ lw_tbl := tb (i := 980) (by decide +kernel)
set_option maxRecDepth 100000 in
theorem in_X4_readKind : Cond.initialized yX4_readKind.cls ∈ lw_tbl := tb (i := 137) (by decide +kernel)
set_option maxRecDepth 100000 in
theorem im_X4_readKind : Cond.instanceMethod yX4_readKind ∈ lw_tbl ∧ Cond.selects yX4_readKind.cls yX4_readKind yX4_readKind ∈ lw_tbl := ⟨tb (i := 979) (by decide +kernel), tb (i := 31) (by decide +kernel)⟩
set_option maxRecDepth 100000 in
theorem co_X4_readLine : Cond.code yX4_readLine cX4_readLine 4 (some .boolean) ∈ lw_tbl := tb (i := 976) (by decide +kernel)
set_option maxRecDepth 100000 in
theorem in_X4_readLine : Cond.initialized yX4_readLine.cls ∈ lw_tbl := tb (i := 137) (by decide +kernel)
set_option maxRecDepth 100000 in
theorem im_X4_readLine : Cond.instanceMethod yX4_readLine ∈ lw_tbl ∧ Cond.selects yX4_readLine.cls yX4_readLine yX4_readLine ∈ lw_tbl := ⟨tb (i := 975) (by decide +kernel), tb (i := 30) (by decide +kernel)⟩
set_option maxRecDepth 100000 in
theorem co_X4_readParts : Cond.code yX4_readParts cX4_readParts 6 (some .boolean) ∈ lw_tbl := tb (i := 1012) (by decide +kernel)
set_option maxRecDepth 100000 in
theorem in_X4_readParts : Cond.initialized yX4_readParts.cls ∈ lw_tbl := tb (i := 137) (by decide +kernel)
set_option maxRecDepth 100000 in
theorem im_X4_readParts : Cond.instanceMethod yX4_readParts ∈ lw_tbl ∧ Cond.selects yX4_readParts.cls yX4_readParts yX4_readParts ∈ lw_tbl := ⟨tb (i := 1011) (by decide +kernel), tb (i := 37) (by decide +kernel)⟩
set_option maxRecDepth 100000 in
theorem co_X4_readWant : Cond.code yX4_readWant cX4_readWant 3 (some .boolean) ∈ lw_tbl := tb (i := 1004) (by decide +kernel)
set_option maxRecDepth 100000 in
theorem in_X4_readWant : Cond.initialized yX4_readWant.cls ∈ lw_tbl := tb (i := 137) (by decide +kernel)
set_option maxRecDepth 100000 in
theorem im_X4_readWant : Cond.instanceMethod yX4_readWant ∈ lw_tbl ∧ Cond.selects yX4_readWant.cls yX4_readWant yX4_readWant ∈ lw_tbl := ⟨tb (i := 1003) (by decide +kernel), tb (i := 35) (by decide +kernel)⟩
set_option maxRecDepth 100000 in
theorem co_X4_takesNumber : Cond.code yX4_takesNumber cX4_takesNumber 5 (some .boolean) ∈ lw_tbl := tb (i := 992) (by decide +kernel)
set_option maxRecDepth 100000 in
theorem in_X4_takesNumber : Cond.initialized yX4_takesNumber.cls ∈ lw_tbl := tb (i := 137) (by decide +kernel)
set_option maxRecDepth 100000 in
theorem im_X4_takesNumber : Cond.instanceMethod yX4_takesNumber ∈ lw_tbl ∧ Cond.selects yX4_takesNumber.cls yX4_takesNumber yX4_takesNumber ∈ lw_tbl := ⟨tb (i := 991) (by decide +kernel), tb (i := 33) (by decide +kernel)⟩
set_option maxRecDepth 100000 in
theorem co_X5_boltWorth : Cond.code yX5_boltWorth cX5_boltWorth 2 (some .int) ∈ lw_tbl := tb (i := 1118) (by decide +kernel)
set_option maxRecDepth 100000 in
theorem in_X5_boltWorth : Cond.initialized yX5_boltWorth.cls ∈ lw_tbl := tb (i := 134) (by decide +kernel)
set_option maxRecDepth 100000 in
theorem im_X5_boltWorth : Cond.instanceMethod yX5_boltWorth ∈ lw_tbl ∧ Cond.selects yX5_boltWorth.cls yX5_boltWorth yX5_boltWorth ∈ lw_tbl := ⟨tb (i := 1116) (by decide +kernel), tb (i := 1117) (by decide +kernel)⟩
set_option maxRecDepth 100000 in
theorem co_X5_copyFrom : Cond.code yX5_copyFrom cX5_copyFrom 2 none ∈ lw_tbl := tb (i := 1289) (by decide +kernel)
set_option maxRecDepth 100000 in
theorem in_X5_copyFrom : Cond.initialized yX5_copyFrom.cls ∈ lw_tbl := tb (i := 134) (by decide +kernel)
set_option maxRecDepth 100000 in
theorem im_X5_copyFrom : Cond.instanceMethod yX5_copyFrom ∈ lw_tbl ∧ Cond.selects yX5_copyFrom.cls yX5_copyFrom yX5_copyFrom ∈ lw_tbl := ⟨tb (i := 1287) (by decide +kernel), tb (i := 1288) (by decide +kernel)⟩
set_option maxRecDepth 100000 in
theorem co_X5_fewestTradesBack : Cond.code yX5_fewestTradesBack cX5_fewestTradesBack 6 (some .int) ∈ lw_tbl := tb (i := 1256) (by decide +kernel)
set_option maxRecDepth 100000 in
theorem in_X5_fewestTradesBack : Cond.initialized yX5_fewestTradesBack.cls ∈ lw_tbl := tb (i := 134) (by decide +kernel)
set_option maxRecDepth 100000 in
theorem im_X5_fewestTradesBack : Cond.instanceMethod yX5_fewestTradesBack ∈ lw_tbl ∧ Cond.selects yX5_fewestTradesBack.cls yX5_fewestTradesBack yX5_fewestTradesBack ∈ lw_tbl := ⟨tb (i := 1254) (by decide +kernel), tb (i := 1255) (by decide +kernel)⟩
set_option maxRecDepth 100000 in
theorem co_X5_fewestTradesTo : Cond.code yX5_fewestTradesTo cX5_fewestTradesTo 5 (some .int) ∈ lw_tbl := tb (i := 1244) (by decide +kernel)
set_option maxRecDepth 100000 in
theorem in_X5_fewestTradesTo : Cond.initialized yX5_fewestTradesTo.cls ∈ lw_tbl := tb (i := 134) (by decide +kernel)
set_option maxRecDepth 100000 in
theorem im_X5_fewestTradesTo : Cond.instanceMethod yX5_fewestTradesTo ∈ lw_tbl ∧ Cond.selects yX5_fewestTradesTo.cls yX5_fewestTradesTo yX5_fewestTradesTo ∈ lw_tbl := ⟨tb (i := 1242) (by decide +kernel), tb (i := 1243) (by decide +kernel)⟩
set_option maxRecDepth 100000 in
theorem co_X5_firstLimitAtLeast : Cond.code yX5_firstLimitAtLeast cX5_firstLimitAtLeast 3 (some .int) ∈ lw_tbl := tb (i := 1228) (by decide +kernel)
set_option maxRecDepth 100000 in
theorem in_X5_firstLimitAtLeast : Cond.initialized yX5_firstLimitAtLeast.cls ∈ lw_tbl := tb (i := 134) (by decide +kernel)
set_option maxRecDepth 100000 in
theorem im_X5_firstLimitAtLeast : Cond.instanceMethod yX5_firstLimitAtLeast ∈ lw_tbl ∧ Cond.selects yX5_firstLimitAtLeast.cls yX5_firstLimitAtLeast yX5_firstLimitAtLeast ∈ lw_tbl := ⟨tb (i := 1226) (by decide +kernel), tb (i := 1227) (by decide +kernel)⟩
set_option maxRecDepth 100000 in
theorem co_X5_gains : Cond.code yX5_gains cX5_gains 5 (some .boolean) ∈ lw_tbl := tb (i := 1261) (by decide +kernel)
set_option maxRecDepth 100000 in
theorem in_X5_gains : Cond.initialized yX5_gains.cls ∈ lw_tbl := tb (i := 134) (by decide +kernel)
set_option maxRecDepth 100000 in
theorem im_X5_gains : Cond.instanceMethod yX5_gains ∈ lw_tbl ∧ Cond.selects yX5_gains.cls yX5_gains yX5_gains ∈ lw_tbl := ⟨tb (i := 1260) (by decide +kernel), tb (i := 46) (by decide +kernel)⟩
set_option maxRecDepth 100000 in
theorem co_X5_init : Cond.code yX5_init cX5_init 1 none ∈ lw_tbl := tb (i := 329) (by decide +kernel)
set_option maxRecDepth 100000 in
theorem in_X5_init : Cond.initialized yX5_init.cls ∈ lw_tbl := tb (i := 134) (by decide +kernel)
set_option maxRecDepth 100000 in
theorem co_X5_kindsBehind : Cond.code yX5_kindsBehind cX5_kindsBehind 4 (some .int) ∈ lw_tbl := tb (i := 1248) (by decide +kernel)
set_option maxRecDepth 100000 in
theorem in_X5_kindsBehind : Cond.initialized yX5_kindsBehind.cls ∈ lw_tbl := tb (i := 134) (by decide +kernel)
set_option maxRecDepth 100000 in
theorem im_X5_kindsBehind : Cond.instanceMethod yX5_kindsBehind ∈ lw_tbl ∧ Cond.selects yX5_kindsBehind.cls yX5_kindsBehind yX5_kindsBehind ∈ lw_tbl := ⟨tb (i := 1247) (by decide +kernel), tb (i := 45) (by decide +kernel)⟩
set_option maxRecDepth 100000 in
theorem co_X5_oddsBehind : Cond.code yX5_oddsBehind cX5_oddsBehind 6 (some .long) ∈ lw_tbl := tb (i := 1155) (by decide +kernel)
set_option maxRecDepth 100000 in
theorem in_X5_oddsBehind : Cond.initialized yX5_oddsBehind.cls ∈ lw_tbl := tb (i := 134) (by decide +kernel)
set_option maxRecDepth 100000 in
theorem sm_X5_oddsBehind : Cond.static yX5_oddsBehind ∈ lw_tbl := tb (i := 1154) (by decide +kernel)
set_option maxRecDepth 100000 in
theorem co_X5_oddsForged : Cond.code yX5_oddsForged cX5_oddsForged 7 (some .int) ∈ lw_tbl := tb (i := 1150) (by decide +kernel)
set_option maxRecDepth 100000 in
theorem in_X5_oddsForged : Cond.initialized yX5_oddsForged.cls ∈ lw_tbl := tb (i := 134) (by decide +kernel)
set_option maxRecDepth 100000 in
theorem im_X5_oddsForged : Cond.instanceMethod yX5_oddsForged ∈ lw_tbl ∧ Cond.selects yX5_oddsForged.cls yX5_oddsForged yX5_oddsForged ∈ lw_tbl := ⟨tb (i := 1148) (by decide +kernel), tb (i := 1149) (by decide +kernel)⟩
set_option maxRecDepth 100000 in
theorem co_X5_piecesInBolt : Cond.code yX5_piecesInBolt cX5_piecesInBolt 6 (some .int) ∈ lw_tbl := tb (i := 1122) (by decide +kernel)
set_option maxRecDepth 100000 in
theorem in_X5_piecesInBolt : Cond.initialized yX5_piecesInBolt.cls ∈ lw_tbl := tb (i := 134) (by decide +kernel)
set_option maxRecDepth 100000 in
theorem im_X5_piecesInBolt : Cond.instanceMethod yX5_piecesInBolt ∈ lw_tbl ∧ Cond.selects yX5_piecesInBolt.cls yX5_piecesInBolt yX5_piecesInBolt ∈ lw_tbl := ⟨tb (i := 1120) (by decide +kernel), tb (i := 1121) (by decide +kernel)⟩
set_option maxRecDepth 100000 in
theorem co_X5_priceTaken : Cond.code yX5_priceTaken cX5_priceTaken 4 (some .int) ∈ lw_tbl := tb (i := 1224) (by decide +kernel)
set_option maxRecDepth 100000 in
theorem in_X5_priceTaken : Cond.initialized yX5_priceTaken.cls ∈ lw_tbl := tb (i := 134) (by decide +kernel)
set_option maxRecDepth 100000 in
theorem im_X5_priceTaken : Cond.instanceMethod yX5_priceTaken ∈ lw_tbl ∧ Cond.selects yX5_priceTaken.cls yX5_priceTaken yX5_priceTaken ∈ lw_tbl := ⟨tb (i := 1222) (by decide +kernel), tb (i := 1223) (by decide +kernel)⟩
set_option maxRecDepth 100000 in
theorem co_X5_testToLookAt : Cond.code yX5_testToLookAt cX5_testToLookAt 6 (some .int) ∈ lw_tbl := tb (i := 1164) (by decide +kernel)
set_option maxRecDepth 100000 in
theorem in_X5_testToLookAt : Cond.initialized yX5_testToLookAt.cls ∈ lw_tbl := tb (i := 134) (by decide +kernel)
set_option maxRecDepth 100000 in
theorem im_X5_testToLookAt : Cond.instanceMethod yX5_testToLookAt ∈ lw_tbl ∧ Cond.selects yX5_testToLookAt.cls yX5_testToLookAt yX5_testToLookAt ∈ lw_tbl := ⟨tb (i := 1162) (by decide +kernel), tb (i := 1163) (by decide +kernel)⟩
set_option maxRecDepth 100000 in
theorem co_X5_walkOn : Cond.code yX5_walkOn cX5_walkOn 6 none ∈ lw_tbl := tb (i := 1265) (by decide +kernel)
set_option maxRecDepth 100000 in
theorem in_X5_walkOn : Cond.initialized yX5_walkOn.cls ∈ lw_tbl := tb (i := 134) (by decide +kernel)
set_option maxRecDepth 100000 in
theorem im_X5_walkOn : Cond.instanceMethod yX5_walkOn ∈ lw_tbl ∧ Cond.selects yX5_walkOn.cls yX5_walkOn yX5_walkOn ∈ lw_tbl := ⟨tb (i := 1264) (by decide +kernel), tb (i := 47) (by decide +kernel)⟩
set_option maxRecDepth 100000 in
theorem co_X5_weighBolt : Cond.code yX5_weighBolt cX5_weighBolt 6 none ∈ lw_tbl := tb (i := 1107) (by decide +kernel)
set_option maxRecDepth 100000 in
theorem in_X5_weighBolt : Cond.initialized yX5_weighBolt.cls ∈ lw_tbl := tb (i := 134) (by decide +kernel)
set_option maxRecDepth 100000 in
theorem im_X5_weighBolt : Cond.instanceMethod yX5_weighBolt ∈ lw_tbl ∧ Cond.selects yX5_weighBolt.cls yX5_weighBolt yX5_weighBolt ∈ lw_tbl := ⟨tb (i := 1105) (by decide +kernel), tb (i := 1106) (by decide +kernel)⟩
set_option maxRecDepth 100000 in
theorem co_X5_worthWith : Cond.code yX5_worthWith cX5_worthWith 4 (some .int) ∈ lw_tbl := tb (i := 1112) (by decide +kernel)
set_option maxRecDepth 100000 in
theorem in_X5_worthWith : Cond.initialized yX5_worthWith.cls ∈ lw_tbl := tb (i := 134) (by decide +kernel)
set_option maxRecDepth 100000 in
theorem im_X5_worthWith : Cond.instanceMethod yX5_worthWith ∈ lw_tbl ∧ Cond.selects yX5_worthWith.cls yX5_worthWith yX5_worthWith ∈ lw_tbl := ⟨tb (i := 1111) (by decide +kernel), tb (i := 39) (by decide +kernel)⟩
set_option maxRecDepth 100000 in
theorem co_X6_ageOf : Cond.code yX6_ageOf cX6_ageOf 2 (some .int) ∈ lw_tbl := tb (i := 673) (by decide +kernel)
set_option maxRecDepth 100000 in
theorem in_X6_ageOf : Cond.initialized yX6_ageOf.cls ∈ lw_tbl := tb (i := 130) (by decide +kernel)
set_option maxRecDepth 100000 in
theorem im_X6_ageOf : Cond.instanceMethod yX6_ageOf ∈ lw_tbl ∧ Cond.selects yX6_ageOf.cls yX6_ageOf yX6_ageOf ∈ lw_tbl := ⟨tb (i := 672) (by decide +kernel), tb (i := 4) (by decide +kernel)⟩
set_option maxRecDepth 100000 in
theorem co_X6_askOfFeast : Cond.code yX6_askOfFeast cX6_askOfFeast 3 none ∈ lw_tbl := tb (i := 571) (by decide +kernel)
set_option maxRecDepth 100000 in
theorem in_X6_askOfFeast : Cond.initialized yX6_askOfFeast.cls ∈ lw_tbl := tb (i := 130) (by decide +kernel)
set_option maxRecDepth 100000 in
theorem im_X6_askOfFeast : Cond.instanceMethod yX6_askOfFeast ∈ lw_tbl ∧ Cond.selects yX6_askOfFeast.cls yX6_askOfFeast yX6_askOfFeast ∈ lw_tbl := ⟨tb (i := 570) (by decide +kernel), tb (i := 1) (by decide +kernel)⟩
set_option maxRecDepth 100000 in
theorem co_X6_askOfRemain : Cond.code yX6_askOfRemain cX6_askOfRemain 4 none ∈ lw_tbl := tb (i := 669) (by decide +kernel)
set_option maxRecDepth 100000 in
theorem in_X6_askOfRemain : Cond.initialized yX6_askOfRemain.cls ∈ lw_tbl := tb (i := 130) (by decide +kernel)
set_option maxRecDepth 100000 in
theorem im_X6_askOfRemain : Cond.instanceMethod yX6_askOfRemain ∈ lw_tbl ∧ Cond.selects yX6_askOfRemain.cls yX6_askOfRemain yX6_askOfRemain ∈ lw_tbl := ⟨tb (i := 668) (by decide +kernel), tb (i := 3) (by decide +kernel)⟩
set_option maxRecDepth 100000 in
theorem co_X6_beginDay : Cond.code yX6_beginDay cX6_beginDay 4 (some .int) ∈ lw_tbl := tb (i := 681) (by decide +kernel)
set_option maxRecDepth 100000 in
theorem in_X6_beginDay : Cond.initialized yX6_beginDay.cls ∈ lw_tbl := tb (i := 130) (by decide +kernel)
set_option maxRecDepth 100000 in
theorem im_X6_beginDay : Cond.instanceMethod yX6_beginDay ∈ lw_tbl ∧ Cond.selects yX6_beginDay.cls yX6_beginDay yX6_beginDay ∈ lw_tbl := ⟨tb (i := 679) (by decide +kernel), tb (i := 680) (by decide +kernel)⟩
set_option maxRecDepth 100000 in
theorem co_X6_bestWait : Cond.code yX6_bestWait cX6_bestWait 6 (some .int) ∈ lw_tbl := tb (i := 1212) (by decide +kernel)
set_option maxRecDepth 100000 in
theorem in_X6_bestWait : Cond.initialized yX6_bestWait.cls ∈ lw_tbl := tb (i := 130) (by decide +kernel)
set_option maxRecDepth 100000 in
theorem im_X6_bestWait : Cond.instanceMethod yX6_bestWait ∈ lw_tbl ∧ Cond.selects yX6_bestWait.cls yX6_bestWait yX6_bestWait ∈ lw_tbl := ⟨tb (i := 1210) (by decide +kernel), tb (i := 1211) (by decide +kernel)⟩
set_option maxRecDepth 100000 in
theorem co_X6_copyFrom : Cond.code yX6_copyFrom cX6_copyFrom 2 none ∈ lw_tbl := tb (i := 1066) (by decide +kernel)
set_option maxRecDepth 100000 in
theorem in_X6_copyFrom : Cond.initialized yX6_copyFrom.cls ∈ lw_tbl := tb (i := 130) (by decide +kernel)
set_option maxRecDepth 100000 in
theorem im_X6_copyFrom : Cond.instanceMethod yX6_copyFrom ∈ lw_tbl ∧ Cond.selects yX6_copyFrom.cls yX6_copyFrom yX6_copyFrom ∈ lw_tbl := ⟨tb (i := 1064) (by decide +kernel), tb (i := 1065) (by decide +kernel)⟩
set_option maxRecDepth 100000 in
theorem co_X6_cutCanBe : Cond.code yX6_cutCanBe cX6_cutCanBe 3 (some .boolean) ∈ lw_tbl := tb (i := 628) (by decide +kernel)
set_option maxRecDepth 100000 in
theorem in_X6_cutCanBe : Cond.initialized yX6_cutCanBe.cls ∈ lw_tbl := tb (i := 130) (by decide +kernel)
set_option maxRecDepth 100000 in
theorem im_X6_cutCanBe : Cond.instanceMethod yX6_cutCanBe ∈ lw_tbl ∧ Cond.selects yX6_cutCanBe.cls yX6_cutCanBe yX6_cutCanBe ∈ lw_tbl := ⟨tb (i := 626) (by decide +kernel), tb (i := 627) (by decide +kernel)⟩
set_option maxRecDepth 100000 in
theorem co_X6_cutOne : Cond.code yX6_cutOne cX6_cutOne 7 (some .int) ∈ lw_tbl := tb (i := 632) (by decide +kernel)
set_option maxRecDepth 100000 in
theorem in_X6_cutOne : Cond.initialized yX6_cutOne.cls ∈ lw_tbl := tb (i := 130) (by decide +kernel)
set_option maxRecDepth 100000 in
theorem im_X6_cutOne : Cond.instanceMethod yX6_cutOne ∈ lw_tbl ∧ Cond.selects yX6_cutOne.cls yX6_cutOne yX6_cutOne ∈ lw_tbl := ⟨tb (i := 630) (by decide +kernel), tb (i := 631) (by decide +kernel)⟩
set_option maxRecDepth 100000 in
theorem co_X6_dogsCome : Cond.code yX6_dogsCome cX6_dogsCome 1 none ∈ lw_tbl := tb (i := 755) (by decide +kernel)
set_option maxRecDepth 100000 in
theorem in_X6_dogsCome : Cond.initialized yX6_dogsCome.cls ∈ lw_tbl := tb (i := 130) (by decide +kernel)
set_option maxRecDepth 100000 in
theorem im_X6_dogsCome : Cond.instanceMethod yX6_dogsCome ∈ lw_tbl ∧ Cond.selects yX6_dogsCome.cls yX6_dogsCome yX6_dogsCome ∈ lw_tbl := ⟨tb (i := 754) (by decide +kernel), tb (i := 15) (by decide +kernel)⟩
set_option maxRecDepth 100000 in
theorem co_X6_draw : Cond.code yX6_draw cX6_draw 2 (some .int) ∈ lw_tbl := tb (i := 741) (by decide +kernel)
set_option maxRecDepth 100000 in
theorem in_X6_draw : Cond.initialized yX6_draw.cls ∈ lw_tbl := tb (i := 130) (by decide +kernel)
set_option maxRecDepth 100000 in
theorem im_X6_draw : Cond.instanceMethod yX6_draw ∈ lw_tbl ∧ Cond.selects yX6_draw.cls yX6_draw yX6_draw ∈ lw_tbl := ⟨tb (i := 740) (by decide +kernel), tb (i := 12) (by decide +kernel)⟩
set_option maxRecDepth 100000 in
theorem co_X6_edgeOfFeast : Cond.code yX6_edgeOfFeast cX6_edgeOfFeast 3 (some .int) ∈ lw_tbl := tb (i := 594) (by decide +kernel)
set_option maxRecDepth 100000 in
theorem in_X6_edgeOfFeast : Cond.initialized yX6_edgeOfFeast.cls ∈ lw_tbl := tb (i := 130) (by decide +kernel)
set_option maxRecDepth 100000 in
theorem im_X6_edgeOfFeast : Cond.instanceMethod yX6_edgeOfFeast ∈ lw_tbl ∧ Cond.selects yX6_edgeOfFeast.cls yX6_edgeOfFeast yX6_edgeOfFeast ∈ lw_tbl := ⟨tb (i := 592) (by decide +kernel), tb (i := 593) (by decide +kernel)⟩
set_option maxRecDepth 100000 in
theorem co_X6_endDay : Cond.code yX6_endDay cX6_endDay 5 none ∈ lw_tbl := tb (i := 725) (by decide +kernel)
set_option maxRecDepth 100000 in
theorem in_X6_endDay : Cond.initialized yX6_endDay.cls ∈ lw_tbl := tb (i := 130) (by decide +kernel)
set_option maxRecDepth 100000 in
theorem im_X6_endDay : Cond.instanceMethod yX6_endDay ∈ lw_tbl ∧ Cond.selects yX6_endDay.cls yX6_endDay yX6_endDay ∈ lw_tbl := ⟨tb (i := 723) (by decide +kernel), tb (i := 724) (by decide +kernel)⟩
set_option maxRecDepth 100000 in
theorem co_X6_feastCanBe : Cond.code yX6_feastCanBe cX6_feastCanBe 3 (some .boolean) ∈ lw_tbl := tb (i := 524) (by decide +kernel)
set_option maxRecDepth 100000 in
theorem in_X6_feastCanBe : Cond.initialized yX6_feastCanBe.cls ∈ lw_tbl := tb (i := 130) (by decide +kernel)
set_option maxRecDepth 100000 in
theorem im_X6_feastCanBe : Cond.instanceMethod yX6_feastCanBe ∈ lw_tbl ∧ Cond.selects yX6_feastCanBe.cls yX6_feastCanBe yX6_feastCanBe ∈ lw_tbl := ⟨tb (i := 522) (by decide +kernel), tb (i := 523) (by decide +kernel)⟩
set_option maxRecDepth 100000 in
theorem co_X6_feastsLeaving : Cond.code yX6_feastsLeaving cX6_feastsLeaving 4 (some .int) ∈ lw_tbl := tb (i := 1174) (by decide +kernel)
set_option maxRecDepth 100000 in
theorem in_X6_feastsLeaving : Cond.initialized yX6_feastsLeaving.cls ∈ lw_tbl := tb (i := 130) (by decide +kernel)
set_option maxRecDepth 100000 in
theorem im_X6_feastsLeaving : Cond.instanceMethod yX6_feastsLeaving ∈ lw_tbl ∧ Cond.selects yX6_feastsLeaving.cls yX6_feastsLeaving yX6_feastsLeaving ∈ lw_tbl := ⟨tb (i := 1172) (by decide +kernel), tb (i := 1173) (by decide +kernel)⟩
set_option maxRecDepth 100000 in
theorem co_X6_feastsOfKind : Cond.code yX6_feastsOfKind cX6_feastsOfKind 5 (some .int) ∈ lw_tbl := tb (i := 1182) (by decide +kernel)
set_option maxRecDepth 100000 in
theorem in_X6_feastsOfKind : Cond.initialized yX6_feastsOfKind.cls ∈ lw_tbl := tb (i := 130) (by decide +kernel)
set_option maxRecDepth 100000 in
theorem im_X6_feastsOfKind : Cond.instanceMethod yX6_feastsOfKind ∈ lw_tbl ∧ Cond.selects yX6_feastsOfKind.cls yX6_feastsOfKind yX6_feastsOfKind ∈ lw_tbl := ⟨tb (i := 1181) (by decide +kernel), tb (i := 41) (by decide +kernel)⟩
set_option maxRecDepth 100000 in
theorem co_X6_firstMissed : Cond.code yX6_firstMissed cX6_firstMissed 2 (some .int) ∈ lw_tbl := tb (i := 1072) (by decide +kernel)
set_option maxRecDepth 100000 in
theorem in_X6_firstMissed : Cond.initialized yX6_firstMissed.cls ∈ lw_tbl := tb (i := 130) (by decide +kernel)
set_option maxRecDepth 100000 in
theorem im_X6_firstMissed : Cond.instanceMethod yX6_firstMissed ∈ lw_tbl ∧ Cond.selects yX6_firstMissed.cls yX6_firstMissed yX6_firstMissed ∈ lw_tbl := ⟨tb (i := 1070) (by decide +kernel), tb (i := 1071) (by decide +kernel)⟩
set_option maxRecDepth 100000 in
theorem co_X6_forgeOne : Cond.code yX6_forgeOne cX6_forgeOne 4 (some .int) ∈ lw_tbl := tb (i := 619) (by decide +kernel)
set_option maxRecDepth 100000 in
theorem in_X6_forgeOne : Cond.initialized yX6_forgeOne.cls ∈ lw_tbl := tb (i := 130) (by decide +kernel)
set_option maxRecDepth 100000 in
theorem im_X6_forgeOne : Cond.instanceMethod yX6_forgeOne ∈ lw_tbl ∧ Cond.selects yX6_forgeOne.cls yX6_forgeOne yX6_forgeOne ∈ lw_tbl := ⟨tb (i := 617) (by decide +kernel), tb (i := 618) (by decide +kernel)⟩
set_option maxRecDepth 100000 in
theorem co_X6_forgingCanBe : Cond.code yX6_forgingCanBe cX6_forgingCanBe 3 (some .boolean) ∈ lw_tbl := tb (i := 615) (by decide +kernel)
set_option maxRecDepth 100000 in
theorem in_X6_forgingCanBe : Cond.initialized yX6_forgingCanBe.cls ∈ lw_tbl := tb (i := 130) (by decide +kernel)
set_option maxRecDepth 100000 in
theorem im_X6_forgingCanBe : Cond.instanceMethod yX6_forgingCanBe ∈ lw_tbl ∧ Cond.selects yX6_forgingCanBe.cls yX6_forgingCanBe yX6_forgingCanBe ∈ lw_tbl := ⟨tb (i := 613) (by decide +kernel), tb (i := 614) (by decide +kernel)⟩
set_option maxRecDepth 100000 in
theorem co_X6_guestsLeavingMost : Cond.code yX6_guestsLeavingMost cX6_guestsLeavingMost 6 (some .int) ∈ lw_tbl := tb (i := 1087) (by decide +kernel)
set_option maxRecDepth 100000 in
theorem in_X6_guestsLeavingMost : Cond.initialized yX6_guestsLeavingMost.cls ∈ lw_tbl := tb (i := 130) (by decide +kernel)
set_option maxRecDepth 100000 in
theorem im_X6_guestsLeavingMost : Cond.instanceMethod yX6_guestsLeavingMost ∈ lw_tbl ∧ Cond.selects yX6_guestsLeavingMost.cls yX6_guestsLeavingMost yX6_guestsLeavingMost ∈ lw_tbl := ⟨tb (i := 1085) (by decide +kernel), tb (i := 1086) (by decide +kernel)⟩
set_option maxRecDepth 100000 in
theorem co_X6_holdFeast : Cond.code yX6_holdFeast cX6_holdFeast 4 (some .int) ∈ lw_tbl := tb (i := 559) (by decide +kernel)
set_option maxRecDepth 100000 in
theorem in_X6_holdFeast : Cond.initialized yX6_holdFeast.cls ∈ lw_tbl := tb (i := 130) (by decide +kernel)
set_option maxRecDepth 100000 in
theorem im_X6_holdFeast : Cond.instanceMethod yX6_holdFeast ∈ lw_tbl ∧ Cond.selects yX6_holdFeast.cls yX6_holdFeast yX6_holdFeast ∈ lw_tbl := ⟨tb (i := 557) (by decide +kernel), tb (i := 558) (by decide +kernel)⟩
set_option maxRecDepth 100000 in
theorem co_X6_init : Cond.code yX6_init cX6_init 1 none ∈ lw_tbl := tb (i := 160) (by decide +kernel)
set_option maxRecDepth 100000 in
theorem in_X6_init : Cond.initialized yX6_init.cls ∈ lw_tbl := tb (i := 130) (by decide +kernel)
set_option maxRecDepth 100000 in
theorem co_X6_inspectorsCome : Cond.code yX6_inspectorsCome cX6_inspectorsCome 2 none ∈ lw_tbl := tb (i := 751) (by decide +kernel)
set_option maxRecDepth 100000 in
theorem in_X6_inspectorsCome : Cond.initialized yX6_inspectorsCome.cls ∈ lw_tbl := tb (i := 130) (by decide +kernel)
set_option maxRecDepth 100000 in
theorem im_X6_inspectorsCome : Cond.instanceMethod yX6_inspectorsCome ∈ lw_tbl ∧ Cond.selects yX6_inspectorsCome.cls yX6_inspectorsCome yX6_inspectorsCome ∈ lw_tbl := ⟨tb (i := 750) (by decide +kernel), tb (i := 14) (by decide +kernel)⟩
set_option maxRecDepth 100000 in
theorem co_X6_isSpoilt : Cond.code yX6_isSpoilt cX6_isSpoilt 3 (some .boolean) ∈ lw_tbl := tb (i := 733) (by decide +kernel)
set_option maxRecDepth 100000 in
theorem in_X6_isSpoilt : Cond.initialized yX6_isSpoilt.cls ∈ lw_tbl := tb (i := 130) (by decide +kernel)
set_option maxRecDepth 100000 in
theorem im_X6_isSpoilt : Cond.instanceMethod yX6_isSpoilt ∈ lw_tbl ∧ Cond.selects yX6_isSpoilt.cls yX6_isSpoilt yX6_isSpoilt ∈ lw_tbl := ⟨tb (i := 732) (by decide +kernel), tb (i := 11) (by decide +kernel)⟩
set_option maxRecDepth 100000 in
theorem co_X6_isTooOld : Cond.code yX6_isTooOld cX6_isTooOld 3 (some .boolean) ∈ lw_tbl := tb (i := 729) (by decide +kernel)
set_option maxRecDepth 100000 in
theorem in_X6_isTooOld : Cond.initialized yX6_isTooOld.cls ∈ lw_tbl := tb (i := 130) (by decide +kernel)
set_option maxRecDepth 100000 in
theorem im_X6_isTooOld : Cond.instanceMethod yX6_isTooOld ∈ lw_tbl ∧ Cond.selects yX6_isTooOld.cls yX6_isTooOld yX6_isTooOld ∈ lw_tbl := ⟨tb (i := 727) (by decide +kernel), tb (i := 728) (by decide +kernel)⟩
set_option maxRecDepth 100000 in
theorem co_X6_joinTwo : Cond.code yX6_joinTwo cX6_joinTwo 5 (some .int) ∈ lw_tbl := tb (i := 645) (by decide +kernel)
set_option maxRecDepth 100000 in
theorem in_X6_joinTwo : Cond.initialized yX6_joinTwo.cls ∈ lw_tbl := tb (i := 130) (by decide +kernel)
set_option maxRecDepth 100000 in
theorem im_X6_joinTwo : Cond.instanceMethod yX6_joinTwo ∈ lw_tbl ∧ Cond.selects yX6_joinTwo.cls yX6_joinTwo yX6_joinTwo ∈ lw_tbl := ⟨tb (i := 643) (by decide +kernel), tb (i := 644) (by decide +kernel)⟩
set_option maxRecDepth 100000 in
theorem co_X6_joiningCanBe : Cond.code yX6_joiningCanBe cX6_joiningCanBe 3 (some .boolean) ∈ lw_tbl := tb (i := 641) (by decide +kernel)
set_option maxRecDepth 100000 in
theorem in_X6_joiningCanBe : Cond.initialized yX6_joiningCanBe.cls ∈ lw_tbl := tb (i := 130) (by decide +kernel)
set_option maxRecDepth 100000 in
theorem im_X6_joiningCanBe : Cond.instanceMethod yX6_joiningCanBe ∈ lw_tbl ∧ Cond.selects yX6_joiningCanBe.cls yX6_joiningCanBe yX6_joiningCanBe ∈ lw_tbl := ⟨tb (i := 639) (by decide +kernel), tb (i := 640) (by decide +kernel)⟩
set_option maxRecDepth 100000 in
theorem co_X6_kindParting : Cond.code yX6_kindParting cX6_kindParting 8 (some .int) ∈ lw_tbl := tb (i := 1178) (by decide +kernel)
set_option maxRecDepth 100000 in
theorem in_X6_kindParting : Cond.initialized yX6_kindParting.cls ∈ lw_tbl := tb (i := 130) (by decide +kernel)
set_option maxRecDepth 100000 in
theorem im_X6_kindParting : Cond.instanceMethod yX6_kindParting ∈ lw_tbl ∧ Cond.selects yX6_kindParting.cls yX6_kindParting yX6_kindParting ∈ lw_tbl := ⟨tb (i := 1176) (by decide +kernel), tb (i := 1177) (by decide +kernel)⟩
set_option maxRecDepth 100000 in
theorem co_X6_leftByFeast : Cond.code yX6_leftByFeast cX6_leftByFeast 4 (some .int) ∈ lw_tbl := tb (i := 567) (by decide +kernel)
set_option maxRecDepth 100000 in
theorem in_X6_leftByFeast : Cond.initialized yX6_leftByFeast.cls ∈ lw_tbl := tb (i := 130) (by decide +kernel)
set_option maxRecDepth 100000 in
theorem im_X6_leftByFeast : Cond.instanceMethod yX6_leftByFeast ∈ lw_tbl ∧ Cond.selects yX6_leftByFeast.cls yX6_leftByFeast yX6_leftByFeast ∈ lw_tbl := ⟨tb (i := 565) (by decide +kernel), tb (i := 566) (by decide +kernel)⟩
set_option maxRecDepth 100000 in
theorem co_X6_linesOf : Cond.code yX6_linesOf cX6_linesOf 2 (some (.object "CrustMarket$Rows")) ∈ lw_tbl := tb (i := 963) (by decide +kernel)
set_option maxRecDepth 100000 in
theorem in_X6_linesOf : Cond.initialized yX6_linesOf.cls ∈ lw_tbl := tb (i := 130) (by decide +kernel)
set_option maxRecDepth 100000 in
theorem im_X6_linesOf : Cond.instanceMethod yX6_linesOf ∈ lw_tbl ∧ Cond.selects yX6_linesOf.cls yX6_linesOf yX6_linesOf ∈ lw_tbl := ⟨tb (i := 961) (by decide +kernel), tb (i := 962) (by decide +kernel)⟩
set_option maxRecDepth 100000 in
theorem co_X6_lose : Cond.code yX6_lose cX6_lose 3 none ∈ lw_tbl := tb (i := 747) (by decide +kernel)
set_option maxRecDepth 100000 in
theorem in_X6_lose : Cond.initialized yX6_lose.cls ∈ lw_tbl := tb (i := 130) (by decide +kernel)
set_option maxRecDepth 100000 in
theorem im_X6_lose : Cond.instanceMethod yX6_lose ∈ lw_tbl ∧ Cond.selects yX6_lose.cls yX6_lose yX6_lose ∈ lw_tbl := ⟨tb (i := 746) (by decide +kernel), tb (i := 13) (by decide +kernel)⟩
set_option maxRecDepth 100000 in
theorem co_X6_meets : Cond.code yX6_meets cX6_meets 4 (some .boolean) ∈ lw_tbl := tb (i := 686) (by decide +kernel)
set_option maxRecDepth 100000 in
theorem in_X6_meets : Cond.initialized yX6_meets.cls ∈ lw_tbl := tb (i := 130) (by decide +kernel)
set_option maxRecDepth 100000 in
theorem im_X6_meets : Cond.instanceMethod yX6_meets ∈ lw_tbl ∧ Cond.selects yX6_meets.cls yX6_meets yX6_meets ∈ lw_tbl := ⟨tb (i := 685) (by decide +kernel), tb (i := 5) (by decide +kernel)⟩
set_option maxRecDepth 100000 in
theorem co_X6_metSet : Cond.code yX6_metSet cX6_metSet 3 (some .int) ∈ lw_tbl := tb (i := 544) (by decide +kernel)
set_option maxRecDepth 100000 in
theorem in_X6_metSet : Cond.initialized yX6_metSet.cls ∈ lw_tbl := tb (i := 130) (by decide +kernel)
set_option maxRecDepth 100000 in
theorem im_X6_metSet : Cond.instanceMethod yX6_metSet ∈ lw_tbl ∧ Cond.selects yX6_metSet.cls yX6_metSet yX6_metSet ∈ lw_tbl := ⟨tb (i := 542) (by decide +kernel), tb (i := 543) (by decide +kernel)⟩
set_option maxRecDepth 100000 in
theorem co_X6_priceOf : Cond.code yX6_priceOf cX6_priceOf 3 (some .int) ∈ lw_tbl := tb (i := 665) (by decide +kernel)
set_option maxRecDepth 100000 in
theorem in_X6_priceOf : Cond.initialized yX6_priceOf.cls ∈ lw_tbl := tb (i := 130) (by decide +kernel)
set_option maxRecDepth 100000 in
theorem im_X6_priceOf : Cond.instanceMethod yX6_priceOf ∈ lw_tbl ∧ Cond.selects yX6_priceOf.cls yX6_priceOf yX6_priceOf ∈ lw_tbl := ⟨tb (i := 663) (by decide +kernel), tb (i := 664) (by decide +kernel)⟩
set_option maxRecDepth 100000 in
theorem co_X6_putMetSet : Cond.code yX6_putMetSet cX6_putMetSet 3 none ∈ lw_tbl := tb (i := 1277) (by decide +kernel)
set_option maxRecDepth 100000 in
theorem in_X6_putMetSet : Cond.initialized yX6_putMetSet.cls ∈ lw_tbl := tb (i := 130) (by decide +kernel)
set_option maxRecDepth 100000 in
theorem im_X6_putMetSet : Cond.instanceMethod yX6_putMetSet ∈ lw_tbl ∧ Cond.selects yX6_putMetSet.cls yX6_putMetSet yX6_putMetSet ∈ lw_tbl := ⟨tb (i := 1275) (by decide +kernel), tb (i := 1276) (by decide +kernel)⟩
set_option maxRecDepth 100000 in
theorem co_X6_remainsOfKind : Cond.code yX6_remainsOfKind cX6_remainsOfKind 4 (some .int) ∈ lw_tbl := tb (i := 1039) (by decide +kernel)
set_option maxRecDepth 100000 in
theorem in_X6_remainsOfKind : Cond.initialized yX6_remainsOfKind.cls ∈ lw_tbl := tb (i := 130) (by decide +kernel)
set_option maxRecDepth 100000 in
theorem im_X6_remainsOfKind : Cond.instanceMethod yX6_remainsOfKind ∈ lw_tbl ∧ Cond.selects yX6_remainsOfKind.cls yX6_remainsOfKind yX6_remainsOfKind ∈ lw_tbl := ⟨tb (i := 1037) (by decide +kernel), tb (i := 1038) (by decide +kernel)⟩
set_option maxRecDepth 100000 in
theorem co_X6_sellOne : Cond.code yX6_sellOne cX6_sellOne 3 (some .int) ∈ lw_tbl := tb (i := 661) (by decide +kernel)
set_option maxRecDepth 100000 in
theorem in_X6_sellOne : Cond.initialized yX6_sellOne.cls ∈ lw_tbl := tb (i := 130) (by decide +kernel)
set_option maxRecDepth 100000 in
theorem im_X6_sellOne : Cond.instanceMethod yX6_sellOne ∈ lw_tbl ∧ Cond.selects yX6_sellOne.cls yX6_sellOne yX6_sellOne ∈ lw_tbl := ⟨tb (i := 659) (by decide +kernel), tb (i := 660) (by decide +kernel)⟩
set_option maxRecDepth 100000 in
theorem co_X6_sizesOfKind : Cond.code yX6_sizesOfKind cX6_sizesOfKind 4 (some .int) ∈ lw_tbl := tb (i := 1043) (by decide +kernel)
set_option maxRecDepth 100000 in
theorem in_X6_sizesOfKind : Cond.initialized yX6_sizesOfKind.cls ∈ lw_tbl := tb (i := 130) (by decide +kernel)
set_option maxRecDepth 100000 in
theorem im_X6_sizesOfKind : Cond.instanceMethod yX6_sizesOfKind ∈ lw_tbl ∧ Cond.selects yX6_sizesOfKind.cls yX6_sizesOfKind yX6_sizesOfKind ∈ lw_tbl := ⟨tb (i := 1041) (by decide +kernel), tb (i := 1042) (by decide +kernel)⟩
set_option maxRecDepth 100000 in
theorem co_X6_spoilOf : Cond.code yX6_spoilOf cX6_spoilOf 2 (some .int) ∈ lw_tbl := tb (i := 737) (by decide +kernel)
set_option maxRecDepth 100000 in
theorem in_X6_spoilOf : Cond.initialized yX6_spoilOf.cls ∈ lw_tbl := tb (i := 130) (by decide +kernel)
set_option maxRecDepth 100000 in
theorem im_X6_spoilOf : Cond.instanceMethod yX6_spoilOf ∈ lw_tbl ∧ Cond.selects yX6_spoilOf.cls yX6_spoilOf yX6_spoilOf ∈ lw_tbl := ⟨tb (i := 735) (by decide +kernel), tb (i := 736) (by decide +kernel)⟩
set_option maxRecDepth 100000 in
theorem co_X7_forget : Cond.code yX7_forget cX7_forget 1 none ∈ lw_tbl := tb (i := 509) (by decide +kernel)
set_option maxRecDepth 100000 in
theorem in_X7_forget : Cond.initialized yX7_forget.cls ∈ lw_tbl := tb (i := 135) (by decide +kernel)
set_option maxRecDepth 100000 in
theorem im_X7_forget : Cond.instanceMethod yX7_forget ∈ lw_tbl ∧ Cond.selects yX7_forget.cls yX7_forget yX7_forget ∈ lw_tbl := ⟨tb (i := 507) (by decide +kernel), tb (i := 508) (by decide +kernel)⟩
set_option maxRecDepth 100000 in
theorem co_X7_giveBack : Cond.code yX7_giveBack cX7_giveBack 3 (some .boolean) ∈ lw_tbl := tb (i := 1273) (by decide +kernel)
set_option maxRecDepth 100000 in
theorem in_X7_giveBack : Cond.initialized yX7_giveBack.cls ∈ lw_tbl := tb (i := 135) (by decide +kernel)
set_option maxRecDepth 100000 in
theorem im_X7_giveBack : Cond.instanceMethod yX7_giveBack ∈ lw_tbl ∧ Cond.selects yX7_giveBack.cls yX7_giveBack yX7_giveBack ∈ lw_tbl := ⟨tb (i := 1271) (by decide +kernel), tb (i := 1272) (by decide +kernel)⟩
set_option maxRecDepth 100000 in
theorem co_X7_init : Cond.code yX7_init cX7_init 2 none ∈ lw_tbl := tb (i := 362) (by decide +kernel)
set_option maxRecDepth 100000 in
theorem in_X7_init : Cond.initialized yX7_init.cls ∈ lw_tbl := tb (i := 135) (by decide +kernel)
set_option maxRecDepth 100000 in
theorem co_X7_keep : Cond.code yX7_keep cX7_keep 3 none ∈ lw_tbl := tb (i := 533) (by decide +kernel)
set_option maxRecDepth 100000 in
theorem in_X7_keep : Cond.initialized yX7_keep.cls ∈ lw_tbl := tb (i := 135) (by decide +kernel)
set_option maxRecDepth 100000 in
theorem im_X7_keep : Cond.instanceMethod yX7_keep ∈ lw_tbl ∧ Cond.selects yX7_keep.cls yX7_keep yX7_keep ∈ lw_tbl := ⟨tb (i := 531) (by decide +kernel), tb (i := 532) (by decide +kernel)⟩
set_option maxRecDepth 100000 in
theorem co_X8_add : Cond.code yX8_add cX8_add 6 (some .int) ∈ lw_tbl := tb (i := 598) (by decide +kernel)
set_option maxRecDepth 100000 in
theorem in_X8_add : Cond.initialized yX8_add.cls ∈ lw_tbl := tb (i := 131) (by decide +kernel)
set_option maxRecDepth 100000 in
theorem im_X8_add : Cond.instanceMethod yX8_add ∈ lw_tbl ∧ Cond.selects yX8_add.cls yX8_add yX8_add ∈ lw_tbl := ⟨tb (i := 596) (by decide +kernel), tb (i := 597) (by decide +kernel)⟩
set_option maxRecDepth 100000 in
theorem co_X8_addEmpty : Cond.code yX8_addEmpty cX8_addEmpty 2 (some .int) ∈ lw_tbl := tb (i := 602) (by decide +kernel)
set_option maxRecDepth 100000 in
theorem in_X8_addEmpty : Cond.initialized yX8_addEmpty.cls ∈ lw_tbl := tb (i := 131) (by decide +kernel)
set_option maxRecDepth 100000 in
theorem im_X8_addEmpty : Cond.instanceMethod yX8_addEmpty ∈ lw_tbl ∧ Cond.selects yX8_addEmpty.cls yX8_addEmpty yX8_addEmpty ∈ lw_tbl := ⟨tb (i := 600) (by decide +kernel), tb (i := 601) (by decide +kernel)⟩
set_option maxRecDepth 100000 in
theorem co_X8_addTold : Cond.code yX8_addTold cX8_addTold 5 (some .int) ∈ lw_tbl := tb (i := 1098) (by decide +kernel)
set_option maxRecDepth 100000 in
theorem in_X8_addTold : Cond.initialized yX8_addTold.cls ∈ lw_tbl := tb (i := 131) (by decide +kernel)
set_option maxRecDepth 100000 in
theorem im_X8_addTold : Cond.instanceMethod yX8_addTold ∈ lw_tbl ∧ Cond.selects yX8_addTold.cls yX8_addTold yX8_addTold ∈ lw_tbl := ⟨tb (i := 1096) (by decide +kernel), tb (i := 1097) (by decide +kernel)⟩
set_option maxRecDepth 100000 in
theorem co_X8_at : Cond.code yX8_at cX8_at 4 (some .int) ∈ lw_tbl := tb (i := 548) (by decide +kernel)
set_option maxRecDepth 100000 in
theorem in_X8_at : Cond.initialized yX8_at.cls ∈ lw_tbl := tb (i := 131) (by decide +kernel)
set_option maxRecDepth 100000 in
theorem im_X8_at : Cond.instanceMethod yX8_at ∈ lw_tbl ∧ Cond.selects yX8_at.cls yX8_at yX8_at ∈ lw_tbl := ⟨tb (i := 546) (by decide +kernel), tb (i := 547) (by decide +kernel)⟩
set_option maxRecDepth 100000 in
theorem co_X8_cellOf : Cond.code yX8_cellOf cX8_cellOf 4 (some .int) ∈ lw_tbl := tb (i := 552) (by decide +kernel)
set_option maxRecDepth 100000 in
theorem in_X8_cellOf : Cond.initialized yX8_cellOf.cls ∈ lw_tbl := tb (i := 131) (by decide +kernel)
set_option maxRecDepth 100000 in
theorem im_X8_cellOf : Cond.instanceMethod yX8_cellOf ∈ lw_tbl ∧ Cond.selects yX8_cellOf.cls yX8_cellOf yX8_cellOf ∈ lw_tbl := ⟨tb (i := 551) (by decide +kernel), tb (i := 0) (by decide +kernel)⟩
set_option maxRecDepth 100000 in
theorem co_X8_copyFrom : Cond.code yX8_copyFrom cX8_copyFrom 3 none ∈ lw_tbl := tb (i := 537) (by decide +kernel)
set_option maxRecDepth 100000 in
theorem in_X8_copyFrom : Cond.initialized yX8_copyFrom.cls ∈ lw_tbl := tb (i := 131) (by decide +kernel)
set_option maxRecDepth 100000 in
theorem im_X8_copyFrom : Cond.instanceMethod yX8_copyFrom ∈ lw_tbl ∧ Cond.selects yX8_copyFrom.cls yX8_copyFrom yX8_copyFrom ∈ lw_tbl := ⟨tb (i := 535) (by decide +kernel), tb (i := 536) (by decide +kernel)⟩
set_option maxRecDepth 100000 in
theorem co_X8_drop : Cond.code yX8_drop cX8_drop 4 none ∈ lw_tbl := tb (i := 650) (by decide +kernel)
set_option maxRecDepth 100000 in
theorem in_X8_drop : Cond.initialized yX8_drop.cls ∈ lw_tbl := tb (i := 131) (by decide +kernel)
set_option maxRecDepth 100000 in
theorem im_X8_drop : Cond.instanceMethod yX8_drop ∈ lw_tbl ∧ Cond.selects yX8_drop.cls yX8_drop yX8_drop ∈ lw_tbl := ⟨tb (i := 648) (by decide +kernel), tb (i := 649) (by decide +kernel)⟩
set_option maxRecDepth 100000 in
theorem co_X8_empty : Cond.code yX8_empty cX8_empty 1 (some .int) ∈ lw_tbl := tb (i := 971) (by decide +kernel)
set_option maxRecDepth 100000 in
theorem in_X8_empty : Cond.initialized yX8_empty.cls ∈ lw_tbl := tb (i := 131) (by decide +kernel)
set_option maxRecDepth 100000 in
theorem im_X8_empty : Cond.instanceMethod yX8_empty ∈ lw_tbl ∧ Cond.selects yX8_empty.cls yX8_empty yX8_empty ∈ lw_tbl := ⟨tb (i := 969) (by decide +kernel), tb (i := 970) (by decide +kernel)⟩
set_option maxRecDepth 100000 in
theorem co_X8_has : Cond.code yX8_has cX8_has 2 (some .boolean) ∈ lw_tbl := tb (i := 528) (by decide +kernel)
set_option maxRecDepth 100000 in
theorem in_X8_has : Cond.initialized yX8_has.cls ∈ lw_tbl := tb (i := 131) (by decide +kernel)
set_option maxRecDepth 100000 in
theorem im_X8_has : Cond.instanceMethod yX8_has ∈ lw_tbl ∧ Cond.selects yX8_has.cls yX8_has yX8_has ∈ lw_tbl := ⟨tb (i := 526) (by decide +kernel), tb (i := 527) (by decide +kernel)⟩
set_option maxRecDepth 100000 in
theorem co_X8_init : Cond.code yX8_init cX8_init 3 none ∈ lw_tbl := tb (i := 166) (by decide +kernel)
set_option maxRecDepth 100000 in
theorem in_X8_init : Cond.initialized yX8_init.cls ∈ lw_tbl := tb (i := 131) (by decide +kernel)
set_option maxRecDepth 100000 in
theorem co_X8_isFull : Cond.code yX8_isFull cX8_isFull 1 (some .boolean) ∈ lw_tbl := tb (i := 563) (by decide +kernel)
set_option maxRecDepth 100000 in
theorem in_X8_isFull : Cond.initialized yX8_isFull.cls ∈ lw_tbl := tb (i := 131) (by decide +kernel)
set_option maxRecDepth 100000 in
theorem im_X8_isFull : Cond.instanceMethod yX8_isFull ∈ lw_tbl ∧ Cond.selects yX8_isFull.cls yX8_isFull yX8_isFull ∈ lw_tbl := ⟨tb (i := 561) (by decide +kernel), tb (i := 562) (by decide +kernel)⟩
set_option maxRecDepth 100000 in
theorem co_X8_keepFirst : Cond.code yX8_keepFirst cX8_keepFirst 2 none ∈ lw_tbl := tb (i := 1281) (by decide +kernel)
set_option maxRecDepth 100000 in
theorem in_X8_keepFirst : Cond.initialized yX8_keepFirst.cls ∈ lw_tbl := tb (i := 131) (by decide +kernel)
set_option maxRecDepth 100000 in
theorem im_X8_keepFirst : Cond.instanceMethod yX8_keepFirst ∈ lw_tbl ∧ Cond.selects yX8_keepFirst.cls yX8_keepFirst yX8_keepFirst ∈ lw_tbl := ⟨tb (i := 1279) (by decide +kernel), tb (i := 1280) (by decide +kernel)⟩
set_option maxRecDepth 100000 in
theorem co_X8_put : Cond.code yX8_put cX8_put 5 none ∈ lw_tbl := tb (i := 607) (by decide +kernel)
set_option maxRecDepth 100000 in
theorem in_X8_put : Cond.initialized yX8_put.cls ∈ lw_tbl := tb (i := 131) (by decide +kernel)
set_option maxRecDepth 100000 in
theorem im_X8_put : Cond.instanceMethod yX8_put ∈ lw_tbl ∧ Cond.selects yX8_put.cls yX8_put yX8_put ∈ lw_tbl := ⟨tb (i := 605) (by decide +kernel), tb (i := 606) (by decide +kernel)⟩
set_option maxRecDepth 100000 in
theorem co_X9_addNumber : Cond.code yX9_addNumber cX9_addNumber 3 none ∈ lw_tbl := tb (i := 767) (by decide +kernel)
set_option maxRecDepth 100000 in
theorem in_X9_addNumber : Cond.initialized yX9_addNumber.cls ∈ lw_tbl := tb (i := 136) (by decide +kernel)
set_option maxRecDepth 100000 in
theorem im_X9_addNumber : Cond.instanceMethod yX9_addNumber ∈ lw_tbl ∧ Cond.selects yX9_addNumber.cls yX9_addNumber yX9_addNumber ∈ lw_tbl := ⟨tb (i := 765) (by decide +kernel), tb (i := 766) (by decide +kernel)⟩
set_option maxRecDepth 100000 in
theorem co_X9_addToken : Cond.code yX9_addToken cX9_addToken 4 none ∈ lw_tbl := tb (i := 859) (by decide +kernel)
set_option maxRecDepth 100000 in
theorem in_X9_addToken : Cond.initialized yX9_addToken.cls ∈ lw_tbl := tb (i := 136) (by decide +kernel)
set_option maxRecDepth 100000 in
theorem im_X9_addToken : Cond.instanceMethod yX9_addToken ∈ lw_tbl ∧ Cond.selects yX9_addToken.cls yX9_addToken yX9_addToken ∈ lw_tbl := ⟨tb (i := 858) (by decide +kernel), tb (i := 21) (by decide +kernel)⟩
set_option maxRecDepth 100000 in
theorem co_X9_atEnd : Cond.code yX9_atEnd cX9_atEnd 1 (some .boolean) ∈ lw_tbl := tb (i := 882) (by decide +kernel)
set_option maxRecDepth 100000 in
theorem in_X9_atEnd : Cond.initialized yX9_atEnd.cls ∈ lw_tbl := tb (i := 136) (by decide +kernel)
set_option maxRecDepth 100000 in
theorem im_X9_atEnd : Cond.instanceMethod yX9_atEnd ∈ lw_tbl ∧ Cond.selects yX9_atEnd.cls yX9_atEnd yX9_atEnd ∈ lw_tbl := ⟨tb (i := 880) (by decide +kernel), tb (i := 881) (by decide +kernel)⟩
set_option maxRecDepth 100000 in
theorem co_X9_behindDigits : Cond.code yX9_behindDigits cX9_behindDigits 3 (some .int) ∈ lw_tbl := tb (i := 866) (by decide +kernel)
set_option maxRecDepth 100000 in
theorem in_X9_behindDigits : Cond.initialized yX9_behindDigits.cls ∈ lw_tbl := tb (i := 136) (by decide +kernel)
set_option maxRecDepth 100000 in
theorem im_X9_behindDigits : Cond.instanceMethod yX9_behindDigits ∈ lw_tbl ∧ Cond.selects yX9_behindDigits.cls yX9_behindDigits yX9_behindDigits ∈ lw_tbl := ⟨tb (i := 865) (by decide +kernel), tb (i := 22) (by decide +kernel)⟩
set_option maxRecDepth 100000 in
theorem co_X9_behindLetters : Cond.code yX9_behindLetters cX9_behindLetters 3 (some .int) ∈ lw_tbl := tb (i := 798) (by decide +kernel)
set_option maxRecDepth 100000 in
theorem in_X9_behindLetters : Cond.initialized yX9_behindLetters.cls ∈ lw_tbl := tb (i := 136) (by decide +kernel)
set_option maxRecDepth 100000 in
theorem im_X9_behindLetters : Cond.instanceMethod yX9_behindLetters ∈ lw_tbl ∧ Cond.selects yX9_behindLetters.cls yX9_behindLetters yX9_behindLetters ∈ lw_tbl := ⟨tb (i := 797) (by decide +kernel), tb (i := 18) (by decide +kernel)⟩
set_option maxRecDepth 100000 in
theorem co_X9_byteAt : Cond.code yX9_byteAt cX9_byteAt 2 (some .int) ∈ lw_tbl := tb (i := 783) (by decide +kernel)
set_option maxRecDepth 100000 in
theorem in_X9_byteAt : Cond.initialized yX9_byteAt.cls ∈ lw_tbl := tb (i := 136) (by decide +kernel)
set_option maxRecDepth 100000 in
theorem im_X9_byteAt : Cond.instanceMethod yX9_byteAt ∈ lw_tbl ∧ Cond.selects yX9_byteAt.cls yX9_byteAt yX9_byteAt ∈ lw_tbl := ⟨tb (i := 782) (by decide +kernel), tb (i := 16) (by decide +kernel)⟩
set_option maxRecDepth 100000 in
theorem co_X9_fails : Cond.code yX9_fails cX9_fails 2 (some .boolean) ∈ lw_tbl := tb (i := 896) (by decide +kernel)
set_option maxRecDepth 100000 in
theorem in_X9_fails : Cond.initialized yX9_fails.cls ∈ lw_tbl := tb (i := 136) (by decide +kernel)
set_option maxRecDepth 100000 in
theorem im_X9_fails : Cond.instanceMethod yX9_fails ∈ lw_tbl ∧ Cond.selects yX9_fails.cls yX9_fails yX9_fails ∈ lw_tbl := ⟨tb (i := 894) (by decide +kernel), tb (i := 895) (by decide +kernel)⟩
set_option maxRecDepth 100000 in
theorem co_X9_hasRoomFor : Cond.code yX9_hasRoomFor cX9_hasRoomFor 2 (some .boolean) ∈ lw_tbl := tb (i := 763) (by decide +kernel)
set_option maxRecDepth 100000 in
theorem in_X9_hasRoomFor : Cond.initialized yX9_hasRoomFor.cls ∈ lw_tbl := tb (i := 136) (by decide +kernel)
set_option maxRecDepth 100000 in
theorem im_X9_hasRoomFor : Cond.instanceMethod yX9_hasRoomFor ∈ lw_tbl ∧ Cond.selects yX9_hasRoomFor.cls yX9_hasRoomFor yX9_hasRoomFor ∈ lw_tbl := ⟨tb (i := 761) (by decide +kernel), tb (i := 762) (by decide +kernel)⟩
set_option maxRecDepth 100000 in
theorem co_X9_init : Cond.code yX9_init cX9_init 1 none ∈ lw_tbl := tb (i := 386) (by decide +kernel)
set_option maxRecDepth 100000 in
theorem in_X9_init : Cond.initialized yX9_init.cls ∈ lw_tbl := tb (i := 136) (by decide +kernel)
set_option maxRecDepth 100000 in
theorem co_X9_isBlank : Cond.code yX9_isBlank cX9_isBlank 1 (some .boolean) ∈ lw_tbl := tb (i := 786) (by decide +kernel)
set_option maxRecDepth 100000 in
theorem in_X9_isBlank : Cond.initialized yX9_isBlank.cls ∈ lw_tbl := tb (i := 136) (by decide +kernel)
set_option maxRecDepth 100000 in
theorem sm_X9_isBlank : Cond.static yX9_isBlank ∈ lw_tbl := tb (i := 785) (by decide +kernel)
set_option maxRecDepth 100000 in
theorem co_X9_isDigit : Cond.code yX9_isDigit cX9_isDigit 1 (some .boolean) ∈ lw_tbl := tb (i := 862) (by decide +kernel)
set_option maxRecDepth 100000 in
theorem in_X9_isDigit : Cond.initialized yX9_isDigit.cls ∈ lw_tbl := tb (i := 136) (by decide +kernel)
set_option maxRecDepth 100000 in
theorem sm_X9_isDigit : Cond.static yX9_isDigit ∈ lw_tbl := tb (i := 861) (by decide +kernel)
set_option maxRecDepth 100000 in
theorem co_X9_isLetter : Cond.code yX9_isLetter cX9_isLetter 1 (some .boolean) ∈ lw_tbl := tb (i := 793) (by decide +kernel)
set_option maxRecDepth 100000 in
theorem in_X9_isLetter : Cond.initialized yX9_isLetter.cls ∈ lw_tbl := tb (i := 136) (by decide +kernel)
set_option maxRecDepth 100000 in
theorem sm_X9_isLetter : Cond.static yX9_isLetter ∈ lw_tbl := tb (i := 792) (by decide +kernel)
set_option maxRecDepth 100000 in
theorem co_X9_isWordAt : Cond.code yX9_isWordAt cX9_isWordAt 5 (some .boolean) ∈ lw_tbl := tb (i := 855) (by decide +kernel)
set_option maxRecDepth 100000 in
theorem in_X9_isWordAt : Cond.initialized yX9_isWordAt.cls ∈ lw_tbl := tb (i := 136) (by decide +kernel)
set_option maxRecDepth 100000 in
theorem im_X9_isWordAt : Cond.instanceMethod yX9_isWordAt ∈ lw_tbl ∧ Cond.selects yX9_isWordAt.cls yX9_isWordAt yX9_isWordAt ∈ lw_tbl := ⟨tb (i := 854) (by decide +kernel), tb (i := 20) (by decide +kernel)⟩
set_option maxRecDepth 100000 in
theorem co_X9_numberBetween : Cond.code yX9_numberBetween cX9_numberBetween 5 (some .int) ∈ lw_tbl := tb (i := 870) (by decide +kernel)
set_option maxRecDepth 100000 in
theorem in_X9_numberBetween : Cond.initialized yX9_numberBetween.cls ∈ lw_tbl := tb (i := 136) (by decide +kernel)
set_option maxRecDepth 100000 in
theorem im_X9_numberBetween : Cond.instanceMethod yX9_numberBetween ∈ lw_tbl ∧ Cond.selects yX9_numberBetween.cls yX9_numberBetween yX9_numberBetween ∈ lw_tbl := ⟨tb (i := 869) (by decide +kernel), tb (i := 23) (by decide +kernel)⟩
set_option maxRecDepth 100000 in
theorem co_X9_split : Cond.code yX9_split cX9_split 3 none ∈ lw_tbl := tb (i := 779) (by decide +kernel)
set_option maxRecDepth 100000 in
theorem in_X9_split : Cond.initialized yX9_split.cls ∈ lw_tbl := tb (i := 136) (by decide +kernel)
set_option maxRecDepth 100000 in
theorem im_X9_split : Cond.instanceMethod yX9_split ∈ lw_tbl ∧ Cond.selects yX9_split.cls yX9_split yX9_split ∈ lw_tbl := ⟨tb (i := 777) (by decide +kernel), tb (i := 778) (by decide +kernel)⟩
set_option maxRecDepth 100000 in
theorem co_X9_splitOne : Cond.code yX9_splitOne cX9_splitOne 5 (some .int) ∈ lw_tbl := tb (i := 790) (by decide +kernel)
set_option maxRecDepth 100000 in
theorem in_X9_splitOne : Cond.initialized yX9_splitOne.cls ∈ lw_tbl := tb (i := 136) (by decide +kernel)
set_option maxRecDepth 100000 in
theorem im_X9_splitOne : Cond.instanceMethod yX9_splitOne ∈ lw_tbl ∧ Cond.selects yX9_splitOne.cls yX9_splitOne yX9_splitOne ∈ lw_tbl := ⟨tb (i := 789) (by decide +kernel), tb (i := 17) (by decide +kernel)⟩
set_option maxRecDepth 100000 in
theorem co_X9_take : Cond.code yX9_take cX9_take 1 none ∈ lw_tbl := tb (i := 904) (by decide +kernel)
set_option maxRecDepth 100000 in
theorem in_X9_take : Cond.initialized yX9_take.cls ∈ lw_tbl := tb (i := 136) (by decide +kernel)
set_option maxRecDepth 100000 in
theorem im_X9_take : Cond.instanceMethod yX9_take ∈ lw_tbl ∧ Cond.selects yX9_take.cls yX9_take yX9_take ∈ lw_tbl := ⟨tb (i := 902) (by decide +kernel), tb (i := 903) (by decide +kernel)⟩
set_option maxRecDepth 100000 in
theorem co_X9_takes : Cond.code yX9_takes cX9_takes 2 (some .boolean) ∈ lw_tbl := tb (i := 948) (by decide +kernel)
set_option maxRecDepth 100000 in
theorem in_X9_takes : Cond.initialized yX9_takes.cls ∈ lw_tbl := tb (i := 136) (by decide +kernel)
set_option maxRecDepth 100000 in
theorem im_X9_takes : Cond.instanceMethod yX9_takes ∈ lw_tbl ∧ Cond.selects yX9_takes.cls yX9_takes yX9_takes ∈ lw_tbl := ⟨tb (i := 946) (by decide +kernel), tb (i := 947) (by decide +kernel)⟩
set_option maxRecDepth 100000 in
theorem co_X9_type : Cond.code yX9_type cX9_type 1 (some .int) ∈ lw_tbl := tb (i := 886) (by decide +kernel)
set_option maxRecDepth 100000 in
theorem in_X9_type : Cond.initialized yX9_type.cls ∈ lw_tbl := tb (i := 136) (by decide +kernel)
set_option maxRecDepth 100000 in
theorem im_X9_type : Cond.instanceMethod yX9_type ∈ lw_tbl ∧ Cond.selects yX9_type.cls yX9_type yX9_type ∈ lw_tbl := ⟨tb (i := 884) (by decide +kernel), tb (i := 885) (by decide +kernel)⟩
set_option maxRecDepth 100000 in
theorem co_X9_value : Cond.code yX9_value cX9_value 1 (some .int) ∈ lw_tbl := tb (i := 921) (by decide +kernel)
set_option maxRecDepth 100000 in
theorem in_X9_value : Cond.initialized yX9_value.cls ∈ lw_tbl := tb (i := 136) (by decide +kernel)
set_option maxRecDepth 100000 in
theorem im_X9_value : Cond.instanceMethod yX9_value ∈ lw_tbl ∧ Cond.selects yX9_value.cls yX9_value yX9_value ∈ lw_tbl := ⟨tb (i := 919) (by decide +kernel), tb (i := 920) (by decide +kernel)⟩
set_option maxRecDepth 100000 in
theorem co_X9_wordBetween : Cond.code yX9_wordBetween cX9_wordBetween 6 (some .int) ∈ lw_tbl := tb (i := 802) (by decide +kernel)
set_option maxRecDepth 100000 in
theorem in_X9_wordBetween : Cond.initialized yX9_wordBetween.cls ∈ lw_tbl := tb (i := 136) (by decide +kernel)
set_option maxRecDepth 100000 in
theorem im_X9_wordBetween : Cond.instanceMethod yX9_wordBetween ∈ lw_tbl ∧ Cond.selects yX9_wordBetween.cls yX9_wordBetween yX9_wordBetween ∈ lw_tbl := ⟨tb (i := 801) (by decide +kernel), tb (i := 19) (by decide +kernel)⟩
set_option maxRecDepth 100000 in
theorem fl_X10_12 : FL RX10 12 10 0 := ⟨by decide, by decide, Or.inl (tb (i := 468) (by decide +kernel))⟩
set_option maxRecDepth 100000 in
theorem fl_X10_16 : FL RX10 16 10 1 := ⟨by decide, by decide, Or.inl (tb (i := 469) (by decide +kernel))⟩
set_option maxRecDepth 100000 in
theorem fl_X10_19 : FL RX10 19 10 2 := ⟨by decide, by decide, Or.inl (tb (i := 470) (by decide +kernel))⟩
set_option maxRecDepth 100000 in
theorem fl_X10_25 : FL RX10 25 10 3 := ⟨by decide, by decide, Or.inl (tb (i := 471) (by decide +kernel))⟩
set_option maxRecDepth 100000 in
theorem fl_X10_29 : FL RX10 29 10 4 := ⟨by decide, by decide, Or.inl (tb (i := 472) (by decide +kernel))⟩
set_option maxRecDepth 100000 in
theorem fl_X10_35 : FL RX10 35 10 5 := ⟨by decide, by decide, Or.inl (tb (i := 473) (by decide +kernel))⟩
set_option maxRecDepth 100000 in
theorem fl_X10_42 : FL RX10 42 10 6 := ⟨by decide, by decide, Or.inl (tb (i := 474) (by decide +kernel))⟩
set_option maxRecDepth 100000 in
theorem fl_X10_51 : FL RX10 51 10 7 := ⟨by decide, by decide, Or.inl (tb (i := 475) (by decide +kernel))⟩
set_option maxRecDepth 100000 in
theorem fl_X10_58 : FL RX10 58 10 8 := ⟨by decide, by decide, Or.inl (tb (i := 476) (by decide +kernel))⟩
set_option maxRecDepth 100000 in
theorem fl_X10_65 : FL RX10 65 10 9 := ⟨by decide, by decide, Or.inl (tb (i := 477) (by decide +kernel))⟩
set_option maxRecDepth 100000 in
theorem fl_X10_69 : FL RX10 69 10 10 := ⟨by decide, by decide, Or.inl (tb (i := 478) (by decide +kernel))⟩
set_option maxRecDepth 100000 in
theorem fl_X10_73 : FL RX10 73 6 9 := ⟨by decide, by decide, Or.inr ⟨"CrustMarket", tb (i := 273) (by decide +kernel)⟩⟩
set_option maxRecDepth 100000 in
theorem fl_X10_84 : FL RX10 84 6 11 := ⟨by decide, by decide, Or.inr ⟨"CrustMarket", tb (i := 280) (by decide +kernel)⟩⟩
set_option maxRecDepth 100000 in
theorem fl_X10_87 : FL RX10 87 6 13 := ⟨by decide, by decide, Or.inr ⟨"CrustMarket", tb (i := 286) (by decide +kernel)⟩⟩
set_option maxRecDepth 100000 in
theorem fl_X10_90 : FL RX10 90 6 14 := ⟨by decide, by decide, Or.inr ⟨"CrustMarket", tb (i := 288) (by decide +kernel)⟩⟩
set_option maxRecDepth 100000 in
theorem fl_X10_123 : FL RX10 123 6 4 := ⟨by decide, by decide, Or.inr ⟨"CrustMarket", tb (i := 264) (by decide +kernel)⟩⟩
set_option maxRecDepth 100000 in
theorem fl_X10_137 : FL RX10 137 6 10 := ⟨by decide, by decide, Or.inr ⟨"CrustMarket", tb (i := 278) (by decide +kernel)⟩⟩
set_option maxRecDepth 100000 in
theorem fl_X10_155 : FL RX10 155 9 4 := ⟨by decide, by decide, Or.inr ⟨"CrustMarket", tb (i := 393) (by decide +kernel)⟩⟩
set_option maxRecDepth 100000 in
theorem fl_X10_161 : FL RX10 161 6 6 := ⟨by decide, by decide, Or.inr ⟨"CrustMarket", tb (i := 269) (by decide +kernel)⟩⟩
set_option maxRecDepth 100000 in
theorem fl_X10_173 : FL RX10 173 6 0 := ⟨by decide, by decide, Or.inr ⟨"CrustMarket", tb (i := 254) (by decide +kernel)⟩⟩
set_option maxRecDepth 100000 in
theorem fl_X10_176 : FL RX10 176 8 3 := ⟨by decide, by decide, Or.inr ⟨"CrustMarket", tb (i := 177) (by decide +kernel)⟩⟩
set_option maxRecDepth 100000 in
theorem fl_X10_187 : FL RX10 187 9 7 := ⟨by decide, by decide, Or.inr ⟨"CrustMarket", tb (i := 397) (by decide +kernel)⟩⟩
set_option maxRecDepth 100000 in
theorem fl_X10_190 : FL RX10 190 9 8 := ⟨by decide, by decide, Or.inr ⟨"CrustMarket", tb (i := 399) (by decide +kernel)⟩⟩
set_option maxRecDepth 100000 in
theorem fl_X10_214 : FL RX10 214 6 2 := ⟨by decide, by decide, Or.inr ⟨"CrustMarket", tb (i := 258) (by decide +kernel)⟩⟩
set_option maxRecDepth 100000 in
theorem fl_X10_217 : FL RX10 217 6 5 := ⟨by decide, by decide, Or.inr ⟨"CrustMarket", tb (i := 267) (by decide +kernel)⟩⟩
set_option maxRecDepth 100000 in
theorem fl_X10_235 : FL RX10 235 6 7 := ⟨by decide, by decide, Or.inr ⟨"CrustMarket", tb (i := 271) (by decide +kernel)⟩⟩
set_option maxRecDepth 100000 in
theorem fl_X10_251 : FL RX10 251 5 0 := ⟨by decide, by decide, Or.inr ⟨"CrustMarket", tb (i := 336) (by decide +kernel)⟩⟩
set_option maxRecDepth 100000 in
theorem fl_X10_274 : FL RX10 274 5 1 := ⟨by decide, by decide, Or.inr ⟨"CrustMarket", tb (i := 338) (by decide +kernel)⟩⟩
set_option maxRecDepth 100000 in
theorem fl_X10_293 : FL RX10 293 0 3 := ⟨by decide, by decide, Or.inr ⟨"CrustMarket", tb (i := 454) (by decide +kernel)⟩⟩
set_option maxRecDepth 100000 in
theorem fl_X10_296 : FL RX10 296 0 4 := ⟨by decide, by decide, Or.inr ⟨"CrustMarket", tb (i := 456) (by decide +kernel)⟩⟩
set_option maxRecDepth 100000 in
theorem fl_X10_305 : FL RX10 305 5 2 := ⟨by decide, by decide, Or.inr ⟨"CrustMarket", tb (i := 340) (by decide +kernel)⟩⟩
set_option maxRecDepth 100000 in
theorem fl_X10_314 : FL RX10 314 5 3 := ⟨by decide, by decide, Or.inr ⟨"CrustMarket", tb (i := 342) (by decide +kernel)⟩⟩
set_option maxRecDepth 100000 in
theorem fl_X10_333 : FL RX10 333 6 12 := ⟨by decide, by decide, Or.inr ⟨"CrustMarket", tb (i := 284) (by decide +kernel)⟩⟩
set_option maxRecDepth 100000 in
theorem fl_X10_336 : FL RX10 336 6 15 := ⟨by decide, by decide, Or.inr ⟨"CrustMarket", tb (i := 291) (by decide +kernel)⟩⟩
set_option maxRecDepth 100000 in
theorem fl_X10_342 : FL RX10 342 2 7 := ⟨by decide, by decide, Or.inr ⟨"CrustMarket", tb (i := 204) (by decide +kernel)⟩⟩
set_option maxRecDepth 100000 in
theorem fl_X10_347 : FL RX10 347 6 1 := ⟨by decide, by decide, Or.inr ⟨"CrustMarket", tb (i := 256) (by decide +kernel)⟩⟩
set_option maxRecDepth 100000 in
theorem fl_X10_350 : FL RX10 350 6 3 := ⟨by decide, by decide, Or.inr ⟨"CrustMarket", tb (i := 261) (by decide +kernel)⟩⟩
set_option maxRecDepth 100000 in
theorem fl_X10_353 : FL RX10 353 7 2 := ⟨by decide, by decide, Or.inr ⟨"CrustMarket", tb (i := 371) (by decide +kernel)⟩⟩
set_option maxRecDepth 100000 in
theorem fl_X0_11 : FL RX0 11 0 0 := ⟨by decide, by decide, Or.inl (tb (i := 450) (by decide +kernel))⟩
set_option maxRecDepth 100000 in
theorem fl_X0_15 : FL RX0 15 0 1 := ⟨by decide, by decide, Or.inl (tb (i := 451) (by decide +kernel))⟩
set_option maxRecDepth 100000 in
theorem fl_X0_18 : FL RX0 18 0 2 := ⟨by decide, by decide, Or.inl (tb (i := 452) (by decide +kernel))⟩
set_option maxRecDepth 100000 in
theorem fl_X0_21 : FL RX0 21 8 3 := ⟨by decide, by decide, Or.inr ⟨"CrustMarket", tb (i := 172) (by decide +kernel)⟩⟩
set_option maxRecDepth 100000 in
theorem fl_X0_51 : FL RX0 51 6 3 := ⟨by decide, by decide, Or.inr ⟨"CrustMarket", tb (i := 260) (by decide +kernel)⟩⟩
set_option maxRecDepth 100000 in
theorem fl_X0_55 : FL RX0 55 0 3 := ⟨by decide, by decide, Or.inl (tb (i := 453) (by decide +kernel))⟩
set_option maxRecDepth 100000 in
theorem fl_X0_58 : FL RX0 58 0 4 := ⟨by decide, by decide, Or.inl (tb (i := 455) (by decide +kernel))⟩
set_option maxRecDepth 100000 in
theorem fl_X1_9 : FL RX1 9 1 0 := ⟨by decide, by decide, Or.inl (tb (i := 231) (by decide +kernel))⟩
set_option maxRecDepth 100000 in
theorem fl_X1_15 : FL RX1 15 1 1 := ⟨by decide, by decide, Or.inl (tb (i := 232) (by decide +kernel))⟩
set_option maxRecDepth 100000 in
theorem fl_X1_18 : FL RX1 18 1 2 := ⟨by decide, by decide, Or.inl (tb (i := 233) (by decide +kernel))⟩
set_option maxRecDepth 100000 in
theorem fl_X1_29 : FL RX1 29 1 4 := ⟨by decide, by decide, Or.inl (tb (i := 235) (by decide +kernel))⟩
set_option maxRecDepth 100000 in
theorem fl_X1_38 : FL RX1 38 1 5 := ⟨by decide, by decide, Or.inl (tb (i := 236) (by decide +kernel))⟩
set_option maxRecDepth 100000 in
theorem fl_X1_41 : FL RX1 41 1 6 := ⟨by decide, by decide, Or.inl (tb (i := 237) (by decide +kernel))⟩
set_option maxRecDepth 100000 in
theorem fl_X1_44 : FL RX1 44 1 3 := ⟨by decide, by decide, Or.inl (tb (i := 234) (by decide +kernel))⟩
set_option maxRecDepth 100000 in
theorem fl_X1_51 : FL RX1 51 8 3 := ⟨by decide, by decide, Or.inr ⟨"CrustMarket", tb (i := 174) (by decide +kernel)⟩⟩
set_option maxRecDepth 100000 in
theorem fl_X2_11 : FL RX2 11 2 0 := ⟨by decide, by decide, Or.inl (tb (i := 195) (by decide +kernel))⟩
set_option maxRecDepth 100000 in
theorem fl_X2_15 : FL RX2 15 2 1 := ⟨by decide, by decide, Or.inl (tb (i := 196) (by decide +kernel))⟩
set_option maxRecDepth 100000 in
theorem fl_X2_18 : FL RX2 18 2 2 := ⟨by decide, by decide, Or.inl (tb (i := 197) (by decide +kernel))⟩
set_option maxRecDepth 100000 in
theorem fl_X2_21 : FL RX2 21 2 3 := ⟨by decide, by decide, Or.inl (tb (i := 198) (by decide +kernel))⟩
set_option maxRecDepth 100000 in
theorem fl_X2_24 : FL RX2 24 2 4 := ⟨by decide, by decide, Or.inl (tb (i := 199) (by decide +kernel))⟩
set_option maxRecDepth 100000 in
theorem fl_X2_27 : FL RX2 27 2 5 := ⟨by decide, by decide, Or.inl (tb (i := 200) (by decide +kernel))⟩
set_option maxRecDepth 100000 in
theorem fl_X2_30 : FL RX2 30 2 6 := ⟨by decide, by decide, Or.inl (tb (i := 201) (by decide +kernel))⟩
set_option maxRecDepth 100000 in
theorem fl_X2_33 : FL RX2 33 2 7 := ⟨by decide, by decide, Or.inl (tb (i := 202) (by decide +kernel))⟩
set_option maxRecDepth 100000 in
theorem fl_X2_37 : FL RX2 37 2 8 := ⟨by decide, by decide, Or.inl (tb (i := 205) (by decide +kernel))⟩
set_option maxRecDepth 100000 in
theorem fl_X3_12 : FL RX3 12 3 1 := ⟨by decide, by decide, Or.inl (tb (i := 438) (by decide +kernel))⟩
set_option maxRecDepth 100000 in
theorem fl_X3_18 : FL RX3 18 3 0 := ⟨by decide, by decide, Or.inl (tb (i := 437) (by decide +kernel))⟩
set_option maxRecDepth 100000 in
theorem fl_X3_38 : FL RX3 38 2 7 := ⟨by decide, by decide, Or.inr ⟨"CrustMarket", tb (i := 203) (by decide +kernel)⟩⟩
set_option maxRecDepth 100000 in
theorem fl_X4_9 : FL RX4 9 4 0 := ⟨by decide, by decide, Or.inl (tb (i := 425) (by decide +kernel))⟩
set_option maxRecDepth 100000 in
theorem fl_X4_60 : FL RX4 60 8 3 := ⟨by decide, by decide, Or.inr ⟨"CrustMarket", tb (i := 176) (by decide +kernel)⟩⟩
set_option maxRecDepth 100000 in
theorem fl_X5_16 : FL RX5 16 5 0 := ⟨by decide, by decide, Or.inl (tb (i := 335) (by decide +kernel))⟩
set_option maxRecDepth 100000 in
theorem fl_X5_20 : FL RX5 20 5 1 := ⟨by decide, by decide, Or.inl (tb (i := 337) (by decide +kernel))⟩
set_option maxRecDepth 100000 in
theorem fl_X5_23 : FL RX5 23 5 2 := ⟨by decide, by decide, Or.inl (tb (i := 339) (by decide +kernel))⟩
set_option maxRecDepth 100000 in
theorem fl_X5_26 : FL RX5 26 5 3 := ⟨by decide, by decide, Or.inl (tb (i := 341) (by decide +kernel))⟩
set_option maxRecDepth 100000 in
theorem fl_X5_31 : FL RX5 31 5 4 := ⟨by decide, by decide, Or.inl (tb (i := 343) (by decide +kernel))⟩
set_option maxRecDepth 100000 in
theorem fl_X5_34 : FL RX5 34 5 5 := ⟨by decide, by decide, Or.inl (tb (i := 344) (by decide +kernel))⟩
set_option maxRecDepth 100000 in
theorem fl_X5_42 : FL RX5 42 8 3 := ⟨by decide, by decide, Or.inr ⟨"CrustMarket", tb (i := 173) (by decide +kernel)⟩⟩
set_option maxRecDepth 100000 in
theorem fl_X6_14 : FL RX6 14 6 0 := ⟨by decide, by decide, Or.inl (tb (i := 253) (by decide +kernel))⟩
set_option maxRecDepth 100000 in
theorem fl_X6_20 : FL RX6 20 6 1 := ⟨by decide, by decide, Or.inl (tb (i := 255) (by decide +kernel))⟩
set_option maxRecDepth 100000 in
theorem fl_X6_23 : FL RX6 23 6 2 := ⟨by decide, by decide, Or.inl (tb (i := 257) (by decide +kernel))⟩
set_option maxRecDepth 100000 in
theorem fl_X6_26 : FL RX6 26 6 3 := ⟨by decide, by decide, Or.inl (tb (i := 259) (by decide +kernel))⟩
set_option maxRecDepth 100000 in
theorem fl_X6_29 : FL RX6 29 6 4 := ⟨by decide, by decide, Or.inl (tb (i := 262) (by decide +kernel))⟩
set_option maxRecDepth 100000 in
theorem fl_X6_32 : FL RX6 32 6 5 := ⟨by decide, by decide, Or.inl (tb (i := 265) (by decide +kernel))⟩
set_option maxRecDepth 100000 in
theorem fl_X6_38 : FL RX6 38 6 6 := ⟨by decide, by decide, Or.inl (tb (i := 268) (by decide +kernel))⟩
set_option maxRecDepth 100000 in
theorem fl_X6_45 : FL RX6 45 6 7 := ⟨by decide, by decide, Or.inl (tb (i := 270) (by decide +kernel))⟩
set_option maxRecDepth 100000 in
theorem fl_X6_49 : FL RX6 49 6 8 := ⟨by decide, by decide, Or.inl (tb (i := 272) (by decide +kernel))⟩
set_option maxRecDepth 100000 in
theorem fl_X6_53 : FL RX6 53 6 11 := ⟨by decide, by decide, Or.inl (tb (i := 279) (by decide +kernel))⟩
set_option maxRecDepth 100000 in
theorem fl_X6_64 : FL RX6 64 6 9 := ⟨by decide, by decide, Or.inl (tb (i := 274) (by decide +kernel))⟩
set_option maxRecDepth 100000 in
theorem fl_X6_67 : FL RX6 67 6 10 := ⟨by decide, by decide, Or.inl (tb (i := 276) (by decide +kernel))⟩
set_option maxRecDepth 100000 in
theorem fl_X6_70 : FL RX6 70 6 12 := ⟨by decide, by decide, Or.inl (tb (i := 282) (by decide +kernel))⟩
set_option maxRecDepth 100000 in
theorem fl_X6_73 : FL RX6 73 6 13 := ⟨by decide, by decide, Or.inl (tb (i := 285) (by decide +kernel))⟩
set_option maxRecDepth 100000 in
theorem fl_X6_76 : FL RX6 76 6 14 := ⟨by decide, by decide, Or.inl (tb (i := 287) (by decide +kernel))⟩
set_option maxRecDepth 100000 in
theorem fl_X6_79 : FL RX6 79 6 15 := ⟨by decide, by decide, Or.inl (tb (i := 289) (by decide +kernel))⟩
set_option maxRecDepth 100000 in
theorem fl_X6_116 : FL RX6 116 8 3 := ⟨by decide, by decide, Or.inr ⟨"CrustMarket", tb (i := 178) (by decide +kernel)⟩⟩
set_option maxRecDepth 100000 in
theorem fl_X7_13 : FL RX7 13 7 0 := ⟨by decide, by decide, Or.inl (tb (i := 368) (by decide +kernel))⟩
set_option maxRecDepth 100000 in
theorem fl_X7_19 : FL RX7 19 7 1 := ⟨by decide, by decide, Or.inl (tb (i := 369) (by decide +kernel))⟩
set_option maxRecDepth 100000 in
theorem fl_X7_25 : FL RX7 25 7 2 := ⟨by decide, by decide, Or.inl (tb (i := 370) (by decide +kernel))⟩
set_option maxRecDepth 100000 in
theorem fl_X7_29 : FL RX7 29 7 3 := ⟨by decide, by decide, Or.inl (tb (i := 372) (by decide +kernel))⟩
set_option maxRecDepth 100000 in
theorem fl_X7_32 : FL RX7 32 6 4 := ⟨by decide, by decide, Or.inr ⟨"CrustMarket", tb (i := 263) (by decide +kernel)⟩⟩
set_option maxRecDepth 100000 in
theorem fl_X7_41 : FL RX7 41 6 9 := ⟨by decide, by decide, Or.inr ⟨"CrustMarket", tb (i := 275) (by decide +kernel)⟩⟩
set_option maxRecDepth 100000 in
theorem fl_X7_44 : FL RX7 44 6 10 := ⟨by decide, by decide, Or.inr ⟨"CrustMarket", tb (i := 277) (by decide +kernel)⟩⟩
set_option maxRecDepth 100000 in
theorem fl_X7_47 : FL RX7 47 6 11 := ⟨by decide, by decide, Or.inr ⟨"CrustMarket", tb (i := 281) (by decide +kernel)⟩⟩
set_option maxRecDepth 100000 in
theorem fl_X7_50 : FL RX7 50 6 12 := ⟨by decide, by decide, Or.inr ⟨"CrustMarket", tb (i := 283) (by decide +kernel)⟩⟩
set_option maxRecDepth 100000 in
theorem fl_X7_53 : FL RX7 53 6 15 := ⟨by decide, by decide, Or.inr ⟨"CrustMarket", tb (i := 290) (by decide +kernel)⟩⟩
set_option maxRecDepth 100000 in
theorem fl_X7_60 : FL RX7 60 6 5 := ⟨by decide, by decide, Or.inr ⟨"CrustMarket", tb (i := 266) (by decide +kernel)⟩⟩
set_option maxRecDepth 100000 in
theorem fl_X7_63 : FL RX7 63 8 3 := ⟨by decide, by decide, Or.inr ⟨"CrustMarket", tb (i := 175) (by decide +kernel)⟩⟩
set_option maxRecDepth 100000 in
theorem fl_X8_9 : FL RX8 9 8 0 := ⟨by decide, by decide, Or.inl (tb (i := 168) (by decide +kernel))⟩
set_option maxRecDepth 100000 in
theorem fl_X8_15 : FL RX8 15 8 1 := ⟨by decide, by decide, Or.inl (tb (i := 169) (by decide +kernel))⟩
set_option maxRecDepth 100000 in
theorem fl_X8_18 : FL RX8 18 8 2 := ⟨by decide, by decide, Or.inl (tb (i := 170) (by decide +kernel))⟩
set_option maxRecDepth 100000 in
theorem fl_X8_22 : FL RX8 22 8 3 := ⟨by decide, by decide, Or.inl (tb (i := 171) (by decide +kernel))⟩
set_option maxRecDepth 100000 in
theorem fl_X9_9 : FL RX9 9 9 0 := ⟨by decide, by decide, Or.inl (tb (i := 388) (by decide +kernel))⟩
set_option maxRecDepth 100000 in
theorem fl_X9_15 : FL RX9 15 9 1 := ⟨by decide, by decide, Or.inl (tb (i := 389) (by decide +kernel))⟩
set_option maxRecDepth 100000 in
theorem fl_X9_18 : FL RX9 18 9 2 := ⟨by decide, by decide, Or.inl (tb (i := 390) (by decide +kernel))⟩
set_option maxRecDepth 100000 in
theorem fl_X9_21 : FL RX9 21 9 3 := ⟨by decide, by decide, Or.inl (tb (i := 391) (by decide +kernel))⟩
set_option maxRecDepth 100000 in
theorem fl_X9_24 : FL RX9 24 9 8 := ⟨by decide, by decide, Or.inl (tb (i := 398) (by decide +kernel))⟩
set_option maxRecDepth 100000 in
theorem fl_X9_28 : FL RX9 28 9 4 := ⟨by decide, by decide, Or.inl (tb (i := 392) (by decide +kernel))⟩
set_option maxRecDepth 100000 in
theorem fl_X9_31 : FL RX9 31 9 5 := ⟨by decide, by decide, Or.inl (tb (i := 394) (by decide +kernel))⟩
set_option maxRecDepth 100000 in
theorem fl_X9_34 : FL RX9 34 9 6 := ⟨by decide, by decide, Or.inl (tb (i := 395) (by decide +kernel))⟩
set_option maxRecDepth 100000 in
theorem fl_X9_37 : FL RX9 37 9 7 := ⟨by decide, by decide, Or.inl (tb (i := 396) (by decide +kernel))⟩
set_option maxRecDepth 100000 in
theorem fl_X11_7 : FL RX11 7 11 0 := ⟨by decide, by decide, Or.inl (tb (i := 1306) (by decide +kernel))⟩
set_option maxRecDepth 100000 in
theorem fl_X11_13 : FL RX11 13 11 1 := ⟨by decide, by decide, Or.inl (tb (i := 1307) (by decide +kernel))⟩
set_option maxRecDepth 100000 in
theorem fl_X11_16 : FL RX11 16 11 2 := ⟨by decide, by decide, Or.inl (tb (i := 1308) (by decide +kernel))⟩
set_option maxRecDepth 100000 in
theorem fl_X11_19 : FL RX11 19 11 3 := ⟨by decide, by decide, Or.inl (tb (i := 1309) (by decide +kernel))⟩
set_option maxRecDepth 100000 in
theorem fl_X11_22 : FL RX11 22 11 6 := ⟨by decide, by decide, Or.inl (tb (i := 1312) (by decide +kernel))⟩
set_option maxRecDepth 100000 in
theorem fl_X11_25 : FL RX11 25 11 7 := ⟨by decide, by decide, Or.inl (tb (i := 1313) (by decide +kernel))⟩
set_option maxRecDepth 100000 in
theorem fl_X11_28 : FL RX11 28 11 8 := ⟨by decide, by decide, Or.inl (tb (i := 1314) (by decide +kernel))⟩
set_option maxRecDepth 100000 in
theorem fl_X11_31 : FL RX11 31 11 9 := ⟨by decide, by decide, Or.inl (tb (i := 1315) (by decide +kernel))⟩
set_option maxRecDepth 100000 in
theorem fl_X11_34 : FL RX11 34 11 10 := ⟨by decide, by decide, Or.inl (tb (i := 1316) (by decide +kernel))⟩
set_option maxRecDepth 100000 in
theorem fl_X11_37 : FL RX11 37 11 11 := ⟨by decide, by decide, Or.inl (tb (i := 1317) (by decide +kernel))⟩
set_option maxRecDepth 100000 in
theorem fl_X11_40 : FL RX11 40 11 25 := ⟨by decide, by decide, Or.inl (tb (i := 1331) (by decide +kernel))⟩
set_option maxRecDepth 100000 in
theorem fl_X11_44 : FL RX11 44 11 27 := ⟨by decide, by decide, Or.inl (tb (i := 1333) (by decide +kernel))⟩
set_option maxRecDepth 100000 in
theorem fl_X11_47 : FL RX11 47 11 28 := ⟨by decide, by decide, Or.inl (tb (i := 1334) (by decide +kernel))⟩
set_option maxRecDepth 100000 in
theorem fl_X11_50 : FL RX11 50 11 29 := ⟨by decide, by decide, Or.inl (tb (i := 1335) (by decide +kernel))⟩
set_option maxRecDepth 100000 in
theorem fl_X11_61 : FL RX11 61 11 4 := ⟨by decide, by decide, Or.inl (tb (i := 1310) (by decide +kernel))⟩
set_option maxRecDepth 100000 in
theorem fl_X11_69 : FL RX11 69 11 16 := ⟨by decide, by decide, Or.inl (tb (i := 1322) (by decide +kernel))⟩
set_option maxRecDepth 100000 in
theorem fl_X11_72 : FL RX11 72 11 17 := ⟨by decide, by decide, Or.inl (tb (i := 1323) (by decide +kernel))⟩
set_option maxRecDepth 100000 in
theorem fl_X11_75 : FL RX11 75 11 19 := ⟨by decide, by decide, Or.inl (tb (i := 1325) (by decide +kernel))⟩
set_option maxRecDepth 100000 in
theorem fl_X11_139 : FL RX11 139 11 12 := ⟨by decide, by decide, Or.inl (tb (i := 1318) (by decide +kernel))⟩
set_option maxRecDepth 100000 in
theorem fl_X11_160 : FL RX11 160 11 18 := ⟨by decide, by decide, Or.inl (tb (i := 1324) (by decide +kernel))⟩
set_option maxRecDepth 100000 in
theorem fl_X11_173 : FL RX11 173 11 20 := ⟨by decide, by decide, Or.inl (tb (i := 1326) (by decide +kernel))⟩
set_option maxRecDepth 100000 in
theorem fl_X11_176 : FL RX11 176 11 21 := ⟨by decide, by decide, Or.inl (tb (i := 1327) (by decide +kernel))⟩
set_option maxRecDepth 100000 in
theorem fl_X11_179 : FL RX11 179 11 22 := ⟨by decide, by decide, Or.inl (tb (i := 1328) (by decide +kernel))⟩
set_option maxRecDepth 100000 in
theorem fl_X11_188 : FL RX11 188 11 14 := ⟨by decide, by decide, Or.inl (tb (i := 1320) (by decide +kernel))⟩
set_option maxRecDepth 100000 in
theorem fl_X11_191 : FL RX11 191 11 24 := ⟨by decide, by decide, Or.inl (tb (i := 1330) (by decide +kernel))⟩
set_option maxRecDepth 100000 in
theorem fl_X11_223 : FL RX11 223 11 13 := ⟨by decide, by decide, Or.inl (tb (i := 1319) (by decide +kernel))⟩
set_option maxRecDepth 100000 in
theorem fl_X11_232 : FL RX11 232 11 15 := ⟨by decide, by decide, Or.inl (tb (i := 1321) (by decide +kernel))⟩
set_option maxRecDepth 100000 in
theorem fl_X11_267 : FL RX11 267 11 23 := ⟨by decide, by decide, Or.inl (tb (i := 1329) (by decide +kernel))⟩
set_option maxRecDepth 100000 in
theorem fl_X11_309 : FL RX11 309 11 26 := ⟨by decide, by decide, Or.inl (tb (i := 1332) (by decide +kernel))⟩
set_option maxRecDepth 100000 in
theorem fl_X11_443 : FL RX11 443 11 5 := ⟨by decide, by decide, Or.inl (tb (i := 1311) (by decide +kernel))⟩
set_option maxRecDepth 100000 in
theorem cl_X10_11 : CL RX10 11 yX6_init cX6_init 1 none 0 := ⟨Or.inr ⟨"CrustMarket", tb (i := 158) (by decide +kernel)⟩, co_X6_init, in_X6_init, by decide +kernel, by decide⟩
set_option maxRecDepth 100000 in
theorem cl_X10_24 : CL RX10 24 yX5_init cX5_init 1 none 0 := ⟨Or.inr ⟨"CrustMarket", tb (i := 327) (by decide +kernel)⟩, co_X5_init, in_X5_init, by decide +kernel, by decide⟩
set_option maxRecDepth 100000 in
theorem cl_X10_34 : CL RX10 34 yX7_init cX7_init 2 none 0 := ⟨Or.inl (tb (i := 360) (by decide +kernel)), co_X7_init, in_X7_init, by decide +kernel, by decide⟩
set_option maxRecDepth 100000 in
theorem cl_X10_41 : CL RX10 41 yX9_init cX9_init 1 none 0 := ⟨Or.inr ⟨"CrustMarket", tb (i := 384) (by decide +kernel)⟩, co_X9_init, in_X9_init, by decide +kernel, by decide⟩
set_option maxRecDepth 100000 in
theorem cl_X10_48 : CL RX10 48 yX4_init cX4_init 2 none 1 := ⟨Or.inl (tb (i := 421) (by decide +kernel)), co_X4_init, in_X4_init, by decide +kernel, by decide⟩
set_option maxRecDepth 100000 in
theorem cl_X10_57 : CL RX10 57 yX3_init cX3_init 2 none 1 := ⟨Or.inl (tb (i := 431) (by decide +kernel)), co_X3_init, in_X3_init, by decide +kernel, by decide⟩
set_option maxRecDepth 100000 in
theorem cl_X10_64 : CL RX10 64 yX0_init cX0_init 1 none 0 := ⟨Or.inr ⟨"CrustMarket", tb (i := 446) (by decide +kernel)⟩, co_X0_init, in_X0_init, by decide +kernel, by decide⟩
set_option maxRecDepth 100000 in
theorem cl_X10_77 : CL RX10 77 yX7_forget cX7_forget 1 none 0 := ⟨Or.inl (tb (i := 506) (by decide +kernel)), co_X7_forget, in_X7_forget, by decide +kernel, by decide⟩
set_option maxRecDepth 100000 in
theorem cl_X10_80 : CL RX10 80 yX10_within cX10_within 3 (some .boolean) 3 := ⟨Or.inl (tb (i := 514) (by decide +kernel)), co_X10_within, in_X10_within, by decide +kernel, by decide⟩
set_option maxRecDepth 100000 in
theorem cl_X10_93 : CL RX10 93 yX6_feastCanBe cX6_feastCanBe 3 (some .boolean) 2 := ⟨Or.inl (tb (i := 521) (by decide +kernel)), co_X6_feastCanBe, in_X6_feastCanBe, by decide +kernel, by decide⟩
set_option maxRecDepth 100000 in
theorem cl_X10_97 : CL RX10 97 yX7_keep cX7_keep 3 none 1 := ⟨Or.inl (tb (i := 530) (by decide +kernel)), co_X7_keep, in_X7_keep, by decide +kernel, by decide⟩
set_option maxRecDepth 100000 in
theorem cl_X10_101 : CL RX10 101 yX6_holdFeast cX6_holdFeast 4 (some .int) 2 := ⟨Or.inl (tb (i := 556) (by decide +kernel)), co_X6_holdFeast, in_X6_holdFeast, by decide +kernel, by decide⟩
set_option maxRecDepth 100000 in
theorem cl_X10_105 : CL RX10 105 yX6_forgingCanBe cX6_forgingCanBe 3 (some .boolean) 2 := ⟨Or.inl (tb (i := 612) (by decide +kernel)), co_X6_forgingCanBe, in_X6_forgingCanBe, by decide +kernel, by decide⟩
set_option maxRecDepth 100000 in
theorem cl_X10_108 : CL RX10 108 yX6_forgeOne cX6_forgeOne 4 (some .int) 2 := ⟨Or.inl (tb (i := 616) (by decide +kernel)), co_X6_forgeOne, in_X6_forgeOne, by decide +kernel, by decide⟩
set_option maxRecDepth 100000 in
theorem cl_X10_111 : CL RX10 111 yX6_cutCanBe cX6_cutCanBe 3 (some .boolean) 2 := ⟨Or.inl (tb (i := 625) (by decide +kernel)), co_X6_cutCanBe, in_X6_cutCanBe, by decide +kernel, by decide⟩
set_option maxRecDepth 100000 in
theorem cl_X10_114 : CL RX10 114 yX6_cutOne cX6_cutOne 7 (some .int) 2 := ⟨Or.inl (tb (i := 629) (by decide +kernel)), co_X6_cutOne, in_X6_cutOne, by decide +kernel, by decide⟩
set_option maxRecDepth 100000 in
theorem cl_X10_117 : CL RX10 117 yX6_joiningCanBe cX6_joiningCanBe 3 (some .boolean) 2 := ⟨Or.inl (tb (i := 638) (by decide +kernel)), co_X6_joiningCanBe, in_X6_joiningCanBe, by decide +kernel, by decide⟩
set_option maxRecDepth 100000 in
theorem cl_X10_120 : CL RX10 120 yX6_joinTwo cX6_joinTwo 5 (some .int) 2 := ⟨Or.inl (tb (i := 642) (by decide +kernel)), co_X6_joinTwo, in_X6_joinTwo, by decide +kernel, by decide⟩
set_option maxRecDepth 100000 in
theorem cl_X10_127 : CL RX10 127 yX8_has cX8_has 2 (some .boolean) 1 := ⟨Or.inl (tb (i := 657) (by decide +kernel)), co_X8_has, in_X8_has, by decide +kernel, by decide⟩
set_option maxRecDepth 100000 in
theorem cl_X10_133 : CL RX10 133 yX6_sellOne cX6_sellOne 3 (some .int) 1 := ⟨Or.inl (tb (i := 658) (by decide +kernel)), co_X6_sellOne, in_X6_sellOne, by decide +kernel, by decide⟩
set_option maxRecDepth 100000 in
theorem cl_X10_140 : CL RX10 140 yX6_beginDay cX6_beginDay 4 (some .int) 0 := ⟨Or.inl (tb (i := 678) (by decide +kernel)), co_X6_beginDay, in_X6_beginDay, by decide +kernel, by decide⟩
set_option maxRecDepth 100000 in
theorem cl_X10_144 : CL RX10 144 yX6_endDay cX6_endDay 5 none 1 := ⟨Or.inl (tb (i := 722) (by decide +kernel)), co_X6_endDay, in_X6_endDay, by decide +kernel, by decide⟩
set_option maxRecDepth 100000 in
theorem cl_X10_148 : CL RX10 148 yX9_hasRoomFor cX9_hasRoomFor 2 (some .boolean) 1 := ⟨Or.inl (tb (i := 760) (by decide +kernel)), co_X9_hasRoomFor, in_X9_hasRoomFor, by decide +kernel, by decide⟩
set_option maxRecDepth 100000 in
theorem cl_X10_151 : CL RX10 151 yX9_addNumber cX9_addNumber 3 none 1 := ⟨Or.inl (tb (i := 764) (by decide +kernel)), co_X9_addNumber, in_X9_addNumber, by decide +kernel, by decide⟩
set_option maxRecDepth 100000 in
theorem cl_X10_158 : CL RX10 158 yX9_split cX9_split 3 none 0 := ⟨Or.inl (tb (i := 776) (by decide +kernel)), co_X9_split, in_X9_split, by decide +kernel, by decide⟩
set_option maxRecDepth 100000 in
theorem cl_X10_165 : CL RX10 165 yX3_tell cX3_tell 3 (some .int) 1 := ⟨Or.inl (tb (i := 871) (by decide +kernel)), co_X3_tell, in_X3_tell, by decide +kernel, by decide⟩
set_option maxRecDepth 100000 in
theorem cl_X10_169 : CL RX10 169 yX6_linesOf cX6_linesOf 2 (some (.object "CrustMarket$Rows")) 1 := ⟨Or.inl (tb (i := 960) (by decide +kernel)), co_X6_linesOf, in_X6_linesOf, by decide +kernel, by decide⟩
set_option maxRecDepth 100000 in
theorem cl_X10_179 : CL RX10 179 yX4_read cX4_read 5 (some .boolean) 3 := ⟨Or.inl (tb (i := 964) (by decide +kernel)), co_X4_read, in_X4_read, by decide +kernel, by decide⟩
set_option maxRecDepth 100000 in
theorem cl_X10_183 : CL RX10 183 yX10_tellLines cX10_tellLines 4 (some .int) 2 := ⟨Or.inl (tb (i := 1014) (by decide +kernel)), co_X10_tellLines, in_X10_tellLines, by decide +kernel, by decide⟩
set_option maxRecDepth 100000 in
theorem cl_X10_193 : CL RX10 193 yX6_priceOf cX6_priceOf 3 (some .int) 2 := ⟨Or.inl (tb (i := 1029) (by decide +kernel)), co_X6_priceOf, in_X6_priceOf, by decide +kernel, by decide⟩
set_option maxRecDepth 100000 in
theorem cl_X10_196 : CL RX10 196 yX6_spoilOf cX6_spoilOf 2 (some .int) 1 := ⟨Or.inl (tb (i := 1030) (by decide +kernel)), co_X6_spoilOf, in_X6_spoilOf, by decide +kernel, by decide⟩
set_option maxRecDepth 100000 in
theorem cl_X10_199 : CL RX10 199 yX8_at cX8_at 4 (some .int) 2 := ⟨Or.inl (tb (i := 1031) (by decide +kernel)), co_X8_at, in_X8_at, by decide +kernel, by decide⟩
set_option maxRecDepth 100000 in
theorem cl_X10_202 : CL RX10 202 yX6_remainsOfKind cX6_remainsOfKind 4 (some .int) 1 := ⟨Or.inl (tb (i := 1036) (by decide +kernel)), co_X6_remainsOfKind, in_X6_remainsOfKind, by decide +kernel, by decide⟩
set_option maxRecDepth 100000 in
theorem cl_X10_205 : CL RX10 205 yX6_sizesOfKind cX6_sizesOfKind 4 (some .int) 1 := ⟨Or.inl (tb (i := 1040) (by decide +kernel)), co_X6_sizesOfKind, in_X6_sizesOfKind, by decide +kernel, by decide⟩
set_option maxRecDepth 100000 in
theorem cl_X10_208 : CL RX10 208 yX6_edgeOfFeast cX6_edgeOfFeast 3 (some .int) 2 := ⟨Or.inl (tb (i := 1048) (by decide +kernel)), co_X6_edgeOfFeast, in_X6_edgeOfFeast, by decide +kernel, by decide⟩
set_option maxRecDepth 100000 in
theorem cl_X10_211 : CL RX10 211 yX6_leftByFeast cX6_leftByFeast 4 (some .int) 2 := ⟨Or.inl (tb (i := 1049) (by decide +kernel)), co_X6_leftByFeast, in_X6_leftByFeast, by decide +kernel, by decide⟩
set_option maxRecDepth 100000 in
theorem cl_X10_221 : CL RX10 221 yX6_copyFrom cX6_copyFrom 2 none 1 := ⟨Or.inl (tb (i := 1063) (by decide +kernel)), co_X6_copyFrom, in_X6_copyFrom, by decide +kernel, by decide⟩
set_option maxRecDepth 100000 in
theorem cl_X10_224 : CL RX10 224 yX6_firstMissed cX6_firstMissed 2 (some .int) 0 := ⟨Or.inl (tb (i := 1069) (by decide +kernel)), co_X6_firstMissed, in_X6_firstMissed, by decide +kernel, by decide⟩
set_option maxRecDepth 100000 in
theorem cl_X10_227 : CL RX10 227 yX6_metSet cX6_metSet 3 (some .int) 0 := ⟨Or.inl (tb (i := 1073) (by decide +kernel)), co_X6_metSet, in_X6_metSet, by decide +kernel, by decide⟩
set_option maxRecDepth 100000 in
theorem cl_X10_230 : CL RX10 230 yJ6_bitCount_0f7a4 cJ6_bitCount_0f7a4 1 (some .int) 1 := ⟨Or.inl (tb (i := 1074) (by decide +kernel)), co_J6_bitCount_0f7a4, in_J6_bitCount_0f7a4, by decide +kernel, by decide⟩
set_option maxRecDepth 100000 in
theorem cl_X10_239 : CL RX10 239 yX1_fewest cX1_fewest 6 (some .int) 3 := ⟨Or.inl (tb (i := 1079) (by decide +kernel)), co_X1_fewest, in_X1_fewest, by decide +kernel, by decide⟩
set_option maxRecDepth 100000 in
theorem cl_X10_245 : CL RX10 245 yX6_guestsLeavingMost cX6_guestsLeavingMost 6 (some .int) 1 := ⟨Or.inl (tb (i := 1084) (by decide +kernel)), co_X6_guestsLeavingMost, in_X6_guestsLeavingMost, by decide +kernel, by decide⟩
set_option maxRecDepth 100000 in
theorem cl_X10_248 : CL RX10 248 yX10_feastsHeld cX10_feastsHeld 3 (some .int) 2 := ⟨Or.inl (tb (i := 1088) (by decide +kernel)), co_X10_feastsHeld, in_X10_feastsHeld, by decide +kernel, by decide⟩
set_option maxRecDepth 100000 in
theorem cl_X10_254 : CL RX10 254 yX8_empty cX8_empty 1 (some .int) 0 := ⟨Or.inl (tb (i := 1019) (by decide +kernel)), co_X8_empty, in_X8_empty, by decide +kernel, by decide⟩
set_option maxRecDepth 100000 in
theorem cl_X10_257 : CL RX10 257 yX8_addTold cX8_addTold 5 (some .int) 4 := ⟨Or.inl (tb (i := 1095) (by decide +kernel)), co_X8_addTold, in_X8_addTold, by decide +kernel, by decide⟩
set_option maxRecDepth 100000 in
theorem cl_X10_261 : CL RX10 261 yX5_weighBolt cX5_weighBolt 6 none 1 := ⟨Or.inl (tb (i := 1104) (by decide +kernel)), co_X5_weighBolt, in_X5_weighBolt, by decide +kernel, by decide⟩
set_option maxRecDepth 100000 in
theorem cl_X10_264 : CL RX10 264 yX5_boltWorth cX5_boltWorth 2 (some .int) 1 := ⟨Or.inl (tb (i := 1115) (by decide +kernel)), co_X5_boltWorth, in_X5_boltWorth, by decide +kernel, by decide⟩
set_option maxRecDepth 100000 in
theorem cl_X10_267 : CL RX10 267 yX5_piecesInBolt cX5_piecesInBolt 6 (some .int) 2 := ⟨Or.inl (tb (i := 1119) (by decide +kernel)), co_X5_piecesInBolt, in_X5_piecesInBolt, by decide +kernel, by decide⟩
set_option maxRecDepth 100000 in
theorem cl_X10_270 : CL RX10 270 yX0_fewestStalls cX0_fewestStalls 7 (some .int) 2 := ⟨Or.inl (tb (i := 1127) (by decide +kernel)), co_X0_fewestStalls, in_X0_fewestStalls, by decide +kernel, by decide⟩
set_option maxRecDepth 100000 in
theorem cl_X10_277 : CL RX10 277 yX5_oddsForged cX5_oddsForged 7 (some .int) 3 := ⟨Or.inl (tb (i := 1147) (by decide +kernel)), co_X5_oddsForged, in_X5_oddsForged, by decide +kernel, by decide⟩
set_option maxRecDepth 100000 in
theorem cl_X10_281 : CL RX10 281 yX5_testToLookAt cX5_testToLookAt 6 (some .int) 1 := ⟨Or.inl (tb (i := 1161) (by decide +kernel)), co_X5_testToLookAt, in_X5_testToLookAt, by decide +kernel, by decide⟩
set_option maxRecDepth 100000 in
theorem cl_X10_284 : CL RX10 284 yX6_feastsLeaving cX6_feastsLeaving 4 (some .int) 1 := ⟨Or.inl (tb (i := 1171) (by decide +kernel)), co_X6_feastsLeaving, in_X6_feastsLeaving, by decide +kernel, by decide⟩
set_option maxRecDepth 100000 in
theorem cl_X10_287 : CL RX10 287 yX6_kindParting cX6_kindParting 8 (some .int) 1 := ⟨Or.inl (tb (i := 1175) (by decide +kernel)), co_X6_kindParting, in_X6_kindParting, by decide +kernel, by decide⟩
set_option maxRecDepth 100000 in
theorem cl_X10_290 : CL RX10 290 yX0_cook cX0_cook 4 none 1 := ⟨Or.inl (tb (i := 1187) (by decide +kernel)), co_X0_cook, in_X0_cook, by decide +kernel, by decide⟩
set_option maxRecDepth 100000 in
theorem cl_X10_299 : CL RX10 299 yX6_isTooOld cX6_isTooOld 3 (some .boolean) 2 := ⟨Or.inl (tb (i := 1208) (by decide +kernel)), co_X6_isTooOld, in_X6_isTooOld, by decide +kernel, by decide⟩
set_option maxRecDepth 100000 in
theorem cl_X10_302 : CL RX10 302 yX6_bestWait cX6_bestWait 6 (some .int) 1 := ⟨Or.inl (tb (i := 1209) (by decide +kernel)), co_X6_bestWait, in_X6_bestWait, by decide +kernel, by decide⟩
set_option maxRecDepth 100000 in
theorem cl_X10_308 : CL RX10 308 yX5_priceTaken cX5_priceTaken 4 (some .int) 2 := ⟨Or.inl (tb (i := 1221) (by decide +kernel)), co_X5_priceTaken, in_X5_priceTaken, by decide +kernel, by decide⟩
set_option maxRecDepth 100000 in
theorem cl_X10_311 : CL RX10 311 yX5_firstLimitAtLeast cX5_firstLimitAtLeast 3 (some .int) 1 := ⟨Or.inl (tb (i := 1229) (by decide +kernel)), co_X5_firstLimitAtLeast, in_X5_firstLimitAtLeast, by decide +kernel, by decide⟩
set_option maxRecDepth 100000 in
theorem cl_X10_317 : CL RX10 317 yX10_isTradeKind cX10_isTradeKind 1 (some .boolean) 1 := ⟨Or.inl (tb (i := 1234) (by decide +kernel)), co_X10_isTradeKind, in_X10_isTradeKind, by decide +kernel, by decide⟩
set_option maxRecDepth 100000 in
theorem cl_X10_320 : CL RX10 320 yX5_fewestTradesTo cX5_fewestTradesTo 5 (some .int) 2 := ⟨Or.inl (tb (i := 1241) (by decide +kernel)), co_X5_fewestTradesTo, in_X5_fewestTradesTo, by decide +kernel, by decide⟩
set_option maxRecDepth 100000 in
theorem cl_X10_323 : CL RX10 323 yX5_fewestTradesBack cX5_fewestTradesBack 6 (some .int) 1 := ⟨Or.inl (tb (i := 1253) (by decide +kernel)), co_X5_fewestTradesBack, in_X5_fewestTradesBack, by decide +kernel, by decide⟩
set_option maxRecDepth 100000 in
theorem cl_X10_326 : CL RX10 326 yX7_giveBack cX7_giveBack 3 (some .boolean) 1 := ⟨Or.inl (tb (i := 1270) (by decide +kernel)), co_X7_giveBack, in_X7_giveBack, by decide +kernel, by decide⟩
set_option maxRecDepth 100000 in
theorem cl_X10_330 : CL RX10 330 yX5_copyFrom cX5_copyFrom 2 none 1 := ⟨Or.inl (tb (i := 1286) (by decide +kernel)), co_X5_copyFrom, in_X5_copyFrom, by decide +kernel, by decide⟩
set_option maxRecDepth 100000 in
theorem cl_X10_339 : CL RX10 339 yX10_lookAtTold cX10_lookAtTold 2 (some .int) 1 := ⟨Or.inl (tb (i := 1295) (by decide +kernel)), co_X10_lookAtTold, in_X10_lookAtTold, by decide +kernel, by decide⟩
set_option maxRecDepth 100000 in
theorem cl_X10_357 : CL RX10 357 yX8_copyFrom cX8_copyFrom 3 none 1 := ⟨Or.inl (tb (i := 1018) (by decide +kernel)), co_X8_copyFrom, in_X8_copyFrom, by decide +kernel, by decide⟩
set_option maxRecDepth 100000 in
theorem cl_X10_360 : CL RX10 360 yJ9_min_7cf53 cJ9_min_7cf53 2 (some .int) 2 := ⟨Or.inl (tb (i := 589) (by decide +kernel)), co_J9_min_7cf53, in_J9_min_7cf53, by decide +kernel, by decide⟩
set_option maxRecDepth 100000 in
theorem cl_X10_365 : CL RX10 365 yJ9_max_7cf53 cJ9_max_7cf53 2 (some .int) 2 := ⟨Or.inl (tb (i := 590) (by decide +kernel)), co_J9_max_7cf53, in_J9_max_7cf53, by decide +kernel, by decide⟩
set_option maxRecDepth 100000 in
theorem cl_X0_27 : CL RX0 27 yX8_at cX8_at 4 (some .int) 2 := ⟨Or.inl (tb (i := 1131) (by decide +kernel)), co_X8_at, in_X8_at, by decide +kernel, by decide⟩
set_option maxRecDepth 100000 in
theorem cl_X0_31 : CL RX0 31 yJ9_min_7cf53 cJ9_min_7cf53 2 (some .int) 2 := ⟨Or.inl (tb (i := 1132) (by decide +kernel)), co_J9_min_7cf53, in_J9_min_7cf53, by decide +kernel, by decide⟩
set_option maxRecDepth 100000 in
theorem cl_X0_37 : CL RX0 37 yX10_isIn cX10_isIn 2 (some .boolean) 2 := ⟨Or.inr ⟨"CrustMarket", tb (i := 1134) (by decide +kernel)⟩, co_X10_isIn, in_X10_isIn, by decide +kernel, by decide⟩
set_option maxRecDepth 100000 in
theorem cl_X0_41 : CL RX0 41 yX0_layLast cX0_layLast 8 none 4 := ⟨Or.inl (tb (i := 1135) (by decide +kernel)), co_X0_layLast, in_X0_layLast, by decide +kernel, by decide⟩
set_option maxRecDepth 100000 in
theorem cl_X0_45 : CL RX0 45 yX6_sizesOfKind cX6_sizesOfKind 4 (some .int) 1 := ⟨Or.inl (tb (i := 1191) (by decide +kernel)), co_X6_sizesOfKind, in_X6_sizesOfKind, by decide +kernel, by decide⟩
set_option maxRecDepth 100000 in
theorem cl_X0_61 : CL RX0 61 yX0_cookFrom cX0_cookFrom 7 none 5 := ⟨Or.inl (tb (i := 1192) (by decide +kernel)), co_X0_cookFrom, in_X0_cookFrom, by decide +kernel, by decide⟩
set_option maxRecDepth 100000 in
theorem cl_X0_65 : CL RX0 65 yX0_canCook cX0_canCook 4 (some .boolean) 2 := ⟨Or.inl (tb (i := 1196) (by decide +kernel)), co_X0_canCook, in_X0_canCook, by decide +kernel, by decide⟩
set_option maxRecDepth 100000 in
theorem cl_X0_69 : CL RX0 69 yX0_use cX0_use 5 none 3 := ⟨Or.inl (tb (i := 1200) (by decide +kernel)), co_X0_use, in_X0_use, by decide +kernel, by decide⟩
set_option maxRecDepth 100000 in
theorem cl_X1_21 : CL RX1 21 yX1_gather cX1_gather 4 none 2 := ⟨Or.inl (tb (i := 691) (by decide +kernel)), co_X1_gather, in_X1_gather, by decide +kernel, by decide⟩
set_option maxRecDepth 100000 in
theorem cl_X1_25 : CL RX1 25 yX1_bestAlone cX1_bestAlone 5 (some .int) 1 := ⟨Or.inl (tb (i := 700) (by decide +kernel)), co_X1_bestAlone, in_X1_bestAlone, by decide +kernel, by decide⟩
set_option maxRecDepth 100000 in
theorem cl_X1_33 : CL RX1 33 yX1_fewestReaching cX1_fewestReaching 3 (some .int) 0 := ⟨Or.inl (tb (i := 705) (by decide +kernel)), co_X1_fewestReaching, in_X1_fewestReaching, by decide +kernel, by decide⟩
set_option maxRecDepth 100000 in
theorem cl_X1_47 : CL RX1 47 yX1_search cX1_search 5 none 4 := ⟨Or.inl (tb (i := 709) (by decide +kernel)), co_X1_search, in_X1_search, by decide +kernel, by decide⟩
set_option maxRecDepth 100000 in
theorem cl_X1_54 : CL RX1 54 yX8_at cX8_at 4 (some .int) 2 := ⟨Or.inl (tb (i := 695) (by decide +kernel)), co_X8_at, in_X8_at, by decide +kernel, by decide⟩
set_option maxRecDepth 100000 in
theorem cl_X1_58 : CL RX1 58 yX1_addFalling cX1_addFalling 3 none 1 := ⟨Or.inl (tb (i := 696) (by decide +kernel)), co_X1_addFalling, in_X1_addFalling, by decide +kernel, by decide⟩
set_option maxRecDepth 100000 in
theorem cl_X2_40 : CL RX2 40 yX2_isFull cX2_isFull 1 (some .boolean) 0 := ⟨Or.inl (tb (i := 909) (by decide +kernel)), co_X2_isFull, in_X2_isFull, by decide +kernel, by decide⟩
set_option maxRecDepth 100000 in
theorem cl_X2_50 : CL RX2 50 yX2_worked cX2_worked 8 (some .int) 3 := ⟨Or.inl (tb (i := 576) (by decide +kernel)), co_X2_worked, in_X2_worked, by decide +kernel, by decide⟩
set_option maxRecDepth 100000 in
theorem cl_X2_54 : CL RX2 54 yJ9_max_7cf53 cJ9_max_7cf53 2 (some .int) 2 := ⟨Or.inl (tb (i := 580) (by decide +kernel)), co_J9_max_7cf53, in_J9_max_7cf53, by decide +kernel, by decide⟩
set_option maxRecDepth 100000 in
theorem cl_X2_60 : CL RX2 60 yX2_ofTwo cX2_ofTwo 3 (some .int) 3 := ⟨Or.inl (tb (i := 583) (by decide +kernel)), co_X2_ofTwo, in_X2_ofTwo, by decide +kernel, by decide⟩
set_option maxRecDepth 100000 in
theorem cl_X3_11 : CL RX3 11 yX2_init cX2_init 1 none 0 := ⟨Or.inr ⟨"CrustMarket", tb (i := 436) (by decide +kernel)⟩, co_X2_init, in_X2_init, by decide +kernel, by decide⟩
set_option maxRecDepth 100000 in
theorem cl_X3_22 : CL RX3 22 yX2_empty cX2_empty 1 none 0 := ⟨Or.inl (tb (i := 875) (by decide +kernel)), co_X2_empty, in_X2_empty, by decide +kernel, by decide⟩
set_option maxRecDepth 100000 in
theorem cl_X3_25 : CL RX3 25 yX9_atEnd cX9_atEnd 1 (some .boolean) 0 := ⟨Or.inl (tb (i := 879) (by decide +kernel)), co_X9_atEnd, in_X9_atEnd, by decide +kernel, by decide⟩
set_option maxRecDepth 100000 in
theorem cl_X3_31 : CL RX3 31 yX3_readLine cX3_readLine 2 (some .boolean) 0 := ⟨Or.inl (tb (i := 887) (by decide +kernel)), co_X3_readLine, in_X3_readLine, by decide +kernel, by decide⟩
set_option maxRecDepth 100000 in
theorem cl_X3_34 : CL RX3 34 yX2_copyFrom cX2_copyFrom 2 none 1 := ⟨Or.inl (tb (i := 955) (by decide +kernel)), co_X2_copyFrom, in_X2_copyFrom, by decide +kernel, by decide⟩
set_option maxRecDepth 100000 in
theorem cl_X3_42 : CL RX3 42 yX9_type cX9_type 1 (some .int) 0 := ⟨Or.inl (tb (i := 891) (by decide +kernel)), co_X9_type, in_X9_type, by decide +kernel, by decide⟩
set_option maxRecDepth 100000 in
theorem cl_X3_46 : CL RX3 46 yX10_within cX10_within 3 (some .boolean) 3 := ⟨Or.inr ⟨"CrustMarket", tb (i := 892) (by decide +kernel)⟩, co_X10_within, in_X10_within, by decide +kernel, by decide⟩
set_option maxRecDepth 100000 in
theorem cl_X3_50 : CL RX3 50 yX9_fails cX9_fails 2 (some .boolean) 1 := ⟨Or.inl (tb (i := 893) (by decide +kernel)), co_X9_fails, in_X9_fails, by decide +kernel, by decide⟩
set_option maxRecDepth 100000 in
theorem cl_X3_54 : CL RX3 54 yX2_isFull cX2_isFull 1 (some .boolean) 0 := ⟨Or.inl (tb (i := 897) (by decide +kernel)), co_X2_isFull, in_X2_isFull, by decide +kernel, by decide⟩
set_option maxRecDepth 100000 in
theorem cl_X3_57 : CL RX3 57 yX9_take cX9_take 1 none 0 := ⟨Or.inl (tb (i := 901) (by decide +kernel)), co_X9_take, in_X9_take, by decide +kernel, by decide⟩
set_option maxRecDepth 100000 in
theorem cl_X3_60 : CL RX3 60 yX2_beginLine cX2_beginLine 2 none 1 := ⟨Or.inl (tb (i := 905) (by decide +kernel)), co_X2_beginLine, in_X2_beginLine, by decide +kernel, by decide⟩
set_option maxRecDepth 100000 in
theorem cl_X3_64 : CL RX3 64 yX3_readSum cX3_readSum 5 (some .boolean) 0 := ⟨Or.inl (tb (i := 910) (by decide +kernel)), co_X3_readSum, in_X3_readSum, by decide +kernel, by decide⟩
set_option maxRecDepth 100000 in
theorem cl_X3_67 : CL RX3 67 yX2_beginWhen cX2_beginWhen 1 none 0 := ⟨Or.inl (tb (i := 933) (by decide +kernel)), co_X2_beginWhen, in_X2_beginWhen, by decide +kernel, by decide⟩
set_option maxRecDepth 100000 in
theorem cl_X3_70 : CL RX3 70 yX3_readEither cX3_readEither 5 (some .boolean) 1 := ⟨Or.inl (tb (i := 937) (by decide +kernel)), co_X3_readEither, in_X3_readEither, by decide +kernel, by decide⟩
set_option maxRecDepth 100000 in
theorem cl_X3_73 : CL RX3 73 yX2_closeLine cX2_closeLine 1 none 0 := ⟨Or.inl (tb (i := 951) (by decide +kernel)), co_X2_closeLine, in_X2_closeLine, by decide +kernel, by decide⟩
set_option maxRecDepth 100000 in
theorem cl_X3_76 : CL RX3 76 yX9_takes cX9_takes 2 (some .boolean) 1 := ⟨Or.inl (tb (i := 945) (by decide +kernel)), co_X9_takes, in_X9_takes, by decide +kernel, by decide⟩
set_option maxRecDepth 100000 in
theorem cl_X3_79 : CL RX3 79 yX3_readCondition cX3_readCondition 5 (some .boolean) 1 := ⟨Or.inl (tb (i := 941) (by decide +kernel)), co_X3_readCondition, in_X3_readCondition, by decide +kernel, by decide⟩
set_option maxRecDepth 100000 in
theorem cl_X3_82 : CL RX3 82 yX2_addStep cX2_addStep 3 none 2 := ⟨Or.inl (tb (i := 922) (by decide +kernel)), co_X2_addStep, in_X2_addStep, by decide +kernel, by decide⟩
set_option maxRecDepth 100000 in
theorem cl_X3_86 : CL RX3 86 yX3_readUnit cX3_readUnit 4 (some .boolean) 1 := ⟨Or.inl (tb (i := 914) (by decide +kernel)), co_X3_readUnit, in_X3_readUnit, by decide +kernel, by decide⟩
set_option maxRecDepth 100000 in
theorem cl_X3_90 : CL RX3 90 yX3_isReckoning cX3_isReckoning 1 (some .boolean) 1 := ⟨Or.inl (tb (i := 926) (by decide +kernel)), co_X3_isReckoning, in_X3_isReckoning, by decide +kernel, by decide⟩
set_option maxRecDepth 100000 in
theorem cl_X3_93 : CL RX3 93 yX3_addWaiting cX3_addWaiting 2 none 1 := ⟨Or.inl (tb (i := 929) (by decide +kernel)), co_X3_addWaiting, in_X3_addWaiting, by decide +kernel, by decide⟩
set_option maxRecDepth 100000 in
theorem cl_X3_96 : CL RX3 96 yX9_value cX9_value 1 (some .int) 0 := ⟨Or.inl (tb (i := 918) (by decide +kernel)), co_X9_value, in_X9_value, by decide +kernel, by decide⟩
set_option maxRecDepth 100000 in
theorem cl_X4_15 : CL RX4 15 yX8_empty cX8_empty 1 (some .int) 0 := ⟨Or.inl (tb (i := 968) (by decide +kernel)), co_X8_empty, in_X8_empty, by decide +kernel, by decide⟩
set_option maxRecDepth 100000 in
theorem cl_X4_21 : CL RX4 21 yX9_atEnd cX9_atEnd 1 (some .boolean) 0 := ⟨Or.inl (tb (i := 972) (by decide +kernel)), co_X9_atEnd, in_X9_atEnd, by decide +kernel, by decide⟩
set_option maxRecDepth 100000 in
theorem cl_X4_27 : CL RX4 27 yX4_readLine cX4_readLine 4 (some .boolean) 3 := ⟨Or.inl (tb (i := 973) (by decide +kernel)), co_X4_readLine, in_X4_readLine, by decide +kernel, by decide⟩
set_option maxRecDepth 100000 in
theorem cl_X4_31 : CL RX4 31 yX4_readKind cX4_readKind 2 (some .boolean) 1 := ⟨Or.inl (tb (i := 977) (by decide +kernel)), co_X4_readKind, in_X4_readKind, by decide +kernel, by decide⟩
set_option maxRecDepth 100000 in
theorem cl_X4_35 : CL RX4 35 yX4_readFeast cX4_readFeast 3 (some .boolean) 2 := ⟨Or.inl (tb (i := 997) (by decide +kernel)), co_X4_readFeast, in_X4_readFeast, by decide +kernel, by decide⟩
set_option maxRecDepth 100000 in
theorem cl_X4_39 : CL RX4 39 yX4_readWant cX4_readWant 3 (some .boolean) 2 := ⟨Or.inl (tb (i := 1001) (by decide +kernel)), co_X4_readWant, in_X4_readWant, by decide +kernel, by decide⟩
set_option maxRecDepth 100000 in
theorem cl_X4_42 : CL RX4 42 yX4_readDish cX4_readDish 3 (some .boolean) 2 := ⟨Or.inl (tb (i := 1005) (by decide +kernel)), co_X4_readDish, in_X4_readDish, by decide +kernel, by decide⟩
set_option maxRecDepth 100000 in
theorem cl_X4_45 : CL RX4 45 yX4_begins cX4_begins 3 (some .boolean) 2 := ⟨Or.inl (tb (i := 981) (by decide +kernel)), co_X4_begins, in_X4_begins, by decide +kernel, by decide⟩
set_option maxRecDepth 100000 in
theorem cl_X4_49 : CL RX4 49 yX4_takesNumber cX4_takesNumber 5 (some .boolean) 4 := ⟨Or.inl (tb (i := 989) (by decide +kernel)), co_X4_takesNumber, in_X4_takesNumber, by decide +kernel, by decide⟩
set_option maxRecDepth 100000 in
theorem cl_X4_53 : CL RX4 53 yX9_takes cX9_takes 2 (some .boolean) 1 := ⟨Or.inl (tb (i := 996) (by decide +kernel)), co_X9_takes, in_X9_takes, by decide +kernel, by decide⟩
set_option maxRecDepth 100000 in
theorem cl_X4_57 : CL RX4 57 yX4_readParts cX4_readParts 6 (some .boolean) 2 := ⟨Or.inl (tb (i := 1009) (by decide +kernel)), co_X4_readParts, in_X4_readParts, by decide +kernel, by decide⟩
set_option maxRecDepth 100000 in
theorem cl_X4_64 : CL RX4 64 yX9_type cX9_type 1 (some .int) 0 := ⟨Or.inl (tb (i := 985) (by decide +kernel)), co_X9_type, in_X9_type, by decide +kernel, by decide⟩
set_option maxRecDepth 100000 in
theorem cl_X4_67 : CL RX4 67 yX9_value cX9_value 1 (some .int) 0 := ⟨Or.inl (tb (i := 993) (by decide +kernel)), co_X9_value, in_X9_value, by decide +kernel, by decide⟩
set_option maxRecDepth 100000 in
theorem cl_X4_70 : CL RX4 70 yX8_at cX8_at 4 (some .int) 2 := ⟨Or.inl (tb (i := 1013) (by decide +kernel)), co_X8_at, in_X8_at, by decide +kernel, by decide⟩
set_option maxRecDepth 100000 in
theorem cl_X4_74 : CL RX4 74 yX9_fails cX9_fails 2 (some .boolean) 1 := ⟨Or.inl (tb (i := 986) (by decide +kernel)), co_X9_fails, in_X9_fails, by decide +kernel, by decide⟩
set_option maxRecDepth 100000 in
theorem cl_X4_77 : CL RX4 77 yX9_take cX9_take 1 none 0 := ⟨Or.inl (tb (i := 988) (by decide +kernel)), co_X9_take, in_X9_take, by decide +kernel, by decide⟩
set_option maxRecDepth 100000 in
theorem cl_X4_80 : CL RX4 80 yX8_addEmpty cX8_addEmpty 2 (some .int) 0 := ⟨Or.inl (tb (i := 987) (by decide +kernel)), co_X8_addEmpty, in_X8_addEmpty, by decide +kernel, by decide⟩
set_option maxRecDepth 100000 in
theorem cl_X4_83 : CL RX4 83 yX10_within cX10_within 3 (some .boolean) 3 := ⟨Or.inr ⟨"CrustMarket", tb (i := 994) (by decide +kernel)⟩, co_X10_within, in_X10_within, by decide +kernel, by decide⟩
set_option maxRecDepth 100000 in
theorem cl_X4_87 : CL RX4 87 yX8_put cX8_put 5 none 3 := ⟨Or.inl (tb (i := 995) (by decide +kernel)), co_X8_put, in_X8_put, by decide +kernel, by decide⟩
set_option maxRecDepth 100000 in
theorem cl_X5_13 : CL RX5 13 yX8_init cX8_init 3 none 2 := ⟨Or.inl (tb (i := 332) (by decide +kernel)), co_X8_init, in_X8_init, by decide +kernel, by decide⟩
set_option maxRecDepth 100000 in
theorem cl_X5_38 : CL RX5 38 yX8_copyFrom cX8_copyFrom 3 none 1 := ⟨Or.inl (tb (i := 1290) (by decide +kernel)), co_X8_copyFrom, in_X8_copyFrom, by decide +kernel, by decide⟩
set_option maxRecDepth 100000 in
theorem cl_X5_46 : CL RX5 46 yJ9_min_7cf53 cJ9_min_7cf53 2 (some .int) 2 := ⟨Or.inl (tb (i := 1108) (by decide +kernel)), co_J9_min_7cf53, in_J9_min_7cf53, by decide +kernel, by decide⟩
set_option maxRecDepth 100000 in
theorem cl_X5_52 : CL RX5 52 yX5_worthWith cX5_worthWith 4 (some .int) 2 := ⟨Or.inl (tb (i := 1109) (by decide +kernel)), co_X5_worthWith, in_X5_worthWith, by decide +kernel, by decide⟩
set_option maxRecDepth 100000 in
theorem cl_X5_55 : CL RX5 55 yJ9_max_7cf53 cJ9_max_7cf53 2 (some .int) 2 := ⟨Or.inl (tb (i := 1114) (by decide +kernel)), co_J9_max_7cf53, in_J9_max_7cf53, by decide +kernel, by decide⟩
set_option maxRecDepth 100000 in
theorem cl_X5_58 : CL RX5 58 yX8_at cX8_at 4 (some .int) 2 := ⟨Or.inl (tb (i := 1113) (by decide +kernel)), co_X8_at, in_X8_at, by decide +kernel, by decide⟩
set_option maxRecDepth 100000 in
theorem cl_X5_63 : CL RX5 63 yX10_isIn cX10_isIn 2 (some .boolean) 2 := ⟨Or.inr ⟨"CrustMarket", tb (i := 1152) (by decide +kernel)⟩, co_X10_isIn, in_X10_isIn, by decide +kernel, by decide⟩
set_option maxRecDepth 100000 in
theorem cl_X5_67 : CL RX5 67 yX5_oddsBehind cX5_oddsBehind 6 (some .long) 3 := ⟨Or.inl (tb (i := 1153) (by decide +kernel)), co_X5_oddsBehind, in_X5_oddsBehind, by decide +kernel, by decide⟩
set_option maxRecDepth 100000 in
theorem cl_X5_73 : CL RX5 73 yX5_oddsForged cX5_oddsForged 7 (some .int) 3 := ⟨Or.inl (tb (i := 1165) (by decide +kernel)), co_X5_oddsForged, in_X5_oddsForged, by decide +kernel, by decide⟩
set_option maxRecDepth 100000 in
theorem cl_X5_78 : CL RX5 78 yX5_firstLimitAtLeast cX5_firstLimitAtLeast 3 (some .int) 1 := ⟨Or.inl (tb (i := 1225) (by decide +kernel)), co_X5_firstLimitAtLeast, in_X5_firstLimitAtLeast, by decide +kernel, by decide⟩
set_option maxRecDepth 100000 in
theorem cl_X5_82 : CL RX5 82 yX5_kindsBehind cX5_kindsBehind 4 (some .int) 1 := ⟨Or.inl (tb (i := 1245) (by decide +kernel)), co_X5_kindsBehind, in_X5_kindsBehind, by decide +kernel, by decide⟩
set_option maxRecDepth 100000 in
theorem cl_X5_85 : CL RX5 85 yJ6_bitCount_0f7a4 cJ6_bitCount_0f7a4 1 (some .int) 1 := ⟨Or.inl (tb (i := 1257) (by decide +kernel)), co_J6_bitCount_0f7a4, in_J6_bitCount_0f7a4, by decide +kernel, by decide⟩
set_option maxRecDepth 100000 in
theorem cl_X5_90 : CL RX5 90 yX5_gains cX5_gains 5 (some .boolean) 1 := ⟨Or.inl (tb (i := 1258) (by decide +kernel)), co_X5_gains, in_X5_gains, by decide +kernel, by decide⟩
set_option maxRecDepth 100000 in
theorem cl_X5_94 : CL RX5 94 yX5_walkOn cX5_walkOn 6 none 2 := ⟨Or.inl (tb (i := 1262) (by decide +kernel)), co_X5_walkOn, in_X5_walkOn, by decide +kernel, by decide⟩
set_option maxRecDepth 100000 in
theorem cl_X6_11 : CL RX6 11 yX8_init cX8_init 3 none 2 := ⟨Or.inl (tb (i := 164) (by decide +kernel)), co_X8_init, in_X8_init, by decide +kernel, by decide⟩
set_option maxRecDepth 100000 in
theorem cl_X6_37 : CL RX6 37 yX2_init cX2_init 1 none 0 := ⟨Or.inr ⟨"CrustMarket", tb (i := 191) (by decide +kernel)⟩, co_X2_init, in_X2_init, by decide +kernel, by decide⟩
set_option maxRecDepth 100000 in
theorem cl_X6_44 : CL RX6 44 yX1_init cX1_init 1 none 0 := ⟨Or.inr ⟨"CrustMarket", tb (i := 227) (by decide +kernel)⟩, co_X1_init, in_X1_init, by decide +kernel, by decide⟩
set_option maxRecDepth 100000 in
theorem cl_X6_57 : CL RX6 57 yX8_copyFrom cX8_copyFrom 3 none 1 := ⟨Or.inl (tb (i := 1067) (by decide +kernel)), co_X8_copyFrom, in_X8_copyFrom, by decide +kernel, by decide⟩
set_option maxRecDepth 100000 in
theorem cl_X6_61 : CL RX6 61 yX2_copyFrom cX2_copyFrom 2 none 1 := ⟨Or.inl (tb (i := 1068) (by decide +kernel)), co_X2_copyFrom, in_X2_copyFrom, by decide +kernel, by decide⟩
set_option maxRecDepth 100000 in
theorem cl_X6_82 : CL RX6 82 yX8_has cX8_has 2 (some .boolean) 1 := ⟨Or.inl (tb (i := 525) (by decide +kernel)), co_X8_has, in_X8_has, by decide +kernel, by decide⟩
set_option maxRecDepth 100000 in
theorem cl_X6_86 : CL RX6 86 yX10_within cX10_within 3 (some .boolean) 3 := ⟨Or.inr ⟨"CrustMarket", tb (i := 529) (by decide +kernel)⟩, co_X10_within, in_X10_within, by decide +kernel, by decide⟩
set_option maxRecDepth 100000 in
theorem cl_X6_90 : CL RX6 90 yX8_at cX8_at 4 (some .int) 2 := ⟨Or.inl (tb (i := 545) (by decide +kernel)), co_X8_at, in_X8_at, by decide +kernel, by decide⟩
set_option maxRecDepth 100000 in
theorem cl_X6_94 : CL RX6 94 yX8_isFull cX8_isFull 1 (some .boolean) 0 := ⟨Or.inl (tb (i := 560) (by decide +kernel)), co_X8_isFull, in_X8_isFull, by decide +kernel, by decide⟩
set_option maxRecDepth 100000 in
theorem cl_X6_98 : CL RX6 98 yX6_ageOf cX6_ageOf 2 (some .int) 1 := ⟨Or.inl (tb (i := 670) (by decide +kernel)), co_X6_ageOf, in_X6_ageOf, by decide +kernel, by decide⟩
set_option maxRecDepth 100000 in
theorem cl_X6_102 : CL RX6 102 yX6_askOfFeast cX6_askOfFeast 3 none 2 := ⟨Or.inl (tb (i := 568) (by decide +kernel)), co_X6_askOfFeast, in_X6_askOfFeast, by decide +kernel, by decide⟩
set_option maxRecDepth 100000 in
theorem cl_X6_105 : CL RX6 105 yX2_tells cX2_tells 6 (some .int) 3 := ⟨Or.inl (tb (i := 572) (by decide +kernel)), co_X2_tells, in_X2_tells, by decide +kernel, by decide⟩
set_option maxRecDepth 100000 in
theorem cl_X6_109 : CL RX6 109 yX10_held cX10_held 3 (some .int) 3 := ⟨Or.inr ⟨"CrustMarket", tb (i := 586) (by decide +kernel)⟩, co_X10_held, in_X10_held, by decide +kernel, by decide⟩
set_option maxRecDepth 100000 in
theorem cl_X6_113 : CL RX6 113 yX6_askOfRemain cX6_askOfRemain 4 none 2 := ⟨Or.inl (tb (i := 666) (by decide +kernel)), co_X6_askOfRemain, in_X6_askOfRemain, by decide +kernel, by decide⟩
set_option maxRecDepth 100000 in
theorem cl_X6_119 : CL RX6 119 yX6_leftByFeast cX6_leftByFeast 4 (some .int) 2 := ⟨Or.inl (tb (i := 564) (by decide +kernel)), co_X6_leftByFeast, in_X6_leftByFeast, by decide +kernel, by decide⟩
set_option maxRecDepth 100000 in
theorem cl_X6_122 : CL RX6 122 yX6_edgeOfFeast cX6_edgeOfFeast 3 (some .int) 2 := ⟨Or.inl (tb (i := 591) (by decide +kernel)), co_X6_edgeOfFeast, in_X6_edgeOfFeast, by decide +kernel, by decide⟩
set_option maxRecDepth 100000 in
theorem cl_X6_125 : CL RX6 125 yX8_add cX8_add 6 (some .int) 4 := ⟨Or.inl (tb (i := 595) (by decide +kernel)), co_X8_add, in_X8_add, by decide +kernel, by decide⟩
set_option maxRecDepth 100000 in
theorem cl_X6_129 : CL RX6 129 yX8_put cX8_put 5 none 3 := ⟨Or.inl (tb (i := 620) (by decide +kernel)), co_X8_put, in_X8_put, by decide +kernel, by decide⟩
set_option maxRecDepth 100000 in
theorem cl_X6_133 : CL RX6 133 yJ9_min_7cf53 cJ9_min_7cf53 2 (some .int) 2 := ⟨Or.inl (tb (i := 633) (by decide +kernel)), co_J9_min_7cf53, in_J9_min_7cf53, by decide +kernel, by decide⟩
set_option maxRecDepth 100000 in
theorem cl_X6_138 : CL RX6 138 yJ9_max_7cf53 cJ9_max_7cf53 2 (some .int) 2 := ⟨Or.inl (tb (i := 646) (by decide +kernel)), co_J9_max_7cf53, in_J9_max_7cf53, by decide +kernel, by decide⟩
set_option maxRecDepth 100000 in
theorem cl_X6_141 : CL RX6 141 yX8_drop cX8_drop 4 none 1 := ⟨Or.inl (tb (i := 647) (by decide +kernel)), co_X8_drop, in_X8_drop, by decide +kernel, by decide⟩
set_option maxRecDepth 100000 in
theorem cl_X6_145 : CL RX6 145 yX6_priceOf cX6_priceOf 3 (some .int) 2 := ⟨Or.inl (tb (i := 662) (by decide +kernel)), co_X6_priceOf, in_X6_priceOf, by decide +kernel, by decide⟩
set_option maxRecDepth 100000 in
theorem cl_X6_148 : CL RX6 148 yX6_holdFeast cX6_holdFeast 4 (some .int) 2 := ⟨Or.inl (tb (i := 682) (by decide +kernel)), co_X6_holdFeast, in_X6_holdFeast, by decide +kernel, by decide⟩
set_option maxRecDepth 100000 in
theorem cl_X6_151 : CL RX6 151 yX6_meets cX6_meets 4 (some .boolean) 1 := ⟨Or.inl (tb (i := 683) (by decide +kernel)), co_X6_meets, in_X6_meets, by decide +kernel, by decide⟩
set_option maxRecDepth 100000 in
theorem cl_X6_154 : CL RX6 154 yX1_fewest cX1_fewest 6 (some .int) 3 := ⟨Or.inl (tb (i := 687) (by decide +kernel)), co_X1_fewest, in_X1_fewest, by decide +kernel, by decide⟩
set_option maxRecDepth 100000 in
theorem cl_X6_158 : CL RX6 158 yX10_isIn cX10_isIn 2 (some .boolean) 2 := ⟨Or.inr ⟨"CrustMarket", tb (i := 713) (by decide +kernel)⟩, co_X10_isIn, in_X10_isIn, by decide +kernel, by decide⟩
set_option maxRecDepth 100000 in
theorem cl_X6_162 : CL RX6 162 yJ6_bitCount_0f7a4 cJ6_bitCount_0f7a4 1 (some .int) 1 := ⟨Or.inl (tb (i := 716) (by decide +kernel)), co_J6_bitCount_0f7a4, in_J6_bitCount_0f7a4, by decide +kernel, by decide⟩
set_option maxRecDepth 100000 in
theorem cl_X6_167 : CL RX6 167 yX6_isTooOld cX6_isTooOld 3 (some .boolean) 2 := ⟨Or.inl (tb (i := 726) (by decide +kernel)), co_X6_isTooOld, in_X6_isTooOld, by decide +kernel, by decide⟩
set_option maxRecDepth 100000 in
theorem cl_X6_170 : CL RX6 170 yX6_isSpoilt cX6_isSpoilt 3 (some .boolean) 1 := ⟨Or.inl (tb (i := 730) (by decide +kernel)), co_X6_isSpoilt, in_X6_isSpoilt, by decide +kernel, by decide⟩
set_option maxRecDepth 100000 in
theorem cl_X6_173 : CL RX6 173 yX6_lose cX6_lose 3 none 2 := ⟨Or.inl (tb (i := 744) (by decide +kernel)), co_X6_lose, in_X6_lose, by decide +kernel, by decide⟩
set_option maxRecDepth 100000 in
theorem cl_X6_176 : CL RX6 176 yX6_inspectorsCome cX6_inspectorsCome 2 none 0 := ⟨Or.inl (tb (i := 748) (by decide +kernel)), co_X6_inspectorsCome, in_X6_inspectorsCome, by decide +kernel, by decide⟩
set_option maxRecDepth 100000 in
theorem cl_X6_179 : CL RX6 179 yX6_dogsCome cX6_dogsCome 1 none 0 := ⟨Or.inl (tb (i := 752) (by decide +kernel)), co_X6_dogsCome, in_X6_dogsCome, by decide +kernel, by decide⟩
set_option maxRecDepth 100000 in
theorem cl_X6_182 : CL RX6 182 yX6_spoilOf cX6_spoilOf 2 (some .int) 1 := ⟨Or.inl (tb (i := 734) (by decide +kernel)), co_X6_spoilOf, in_X6_spoilOf, by decide +kernel, by decide⟩
set_option maxRecDepth 100000 in
theorem cl_X6_185 : CL RX6 185 yX6_draw cX6_draw 2 (some .int) 1 := ⟨Or.inl (tb (i := 738) (by decide +kernel)), co_X6_draw, in_X6_draw, by decide +kernel, by decide⟩
set_option maxRecDepth 100000 in
theorem cl_X6_190 : CL RX6 190 yX6_feastsOfKind cX6_feastsOfKind 5 (some .int) 2 := ⟨Or.inl (tb (i := 1179) (by decide +kernel)), co_X6_feastsOfKind, in_X6_feastsOfKind, by decide +kernel, by decide⟩
set_option maxRecDepth 100000 in
theorem cl_X7_22 : CL RX7 22 yX8_init cX8_init 3 none 2 := ⟨Or.inl (tb (i := 367) (by decide +kernel)), co_X8_init, in_X8_init, by decide +kernel, by decide⟩
set_option maxRecDepth 100000 in
theorem cl_X7_37 : CL RX7 37 yX8_copyFrom cX8_copyFrom 3 none 1 := ⟨Or.inl (tb (i := 534) (by decide +kernel)), co_X8_copyFrom, in_X8_copyFrom, by decide +kernel, by decide⟩
set_option maxRecDepth 100000 in
theorem cl_X7_56 : CL RX7 56 yX6_metSet cX6_metSet 3 (some .int) 0 := ⟨Or.inl (tb (i := 541) (by decide +kernel)), co_X6_metSet, in_X6_metSet, by decide +kernel, by decide⟩
set_option maxRecDepth 100000 in
theorem cl_X7_66 : CL RX7 66 yJ9_min_7cf53 cJ9_min_7cf53 2 (some .int) 2 := ⟨Or.inl (tb (i := 553) (by decide +kernel)), co_J9_min_7cf53, in_J9_min_7cf53, by decide +kernel, by decide⟩
set_option maxRecDepth 100000 in
theorem cl_X7_72 : CL RX7 72 yX6_putMetSet cX6_putMetSet 3 none 1 := ⟨Or.inl (tb (i := 1274) (by decide +kernel)), co_X6_putMetSet, in_X6_putMetSet, by decide +kernel, by decide⟩
set_option maxRecDepth 100000 in
theorem cl_X7_76 : CL RX7 76 yX8_keepFirst cX8_keepFirst 2 none 1 := ⟨Or.inl (tb (i := 1278) (by decide +kernel)), co_X8_keepFirst, in_X8_keepFirst, by decide +kernel, by decide⟩
set_option maxRecDepth 100000 in
theorem cl_X8_25 : CL RX8 25 yX8_cellOf cX8_cellOf 4 (some .int) 2 := ⟨Or.inl (tb (i := 549) (by decide +kernel)), co_X8_cellOf, in_X8_cellOf, by decide +kernel, by decide⟩
set_option maxRecDepth 100000 in
theorem cl_X8_29 : CL RX8 29 yX8_isFull cX8_isFull 1 (some .boolean) 0 := ⟨Or.inl (tb (i := 603) (by decide +kernel)), co_X8_isFull, in_X8_isFull, by decide +kernel, by decide⟩
set_option maxRecDepth 100000 in
theorem cl_X8_33 : CL RX8 33 yX8_put cX8_put 5 none 3 := ⟨Or.inl (tb (i := 604) (by decide +kernel)), co_X8_put, in_X8_put, by decide +kernel, by decide⟩
set_option maxRecDepth 100000 in
theorem cl_X8_37 : CL RX8 37 yX8_addEmpty cX8_addEmpty 2 (some .int) 0 := ⟨Or.inl (tb (i := 599) (by decide +kernel)), co_X8_addEmpty, in_X8_addEmpty, by decide +kernel, by decide⟩
set_option maxRecDepth 100000 in
theorem cl_X8_41 : CL RX8 41 yX8_add cX8_add 6 (some .int) 4 := ⟨Or.inl (tb (i := 1099) (by decide +kernel)), co_X8_add, in_X8_add, by decide +kernel, by decide⟩
set_option maxRecDepth 100000 in
theorem cl_X8_45 : CL RX8 45 yX8_has cX8_has 2 (some .boolean) 1 := ⟨Or.inl (tb (i := 651) (by decide +kernel)), co_X8_has, in_X8_has, by decide +kernel, by decide⟩
set_option maxRecDepth 100000 in
theorem cl_X8_49 : CL RX8 49 yX8_at cX8_at 4 (some .int) 2 := ⟨Or.inl (tb (i := 652) (by decide +kernel)), co_X8_at, in_X8_at, by decide +kernel, by decide⟩
set_option maxRecDepth 100000 in
theorem cl_X9_40 : CL RX9 40 yX9_byteAt cX9_byteAt 2 (some .int) 1 := ⟨Or.inl (tb (i := 780) (by decide +kernel)), co_X9_byteAt, in_X9_byteAt, by decide +kernel, by decide⟩
set_option maxRecDepth 100000 in
theorem cl_X9_44 : CL RX9 44 yX9_isBlank cX9_isBlank 1 (some .boolean) 1 := ⟨Or.inl (tb (i := 784) (by decide +kernel)), co_X9_isBlank, in_X9_isBlank, by decide +kernel, by decide⟩
set_option maxRecDepth 100000 in
theorem cl_X9_48 : CL RX9 48 yX9_splitOne cX9_splitOne 5 (some .int) 1 := ⟨Or.inl (tb (i := 787) (by decide +kernel)), co_X9_splitOne, in_X9_splitOne, by decide +kernel, by decide⟩
set_option maxRecDepth 100000 in
theorem cl_X9_51 : CL RX9 51 yX9_addToken cX9_addToken 4 none 3 := ⟨Or.inl (tb (i := 856) (by decide +kernel)), co_X9_addToken, in_X9_addToken, by decide +kernel, by decide⟩
set_option maxRecDepth 100000 in
theorem cl_X9_55 : CL RX9 55 yX9_isLetter cX9_isLetter 1 (some .boolean) 1 := ⟨Or.inl (tb (i := 791) (by decide +kernel)), co_X9_isLetter, in_X9_isLetter, by decide +kernel, by decide⟩
set_option maxRecDepth 100000 in
theorem cl_X9_58 : CL RX9 58 yX9_behindLetters cX9_behindLetters 3 (some .int) 1 := ⟨Or.inl (tb (i := 795) (by decide +kernel)), co_X9_behindLetters, in_X9_behindLetters, by decide +kernel, by decide⟩
set_option maxRecDepth 100000 in
theorem cl_X9_61 : CL RX9 61 yX9_wordBetween cX9_wordBetween 6 (some .int) 2 := ⟨Or.inl (tb (i := 799) (by decide +kernel)), co_X9_wordBetween, in_X9_wordBetween, by decide +kernel, by decide⟩
set_option maxRecDepth 100000 in
theorem cl_X9_65 : CL RX9 65 yX9_isDigit cX9_isDigit 1 (some .boolean) 1 := ⟨Or.inl (tb (i := 860) (by decide +kernel)), co_X9_isDigit, in_X9_isDigit, by decide +kernel, by decide⟩
set_option maxRecDepth 100000 in
theorem cl_X9_68 : CL RX9 68 yX9_behindDigits cX9_behindDigits 3 (some .int) 1 := ⟨Or.inl (tb (i := 863) (by decide +kernel)), co_X9_behindDigits, in_X9_behindDigits, by decide +kernel, by decide⟩
set_option maxRecDepth 100000 in
theorem cl_X9_71 : CL RX9 71 yX9_numberBetween cX9_numberBetween 5 (some .int) 2 := ⟨Or.inl (tb (i := 867) (by decide +kernel)), co_X9_numberBetween, in_X9_numberBetween, by decide +kernel, by decide⟩
set_option maxRecDepth 100000 in
theorem cl_X9_74 : CL RX9 74 yX10_within cX10_within 3 (some .boolean) 3 := ⟨Or.inr ⟨"CrustMarket", tb (i := 794) (by decide +kernel)⟩, co_X10_within, in_X10_within, by decide +kernel, by decide⟩
set_option maxRecDepth 100000 in
theorem cl_X9_80 : CL RX9 80 yJ0_length_8abf5 cJ0_length_8abf5 1 (some .int) 0 := ⟨Or.inl (tb (i := 804) (by decide +kernel)), co_J0_length_8abf5, in_J0_length_8abf5, by decide +kernel, by decide⟩
set_option maxRecDepth 100000 in
theorem cl_X9_85 : CL RX9 85 yJ0_charAt_5068e cJ0_charAt_5068e 2 (some .char) 1 := ⟨Or.inl (tb (i := 814) (by decide +kernel)), co_J0_charAt_5068e, in_J0_charAt_5068e, by decide +kernel, by decide⟩
set_option maxRecDepth 100000 in
theorem cl_X9_89 : CL RX9 89 yX9_isWordAt cX9_isWordAt 5 (some .boolean) 3 := ⟨Or.inl (tb (i := 852) (by decide +kernel)), co_X9_isWordAt, in_X9_isWordAt, by decide +kernel, by decide⟩
set_option maxRecDepth 100000 in
theorem cl_X9_92 : CL RX9 92 yX9_type cX9_type 1 (some .int) 0 := ⟨Or.inl (tb (i := 883) (by decide +kernel)), co_X9_type, in_X9_type, by decide +kernel, by decide⟩
set_option maxRecDepth 100000 in
theorem cl_X9_95 : CL RX9 95 yX9_fails cX9_fails 2 (some .boolean) 1 := ⟨Or.inl (tb (i := 949) (by decide +kernel)), co_X9_fails, in_X9_fails, by decide +kernel, by decide⟩
set_option maxRecDepth 100000 in
theorem cl_X9_98 : CL RX9 98 yX9_take cX9_take 1 none 0 := ⟨Or.inl (tb (i := 950) (by decide +kernel)), co_X9_take, in_X9_take, by decide +kernel, by decide⟩
set_option maxRecDepth 100000 in
theorem cl_L_9 : CL RL 9 yX10_init cX10_init 1 none 0 := ⟨Or.inl (tb (i := 150) (by decide +kernel)), co_X10_init, in_X10_init, by decide +kernel, by decide⟩
set_option maxRecDepth 100000 in
theorem cl_L_12 : CL RL 12 yX11_init cX11_init 1 none 0 := ⟨Or.inl (tb (i := 1302) (by decide +kernel)), co_X11_init, in_X11_init, by decide +kernel, by decide⟩
set_option maxRecDepth 100000 in
theorem cl_L_13 : CL RL 13 yX10_state cX10_state 3 (some .int) 1 := ⟨Or.inl (tb (i := 502) (by decide +kernel)), co_X10_state, in_X10_state, by decide +kernel, by decide⟩
set_option maxRecDepth 100000 in
theorem cl_L_17 : CL RL 17 yX11_state cX11_state 3 (some .int) 1 := ⟨Or.inl (tb (i := 1397) (by decide +kernel)), co_X11_state, in_X11_state, by decide +kernel, by decide⟩
set_option maxRecDepth 100000 in
theorem cl_L_18 : CL RL 18 yX10_set cX10_set 3 (some .boolean) 2 := ⟨Or.inl (tb (i := 510) (by decide +kernel)), co_X10_set, in_X10_set, by decide +kernel, by decide⟩
set_option maxRecDepth 100000 in
theorem cl_L_22 : CL RL 22 yX11_set cX11_set 3 (some .boolean) 2 := ⟨Or.inl (tb (i := 1405) (by decide +kernel)), co_X11_set, in_X11_set, by decide +kernel, by decide⟩
set_option maxRecDepth 100000 in
theorem cl_L_23 : CL RL 23 yX10_feast cX10_feast 3 (some .int) 2 := ⟨Or.inl (tb (i := 517) (by decide +kernel)), co_X10_feast, in_X10_feast, by decide +kernel, by decide⟩
set_option maxRecDepth 100000 in
theorem cl_L_27 : CL RL 27 yX11_feast cX11_feast 3 (some .int) 2 := ⟨Or.inl (tb (i := 1599) (by decide +kernel)), co_X11_feast, in_X11_feast, by decide +kernel, by decide⟩
set_option maxRecDepth 100000 in
theorem cl_L_28 : CL RL 28 yX10_forge cX10_forge 3 (some .int) 2 := ⟨Or.inl (tb (i := 608) (by decide +kernel)), co_X10_forge, in_X10_forge, by decide +kernel, by decide⟩
set_option maxRecDepth 100000 in
theorem cl_L_31 : CL RL 31 yX11_forge cX11_forge 3 (some .int) 2 := ⟨Or.inl (tb (i := 1656) (by decide +kernel)), co_X11_forge, in_X11_forge, by decide +kernel, by decide⟩
set_option maxRecDepth 100000 in
theorem cl_L_32 : CL RL 32 yX10_cut cX10_cut 3 (some .int) 2 := ⟨Or.inl (tb (i := 621) (by decide +kernel)), co_X10_cut, in_X10_cut, by decide +kernel, by decide⟩
set_option maxRecDepth 100000 in
theorem cl_L_35 : CL RL 35 yX11_cut cX11_cut 5 (some .int) 2 := ⟨Or.inl (tb (i := 1660) (by decide +kernel)), co_X11_cut, in_X11_cut, by decide +kernel, by decide⟩
set_option maxRecDepth 100000 in
theorem cl_L_36 : CL RL 36 yX10_join cX10_join 3 (some .int) 2 := ⟨Or.inl (tb (i := 634) (by decide +kernel)), co_X10_join, in_X10_join, by decide +kernel, by decide⟩
set_option maxRecDepth 100000 in
theorem cl_L_39 : CL RL 39 yX11_join cX11_join 5 (some .int) 2 := ⟨Or.inl (tb (i := 1672) (by decide +kernel)), co_X11_join, in_X11_join, by decide +kernel, by decide⟩
set_option maxRecDepth 100000 in
theorem cl_L_40 : CL RL 40 yX10_sell cX10_sell 2 (some .int) 1 := ⟨Or.inl (tb (i := 653) (by decide +kernel)), co_X10_sell, in_X10_sell, by decide +kernel, by decide⟩
set_option maxRecDepth 100000 in
theorem cl_L_43 : CL RL 43 yX11_sell cX11_sell 3 (some .int) 1 := ⟨Or.inl (tb (i := 1683) (by decide +kernel)), co_X11_sell, in_X11_sell, by decide +kernel, by decide⟩
set_option maxRecDepth 100000 in
theorem cl_L_44 : CL RL 44 yX10_days cX10_days 4 (some .int) 1 := ⟨Or.inl (tb (i := 674) (by decide +kernel)), co_X10_days, in_X10_days, by decide +kernel, by decide⟩
set_option maxRecDepth 100000 in
theorem cl_L_47 : CL RL 47 yX11_days cX11_days 4 (some .int) 1 := ⟨Or.inl (tb (i := 1722) (by decide +kernel)), co_X11_days, in_X11_days, by decide +kernel, by decide⟩
set_option maxRecDepth 100000 in
theorem cl_L_48 : CL RL 48 yX10_feed cX10_feed 6 (some .int) 5 := ⟨Or.inl (tb (i := 756) (by decide +kernel)), co_X10_feed, in_X10_feed, by decide +kernel, by decide⟩
set_option maxRecDepth 100000 in
theorem cl_L_52 : CL RL 52 yX11_feed cX11_feed 8 (some .int) 5 := ⟨Or.inl (tb (i := 1412) (by decide +kernel)), co_X11_feed, in_X11_feed, by decide +kernel, by decide⟩
set_option maxRecDepth 100000 in
theorem cl_L_53 : CL RL 53 yX10_end cX10_end 2 (some .boolean) 1 := ⟨Or.inl (tb (i := 768) (by decide +kernel)), co_X10_end, in_X10_end, by decide +kernel, by decide⟩
set_option maxRecDepth 100000 in
theorem cl_L_57 : CL RL 57 yX11_end cX11_end 2 (some .boolean) 1 := ⟨Or.inl (tb (i := 1416) (by decide +kernel)), co_X11_end, in_X11_end, by decide +kernel, by decide⟩
set_option maxRecDepth 100000 in
theorem cl_L_58 : CL RL 58 yX10_text cX10_text 2 (some .int) 1 := ⟨Or.inl (tb (i := 772) (by decide +kernel)), co_X10_text, in_X10_text, by decide +kernel, by decide⟩
set_option maxRecDepth 100000 in
theorem cl_L_61 : CL RL 61 yX11_text cX11_text 3 (some .int) 1 := ⟨Or.inl (tb (i := 1420) (by decide +kernel)), co_X11_text, in_X11_text, by decide +kernel, by decide⟩
set_option maxRecDepth 100000 in
theorem cl_L_62 : CL RL 62 yX10_fault cX10_fault 2 (some .int) 1 := ⟨Or.inl (tb (i := 1021) (by decide +kernel)), co_X10_fault, in_X10_fault, by decide +kernel, by decide⟩
set_option maxRecDepth 100000 in
theorem cl_L_65 : CL RL 65 yX11_fault cX11_fault 2 (some .int) 1 := ⟨Or.inl (tb (i := 1591) (by decide +kernel)), co_X11_fault, in_X11_fault, by decide +kernel, by decide⟩
set_option maxRecDepth 100000 in
theorem cl_L_66 : CL RL 66 yX10_remain cX10_remain 3 (some .int) 2 := ⟨Or.inl (tb (i := 1025) (by decide +kernel)), co_X10_remain, in_X10_remain, by decide +kernel, by decide⟩
set_option maxRecDepth 100000 in
theorem cl_L_69 : CL RL 69 yX11_remain cX11_remain 3 (some .int) 2 := ⟨Or.inl (tb (i := 1776) (by decide +kernel)), co_X11_remain, in_X11_remain, by decide +kernel, by decide⟩
set_option maxRecDepth 100000 in
theorem cl_L_70 : CL RL 70 yX10_kind cX10_kind 3 (some .int) 2 := ⟨Or.inl (tb (i := 1032) (by decide +kernel)), co_X10_kind, in_X10_kind, by decide +kernel, by decide⟩
set_option maxRecDepth 100000 in
theorem cl_L_73 : CL RL 73 yX11_kind cX11_kind 3 (some .int) 2 := ⟨Or.inl (tb (i := 1780) (by decide +kernel)), co_X11_kind, in_X11_kind, by decide +kernel, by decide⟩
set_option maxRecDepth 100000 in
theorem cl_L_74 : CL RL 74 yX10_left cX10_left 4 (some .int) 3 := ⟨Or.inl (tb (i := 1044) (by decide +kernel)), co_X10_left, in_X10_left, by decide +kernel, by decide⟩
set_option maxRecDepth 100000 in
theorem cl_L_78 : CL RL 78 yX11_left cX11_left 4 (some .int) 3 := ⟨Or.inl (tb (i := 1784) (by decide +kernel)), co_X11_left, in_X11_left, by decide +kernel, by decide⟩
set_option maxRecDepth 100000 in
theorem cl_L_79 : CL RL 79 yX10_want cX10_want 3 (some .int) 2 := ⟨Or.inl (tb (i := 1050) (by decide +kernel)), co_X10_want, in_X10_want, by decide +kernel, by decide⟩
set_option maxRecDepth 100000 in
theorem cl_L_82 : CL RL 82 yX11_want cX11_want 3 (some .int) 2 := ⟨Or.inl (tb (i := 1788) (by decide +kernel)), co_X11_want, in_X11_want, by decide +kernel, by decide⟩
set_option maxRecDepth 100000 in
theorem cl_L_83 : CL RL 83 yX10_book cX10_book 3 (some .int) 2 := ⟨Or.inl (tb (i := 1054) (by decide +kernel)), co_X10_book, in_X10_book, by decide +kernel, by decide⟩
set_option maxRecDepth 100000 in
theorem cl_L_86 : CL RL 86 yX11_book cX11_book 3 (some .int) 2 := ⟨Or.inl (tb (i := 1792) (by decide +kernel)), co_X11_book, in_X11_book, by decide +kernel, by decide⟩
set_option maxRecDepth 100000 in
theorem cl_L_87 : CL RL 87 yX10_goes cX10_goes 5 (some .int) 2 := ⟨Or.inl (tb (i := 1058) (by decide +kernel)), co_X10_goes, in_X10_goes, by decide +kernel, by decide⟩
set_option maxRecDepth 100000 in
theorem cl_L_90 : CL RL 90 yX11_goes cX11_goes 6 (some .int) 2 := ⟨Or.inl (tb (i := 1796) (by decide +kernel)), co_X11_goes, in_X11_goes, by decide +kernel, by decide⟩
set_option maxRecDepth 100000 in
theorem cl_L_91 : CL RL 91 yX10_joins cX10_joins 5 (some .int) 3 := ⟨Or.inl (tb (i := 1075) (by decide +kernel)), co_X10_joins, in_X10_joins, by decide +kernel, by decide⟩
set_option maxRecDepth 100000 in
theorem cl_L_95 : CL RL 95 yX11_joins cX11_joins 5 (some .int) 3 := ⟨Or.inl (tb (i := 1699) (by decide +kernel)), co_X11_joins, in_X11_joins, by decide +kernel, by decide⟩
set_option maxRecDepth 100000 in
theorem cl_L_96 : CL RL 96 yX10_most cX10_most 6 (some .int) 3 := ⟨Or.inl (tb (i := 1080) (by decide +kernel)), co_X10_most, in_X10_most, by decide +kernel, by decide⟩
set_option maxRecDepth 100000 in
theorem cl_L_99 : CL RL 99 yX11_most cX11_most 6 (some .int) 3 := ⟨Or.inl (tb (i := 1805) (by decide +kernel)), co_X11_most, in_X11_most, by decide +kernel, by decide⟩
set_option maxRecDepth 100000 in
theorem cl_L_100 : CL RL 100 yX10_piece cX10_piece 3 (some .int) 2 := ⟨Or.inl (tb (i := 1091) (by decide +kernel)), co_X10_piece, in_X10_piece, by decide +kernel, by decide⟩
set_option maxRecDepth 100000 in
theorem cl_L_103 : CL RL 103 yX11_piece cX11_piece 3 (some .int) 2 := ⟨Or.inl (tb (i := 1817) (by decide +kernel)), co_X11_piece, in_X11_piece, by decide +kernel, by decide⟩
set_option maxRecDepth 100000 in
theorem cl_L_104 : CL RL 104 yX10_cuts cX10_cuts 4 (some .int) 2 := ⟨Or.inl (tb (i := 1100) (by decide +kernel)), co_X10_cuts, in_X10_cuts, by decide +kernel, by decide⟩
set_option maxRecDepth 100000 in
theorem cl_L_107 : CL RL 107 yX11_cuts cX11_cuts 7 (some .int) 2 := ⟨Or.inl (tb (i := 1821) (by decide +kernel)), co_X11_cuts, in_X11_cuts, by decide +kernel, by decide⟩
set_option maxRecDepth 100000 in
theorem cl_L_108 : CL RL 108 yX10_stalls cX10_stalls 2 (some .int) 1 := ⟨Or.inl (tb (i := 1123) (by decide +kernel)), co_X10_stalls, in_X10_stalls, by decide +kernel, by decide⟩
set_option maxRecDepth 100000 in
theorem cl_L_111 : CL RL 111 yX11_stalls cX11_stalls 5 (some .int) 1 := ⟨Or.inl (tb (i := 1830) (by decide +kernel)), co_X11_stalls, in_X11_stalls, by decide +kernel, by decide⟩
set_option maxRecDepth 100000 in
theorem cl_L_112 : CL RL 112 yX10_test cX10_test 3 (some .int) 2 := ⟨Or.inl (tb (i := 1139) (by decide +kernel)), co_X10_test, in_X10_test, by decide +kernel, by decide⟩
set_option maxRecDepth 100000 in
theorem cl_L_115 : CL RL 115 yX11_test cX11_test 3 (some .int) 2 := ⟨Or.inl (tb (i := 1834) (by decide +kernel)), co_X11_test, in_X11_test, by decide +kernel, by decide⟩
set_option maxRecDepth 100000 in
theorem cl_L_116 : CL RL 116 yX10_forged cX10_forged 5 (some .int) 3 := ⟨Or.inl (tb (i := 1143) (by decide +kernel)), co_X10_forged, in_X10_forged, by decide +kernel, by decide⟩
set_option maxRecDepth 100000 in
theorem cl_L_119 : CL RL 119 yX11_forged cX11_forged 7 (some .int) 3 := ⟨Or.inl (tb (i := 1838) (by decide +kernel)), co_X11_forged, in_X11_forged, by decide +kernel, by decide⟩
set_option maxRecDepth 100000 in
theorem cl_L_120 : CL RL 120 yX10_lookAt cX10_lookAt 2 (some .int) 1 := ⟨Or.inl (tb (i := 1157) (by decide +kernel)), co_X10_lookAt, in_X10_lookAt, by decide +kernel, by decide⟩
set_option maxRecDepth 100000 in
theorem cl_L_123 : CL RL 123 yX11_lookAt cX11_lookAt 12 (some .int) 1 := ⟨Or.inl (tb (i := 1852) (by decide +kernel)), co_X11_lookAt, in_X11_lookAt, by decide +kernel, by decide⟩
set_option maxRecDepth 100000 in
theorem cl_L_124 : CL RL 124 yX10_crumbs cX10_crumbs 4 (some .int) 2 := ⟨Or.inl (tb (i := 1167) (by decide +kernel)), co_X10_crumbs, in_X10_crumbs, by decide +kernel, by decide⟩
set_option maxRecDepth 100000 in
theorem cl_L_127 : CL RL 127 yX11_crumbs cX11_crumbs 6 (some .int) 2 := ⟨Or.inl (tb (i := 1857) (by decide +kernel)), co_X11_crumbs, in_X11_crumbs, by decide +kernel, by decide⟩
set_option maxRecDepth 100000 in
theorem cl_L_128 : CL RL 128 yX10_cooks cX10_cooks 2 (some .int) 1 := ⟨Or.inl (tb (i := 1183) (by decide +kernel)), co_X10_cooks, in_X10_cooks, by decide +kernel, by decide⟩
set_option maxRecDepth 100000 in
theorem cl_L_131 : CL RL 131 yX11_cooks cX11_cooks 6 (some .int) 1 := ⟨Or.inl (tb (i := 1869) (by decide +kernel)), co_X11_cooks, in_X11_cooks, by decide +kernel, by decide⟩
set_option maxRecDepth 100000 in
theorem cl_L_132 : CL RL 132 yX10_waits cX10_waits 4 (some .int) 2 := ⟨Or.inl (tb (i := 1204) (by decide +kernel)), co_X10_waits, in_X10_waits, by decide +kernel, by decide⟩
set_option maxRecDepth 100000 in
theorem cl_L_135 : CL RL 135 yX11_waits cX11_waits 7 (some .int) 2 := ⟨Or.inl (tb (i := 1877) (by decide +kernel)), co_X11_waits, in_X11_waits, by decide +kernel, by decide⟩
set_option maxRecDepth 100000 in
theorem cl_L_136 : CL RL 136 yX10_limit cX10_limit 2 (some .int) 1 := ⟨Or.inl (tb (i := 1213) (by decide +kernel)), co_X10_limit, in_X10_limit, by decide +kernel, by decide⟩
set_option maxRecDepth 100000 in
theorem cl_L_139 : CL RL 139 yX11_limit cX11_limit 2 (some .int) 1 := ⟨Or.inl (tb (i := 1881) (by decide +kernel)), co_X11_limit, in_X11_limit, by decide +kernel, by decide⟩
set_option maxRecDepth 100000 in
theorem cl_L_140 : CL RL 140 yX10_dusk cX10_dusk 5 (some .int) 3 := ⟨Or.inl (tb (i := 1217) (by decide +kernel)), co_X10_dusk, in_X10_dusk, by decide +kernel, by decide⟩
set_option maxRecDepth 100000 in
theorem cl_L_143 : CL RL 143 yX11_dusk cX11_dusk 5 (some .int) 3 := ⟨Or.inl (tb (i := 1885) (by decide +kernel)), co_X11_dusk, in_X11_dusk, by decide +kernel, by decide⟩
set_option maxRecDepth 100000 in
theorem cl_L_144 : CL RL 144 yX10_trade cX10_trade 6 (some .int) 4 := ⟨Or.inl (tb (i := 1230) (by decide +kernel)), co_X10_trade, in_X10_trade, by decide +kernel, by decide⟩
set_option maxRecDepth 100000 in
theorem cl_L_148 : CL RL 148 yX11_trade cX11_trade 6 (some .int) 4 := ⟨Or.inl (tb (i := 1893) (by decide +kernel)), co_X11_trade, in_X11_trade, by decide +kernel, by decide⟩
set_option maxRecDepth 100000 in
theorem cl_L_149 : CL RL 149 yX10_ring cX10_ring 3 (some .int) 2 := ⟨Or.inl (tb (i := 1237) (by decide +kernel)), co_X10_ring, in_X10_ring, by decide +kernel, by decide⟩
set_option maxRecDepth 100000 in
theorem cl_L_152 : CL RL 152 yX11_ring cX11_ring 7 (some .int) 2 := ⟨Or.inl (tb (i := 1900) (by decide +kernel)), co_X11_ring, in_X11_ring, by decide +kernel, by decide⟩
set_option maxRecDepth 100000 in
theorem cl_L_153 : CL RL 153 yX10_back cX10_back 2 (some .int) 1 := ⟨Or.inl (tb (i := 1249) (by decide +kernel)), co_X10_back, in_X10_back, by decide +kernel, by decide⟩
set_option maxRecDepth 100000 in
theorem cl_L_156 : CL RL 156 yX11_back cX11_back 3 (some .int) 1 := ⟨Or.inl (tb (i := 1904) (by decide +kernel)), co_X11_back, in_X11_back, by decide +kernel, by decide⟩
set_option maxRecDepth 100000 in
theorem cl_L_157 : CL RL 157 yX10_undo cX10_undo 1 (some .boolean) 0 := ⟨Or.inl (tb (i := 1266) (by decide +kernel)), co_X10_undo, in_X10_undo, by decide +kernel, by decide⟩
set_option maxRecDepth 100000 in
theorem cl_L_161 : CL RL 161 yX11_undo cX11_undo 2 (some .boolean) 0 := ⟨Or.inl (tb (i := 1595) (by decide +kernel)), co_X11_undo, in_X11_undo, by decide +kernel, by decide⟩
set_option maxRecDepth 100000 in
theorem cl_L_162 : CL RL 162 yX10_image cX10_image 2 (some .boolean) 1 := ⟨Or.inl (tb (i := 1282) (by decide +kernel)), co_X10_image, in_X10_image, by decide +kernel, by decide⟩
set_option maxRecDepth 100000 in
theorem cl_L_166 : CL RL 166 yX11_image cX11_image 3 (some .boolean) 1 := ⟨Or.inl (tb (i := 1912) (by decide +kernel)), co_X11_image, in_X11_image, by decide +kernel, by decide⟩
set_option maxRecDepth 100000 in
theorem cl_L_167 : CL RL 167 yX10_look cX10_look 2 (some .int) 1 := ⟨Or.inl (tb (i := 1291) (by decide +kernel)), co_X10_look, in_X10_look, by decide +kernel, by decide⟩
set_option maxRecDepth 100000 in
theorem cl_L_170 : CL RL 170 yX11_look cX11_look 2 (some .int) 1 := ⟨Or.inl (tb (i := 1916) (by decide +kernel)), co_X11_look, in_X11_look, by decide +kernel, by decide⟩
set_option maxRecDepth 100000 in
theorem cl_X11_53 : CL RX11 53 yX11_isIn cX11_isIn 3 (some .boolean) 3 := ⟨Or.inl (tb (i := 1409) (by decide +kernel)), co_X11_isIn, in_X11_isIn, by decide +kernel, by decide⟩
set_option maxRecDepth 100000 in
theorem cl_X11_57 : CL RX11 57 yX11_ofRemain cX11_ofRemain 3 (some .int) 2 := ⟨Or.inl (tb (i := 1668) (by decide +kernel)), co_X11_ofRemain, in_X11_ofRemain, by decide +kernel, by decide⟩
set_option maxRecDepth 100000 in
theorem cl_X11_64 : CL RX11 64 yX11_forgets cX11_forgets 1 none 0 := ⟨Or.inl (tb (i := 1401) (by decide +kernel)), co_X11_forgets, in_X11_forgets, by decide +kernel, by decide⟩
set_option maxRecDepth 100000 in
theorem cl_X11_78 : CL RX11 78 yJ0_length_8abf5 cJ0_length_8abf5 1 (some .int) 0 := ⟨Or.inl (tb (i := 1448) (by decide +kernel)), co_J0_length_8abf5, in_J0_length_8abf5, by decide +kernel, by decide⟩
set_option maxRecDepth 100000 in
theorem cl_X11_84 : CL RX11 84 yJ0_charAt_5068e cJ0_charAt_5068e 2 (some .char) 1 := ⟨Or.inl (tb (i := 1449) (by decide +kernel)), co_J0_charAt_5068e, in_J0_charAt_5068e, by decide +kernel, by decide⟩
set_option maxRecDepth 100000 in
theorem cl_X11_90 : CL RX11 90 yX11_is cX11_is 4 (some .boolean) 1 := ⟨Or.inl (tb (i := 1444) (by decide +kernel)), co_X11_is, in_X11_is, by decide +kernel, by decide⟩
set_option maxRecDepth 100000 in
theorem cl_X11_122 : CL RX11 122 yX11_asked cX11_asked 1 (some .int) 0 := ⟨Or.inl (tb (i := 1463) (by decide +kernel)), co_X11_asked, in_X11_asked, by decide +kernel, by decide⟩
set_option maxRecDepth 100000 in
theorem cl_X11_142 : CL RX11 142 yX11_kindWord cX11_kindWord 1 (some .int) 0 := ⟨Or.inl (tb (i := 1439) (by decide +kernel)), co_X11_kindWord, in_X11_kindWord, by decide +kernel, by decide⟩
set_option maxRecDepth 100000 in
theorem cl_X11_145 : CL RX11 145 yX11_lawWord cX11_lawWord 1 (some .int) 0 := ⟨Or.inl (tb (i := 1451) (by decide +kernel)), co_X11_lawWord, in_X11_lawWord, by decide +kernel, by decide⟩
set_option maxRecDepth 100000 in
theorem cl_X11_148 : CL RX11 148 yX11_feastWord cX11_feastWord 1 (some .int) 0 := ⟨Or.inl (tb (i := 1473) (by decide +kernel)), co_X11_feastWord, in_X11_feastWord, by decide +kernel, by decide⟩
set_option maxRecDepth 100000 in
theorem cl_X11_151 : CL RX11 151 yX11_wantWord cX11_wantWord 1 (some .int) 0 := ⟨Or.inl (tb (i := 1480) (by decide +kernel)), co_X11_wantWord, in_X11_wantWord, by decide +kernel, by decide⟩
set_option maxRecDepth 100000 in
theorem cl_X11_156 : CL RX11 156 yX11_see cX11_see 2 (some .int) 1 := ⟨Or.inl (tb (i := 1428) (by decide +kernel)), co_X11_see, in_X11_see, by decide +kernel, by decide⟩
set_option maxRecDepth 100000 in
theorem cl_X11_163 : CL RX11 163 yX11_isLetter cX11_isLetter 1 (some .boolean) 1 := ⟨Or.inl (tb (i := 1432) (by decide +kernel)), co_X11_isLetter, in_X11_isLetter, by decide +kernel, by decide⟩
set_option maxRecDepth 100000 in
theorem cl_X11_167 : CL RX11 167 yX11_word cX11_word 1 (some .int) 0 := ⟨Or.inl (tb (i := 1435) (by decide +kernel)), co_X11_word, in_X11_word, by decide +kernel, by decide⟩
set_option maxRecDepth 100000 in
theorem cl_X11_170 : CL RX11 170 yX11_isDigit cX11_isDigit 1 (some .boolean) 1 := ⟨Or.inl (tb (i := 1488) (by decide +kernel)), co_X11_isDigit, in_X11_isDigit, by decide +kernel, by decide⟩
set_option maxRecDepth 100000 in
theorem cl_X11_182 : CL RX11 182 yX11_bad cX11_bad 2 (some .boolean) 1 := ⟨Or.inl (tb (i := 1499) (by decide +kernel)), co_X11_bad, in_X11_bad, by decide +kernel, by decide⟩
set_option maxRecDepth 100000 in
theorem cl_X11_185 : CL RX11 185 yX11_next0 cX11_next0 3 none 0 := ⟨Or.inl (tb (i := 1424) (by decide +kernel)), co_X11_next0, in_X11_next0, by decide +kernel, by decide⟩
set_option maxRecDepth 100000 in
theorem cl_X11_194 : CL RX11 194 yX11_product cX11_product 3 (some .boolean) 0 := ⟨Or.inl (tb (i := 1507) (by decide +kernel)), co_X11_product, in_X11_product, by decide +kernel, by decide⟩
set_option maxRecDepth 100000 in
theorem cl_X11_198 : CL RX11 198 yX11_lay cX11_lay 3 none 2 := ⟨Or.inl (tb (i := 1515) (by decide +kernel)), co_X11_lay, in_X11_lay, by decide +kernel, by decide⟩
set_option maxRecDepth 100000 in
theorem cl_X11_202 : CL RX11 202 yX11_unit cX11_unit 2 (some .boolean) 0 := ⟨Or.inl (tb (i := 1511) (by decide +kernel)), co_X11_unit, in_X11_unit, by decide +kernel, by decide⟩
set_option maxRecDepth 100000 in
theorem cl_X11_205 : CL RX11 205 yX11_every cX11_every 1 (some .boolean) 0 := ⟨Or.inl (tb (i := 1523) (by decide +kernel)), co_X11_every, in_X11_every, by decide +kernel, by decide⟩
set_option maxRecDepth 100000 in
theorem cl_X11_208 : CL RX11 208 yX11_oneTest cX11_oneTest 2 (some .boolean) 0 := ⟨Or.inl (tb (i := 1527) (by decide +kernel)), co_X11_oneTest, in_X11_oneTest, by decide +kernel, by decide⟩
set_option maxRecDepth 100000 in
theorem cl_X11_211 : CL RX11 211 yX11_opens cX11_opens 1 (some .boolean) 0 := ⟨Or.inl (tb (i := 1531) (by decide +kernel)), co_X11_opens, in_X11_opens, by decide +kernel, by decide⟩
set_option maxRecDepth 100000 in
theorem cl_X11_214 : CL RX11 214 yX11_any cX11_any 1 (some .boolean) 0 := ⟨Or.inl (tb (i := 1519) (by decide +kernel)), co_X11_any, in_X11_any, by decide +kernel, by decide⟩
set_option maxRecDepth 100000 in
theorem cl_X11_217 : CL RX11 217 yX11_need cX11_need 2 (some .boolean) 1 := ⟨Or.inl (tb (i := 1535) (by decide +kernel)), co_X11_need, in_X11_need, by decide +kernel, by decide⟩
set_option maxRecDepth 100000 in
theorem cl_X11_220 : CL RX11 220 yX11_sumUp cX11_sumUp 2 (some .boolean) 0 := ⟨Or.inl (tb (i := 1503) (by decide +kernel)), co_X11_sumUp, in_X11_sumUp, by decide +kernel, by decide⟩
set_option maxRecDepth 100000 in
theorem cl_X11_226 : CL RX11 226 yX11_aLine cX11_aLine 1 (some .boolean) 0 := ⟨Or.inl (tb (i := 1495) (by decide +kernel)), co_X11_aLine, in_X11_aLine, by decide +kernel, by decide⟩
set_option maxRecDepth 100000 in
theorem cl_X11_229 : CL RX11 229 yX11_number cX11_number 4 (some .boolean) 3 := ⟨Or.inl (tb (i := 1555) (by decide +kernel)), co_X11_number, in_X11_number, by decide +kernel, by decide⟩
set_option maxRecDepth 100000 in
theorem cl_X11_235 : CL RX11 235 yX11_told cX11_told 5 (some .boolean) 4 := ⟨Or.inl (tb (i := 1551) (by decide +kernel)), co_X11_told, in_X11_told, by decide +kernel, by decide⟩
set_option maxRecDepth 100000 in
theorem cl_X11_239 : CL RX11 239 yX11_isKind cX11_isKind 2 (some .boolean) 1 := ⟨Or.inl (tb (i := 1571) (by decide +kernel)), co_X11_isKind, in_X11_isKind, by decide +kernel, by decide⟩
set_option maxRecDepth 100000 in
theorem cl_X11_242 : CL RX11 242 yX11_aKind cX11_aKind 1 (some .boolean) 0 := ⟨Or.inl (tb (i := 1547) (by decide +kernel)), co_X11_aKind, in_X11_aKind, by decide +kernel, by decide⟩
set_option maxRecDepth 100000 in
theorem cl_X11_245 : CL RX11 245 yX11_aFeast cX11_aFeast 1 (some .boolean) 0 := ⟨Or.inl (tb (i := 1559) (by decide +kernel)), co_X11_aFeast, in_X11_aFeast, by decide +kernel, by decide⟩
set_option maxRecDepth 100000 in
theorem cl_X11_248 : CL RX11 248 yX11_aWant cX11_aWant 2 (some .boolean) 0 := ⟨Or.inl (tb (i := 1563) (by decide +kernel)), co_X11_aWant, in_X11_aWant, by decide +kernel, by decide⟩
set_option maxRecDepth 100000 in
theorem cl_X11_251 : CL RX11 251 yX11_aDish cX11_aDish 5 (some .boolean) 0 := ⟨Or.inl (tb (i := 1567) (by decide +kernel)), co_X11_aDish, in_X11_aDish, by decide +kernel, by decide⟩
set_option maxRecDepth 100000 in
theorem cl_X11_254 : CL RX11 254 yX11_aRow cX11_aRow 1 (some .boolean) 0 := ⟨Or.inl (tb (i := 1543) (by decide +kernel)), co_X11_aRow, in_X11_aRow, by decide +kernel, by decide⟩
set_option maxRecDepth 100000 in
theorem cl_X11_257 : CL RX11 257 yX11_puts cX11_puts 5 (some .int) 3 := ⟨Or.inl (tb (i := 1583) (by decide +kernel)), co_X11_puts, in_X11_puts, by decide +kernel, by decide⟩
set_option maxRecDepth 100000 in
theorem cl_X11_261 : CL RX11 261 yX11_putsLaw cX11_putsLaw 2 (some .int) 0 := ⟨Or.inl (tb (i := 1579) (by decide +kernel)), co_X11_putsLaw, in_X11_putsLaw, by decide +kernel, by decide⟩
set_option maxRecDepth 100000 in
theorem cl_X11_264 : CL RX11 264 yX11_putsKinds cX11_putsKinds 1 (some .int) 0 := ⟨Or.inl (tb (i := 1587) (by decide +kernel)), co_X11_putsKinds, in_X11_putsKinds, by decide +kernel, by decide⟩
set_option maxRecDepth 100000 in
theorem cl_X11_270 : CL RX11 270 yX11_readsLaw cX11_readsLaw 2 (some .boolean) 0 := ⟨Or.inl (tb (i := 1491) (by decide +kernel)), co_X11_readsLaw, in_X11_readsLaw, by decide +kernel, by decide⟩
set_option maxRecDepth 100000 in
theorem cl_X11_273 : CL RX11 273 yX11_readsRows cX11_readsRows 3 (some .boolean) 0 := ⟨Or.inl (tb (i := 1539) (by decide +kernel)), co_X11_readsRows, in_X11_readsRows, by decide +kernel, by decide⟩
set_option maxRecDepth 100000 in
theorem cl_X11_276 : CL RX11 276 yX11_putsText cX11_putsText 2 (some .int) 1 := ⟨Or.inl (tb (i := 1575) (by decide +kernel)), co_X11_putsText, in_X11_putsText, by decide +kernel, by decide⟩
set_option maxRecDepth 100000 in
theorem cl_X11_279 : CL RX11 279 yX11_both cX11_both 3 (some .int) 3 := ⟨Or.inl (tb (i := 1635) (by decide +kernel)), co_X11_both, in_X11_both, by decide +kernel, by decide⟩
set_option maxRecDepth 100000 in
theorem cl_X11_282 : CL RX11 282 yX11_comesTo cX11_comesTo 8 (some .int) 3 := ⟨Or.inl (tb (i := 1631) (by decide +kernel)), co_X11_comesTo, in_X11_comesTo, by decide +kernel, by decide⟩
set_option maxRecDepth 100000 in
theorem cl_X11_285 : CL RX11 285 yX11_isSo cX11_isSo 2 (some .boolean) 1 := ⟨Or.inl (tb (i := 1627) (by decide +kernel)), co_X11_isSo, in_X11_isSo, by decide +kernel, by decide⟩
set_option maxRecDepth 100000 in
theorem cl_X11_288 : CL RX11 288 yX11_lesser cX11_lesser 2 (some .int) 2 := ⟨Or.inl (tb (i := 1638) (by decide +kernel)), co_X11_lesser, in_X11_lesser, by decide +kernel, by decide⟩
set_option maxRecDepth 100000 in
theorem cl_X11_291 : CL RX11 291 yX11_greater cX11_greater 2 (some .int) 2 := ⟨Or.inl (tb (i := 1641) (by decide +kernel)), co_X11_greater, in_X11_greater, by decide +kernel, by decide⟩
set_option maxRecDepth 100000 in
theorem cl_X11_294 : CL RX11 294 yX11_wholeOf cX11_wholeOf 2 (some .int) 1 := ⟨Or.inl (tb (i := 1619) (by decide +kernel)), co_X11_wholeOf, in_X11_wholeOf, by decide +kernel, by decide⟩
set_option maxRecDepth 100000 in
theorem cl_X11_297 : CL RX11 297 yX11_laysFeast cX11_laysFeast 3 none 2 := ⟨Or.inl (tb (i := 1615) (by decide +kernel)), co_X11_laysFeast, in_X11_laysFeast, by decide +kernel, by decide⟩
set_option maxRecDepth 100000 in
theorem cl_X11_300 : CL RX11 300 yX11_says cX11_says 5 (some .int) 3 := ⟨Or.inl (tb (i := 1623) (by decide +kernel)), co_X11_says, in_X11_says, by decide +kernel, by decide⟩
set_option maxRecDepth 100000 in
theorem cl_X11_303 : CL RX11 303 yX11_ageOf cX11_ageOf 2 (some .int) 1 := ⟨Or.inl (tb (i := 1695) (by decide +kernel)), co_X11_ageOf, in_X11_ageOf, by decide +kernel, by decide⟩
set_option maxRecDepth 100000 in
theorem cl_X11_306 : CL RX11 306 yX11_laysRemain cX11_laysRemain 3 none 2 := ⟨Or.inl (tb (i := 1691) (by decide +kernel)), co_X11_laysRemain, in_X11_laysRemain, by decide +kernel, by decide⟩
set_option maxRecDepth 100000 in
theorem cl_X11_313 : CL RX11 313 yX11_leftOf cX11_leftOf 3 (some .int) 2 := ⟨Or.inl (tb (i := 1611) (by decide +kernel)), co_X11_leftOf, in_X11_leftOf, by decide +kernel, by decide⟩
set_option maxRecDepth 100000 in
theorem cl_X11_316 : CL RX11 316 yX11_edgeOf cX11_edgeOf 3 (some .int) 2 := ⟨Or.inl (tb (i := 1644) (by decide +kernel)), co_X11_edgeOf, in_X11_edgeOf, by decide +kernel, by decide⟩
set_option maxRecDepth 100000 in
theorem cl_X11_319 : CL RX11 319 yX11_comes cX11_comes 8 (some .int) 5 := ⟨Or.inl (tb (i := 1648) (by decide +kernel)), co_X11_comes, in_X11_comes, by decide +kernel, by decide⟩
set_option maxRecDepth 100000 in
theorem cl_X11_323 : CL RX11 323 yX11_notes cX11_notes 5 none 3 := ⟨Or.inl (tb (i := 1652) (by decide +kernel)), co_X11_notes, in_X11_notes, by decide +kernel, by decide⟩
set_option maxRecDepth 100000 in
theorem cl_X11_327 : CL RX11 327 yX11_keeps cX11_keeps 2 none 0 := ⟨Or.inl (tb (i := 1603) (by decide +kernel)), co_X11_keeps, in_X11_keeps, by decide +kernel, by decide⟩
set_option maxRecDepth 100000 in
theorem cl_X11_329 : CL RX11 329 yX11_feasts cX11_feasts 5 (some .int) 2 := ⟨Or.inl (tb (i := 1607) (by decide +kernel)), co_X11_feasts, in_X11_feasts, by decide +kernel, by decide⟩
set_option maxRecDepth 100000 in
theorem cl_X11_332 : CL RX11 332 yX11_isRemain cX11_isRemain 2 (some .boolean) 1 := ⟨Or.inl (tb (i := 1664) (by decide +kernel)), co_X11_isRemain, in_X11_isRemain, by decide +kernel, by decide⟩
set_option maxRecDepth 100000 in
theorem cl_X11_335 : CL RX11 335 yX11_joined cX11_joined 1 (some .int) 1 := ⟨Or.inl (tb (i := 1676) (by decide +kernel)), co_X11_joined, in_X11_joined, by decide +kernel, by decide⟩
set_option maxRecDepth 100000 in
theorem cl_X11_338 : CL RX11 338 yX11_goesAway cX11_goesAway 3 none 1 := ⟨Or.inl (tb (i := 1679) (by decide +kernel)), co_X11_goesAway, in_X11_goesAway, by decide +kernel, by decide⟩
set_option maxRecDepth 100000 in
theorem cl_X11_342 : CL RX11 342 yX11_priceOf cX11_priceOf 3 (some .int) 2 := ⟨Or.inl (tb (i := 1687) (by decide +kernel)), co_X11_priceOf, in_X11_priceOf, by decide +kernel, by decide⟩
set_option maxRecDepth 100000 in
theorem cl_X11_345 : CL RX11 345 yX11_count cX11_count 3 (some .int) 1 := ⟨Or.inl (tb (i := 1719) (by decide +kernel)), co_X11_count, in_X11_count, by decide +kernel, by decide⟩
set_option maxRecDepth 100000 in
theorem cl_X11_348 : CL RX11 348 yX11_sumOf cX11_sumOf 4 (some .int) 1 := ⟨Or.inl (tb (i := 1711) (by decide +kernel)), co_X11_sumOf, in_X11_sumOf, by decide +kernel, by decide⟩
set_option maxRecDepth 100000 in
theorem cl_X11_351 : CL RX11 351 yX11_placesOf cX11_placesOf 4 (some .int) 1 := ⟨Or.inl (tb (i := 1707) (by decide +kernel)), co_X11_placesOf, in_X11_placesOf, by decide +kernel, by decide⟩
set_option maxRecDepth 100000 in
theorem cl_X11_354 : CL RX11 354 yX11_doesFor cX11_doesFor 3 (some .boolean) 2 := ⟨Or.inl (tb (i := 1715) (by decide +kernel)), co_X11_doesFor, in_X11_doesFor, by decide +kernel, by decide⟩
set_option maxRecDepth 100000 in
theorem cl_X11_358 : CL RX11 358 yX11_joinsOf cX11_joinsOf 8 (some .int) 2 := ⟨Or.inl (tb (i := 1703) (by decide +kernel)), co_X11_joinsOf, in_X11_joinsOf, by decide +kernel, by decide⟩
set_option maxRecDepth 100000 in
theorem cl_X11_361 : CL RX11 361 yX11_isMet cX11_isMet 2 (some .boolean) 1 := ⟨Or.inl (tb (i := 1734) (by decide +kernel)), co_X11_isMet, in_X11_isMet, by decide +kernel, by decide⟩
set_option maxRecDepth 100000 in
theorem cl_X11_364 : CL RX11 364 yX11_ofWant cX11_ofWant 3 (some .int) 2 := ⟨Or.inl (tb (i := 1738) (by decide +kernel)), co_X11_ofWant, in_X11_ofWant, by decide +kernel, by decide⟩
set_option maxRecDepth 100000 in
theorem cl_X11_367 : CL RX11 367 yX11_keepsOf cX11_keepsOf 2 (some .int) 1 := ⟨Or.inl (tb (i := 1754) (by decide +kernel)), co_X11_keepsOf, in_X11_keepsOf, by decide +kernel, by decide⟩
set_option maxRecDepth 100000 in
theorem cl_X11_370 : CL RX11 370 yX11_spoilOf cX11_spoilOf 2 (some .int) 1 := ⟨Or.inl (tb (i := 1758) (by decide +kernel)), co_X11_spoilOf, in_X11_spoilOf, by decide +kernel, by decide⟩
set_option maxRecDepth 100000 in
theorem cl_X11_373 : CL RX11 373 yX11_draw cX11_draw 2 (some .int) 1 := ⟨Or.inl (tb (i := 1762) (by decide +kernel)), co_X11_draw, in_X11_draw, by decide +kernel, by decide⟩
set_option maxRecDepth 100000 in
theorem cl_X11_376 : CL RX11 376 yX11_isSpoilt cX11_isSpoilt 3 (some .boolean) 1 := ⟨Or.inl (tb (i := 1750) (by decide +kernel)), co_X11_isSpoilt, in_X11_isSpoilt, by decide +kernel, by decide⟩
set_option maxRecDepth 100000 in
theorem cl_X11_379 : CL RX11 379 yX11_meetsWants cX11_meetsWants 5 (some .int) 0 := ⟨Or.inl (tb (i := 1730) (by decide +kernel)), co_X11_meetsWants, in_X11_meetsWants, by decide +kernel, by decide⟩
set_option maxRecDepth 100000 in
theorem cl_X11_382 : CL RX11 382 yX11_spoils cX11_spoils 2 none 0 := ⟨Or.inl (tb (i := 1746) (by decide +kernel)), co_X11_spoils, in_X11_spoils, by decide +kernel, by decide⟩
set_option maxRecDepth 100000 in
theorem cl_X11_385 : CL RX11 385 yX11_inspects cX11_inspects 2 none 0 := ⟨Or.inl (tb (i := 1768) (by decide +kernel)), co_X11_inspects, in_X11_inspects, by decide +kernel, by decide⟩
set_option maxRecDepth 100000 in
theorem cl_X11_388 : CL RX11 388 yX11_dogs cX11_dogs 2 none 0 := ⟨Or.inl (tb (i := 1772) (by decide +kernel)), co_X11_dogs, in_X11_dogs, by decide +kernel, by decide⟩
set_option maxRecDepth 100000 in
theorem cl_X11_391 : CL RX11 391 yX11_morning cX11_morning 2 (some .int) 0 := ⟨Or.inl (tb (i := 1726) (by decide +kernel)), co_X11_morning, in_X11_morning, by decide +kernel, by decide⟩
set_option maxRecDepth 100000 in
theorem cl_X11_394 : CL RX11 394 yX11_evening cX11_evening 1 none 0 := ⟨Or.inl (tb (i := 1742) (by decide +kernel)), co_X11_evening, in_X11_evening, by decide +kernel, by decide⟩
set_option maxRecDepth 100000 in
theorem cl_X11_398 : CL RX11 398 yX11_firstMissed cX11_firstMissed 2 (some .int) 0 := ⟨Or.inl (tb (i := 1801) (by decide +kernel)), co_X11_firstMissed, in_X11_firstMissed, by decide +kernel, by decide⟩
set_option maxRecDepth 100000 in
theorem cl_X11_401 : CL RX11 401 yX11_mostGuests cX11_mostGuests 4 (some .int) 1 := ⟨Or.inl (tb (i := 1809) (by decide +kernel)), co_X11_mostGuests, in_X11_mostGuests, by decide +kernel, by decide⟩
set_option maxRecDepth 100000 in
theorem cl_X11_404 : CL RX11 404 yX11_holds cX11_holds 4 (some .int) 2 := ⟨Or.inl (tb (i := 1813) (by decide +kernel)), co_X11_holds, in_X11_holds, by decide +kernel, by decide⟩
set_option maxRecDepth 100000 in
theorem cl_X11_408 : CL RX11 408 yX11_laysCuts cX11_laysCuts 6 none 1 := ⟨Or.inl (tb (i := 1825) (by decide +kernel)), co_X11_laysCuts, in_X11_laysCuts, by decide +kernel, by decide⟩
set_option maxRecDepth 100000 in
theorem cl_X11_413 : CL RX11 413 yX11_areTests cX11_areTests 2 (some .boolean) 1 := ⟨Or.inl (tb (i := 1842) (by decide +kernel)), co_X11_areTests, in_X11_areTests, by decide +kernel, by decide⟩
set_option maxRecDepth 100000 in
theorem cl_X11_418 : CL RX11 418 yX11_byTest cX11_byTest 9 (some .long) 3 := ⟨Or.inl (tb (i := 1847) (by decide +kernel)), co_X11_byTest, in_X11_byTest, by decide +kernel, by decide⟩
set_option maxRecDepth 100000 in
theorem cl_X11_424 : CL RX11 424 yX11_linesLeaving cX11_linesLeaving 4 (some .int) 1 := ⟨Or.inl (tb (i := 1861) (by decide +kernel)), co_X11_linesLeaving, in_X11_linesLeaving, by decide +kernel, by decide⟩
set_option maxRecDepth 100000 in
theorem cl_X11_427 : CL RX11 427 yX11_greaterPart cX11_greaterPart 5 (some .int) 2 := ⟨Or.inl (tb (i := 1865) (by decide +kernel)), co_X11_greaterPart, in_X11_greaterPart, by decide +kernel, by decide⟩
set_option maxRecDepth 100000 in
theorem cl_X11_430 : CL RX11 430 yX11_cookedOf cX11_cookedOf 6 (some .int) 1 := ⟨Or.inl (tb (i := 1873) (by decide +kernel)), co_X11_cookedOf, in_X11_cookedOf, by decide +kernel, by decide⟩
set_option maxRecDepth 100000 in
theorem cl_X11_433 : CL RX11 433 yX11_takerAt cX11_takerAt 3 (some .int) 1 := ⟨Or.inl (tb (i := 1889) (by decide +kernel)), co_X11_takerAt, in_X11_takerAt, by decide +kernel, by decide⟩
set_option maxRecDepth 100000 in
theorem cl_X11_436 : CL RX11 436 yX11_isOne cX11_isOne 1 (some .boolean) 1 := ⟨Or.inl (tb (i := 1897) (by decide +kernel)), co_X11_isOne, in_X11_isOne, by decide +kernel, by decide⟩
set_option maxRecDepth 100000 in
theorem cl_X11_439 : CL RX11 439 yX11_backFrom cX11_backFrom 11 (some .int) 5 := ⟨Or.inl (tb (i := 1908) (by decide +kernel)), co_X11_backFrom, in_X11_backFrom, by decide +kernel, by decide⟩
set_option maxRecDepth 100000 in
theorem cl_J0_335 : CL RJ0 335 yJ0_coder_7d493 cJ0_coder_7d493 1 (some .byte) 0 := ⟨Or.inl (tb (i := 808) (by decide +kernel)), co_J0_coder_7d493, in_J0_coder_7d493, by decide +kernel, by decide⟩
set_option maxRecDepth 100000 in
theorem cl_J0_492 : CL RJ0 492 yJ0_isLatin1_aae02 cJ0_isLatin1_aae02 1 (some .boolean) 0 := ⟨Or.inl (tb (i := 818) (by decide +kernel)), co_J0_isLatin1_aae02, in_J0_isLatin1_aae02, by decide +kernel, by decide⟩
set_option maxRecDepth 100000 in
theorem cl_J0_495 : CL RJ0 495 yJ1_charAt_3b067 cJ1_charAt_3b067 2 (some .char) 2 := ⟨Or.inl (tb (i := 822) (by decide +kernel)), co_J1_charAt_3b067, in_J1_charAt_3b067, by decide +kernel, by decide⟩
set_option maxRecDepth 100000 in
theorem cl_J0_498 : CL RJ0 498 yJ2_charAt_3b067 cJ2_charAt_3b067 2 (some .char) 2 := ⟨Or.inl (tb (i := 833) (by decide +kernel)), co_J2_charAt_3b067, in_J2_charAt_3b067, by decide +kernel, by decide⟩
set_option maxRecDepth 100000 in
theorem cl_J0_1059 : CL RJ0 1059 yJ3_checkIndex_8e157 cJ3_checkIndex_8e157 3 (some .int) 3 := ⟨Or.inl (tb (i := 830) (by decide +kernel)), co_J3_checkIndex_8e157, in_J3_checkIndex_8e157, by decide +kernel, by decide⟩
set_option maxRecDepth 100000 in
theorem cl_J1_9 : CL RJ1 9 yJ0_checkIndex_df160 cJ0_checkIndex_df160 2 none 2 := ⟨Or.inl (tb (i := 825) (by decide +kernel)), co_J0_checkIndex_df160, in_J0_checkIndex_df160, by decide +kernel, by decide⟩
theorem shp_n {a : Nat} (h : 169 ≤ a) : shp[a]? = none := by
  rw [List.getElem?_eq_none_iff]
  exact Nat.le_trans (by decide +kernel) h
theorem oc_lt {a ci : Nat} (h : oc a = some ci) : a < 169 := by
  rcases Nat.lt_or_ge a 169 with q | q
  · exact q
  · unfold oc at h; rw [shp_n q] at h; cases h
theorem byA {ci a : Nat} {p : Nat → Bool} (hp : (List.range 169).all (fun a => !(oc a == some ci) || p a) = true) (h : oc a = some ci) : p a = true := by
  have := List.all_eq_true.mp hp a (List.mem_range.mpr (oc_lt h))
  rw [h] at this
  simpa using this
theorem rf_0_0 {a : Nat} (h : oc a = some 0) : rf a 0 = some (152) := by simpa using byA (p := fun a => rf a 0 == some (152)) (by decide +kernel) h
theorem rf_0_1 {a : Nat} (h : oc a = some 0) : rf a 1 = some (153) := by simpa using byA (p := fun a => rf a 1 == some (153)) (by decide +kernel) h
theorem rf_0_2 {a : Nat} (h : oc a = some 0) : rf a 2 = some (154) := by simpa using byA (p := fun a => rf a 2 == some (154)) (by decide +kernel) h
theorem isi_0_3 {a : Nat} (h : oc a = some 0) : isi a 3 = true := byA (p := fun a => isi a 3) (by decide +kernel) h
theorem isi_0_4 {a : Nat} (h : oc a = some 0) : isi a 4 = true := byA (p := fun a => isi a 4) (by decide +kernel) h
theorem rf_1_0 {a : Nat} (h : oc a = some 1) : rf a 0 = some (a + 1) := by simpa using byA (p := fun a => rf a 0 == some (a + 1)) (by decide +kernel) h
theorem rf_1_1 {a : Nat} (h : oc a = some 1) : rf a 1 = some (a + 2) := by simpa using byA (p := fun a => rf a 1 == some (a + 2)) (by decide +kernel) h
theorem rf_1_2 {a : Nat} (h : oc a = some 1) : rf a 2 = some (a + 3) := by simpa using byA (p := fun a => rf a 2 == some (a + 3)) (by decide +kernel) h
theorem isi_1_3 {a : Nat} (h : oc a = some 1) : isi a 3 = true := byA (p := fun a => isi a 3) (by decide +kernel) h
theorem isi_1_4 {a : Nat} (h : oc a = some 1) : isi a 4 = true := byA (p := fun a => isi a 4) (by decide +kernel) h
theorem isi_1_5 {a : Nat} (h : oc a = some 1) : isi a 5 = true := byA (p := fun a => isi a 5) (by decide +kernel) h
theorem isi_1_6 {a : Nat} (h : oc a = some 1) : isi a 6 = true := byA (p := fun a => isi a 6) (by decide +kernel) h
theorem rf_2_0 {a : Nat} (h : oc a = some 2) : rf a 0 = some (a + 1) := by simpa using byA (p := fun a => rf a 0 == some (a + 1)) (by decide +kernel) h
theorem rf_2_1 {a : Nat} (h : oc a = some 2) : rf a 1 = some (a + 2) := by simpa using byA (p := fun a => rf a 1 == some (a + 2)) (by decide +kernel) h
theorem rf_2_2 {a : Nat} (h : oc a = some 2) : rf a 2 = some (a + 3) := by simpa using byA (p := fun a => rf a 2 == some (a + 3)) (by decide +kernel) h
theorem rf_2_3 {a : Nat} (h : oc a = some 2) : rf a 3 = some (a + 4) := by simpa using byA (p := fun a => rf a 3 == some (a + 4)) (by decide +kernel) h
theorem rf_2_4 {a : Nat} (h : oc a = some 2) : rf a 4 = some (a + 5) := by simpa using byA (p := fun a => rf a 4 == some (a + 5)) (by decide +kernel) h
theorem rf_2_5 {a : Nat} (h : oc a = some 2) : rf a 5 = some (a + 6) := by simpa using byA (p := fun a => rf a 5 == some (a + 6)) (by decide +kernel) h
theorem rf_2_6 {a : Nat} (h : oc a = some 2) : rf a 6 = some (a + 7) := by simpa using byA (p := fun a => rf a 6 == some (a + 7)) (by decide +kernel) h
theorem isi_2_7 {a : Nat} (h : oc a = some 2) : isi a 7 = true := byA (p := fun a => isi a 7) (by decide +kernel) h
theorem isi_2_8 {a : Nat} (h : oc a = some 2) : isi a 8 = true := byA (p := fun a => isi a 8) (by decide +kernel) h
theorem rf_3_0 {a : Nat} (h : oc a = some 3) : rf a 0 = some (136) := by simpa using byA (p := fun a => rf a 0 == some (136)) (by decide +kernel) h
theorem oc_3_0 {a : Nat} (h : oc a = some 3) : oc (136) = some 9 := by simpa using byA (p := fun a => oc (136) == some 9) (by decide +kernel) h
theorem rf_3_1 {a : Nat} (h : oc a = some 3) : rf a 1 = some (143) := by simpa using byA (p := fun a => rf a 1 == some (143)) (by decide +kernel) h
theorem oc_3_1 {a : Nat} (h : oc a = some 3) : oc (143) = some 2 := by simpa using byA (p := fun a => oc (143) == some 2) (by decide +kernel) h
theorem rf_4_0 {a : Nat} (h : oc a = some 4) : rf a 0 = some (136) := by simpa using byA (p := fun a => rf a 0 == some (136)) (by decide +kernel) h
theorem oc_4_0 {a : Nat} (h : oc a = some 4) : oc (136) = some 9 := by simpa using byA (p := fun a => oc (136) == some 9) (by decide +kernel) h
theorem rf_5_0 {a : Nat} (h : oc a = some 5) : rf a 0 = some (a + 1) := by simpa using byA (p := fun a => rf a 0 == some (a + 1)) (by decide +kernel) h
theorem oc_5_0 {a : Nat} (h : oc a = some 5) : oc (a + 1) = some 8 := by simpa using byA (p := fun a => oc (a + 1) == some 8) (by decide +kernel) h
theorem rf_5_1 {a : Nat} (h : oc a = some 5) : rf a 1 = some (a + 3) := by simpa using byA (p := fun a => rf a 1 == some (a + 3)) (by decide +kernel) h
theorem oc_5_1 {a : Nat} (h : oc a = some 5) : oc (a + 3) = some 8 := by simpa using byA (p := fun a => oc (a + 3) == some 8) (by decide +kernel) h
theorem rf_5_2 {a : Nat} (h : oc a = some 5) : rf a 2 = some (a + 5) := by simpa using byA (p := fun a => rf a 2 == some (a + 5)) (by decide +kernel) h
theorem oc_5_2 {a : Nat} (h : oc a = some 5) : oc (a + 5) = some 8 := by simpa using byA (p := fun a => oc (a + 5) == some 8) (by decide +kernel) h
theorem rf_5_3 {a : Nat} (h : oc a = some 5) : rf a 3 = some (a + 7) := by simpa using byA (p := fun a => rf a 3 == some (a + 7)) (by decide +kernel) h
theorem oc_5_3 {a : Nat} (h : oc a = some 5) : oc (a + 7) = some 8 := by simpa using byA (p := fun a => oc (a + 7) == some 8) (by decide +kernel) h
theorem rf_5_4 {a : Nat} (h : oc a = some 5) : rf a 4 = some (a + 9) := by simpa using byA (p := fun a => rf a 4 == some (a + 9)) (by decide +kernel) h
theorem rf_5_5 {a : Nat} (h : oc a = some 5) : rf a 5 = some (a + 17) := by simpa using byA (p := fun a => rf a 5 == some (a + 17)) (by decide +kernel) h
theorem rf_6_0 {a : Nat} (h : oc a = some 6) : rf a 0 = some (a + 1) := by simpa using byA (p := fun a => rf a 0 == some (a + 1)) (by decide +kernel) h
theorem oc_6_0 {a : Nat} (h : oc a = some 6) : oc (a + 1) = some 8 := by simpa using byA (p := fun a => oc (a + 1) == some 8) (by decide +kernel) h
theorem rf_6_1 {a : Nat} (h : oc a = some 6) : rf a 1 = some (a + 3) := by simpa using byA (p := fun a => rf a 1 == some (a + 3)) (by decide +kernel) h
theorem oc_6_1 {a : Nat} (h : oc a = some 6) : oc (a + 3) = some 8 := by simpa using byA (p := fun a => oc (a + 3) == some 8) (by decide +kernel) h
theorem rf_6_2 {a : Nat} (h : oc a = some 6) : rf a 2 = some (a + 5) := by simpa using byA (p := fun a => rf a 2 == some (a + 5)) (by decide +kernel) h
theorem oc_6_2 {a : Nat} (h : oc a = some 6) : oc (a + 5) = some 8 := by simpa using byA (p := fun a => oc (a + 5) == some 8) (by decide +kernel) h
theorem rf_6_3 {a : Nat} (h : oc a = some 6) : rf a 3 = some (a + 7) := by simpa using byA (p := fun a => rf a 3 == some (a + 7)) (by decide +kernel) h
theorem oc_6_3 {a : Nat} (h : oc a = some 6) : oc (a + 7) = some 8 := by simpa using byA (p := fun a => oc (a + 7) == some 8) (by decide +kernel) h
theorem rf_6_4 {a : Nat} (h : oc a = some 6) : rf a 4 = some (a + 9) := by simpa using byA (p := fun a => rf a 4 == some (a + 9)) (by decide +kernel) h
theorem oc_6_4 {a : Nat} (h : oc a = some 6) : oc (a + 9) = some 8 := by simpa using byA (p := fun a => oc (a + 9) == some 8) (by decide +kernel) h
theorem rf_6_5 {a : Nat} (h : oc a = some 6) : rf a 5 = some (a + 11) := by simpa using byA (p := fun a => rf a 5 == some (a + 11)) (by decide +kernel) h
theorem oc_6_5 {a : Nat} (h : oc a = some 6) : oc (a + 11) = some 8 := by simpa using byA (p := fun a => oc (a + 11) == some 8) (by decide +kernel) h
theorem rf_6_6 {a : Nat} (h : oc a = some 6) : rf a 6 = some (a + 13) := by simpa using byA (p := fun a => rf a 6 == some (a + 13)) (by decide +kernel) h
theorem oc_6_6 {a : Nat} (h : oc a = some 6) : oc (a + 13) = some 2 := by simpa using byA (p := fun a => oc (a + 13) == some 2) (by decide +kernel) h
theorem rf_6_7 {a : Nat} (h : oc a = some 6) : rf a 7 = some (a + 21) := by simpa using byA (p := fun a => rf a 7 == some (a + 21)) (by decide +kernel) h
theorem oc_6_7 {a : Nat} (h : oc a = some 6) : oc (a + 21) = some 1 := by simpa using byA (p := fun a => oc (a + 21) == some 1) (by decide +kernel) h
theorem rf_6_8 {a : Nat} (h : oc a = some 6) : rf a 8 = some (a + 25) := by simpa using byA (p := fun a => rf a 8 == some (a + 25)) (by decide +kernel) h
theorem isi_6_9 {a : Nat} (h : oc a = some 6) : isi a 9 = true := byA (p := fun a => isi a 9) (by decide +kernel) h
theorem isi_6_10 {a : Nat} (h : oc a = some 6) : isi a 10 = true := byA (p := fun a => isi a 10) (by decide +kernel) h
theorem isi_6_11 {a : Nat} (h : oc a = some 6) : isi a 11 = true := byA (p := fun a => isi a 11) (by decide +kernel) h
theorem isi_6_12 {a : Nat} (h : oc a = some 6) : isi a 12 = true := byA (p := fun a => isi a 12) (by decide +kernel) h
theorem isi_6_13 {a : Nat} (h : oc a = some 6) : isi a 13 = true := byA (p := fun a => isi a 13) (by decide +kernel) h
theorem isi_6_14 {a : Nat} (h : oc a = some 6) : isi a 14 = true := byA (p := fun a => isi a 14) (by decide +kernel) h
theorem isi_6_15 {a : Nat} (h : oc a = some 6) : isi a 15 = true := byA (p := fun a => isi a 15) (by decide +kernel) h
theorem rf_7_0 {a : Nat} (h : oc a = some 7) : rf a 0 = some (116) := by simpa using byA (p := fun a => rf a 0 == some (116)) (by decide +kernel) h
theorem rf_7_1 {a : Nat} (h : oc a = some 7) : rf a 1 = some (117) := by simpa using byA (p := fun a => rf a 1 == some (117)) (by decide +kernel) h
theorem isi_7_2 {a : Nat} (h : oc a = some 7) : isi a 2 = true := byA (p := fun a => isi a 2) (by decide +kernel) h
theorem isi_7_3 {a : Nat} (h : oc a = some 7) : isi a 3 = true := byA (p := fun a => isi a 3) (by decide +kernel) h
theorem isi_8_0 {a : Nat} (h : oc a = some 8) : isi a 0 = true := byA (p := fun a => isi a 0) (by decide +kernel) h
theorem isi_8_1 {a : Nat} (h : oc a = some 8) : isi a 1 = true := byA (p := fun a => isi a 1) (by decide +kernel) h
theorem rf_8_2 {a : Nat} (h : oc a = some 8) : rf a 2 = some (a + 1) := by simpa using byA (p := fun a => rf a 2 == some (a + 1)) (by decide +kernel) h
theorem isi_8_3 {a : Nat} (h : oc a = some 8) : isi a 3 = true := byA (p := fun a => isi a 3) (by decide +kernel) h
theorem rf_9_0 {a : Nat} (h : oc a = some 9) : rf a 0 = some (137) := by simpa using byA (p := fun a => rf a 0 == some (137)) (by decide +kernel) h
theorem rf_9_1 {a : Nat} (h : oc a = some 9) : rf a 1 = some (138) := by simpa using byA (p := fun a => rf a 1 == some (138)) (by decide +kernel) h
theorem rf_9_2 {a : Nat} (h : oc a = some 9) : rf a 2 = some (139) := by simpa using byA (p := fun a => rf a 2 == some (139)) (by decide +kernel) h
theorem rf_9_3 {a : Nat} (h : oc a = some 9) : rf a 3 = some (140) := by simpa using byA (p := fun a => rf a 3 == some (140)) (by decide +kernel) h
theorem isi_9_4 {a : Nat} (h : oc a = some 9) : isi a 4 = true := byA (p := fun a => isi a 4) (by decide +kernel) h
theorem isi_9_5 {a : Nat} (h : oc a = some 9) : isi a 5 = true := byA (p := fun a => isi a 5) (by decide +kernel) h
theorem isi_9_6 {a : Nat} (h : oc a = some 9) : isi a 6 = true := byA (p := fun a => isi a 6) (by decide +kernel) h
theorem isi_9_7 {a : Nat} (h : oc a = some 9) : isi a 7 = true := byA (p := fun a => isi a 7) (by decide +kernel) h
theorem isi_9_8 {a : Nat} (h : oc a = some 9) : isi a 8 = true := byA (p := fun a => isi a 8) (by decide +kernel) h
theorem rf_10_0 {a : Nat} (h : oc a = some 10) : rf a 0 = some (1) := by simpa using byA (p := fun a => rf a 0 == some (1)) (by decide +kernel) h
theorem oc_10_0 {a : Nat} (h : oc a = some 10) : oc (1) = some 6 := by simpa using byA (p := fun a => oc (1) == some 6) (by decide +kernel) h
theorem rf_10_1 {a : Nat} (h : oc a = some 10) : rf a 1 = some (27) := by simpa using byA (p := fun a => rf a 1 == some (27)) (by decide +kernel) h
theorem oc_10_1 {a : Nat} (h : oc a = some 10) : oc (27) = some 6 := by simpa using byA (p := fun a => oc (27) == some 6) (by decide +kernel) h
theorem rf_10_2 {a : Nat} (h : oc a = some 10) : rf a 2 = some (53) := by simpa using byA (p := fun a => rf a 2 == some (53)) (by decide +kernel) h
theorem oc_10_2 {a : Nat} (h : oc a = some 10) : oc (53) = some 6 := by simpa using byA (p := fun a => oc (53) == some 6) (by decide +kernel) h
theorem rf_10_3 {a : Nat} (h : oc a = some 10) : rf a 3 = some (79) := by simpa using byA (p := fun a => rf a 3 == some (79)) (by decide +kernel) h
theorem oc_10_3 {a : Nat} (h : oc a = some 10) : oc (79) = some 5 := by simpa using byA (p := fun a => oc (79) == some 5) (by decide +kernel) h
theorem rf_10_4 {a : Nat} (h : oc a = some 10) : rf a 4 = some (97) := by simpa using byA (p := fun a => rf a 4 == some (97)) (by decide +kernel) h
theorem oc_10_4 {a : Nat} (h : oc a = some 10) : oc (97) = some 5 := by simpa using byA (p := fun a => oc (97) == some 5) (by decide +kernel) h
theorem rf_10_5 {a : Nat} (h : oc a = some 10) : rf a 5 = some (115) := by simpa using byA (p := fun a => rf a 5 == some (115)) (by decide +kernel) h
theorem oc_10_5 {a : Nat} (h : oc a = some 10) : oc (115) = some 7 := by simpa using byA (p := fun a => oc (115) == some 7) (by decide +kernel) h
theorem rf_10_6 {a : Nat} (h : oc a = some 10) : rf a 6 = some (136) := by simpa using byA (p := fun a => rf a 6 == some (136)) (by decide +kernel) h
theorem oc_10_6 {a : Nat} (h : oc a = some 10) : oc (136) = some 9 := by simpa using byA (p := fun a => oc (136) == some 9) (by decide +kernel) h
theorem rf_10_7 {a : Nat} (h : oc a = some 10) : rf a 7 = some (141) := by simpa using byA (p := fun a => rf a 7 == some (141)) (by decide +kernel) h
theorem oc_10_7 {a : Nat} (h : oc a = some 10) : oc (141) = some 4 := by simpa using byA (p := fun a => oc (141) == some 4) (by decide +kernel) h
theorem rf_10_8 {a : Nat} (h : oc a = some 10) : rf a 8 = some (142) := by simpa using byA (p := fun a => rf a 8 == some (142)) (by decide +kernel) h
theorem oc_10_8 {a : Nat} (h : oc a = some 10) : oc (142) = some 3 := by simpa using byA (p := fun a => oc (142) == some 3) (by decide +kernel) h
theorem rf_10_9 {a : Nat} (h : oc a = some 10) : rf a 9 = some (151) := by simpa using byA (p := fun a => rf a 9 == some (151)) (by decide +kernel) h
theorem oc_10_9 {a : Nat} (h : oc a = some 10) : oc (151) = some 0 := by simpa using byA (p := fun a => oc (151) == some 0) (by decide +kernel) h
theorem isi_10_10 {a : Nat} (h : oc a = some 10) : isi a 10 = true := byA (p := fun a => isi a 10) (by decide +kernel) h
theorem rf_11_0 {a : Nat} (h : oc a = some 11) : rf a 0 = some (156) := by simpa using byA (p := fun a => rf a 0 == some (156)) (by decide +kernel) h
theorem rf_11_1 {a : Nat} (h : oc a = some 11) : rf a 1 = some (157) := by simpa using byA (p := fun a => rf a 1 == some (157)) (by decide +kernel) h
theorem rf_11_2 {a : Nat} (h : oc a = some 11) : rf a 2 = some (158) := by simpa using byA (p := fun a => rf a 2 == some (158)) (by decide +kernel) h
theorem rf_11_3 {a : Nat} (h : oc a = some 11) : rf a 3 = some (159) := by simpa using byA (p := fun a => rf a 3 == some (159)) (by decide +kernel) h
theorem isi_11_4 {a : Nat} (h : oc a = some 11) : isi a 4 = true := byA (p := fun a => isi a 4) (by decide +kernel) h
theorem isi_11_5 {a : Nat} (h : oc a = some 11) : isi a 5 = true := byA (p := fun a => isi a 5) (by decide +kernel) h
theorem rf_11_6 {a : Nat} (h : oc a = some 11) : rf a 6 = some (160) := by simpa using byA (p := fun a => rf a 6 == some (160)) (by decide +kernel) h
theorem rf_11_7 {a : Nat} (h : oc a = some 11) : rf a 7 = some (161) := by simpa using byA (p := fun a => rf a 7 == some (161)) (by decide +kernel) h
theorem rf_11_8 {a : Nat} (h : oc a = some 11) : rf a 8 = some (162) := by simpa using byA (p := fun a => rf a 8 == some (162)) (by decide +kernel) h
theorem rf_11_9 {a : Nat} (h : oc a = some 11) : rf a 9 = some (163) := by simpa using byA (p := fun a => rf a 9 == some (163)) (by decide +kernel) h
theorem rf_11_10 {a : Nat} (h : oc a = some 11) : rf a 10 = some (164) := by simpa using byA (p := fun a => rf a 10 == some (164)) (by decide +kernel) h
theorem rf_11_11 {a : Nat} (h : oc a = some 11) : rf a 11 = some (165) := by simpa using byA (p := fun a => rf a 11 == some (165)) (by decide +kernel) h
theorem isi_11_12 {a : Nat} (h : oc a = some 11) : isi a 12 = true := byA (p := fun a => isi a 12) (by decide +kernel) h
theorem isi_11_13 {a : Nat} (h : oc a = some 11) : isi a 13 = true := byA (p := fun a => isi a 13) (by decide +kernel) h
theorem isi_11_14 {a : Nat} (h : oc a = some 11) : isi a 14 = true := byA (p := fun a => isi a 14) (by decide +kernel) h
theorem isi_11_15 {a : Nat} (h : oc a = some 11) : isi a 15 = true := byA (p := fun a => isi a 15) (by decide +kernel) h
theorem isi_11_16 {a : Nat} (h : oc a = some 11) : isi a 16 = true := byA (p := fun a => isi a 16) (by decide +kernel) h
theorem isi_11_17 {a : Nat} (h : oc a = some 11) : isi a 17 = true := byA (p := fun a => isi a 17) (by decide +kernel) h
theorem isi_11_18 {a : Nat} (h : oc a = some 11) : isi a 18 = true := byA (p := fun a => isi a 18) (by decide +kernel) h
theorem isi_11_19 {a : Nat} (h : oc a = some 11) : isi a 19 = true := byA (p := fun a => isi a 19) (by decide +kernel) h
theorem isi_11_20 {a : Nat} (h : oc a = some 11) : isi a 20 = true := byA (p := fun a => isi a 20) (by decide +kernel) h
theorem isi_11_21 {a : Nat} (h : oc a = some 11) : isi a 21 = true := byA (p := fun a => isi a 21) (by decide +kernel) h
theorem isi_11_22 {a : Nat} (h : oc a = some 11) : isi a 22 = true := byA (p := fun a => isi a 22) (by decide +kernel) h
theorem isi_11_23 {a : Nat} (h : oc a = some 11) : isi a 23 = true := byA (p := fun a => isi a 23) (by decide +kernel) h
theorem isi_11_24 {a : Nat} (h : oc a = some 11) : isi a 24 = true := byA (p := fun a => isi a 24) (by decide +kernel) h
theorem isi_11_25 {a : Nat} (h : oc a = some 11) : isi a 25 = true := byA (p := fun a => isi a 25) (by decide +kernel) h
theorem isi_11_26 {a : Nat} (h : oc a = some 11) : isi a 26 = true := byA (p := fun a => isi a 26) (by decide +kernel) h
theorem rf_11_27 {a : Nat} (h : oc a = some 11) : rf a 27 = some (166) := by simpa using byA (p := fun a => rf a 27 == some (166)) (by decide +kernel) h
theorem rf_11_28 {a : Nat} (h : oc a = some 11) : rf a 28 = some (167) := by simpa using byA (p := fun a => rf a 28 == some (167)) (by decide +kernel) h
theorem rf_11_29 {a : Nat} (h : oc a = some 11) : rf a 29 = some (168) := by simpa using byA (p := fun a => rf a 29 == some (168)) (by decide +kernel) h
theorem oc_at_0 : oc 0 = some 10 := by decide +kernel
theorem oc_at_1 : oc 1 = some 6 := by decide +kernel
theorem oc_at_2 : oc 2 = some 8 := by decide +kernel
theorem oc_at_4 : oc 4 = some 8 := by decide +kernel
theorem oc_at_6 : oc 6 = some 8 := by decide +kernel
theorem oc_at_8 : oc 8 = some 8 := by decide +kernel
theorem oc_at_10 : oc 10 = some 8 := by decide +kernel
theorem oc_at_12 : oc 12 = some 8 := by decide +kernel
theorem oc_at_14 : oc 14 = some 2 := by decide +kernel
theorem oc_at_22 : oc 22 = some 1 := by decide +kernel
theorem oc_at_27 : oc 27 = some 6 := by decide +kernel
theorem oc_at_28 : oc 28 = some 8 := by decide +kernel
theorem oc_at_30 : oc 30 = some 8 := by decide +kernel
theorem oc_at_32 : oc 32 = some 8 := by decide +kernel
theorem oc_at_34 : oc 34 = some 8 := by decide +kernel
theorem oc_at_36 : oc 36 = some 8 := by decide +kernel
theorem oc_at_38 : oc 38 = some 8 := by decide +kernel
theorem oc_at_40 : oc 40 = some 2 := by decide +kernel
theorem oc_at_48 : oc 48 = some 1 := by decide +kernel
theorem oc_at_53 : oc 53 = some 6 := by decide +kernel
theorem oc_at_54 : oc 54 = some 8 := by decide +kernel
theorem oc_at_56 : oc 56 = some 8 := by decide +kernel
theorem oc_at_58 : oc 58 = some 8 := by decide +kernel
theorem oc_at_60 : oc 60 = some 8 := by decide +kernel
theorem oc_at_62 : oc 62 = some 8 := by decide +kernel
theorem oc_at_64 : oc 64 = some 8 := by decide +kernel
theorem oc_at_66 : oc 66 = some 2 := by decide +kernel
theorem oc_at_74 : oc 74 = some 1 := by decide +kernel
theorem oc_at_79 : oc 79 = some 5 := by decide +kernel
theorem oc_at_80 : oc 80 = some 8 := by decide +kernel
theorem oc_at_82 : oc 82 = some 8 := by decide +kernel
theorem oc_at_84 : oc 84 = some 8 := by decide +kernel
theorem oc_at_86 : oc 86 = some 8 := by decide +kernel
theorem oc_at_97 : oc 97 = some 5 := by decide +kernel
theorem oc_at_98 : oc 98 = some 8 := by decide +kernel
theorem oc_at_100 : oc 100 = some 8 := by decide +kernel
theorem oc_at_102 : oc 102 = some 8 := by decide +kernel
theorem oc_at_104 : oc 104 = some 8 := by decide +kernel
theorem oc_at_115 : oc 115 = some 7 := by decide +kernel
theorem oc_at_124 : oc 124 = some 8 := by decide +kernel
theorem oc_at_126 : oc 126 = some 8 := by decide +kernel
theorem oc_at_128 : oc 128 = some 8 := by decide +kernel
theorem oc_at_130 : oc 130 = some 8 := by decide +kernel
theorem oc_at_132 : oc 132 = some 8 := by decide +kernel
theorem oc_at_134 : oc 134 = some 8 := by decide +kernel
theorem oc_at_136 : oc 136 = some 9 := by decide +kernel
theorem oc_at_141 : oc 141 = some 4 := by decide +kernel
theorem oc_at_142 : oc 142 = some 3 := by decide +kernel
theorem oc_at_143 : oc 143 = some 2 := by decide +kernel
theorem oc_at_151 : oc 151 = some 0 := by decide +kernel
theorem oc_at_155 : oc 155 = some 11 := by decide +kernel
theorem rr_116 {i : Int32} {r : Nat} (h : rr 116 i = some r) : oc r = some 8 := by
  have e : shp[116]? = some (.inr (.inr (1, [124, 126, 128, 130, 132, 134]))) := by decide +kernel
  unfold rr at h
  rw [e] at h
  dsimp only at h
  split at h
  · have hm := List.mem_of_getElem? h
    have ha : [124, 126, 128, 130, 132, 134].all (fun r => oc r == some 8) = true := by decide +kernel
    simpa using List.all_eq_true.mp ha r hm
  · cases h
/-! ===== the words of the programs in Lean ===== -/
def b1 {α γ : Type} (o : Option α) (k : α → Option γ) : Option γ := match o with
  | some a => k a
  | none => none
def b2 {α β γ : Type} (o : Option (α × β)) (k : α → β → Option γ) : Option γ := match o with
  | some q => k q.1 q.2
  | none => none
def lt {α γ : Type} (a : α) (k : α → γ) : γ := k a
theorem b1E {α γ : Type} {o : Option α} {k : α → Option γ} {r : γ} (h : b1 o k = some r) : ∃ a, o = some a ∧ k a = some r := by
  cases o with
  | none => cases h
  | some a => exact ⟨a, rfl, h⟩
theorem b2E {α β γ : Type} {o : Option (α × β)} {k : α → β → Option γ} {r : γ} (h : b2 o k = some r) : ∃ a b, o = some (a, b) ∧ k a b = some r := by
  cases o with
  | none => cases h
  | some q => exact ⟨q.1, q.2, rfl, h⟩
theorem ltE {α γ : Type} {a : α} {k : α → γ} {r : γ} (h : lt a k = r) : ∃ x, x = a ∧ k x = r := ⟨a, rfl, h⟩
/-- a loop: on with a state, or out with a result; at most so many turns -/
def lp {σ ρ : Type} (body : σ → Option (σ ⊕ ρ)) : Nat → σ → Option ρ
  | 0, _ => none
  | n + 1, s => match body s with
    | none => none
    | some (.inl s') => lp body n s'
    | some (.inr r) => some r
def FU : Nat := 1000000
theorem lp_ind {σ ρ : Type} {body : σ → Option (σ ⊕ ρ)} {P : σ → Prop} {r : ρ} (step : ∀ s t, body s = some t → (∀ s', t = .inl s' → P s') → (∀ r', t = .inr r' → r' = r) → P s) : ∀ (n : Nat) (s : σ), lp body n s = some r → P s
  | 0, s, h => by cases h
  | n + 1, s, h => by
    unfold lp at h
    split at h
    · cases h
    · rename_i s' hb
      exact step s _ hb (fun s2 e => by cases e; exact lp_ind step n s' h) (fun r' e => by cases e)
    · rename_i r' hb
      exact step s _ hb (fun s2 e => by cases e) (fun r2 e => by cases e; cases h; rfl)
/-- the answer of a method that answers yes or no -/
def gz (v : Int32) : Option Int32 := if v = 0 ∨ v = 1 then some v else none
theorem gzE {v r : Int32} (h : gz v = some r) : v = r ∧ narrow .boolean (.int v) = .int v := by
  unfold gz at h
  split at h
  · rename_i q
    cases h
    refine ⟨rfl, ?_⟩
    rcases q with rfl | rfl <;> decide
  · cases h
theorem nzB {v : Int32} (q : v = 0 ∨ v = 1) : narrow .boolean (.int v) = .int v := by rcases q with rfl | rfl <;> decide
def strLn (s : Nat) : Option Int32 := if 1000001 ≤ s then (lenS[s - 1000001]?).map Int32.ofNat else none
def strAt (s : Nat) (k : Int32) : Option Int32 := if 1000001 ≤ s then (match bytS[s - 1000001]? with | some bs => if inb k bs.length then bs[k.toNatClampNeg]? else none | none => none) else none
