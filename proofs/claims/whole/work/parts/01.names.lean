-- ===== PART A: goes FIRST, ahead of the names: the tables' words, and 'selects' of the private methods out of them =====
/-- a private method of a class that the tables say can be made, by its rows of tables_1 -/
def lw_okq (q : MethodName × Nat) : Prop := (q.1.cls ≠ "java/lang/invoke/MethodHandle" ∧ q.1.cls ≠ "java/lang/invoke/VarHandle") ∧ Cond.instantiable q.1.cls q.2 ∈ tables_1 ∧ Cond.privateMethod q.1 ∈ tables_1 ∧ Cond.instanceMethod q.1 ∈ tables_1
theorem lw_p0 : lw_okq (⟨"CrustMarket$Rows", "cellOf", "(II)I"⟩, 4) := ⟨⟨by decide +kernel, by decide +kernel⟩, List.mem_of_getElem? (i := 35) (by decide +kernel), List.mem_of_getElem? (i := 422) (by decide +kernel), List.mem_of_getElem? (i := 423) (by decide +kernel)⟩
theorem lw_p1 : lw_okq (⟨"CrustMarket$Market", "askOfFeast", "(II)V"⟩, 16) := ⟨⟨by decide +kernel, by decide +kernel⟩, List.mem_of_getElem? (i := 29) (by decide +kernel), List.mem_of_getElem? (i := 441) (by decide +kernel), List.mem_of_getElem? (i := 442) (by decide +kernel)⟩
theorem lw_p2 : lw_okq (⟨"CrustMarket$Law", "worked", "(II[I)I"⟩, 9) := ⟨⟨by decide +kernel, by decide +kernel⟩, List.mem_of_getElem? (i := 62) (by decide +kernel), List.mem_of_getElem? (i := 449) (by decide +kernel), List.mem_of_getElem? (i := 450) (by decide +kernel)⟩
theorem lw_p3 : lw_okq (⟨"CrustMarket$Market", "askOfRemain", "(II)V"⟩, 16) := ⟨⟨by decide +kernel, by decide +kernel⟩, List.mem_of_getElem? (i := 29) (by decide +kernel), List.mem_of_getElem? (i := 539) (by decide +kernel), List.mem_of_getElem? (i := 540) (by decide +kernel)⟩
theorem lw_p4 : lw_okq (⟨"CrustMarket$Market", "ageOf", "(I)I"⟩, 16) := ⟨⟨by decide +kernel, by decide +kernel⟩, List.mem_of_getElem? (i := 29) (by decide +kernel), List.mem_of_getElem? (i := 543) (by decide +kernel), List.mem_of_getElem? (i := 544) (by decide +kernel)⟩
theorem lw_p5 : lw_okq (⟨"CrustMarket$Market", "meets", "(I)Z"⟩, 16) := ⟨⟨by decide +kernel, by decide +kernel⟩, List.mem_of_getElem? (i := 29) (by decide +kernel), List.mem_of_getElem? (i := 556) (by decide +kernel), List.mem_of_getElem? (i := 557) (by decide +kernel)⟩
theorem lw_p6 : lw_okq (⟨"CrustMarket$Finder", "gather", "(LCrustMarket$Rows;I)V"⟩, 7) := ⟨⟨by decide +kernel, by decide +kernel⟩, List.mem_of_getElem? (i := 98) (by decide +kernel), List.mem_of_getElem? (i := 564) (by decide +kernel), List.mem_of_getElem? (i := 565) (by decide +kernel)⟩
theorem lw_p7 : lw_okq (⟨"CrustMarket$Finder", "addFalling", "(I)V"⟩, 7) := ⟨⟨by decide +kernel, by decide +kernel⟩, List.mem_of_getElem? (i := 98) (by decide +kernel), List.mem_of_getElem? (i := 569) (by decide +kernel), List.mem_of_getElem? (i := 570) (by decide +kernel)⟩
theorem lw_p8 : lw_okq (⟨"CrustMarket$Finder", "bestAlone", "(I)I"⟩, 7) := ⟨⟨by decide +kernel, by decide +kernel⟩, List.mem_of_getElem? (i := 98) (by decide +kernel), List.mem_of_getElem? (i := 573) (by decide +kernel), List.mem_of_getElem? (i := 574) (by decide +kernel)⟩
theorem lw_p9 : lw_okq (⟨"CrustMarket$Finder", "fewestReaching", "()I"⟩, 7) := ⟨⟨by decide +kernel, by decide +kernel⟩, List.mem_of_getElem? (i := 98) (by decide +kernel), List.mem_of_getElem? (i := 578) (by decide +kernel), List.mem_of_getElem? (i := 579) (by decide +kernel)⟩
theorem lw_p10 : lw_okq (⟨"CrustMarket$Finder", "search", "(IIII)V"⟩, 7) := ⟨⟨by decide +kernel, by decide +kernel⟩, List.mem_of_getElem? (i := 98) (by decide +kernel), List.mem_of_getElem? (i := 582) (by decide +kernel), List.mem_of_getElem? (i := 583) (by decide +kernel)⟩
theorem lw_p11 : lw_okq (⟨"CrustMarket$Market", "isSpoilt", "(I)Z"⟩, 16) := ⟨⟨by decide +kernel, by decide +kernel⟩, List.mem_of_getElem? (i := 29) (by decide +kernel), List.mem_of_getElem? (i := 603) (by decide +kernel), List.mem_of_getElem? (i := 604) (by decide +kernel)⟩
theorem lw_p12 : lw_okq (⟨"CrustMarket$Market", "draw", "(I)I"⟩, 16) := ⟨⟨by decide +kernel, by decide +kernel⟩, List.mem_of_getElem? (i := 29) (by decide +kernel), List.mem_of_getElem? (i := 611) (by decide +kernel), List.mem_of_getElem? (i := 612) (by decide +kernel)⟩
theorem lw_p13 : lw_okq (⟨"CrustMarket$Market", "lose", "(II)V"⟩, 16) := ⟨⟨by decide +kernel, by decide +kernel⟩, List.mem_of_getElem? (i := 29) (by decide +kernel), List.mem_of_getElem? (i := 617) (by decide +kernel), List.mem_of_getElem? (i := 618) (by decide +kernel)⟩
theorem lw_p14 : lw_okq (⟨"CrustMarket$Market", "inspectorsCome", "()V"⟩, 16) := ⟨⟨by decide +kernel, by decide +kernel⟩, List.mem_of_getElem? (i := 29) (by decide +kernel), List.mem_of_getElem? (i := 621) (by decide +kernel), List.mem_of_getElem? (i := 622) (by decide +kernel)⟩
theorem lw_p15 : lw_okq (⟨"CrustMarket$Market", "dogsCome", "()V"⟩, 16) := ⟨⟨by decide +kernel, by decide +kernel⟩, List.mem_of_getElem? (i := 29) (by decide +kernel), List.mem_of_getElem? (i := 625) (by decide +kernel), List.mem_of_getElem? (i := 626) (by decide +kernel)⟩
def lw_privs_1 : List (MethodName × Nat) := [(⟨"CrustMarket$Rows", "cellOf", "(II)I"⟩, 4), (⟨"CrustMarket$Market", "askOfFeast", "(II)V"⟩, 16), (⟨"CrustMarket$Law", "worked", "(II[I)I"⟩, 9), (⟨"CrustMarket$Market", "askOfRemain", "(II)V"⟩, 16), (⟨"CrustMarket$Market", "ageOf", "(I)I"⟩, 16), (⟨"CrustMarket$Market", "meets", "(I)Z"⟩, 16), (⟨"CrustMarket$Finder", "gather", "(LCrustMarket$Rows;I)V"⟩, 7), (⟨"CrustMarket$Finder", "addFalling", "(I)V"⟩, 7), (⟨"CrustMarket$Finder", "bestAlone", "(I)I"⟩, 7), (⟨"CrustMarket$Finder", "fewestReaching", "()I"⟩, 7), (⟨"CrustMarket$Finder", "search", "(IIII)V"⟩, 7), (⟨"CrustMarket$Market", "isSpoilt", "(I)Z"⟩, 16), (⟨"CrustMarket$Market", "draw", "(I)I"⟩, 16), (⟨"CrustMarket$Market", "lose", "(II)V"⟩, 16), (⟨"CrustMarket$Market", "inspectorsCome", "()V"⟩, 16), (⟨"CrustMarket$Market", "dogsCome", "()V"⟩, 16)]
theorem lw_r1 : ∀ q ∈ lw_privs_1, lw_okq q := List.forall_mem_cons.mpr ⟨lw_p0, List.forall_mem_cons.mpr ⟨lw_p1, List.forall_mem_cons.mpr ⟨lw_p2, List.forall_mem_cons.mpr ⟨lw_p3, List.forall_mem_cons.mpr ⟨lw_p4, List.forall_mem_cons.mpr ⟨lw_p5, List.forall_mem_cons.mpr ⟨lw_p6, List.forall_mem_cons.mpr ⟨lw_p7, List.forall_mem_cons.mpr ⟨lw_p8, List.forall_mem_cons.mpr ⟨lw_p9, List.forall_mem_cons.mpr ⟨lw_p10, List.forall_mem_cons.mpr ⟨lw_p11, List.forall_mem_cons.mpr ⟨lw_p12, List.forall_mem_cons.mpr ⟨lw_p13, List.forall_mem_cons.mpr ⟨lw_p14, List.forall_mem_cons.mpr ⟨lw_p15, fun _ h => absurd h List.not_mem_nil⟩⟩⟩⟩⟩⟩⟩⟩⟩⟩⟩⟩⟩⟩⟩⟩
theorem lw_p16 : lw_okq (⟨"CrustMarket$Tokens", "byteAt", "(I)I"⟩, 9) := ⟨⟨by decide +kernel, by decide +kernel⟩, List.mem_of_getElem? (i := 255) (by decide +kernel), List.mem_of_getElem? (i := 653) (by decide +kernel), List.mem_of_getElem? (i := 654) (by decide +kernel)⟩
theorem lw_p17 : lw_okq (⟨"CrustMarket$Tokens", "splitOne", "(I)I"⟩, 9) := ⟨⟨by decide +kernel, by decide +kernel⟩, List.mem_of_getElem? (i := 255) (by decide +kernel), List.mem_of_getElem? (i := 660) (by decide +kernel), List.mem_of_getElem? (i := 661) (by decide +kernel)⟩
theorem lw_p18 : lw_okq (⟨"CrustMarket$Tokens", "behindLetters", "(I)I"⟩, 9) := ⟨⟨by decide +kernel, by decide +kernel⟩, List.mem_of_getElem? (i := 255) (by decide +kernel), List.mem_of_getElem? (i := 668) (by decide +kernel), List.mem_of_getElem? (i := 669) (by decide +kernel)⟩
theorem lw_p19 : lw_okq (⟨"CrustMarket$Tokens", "wordBetween", "(II)I"⟩, 9) := ⟨⟨by decide +kernel, by decide +kernel⟩, List.mem_of_getElem? (i := 255) (by decide +kernel), List.mem_of_getElem? (i := 672) (by decide +kernel), List.mem_of_getElem? (i := 673) (by decide +kernel)⟩
theorem lw_p20 : lw_okq (⟨"CrustMarket$Tokens", "isWordAt", "(III)Z"⟩, 9) := ⟨⟨by decide +kernel, by decide +kernel⟩, List.mem_of_getElem? (i := 255) (by decide +kernel), List.mem_of_getElem? (i := 725) (by decide +kernel), List.mem_of_getElem? (i := 726) (by decide +kernel)⟩
theorem lw_p21 : lw_okq (⟨"CrustMarket$Tokens", "addToken", "(III)V"⟩, 9) := ⟨⟨by decide +kernel, by decide +kernel⟩, List.mem_of_getElem? (i := 255) (by decide +kernel), List.mem_of_getElem? (i := 729) (by decide +kernel), List.mem_of_getElem? (i := 730) (by decide +kernel)⟩
theorem lw_p22 : lw_okq (⟨"CrustMarket$Tokens", "behindDigits", "(I)I"⟩, 9) := ⟨⟨by decide +kernel, by decide +kernel⟩, List.mem_of_getElem? (i := 255) (by decide +kernel), List.mem_of_getElem? (i := 736) (by decide +kernel), List.mem_of_getElem? (i := 737) (by decide +kernel)⟩
theorem lw_p23 : lw_okq (⟨"CrustMarket$Tokens", "numberBetween", "(II)I"⟩, 9) := ⟨⟨by decide +kernel, by decide +kernel⟩, List.mem_of_getElem? (i := 255) (by decide +kernel), List.mem_of_getElem? (i := 740) (by decide +kernel), List.mem_of_getElem? (i := 741) (by decide +kernel)⟩
theorem lw_p24 : lw_okq (⟨"CrustMarket$LawReader", "readLine", "()Z"⟩, 2) := ⟨⟨by decide +kernel, by decide +kernel⟩, List.mem_of_getElem? (i := 302) (by decide +kernel), List.mem_of_getElem? (i := 760) (by decide +kernel), List.mem_of_getElem? (i := 761) (by decide +kernel)⟩
theorem lw_p25 : lw_okq (⟨"CrustMarket$LawReader", "readSum", "()Z"⟩, 2) := ⟨⟨by decide +kernel, by decide +kernel⟩, List.mem_of_getElem? (i := 302) (by decide +kernel), List.mem_of_getElem? (i := 783) (by decide +kernel), List.mem_of_getElem? (i := 784) (by decide +kernel)⟩
theorem lw_p26 : lw_okq (⟨"CrustMarket$LawReader", "readUnit", "(Z)Z"⟩, 2) := ⟨⟨by decide +kernel, by decide +kernel⟩, List.mem_of_getElem? (i := 302) (by decide +kernel), List.mem_of_getElem? (i := 787) (by decide +kernel), List.mem_of_getElem? (i := 788) (by decide +kernel)⟩
theorem lw_p27 : lw_okq (⟨"CrustMarket$LawReader", "addWaiting", "(I)V"⟩, 2) := ⟨⟨by decide +kernel, by decide +kernel⟩, List.mem_of_getElem? (i := 302) (by decide +kernel), List.mem_of_getElem? (i := 802) (by decide +kernel), List.mem_of_getElem? (i := 803) (by decide +kernel)⟩
theorem lw_p28 : lw_okq (⟨"CrustMarket$LawReader", "readEither", "(I)Z"⟩, 2) := ⟨⟨by decide +kernel, by decide +kernel⟩, List.mem_of_getElem? (i := 302) (by decide +kernel), List.mem_of_getElem? (i := 810) (by decide +kernel), List.mem_of_getElem? (i := 811) (by decide +kernel)⟩
theorem lw_p29 : lw_okq (⟨"CrustMarket$LawReader", "readCondition", "(I)Z"⟩, 2) := ⟨⟨by decide +kernel, by decide +kernel⟩, List.mem_of_getElem? (i := 302) (by decide +kernel), List.mem_of_getElem? (i := 814) (by decide +kernel), List.mem_of_getElem? (i := 815) (by decide +kernel)⟩
theorem lw_p30 : lw_okq (⟨"CrustMarket$LineReader", "readLine", "(ILCrustMarket$Rows;I)Z"⟩, 1) := ⟨⟨by decide +kernel, by decide +kernel⟩, List.mem_of_getElem? (i := 292) (by decide +kernel), List.mem_of_getElem? (i := 846) (by decide +kernel), List.mem_of_getElem? (i := 847) (by decide +kernel)⟩
theorem lw_p31 : lw_okq (⟨"CrustMarket$LineReader", "readKind", "(LCrustMarket$Rows;)Z"⟩, 1) := ⟨⟨by decide +kernel, by decide +kernel⟩, List.mem_of_getElem? (i := 292) (by decide +kernel), List.mem_of_getElem? (i := 850) (by decide +kernel), List.mem_of_getElem? (i := 851) (by decide +kernel)⟩
def lw_privs_2 : List (MethodName × Nat) := [(⟨"CrustMarket$Tokens", "byteAt", "(I)I"⟩, 9), (⟨"CrustMarket$Tokens", "splitOne", "(I)I"⟩, 9), (⟨"CrustMarket$Tokens", "behindLetters", "(I)I"⟩, 9), (⟨"CrustMarket$Tokens", "wordBetween", "(II)I"⟩, 9), (⟨"CrustMarket$Tokens", "isWordAt", "(III)Z"⟩, 9), (⟨"CrustMarket$Tokens", "addToken", "(III)V"⟩, 9), (⟨"CrustMarket$Tokens", "behindDigits", "(I)I"⟩, 9), (⟨"CrustMarket$Tokens", "numberBetween", "(II)I"⟩, 9), (⟨"CrustMarket$LawReader", "readLine", "()Z"⟩, 2), (⟨"CrustMarket$LawReader", "readSum", "()Z"⟩, 2), (⟨"CrustMarket$LawReader", "readUnit", "(Z)Z"⟩, 2), (⟨"CrustMarket$LawReader", "addWaiting", "(I)V"⟩, 2), (⟨"CrustMarket$LawReader", "readEither", "(I)Z"⟩, 2), (⟨"CrustMarket$LawReader", "readCondition", "(I)Z"⟩, 2), (⟨"CrustMarket$LineReader", "readLine", "(ILCrustMarket$Rows;I)Z"⟩, 1), (⟨"CrustMarket$LineReader", "readKind", "(LCrustMarket$Rows;)Z"⟩, 1)]
theorem lw_r2 : ∀ q ∈ lw_privs_2, lw_okq q := List.forall_mem_cons.mpr ⟨lw_p16, List.forall_mem_cons.mpr ⟨lw_p17, List.forall_mem_cons.mpr ⟨lw_p18, List.forall_mem_cons.mpr ⟨lw_p19, List.forall_mem_cons.mpr ⟨lw_p20, List.forall_mem_cons.mpr ⟨lw_p21, List.forall_mem_cons.mpr ⟨lw_p22, List.forall_mem_cons.mpr ⟨lw_p23, List.forall_mem_cons.mpr ⟨lw_p24, List.forall_mem_cons.mpr ⟨lw_p25, List.forall_mem_cons.mpr ⟨lw_p26, List.forall_mem_cons.mpr ⟨lw_p27, List.forall_mem_cons.mpr ⟨lw_p28, List.forall_mem_cons.mpr ⟨lw_p29, List.forall_mem_cons.mpr ⟨lw_p30, List.forall_mem_cons.mpr ⟨lw_p31, fun _ h => absurd h List.not_mem_nil⟩⟩⟩⟩⟩⟩⟩⟩⟩⟩⟩⟩⟩⟩⟩⟩
theorem lw_p32 : lw_okq (⟨"CrustMarket$LineReader", "begins", "(ILCrustMarket$Rows;)Z"⟩, 1) := ⟨⟨by decide +kernel, by decide +kernel⟩, List.mem_of_getElem? (i := 292) (by decide +kernel), List.mem_of_getElem? (i := 854) (by decide +kernel), List.mem_of_getElem? (i := 855) (by decide +kernel)⟩
theorem lw_p33 : lw_okq (⟨"CrustMarket$LineReader", "takesNumber", "(LCrustMarket$Rows;III)Z"⟩, 1) := ⟨⟨by decide +kernel, by decide +kernel⟩, List.mem_of_getElem? (i := 292) (by decide +kernel), List.mem_of_getElem? (i := 862) (by decide +kernel), List.mem_of_getElem? (i := 863) (by decide +kernel)⟩
theorem lw_p34 : lw_okq (⟨"CrustMarket$LineReader", "readFeast", "(LCrustMarket$Rows;I)Z"⟩, 1) := ⟨⟨by decide +kernel, by decide +kernel⟩, List.mem_of_getElem? (i := 292) (by decide +kernel), List.mem_of_getElem? (i := 870) (by decide +kernel), List.mem_of_getElem? (i := 871) (by decide +kernel)⟩
theorem lw_p35 : lw_okq (⟨"CrustMarket$LineReader", "readWant", "(LCrustMarket$Rows;I)Z"⟩, 1) := ⟨⟨by decide +kernel, by decide +kernel⟩, List.mem_of_getElem? (i := 292) (by decide +kernel), List.mem_of_getElem? (i := 874) (by decide +kernel), List.mem_of_getElem? (i := 875) (by decide +kernel)⟩
theorem lw_p36 : lw_okq (⟨"CrustMarket$LineReader", "readDish", "(LCrustMarket$Rows;I)Z"⟩, 1) := ⟨⟨by decide +kernel, by decide +kernel⟩, List.mem_of_getElem? (i := 292) (by decide +kernel), List.mem_of_getElem? (i := 878) (by decide +kernel), List.mem_of_getElem? (i := 879) (by decide +kernel)⟩
theorem lw_p37 : lw_okq (⟨"CrustMarket$LineReader", "readParts", "(LCrustMarket$Rows;I)Z"⟩, 1) := ⟨⟨by decide +kernel, by decide +kernel⟩, List.mem_of_getElem? (i := 292) (by decide +kernel), List.mem_of_getElem? (i := 882) (by decide +kernel), List.mem_of_getElem? (i := 883) (by decide +kernel)⟩
theorem lw_p38 : lw_okq (⟨"CrustMarket", "tellLines", "(ILCrustMarket$Rows;)I"⟩, 11) := ⟨⟨by decide +kernel, by decide +kernel⟩, List.mem_of_getElem? (i := 21) (by decide +kernel), List.mem_of_getElem? (i := 887) (by decide +kernel), List.mem_of_getElem? (i := 888) (by decide +kernel)⟩
theorem lw_p39 : lw_okq (⟨"CrustMarket$Lists", "worthWith", "(II)I"⟩, 6) := ⟨⟨by decide +kernel, by decide +kernel⟩, List.mem_of_getElem? (i := 198) (by decide +kernel), List.mem_of_getElem? (i := 982) (by decide +kernel), List.mem_of_getElem? (i := 983) (by decide +kernel)⟩
theorem lw_p40 : lw_okq (⟨"CrustMarket$Bench", "layLast", "(IIII)V"⟩, 5) := ⟨⟨by decide +kernel, by decide +kernel⟩, List.mem_of_getElem? (i := 317) (by decide +kernel), List.mem_of_getElem? (i := 1008) (by decide +kernel), List.mem_of_getElem? (i := 1009) (by decide +kernel)⟩
theorem lw_p41 : lw_okq (⟨"CrustMarket$Market", "feastsOfKind", "(II)I"⟩, 16) := ⟨⟨by decide +kernel, by decide +kernel⟩, List.mem_of_getElem? (i := 29) (by decide +kernel), List.mem_of_getElem? (i := 1052) (by decide +kernel), List.mem_of_getElem? (i := 1053) (by decide +kernel)⟩
theorem lw_p42 : lw_okq (⟨"CrustMarket$Bench", "cookFrom", "(LCrustMarket$Rows;IIII)V"⟩, 5) := ⟨⟨by decide +kernel, by decide +kernel⟩, List.mem_of_getElem? (i := 317) (by decide +kernel), List.mem_of_getElem? (i := 1065) (by decide +kernel), List.mem_of_getElem? (i := 1066) (by decide +kernel)⟩
theorem lw_p43 : lw_okq (⟨"CrustMarket$Bench", "canCook", "(LCrustMarket$Rows;I)Z"⟩, 5) := ⟨⟨by decide +kernel, by decide +kernel⟩, List.mem_of_getElem? (i := 317) (by decide +kernel), List.mem_of_getElem? (i := 1069) (by decide +kernel), List.mem_of_getElem? (i := 1070) (by decide +kernel)⟩
theorem lw_p44 : lw_okq (⟨"CrustMarket$Bench", "use", "(LCrustMarket$Rows;II)V"⟩, 5) := ⟨⟨by decide +kernel, by decide +kernel⟩, List.mem_of_getElem? (i := 317) (by decide +kernel), List.mem_of_getElem? (i := 1073) (by decide +kernel), List.mem_of_getElem? (i := 1074) (by decide +kernel)⟩
theorem lw_p45 : lw_okq (⟨"CrustMarket$Lists", "kindsBehind", "(I)I"⟩, 6) := ⟨⟨by decide +kernel, by decide +kernel⟩, List.mem_of_getElem? (i := 198) (by decide +kernel), List.mem_of_getElem? (i := 1118) (by decide +kernel), List.mem_of_getElem? (i := 1119) (by decide +kernel)⟩
theorem lw_p46 : lw_okq (⟨"CrustMarket$Lists", "gains", "(I)Z"⟩, 6) := ⟨⟨by decide +kernel, by decide +kernel⟩, List.mem_of_getElem? (i := 198) (by decide +kernel), List.mem_of_getElem? (i := 1131) (by decide +kernel), List.mem_of_getElem? (i := 1132) (by decide +kernel)⟩
theorem lw_p47 : lw_okq (⟨"CrustMarket$Lists", "walkOn", "(II)V"⟩, 6) := ⟨⟨by decide +kernel, by decide +kernel⟩, List.mem_of_getElem? (i := 198) (by decide +kernel), List.mem_of_getElem? (i := 1135) (by decide +kernel), List.mem_of_getElem? (i := 1136) (by decide +kernel)⟩
def lw_privs_3 : List (MethodName × Nat) := [(⟨"CrustMarket$LineReader", "begins", "(ILCrustMarket$Rows;)Z"⟩, 1), (⟨"CrustMarket$LineReader", "takesNumber", "(LCrustMarket$Rows;III)Z"⟩, 1), (⟨"CrustMarket$LineReader", "readFeast", "(LCrustMarket$Rows;I)Z"⟩, 1), (⟨"CrustMarket$LineReader", "readWant", "(LCrustMarket$Rows;I)Z"⟩, 1), (⟨"CrustMarket$LineReader", "readDish", "(LCrustMarket$Rows;I)Z"⟩, 1), (⟨"CrustMarket$LineReader", "readParts", "(LCrustMarket$Rows;I)Z"⟩, 1), (⟨"CrustMarket", "tellLines", "(ILCrustMarket$Rows;)I"⟩, 11), (⟨"CrustMarket$Lists", "worthWith", "(II)I"⟩, 6), (⟨"CrustMarket$Bench", "layLast", "(IIII)V"⟩, 5), (⟨"CrustMarket$Market", "feastsOfKind", "(II)I"⟩, 16), (⟨"CrustMarket$Bench", "cookFrom", "(LCrustMarket$Rows;IIII)V"⟩, 5), (⟨"CrustMarket$Bench", "canCook", "(LCrustMarket$Rows;I)Z"⟩, 5), (⟨"CrustMarket$Bench", "use", "(LCrustMarket$Rows;II)V"⟩, 5), (⟨"CrustMarket$Lists", "kindsBehind", "(I)I"⟩, 6), (⟨"CrustMarket$Lists", "gains", "(I)Z"⟩, 6), (⟨"CrustMarket$Lists", "walkOn", "(II)V"⟩, 6)]
theorem lw_r3 : ∀ q ∈ lw_privs_3, lw_okq q := List.forall_mem_cons.mpr ⟨lw_p32, List.forall_mem_cons.mpr ⟨lw_p33, List.forall_mem_cons.mpr ⟨lw_p34, List.forall_mem_cons.mpr ⟨lw_p35, List.forall_mem_cons.mpr ⟨lw_p36, List.forall_mem_cons.mpr ⟨lw_p37, List.forall_mem_cons.mpr ⟨lw_p38, List.forall_mem_cons.mpr ⟨lw_p39, List.forall_mem_cons.mpr ⟨lw_p40, List.forall_mem_cons.mpr ⟨lw_p41, List.forall_mem_cons.mpr ⟨lw_p42, List.forall_mem_cons.mpr ⟨lw_p43, List.forall_mem_cons.mpr ⟨lw_p44, List.forall_mem_cons.mpr ⟨lw_p45, List.forall_mem_cons.mpr ⟨lw_p46, List.forall_mem_cons.mpr ⟨lw_p47, fun _ h => absurd h List.not_mem_nil⟩⟩⟩⟩⟩⟩⟩⟩⟩⟩⟩⟩⟩⟩⟩⟩
theorem lw_p48 : lw_okq (⟨"CrustMarket", "lookAtTold", "(I)I"⟩, 11) := ⟨⟨by decide +kernel, by decide +kernel⟩, List.mem_of_getElem? (i := 21) (by decide +kernel), List.mem_of_getElem? (i := 1168) (by decide +kernel), List.mem_of_getElem? (i := 1169) (by decide +kernel)⟩
theorem lw_p49 : lw_okq (⟨"CrustMarketModel", "forgets", "()V"⟩, 30) := ⟨⟨by decide +kernel, by decide +kernel⟩, List.mem_of_getElem? (i := 1173) (by decide +kernel), List.mem_of_getElem? (i := 1274) (by decide +kernel), List.mem_of_getElem? (i := 1275) (by decide +kernel)⟩
theorem lw_p50 : lw_okq (⟨"CrustMarketModel", "next0", "()V"⟩, 30) := ⟨⟨by decide +kernel, by decide +kernel⟩, List.mem_of_getElem? (i := 1173) (by decide +kernel), List.mem_of_getElem? (i := 1297) (by decide +kernel), List.mem_of_getElem? (i := 1298) (by decide +kernel)⟩
theorem lw_p51 : lw_okq (⟨"CrustMarketModel", "see", "(I)I"⟩, 30) := ⟨⟨by decide +kernel, by decide +kernel⟩, List.mem_of_getElem? (i := 1173) (by decide +kernel), List.mem_of_getElem? (i := 1301) (by decide +kernel), List.mem_of_getElem? (i := 1302) (by decide +kernel)⟩
theorem lw_p52 : lw_okq (⟨"CrustMarketModel", "word", "()I"⟩, 30) := ⟨⟨by decide +kernel, by decide +kernel⟩, List.mem_of_getElem? (i := 1173) (by decide +kernel), List.mem_of_getElem? (i := 1308) (by decide +kernel), List.mem_of_getElem? (i := 1309) (by decide +kernel)⟩
theorem lw_p53 : lw_okq (⟨"CrustMarketModel", "kindWord", "()I"⟩, 30) := ⟨⟨by decide +kernel, by decide +kernel⟩, List.mem_of_getElem? (i := 1173) (by decide +kernel), List.mem_of_getElem? (i := 1312) (by decide +kernel), List.mem_of_getElem? (i := 1313) (by decide +kernel)⟩
theorem lw_p54 : lw_okq (⟨"CrustMarketModel", "is", "(Ljava/lang/String;)Z"⟩, 30) := ⟨⟨by decide +kernel, by decide +kernel⟩, List.mem_of_getElem? (i := 1173) (by decide +kernel), List.mem_of_getElem? (i := 1317) (by decide +kernel), List.mem_of_getElem? (i := 1318) (by decide +kernel)⟩
theorem lw_p55 : lw_okq (⟨"CrustMarketModel", "lawWord", "()I"⟩, 30) := ⟨⟨by decide +kernel, by decide +kernel⟩, List.mem_of_getElem? (i := 1173) (by decide +kernel), List.mem_of_getElem? (i := 1324) (by decide +kernel), List.mem_of_getElem? (i := 1325) (by decide +kernel)⟩
theorem lw_p56 : lw_okq (⟨"CrustMarketModel", "asked", "()I"⟩, 30) := ⟨⟨by decide +kernel, by decide +kernel⟩, List.mem_of_getElem? (i := 1173) (by decide +kernel), List.mem_of_getElem? (i := 1336) (by decide +kernel), List.mem_of_getElem? (i := 1337) (by decide +kernel)⟩
theorem lw_p57 : lw_okq (⟨"CrustMarketModel", "feastWord", "()I"⟩, 30) := ⟨⟨by decide +kernel, by decide +kernel⟩, List.mem_of_getElem? (i := 1173) (by decide +kernel), List.mem_of_getElem? (i := 1346) (by decide +kernel), List.mem_of_getElem? (i := 1347) (by decide +kernel)⟩
theorem lw_p58 : lw_okq (⟨"CrustMarketModel", "wantWord", "()I"⟩, 30) := ⟨⟨by decide +kernel, by decide +kernel⟩, List.mem_of_getElem? (i := 1173) (by decide +kernel), List.mem_of_getElem? (i := 1353) (by decide +kernel), List.mem_of_getElem? (i := 1354) (by decide +kernel)⟩
theorem lw_p59 : lw_okq (⟨"CrustMarketModel", "readsLaw", "()Z"⟩, 30) := ⟨⟨by decide +kernel, by decide +kernel⟩, List.mem_of_getElem? (i := 1173) (by decide +kernel), List.mem_of_getElem? (i := 1364) (by decide +kernel), List.mem_of_getElem? (i := 1365) (by decide +kernel)⟩
theorem lw_p60 : lw_okq (⟨"CrustMarketModel", "aLine", "()Z"⟩, 30) := ⟨⟨by decide +kernel, by decide +kernel⟩, List.mem_of_getElem? (i := 1173) (by decide +kernel), List.mem_of_getElem? (i := 1368) (by decide +kernel), List.mem_of_getElem? (i := 1369) (by decide +kernel)⟩
theorem lw_p61 : lw_okq (⟨"CrustMarketModel", "bad", "(I)Z"⟩, 30) := ⟨⟨by decide +kernel, by decide +kernel⟩, List.mem_of_getElem? (i := 1173) (by decide +kernel), List.mem_of_getElem? (i := 1372) (by decide +kernel), List.mem_of_getElem? (i := 1373) (by decide +kernel)⟩
theorem lw_p62 : lw_okq (⟨"CrustMarketModel", "sumUp", "()Z"⟩, 30) := ⟨⟨by decide +kernel, by decide +kernel⟩, List.mem_of_getElem? (i := 1173) (by decide +kernel), List.mem_of_getElem? (i := 1376) (by decide +kernel), List.mem_of_getElem? (i := 1377) (by decide +kernel)⟩
theorem lw_p63 : lw_okq (⟨"CrustMarketModel", "product", "()Z"⟩, 30) := ⟨⟨by decide +kernel, by decide +kernel⟩, List.mem_of_getElem? (i := 1173) (by decide +kernel), List.mem_of_getElem? (i := 1380) (by decide +kernel), List.mem_of_getElem? (i := 1381) (by decide +kernel)⟩
def lw_privs_4 : List (MethodName × Nat) := [(⟨"CrustMarket", "lookAtTold", "(I)I"⟩, 11), (⟨"CrustMarketModel", "forgets", "()V"⟩, 30), (⟨"CrustMarketModel", "next0", "()V"⟩, 30), (⟨"CrustMarketModel", "see", "(I)I"⟩, 30), (⟨"CrustMarketModel", "word", "()I"⟩, 30), (⟨"CrustMarketModel", "kindWord", "()I"⟩, 30), (⟨"CrustMarketModel", "is", "(Ljava/lang/String;)Z"⟩, 30), (⟨"CrustMarketModel", "lawWord", "()I"⟩, 30), (⟨"CrustMarketModel", "asked", "()I"⟩, 30), (⟨"CrustMarketModel", "feastWord", "()I"⟩, 30), (⟨"CrustMarketModel", "wantWord", "()I"⟩, 30), (⟨"CrustMarketModel", "readsLaw", "()Z"⟩, 30), (⟨"CrustMarketModel", "aLine", "()Z"⟩, 30), (⟨"CrustMarketModel", "bad", "(I)Z"⟩, 30), (⟨"CrustMarketModel", "sumUp", "()Z"⟩, 30), (⟨"CrustMarketModel", "product", "()Z"⟩, 30)]
theorem lw_r4 : ∀ q ∈ lw_privs_4, lw_okq q := List.forall_mem_cons.mpr ⟨lw_p48, List.forall_mem_cons.mpr ⟨lw_p49, List.forall_mem_cons.mpr ⟨lw_p50, List.forall_mem_cons.mpr ⟨lw_p51, List.forall_mem_cons.mpr ⟨lw_p52, List.forall_mem_cons.mpr ⟨lw_p53, List.forall_mem_cons.mpr ⟨lw_p54, List.forall_mem_cons.mpr ⟨lw_p55, List.forall_mem_cons.mpr ⟨lw_p56, List.forall_mem_cons.mpr ⟨lw_p57, List.forall_mem_cons.mpr ⟨lw_p58, List.forall_mem_cons.mpr ⟨lw_p59, List.forall_mem_cons.mpr ⟨lw_p60, List.forall_mem_cons.mpr ⟨lw_p61, List.forall_mem_cons.mpr ⟨lw_p62, List.forall_mem_cons.mpr ⟨lw_p63, fun _ h => absurd h List.not_mem_nil⟩⟩⟩⟩⟩⟩⟩⟩⟩⟩⟩⟩⟩⟩⟩⟩
theorem lw_p64 : lw_okq (⟨"CrustMarketModel", "unit", "()Z"⟩, 30) := ⟨⟨by decide +kernel, by decide +kernel⟩, List.mem_of_getElem? (i := 1173) (by decide +kernel), List.mem_of_getElem? (i := 1384) (by decide +kernel), List.mem_of_getElem? (i := 1385) (by decide +kernel)⟩
theorem lw_p65 : lw_okq (⟨"CrustMarketModel", "lay", "(II)V"⟩, 30) := ⟨⟨by decide +kernel, by decide +kernel⟩, List.mem_of_getElem? (i := 1173) (by decide +kernel), List.mem_of_getElem? (i := 1388) (by decide +kernel), List.mem_of_getElem? (i := 1389) (by decide +kernel)⟩
theorem lw_p66 : lw_okq (⟨"CrustMarketModel", "any", "()Z"⟩, 30) := ⟨⟨by decide +kernel, by decide +kernel⟩, List.mem_of_getElem? (i := 1173) (by decide +kernel), List.mem_of_getElem? (i := 1392) (by decide +kernel), List.mem_of_getElem? (i := 1393) (by decide +kernel)⟩
theorem lw_p67 : lw_okq (⟨"CrustMarketModel", "every", "()Z"⟩, 30) := ⟨⟨by decide +kernel, by decide +kernel⟩, List.mem_of_getElem? (i := 1173) (by decide +kernel), List.mem_of_getElem? (i := 1396) (by decide +kernel), List.mem_of_getElem? (i := 1397) (by decide +kernel)⟩
theorem lw_p68 : lw_okq (⟨"CrustMarketModel", "oneTest", "()Z"⟩, 30) := ⟨⟨by decide +kernel, by decide +kernel⟩, List.mem_of_getElem? (i := 1173) (by decide +kernel), List.mem_of_getElem? (i := 1400) (by decide +kernel), List.mem_of_getElem? (i := 1401) (by decide +kernel)⟩
theorem lw_p69 : lw_okq (⟨"CrustMarketModel", "opens", "()Z"⟩, 30) := ⟨⟨by decide +kernel, by decide +kernel⟩, List.mem_of_getElem? (i := 1173) (by decide +kernel), List.mem_of_getElem? (i := 1404) (by decide +kernel), List.mem_of_getElem? (i := 1405) (by decide +kernel)⟩
theorem lw_p70 : lw_okq (⟨"CrustMarketModel", "need", "(I)Z"⟩, 30) := ⟨⟨by decide +kernel, by decide +kernel⟩, List.mem_of_getElem? (i := 1173) (by decide +kernel), List.mem_of_getElem? (i := 1408) (by decide +kernel), List.mem_of_getElem? (i := 1409) (by decide +kernel)⟩
theorem lw_p71 : lw_okq (⟨"CrustMarketModel", "readsRows", "()Z"⟩, 30) := ⟨⟨by decide +kernel, by decide +kernel⟩, List.mem_of_getElem? (i := 1173) (by decide +kernel), List.mem_of_getElem? (i := 1412) (by decide +kernel), List.mem_of_getElem? (i := 1413) (by decide +kernel)⟩
theorem lw_p72 : lw_okq (⟨"CrustMarketModel", "aRow", "()Z"⟩, 30) := ⟨⟨by decide +kernel, by decide +kernel⟩, List.mem_of_getElem? (i := 1173) (by decide +kernel), List.mem_of_getElem? (i := 1416) (by decide +kernel), List.mem_of_getElem? (i := 1417) (by decide +kernel)⟩
theorem lw_p73 : lw_okq (⟨"CrustMarketModel", "aKind", "()Z"⟩, 30) := ⟨⟨by decide +kernel, by decide +kernel⟩, List.mem_of_getElem? (i := 1173) (by decide +kernel), List.mem_of_getElem? (i := 1420) (by decide +kernel), List.mem_of_getElem? (i := 1421) (by decide +kernel)⟩
theorem lw_p74 : lw_okq (⟨"CrustMarketModel", "told", "(IIII)Z"⟩, 30) := ⟨⟨by decide +kernel, by decide +kernel⟩, List.mem_of_getElem? (i := 1173) (by decide +kernel), List.mem_of_getElem? (i := 1424) (by decide +kernel), List.mem_of_getElem? (i := 1425) (by decide +kernel)⟩
theorem lw_p75 : lw_okq (⟨"CrustMarketModel", "number", "(III)Z"⟩, 30) := ⟨⟨by decide +kernel, by decide +kernel⟩, List.mem_of_getElem? (i := 1173) (by decide +kernel), List.mem_of_getElem? (i := 1428) (by decide +kernel), List.mem_of_getElem? (i := 1429) (by decide +kernel)⟩
theorem lw_p76 : lw_okq (⟨"CrustMarketModel", "aFeast", "()Z"⟩, 30) := ⟨⟨by decide +kernel, by decide +kernel⟩, List.mem_of_getElem? (i := 1173) (by decide +kernel), List.mem_of_getElem? (i := 1432) (by decide +kernel), List.mem_of_getElem? (i := 1433) (by decide +kernel)⟩
theorem lw_p77 : lw_okq (⟨"CrustMarketModel", "aWant", "()Z"⟩, 30) := ⟨⟨by decide +kernel, by decide +kernel⟩, List.mem_of_getElem? (i := 1173) (by decide +kernel), List.mem_of_getElem? (i := 1436) (by decide +kernel), List.mem_of_getElem? (i := 1437) (by decide +kernel)⟩
theorem lw_p78 : lw_okq (⟨"CrustMarketModel", "aDish", "()Z"⟩, 30) := ⟨⟨by decide +kernel, by decide +kernel⟩, List.mem_of_getElem? (i := 1173) (by decide +kernel), List.mem_of_getElem? (i := 1440) (by decide +kernel), List.mem_of_getElem? (i := 1441) (by decide +kernel)⟩
theorem lw_p79 : lw_okq (⟨"CrustMarketModel", "isKind", "(I)Z"⟩, 30) := ⟨⟨by decide +kernel, by decide +kernel⟩, List.mem_of_getElem? (i := 1173) (by decide +kernel), List.mem_of_getElem? (i := 1444) (by decide +kernel), List.mem_of_getElem? (i := 1445) (by decide +kernel)⟩
def lw_privs_5 : List (MethodName × Nat) := [(⟨"CrustMarketModel", "unit", "()Z"⟩, 30), (⟨"CrustMarketModel", "lay", "(II)V"⟩, 30), (⟨"CrustMarketModel", "any", "()Z"⟩, 30), (⟨"CrustMarketModel", "every", "()Z"⟩, 30), (⟨"CrustMarketModel", "oneTest", "()Z"⟩, 30), (⟨"CrustMarketModel", "opens", "()Z"⟩, 30), (⟨"CrustMarketModel", "need", "(I)Z"⟩, 30), (⟨"CrustMarketModel", "readsRows", "()Z"⟩, 30), (⟨"CrustMarketModel", "aRow", "()Z"⟩, 30), (⟨"CrustMarketModel", "aKind", "()Z"⟩, 30), (⟨"CrustMarketModel", "told", "(IIII)Z"⟩, 30), (⟨"CrustMarketModel", "number", "(III)Z"⟩, 30), (⟨"CrustMarketModel", "aFeast", "()Z"⟩, 30), (⟨"CrustMarketModel", "aWant", "()Z"⟩, 30), (⟨"CrustMarketModel", "aDish", "()Z"⟩, 30), (⟨"CrustMarketModel", "isKind", "(I)Z"⟩, 30)]
theorem lw_r5 : ∀ q ∈ lw_privs_5, lw_okq q := List.forall_mem_cons.mpr ⟨lw_p64, List.forall_mem_cons.mpr ⟨lw_p65, List.forall_mem_cons.mpr ⟨lw_p66, List.forall_mem_cons.mpr ⟨lw_p67, List.forall_mem_cons.mpr ⟨lw_p68, List.forall_mem_cons.mpr ⟨lw_p69, List.forall_mem_cons.mpr ⟨lw_p70, List.forall_mem_cons.mpr ⟨lw_p71, List.forall_mem_cons.mpr ⟨lw_p72, List.forall_mem_cons.mpr ⟨lw_p73, List.forall_mem_cons.mpr ⟨lw_p74, List.forall_mem_cons.mpr ⟨lw_p75, List.forall_mem_cons.mpr ⟨lw_p76, List.forall_mem_cons.mpr ⟨lw_p77, List.forall_mem_cons.mpr ⟨lw_p78, List.forall_mem_cons.mpr ⟨lw_p79, fun _ h => absurd h List.not_mem_nil⟩⟩⟩⟩⟩⟩⟩⟩⟩⟩⟩⟩⟩⟩⟩⟩
theorem lw_p80 : lw_okq (⟨"CrustMarketModel", "putsText", "(I)I"⟩, 30) := ⟨⟨by decide +kernel, by decide +kernel⟩, List.mem_of_getElem? (i := 1173) (by decide +kernel), List.mem_of_getElem? (i := 1448) (by decide +kernel), List.mem_of_getElem? (i := 1449) (by decide +kernel)⟩
theorem lw_p81 : lw_okq (⟨"CrustMarketModel", "putsLaw", "()I"⟩, 30) := ⟨⟨by decide +kernel, by decide +kernel⟩, List.mem_of_getElem? (i := 1173) (by decide +kernel), List.mem_of_getElem? (i := 1452) (by decide +kernel), List.mem_of_getElem? (i := 1453) (by decide +kernel)⟩
theorem lw_p82 : lw_okq (⟨"CrustMarketModel", "puts", "(III)I"⟩, 30) := ⟨⟨by decide +kernel, by decide +kernel⟩, List.mem_of_getElem? (i := 1173) (by decide +kernel), List.mem_of_getElem? (i := 1456) (by decide +kernel), List.mem_of_getElem? (i := 1457) (by decide +kernel)⟩
theorem lw_p83 : lw_okq (⟨"CrustMarketModel", "putsKinds", "()I"⟩, 30) := ⟨⟨by decide +kernel, by decide +kernel⟩, List.mem_of_getElem? (i := 1173) (by decide +kernel), List.mem_of_getElem? (i := 1460) (by decide +kernel), List.mem_of_getElem? (i := 1461) (by decide +kernel)⟩
theorem lw_p84 : lw_okq (⟨"CrustMarketModel", "keeps", "()V"⟩, 30) := ⟨⟨by decide +kernel, by decide +kernel⟩, List.mem_of_getElem? (i := 1173) (by decide +kernel), List.mem_of_getElem? (i := 1476) (by decide +kernel), List.mem_of_getElem? (i := 1477) (by decide +kernel)⟩
theorem lw_p85 : lw_okq (⟨"CrustMarketModel", "feasts", "(II)I"⟩, 30) := ⟨⟨by decide +kernel, by decide +kernel⟩, List.mem_of_getElem? (i := 1173) (by decide +kernel), List.mem_of_getElem? (i := 1480) (by decide +kernel), List.mem_of_getElem? (i := 1481) (by decide +kernel)⟩
theorem lw_p86 : lw_okq (⟨"CrustMarketModel", "leftOf", "(II)I"⟩, 30) := ⟨⟨by decide +kernel, by decide +kernel⟩, List.mem_of_getElem? (i := 1173) (by decide +kernel), List.mem_of_getElem? (i := 1484) (by decide +kernel), List.mem_of_getElem? (i := 1485) (by decide +kernel)⟩
theorem lw_p87 : lw_okq (⟨"CrustMarketModel", "laysFeast", "(II)V"⟩, 30) := ⟨⟨by decide +kernel, by decide +kernel⟩, List.mem_of_getElem? (i := 1173) (by decide +kernel), List.mem_of_getElem? (i := 1488) (by decide +kernel), List.mem_of_getElem? (i := 1489) (by decide +kernel)⟩
theorem lw_p88 : lw_okq (⟨"CrustMarketModel", "wholeOf", "(I)I"⟩, 30) := ⟨⟨by decide +kernel, by decide +kernel⟩, List.mem_of_getElem? (i := 1173) (by decide +kernel), List.mem_of_getElem? (i := 1492) (by decide +kernel), List.mem_of_getElem? (i := 1493) (by decide +kernel)⟩
theorem lw_p89 : lw_okq (⟨"CrustMarketModel", "says", "(III)I"⟩, 30) := ⟨⟨by decide +kernel, by decide +kernel⟩, List.mem_of_getElem? (i := 1173) (by decide +kernel), List.mem_of_getElem? (i := 1496) (by decide +kernel), List.mem_of_getElem? (i := 1497) (by decide +kernel)⟩
theorem lw_p90 : lw_okq (⟨"CrustMarketModel", "isSo", "(I)Z"⟩, 30) := ⟨⟨by decide +kernel, by decide +kernel⟩, List.mem_of_getElem? (i := 1173) (by decide +kernel), List.mem_of_getElem? (i := 1500) (by decide +kernel), List.mem_of_getElem? (i := 1501) (by decide +kernel)⟩
theorem lw_p91 : lw_okq (⟨"CrustMarketModel", "comesTo", "(III)I"⟩, 30) := ⟨⟨by decide +kernel, by decide +kernel⟩, List.mem_of_getElem? (i := 1173) (by decide +kernel), List.mem_of_getElem? (i := 1504) (by decide +kernel), List.mem_of_getElem? (i := 1505) (by decide +kernel)⟩
theorem lw_p92 : lw_okq (⟨"CrustMarketModel", "edgeOf", "(II)I"⟩, 30) := ⟨⟨by decide +kernel, by decide +kernel⟩, List.mem_of_getElem? (i := 1173) (by decide +kernel), List.mem_of_getElem? (i := 1517) (by decide +kernel), List.mem_of_getElem? (i := 1518) (by decide +kernel)⟩
theorem lw_p93 : lw_okq (⟨"CrustMarketModel", "comes", "(IIIII)I"⟩, 30) := ⟨⟨by decide +kernel, by decide +kernel⟩, List.mem_of_getElem? (i := 1173) (by decide +kernel), List.mem_of_getElem? (i := 1521) (by decide +kernel), List.mem_of_getElem? (i := 1522) (by decide +kernel)⟩
theorem lw_p94 : lw_okq (⟨"CrustMarketModel", "notes", "(III)V"⟩, 30) := ⟨⟨by decide +kernel, by decide +kernel⟩, List.mem_of_getElem? (i := 1173) (by decide +kernel), List.mem_of_getElem? (i := 1525) (by decide +kernel), List.mem_of_getElem? (i := 1526) (by decide +kernel)⟩
theorem lw_p95 : lw_okq (⟨"CrustMarketModel", "isRemain", "(I)Z"⟩, 30) := ⟨⟨by decide +kernel, by decide +kernel⟩, List.mem_of_getElem? (i := 1173) (by decide +kernel), List.mem_of_getElem? (i := 1537) (by decide +kernel), List.mem_of_getElem? (i := 1538) (by decide +kernel)⟩
def lw_privs_6 : List (MethodName × Nat) := [(⟨"CrustMarketModel", "putsText", "(I)I"⟩, 30), (⟨"CrustMarketModel", "putsLaw", "()I"⟩, 30), (⟨"CrustMarketModel", "puts", "(III)I"⟩, 30), (⟨"CrustMarketModel", "putsKinds", "()I"⟩, 30), (⟨"CrustMarketModel", "keeps", "()V"⟩, 30), (⟨"CrustMarketModel", "feasts", "(II)I"⟩, 30), (⟨"CrustMarketModel", "leftOf", "(II)I"⟩, 30), (⟨"CrustMarketModel", "laysFeast", "(II)V"⟩, 30), (⟨"CrustMarketModel", "wholeOf", "(I)I"⟩, 30), (⟨"CrustMarketModel", "says", "(III)I"⟩, 30), (⟨"CrustMarketModel", "isSo", "(I)Z"⟩, 30), (⟨"CrustMarketModel", "comesTo", "(III)I"⟩, 30), (⟨"CrustMarketModel", "edgeOf", "(II)I"⟩, 30), (⟨"CrustMarketModel", "comes", "(IIIII)I"⟩, 30), (⟨"CrustMarketModel", "notes", "(III)V"⟩, 30), (⟨"CrustMarketModel", "isRemain", "(I)Z"⟩, 30)]
theorem lw_r6 : ∀ q ∈ lw_privs_6, lw_okq q := List.forall_mem_cons.mpr ⟨lw_p80, List.forall_mem_cons.mpr ⟨lw_p81, List.forall_mem_cons.mpr ⟨lw_p82, List.forall_mem_cons.mpr ⟨lw_p83, List.forall_mem_cons.mpr ⟨lw_p84, List.forall_mem_cons.mpr ⟨lw_p85, List.forall_mem_cons.mpr ⟨lw_p86, List.forall_mem_cons.mpr ⟨lw_p87, List.forall_mem_cons.mpr ⟨lw_p88, List.forall_mem_cons.mpr ⟨lw_p89, List.forall_mem_cons.mpr ⟨lw_p90, List.forall_mem_cons.mpr ⟨lw_p91, List.forall_mem_cons.mpr ⟨lw_p92, List.forall_mem_cons.mpr ⟨lw_p93, List.forall_mem_cons.mpr ⟨lw_p94, List.forall_mem_cons.mpr ⟨lw_p95, fun _ h => absurd h List.not_mem_nil⟩⟩⟩⟩⟩⟩⟩⟩⟩⟩⟩⟩⟩⟩⟩⟩
theorem lw_p96 : lw_okq (⟨"CrustMarketModel", "ofRemain", "(II)I"⟩, 30) := ⟨⟨by decide +kernel, by decide +kernel⟩, List.mem_of_getElem? (i := 1173) (by decide +kernel), List.mem_of_getElem? (i := 1541) (by decide +kernel), List.mem_of_getElem? (i := 1542) (by decide +kernel)⟩
theorem lw_p97 : lw_okq (⟨"CrustMarketModel", "goesAway", "(I)V"⟩, 30) := ⟨⟨by decide +kernel, by decide +kernel⟩, List.mem_of_getElem? (i := 1173) (by decide +kernel), List.mem_of_getElem? (i := 1552) (by decide +kernel), List.mem_of_getElem? (i := 1553) (by decide +kernel)⟩
theorem lw_p98 : lw_okq (⟨"CrustMarketModel", "priceOf", "(II)I"⟩, 30) := ⟨⟨by decide +kernel, by decide +kernel⟩, List.mem_of_getElem? (i := 1173) (by decide +kernel), List.mem_of_getElem? (i := 1560) (by decide +kernel), List.mem_of_getElem? (i := 1561) (by decide +kernel)⟩
theorem lw_p99 : lw_okq (⟨"CrustMarketModel", "laysRemain", "(II)V"⟩, 30) := ⟨⟨by decide +kernel, by decide +kernel⟩, List.mem_of_getElem? (i := 1173) (by decide +kernel), List.mem_of_getElem? (i := 1564) (by decide +kernel), List.mem_of_getElem? (i := 1565) (by decide +kernel)⟩
theorem lw_p100 : lw_okq (⟨"CrustMarketModel", "ageOf", "(I)I"⟩, 30) := ⟨⟨by decide +kernel, by decide +kernel⟩, List.mem_of_getElem? (i := 1173) (by decide +kernel), List.mem_of_getElem? (i := 1568) (by decide +kernel), List.mem_of_getElem? (i := 1569) (by decide +kernel)⟩
theorem lw_p101 : lw_okq (⟨"CrustMarketModel", "joinsOf", "(II)I"⟩, 30) := ⟨⟨by decide +kernel, by decide +kernel⟩, List.mem_of_getElem? (i := 1173) (by decide +kernel), List.mem_of_getElem? (i := 1576) (by decide +kernel), List.mem_of_getElem? (i := 1577) (by decide +kernel)⟩
theorem lw_p102 : lw_okq (⟨"CrustMarketModel", "placesOf", "(I)I"⟩, 30) := ⟨⟨by decide +kernel, by decide +kernel⟩, List.mem_of_getElem? (i := 1173) (by decide +kernel), List.mem_of_getElem? (i := 1580) (by decide +kernel), List.mem_of_getElem? (i := 1581) (by decide +kernel)⟩
theorem lw_p103 : lw_okq (⟨"CrustMarketModel", "sumOf", "(I)I"⟩, 30) := ⟨⟨by decide +kernel, by decide +kernel⟩, List.mem_of_getElem? (i := 1173) (by decide +kernel), List.mem_of_getElem? (i := 1584) (by decide +kernel), List.mem_of_getElem? (i := 1585) (by decide +kernel)⟩
theorem lw_p104 : lw_okq (⟨"CrustMarketModel", "doesFor", "(II)Z"⟩, 30) := ⟨⟨by decide +kernel, by decide +kernel⟩, List.mem_of_getElem? (i := 1173) (by decide +kernel), List.mem_of_getElem? (i := 1588) (by decide +kernel), List.mem_of_getElem? (i := 1589) (by decide +kernel)⟩
theorem lw_p105 : lw_okq (⟨"CrustMarketModel", "morning", "()I"⟩, 30) := ⟨⟨by decide +kernel, by decide +kernel⟩, List.mem_of_getElem? (i := 1173) (by decide +kernel), List.mem_of_getElem? (i := 1599) (by decide +kernel), List.mem_of_getElem? (i := 1600) (by decide +kernel)⟩
theorem lw_p106 : lw_okq (⟨"CrustMarketModel", "meetsWants", "()I"⟩, 30) := ⟨⟨by decide +kernel, by decide +kernel⟩, List.mem_of_getElem? (i := 1173) (by decide +kernel), List.mem_of_getElem? (i := 1603) (by decide +kernel), List.mem_of_getElem? (i := 1604) (by decide +kernel)⟩
theorem lw_p107 : lw_okq (⟨"CrustMarketModel", "isMet", "(I)Z"⟩, 30) := ⟨⟨by decide +kernel, by decide +kernel⟩, List.mem_of_getElem? (i := 1173) (by decide +kernel), List.mem_of_getElem? (i := 1607) (by decide +kernel), List.mem_of_getElem? (i := 1608) (by decide +kernel)⟩
theorem lw_p108 : lw_okq (⟨"CrustMarketModel", "ofWant", "(II)I"⟩, 30) := ⟨⟨by decide +kernel, by decide +kernel⟩, List.mem_of_getElem? (i := 1173) (by decide +kernel), List.mem_of_getElem? (i := 1611) (by decide +kernel), List.mem_of_getElem? (i := 1612) (by decide +kernel)⟩
theorem lw_p109 : lw_okq (⟨"CrustMarketModel", "evening", "()V"⟩, 30) := ⟨⟨by decide +kernel, by decide +kernel⟩, List.mem_of_getElem? (i := 1173) (by decide +kernel), List.mem_of_getElem? (i := 1615) (by decide +kernel), List.mem_of_getElem? (i := 1616) (by decide +kernel)⟩
theorem lw_p110 : lw_okq (⟨"CrustMarketModel", "spoils", "()V"⟩, 30) := ⟨⟨by decide +kernel, by decide +kernel⟩, List.mem_of_getElem? (i := 1173) (by decide +kernel), List.mem_of_getElem? (i := 1619) (by decide +kernel), List.mem_of_getElem? (i := 1620) (by decide +kernel)⟩
theorem lw_p111 : lw_okq (⟨"CrustMarketModel", "isSpoilt", "(I)Z"⟩, 30) := ⟨⟨by decide +kernel, by decide +kernel⟩, List.mem_of_getElem? (i := 1173) (by decide +kernel), List.mem_of_getElem? (i := 1623) (by decide +kernel), List.mem_of_getElem? (i := 1624) (by decide +kernel)⟩
def lw_privs_7 : List (MethodName × Nat) := [(⟨"CrustMarketModel", "ofRemain", "(II)I"⟩, 30), (⟨"CrustMarketModel", "goesAway", "(I)V"⟩, 30), (⟨"CrustMarketModel", "priceOf", "(II)I"⟩, 30), (⟨"CrustMarketModel", "laysRemain", "(II)V"⟩, 30), (⟨"CrustMarketModel", "ageOf", "(I)I"⟩, 30), (⟨"CrustMarketModel", "joinsOf", "(II)I"⟩, 30), (⟨"CrustMarketModel", "placesOf", "(I)I"⟩, 30), (⟨"CrustMarketModel", "sumOf", "(I)I"⟩, 30), (⟨"CrustMarketModel", "doesFor", "(II)Z"⟩, 30), (⟨"CrustMarketModel", "morning", "()I"⟩, 30), (⟨"CrustMarketModel", "meetsWants", "()I"⟩, 30), (⟨"CrustMarketModel", "isMet", "(I)Z"⟩, 30), (⟨"CrustMarketModel", "ofWant", "(II)I"⟩, 30), (⟨"CrustMarketModel", "evening", "()V"⟩, 30), (⟨"CrustMarketModel", "spoils", "()V"⟩, 30), (⟨"CrustMarketModel", "isSpoilt", "(I)Z"⟩, 30)]
theorem lw_r7 : ∀ q ∈ lw_privs_7, lw_okq q := List.forall_mem_cons.mpr ⟨lw_p96, List.forall_mem_cons.mpr ⟨lw_p97, List.forall_mem_cons.mpr ⟨lw_p98, List.forall_mem_cons.mpr ⟨lw_p99, List.forall_mem_cons.mpr ⟨lw_p100, List.forall_mem_cons.mpr ⟨lw_p101, List.forall_mem_cons.mpr ⟨lw_p102, List.forall_mem_cons.mpr ⟨lw_p103, List.forall_mem_cons.mpr ⟨lw_p104, List.forall_mem_cons.mpr ⟨lw_p105, List.forall_mem_cons.mpr ⟨lw_p106, List.forall_mem_cons.mpr ⟨lw_p107, List.forall_mem_cons.mpr ⟨lw_p108, List.forall_mem_cons.mpr ⟨lw_p109, List.forall_mem_cons.mpr ⟨lw_p110, List.forall_mem_cons.mpr ⟨lw_p111, fun _ h => absurd h List.not_mem_nil⟩⟩⟩⟩⟩⟩⟩⟩⟩⟩⟩⟩⟩⟩⟩⟩
theorem lw_p112 : lw_okq (⟨"CrustMarketModel", "keepsOf", "(I)I"⟩, 30) := ⟨⟨by decide +kernel, by decide +kernel⟩, List.mem_of_getElem? (i := 1173) (by decide +kernel), List.mem_of_getElem? (i := 1627) (by decide +kernel), List.mem_of_getElem? (i := 1628) (by decide +kernel)⟩
theorem lw_p113 : lw_okq (⟨"CrustMarketModel", "spoilOf", "(I)I"⟩, 30) := ⟨⟨by decide +kernel, by decide +kernel⟩, List.mem_of_getElem? (i := 1173) (by decide +kernel), List.mem_of_getElem? (i := 1631) (by decide +kernel), List.mem_of_getElem? (i := 1632) (by decide +kernel)⟩
theorem lw_p114 : lw_okq (⟨"CrustMarketModel", "draw", "(I)I"⟩, 30) := ⟨⟨by decide +kernel, by decide +kernel⟩, List.mem_of_getElem? (i := 1173) (by decide +kernel), List.mem_of_getElem? (i := 1635) (by decide +kernel), List.mem_of_getElem? (i := 1636) (by decide +kernel)⟩
theorem lw_p115 : lw_okq (⟨"CrustMarketModel", "inspects", "()V"⟩, 30) := ⟨⟨by decide +kernel, by decide +kernel⟩, List.mem_of_getElem? (i := 1173) (by decide +kernel), List.mem_of_getElem? (i := 1641) (by decide +kernel), List.mem_of_getElem? (i := 1642) (by decide +kernel)⟩
theorem lw_p116 : lw_okq (⟨"CrustMarketModel", "dogs", "()V"⟩, 30) := ⟨⟨by decide +kernel, by decide +kernel⟩, List.mem_of_getElem? (i := 1173) (by decide +kernel), List.mem_of_getElem? (i := 1645) (by decide +kernel), List.mem_of_getElem? (i := 1646) (by decide +kernel)⟩
theorem lw_p117 : lw_okq (⟨"CrustMarketModel", "firstMissed", "()I"⟩, 30) := ⟨⟨by decide +kernel, by decide +kernel⟩, List.mem_of_getElem? (i := 1173) (by decide +kernel), List.mem_of_getElem? (i := 1674) (by decide +kernel), List.mem_of_getElem? (i := 1675) (by decide +kernel)⟩
theorem lw_p118 : lw_okq (⟨"CrustMarketModel", "mostGuests", "(I)I"⟩, 30) := ⟨⟨by decide +kernel, by decide +kernel⟩, List.mem_of_getElem? (i := 1173) (by decide +kernel), List.mem_of_getElem? (i := 1682) (by decide +kernel), List.mem_of_getElem? (i := 1683) (by decide +kernel)⟩
theorem lw_p119 : lw_okq (⟨"CrustMarketModel", "holds", "(II)I"⟩, 30) := ⟨⟨by decide +kernel, by decide +kernel⟩, List.mem_of_getElem? (i := 1173) (by decide +kernel), List.mem_of_getElem? (i := 1686) (by decide +kernel), List.mem_of_getElem? (i := 1687) (by decide +kernel)⟩
theorem lw_p120 : lw_okq (⟨"CrustMarketModel", "laysCuts", "(I)V"⟩, 30) := ⟨⟨by decide +kernel, by decide +kernel⟩, List.mem_of_getElem? (i := 1173) (by decide +kernel), List.mem_of_getElem? (i := 1698) (by decide +kernel), List.mem_of_getElem? (i := 1699) (by decide +kernel)⟩
theorem lw_p121 : lw_okq (⟨"CrustMarketModel", "areTests", "(I)Z"⟩, 30) := ⟨⟨by decide +kernel, by decide +kernel⟩, List.mem_of_getElem? (i := 1173) (by decide +kernel), List.mem_of_getElem? (i := 1715) (by decide +kernel), List.mem_of_getElem? (i := 1716) (by decide +kernel)⟩
theorem lw_p122 : lw_okq (⟨"CrustMarketModel", "byTest", "(JIZ)J"⟩, 30) := ⟨⟨by decide +kernel, by decide +kernel⟩, List.mem_of_getElem? (i := 1173) (by decide +kernel), List.mem_of_getElem? (i := 1720) (by decide +kernel), List.mem_of_getElem? (i := 1721) (by decide +kernel)⟩
theorem lw_p123 : lw_okq (⟨"CrustMarketModel", "linesLeaving", "(I)I"⟩, 30) := ⟨⟨by decide +kernel, by decide +kernel⟩, List.mem_of_getElem? (i := 1173) (by decide +kernel), List.mem_of_getElem? (i := 1734) (by decide +kernel), List.mem_of_getElem? (i := 1735) (by decide +kernel)⟩
theorem lw_p124 : lw_okq (⟨"CrustMarketModel", "greaterPart", "(II)I"⟩, 30) := ⟨⟨by decide +kernel, by decide +kernel⟩, List.mem_of_getElem? (i := 1173) (by decide +kernel), List.mem_of_getElem? (i := 1738) (by decide +kernel), List.mem_of_getElem? (i := 1739) (by decide +kernel)⟩
theorem lw_p125 : lw_okq (⟨"CrustMarketModel", "cookedOf", "(I)I"⟩, 30) := ⟨⟨by decide +kernel, by decide +kernel⟩, List.mem_of_getElem? (i := 1173) (by decide +kernel), List.mem_of_getElem? (i := 1746) (by decide +kernel), List.mem_of_getElem? (i := 1747) (by decide +kernel)⟩
theorem lw_p126 : lw_okq (⟨"CrustMarketModel", "takerAt", "(I)I"⟩, 30) := ⟨⟨by decide +kernel, by decide +kernel⟩, List.mem_of_getElem? (i := 1173) (by decide +kernel), List.mem_of_getElem? (i := 1762) (by decide +kernel), List.mem_of_getElem? (i := 1763) (by decide +kernel)⟩
theorem lw_p127 : lw_okq (⟨"CrustMarketModel", "backFrom", "(IIIJJ)I"⟩, 30) := ⟨⟨by decide +kernel, by decide +kernel⟩, List.mem_of_getElem? (i := 1173) (by decide +kernel), List.mem_of_getElem? (i := 1781) (by decide +kernel), List.mem_of_getElem? (i := 1782) (by decide +kernel)⟩
def lw_privs_8 : List (MethodName × Nat) := [(⟨"CrustMarketModel", "keepsOf", "(I)I"⟩, 30), (⟨"CrustMarketModel", "spoilOf", "(I)I"⟩, 30), (⟨"CrustMarketModel", "draw", "(I)I"⟩, 30), (⟨"CrustMarketModel", "inspects", "()V"⟩, 30), (⟨"CrustMarketModel", "dogs", "()V"⟩, 30), (⟨"CrustMarketModel", "firstMissed", "()I"⟩, 30), (⟨"CrustMarketModel", "mostGuests", "(I)I"⟩, 30), (⟨"CrustMarketModel", "holds", "(II)I"⟩, 30), (⟨"CrustMarketModel", "laysCuts", "(I)V"⟩, 30), (⟨"CrustMarketModel", "areTests", "(I)Z"⟩, 30), (⟨"CrustMarketModel", "byTest", "(JIZ)J"⟩, 30), (⟨"CrustMarketModel", "linesLeaving", "(I)I"⟩, 30), (⟨"CrustMarketModel", "greaterPart", "(II)I"⟩, 30), (⟨"CrustMarketModel", "cookedOf", "(I)I"⟩, 30), (⟨"CrustMarketModel", "takerAt", "(I)I"⟩, 30), (⟨"CrustMarketModel", "backFrom", "(IIIJJ)I"⟩, 30)]
theorem lw_r8 : ∀ q ∈ lw_privs_8, lw_okq q := List.forall_mem_cons.mpr ⟨lw_p112, List.forall_mem_cons.mpr ⟨lw_p113, List.forall_mem_cons.mpr ⟨lw_p114, List.forall_mem_cons.mpr ⟨lw_p115, List.forall_mem_cons.mpr ⟨lw_p116, List.forall_mem_cons.mpr ⟨lw_p117, List.forall_mem_cons.mpr ⟨lw_p118, List.forall_mem_cons.mpr ⟨lw_p119, List.forall_mem_cons.mpr ⟨lw_p120, List.forall_mem_cons.mpr ⟨lw_p121, List.forall_mem_cons.mpr ⟨lw_p122, List.forall_mem_cons.mpr ⟨lw_p123, List.forall_mem_cons.mpr ⟨lw_p124, List.forall_mem_cons.mpr ⟨lw_p125, List.forall_mem_cons.mpr ⟨lw_p126, List.forall_mem_cons.mpr ⟨lw_p127, fun _ h => absurd h List.not_mem_nil⟩⟩⟩⟩⟩⟩⟩⟩⟩⟩⟩⟩⟩⟩⟩⟩
def lw_privs : List (MethodName × Nat) := lw_privs_1 ++ (lw_privs_2 ++ (lw_privs_3 ++ (lw_privs_4 ++ (lw_privs_5 ++ (lw_privs_6 ++ (lw_privs_7 ++ (lw_privs_8)))))))
def lw_tbl : List Cond := k2_sels lw_privs ++ tables_1
theorem lw_privs_ok : ∀ q ∈ lw_privs, lw_okq q := by
  show ∀ q ∈ lw_privs_1 ++ (lw_privs_2 ++ (lw_privs_3 ++ (lw_privs_4 ++ (lw_privs_5 ++ (lw_privs_6 ++ (lw_privs_7 ++ (lw_privs_8))))))), lw_okq q
  exact List.forall_mem_append.mpr ⟨lw_r1, List.forall_mem_append.mpr ⟨lw_r2, List.forall_mem_append.mpr ⟨lw_r3, List.forall_mem_append.mpr ⟨lw_r4, List.forall_mem_append.mpr ⟨lw_r5, List.forall_mem_append.mpr ⟨lw_r6, List.forall_mem_append.mpr ⟨lw_r7, lw_r8⟩⟩⟩⟩⟩⟩⟩
def RX0 : String := "CrustMarket$Bench"
def TX0 : u_T := fun k => match k with
  | 0 => ("CrustMarket$Bench", "stalls", "[I", true)
  | 1 => ("CrustMarket$Bench", "fills", "[I", true)
  | 2 => ("CrustMarket$Bench", "stock", "[I", true)
  | 3 => ("CrustMarket$Bench", "mostWorth", "I", false)
  | _ => ("CrustMarket$Bench", "bestDishes", "I", false)
def tyX0 : Nat → FieldType := fun k => match k with
  | 0 => .array .int
  | 1 => .array .int
  | 2 => .array .int
  | 3 => .int
  | _ => .int
abbrev wsX00 : List Cond := u_ws RX0 TX0 5
theorem nmX0 : ∀ a, a < 5 → ∀ b, b < 5 → a ≠ b → (TX0 a).2.1 ≠ (TX0 b).2.1 := by decide +kernel
theorem tyX0_ok : ∀ k, k < 5 → parseFieldDescriptor (TX0 k).2.2.1 = some (tyX0 k) := by decide +kernel
abbrev cX0_init : ByteArray := prog_2_method_1_code
def yX0_init : MethodName := ⟨RX0, "<init>", "()V"⟩
abbrev cX0_fewestStalls : ByteArray := prog_2_method_2_code
def yX0_fewestStalls : MethodName := ⟨RX0, "fewestStalls", "(LCrustMarket$Rows;I)I"⟩
abbrev cX0_layLast : ByteArray := prog_2_method_3_code
def yX0_layLast : MethodName := ⟨RX0, "layLast", "(IIII)V"⟩
abbrev cX0_cook : ByteArray := prog_2_method_4_code
def yX0_cook : MethodName := ⟨RX0, "cook", "(LCrustMarket$Market;)V"⟩
abbrev cX0_cookFrom : ByteArray := prog_2_method_5_code
def yX0_cookFrom : MethodName := ⟨RX0, "cookFrom", "(LCrustMarket$Rows;IIII)V"⟩
abbrev cX0_canCook : ByteArray := prog_2_method_6_code
def yX0_canCook : MethodName := ⟨RX0, "canCook", "(LCrustMarket$Rows;I)Z"⟩
abbrev cX0_use : ByteArray := prog_2_method_7_code
def yX0_use : MethodName := ⟨RX0, "use", "(LCrustMarket$Rows;II)V"⟩
def RX1 : String := "CrustMarket$Finder"
def TX1 : u_T := fun k => match k with
  | 0 => ("CrustMarket$Finder", "places", "[I", true)
  | 1 => ("CrustMarket$Finder", "sizes", "[I", true)
  | 2 => ("CrustMarket$Finder", "falling", "[I", true)
  | 3 => ("CrustMarket$Finder", "count", "I", false)
  | 4 => ("CrustMarket$Finder", "target", "I", false)
  | 5 => ("CrustMarket$Finder", "bestSum", "I", false)
  | _ => ("CrustMarket$Finder", "bestSet", "I", false)
def tyX1 : Nat → FieldType := fun k => match k with
  | 0 => .array .int
  | 1 => .array .int
  | 2 => .array .int
  | 3 => .int
  | 4 => .int
  | 5 => .int
  | _ => .int
abbrev wsX10 : List Cond := u_ws RX1 TX1 7
theorem nmX1 : ∀ a, a < 7 → ∀ b, b < 7 → a ≠ b → (TX1 a).2.1 ≠ (TX1 b).2.1 := by decide +kernel
theorem tyX1_ok : ∀ k, k < 7 → parseFieldDescriptor (TX1 k).2.2.1 = some (tyX1 k) := by decide +kernel
abbrev cX1_init : ByteArray := prog_3_method_1_code
def yX1_init : MethodName := ⟨RX1, "<init>", "()V"⟩
abbrev cX1_fewest : ByteArray := prog_3_method_2_code
def yX1_fewest : MethodName := ⟨RX1, "fewest", "(LCrustMarket$Rows;II)I"⟩
abbrev cX1_gather : ByteArray := prog_3_method_3_code
def yX1_gather : MethodName := ⟨RX1, "gather", "(LCrustMarket$Rows;I)V"⟩
abbrev cX1_addFalling : ByteArray := prog_3_method_4_code
def yX1_addFalling : MethodName := ⟨RX1, "addFalling", "(I)V"⟩
abbrev cX1_bestAlone : ByteArray := prog_3_method_5_code
def yX1_bestAlone : MethodName := ⟨RX1, "bestAlone", "(I)I"⟩
abbrev cX1_fewestReaching : ByteArray := prog_3_method_6_code
def yX1_fewestReaching : MethodName := ⟨RX1, "fewestReaching", "()I"⟩
abbrev cX1_search : ByteArray := prog_3_method_7_code
def yX1_search : MethodName := ⟨RX1, "search", "(IIII)V"⟩
def RX2 : String := "CrustMarket$Law"
def TX2 : u_T := fun k => match k with
  | 0 => ("CrustMarket$Law", "words", "[I", true)
  | 1 => ("CrustMarket$Law", "starts", "[I", true)
  | 2 => ("CrustMarket$Law", "whens", "[I", true)
  | 3 => ("CrustMarket$Law", "stops", "[I", true)
  | 4 => ("CrustMarket$Law", "steps", "[I", true)
  | 5 => ("CrustMarket$Law", "values", "[I", true)
  | 6 => ("CrustMarket$Law", "stack", "[I", true)
  | 7 => ("CrustMarket$Law", "lines", "I", false)
  | _ => ("CrustMarket$Law", "length", "I", false)
def tyX2 : Nat → FieldType := fun k => match k with
  | 0 => .array .int
  | 1 => .array .int
  | 2 => .array .int
  | 3 => .array .int
  | 4 => .array .int
  | 5 => .array .int
  | 6 => .array .int
  | 7 => .int
  | _ => .int
abbrev wsX20 : List Cond := u_ws RX2 TX2 9
theorem nmX2 : ∀ a, a < 9 → ∀ b, b < 9 → a ≠ b → (TX2 a).2.1 ≠ (TX2 b).2.1 := by decide +kernel
theorem tyX2_ok : ∀ k, k < 9 → parseFieldDescriptor (TX2 k).2.2.1 = some (tyX2 k) := by decide +kernel
abbrev cX2_init : ByteArray := prog_4_method_1_code
def yX2_init : MethodName := ⟨RX2, "<init>", "()V"⟩
abbrev cX2_empty : ByteArray := prog_4_method_2_code
def yX2_empty : MethodName := ⟨RX2, "empty", "()V"⟩
abbrev cX2_isFull : ByteArray := prog_4_method_3_code
def yX2_isFull : MethodName := ⟨RX2, "isFull", "()Z"⟩
abbrev cX2_beginLine : ByteArray := prog_4_method_4_code
def yX2_beginLine : MethodName := ⟨RX2, "beginLine", "(I)V"⟩
abbrev cX2_beginWhen : ByteArray := prog_4_method_5_code
def yX2_beginWhen : MethodName := ⟨RX2, "beginWhen", "()V"⟩
abbrev cX2_closeLine : ByteArray := prog_4_method_6_code
def yX2_closeLine : MethodName := ⟨RX2, "closeLine", "()V"⟩
abbrev cX2_addStep : ByteArray := prog_4_method_7_code
def yX2_addStep : MethodName := ⟨RX2, "addStep", "(II)V"⟩
abbrev cX2_copyFrom : ByteArray := prog_4_method_8_code
def yX2_copyFrom : MethodName := ⟨RX2, "copyFrom", "(LCrustMarket$Law;)V"⟩
abbrev cX2_tells : ByteArray := prog_4_method_9_code
def yX2_tells : MethodName := ⟨RX2, "tells", "(I[II)I"⟩
abbrev cX2_worked : ByteArray := prog_4_method_10_code
def yX2_worked : MethodName := ⟨RX2, "worked", "(II[I)I"⟩
abbrev cX2_ofTwo : ByteArray := prog_4_method_11_code
def yX2_ofTwo : MethodName := ⟨RX2, "ofTwo", "(III)I"⟩
def RX3 : String := "CrustMarket$LawReader"
def TX3 : u_T := fun k => match k with
  | 0 => ("CrustMarket$LawReader", "tokens", "LCrustMarket$Tokens;", true)
  | _ => ("CrustMarket$LawReader", "law", "LCrustMarket$Law;", true)
def tyX3 : Nat → FieldType := fun k => match k with
  | 0 => .object "CrustMarket$Tokens"
  | _ => .object "CrustMarket$Law"
abbrev wsX30 : List Cond := u_ws RX3 TX3 2
theorem nmX3 : ∀ a, a < 2 → ∀ b, b < 2 → a ≠ b → (TX3 a).2.1 ≠ (TX3 b).2.1 := by decide +kernel
theorem tyX3_ok : ∀ k, k < 2 → parseFieldDescriptor (TX3 k).2.2.1 = some (tyX3 k) := by decide +kernel
abbrev cX3_init : ByteArray := prog_5_method_1_code
def yX3_init : MethodName := ⟨RX3, "<init>", "(LCrustMarket$Tokens;)V"⟩
abbrev cX3_tell : ByteArray := prog_5_method_2_code
def yX3_tell : MethodName := ⟨RX3, "tell", "(LCrustMarket$Law;)I"⟩
abbrev cX3_readLine : ByteArray := prog_5_method_3_code
def yX3_readLine : MethodName := ⟨RX3, "readLine", "()Z"⟩
abbrev cX3_readEither : ByteArray := prog_5_method_4_code
def yX3_readEither : MethodName := ⟨RX3, "readEither", "(I)Z"⟩
abbrev cX3_readCondition : ByteArray := prog_5_method_5_code
def yX3_readCondition : MethodName := ⟨RX3, "readCondition", "(I)Z"⟩
abbrev cX3_readSum : ByteArray := prog_5_method_6_code
def yX3_readSum : MethodName := ⟨RX3, "readSum", "()Z"⟩
abbrev cX3_isReckoning : ByteArray := prog_5_method_7_code
def yX3_isReckoning : MethodName := ⟨RX3, "isReckoning", "(I)Z"⟩
abbrev cX3_addWaiting : ByteArray := prog_5_method_8_code
def yX3_addWaiting : MethodName := ⟨RX3, "addWaiting", "(I)V"⟩
abbrev cX3_readUnit : ByteArray := prog_5_method_9_code
def yX3_readUnit : MethodName := ⟨RX3, "readUnit", "(Z)Z"⟩
def RX4 : String := "CrustMarket$LineReader"
def TX4 : u_T := fun k => match k with
  | _ => ("CrustMarket$LineReader", "tokens", "LCrustMarket$Tokens;", true)
def tyX4 : Nat → FieldType := fun k => match k with
  | _ => .object "CrustMarket$Tokens"
abbrev wsX40 : List Cond := u_ws RX4 TX4 1
theorem nmX4 : ∀ a, a < 1 → ∀ b, b < 1 → a ≠ b → (TX4 a).2.1 ≠ (TX4 b).2.1 := by decide +kernel
theorem tyX4_ok : ∀ k, k < 1 → parseFieldDescriptor (TX4 k).2.2.1 = some (tyX4 k) := by decide +kernel
abbrev cX4_init : ByteArray := prog_6_method_1_code
def yX4_init : MethodName := ⟨RX4, "<init>", "(LCrustMarket$Tokens;)V"⟩
abbrev cX4_read : ByteArray := prog_6_method_2_code
def yX4_read : MethodName := ⟨RX4, "read", "(ILCrustMarket$Rows;I)Z"⟩
abbrev cX4_readLine : ByteArray := prog_6_method_3_code
def yX4_readLine : MethodName := ⟨RX4, "readLine", "(ILCrustMarket$Rows;I)Z"⟩
abbrev cX4_readKind : ByteArray := prog_6_method_4_code
def yX4_readKind : MethodName := ⟨RX4, "readKind", "(LCrustMarket$Rows;)Z"⟩
abbrev cX4_readFeast : ByteArray := prog_6_method_5_code
def yX4_readFeast : MethodName := ⟨RX4, "readFeast", "(LCrustMarket$Rows;I)Z"⟩
abbrev cX4_readWant : ByteArray := prog_6_method_6_code
def yX4_readWant : MethodName := ⟨RX4, "readWant", "(LCrustMarket$Rows;I)Z"⟩
abbrev cX4_readDish : ByteArray := prog_6_method_7_code
def yX4_readDish : MethodName := ⟨RX4, "readDish", "(LCrustMarket$Rows;I)Z"⟩
abbrev cX4_readParts : ByteArray := prog_6_method_8_code
def yX4_readParts : MethodName := ⟨RX4, "readParts", "(LCrustMarket$Rows;I)Z"⟩
abbrev cX4_begins : ByteArray := prog_6_method_9_code
def yX4_begins : MethodName := ⟨RX4, "begins", "(ILCrustMarket$Rows;)Z"⟩
abbrev cX4_takesNumber : ByteArray := prog_6_method_10_code
def yX4_takesNumber : MethodName := ⟨RX4, "takesNumber", "(LCrustMarket$Rows;III)Z"⟩
def RX5 : String := "CrustMarket$Lists"
def TX5 : u_T := fun k => match k with
  | 0 => ("CrustMarket$Lists", "pieces", "LCrustMarket$Rows;", true)
  | 1 => ("CrustMarket$Lists", "tests", "LCrustMarket$Rows;", true)
  | 2 => ("CrustMarket$Lists", "limits", "LCrustMarket$Rows;", true)
  | 3 => ("CrustMarket$Lists", "trades", "LCrustMarket$Rows;", true)
  | 4 => ("CrustMarket$Lists", "worths", "[[I", true)
  | _ => ("CrustMarket$Lists", "reached", "[I", true)
def tyX5 : Nat → FieldType := fun k => match k with
  | 0 => .object "CrustMarket$Rows"
  | 1 => .object "CrustMarket$Rows"
  | 2 => .object "CrustMarket$Rows"
  | 3 => .object "CrustMarket$Rows"
  | 4 => .array (.array .int)
  | _ => .array .int
abbrev wsX50 : List Cond := u_ws RX5 TX5 6
theorem nmX5 : ∀ a, a < 6 → ∀ b, b < 6 → a ≠ b → (TX5 a).2.1 ≠ (TX5 b).2.1 := by decide +kernel
theorem tyX5_ok : ∀ k, k < 6 → parseFieldDescriptor (TX5 k).2.2.1 = some (tyX5 k) := by decide +kernel
abbrev cX5_init : ByteArray := prog_7_method_1_code
def yX5_init : MethodName := ⟨RX5, "<init>", "()V"⟩
abbrev cX5_copyFrom : ByteArray := prog_7_method_2_code
def yX5_copyFrom : MethodName := ⟨RX5, "copyFrom", "(LCrustMarket$Lists;)V"⟩
abbrev cX5_weighBolt : ByteArray := prog_7_method_3_code
def yX5_weighBolt : MethodName := ⟨RX5, "weighBolt", "(I)V"⟩
abbrev cX5_worthWith : ByteArray := prog_7_method_4_code
def yX5_worthWith : MethodName := ⟨RX5, "worthWith", "(II)I"⟩
abbrev cX5_boltWorth : ByteArray := prog_7_method_5_code
def yX5_boltWorth : MethodName := ⟨RX5, "boltWorth", "(I)I"⟩
abbrev cX5_piecesInBolt : ByteArray := prog_7_method_6_code
def yX5_piecesInBolt : MethodName := ⟨RX5, "piecesInBolt", "(II)I"⟩
abbrev cX5_oddsForged : ByteArray := prog_7_method_7_code
def yX5_oddsForged : MethodName := ⟨RX5, "oddsForged", "(III)I"⟩
abbrev cX5_oddsBehind : ByteArray := prog_7_method_8_code
def yX5_oddsBehind : MethodName := ⟨RX5, "oddsBehind", "(JII)J"⟩
abbrev cX5_testToLookAt : ByteArray := prog_7_method_9_code
def yX5_testToLookAt : MethodName := ⟨RX5, "testToLookAt", "(I)I"⟩
abbrev cX5_priceTaken : ByteArray := prog_7_method_10_code
def yX5_priceTaken : MethodName := ⟨RX5, "priceTaken", "(II)I"⟩
abbrev cX5_firstLimitAtLeast : ByteArray := prog_7_method_11_code
def yX5_firstLimitAtLeast : MethodName := ⟨RX5, "firstLimitAtLeast", "(I)I"⟩
abbrev cX5_fewestTradesTo : ByteArray := prog_7_method_12_code
def yX5_fewestTradesTo : MethodName := ⟨RX5, "fewestTradesTo", "(II)I"⟩
abbrev cX5_kindsBehind : ByteArray := prog_7_method_13_code
def yX5_kindsBehind : MethodName := ⟨RX5, "kindsBehind", "(I)I"⟩
abbrev cX5_fewestTradesBack : ByteArray := prog_7_method_14_code
def yX5_fewestTradesBack : MethodName := ⟨RX5, "fewestTradesBack", "(I)I"⟩
abbrev cX5_walkOn : ByteArray := prog_7_method_15_code
def yX5_walkOn : MethodName := ⟨RX5, "walkOn", "(II)V"⟩
abbrev cX5_gains : ByteArray := prog_7_method_16_code
def yX5_gains : MethodName := ⟨RX5, "gains", "(I)Z"⟩
def RX6 : String := "CrustMarket$Market"
def TX6 : u_T := fun k => match k with
  | 0 => ("CrustMarket$Market", "kinds", "LCrustMarket$Rows;", true)
  | 1 => ("CrustMarket$Market", "feasts", "LCrustMarket$Rows;", true)
  | 2 => ("CrustMarket$Market", "wants", "LCrustMarket$Rows;", true)
  | 3 => ("CrustMarket$Market", "dishes", "LCrustMarket$Rows;", true)
  | 4 => ("CrustMarket$Market", "remains", "LCrustMarket$Rows;", true)
  | 5 => ("CrustMarket$Market", "book", "LCrustMarket$Rows;", true)
  | 6 => ("CrustMarket$Market", "law", "LCrustMarket$Law;", true)
  | 7 => ("CrustMarket$Market", "finder", "LCrustMarket$Finder;", true)
  | 8 => ("CrustMarket$Market", "facts", "[I", true)
  | 9 => ("CrustMarket$Market", "state", "I", false)
  | 10 => ("CrustMarket$Market", "day", "I", false)
  | 11 => ("CrustMarket$Market", "coin", "I", false)
  | 12 => ("CrustMarket$Market", "fines", "I", false)
  | 13 => ("CrustMarket$Market", "inspect", "I", false)
  | 14 => ("CrustMarket$Market", "dogs", "I", false)
  | _ => ("CrustMarket$Market", "eaten", "I", false)
def tyX6 : Nat → FieldType := fun k => match k with
  | 0 => .object "CrustMarket$Rows"
  | 1 => .object "CrustMarket$Rows"
  | 2 => .object "CrustMarket$Rows"
  | 3 => .object "CrustMarket$Rows"
  | 4 => .object "CrustMarket$Rows"
  | 5 => .object "CrustMarket$Rows"
  | 6 => .object "CrustMarket$Law"
  | 7 => .object "CrustMarket$Finder"
  | 8 => .array .int
  | 9 => .int
  | 10 => .int
  | 11 => .int
  | 12 => .int
  | 13 => .int
  | 14 => .int
  | _ => .int
abbrev wsX60 : List Cond := u_ws RX6 TX6 16
theorem nmX6 : ∀ a, a < 16 → ∀ b, b < 16 → a ≠ b → (TX6 a).2.1 ≠ (TX6 b).2.1 := by decide +kernel
theorem tyX6_ok : ∀ k, k < 16 → parseFieldDescriptor (TX6 k).2.2.1 = some (tyX6 k) := by decide +kernel
abbrev cX6_init : ByteArray := prog_8_method_1_code
def yX6_init : MethodName := ⟨RX6, "<init>", "()V"⟩
abbrev cX6_copyFrom : ByteArray := prog_8_method_2_code
def yX6_copyFrom : MethodName := ⟨RX6, "copyFrom", "(LCrustMarket$Market;)V"⟩
abbrev cX6_linesOf : ByteArray := prog_8_method_3_code
def yX6_linesOf : MethodName := ⟨RX6, "linesOf", "(I)LCrustMarket$Rows;"⟩
abbrev cX6_feastCanBe : ByteArray := prog_8_method_4_code
def yX6_feastCanBe : MethodName := ⟨RX6, "feastCanBe", "(II)Z"⟩
abbrev cX6_forgingCanBe : ByteArray := prog_8_method_5_code
def yX6_forgingCanBe : MethodName := ⟨RX6, "forgingCanBe", "(II)Z"⟩
abbrev cX6_cutCanBe : ByteArray := prog_8_method_6_code
def yX6_cutCanBe : MethodName := ⟨RX6, "cutCanBe", "(II)Z"⟩
abbrev cX6_joiningCanBe : ByteArray := prog_8_method_7_code
def yX6_joiningCanBe : MethodName := ⟨RX6, "joiningCanBe", "(II)Z"⟩
abbrev cX6_askOfFeast : ByteArray := prog_8_method_8_code
def yX6_askOfFeast : MethodName := ⟨RX6, "askOfFeast", "(II)V"⟩
abbrev cX6_askOfRemain : ByteArray := prog_8_method_9_code
def yX6_askOfRemain : MethodName := ⟨RX6, "askOfRemain", "(II)V"⟩
abbrev cX6_leftByFeast : ByteArray := prog_8_method_10_code
def yX6_leftByFeast : MethodName := ⟨RX6, "leftByFeast", "(II)I"⟩
abbrev cX6_edgeOfFeast : ByteArray := prog_8_method_11_code
def yX6_edgeOfFeast : MethodName := ⟨RX6, "edgeOfFeast", "(II)I"⟩
abbrev cX6_priceOf : ByteArray := prog_8_method_12_code
def yX6_priceOf : MethodName := ⟨RX6, "priceOf", "(II)I"⟩
abbrev cX6_spoilOf : ByteArray := prog_8_method_13_code
def yX6_spoilOf : MethodName := ⟨RX6, "spoilOf", "(I)I"⟩
abbrev cX6_ageOf : ByteArray := prog_8_method_14_code
def yX6_ageOf : MethodName := ⟨RX6, "ageOf", "(I)I"⟩
abbrev cX6_isTooOld : ByteArray := prog_8_method_15_code
def yX6_isTooOld : MethodName := ⟨RX6, "isTooOld", "(II)Z"⟩
abbrev cX6_remainsOfKind : ByteArray := prog_8_method_16_code
def yX6_remainsOfKind : MethodName := ⟨RX6, "remainsOfKind", "(I)I"⟩
abbrev cX6_sizesOfKind : ByteArray := prog_8_method_17_code
def yX6_sizesOfKind : MethodName := ⟨RX6, "sizesOfKind", "(I)I"⟩
abbrev cX6_holdFeast : ByteArray := prog_8_method_18_code
def yX6_holdFeast : MethodName := ⟨RX6, "holdFeast", "(II)I"⟩
abbrev cX6_forgeOne : ByteArray := prog_8_method_19_code
def yX6_forgeOne : MethodName := ⟨RX6, "forgeOne", "(II)I"⟩
abbrev cX6_cutOne : ByteArray := prog_8_method_20_code
def yX6_cutOne : MethodName := ⟨RX6, "cutOne", "(II)I"⟩
abbrev cX6_joinTwo : ByteArray := prog_8_method_21_code
def yX6_joinTwo : MethodName := ⟨RX6, "joinTwo", "(II)I"⟩
abbrev cX6_sellOne : ByteArray := prog_8_method_22_code
def yX6_sellOne : MethodName := ⟨RX6, "sellOne", "(I)I"⟩
abbrev cX6_beginDay : ByteArray := prog_8_method_23_code
def yX6_beginDay : MethodName := ⟨RX6, "beginDay", "()I"⟩
abbrev cX6_meets : ByteArray := prog_8_method_24_code
def yX6_meets : MethodName := ⟨RX6, "meets", "(I)Z"⟩
abbrev cX6_firstMissed : ByteArray := prog_8_method_25_code
def yX6_firstMissed : MethodName := ⟨RX6, "firstMissed", "()I"⟩
abbrev cX6_endDay : ByteArray := prog_8_method_26_code
def yX6_endDay : MethodName := ⟨RX6, "endDay", "(Z)V"⟩
abbrev cX6_isSpoilt : ByteArray := prog_8_method_27_code
def yX6_isSpoilt : MethodName := ⟨RX6, "isSpoilt", "(I)Z"⟩
abbrev cX6_inspectorsCome : ByteArray := prog_8_method_28_code
def yX6_inspectorsCome : MethodName := ⟨RX6, "inspectorsCome", "()V"⟩
abbrev cX6_dogsCome : ByteArray := prog_8_method_29_code
def yX6_dogsCome : MethodName := ⟨RX6, "dogsCome", "()V"⟩
abbrev cX6_lose : ByteArray := prog_8_method_30_code
def yX6_lose : MethodName := ⟨RX6, "lose", "(II)V"⟩
abbrev cX6_draw : ByteArray := prog_8_method_31_code
def yX6_draw : MethodName := ⟨RX6, "draw", "(I)I"⟩
abbrev cX6_metSet : ByteArray := prog_8_method_32_code
def yX6_metSet : MethodName := ⟨RX6, "metSet", "()I"⟩
abbrev cX6_putMetSet : ByteArray := prog_8_method_33_code
def yX6_putMetSet : MethodName := ⟨RX6, "putMetSet", "(I)V"⟩
abbrev cX6_guestsLeavingMost : ByteArray := prog_8_method_34_code
def yX6_guestsLeavingMost : MethodName := ⟨RX6, "guestsLeavingMost", "(I)I"⟩
abbrev cX6_feastsLeaving : ByteArray := prog_8_method_35_code
def yX6_feastsLeaving : MethodName := ⟨RX6, "feastsLeaving", "(I)I"⟩
abbrev cX6_kindParting : ByteArray := prog_8_method_36_code
def yX6_kindParting : MethodName := ⟨RX6, "kindParting", "(I)I"⟩
abbrev cX6_feastsOfKind : ByteArray := prog_8_method_37_code
def yX6_feastsOfKind : MethodName := ⟨RX6, "feastsOfKind", "(II)I"⟩
abbrev cX6_bestWait : ByteArray := prog_8_method_38_code
def yX6_bestWait : MethodName := ⟨RX6, "bestWait", "(I)I"⟩
def RX7 : String := "CrustMarket$Past"
def TX7 : u_T := fun k => match k with
  | 0 => ("CrustMarket$Past", "remains", "[LCrustMarket$Rows;", true)
  | 1 => ("CrustMarket$Past", "numbers", "[[I", true)
  | 2 => ("CrustMarket$Past", "kept", "I", false)
  | _ => ("CrustMarket$Past", "next", "I", false)
def tyX7 : Nat → FieldType := fun k => match k with
  | 0 => .array (.object "CrustMarket$Rows")
  | 1 => .array (.array .int)
  | 2 => .int
  | _ => .int
abbrev wsX70 : List Cond := u_ws RX7 TX7 4
theorem nmX7 : ∀ a, a < 4 → ∀ b, b < 4 → a ≠ b → (TX7 a).2.1 ≠ (TX7 b).2.1 := by decide +kernel
theorem tyX7_ok : ∀ k, k < 4 → parseFieldDescriptor (TX7 k).2.2.1 = some (tyX7 k) := by decide +kernel
abbrev cX7_init : ByteArray := prog_9_method_1_code
def yX7_init : MethodName := ⟨RX7, "<init>", "()V"⟩
abbrev cX7_forget : ByteArray := prog_9_method_2_code
def yX7_forget : MethodName := ⟨RX7, "forget", "()V"⟩
abbrev cX7_keep : ByteArray := prog_9_method_3_code
def yX7_keep : MethodName := ⟨RX7, "keep", "(LCrustMarket$Market;)V"⟩
abbrev cX7_giveBack : ByteArray := prog_9_method_4_code
def yX7_giveBack : MethodName := ⟨RX7, "giveBack", "(LCrustMarket$Market;)Z"⟩
def RX8 : String := "CrustMarket$Rows"
def TX8 : u_T := fun k => match k with
  | 0 => ("CrustMarket$Rows", "most", "I", true)
  | 1 => ("CrustMarket$Rows", "width", "I", true)
  | 2 => ("CrustMarket$Rows", "cells", "[I", true)
  | _ => ("CrustMarket$Rows", "count", "I", false)
def tyX8 : Nat → FieldType := fun k => match k with
  | 0 => .int
  | 1 => .int
  | 2 => .array .int
  | _ => .int
abbrev wsX80 : List Cond := u_ws RX8 TX8 4
theorem nmX8 : ∀ a, a < 4 → ∀ b, b < 4 → a ≠ b → (TX8 a).2.1 ≠ (TX8 b).2.1 := by decide +kernel
theorem tyX8_ok : ∀ k, k < 4 → parseFieldDescriptor (TX8 k).2.2.1 = some (tyX8 k) := by decide +kernel
abbrev cX8_init : ByteArray := prog_10_method_1_code
def yX8_init : MethodName := ⟨RX8, "<init>", "(II)V"⟩
abbrev cX8_has : ByteArray := prog_10_method_2_code
def yX8_has : MethodName := ⟨RX8, "has", "(I)Z"⟩
abbrev cX8_isFull : ByteArray := prog_10_method_3_code
def yX8_isFull : MethodName := ⟨RX8, "isFull", "()Z"⟩
abbrev cX8_cellOf : ByteArray := prog_10_method_4_code
def yX8_cellOf : MethodName := ⟨RX8, "cellOf", "(II)I"⟩
abbrev cX8_at : ByteArray := prog_10_method_5_code
def yX8_at : MethodName := ⟨RX8, "at", "(II)I"⟩
abbrev cX8_put : ByteArray := prog_10_method_6_code
def yX8_put : MethodName := ⟨RX8, "put", "(III)V"⟩
abbrev cX8_addEmpty : ByteArray := prog_10_method_7_code
def yX8_addEmpty : MethodName := ⟨RX8, "addEmpty", "()I"⟩
abbrev cX8_add : ByteArray := prog_10_method_8_code
def yX8_add : MethodName := ⟨RX8, "add", "(IIII)I"⟩
abbrev cX8_addTold : ByteArray := prog_10_method_9_code
def yX8_addTold : MethodName := ⟨RX8, "addTold", "(IIII)I"⟩
abbrev cX8_empty : ByteArray := prog_10_method_10_code
def yX8_empty : MethodName := ⟨RX8, "empty", "()I"⟩
abbrev cX8_keepFirst : ByteArray := prog_10_method_11_code
def yX8_keepFirst : MethodName := ⟨RX8, "keepFirst", "(I)V"⟩
abbrev cX8_drop : ByteArray := prog_10_method_12_code
def yX8_drop : MethodName := ⟨RX8, "drop", "(I)V"⟩
abbrev cX8_copyFrom : ByteArray := prog_10_method_13_code
def yX8_copyFrom : MethodName := ⟨RX8, "copyFrom", "(LCrustMarket$Rows;)V"⟩
def RX9 : String := "CrustMarket$Tokens"
def TX9 : u_T := fun k => match k with
  | 0 => ("CrustMarket$Tokens", "tape", "[I", true)
  | 1 => ("CrustMarket$Tokens", "types", "[I", true)
  | 2 => ("CrustMarket$Tokens", "values", "[I", true)
  | 3 => ("CrustMarket$Tokens", "places", "[I", true)
  | 4 => ("CrustMarket$Tokens", "length", "I", false)
  | 5 => ("CrustMarket$Tokens", "count", "I", false)
  | 6 => ("CrustMarket$Tokens", "now", "I", false)
  | 7 => ("CrustMarket$Tokens", "faultFound", "I", false)
  | _ => ("CrustMarket$Tokens", "faultPlace", "I", false)
def tyX9 : Nat → FieldType := fun k => match k with
  | 0 => .array .int
  | 1 => .array .int
  | 2 => .array .int
  | 3 => .array .int
  | 4 => .int
  | 5 => .int
  | 6 => .int
  | 7 => .int
  | _ => .int
abbrev wsX90 : List Cond := u_ws RX9 TX9 9
theorem nmX9 : ∀ a, a < 9 → ∀ b, b < 9 → a ≠ b → (TX9 a).2.1 ≠ (TX9 b).2.1 := by decide +kernel
theorem tyX9_ok : ∀ k, k < 9 → parseFieldDescriptor (TX9 k).2.2.1 = some (tyX9 k) := by decide +kernel
abbrev cX9_init : ByteArray := prog_11_method_1_code
def yX9_init : MethodName := ⟨RX9, "<init>", "()V"⟩
abbrev cX9_hasRoomFor : ByteArray := prog_11_method_2_code
def yX9_hasRoomFor : MethodName := ⟨RX9, "hasRoomFor", "(I)Z"⟩
abbrev cX9_addNumber : ByteArray := prog_11_method_3_code
def yX9_addNumber : MethodName := ⟨RX9, "addNumber", "(I)V"⟩
abbrev cX9_split : ByteArray := prog_11_method_4_code
def yX9_split : MethodName := ⟨RX9, "split", "()V"⟩
abbrev cX9_splitOne : ByteArray := prog_11_method_5_code
def yX9_splitOne : MethodName := ⟨RX9, "splitOne", "(I)I"⟩
abbrev cX9_byteAt : ByteArray := prog_11_method_6_code
def yX9_byteAt : MethodName := ⟨RX9, "byteAt", "(I)I"⟩
abbrev cX9_isBlank : ByteArray := prog_11_method_7_code
def yX9_isBlank : MethodName := ⟨RX9, "isBlank", "(I)Z"⟩
abbrev cX9_isLetter : ByteArray := prog_11_method_8_code
def yX9_isLetter : MethodName := ⟨RX9, "isLetter", "(I)Z"⟩
abbrev cX9_isDigit : ByteArray := prog_11_method_9_code
def yX9_isDigit : MethodName := ⟨RX9, "isDigit", "(I)Z"⟩
abbrev cX9_behindLetters : ByteArray := prog_11_method_10_code
def yX9_behindLetters : MethodName := ⟨RX9, "behindLetters", "(I)I"⟩
abbrev cX9_behindDigits : ByteArray := prog_11_method_11_code
def yX9_behindDigits : MethodName := ⟨RX9, "behindDigits", "(I)I"⟩
abbrev cX9_numberBetween : ByteArray := prog_11_method_12_code
def yX9_numberBetween : MethodName := ⟨RX9, "numberBetween", "(II)I"⟩
abbrev cX9_wordBetween : ByteArray := prog_11_method_13_code
def yX9_wordBetween : MethodName := ⟨RX9, "wordBetween", "(II)I"⟩
abbrev cX9_isWordAt : ByteArray := prog_11_method_14_code
def yX9_isWordAt : MethodName := ⟨RX9, "isWordAt", "(III)Z"⟩
abbrev cX9_addToken : ByteArray := prog_11_method_15_code
def yX9_addToken : MethodName := ⟨RX9, "addToken", "(III)V"⟩
abbrev cX9_type : ByteArray := prog_11_method_16_code
def yX9_type : MethodName := ⟨RX9, "type", "()I"⟩
abbrev cX9_value : ByteArray := prog_11_method_17_code
def yX9_value : MethodName := ⟨RX9, "value", "()I"⟩
abbrev cX9_atEnd : ByteArray := prog_11_method_18_code
def yX9_atEnd : MethodName := ⟨RX9, "atEnd", "()Z"⟩
abbrev cX9_take : ByteArray := prog_11_method_19_code
def yX9_take : MethodName := ⟨RX9, "take", "()V"⟩
abbrev cX9_fails : ByteArray := prog_11_method_20_code
def yX9_fails : MethodName := ⟨RX9, "fails", "(I)Z"⟩
abbrev cX9_takes : ByteArray := prog_11_method_21_code
def yX9_takes : MethodName := ⟨RX9, "takes", "(I)Z"⟩
def RX10 : String := "CrustMarket"
def TX10 : u_T := fun k => match k with
  | 0 => ("CrustMarket", "market", "LCrustMarket$Market;", true)
  | 1 => ("CrustMarket", "imageMarket", "LCrustMarket$Market;", true)
  | 2 => ("CrustMarket", "thought", "LCrustMarket$Market;", true)
  | 3 => ("CrustMarket", "lists", "LCrustMarket$Lists;", true)
  | 4 => ("CrustMarket", "imageLists", "LCrustMarket$Lists;", true)
  | 5 => ("CrustMarket", "past", "LCrustMarket$Past;", true)
  | 6 => ("CrustMarket", "tokens", "LCrustMarket$Tokens;", true)
  | 7 => ("CrustMarket", "lineReader", "LCrustMarket$LineReader;", true)
  | 8 => ("CrustMarket", "lawReader", "LCrustMarket$LawReader;", true)
  | 9 => ("CrustMarket", "bench", "LCrustMarket$Bench;", true)
  | _ => ("CrustMarket", "imageTaken", "Z", false)
def tyX10 : Nat → FieldType := fun k => match k with
  | 0 => .object "CrustMarket$Market"
  | 1 => .object "CrustMarket$Market"
  | 2 => .object "CrustMarket$Market"
  | 3 => .object "CrustMarket$Lists"
  | 4 => .object "CrustMarket$Lists"
  | 5 => .object "CrustMarket$Past"
  | 6 => .object "CrustMarket$Tokens"
  | 7 => .object "CrustMarket$LineReader"
  | 8 => .object "CrustMarket$LawReader"
  | 9 => .object "CrustMarket$Bench"
  | _ => .boolean
abbrev wsX100 : List Cond := u_ws RX10 TX10 11
theorem nmX10 : ∀ a, a < 11 → ∀ b, b < 11 → a ≠ b → (TX10 a).2.1 ≠ (TX10 b).2.1 := by decide +kernel
theorem tyX10_ok : ∀ k, k < 11 → parseFieldDescriptor (TX10 k).2.2.1 = some (tyX10 k) := by decide +kernel
abbrev cX10_init : ByteArray := prog_1_method_1_code
def yX10_init : MethodName := ⟨RX10, "<init>", "()V"⟩
abbrev cX10_state : ByteArray := prog_1_method_2_code
def yX10_state : MethodName := ⟨RX10, "state", "(I)I"⟩
abbrev cX10_set : ByteArray := prog_1_method_3_code
def yX10_set : MethodName := ⟨RX10, "set", "(II)Z"⟩
abbrev cX10_feast : ByteArray := prog_1_method_4_code
def yX10_feast : MethodName := ⟨RX10, "feast", "(II)I"⟩
abbrev cX10_forge : ByteArray := prog_1_method_5_code
def yX10_forge : MethodName := ⟨RX10, "forge", "(II)I"⟩
abbrev cX10_cut : ByteArray := prog_1_method_6_code
def yX10_cut : MethodName := ⟨RX10, "cut", "(II)I"⟩
abbrev cX10_join : ByteArray := prog_1_method_7_code
def yX10_join : MethodName := ⟨RX10, "join", "(II)I"⟩
abbrev cX10_sell : ByteArray := prog_1_method_8_code
def yX10_sell : MethodName := ⟨RX10, "sell", "(I)I"⟩
abbrev cX10_days : ByteArray := prog_1_method_9_code
def yX10_days : MethodName := ⟨RX10, "days", "(I)I"⟩
abbrev cX10_feed : ByteArray := prog_1_method_10_code
def yX10_feed : MethodName := ⟨RX10, "feed", "(IIIII)I"⟩
abbrev cX10_end : ByteArray := prog_1_method_11_code
def yX10_end : MethodName := ⟨RX10, "end", "(I)Z"⟩
abbrev cX10_text : ByteArray := prog_1_method_12_code
def yX10_text : MethodName := ⟨RX10, "text", "(I)I"⟩
abbrev cX10_fault : ByteArray := prog_1_method_13_code
def yX10_fault : MethodName := ⟨RX10, "fault", "(I)I"⟩
abbrev cX10_remain : ByteArray := prog_1_method_14_code
def yX10_remain : MethodName := ⟨RX10, "remain", "(II)I"⟩
abbrev cX10_kind : ByteArray := prog_1_method_15_code
def yX10_kind : MethodName := ⟨RX10, "kind", "(II)I"⟩
abbrev cX10_left : ByteArray := prog_1_method_16_code
def yX10_left : MethodName := ⟨RX10, "left", "(IIZ)I"⟩
abbrev cX10_want : ByteArray := prog_1_method_17_code
def yX10_want : MethodName := ⟨RX10, "want", "(II)I"⟩
abbrev cX10_book : ByteArray := prog_1_method_18_code
def yX10_book : MethodName := ⟨RX10, "book", "(II)I"⟩
abbrev cX10_goes : ByteArray := prog_1_method_19_code
def yX10_goes : MethodName := ⟨RX10, "goes", "(II)I"⟩
abbrev cX10_joins : ByteArray := prog_1_method_20_code
def yX10_joins : MethodName := ⟨RX10, "joins", "(III)I"⟩
abbrev cX10_most : ByteArray := prog_1_method_21_code
def yX10_most : MethodName := ⟨RX10, "most", "(III)I"⟩
abbrev cX10_piece : ByteArray := prog_1_method_22_code
def yX10_piece : MethodName := ⟨RX10, "piece", "(II)I"⟩
abbrev cX10_cuts : ByteArray := prog_1_method_23_code
def yX10_cuts : MethodName := ⟨RX10, "cuts", "(II)I"⟩
abbrev cX10_stalls : ByteArray := prog_1_method_24_code
def yX10_stalls : MethodName := ⟨RX10, "stalls", "(I)I"⟩
abbrev cX10_test : ByteArray := prog_1_method_25_code
def yX10_test : MethodName := ⟨RX10, "test", "(II)I"⟩
abbrev cX10_forged : ByteArray := prog_1_method_26_code
def yX10_forged : MethodName := ⟨RX10, "forged", "(III)I"⟩
abbrev cX10_lookAt : ByteArray := prog_1_method_27_code
def yX10_lookAt : MethodName := ⟨RX10, "lookAt", "(I)I"⟩
abbrev cX10_crumbs : ByteArray := prog_1_method_28_code
def yX10_crumbs : MethodName := ⟨RX10, "crumbs", "(II)I"⟩
abbrev cX10_cooks : ByteArray := prog_1_method_29_code
def yX10_cooks : MethodName := ⟨RX10, "cooks", "(I)I"⟩
abbrev cX10_waits : ByteArray := prog_1_method_30_code
def yX10_waits : MethodName := ⟨RX10, "waits", "(II)I"⟩
abbrev cX10_limit : ByteArray := prog_1_method_31_code
def yX10_limit : MethodName := ⟨RX10, "limit", "(I)I"⟩
abbrev cX10_dusk : ByteArray := prog_1_method_32_code
def yX10_dusk : MethodName := ⟨RX10, "dusk", "(III)I"⟩
abbrev cX10_trade : ByteArray := prog_1_method_33_code
def yX10_trade : MethodName := ⟨RX10, "trade", "(IIII)I"⟩
abbrev cX10_ring : ByteArray := prog_1_method_34_code
def yX10_ring : MethodName := ⟨RX10, "ring", "(II)I"⟩
abbrev cX10_back : ByteArray := prog_1_method_35_code
def yX10_back : MethodName := ⟨RX10, "back", "(I)I"⟩
abbrev cX10_undo : ByteArray := prog_1_method_36_code
def yX10_undo : MethodName := ⟨RX10, "undo", "()Z"⟩
abbrev cX10_image : ByteArray := prog_1_method_37_code
def yX10_image : MethodName := ⟨RX10, "image", "(Z)Z"⟩
abbrev cX10_look : ByteArray := prog_1_method_38_code
def yX10_look : MethodName := ⟨RX10, "look", "(I)I"⟩
abbrev cX10_lookAtTold : ByteArray := prog_1_method_39_code
def yX10_lookAtTold : MethodName := ⟨RX10, "lookAtTold", "(I)I"⟩
abbrev cX10_tellLines : ByteArray := prog_1_method_40_code
def yX10_tellLines : MethodName := ⟨RX10, "tellLines", "(ILCrustMarket$Rows;)I"⟩
abbrev cX10_within : ByteArray := prog_1_method_41_code
def yX10_within : MethodName := ⟨RX10, "within", "(III)Z"⟩
abbrev cX10_held : ByteArray := prog_1_method_42_code
def yX10_held : MethodName := ⟨RX10, "held", "(III)I"⟩
abbrev cX10_isTradeKind : ByteArray := prog_1_method_43_code
def yX10_isTradeKind : MethodName := ⟨RX10, "isTradeKind", "(I)Z"⟩
abbrev cX10_feastsHeld : ByteArray := prog_1_method_44_code
def yX10_feastsHeld : MethodName := ⟨RX10, "feastsHeld", "(II)I"⟩
abbrev cX10_isIn : ByteArray := prog_1_method_45_code
def yX10_isIn : MethodName := ⟨RX10, "isIn", "(II)Z"⟩
def RX11 : String := "CrustMarketModel"
def TX11 : u_T := fun k => match k with
  | 0 => ("CrustMarketModel", "w", "[I", true)
  | 1 => ("CrustMarketModel", "kept", "[I", true)
  | 2 => ("CrustMarketModel", "back", "[I", true)
  | 3 => ("CrustMarketModel", "lying", "[I", true)
  | 4 => ("CrustMarketModel", "backMany", "I", false)
  | 5 => ("CrustMarketModel", "hasImage", "Z", false)
  | 6 => ("CrustMarketModel", "freshLine", "[I", true)
  | 7 => ("CrustMarketModel", "freshStep", "[I", true)
  | 8 => ("CrustMarketModel", "freshRow", "[I", true)
  | 9 => ("CrustMarketModel", "tape", "[I", true)
  | 10 => ("CrustMarketModel", "pile", "[I", true)
  | 11 => ("CrustMarketModel", "facts", "[I", true)
  | 12 => ("CrustMarketModel", "reading", "I", false)
  | 13 => ("CrustMarketModel", "lines", "I", false)
  | 14 => ("CrustMarketModel", "steps", "I", false)
  | 15 => ("CrustMarketModel", "rows", "I", false)
  | 16 => ("CrustMarketModel", "taped", "I", false)
  | 17 => ("CrustMarketModel", "at", "I", false)
  | 18 => ("CrustMarketModel", "token", "I", false)
  | 19 => ("CrustMarketModel", "tokenAt", "I", false)
  | 20 => ("CrustMarketModel", "value", "I", false)
  | 21 => ("CrustMarketModel", "wrong", "I", false)
  | 22 => ("CrustMarketModel", "wrongAt", "I", false)
  | 23 => ("CrustMarketModel", "faultKind", "I", false)
  | 24 => ("CrustMarketModel", "depth", "I", false)
  | 25 => ("CrustMarketModel", "faultPlace", "I", false)
  | 26 => ("CrustMarketModel", "isTrue", "Z", false)
  | 27 => ("CrustMarketModel", "worthFrom", "[I", true)
  | 28 => ("CrustMarketModel", "stalled", "[I", true)
  | _ => ("CrustMarketModel", "needed", "[I", true)
def tyX11 : Nat → FieldType := fun k => match k with
  | 0 => .array .int
  | 1 => .array .int
  | 2 => .array .int
  | 3 => .array .int
  | 4 => .int
  | 5 => .boolean
  | 6 => .array .int
  | 7 => .array .int
  | 8 => .array .int
  | 9 => .array .int
  | 10 => .array .int
  | 11 => .array .int
  | 12 => .int
  | 13 => .int
  | 14 => .int
  | 15 => .int
  | 16 => .int
  | 17 => .int
  | 18 => .int
  | 19 => .int
  | 20 => .int
  | 21 => .int
  | 22 => .int
  | 23 => .int
  | 24 => .int
  | 25 => .int
  | 26 => .boolean
  | 27 => .array .int
  | 28 => .array .int
  | _ => .array .int
abbrev wsX110 : List Cond := u_ws RX11 TX11 30
theorem nmX11 : ∀ a, a < 30 → ∀ b, b < 30 → a ≠ b → (TX11 a).2.1 ≠ (TX11 b).2.1 := by decide +kernel
theorem tyX11_ok : ∀ k, k < 30 → parseFieldDescriptor (TX11 k).2.2.1 = some (tyX11 k) := by decide +kernel
abbrev cX11_init : ByteArray := prog_13_method_1_code
def yX11_init : MethodName := ⟨RX11, "<init>", "()V"⟩
abbrev cX11_isIn : ByteArray := prog_13_method_2_code
def yX11_isIn : MethodName := ⟨RX11, "isIn", "(III)Z"⟩
abbrev cX11_lesser : ByteArray := prog_13_method_3_code
def yX11_lesser : MethodName := ⟨RX11, "lesser", "(II)I"⟩
abbrev cX11_greater : ByteArray := prog_13_method_4_code
def yX11_greater : MethodName := ⟨RX11, "greater", "(II)I"⟩
abbrev cX11_isKind : ByteArray := prog_13_method_5_code
def yX11_isKind : MethodName := ⟨RX11, "isKind", "(I)Z"⟩
abbrev cX11_isRemain : ByteArray := prog_13_method_6_code
def yX11_isRemain : MethodName := ⟨RX11, "isRemain", "(I)Z"⟩
abbrev cX11_ofRemain : ByteArray := prog_13_method_7_code
def yX11_ofRemain : MethodName := ⟨RX11, "ofRemain", "(II)I"⟩
abbrev cX11_wholeOf : ByteArray := prog_13_method_8_code
def yX11_wholeOf : MethodName := ⟨RX11, "wholeOf", "(I)I"⟩
abbrev cX11_keepsOf : ByteArray := prog_13_method_9_code
def yX11_keepsOf : MethodName := ⟨RX11, "keepsOf", "(I)I"⟩
abbrev cX11_ageOf : ByteArray := prog_13_method_10_code
def yX11_ageOf : MethodName := ⟨RX11, "ageOf", "(I)I"⟩
abbrev cX11_count : ByteArray := prog_13_method_11_code
def yX11_count : MethodName := ⟨RX11, "count", "(I)I"⟩
abbrev cX11_forgets : ByteArray := prog_13_method_12_code
def yX11_forgets : MethodName := ⟨RX11, "forgets", "()V"⟩
abbrev cX11_state : ByteArray := prog_13_method_13_code
def yX11_state : MethodName := ⟨RX11, "state", "(I)I"⟩
abbrev cX11_draw : ByteArray := prog_13_method_14_code
def yX11_draw : MethodName := ⟨RX11, "draw", "(I)I"⟩
abbrev cX11_set : ByteArray := prog_13_method_15_code
def yX11_set : MethodName := ⟨RX11, "set", "(II)Z"⟩
abbrev cX11_feed : ByteArray := prog_13_method_16_code
def yX11_feed : MethodName := ⟨RX11, "feed", "(IIIII)I"⟩
abbrev cX11_end : ByteArray := prog_13_method_17_code
def yX11_end : MethodName := ⟨RX11, "end", "(I)Z"⟩
abbrev cX11_see : ByteArray := prog_13_method_18_code
def yX11_see : MethodName := ⟨RX11, "see", "(I)I"⟩
abbrev cX11_isLetter : ByteArray := prog_13_method_19_code
def yX11_isLetter : MethodName := ⟨RX11, "isLetter", "(I)Z"⟩
abbrev cX11_isDigit : ByteArray := prog_13_method_20_code
def yX11_isDigit : MethodName := ⟨RX11, "isDigit", "(I)Z"⟩
abbrev cX11_is : ByteArray := prog_13_method_21_code
def yX11_is : MethodName := ⟨RX11, "is", "(Ljava/lang/String;)Z"⟩
abbrev cX11_asked : ByteArray := prog_13_method_22_code
def yX11_asked : MethodName := ⟨RX11, "asked", "()I"⟩
abbrev cX11_lawWord : ByteArray := prog_13_method_23_code
def yX11_lawWord : MethodName := ⟨RX11, "lawWord", "()I"⟩
abbrev cX11_kindWord : ByteArray := prog_13_method_24_code
def yX11_kindWord : MethodName := ⟨RX11, "kindWord", "()I"⟩
abbrev cX11_feastWord : ByteArray := prog_13_method_25_code
def yX11_feastWord : MethodName := ⟨RX11, "feastWord", "()I"⟩
abbrev cX11_wantWord : ByteArray := prog_13_method_26_code
def yX11_wantWord : MethodName := ⟨RX11, "wantWord", "()I"⟩
abbrev cX11_word : ByteArray := prog_13_method_27_code
def yX11_word : MethodName := ⟨RX11, "word", "()I"⟩
abbrev cX11_next0 : ByteArray := prog_13_method_28_code
def yX11_next0 : MethodName := ⟨RX11, "next0", "()V"⟩
abbrev cX11_bad : ByteArray := prog_13_method_29_code
def yX11_bad : MethodName := ⟨RX11, "bad", "(I)Z"⟩
abbrev cX11_need : ByteArray := prog_13_method_30_code
def yX11_need : MethodName := ⟨RX11, "need", "(I)Z"⟩
abbrev cX11_lay : ByteArray := prog_13_method_31_code
def yX11_lay : MethodName := ⟨RX11, "lay", "(II)V"⟩
abbrev cX11_opens : ByteArray := prog_13_method_32_code
def yX11_opens : MethodName := ⟨RX11, "opens", "()Z"⟩
abbrev cX11_sumUp : ByteArray := prog_13_method_33_code
def yX11_sumUp : MethodName := ⟨RX11, "sumUp", "()Z"⟩
abbrev cX11_product : ByteArray := prog_13_method_34_code
def yX11_product : MethodName := ⟨RX11, "product", "()Z"⟩
abbrev cX11_unit : ByteArray := prog_13_method_35_code
def yX11_unit : MethodName := ⟨RX11, "unit", "()Z"⟩
abbrev cX11_any : ByteArray := prog_13_method_36_code
def yX11_any : MethodName := ⟨RX11, "any", "()Z"⟩
abbrev cX11_every : ByteArray := prog_13_method_37_code
def yX11_every : MethodName := ⟨RX11, "every", "()Z"⟩
abbrev cX11_oneTest : ByteArray := prog_13_method_38_code
def yX11_oneTest : MethodName := ⟨RX11, "oneTest", "()Z"⟩
abbrev cX11_aLine : ByteArray := prog_13_method_39_code
def yX11_aLine : MethodName := ⟨RX11, "aLine", "()Z"⟩
abbrev cX11_readsLaw : ByteArray := prog_13_method_40_code
def yX11_readsLaw : MethodName := ⟨RX11, "readsLaw", "()Z"⟩
abbrev cX11_number : ByteArray := prog_13_method_41_code
def yX11_number : MethodName := ⟨RX11, "number", "(III)Z"⟩
abbrev cX11_told : ByteArray := prog_13_method_42_code
def yX11_told : MethodName := ⟨RX11, "told", "(IIII)Z"⟩
abbrev cX11_aKind : ByteArray := prog_13_method_43_code
def yX11_aKind : MethodName := ⟨RX11, "aKind", "()Z"⟩
abbrev cX11_aFeast : ByteArray := prog_13_method_44_code
def yX11_aFeast : MethodName := ⟨RX11, "aFeast", "()Z"⟩
abbrev cX11_aWant : ByteArray := prog_13_method_45_code
def yX11_aWant : MethodName := ⟨RX11, "aWant", "()Z"⟩
abbrev cX11_aDish : ByteArray := prog_13_method_46_code
def yX11_aDish : MethodName := ⟨RX11, "aDish", "()Z"⟩
abbrev cX11_aRow : ByteArray := prog_13_method_47_code
def yX11_aRow : MethodName := ⟨RX11, "aRow", "()Z"⟩
abbrev cX11_readsRows : ByteArray := prog_13_method_48_code
def yX11_readsRows : MethodName := ⟨RX11, "readsRows", "()Z"⟩
abbrev cX11_putsLaw : ByteArray := prog_13_method_49_code
def yX11_putsLaw : MethodName := ⟨RX11, "putsLaw", "()I"⟩
abbrev cX11_puts : ByteArray := prog_13_method_50_code
def yX11_puts : MethodName := ⟨RX11, "puts", "(III)I"⟩
abbrev cX11_putsKinds : ByteArray := prog_13_method_51_code
def yX11_putsKinds : MethodName := ⟨RX11, "putsKinds", "()I"⟩
abbrev cX11_putsText : ByteArray := prog_13_method_52_code
def yX11_putsText : MethodName := ⟨RX11, "putsText", "(I)I"⟩
abbrev cX11_text : ByteArray := prog_13_method_53_code
def yX11_text : MethodName := ⟨RX11, "text", "(I)I"⟩
abbrev cX11_fault : ByteArray := prog_13_method_54_code
def yX11_fault : MethodName := ⟨RX11, "fault", "(I)I"⟩
abbrev cX11_both : ByteArray := prog_13_method_55_code
def yX11_both : MethodName := ⟨RX11, "both", "(III)I"⟩
abbrev cX11_comesTo : ByteArray := prog_13_method_56_code
def yX11_comesTo : MethodName := ⟨RX11, "comesTo", "(III)I"⟩
abbrev cX11_isSo : ByteArray := prog_13_method_57_code
def yX11_isSo : MethodName := ⟨RX11, "isSo", "(I)Z"⟩
abbrev cX11_says : ByteArray := prog_13_method_58_code
def yX11_says : MethodName := ⟨RX11, "says", "(III)I"⟩
abbrev cX11_laysFeast : ByteArray := prog_13_method_59_code
def yX11_laysFeast : MethodName := ⟨RX11, "laysFeast", "(II)V"⟩
abbrev cX11_leftOf : ByteArray := prog_13_method_60_code
def yX11_leftOf : MethodName := ⟨RX11, "leftOf", "(II)I"⟩
abbrev cX11_edgeOf : ByteArray := prog_13_method_61_code
def yX11_edgeOf : MethodName := ⟨RX11, "edgeOf", "(II)I"⟩
abbrev cX11_laysRemain : ByteArray := prog_13_method_62_code
def yX11_laysRemain : MethodName := ⟨RX11, "laysRemain", "(II)V"⟩
abbrev cX11_priceOf : ByteArray := prog_13_method_63_code
def yX11_priceOf : MethodName := ⟨RX11, "priceOf", "(II)I"⟩
abbrev cX11_spoilOf : ByteArray := prog_13_method_64_code
def yX11_spoilOf : MethodName := ⟨RX11, "spoilOf", "(I)I"⟩
abbrev cX11_keeps : ByteArray := prog_13_method_65_code
def yX11_keeps : MethodName := ⟨RX11, "keeps", "()V"⟩
abbrev cX11_undo : ByteArray := prog_13_method_66_code
def yX11_undo : MethodName := ⟨RX11, "undo", "()Z"⟩
abbrev cX11_notes : ByteArray := prog_13_method_67_code
def yX11_notes : MethodName := ⟨RX11, "notes", "(III)V"⟩
abbrev cX11_comes : ByteArray := prog_13_method_68_code
def yX11_comes : MethodName := ⟨RX11, "comes", "(IIIII)I"⟩
abbrev cX11_goesAway : ByteArray := prog_13_method_69_code
def yX11_goesAway : MethodName := ⟨RX11, "goesAway", "(I)V"⟩
abbrev cX11_feasts : ByteArray := prog_13_method_70_code
def yX11_feasts : MethodName := ⟨RX11, "feasts", "(II)I"⟩
abbrev cX11_feast : ByteArray := prog_13_method_71_code
def yX11_feast : MethodName := ⟨RX11, "feast", "(II)I"⟩
abbrev cX11_forge : ByteArray := prog_13_method_72_code
def yX11_forge : MethodName := ⟨RX11, "forge", "(II)I"⟩
abbrev cX11_cut : ByteArray := prog_13_method_73_code
def yX11_cut : MethodName := ⟨RX11, "cut", "(II)I"⟩
abbrev cX11_joined : ByteArray := prog_13_method_74_code
def yX11_joined : MethodName := ⟨RX11, "joined", "(I)I"⟩
abbrev cX11_join : ByteArray := prog_13_method_75_code
def yX11_join : MethodName := ⟨RX11, "join", "(II)I"⟩
abbrev cX11_sell : ByteArray := prog_13_method_76_code
def yX11_sell : MethodName := ⟨RX11, "sell", "(I)I"⟩
abbrev cX11_sumOf : ByteArray := prog_13_method_77_code
def yX11_sumOf : MethodName := ⟨RX11, "sumOf", "(I)I"⟩
abbrev cX11_placesOf : ByteArray := prog_13_method_78_code
def yX11_placesOf : MethodName := ⟨RX11, "placesOf", "(I)I"⟩
abbrev cX11_doesFor : ByteArray := prog_13_method_79_code
def yX11_doesFor : MethodName := ⟨RX11, "doesFor", "(II)Z"⟩
abbrev cX11_joinsOf : ByteArray := prog_13_method_80_code
def yX11_joinsOf : MethodName := ⟨RX11, "joinsOf", "(II)I"⟩
abbrev cX11_joins : ByteArray := prog_13_method_81_code
def yX11_joins : MethodName := ⟨RX11, "joins", "(III)I"⟩
abbrev cX11_ofWant : ByteArray := prog_13_method_82_code
def yX11_ofWant : MethodName := ⟨RX11, "ofWant", "(II)I"⟩
abbrev cX11_isMet : ByteArray := prog_13_method_83_code
def yX11_isMet : MethodName := ⟨RX11, "isMet", "(I)Z"⟩
abbrev cX11_meetsWants : ByteArray := prog_13_method_84_code
def yX11_meetsWants : MethodName := ⟨RX11, "meetsWants", "()I"⟩
abbrev cX11_isSpoilt : ByteArray := prog_13_method_85_code
def yX11_isSpoilt : MethodName := ⟨RX11, "isSpoilt", "(I)Z"⟩
abbrev cX11_spoils : ByteArray := prog_13_method_86_code
def yX11_spoils : MethodName := ⟨RX11, "spoils", "()V"⟩
abbrev cX11_inspects : ByteArray := prog_13_method_87_code
def yX11_inspects : MethodName := ⟨RX11, "inspects", "()V"⟩
abbrev cX11_dogs : ByteArray := prog_13_method_88_code
def yX11_dogs : MethodName := ⟨RX11, "dogs", "()V"⟩
abbrev cX11_morning : ByteArray := prog_13_method_89_code
def yX11_morning : MethodName := ⟨RX11, "morning", "()I"⟩
abbrev cX11_evening : ByteArray := prog_13_method_90_code
def yX11_evening : MethodName := ⟨RX11, "evening", "()V"⟩
abbrev cX11_days : ByteArray := prog_13_method_91_code
def yX11_days : MethodName := ⟨RX11, "days", "(I)I"⟩
abbrev cX11_remain : ByteArray := prog_13_method_92_code
def yX11_remain : MethodName := ⟨RX11, "remain", "(II)I"⟩
abbrev cX11_kind : ByteArray := prog_13_method_93_code
def yX11_kind : MethodName := ⟨RX11, "kind", "(II)I"⟩
abbrev cX11_left : ByteArray := prog_13_method_94_code
def yX11_left : MethodName := ⟨RX11, "left", "(IIZ)I"⟩
abbrev cX11_want : ByteArray := prog_13_method_95_code
def yX11_want : MethodName := ⟨RX11, "want", "(II)I"⟩
abbrev cX11_book : ByteArray := prog_13_method_96_code
def yX11_book : MethodName := ⟨RX11, "book", "(II)I"⟩
abbrev cX11_firstMissed : ByteArray := prog_13_method_97_code
def yX11_firstMissed : MethodName := ⟨RX11, "firstMissed", "()I"⟩
abbrev cX11_goes : ByteArray := prog_13_method_98_code
def yX11_goes : MethodName := ⟨RX11, "goes", "(II)I"⟩
abbrev cX11_mostGuests : ByteArray := prog_13_method_99_code
def yX11_mostGuests : MethodName := ⟨RX11, "mostGuests", "(I)I"⟩
abbrev cX11_holds : ByteArray := prog_13_method_100_code
def yX11_holds : MethodName := ⟨RX11, "holds", "(II)I"⟩
abbrev cX11_most : ByteArray := prog_13_method_101_code
def yX11_most : MethodName := ⟨RX11, "most", "(III)I"⟩
abbrev cX11_piece : ByteArray := prog_13_method_102_code
def yX11_piece : MethodName := ⟨RX11, "piece", "(II)I"⟩
abbrev cX11_laysCuts : ByteArray := prog_13_method_103_code
def yX11_laysCuts : MethodName := ⟨RX11, "laysCuts", "(I)V"⟩
abbrev cX11_cuts : ByteArray := prog_13_method_104_code
def yX11_cuts : MethodName := ⟨RX11, "cuts", "(II)I"⟩
abbrev cX11_stalls : ByteArray := prog_13_method_105_code
def yX11_stalls : MethodName := ⟨RX11, "stalls", "(I)I"⟩
abbrev cX11_test : ByteArray := prog_13_method_106_code
def yX11_test : MethodName := ⟨RX11, "test", "(II)I"⟩
abbrev cX11_byTest : ByteArray := prog_13_method_107_code
def yX11_byTest : MethodName := ⟨RX11, "byTest", "(JIZ)J"⟩
abbrev cX11_areTests : ByteArray := prog_13_method_108_code
def yX11_areTests : MethodName := ⟨RX11, "areTests", "(I)Z"⟩
abbrev cX11_forged : ByteArray := prog_13_method_109_code
def yX11_forged : MethodName := ⟨RX11, "forged", "(III)I"⟩
abbrev cX11_lookAt : ByteArray := prog_13_method_110_code
def yX11_lookAt : MethodName := ⟨RX11, "lookAt", "(I)I"⟩
abbrev cX11_linesLeaving : ByteArray := prog_13_method_111_code
def yX11_linesLeaving : MethodName := ⟨RX11, "linesLeaving", "(I)I"⟩
abbrev cX11_greaterPart : ByteArray := prog_13_method_112_code
def yX11_greaterPart : MethodName := ⟨RX11, "greaterPart", "(II)I"⟩
abbrev cX11_crumbs : ByteArray := prog_13_method_113_code
def yX11_crumbs : MethodName := ⟨RX11, "crumbs", "(II)I"⟩
abbrev cX11_cookedOf : ByteArray := prog_13_method_114_code
def yX11_cookedOf : MethodName := ⟨RX11, "cookedOf", "(I)I"⟩
abbrev cX11_cooks : ByteArray := prog_13_method_115_code
def yX11_cooks : MethodName := ⟨RX11, "cooks", "(I)I"⟩
abbrev cX11_waits : ByteArray := prog_13_method_116_code
def yX11_waits : MethodName := ⟨RX11, "waits", "(II)I"⟩
abbrev cX11_limit : ByteArray := prog_13_method_117_code
def yX11_limit : MethodName := ⟨RX11, "limit", "(I)I"⟩
abbrev cX11_takerAt : ByteArray := prog_13_method_118_code
def yX11_takerAt : MethodName := ⟨RX11, "takerAt", "(I)I"⟩
abbrev cX11_dusk : ByteArray := prog_13_method_119_code
def yX11_dusk : MethodName := ⟨RX11, "dusk", "(III)I"⟩
abbrev cX11_isOne : ByteArray := prog_13_method_120_code
def yX11_isOne : MethodName := ⟨RX11, "isOne", "(I)Z"⟩
abbrev cX11_trade : ByteArray := prog_13_method_121_code
def yX11_trade : MethodName := ⟨RX11, "trade", "(IIII)I"⟩
abbrev cX11_ring : ByteArray := prog_13_method_122_code
def yX11_ring : MethodName := ⟨RX11, "ring", "(II)I"⟩
abbrev cX11_backFrom : ByteArray := prog_13_method_123_code
def yX11_backFrom : MethodName := ⟨RX11, "backFrom", "(IIIJJ)I"⟩
abbrev cX11_back : ByteArray := prog_13_method_124_code
def yX11_back : MethodName := ⟨RX11, "back", "(I)I"⟩
abbrev cX11_image : ByteArray := prog_13_method_125_code
def yX11_image : MethodName := ⟨RX11, "image", "(Z)Z"⟩
abbrev cX11_look : ByteArray := prog_13_method_126_code
def yX11_look : MethodName := ⟨RX11, "look", "(I)I"⟩
def RJ6 : String := "java/lang/Integer"
def TJ6 : u_T := fun k => match k with
  | _ => ("", "", "", false)
def tyJ6 : Nat → FieldType := fun k => match k with
  | _ => .int
abbrev wsJ60 : List Cond := u_ws RJ6 TJ6 0
theorem nmJ6 : ∀ a, a < 0 → ∀ b, b < 0 → a ≠ b → (TJ6 a).2.1 ≠ (TJ6 b).2.1 := by decide +kernel
theorem tyJ6_ok : ∀ k, k < 0 → parseFieldDescriptor (TJ6 k).2.2.1 = some (tyJ6 k) := by decide +kernel
abbrev cJ6_bitCount_0f7a4 : ByteArray := prog_14_method_49_code
def yJ6_bitCount_0f7a4 : MethodName := ⟨RJ6, "bitCount", "(I)I"⟩
def RJ9 : String := "java/lang/Math"
def TJ9 : u_T := fun k => match k with
  | _ => ("", "", "", false)
def tyJ9 : Nat → FieldType := fun k => match k with
  | _ => .int
abbrev wsJ90 : List Cond := u_ws RJ9 TJ9 0
theorem nmJ9 : ∀ a, a < 0 → ∀ b, b < 0 → a ≠ b → (TJ9 a).2.1 ≠ (TJ9 b).2.1 := by decide +kernel
theorem tyJ9_ok : ∀ k, k < 0 → parseFieldDescriptor (TJ9 k).2.2.1 = some (tyJ9 k) := by decide +kernel
abbrev cJ9_max_7cf53 : ByteArray := prog_15_method_65_code
def yJ9_max_7cf53 : MethodName := ⟨RJ9, "max", "(II)I"⟩
abbrev cJ9_min_7cf53 : ByteArray := prog_15_method_69_code
def yJ9_min_7cf53 : MethodName := ⟨RJ9, "min", "(II)I"⟩
def RJ0 : String := "java/lang/String"
def TJ0 : u_T := fun k => match k with
  | _ => ("", "", "", false)
def tyJ0 : Nat → FieldType := fun k => match k with
  | _ => .int
abbrev wsJ00 : List Cond := u_ws RJ0 TJ0 0
theorem nmJ0 : ∀ a, a < 0 → ∀ b, b < 0 → a ≠ b → (TJ0 a).2.1 ≠ (TJ0 b).2.1 := by decide +kernel
theorem tyJ0_ok : ∀ k, k < 0 → parseFieldDescriptor (TJ0 k).2.2.1 = some (tyJ0 k) := by decide +kernel
abbrev cJ0_length_8abf5 : ByteArray := prog_16_method_54_code
def yJ0_length_8abf5 : MethodName := ⟨RJ0, "length", "()I"⟩
abbrev cJ0_charAt_5068e : ByteArray := prog_16_method_56_code
def yJ0_charAt_5068e : MethodName := ⟨RJ0, "charAt", "(I)C"⟩
abbrev cJ0_coder_7d493 : ByteArray := prog_16_method_152_code
def yJ0_coder_7d493 : MethodName := ⟨RJ0, "coder", "()B"⟩
abbrev cJ0_isLatin1_aae02 : ByteArray := prog_16_method_154_code
def yJ0_isLatin1_aae02 : MethodName := ⟨RJ0, "isLatin1", "()Z"⟩
abbrev cJ0_checkIndex_df160 : ByteArray := prog_16_method_155_code
def yJ0_checkIndex_df160 : MethodName := ⟨RJ0, "checkIndex", "(II)V"⟩
def RJ1 : String := "java/lang/StringLatin1"
def TJ1 : u_T := fun k => match k with
  | _ => ("", "", "", false)
def tyJ1 : Nat → FieldType := fun k => match k with
  | _ => .int
abbrev wsJ10 : List Cond := u_ws RJ1 TJ1 0
theorem nmJ1 : ∀ a, a < 0 → ∀ b, b < 0 → a ≠ b → (TJ1 a).2.1 ≠ (TJ1 b).2.1 := by decide +kernel
theorem tyJ1_ok : ∀ k, k < 0 → parseFieldDescriptor (TJ1 k).2.2.1 = some (tyJ1 k) := by decide +kernel
abbrev cJ1_charAt_3b067 : ByteArray := prog_17_method_2_code
def yJ1_charAt_3b067 : MethodName := ⟨RJ1, "charAt", "([BI)C"⟩
def RJ2 : String := "java/lang/StringUTF16"
def TJ2 : u_T := fun k => match k with
  | _ => ("", "", "", false)
def tyJ2 : Nat → FieldType := fun k => match k with
  | _ => .int
abbrev wsJ20 : List Cond := u_ws RJ2 TJ2 0
theorem nmJ2 : ∀ a, a < 0 → ∀ b, b < 0 → a ≠ b → (TJ2 a).2.1 ≠ (TJ2 b).2.1 := by decide +kernel
theorem tyJ2_ok : ∀ k, k < 0 → parseFieldDescriptor (TJ2 k).2.2.1 = some (tyJ2 k) := by decide +kernel
abbrev cJ2_getChar_3b067 : ByteArray := prog_18_method_5_code
def yJ2_getChar_3b067 : MethodName := ⟨RJ2, "getChar", "([BI)C"⟩
abbrev cJ2_length_9d52b : ByteArray := prog_18_method_6_code
def yJ2_length_9d52b : MethodName := ⟨RJ2, "length", "([B)I"⟩
abbrev cJ2_charAt_3b067 : ByteArray := prog_18_method_83_code
def yJ2_charAt_3b067 : MethodName := ⟨RJ2, "charAt", "([BI)C"⟩
abbrev cJ2_checkIndex_2214a : ByteArray := prog_18_method_91_code
def yJ2_checkIndex_2214a : MethodName := ⟨RJ2, "checkIndex", "(I[B)V"⟩
def RJ10 : String := "java/lang/System"
def TJ10 : u_T := fun k => match k with
  | _ => ("", "", "", false)
def tyJ10 : Nat → FieldType := fun k => match k with
  | _ => .int
abbrev wsJ100 : List Cond := u_ws RJ10 TJ10 0
theorem nmJ10 : ∀ a, a < 0 → ∀ b, b < 0 → a ≠ b → (TJ10 a).2.1 ≠ (TJ10 b).2.1 := by decide +kernel
theorem tyJ10_ok : ∀ k, k < 0 → parseFieldDescriptor (TJ10 k).2.2.1 = some (tyJ10 k) := by decide +kernel
def RJ3 : String := "jdk/internal/util/Preconditions"
def TJ3 : u_T := fun k => match k with
  | _ => ("", "", "", false)
def tyJ3 : Nat → FieldType := fun k => match k with
  | _ => .int
abbrev wsJ30 : List Cond := u_ws RJ3 TJ3 0
theorem nmJ3 : ∀ a, a < 0 → ∀ b, b < 0 → a ≠ b → (TJ3 a).2.1 ≠ (TJ3 b).2.1 := by decide +kernel
theorem tyJ3_ok : ∀ k, k < 0 → parseFieldDescriptor (TJ3 k).2.2.1 = some (tyJ3 k) := by decide +kernel
abbrev cJ3_checkIndex_8e157 : ByteArray := prog_20_method_11_code
def yJ3_checkIndex_8e157 : MethodName := ⟨RJ3, "checkIndex", "(IILjava/util/function/BiFunction;)I"⟩
def RL : String := "CrustMarketLaw"
abbrev cL_law : ByteArray := code
def yL_law : MethodName := ⟨RL, "law", "([I)Z"⟩
abbrev vwCl : List vw_C := [(RX0, TX0, 5), (RX1, TX1, 7), (RX2, TX2, 9), (RX3, TX3, 2), (RX4, TX4, 1), (RX5, TX5, 6), (RX6, TX6, 16), (RX7, TX7, 4), (RX8, TX8, 4), (RX9, TX9, 9), (RX10, TX10, 11), (RX11, TX11, 30)]
set_option maxRecDepth 20000 in
theorem inX0 : ∀ w ∈ wsX00, w ∈ lw_tbl := fun w h => (goodIn_p (big := lw_tbl) wsX00 [] rfl (by decide +kernel) w h).1
set_option maxRecDepth 20000 in
theorem inX1 : ∀ w ∈ wsX10, w ∈ lw_tbl := fun w h => (goodIn_p (big := lw_tbl) wsX10 [] rfl (by decide +kernel) w h).1
set_option maxRecDepth 20000 in
theorem inX2 : ∀ w ∈ wsX20, w ∈ lw_tbl := fun w h => (goodIn_p (big := lw_tbl) wsX20 [] rfl (by decide +kernel) w h).1
set_option maxRecDepth 20000 in
theorem inX3 : ∀ w ∈ wsX30, w ∈ lw_tbl := fun w h => (goodIn_p (big := lw_tbl) wsX30 [] rfl (by decide +kernel) w h).1
set_option maxRecDepth 20000 in
theorem inX4 : ∀ w ∈ wsX40, w ∈ lw_tbl := fun w h => (goodIn_p (big := lw_tbl) wsX40 [] rfl (by decide +kernel) w h).1
set_option maxRecDepth 20000 in
theorem inX5 : ∀ w ∈ wsX50, w ∈ lw_tbl := fun w h => (goodIn_p (big := lw_tbl) wsX50 [] rfl (by decide +kernel) w h).1
set_option maxRecDepth 20000 in
theorem inX6 : ∀ w ∈ wsX60, w ∈ lw_tbl := fun w h => (goodIn_p (big := lw_tbl) wsX60 [] rfl (by decide +kernel) w h).1
set_option maxRecDepth 20000 in
theorem inX7 : ∀ w ∈ wsX70, w ∈ lw_tbl := fun w h => (goodIn_p (big := lw_tbl) wsX70 [] rfl (by decide +kernel) w h).1
set_option maxRecDepth 20000 in
theorem inX8 : ∀ w ∈ wsX80, w ∈ lw_tbl := fun w h => (goodIn_p (big := lw_tbl) wsX80 [] rfl (by decide +kernel) w h).1
set_option maxRecDepth 20000 in
theorem inX9 : ∀ w ∈ wsX90, w ∈ lw_tbl := fun w h => (goodIn_p (big := lw_tbl) wsX90 [] rfl (by decide +kernel) w h).1
set_option maxRecDepth 20000 in
theorem inX10 : ∀ w ∈ wsX100, w ∈ lw_tbl := fun w h => (goodIn_p (big := lw_tbl) wsX100 [] rfl (by decide +kernel) w h).1
set_option maxRecDepth 20000 in
theorem inX11 : ∀ w ∈ wsX110, w ∈ lw_tbl := fun w h => (goodIn_p (big := lw_tbl) wsX110 [] rfl (by decide +kernel) w h).1
