section
-- ===== PART A: goes FIRST, ahead of the names: the tables' words, and 'selects' of the private methods out of them =====
/-- a private method of a class that the tables say can be made, by its rows of tables_1 -/
def lw_okq (q : MethodName × Nat) : Prop := (q.1.cls ≠ "java/lang/invoke/MethodHandle" ∧ q.1.cls ≠ "java/lang/invoke/VarHandle") ∧ Cond.instantiable q.1.cls q.2 ∈ tables_1 ∧ Cond.privateMethod q.1 ∈ tables_1 ∧ Cond.instanceMethod q.1 ∈ tables_1
theorem lw_p0 : lw_okq (⟨"DriftSea$Sea", "fillRow", "(II)V"⟩, 2) := ⟨⟨by decide +kernel, by decide +kernel⟩, List.mem_of_getElem? (i := 53) (by decide +kernel), List.mem_of_getElem? (i := 437) (by decide +kernel), List.mem_of_getElem? (i := 438) (by decide +kernel)⟩
theorem lw_p1 : lw_okq (⟨"DriftSea$Sea", "readClause", "(LDriftSea$Tape;)Z"⟩, 2) := ⟨⟨by decide +kernel, by decide +kernel⟩, List.mem_of_getElem? (i := 53) (by decide +kernel), List.mem_of_getElem? (i := 450) (by decide +kernel), List.mem_of_getElem? (i := 451) (by decide +kernel)⟩
theorem lw_p2 : lw_okq (⟨"DriftSea$Sea", "readItem", "(LDriftSea$Tape;II)Z"⟩, 2) := ⟨⟨by decide +kernel, by decide +kernel⟩, List.mem_of_getElem? (i := 53) (by decide +kernel), List.mem_of_getElem? (i := 577) (by decide +kernel), List.mem_of_getElem? (i := 578) (by decide +kernel)⟩
theorem lw_p3 : lw_okq (⟨"DriftSea$Tape", "isDigitHere", "()Z"⟩, 3) := ⟨⟨by decide +kernel, by decide +kernel⟩, List.mem_of_getElem? (i := 36) (by decide +kernel), List.mem_of_getElem? (i := 586) (by decide +kernel), List.mem_of_getElem? (i := 587) (by decide +kernel)⟩
theorem lw_p4 : lw_okq (⟨"DriftSea$Sea", "isWhole", "()Z"⟩, 2) := ⟨⟨by decide +kernel, by decide +kernel⟩, List.mem_of_getElem? (i := 53) (by decide +kernel), List.mem_of_getElem? (i := 603) (by decide +kernel), List.mem_of_getElem? (i := 604) (by decide +kernel)⟩
theorem lw_p5 : lw_okq (⟨"DriftSea$Sea", "areToldTwo", "(II)Z"⟩, 2) := ⟨⟨by decide +kernel, by decide +kernel⟩, List.mem_of_getElem? (i := 53) (by decide +kernel), List.mem_of_getElem? (i := 619) (by decide +kernel), List.mem_of_getElem? (i := 620) (by decide +kernel)⟩
theorem lw_p6 : lw_okq (⟨"DriftSea$Rule", "readClause", "(LDriftSea$Tape;)Z"⟩, 3) := ⟨⟨by decide +kernel, by decide +kernel⟩, List.mem_of_getElem? (i := 67) (by decide +kernel), List.mem_of_getElem? (i := 644) (by decide +kernel), List.mem_of_getElem? (i := 645) (by decide +kernel)⟩
theorem lw_p7 : lw_okq (⟨"DriftSea$Rule", "readSum", "(LDriftSea$Tape;I)Z"⟩, 3) := ⟨⟨by decide +kernel, by decide +kernel⟩, List.mem_of_getElem? (i := 67) (by decide +kernel), List.mem_of_getElem? (i := 650) (by decide +kernel), List.mem_of_getElem? (i := 651) (by decide +kernel)⟩
theorem lw_p8 : lw_okq (⟨"DriftSea$Rule", "readTerm", "(LDriftSea$Tape;I)Z"⟩, 3) := ⟨⟨by decide +kernel, by decide +kernel⟩, List.mem_of_getElem? (i := 67) (by decide +kernel), List.mem_of_getElem? (i := 654) (by decide +kernel), List.mem_of_getElem? (i := 655) (by decide +kernel)⟩
theorem lw_p9 : lw_okq (⟨"DriftSea$Rule", "readAtom", "(LDriftSea$Tape;I)Z"⟩, 3) := ⟨⟨by decide +kernel, by decide +kernel⟩, List.mem_of_getElem? (i := 67) (by decide +kernel), List.mem_of_getElem? (i := 658) (by decide +kernel), List.mem_of_getElem? (i := 659) (by decide +kernel)⟩
theorem lw_p10 : lw_okq (⟨"DriftSea$Rule", "put", "(I)V"⟩, 3) := ⟨⟨by decide +kernel, by decide +kernel⟩, List.mem_of_getElem? (i := 67) (by decide +kernel), List.mem_of_getElem? (i := 667) (by decide +kernel), List.mem_of_getElem? (i := 668) (by decide +kernel)⟩
theorem lw_p11 : lw_okq (⟨"DriftSea$Rule", "readBracket", "(LDriftSea$Tape;I)Z"⟩, 3) := ⟨⟨by decide +kernel, by decide +kernel⟩, List.mem_of_getElem? (i := 67) (by decide +kernel), List.mem_of_getElem? (i := 671) (by decide +kernel), List.mem_of_getElem? (i := 672) (by decide +kernel)⟩
theorem lw_p12 : lw_okq (⟨"DriftSea$Rule", "readCondition", "(LDriftSea$Tape;IZ)Z"⟩, 3) := ⟨⟨by decide +kernel, by decide +kernel⟩, List.mem_of_getElem? (i := 67) (by decide +kernel), List.mem_of_getElem? (i := 681) (by decide +kernel), List.mem_of_getElem? (i := 682) (by decide +kernel)⟩
theorem lw_p13 : lw_okq (⟨"DriftSea$Rule", "readTruth", "(LDriftSea$Tape;IZ)Z"⟩, 3) := ⟨⟨by decide +kernel, by decide +kernel⟩, List.mem_of_getElem? (i := 67) (by decide +kernel), List.mem_of_getElem? (i := 685) (by decide +kernel), List.mem_of_getElem? (i := 686) (by decide +kernel)⟩
theorem lw_p14 : lw_okq (⟨"DriftSea$Rule", "readUnit", "(LDriftSea$Tape;IZ)Z"⟩, 3) := ⟨⟨by decide +kernel, by decide +kernel⟩, List.mem_of_getElem? (i := 67) (by decide +kernel), List.mem_of_getElem? (i := 689) (by decide +kernel), List.mem_of_getElem? (i := 690) (by decide +kernel)⟩
theorem lw_p15 : lw_okq (⟨"DriftSea$Rule", "readNested", "(LDriftSea$Tape;II)Z"⟩, 3) := ⟨⟨by decide +kernel, by decide +kernel⟩, List.mem_of_getElem? (i := 67) (by decide +kernel), List.mem_of_getElem? (i := 693) (by decide +kernel), List.mem_of_getElem? (i := 694) (by decide +kernel)⟩
def lw_privs_1 : List (MethodName × Nat) := [(⟨"DriftSea$Sea", "fillRow", "(II)V"⟩, 2), (⟨"DriftSea$Sea", "readClause", "(LDriftSea$Tape;)Z"⟩, 2), (⟨"DriftSea$Sea", "readItem", "(LDriftSea$Tape;II)Z"⟩, 2), (⟨"DriftSea$Tape", "isDigitHere", "()Z"⟩, 3), (⟨"DriftSea$Sea", "isWhole", "()Z"⟩, 2), (⟨"DriftSea$Sea", "areToldTwo", "(II)Z"⟩, 2), (⟨"DriftSea$Rule", "readClause", "(LDriftSea$Tape;)Z"⟩, 3), (⟨"DriftSea$Rule", "readSum", "(LDriftSea$Tape;I)Z"⟩, 3), (⟨"DriftSea$Rule", "readTerm", "(LDriftSea$Tape;I)Z"⟩, 3), (⟨"DriftSea$Rule", "readAtom", "(LDriftSea$Tape;I)Z"⟩, 3), (⟨"DriftSea$Rule", "put", "(I)V"⟩, 3), (⟨"DriftSea$Rule", "readBracket", "(LDriftSea$Tape;I)Z"⟩, 3), (⟨"DriftSea$Rule", "readCondition", "(LDriftSea$Tape;IZ)Z"⟩, 3), (⟨"DriftSea$Rule", "readTruth", "(LDriftSea$Tape;IZ)Z"⟩, 3), (⟨"DriftSea$Rule", "readUnit", "(LDriftSea$Tape;IZ)Z"⟩, 3), (⟨"DriftSea$Rule", "readNested", "(LDriftSea$Tape;II)Z"⟩, 3)]
theorem lw_r1 : ∀ q ∈ lw_privs_1, lw_okq q := List.forall_mem_cons.mpr ⟨lw_p0, List.forall_mem_cons.mpr ⟨lw_p1, List.forall_mem_cons.mpr ⟨lw_p2, List.forall_mem_cons.mpr ⟨lw_p3, List.forall_mem_cons.mpr ⟨lw_p4, List.forall_mem_cons.mpr ⟨lw_p5, List.forall_mem_cons.mpr ⟨lw_p6, List.forall_mem_cons.mpr ⟨lw_p7, List.forall_mem_cons.mpr ⟨lw_p8, List.forall_mem_cons.mpr ⟨lw_p9, List.forall_mem_cons.mpr ⟨lw_p10, List.forall_mem_cons.mpr ⟨lw_p11, List.forall_mem_cons.mpr ⟨lw_p12, List.forall_mem_cons.mpr ⟨lw_p13, List.forall_mem_cons.mpr ⟨lw_p14, List.forall_mem_cons.mpr ⟨lw_p15, fun _ h => absurd h List.not_mem_nil⟩⟩⟩⟩⟩⟩⟩⟩⟩⟩⟩⟩⟩⟩⟩⟩
theorem lw_p16 : lw_okq (⟨"DriftSea", "beginSea", "()I"⟩, 17) := ⟨⟨by decide +kernel, by decide +kernel⟩, List.mem_of_getElem? (i := 28) (by decide +kernel), List.mem_of_getElem? (i := 703) (by decide +kernel), List.mem_of_getElem? (i := 704) (by decide +kernel)⟩
theorem lw_p17 : lw_okq (⟨"DriftSea", "addRule", "()I"⟩, 17) := ⟨⟨by decide +kernel, by decide +kernel⟩, List.mem_of_getElem? (i := 28) (by decide +kernel), List.mem_of_getElem? (i := 736) (by decide +kernel), List.mem_of_getElem? (i := 737) (by decide +kernel)⟩
theorem lw_p18 : lw_okq (⟨"DriftSea", "isTie", "(I)Z"⟩, 17) := ⟨⟨by decide +kernel, by decide +kernel⟩, List.mem_of_getElem? (i := 28) (by decide +kernel), List.mem_of_getElem? (i := 749) (by decide +kernel), List.mem_of_getElem? (i := 750) (by decide +kernel)⟩
theorem lw_p19 : lw_okq (⟨"DriftSea$Course", "pullOf", "(LDriftSea$State;IIII)I"⟩, 17) := ⟨⟨by decide +kernel, by decide +kernel⟩, List.mem_of_getElem? (i := 165) (by decide +kernel), List.mem_of_getElem? (i := 766) (by decide +kernel), List.mem_of_getElem? (i := 767) (by decide +kernel)⟩
theorem lw_p20 : lw_okq (⟨"DriftSea$Rule", "endOfClause", "(I)I"⟩, 3) := ⟨⟨by decide +kernel, by decide +kernel⟩, List.mem_of_getElem? (i := 67) (by decide +kernel), List.mem_of_getElem? (i := 786) (by decide +kernel), List.mem_of_getElem? (i := 787) (by decide +kernel)⟩
theorem lw_p21 : lw_okq (⟨"DriftSea", "isBridge", "(I)Z"⟩, 17) := ⟨⟨by decide +kernel, by decide +kernel⟩, List.mem_of_getElem? (i := 28) (by decide +kernel), List.mem_of_getElem? (i := 810) (by decide +kernel), List.mem_of_getElem? (i := 811) (by decide +kernel)⟩
theorem lw_p22 : lw_okq (⟨"DriftSea", "isIsle", "(I)Z"⟩, 17) := ⟨⟨by decide +kernel, by decide +kernel⟩, List.mem_of_getElem? (i := 28) (by decide +kernel), List.mem_of_getElem? (i := 824) (by decide +kernel), List.mem_of_getElem? (i := 825) (by decide +kernel)⟩
theorem lw_p23 : lw_okq (⟨"DriftSea", "ofWater", "(I)I"⟩, 17) := ⟨⟨by decide +kernel, by decide +kernel⟩, List.mem_of_getElem? (i := 28) (by decide +kernel), List.mem_of_getElem? (i := 842) (by decide +kernel), List.mem_of_getElem? (i := 843) (by decide +kernel)⟩
theorem lw_p24 : lw_okq (⟨"DriftSea", "hasSea", "()Z"⟩, 17) := ⟨⟨by decide +kernel, by decide +kernel⟩, List.mem_of_getElem? (i := 28) (by decide +kernel), List.mem_of_getElem? (i := 846) (by decide +kernel), List.mem_of_getElem? (i := 847) (by decide +kernel)⟩
theorem lw_p25 : lw_okq (⟨"DriftSea", "passSeason", "()V"⟩, 17) := ⟨⟨by decide +kernel, by decide +kernel⟩, List.mem_of_getElem? (i := 28) (by decide +kernel), List.mem_of_getElem? (i := 926) (by decide +kernel), List.mem_of_getElem? (i := 927) (by decide +kernel)⟩
theorem lw_p26 : lw_okq (⟨"DriftSea$Course", "drawByTies", "(LDriftSea$State;)V"⟩, 17) := ⟨⟨by decide +kernel, by decide +kernel⟩, List.mem_of_getElem? (i := 165) (by decide +kernel), List.mem_of_getElem? (i := 938) (by decide +kernel), List.mem_of_getElem? (i := 939) (by decide +kernel)⟩
theorem lw_p27 : lw_okq (⟨"DriftSea$Course", "drawTwo", "(LDriftSea$State;III)V"⟩, 17) := ⟨⟨by decide +kernel, by decide +kernel⟩, List.mem_of_getElem? (i := 165) (by decide +kernel), List.mem_of_getElem? (i := 944) (by decide +kernel), List.mem_of_getElem? (i := 945) (by decide +kernel)⟩
theorem lw_p28 : lw_okq (⟨"DriftSea$Course", "doesTradePull", "()Z"⟩, 17) := ⟨⟨by decide +kernel, by decide +kernel⟩, List.mem_of_getElem? (i := 165) (by decide +kernel), List.mem_of_getElem? (i := 960) (by decide +kernel), List.mem_of_getElem? (i := 961) (by decide +kernel)⟩
theorem lw_p29 : lw_okq (⟨"DriftSea$Trade", "buyAll", "(LDriftSea$Sea;LDriftSea$State;I)V"⟩, 5) := ⟨⟨by decide +kernel, by decide +kernel⟩, List.mem_of_getElem? (i := 143) (by decide +kernel), List.mem_of_getElem? (i := 973) (by decide +kernel), List.mem_of_getElem? (i := 974) (by decide +kernel)⟩
theorem lw_p30 : lw_okq (⟨"DriftSea$Trade", "cheapest", "(LDriftSea$Sea;LDriftSea$State;I)I"⟩, 5) := ⟨⟨by decide +kernel, by decide +kernel⟩, List.mem_of_getElem? (i := 143) (by decide +kernel), List.mem_of_getElem? (i := 977) (by decide +kernel), List.mem_of_getElem? (i := 978) (by decide +kernel)⟩
theorem lw_p31 : lw_okq (⟨"DriftSea$Course", "drawByTrade", "(LDriftSea$State;)V"⟩, 17) := ⟨⟨by decide +kernel, by decide +kernel⟩, List.mem_of_getElem? (i := 165) (by decide +kernel), List.mem_of_getElem? (i := 985) (by decide +kernel), List.mem_of_getElem? (i := 986) (by decide +kernel)⟩
def lw_privs_2 : List (MethodName × Nat) := [(⟨"DriftSea", "beginSea", "()I"⟩, 17), (⟨"DriftSea", "addRule", "()I"⟩, 17), (⟨"DriftSea", "isTie", "(I)Z"⟩, 17), (⟨"DriftSea$Course", "pullOf", "(LDriftSea$State;IIII)I"⟩, 17), (⟨"DriftSea$Rule", "endOfClause", "(I)I"⟩, 3), (⟨"DriftSea", "isBridge", "(I)Z"⟩, 17), (⟨"DriftSea", "isIsle", "(I)Z"⟩, 17), (⟨"DriftSea", "ofWater", "(I)I"⟩, 17), (⟨"DriftSea", "hasSea", "()Z"⟩, 17), (⟨"DriftSea", "passSeason", "()V"⟩, 17), (⟨"DriftSea$Course", "drawByTies", "(LDriftSea$State;)V"⟩, 17), (⟨"DriftSea$Course", "drawTwo", "(LDriftSea$State;III)V"⟩, 17), (⟨"DriftSea$Course", "doesTradePull", "()Z"⟩, 17), (⟨"DriftSea$Trade", "buyAll", "(LDriftSea$Sea;LDriftSea$State;I)V"⟩, 5), (⟨"DriftSea$Trade", "cheapest", "(LDriftSea$Sea;LDriftSea$State;I)I"⟩, 5), (⟨"DriftSea$Course", "drawByTrade", "(LDriftSea$State;)V"⟩, 17)]
theorem lw_r2 : ∀ q ∈ lw_privs_2, lw_okq q := List.forall_mem_cons.mpr ⟨lw_p16, List.forall_mem_cons.mpr ⟨lw_p17, List.forall_mem_cons.mpr ⟨lw_p18, List.forall_mem_cons.mpr ⟨lw_p19, List.forall_mem_cons.mpr ⟨lw_p20, List.forall_mem_cons.mpr ⟨lw_p21, List.forall_mem_cons.mpr ⟨lw_p22, List.forall_mem_cons.mpr ⟨lw_p23, List.forall_mem_cons.mpr ⟨lw_p24, List.forall_mem_cons.mpr ⟨lw_p25, List.forall_mem_cons.mpr ⟨lw_p26, List.forall_mem_cons.mpr ⟨lw_p27, List.forall_mem_cons.mpr ⟨lw_p28, List.forall_mem_cons.mpr ⟨lw_p29, List.forall_mem_cons.mpr ⟨lw_p30, List.forall_mem_cons.mpr ⟨lw_p31, fun _ h => absurd h List.not_mem_nil⟩⟩⟩⟩⟩⟩⟩⟩⟩⟩⟩⟩⟩⟩⟩⟩
theorem lw_p32 : lw_okq (⟨"DriftSea$Course", "moveAll", "(LDriftSea$State;)V"⟩, 17) := ⟨⟨by decide +kernel, by decide +kernel⟩, List.mem_of_getElem? (i := 165) (by decide +kernel), List.mem_of_getElem? (i := 994) (by decide +kernel), List.mem_of_getElem? (i := 995) (by decide +kernel)⟩
theorem lw_p33 : lw_okq (⟨"DriftSea$Course", "joinFirstPair", "(LDriftSea$State;)Z"⟩, 17) := ⟨⟨by decide +kernel, by decide +kernel⟩, List.mem_of_getElem? (i := 165) (by decide +kernel), List.mem_of_getElem? (i := 1008) (by decide +kernel), List.mem_of_getElem? (i := 1009) (by decide +kernel)⟩
theorem lw_p34 : lw_okq (⟨"DriftSea$Course", "joinTwo", "(LDriftSea$State;II)V"⟩, 17) := ⟨⟨by decide +kernel, by decide +kernel⟩, List.mem_of_getElem? (i := 165) (by decide +kernel), List.mem_of_getElem? (i := 1012) (by decide +kernel), List.mem_of_getElem? (i := 1013) (by decide +kernel)⟩
theorem lw_p35 : lw_okq (⟨"DriftSea$Course", "snapBridges", "(LDriftSea$State;)V"⟩, 17) := ⟨⟨by decide +kernel, by decide +kernel⟩, List.mem_of_getElem? (i := 165) (by decide +kernel), List.mem_of_getElem? (i := 1021) (by decide +kernel), List.mem_of_getElem? (i := 1022) (by decide +kernel)⟩
theorem lw_p36 : lw_okq (⟨"DriftSea$Weather", "draw", "(I)I"⟩, 3) := ⟨⟨by decide +kernel, by decide +kernel⟩, List.mem_of_getElem? (i := 127) (by decide +kernel), List.mem_of_getElem? (i := 1064) (by decide +kernel), List.mem_of_getElem? (i := 1065) (by decide +kernel)⟩
theorem lw_p37 : lw_okq (⟨"DriftSea$Weather", "toss", "(LDriftSea$State;)V"⟩, 3) := ⟨⟨by decide +kernel, by decide +kernel⟩, List.mem_of_getElem? (i := 127) (by decide +kernel), List.mem_of_getElem? (i := 1070) (by decide +kernel), List.mem_of_getElem? (i := 1071) (by decide +kernel)⟩
theorem lw_p38 : lw_okq (⟨"DriftSea", "areTwo", "(II)Z"⟩, 17) := ⟨⟨by decide +kernel, by decide +kernel⟩, List.mem_of_getElem? (i := 28) (by decide +kernel), List.mem_of_getElem? (i := 1125) (by decide +kernel), List.mem_of_getElem? (i := 1126) (by decide +kernel)⟩
theorem lw_p39 : lw_okq (⟨"DriftSea$Forecast", "begin", "()V"⟩, 8) := ⟨⟨by decide +kernel, by decide +kernel⟩, List.mem_of_getElem? (i := 225) (by decide +kernel), List.mem_of_getElem? (i := 1182) (by decide +kernel), List.mem_of_getElem? (i := 1183) (by decide +kernel)⟩
theorem lw_p40 : lw_okq (⟨"DriftSea$Forecast", "remember", "(I)V"⟩, 8) := ⟨⟨by decide +kernel, by decide +kernel⟩, List.mem_of_getElem? (i := 225) (by decide +kernel), List.mem_of_getElem? (i := 1211) (by decide +kernel), List.mem_of_getElem? (i := 1212) (by decide +kernel)⟩
theorem lw_p41 : lw_okq (⟨"DriftSea$Forecast", "areAlike", "(II)Z"⟩, 8) := ⟨⟨by decide +kernel, by decide +kernel⟩, List.mem_of_getElem? (i := 225) (by decide +kernel), List.mem_of_getElem? (i := 1217) (by decide +kernel), List.mem_of_getElem? (i := 1218) (by decide +kernel)⟩
theorem lw_p42 : lw_okq (⟨"DriftSea", "isPair", "(I)Z"⟩, 17) := ⟨⟨by decide +kernel, by decide +kernel⟩, List.mem_of_getElem? (i := 28) (by decide +kernel), List.mem_of_getElem? (i := 1279) (by decide +kernel), List.mem_of_getElem? (i := 1280) (by decide +kernel)⟩
theorem lw_p43 : lw_okq (⟨"DriftSea$Deals", "tellPairs", "()V"⟩, 15) := ⟨⟨by decide +kernel, by decide +kernel⟩, List.mem_of_getElem? (i := 258) (by decide +kernel), List.mem_of_getElem? (i := 1287) (by decide +kernel), List.mem_of_getElem? (i := 1288) (by decide +kernel)⟩
theorem lw_p44 : lw_okq (⟨"DriftSea$Deals", "pickFirst", "(I)Z"⟩, 15) := ⟨⟨by decide +kernel, by decide +kernel⟩, List.mem_of_getElem? (i := 258) (by decide +kernel), List.mem_of_getElem? (i := 1313) (by decide +kernel), List.mem_of_getElem? (i := 1314) (by decide +kernel)⟩
theorem lw_p45 : lw_okq (⟨"DriftSea$Deals", "keepsBetween", "(II)Z"⟩, 15) := ⟨⟨by decide +kernel, by decide +kernel⟩, List.mem_of_getElem? (i := 258) (by decide +kernel), List.mem_of_getElem? (i := 1328) (by decide +kernel), List.mem_of_getElem? (i := 1329) (by decide +kernel)⟩
theorem lw_p46 : lw_okq (⟨"DriftSea$Charts", "areSo", "()Z"⟩, 9) := ⟨⟨by decide +kernel, by decide +kernel⟩, List.mem_of_getElem? (i := 312) (by decide +kernel), List.mem_of_getElem? (i := 1357) (by decide +kernel), List.mem_of_getElem? (i := 1358) (by decide +kernel)⟩
theorem lw_p47 : lw_okq (⟨"DriftSea$Charts", "areSoBehind", "(I)Z"⟩, 9) := ⟨⟨by decide +kernel, by decide +kernel⟩, List.mem_of_getElem? (i := 312) (by decide +kernel), List.mem_of_getElem? (i := 1364) (by decide +kernel), List.mem_of_getElem? (i := 1365) (by decide +kernel)⟩
def lw_privs_3 : List (MethodName × Nat) := [(⟨"DriftSea$Course", "moveAll", "(LDriftSea$State;)V"⟩, 17), (⟨"DriftSea$Course", "joinFirstPair", "(LDriftSea$State;)Z"⟩, 17), (⟨"DriftSea$Course", "joinTwo", "(LDriftSea$State;II)V"⟩, 17), (⟨"DriftSea$Course", "snapBridges", "(LDriftSea$State;)V"⟩, 17), (⟨"DriftSea$Weather", "draw", "(I)I"⟩, 3), (⟨"DriftSea$Weather", "toss", "(LDriftSea$State;)V"⟩, 3), (⟨"DriftSea", "areTwo", "(II)Z"⟩, 17), (⟨"DriftSea$Forecast", "begin", "()V"⟩, 8), (⟨"DriftSea$Forecast", "remember", "(I)V"⟩, 8), (⟨"DriftSea$Forecast", "areAlike", "(II)Z"⟩, 8), (⟨"DriftSea", "isPair", "(I)Z"⟩, 17), (⟨"DriftSea$Deals", "tellPairs", "()V"⟩, 15), (⟨"DriftSea$Deals", "pickFirst", "(I)Z"⟩, 15), (⟨"DriftSea$Deals", "keepsBetween", "(II)Z"⟩, 15), (⟨"DriftSea$Charts", "areSo", "()Z"⟩, 9), (⟨"DriftSea$Charts", "areSoBehind", "(I)Z"⟩, 9)]
theorem lw_r3 : ∀ q ∈ lw_privs_3, lw_okq q := List.forall_mem_cons.mpr ⟨lw_p32, List.forall_mem_cons.mpr ⟨lw_p33, List.forall_mem_cons.mpr ⟨lw_p34, List.forall_mem_cons.mpr ⟨lw_p35, List.forall_mem_cons.mpr ⟨lw_p36, List.forall_mem_cons.mpr ⟨lw_p37, List.forall_mem_cons.mpr ⟨lw_p38, List.forall_mem_cons.mpr ⟨lw_p39, List.forall_mem_cons.mpr ⟨lw_p40, List.forall_mem_cons.mpr ⟨lw_p41, List.forall_mem_cons.mpr ⟨lw_p42, List.forall_mem_cons.mpr ⟨lw_p43, List.forall_mem_cons.mpr ⟨lw_p44, List.forall_mem_cons.mpr ⟨lw_p45, List.forall_mem_cons.mpr ⟨lw_p46, List.forall_mem_cons.mpr ⟨lw_p47, fun _ h => absurd h List.not_mem_nil⟩⟩⟩⟩⟩⟩⟩⟩⟩⟩⟩⟩⟩⟩⟩⟩
theorem lw_p48 : lw_okq (⟨"java/lang/Throwable", "fillInStackTrace", "(I)Ljava/lang/Throwable;"⟩, 6) := ⟨⟨by decide +kernel, by decide +kernel⟩, List.mem_of_getElem? (i := 1493) (by decide +kernel), List.mem_of_getElem? (i := 1491) (by decide +kernel), List.mem_of_getElem? (i := 1492) (by decide +kernel)⟩
theorem lw_p49 : lw_okq (⟨"DriftSeaModel", "readSea", "()I"⟩, 79) := ⟨⟨by decide +kernel, by decide +kernel⟩, List.mem_of_getElem? (i := 1526) (by decide +kernel), List.mem_of_getElem? (i := 1789) (by decide +kernel), List.mem_of_getElem? (i := 1790) (by decide +kernel)⟩
theorem lw_p50 : lw_okq (⟨"DriftSeaModel", "look", "()I"⟩, 79) := ⟨⟨by decide +kernel, by decide +kernel⟩, List.mem_of_getElem? (i := 1526) (by decide +kernel), List.mem_of_getElem? (i := 1796) (by decide +kernel), List.mem_of_getElem? (i := 1797) (by decide +kernel)⟩
theorem lw_p51 : lw_okq (⟨"DriftSeaModel", "here", "()I"⟩, 79) := ⟨⟨by decide +kernel, by decide +kernel⟩, List.mem_of_getElem? (i := 1526) (by decide +kernel), List.mem_of_getElem? (i := 1800) (by decide +kernel), List.mem_of_getElem? (i := 1801) (by decide +kernel)⟩
theorem lw_p52 : lw_okq (⟨"DriftSeaModel", "clauseText", "(Z)V"⟩, 79) := ⟨⟨by decide +kernel, by decide +kernel⟩, List.mem_of_getElem? (i := 1526) (by decide +kernel), List.mem_of_getElem? (i := 1804) (by decide +kernel), List.mem_of_getElem? (i := 1805) (by decide +kernel)⟩
theorem lw_p53 : lw_okq (⟨"DriftSeaModel", "items", "(I[III)V"⟩, 79) := ⟨⟨by decide +kernel, by decide +kernel⟩, List.mem_of_getElem? (i := 1526) (by decide +kernel), List.mem_of_getElem? (i := 1808) (by decide +kernel), List.mem_of_getElem? (i := 1809) (by decide +kernel)⟩
theorem lw_p54 : lw_okq (⟨"DriftSeaModel", "number", "(II)I"⟩, 79) := ⟨⟨by decide +kernel, by decide +kernel⟩, List.mem_of_getElem? (i := 1526) (by decide +kernel), List.mem_of_getElem? (i := 1824) (by decide +kernel), List.mem_of_getElem? (i := 1825) (by decide +kernel)⟩
theorem lw_p55 : lw_okq (⟨"DriftSeaModel", "bad", "()V"⟩, 79) := ⟨⟨by decide +kernel, by decide +kernel⟩, List.mem_of_getElem? (i := 1526) (by decide +kernel), List.mem_of_getElem? (i := 1831) (by decide +kernel), List.mem_of_getElem? (i := 1832) (by decide +kernel)⟩
theorem lw_p56 : lw_okq (⟨"DriftSeaModel", "isWhole", "()Z"⟩, 79) := ⟨⟨by decide +kernel, by decide +kernel⟩, List.mem_of_getElem? (i := 1526) (by decide +kernel), List.mem_of_getElem? (i := 1838) (by decide +kernel), List.mem_of_getElem? (i := 1839) (by decide +kernel)⟩
theorem lw_p57 : lw_okq (⟨"DriftSeaModel", "areUnlike", "(II)Z"⟩, 79) := ⟨⟨by decide +kernel, by decide +kernel⟩, List.mem_of_getElem? (i := 1526) (by decide +kernel), List.mem_of_getElem? (i := 1842) (by decide +kernel), List.mem_of_getElem? (i := 1843) (by decide +kernel)⟩
theorem lw_p58 : lw_okq (⟨"DriftSeaModel", "readLaw", "(I)I"⟩, 79) := ⟨⟨by decide +kernel, by decide +kernel⟩, List.mem_of_getElem? (i := 1526) (by decide +kernel), List.mem_of_getElem? (i := 1846) (by decide +kernel), List.mem_of_getElem? (i := 1847) (by decide +kernel)⟩
theorem lw_p59 : lw_okq (⟨"DriftSeaModel", "open", "(I)V"⟩, 79) := ⟨⟨by decide +kernel, by decide +kernel⟩, List.mem_of_getElem? (i := 1526) (by decide +kernel), List.mem_of_getElem? (i := 1850) (by decide +kernel), List.mem_of_getElem? (i := 1851) (by decide +kernel)⟩
theorem lw_p60 : lw_okq (⟨"DriftSeaModel", "clause", "()V"⟩, 79) := ⟨⟨by decide +kernel, by decide +kernel⟩, List.mem_of_getElem? (i := 1526) (by decide +kernel), List.mem_of_getElem? (i := 1854) (by decide +kernel), List.mem_of_getElem? (i := 1855) (by decide +kernel)⟩
theorem lw_p61 : lw_okq (⟨"DriftSeaModel", "condition", "()V"⟩, 79) := ⟨⟨by decide +kernel, by decide +kernel⟩, List.mem_of_getElem? (i := 1526) (by decide +kernel), List.mem_of_getElem? (i := 1858) (by decide +kernel), List.mem_of_getElem? (i := 1859) (by decide +kernel)⟩
theorem lw_p62 : lw_okq (⟨"DriftSeaModel", "unit", "()V"⟩, 79) := ⟨⟨by decide +kernel, by decide +kernel⟩, List.mem_of_getElem? (i := 1526) (by decide +kernel), List.mem_of_getElem? (i := 1862) (by decide +kernel), List.mem_of_getElem? (i := 1863) (by decide +kernel)⟩
theorem lw_p63 : lw_okq (⟨"DriftSeaModel", "opens", "()V"⟩, 79) := ⟨⟨by decide +kernel, by decide +kernel⟩, List.mem_of_getElem? (i := 1526) (by decide +kernel), List.mem_of_getElem? (i := 1866) (by decide +kernel), List.mem_of_getElem? (i := 1867) (by decide +kernel)⟩
def lw_privs_4 : List (MethodName × Nat) := [(⟨"java/lang/Throwable", "fillInStackTrace", "(I)Ljava/lang/Throwable;"⟩, 6), (⟨"DriftSeaModel", "readSea", "()I"⟩, 79), (⟨"DriftSeaModel", "look", "()I"⟩, 79), (⟨"DriftSeaModel", "here", "()I"⟩, 79), (⟨"DriftSeaModel", "clauseText", "(Z)V"⟩, 79), (⟨"DriftSeaModel", "items", "(I[III)V"⟩, 79), (⟨"DriftSeaModel", "number", "(II)I"⟩, 79), (⟨"DriftSeaModel", "bad", "()V"⟩, 79), (⟨"DriftSeaModel", "isWhole", "()Z"⟩, 79), (⟨"DriftSeaModel", "areUnlike", "(II)Z"⟩, 79), (⟨"DriftSeaModel", "readLaw", "(I)I"⟩, 79), (⟨"DriftSeaModel", "open", "(I)V"⟩, 79), (⟨"DriftSeaModel", "clause", "()V"⟩, 79), (⟨"DriftSeaModel", "condition", "()V"⟩, 79), (⟨"DriftSeaModel", "unit", "()V"⟩, 79), (⟨"DriftSeaModel", "opens", "()V"⟩, 79)]
theorem lw_r4 : ∀ q ∈ lw_privs_4, lw_okq q := List.forall_mem_cons.mpr ⟨lw_p48, List.forall_mem_cons.mpr ⟨lw_p49, List.forall_mem_cons.mpr ⟨lw_p50, List.forall_mem_cons.mpr ⟨lw_p51, List.forall_mem_cons.mpr ⟨lw_p52, List.forall_mem_cons.mpr ⟨lw_p53, List.forall_mem_cons.mpr ⟨lw_p54, List.forall_mem_cons.mpr ⟨lw_p55, List.forall_mem_cons.mpr ⟨lw_p56, List.forall_mem_cons.mpr ⟨lw_p57, List.forall_mem_cons.mpr ⟨lw_p58, List.forall_mem_cons.mpr ⟨lw_p59, List.forall_mem_cons.mpr ⟨lw_p60, List.forall_mem_cons.mpr ⟨lw_p61, List.forall_mem_cons.mpr ⟨lw_p62, List.forall_mem_cons.mpr ⟨lw_p63, fun _ h => absurd h List.not_mem_nil⟩⟩⟩⟩⟩⟩⟩⟩⟩⟩⟩⟩⟩⟩⟩⟩
theorem lw_p64 : lw_okq (⟨"DriftSeaModel", "put", "(II)V"⟩, 79) := ⟨⟨by decide +kernel, by decide +kernel⟩, List.mem_of_getElem? (i := 1526) (by decide +kernel), List.mem_of_getElem? (i := 1870) (by decide +kernel), List.mem_of_getElem? (i := 1871) (by decide +kernel)⟩
theorem lw_p65 : lw_okq (⟨"DriftSeaModel", "closes", "(I)V"⟩, 79) := ⟨⟨by decide +kernel, by decide +kernel⟩, List.mem_of_getElem? (i := 1526) (by decide +kernel), List.mem_of_getElem? (i := 1874) (by decide +kernel), List.mem_of_getElem? (i := 1875) (by decide +kernel)⟩
theorem lw_p66 : lw_okq (⟨"DriftSeaModel", "sum", "()V"⟩, 79) := ⟨⟨by decide +kernel, by decide +kernel⟩, List.mem_of_getElem? (i := 1526) (by decide +kernel), List.mem_of_getElem? (i := 1878) (by decide +kernel), List.mem_of_getElem? (i := 1879) (by decide +kernel)⟩
theorem lw_p67 : lw_okq (⟨"DriftSeaModel", "term", "()V"⟩, 79) := ⟨⟨by decide +kernel, by decide +kernel⟩, List.mem_of_getElem? (i := 1526) (by decide +kernel), List.mem_of_getElem? (i := 1882) (by decide +kernel), List.mem_of_getElem? (i := 1883) (by decide +kernel)⟩
theorem lw_p68 : lw_okq (⟨"DriftSeaModel", "atom", "()V"⟩, 79) := ⟨⟨by decide +kernel, by decide +kernel⟩, List.mem_of_getElem? (i := 1526) (by decide +kernel), List.mem_of_getElem? (i := 1886) (by decide +kernel), List.mem_of_getElem? (i := 1887) (by decide +kernel)⟩
theorem lw_p69 : lw_okq (⟨"DriftSeaModel", "plainNumber", "()I"⟩, 79) := ⟨⟨by decide +kernel, by decide +kernel⟩, List.mem_of_getElem? (i := 1526) (by decide +kernel), List.mem_of_getElem? (i := 1890) (by decide +kernel), List.mem_of_getElem? (i := 1891) (by decide +kernel)⟩
theorem lw_p70 : lw_okq (⟨"DriftSeaModel", "compare", "()V"⟩, 79) := ⟨⟨by decide +kernel, by decide +kernel⟩, List.mem_of_getElem? (i := 1526) (by decide +kernel), List.mem_of_getElem? (i := 1897) (by decide +kernel), List.mem_of_getElem? (i := 1898) (by decide +kernel)⟩
theorem lw_p71 : lw_okq (⟨"DriftSeaModel", "goOnAnd", "()V"⟩, 79) := ⟨⟨by decide +kernel, by decide +kernel⟩, List.mem_of_getElem? (i := 1526) (by decide +kernel), List.mem_of_getElem? (i := 1904) (by decide +kernel), List.mem_of_getElem? (i := 1905) (by decide +kernel)⟩
theorem lw_p72 : lw_okq (⟨"DriftSeaModel", "goOnOr", "()V"⟩, 79) := ⟨⟨by decide +kernel, by decide +kernel⟩, List.mem_of_getElem? (i := 1526) (by decide +kernel), List.mem_of_getElem? (i := 1908) (by decide +kernel), List.mem_of_getElem? (i := 1909) (by decide +kernel)⟩
theorem lw_p73 : lw_okq (⟨"DriftSeaModel", "atEnd", "()I"⟩, 79) := ⟨⟨by decide +kernel, by decide +kernel⟩, List.mem_of_getElem? (i := 1526) (by decide +kernel), List.mem_of_getElem? (i := 1912) (by decide +kernel), List.mem_of_getElem? (i := 1913) (by decide +kernel)⟩
theorem lw_p74 : lw_okq (⟨"DriftSeaModel", "takeSea", "()I"⟩, 79) := ⟨⟨by decide +kernel, by decide +kernel⟩, List.mem_of_getElem? (i := 1526) (by decide +kernel), List.mem_of_getElem? (i := 1920) (by decide +kernel), List.mem_of_getElem? (i := 1921) (by decide +kernel)⟩
theorem lw_p75 : lw_okq (⟨"DriftSeaModel", "isIsle", "(I)Z"⟩, 79) := ⟨⟨by decide +kernel, by decide +kernel⟩, List.mem_of_getElem? (i := 1526) (by decide +kernel), List.mem_of_getElem? (i := 1928) (by decide +kernel), List.mem_of_getElem? (i := 1929) (by decide +kernel)⟩
theorem lw_p76 : lw_okq (⟨"DriftSeaModel", "of", "(II)I"⟩, 79) := ⟨⟨by decide +kernel, by decide +kernel⟩, List.mem_of_getElem? (i := 1526) (by decide +kernel), List.mem_of_getElem? (i := 1932) (by decide +kernel), List.mem_of_getElem? (i := 1933) (by decide +kernel)⟩
theorem lw_p77 : lw_okq (⟨"DriftSeaModel", "farOf", "(II)I"⟩, 79) := ⟨⟨by decide +kernel, by decide +kernel⟩, List.mem_of_getElem? (i := 1526) (by decide +kernel), List.mem_of_getElem? (i := 1940) (by decide +kernel), List.mem_of_getElem? (i := 1941) (by decide +kernel)⟩
theorem lw_p78 : lw_okq (⟨"DriftSeaModel", "isTie", "(I)Z"⟩, 79) := ⟨⟨by decide +kernel, by decide +kernel⟩, List.mem_of_getElem? (i := 1526) (by decide +kernel), List.mem_of_getElem? (i := 1953) (by decide +kernel), List.mem_of_getElem? (i := 1954) (by decide +kernel)⟩
theorem lw_p79 : lw_okq (⟨"DriftSeaModel", "areSeasons", "(III)Z"⟩, 79) := ⟨⟨by decide +kernel, by decide +kernel⟩, List.mem_of_getElem? (i := 1526) (by decide +kernel), List.mem_of_getElem? (i := 1973) (by decide +kernel), List.mem_of_getElem? (i := 1974) (by decide +kernel)⟩
def lw_privs_5 : List (MethodName × Nat) := [(⟨"DriftSeaModel", "put", "(II)V"⟩, 79), (⟨"DriftSeaModel", "closes", "(I)V"⟩, 79), (⟨"DriftSeaModel", "sum", "()V"⟩, 79), (⟨"DriftSeaModel", "term", "()V"⟩, 79), (⟨"DriftSeaModel", "atom", "()V"⟩, 79), (⟨"DriftSeaModel", "plainNumber", "()I"⟩, 79), (⟨"DriftSeaModel", "compare", "()V"⟩, 79), (⟨"DriftSeaModel", "goOnAnd", "()V"⟩, 79), (⟨"DriftSeaModel", "goOnOr", "()V"⟩, 79), (⟨"DriftSeaModel", "atEnd", "()I"⟩, 79), (⟨"DriftSeaModel", "takeSea", "()I"⟩, 79), (⟨"DriftSeaModel", "isIsle", "(I)Z"⟩, 79), (⟨"DriftSeaModel", "of", "(II)I"⟩, 79), (⟨"DriftSeaModel", "farOf", "(II)I"⟩, 79), (⟨"DriftSeaModel", "isTie", "(I)Z"⟩, 79), (⟨"DriftSeaModel", "areSeasons", "(III)Z"⟩, 79)]
theorem lw_r5 : ∀ q ∈ lw_privs_5, lw_okq q := List.forall_mem_cons.mpr ⟨lw_p64, List.forall_mem_cons.mpr ⟨lw_p65, List.forall_mem_cons.mpr ⟨lw_p66, List.forall_mem_cons.mpr ⟨lw_p67, List.forall_mem_cons.mpr ⟨lw_p68, List.forall_mem_cons.mpr ⟨lw_p69, List.forall_mem_cons.mpr ⟨lw_p70, List.forall_mem_cons.mpr ⟨lw_p71, List.forall_mem_cons.mpr ⟨lw_p72, List.forall_mem_cons.mpr ⟨lw_p73, List.forall_mem_cons.mpr ⟨lw_p74, List.forall_mem_cons.mpr ⟨lw_p75, List.forall_mem_cons.mpr ⟨lw_p76, List.forall_mem_cons.mpr ⟨lw_p77, List.forall_mem_cons.mpr ⟨lw_p78, List.forall_mem_cons.mpr ⟨lw_p79, fun _ h => absurd h List.not_mem_nil⟩⟩⟩⟩⟩⟩⟩⟩⟩⟩⟩⟩⟩⟩⟩⟩
theorem lw_p80 : lw_okq (⟨"DriftSeaModel", "keep", "()V"⟩, 79) := ⟨⟨by decide +kernel, by decide +kernel⟩, List.mem_of_getElem? (i := 1526) (by decide +kernel), List.mem_of_getElem? (i := 1977) (by decide +kernel), List.mem_of_getElem? (i := 1978) (by decide +kernel)⟩
theorem lw_p81 : lw_okq (⟨"DriftSeaModel", "write", "([II)V"⟩, 79) := ⟨⟨by decide +kernel, by decide +kernel⟩, List.mem_of_getElem? (i := 1526) (by decide +kernel), List.mem_of_getElem? (i := 1981) (by decide +kernel), List.mem_of_getElem? (i := 1982) (by decide +kernel)⟩
theorem lw_p82 : lw_okq (⟨"DriftSeaModel", "pass", "()V"⟩, 79) := ⟨⟨by decide +kernel, by decide +kernel⟩, List.mem_of_getElem? (i := 1526) (by decide +kernel), List.mem_of_getElem? (i := 1985) (by decide +kernel), List.mem_of_getElem? (i := 1986) (by decide +kernel)⟩
theorem lw_p83 : lw_okq (⟨"DriftSeaModel", "goAll", "()V"⟩, 79) := ⟨⟨by decide +kernel, by decide +kernel⟩, List.mem_of_getElem? (i := 1526) (by decide +kernel), List.mem_of_getElem? (i := 1989) (by decide +kernel), List.mem_of_getElem? (i := 1990) (by decide +kernel)⟩
theorem lw_p84 : lw_okq (⟨"DriftSeaModel", "layDrawn", "()V"⟩, 79) := ⟨⟨by decide +kernel, by decide +kernel⟩, List.mem_of_getElem? (i := 1526) (by decide +kernel), List.mem_of_getElem? (i := 1993) (by decide +kernel), List.mem_of_getElem? (i := 1994) (by decide +kernel)⟩
theorem lw_p85 : lw_okq (⟨"DriftSeaModel", "pullOf", "(I)I"⟩, 79) := ⟨⟨by decide +kernel, by decide +kernel⟩, List.mem_of_getElem? (i := 1526) (by decide +kernel), List.mem_of_getElem? (i := 1997) (by decide +kernel), List.mem_of_getElem? (i := 1998) (by decide +kernel)⟩
theorem lw_p86 : lw_okq (⟨"DriftSeaModel", "worthOf", "(I)I"⟩, 79) := ⟨⟨by decide +kernel, by decide +kernel⟩, List.mem_of_getElem? (i := 1526) (by decide +kernel), List.mem_of_getElem? (i := 2001) (by decide +kernel), List.mem_of_getElem? (i := 2002) (by decide +kernel)⟩
theorem lw_p87 : lw_okq (⟨"DriftSeaModel", "workOut", "(III)I"⟩, 79) := ⟨⟨by decide +kernel, by decide +kernel⟩, List.mem_of_getElem? (i := 1526) (by decide +kernel), List.mem_of_getElem? (i := 2005) (by decide +kernel), List.mem_of_getElem? (i := 2006) (by decide +kernel)⟩
theorem lw_p88 : lw_okq (⟨"DriftSeaModel", "drawnTo", "(IIIZ)I"⟩, 79) := ⟨⟨by decide +kernel, by decide +kernel⟩, List.mem_of_getElem? (i := 1526) (by decide +kernel), List.mem_of_getElem? (i := 2021) (by decide +kernel), List.mem_of_getElem? (i := 2022) (by decide +kernel)⟩
theorem lw_p89 : lw_okq (⟨"DriftSeaModel", "trade", "()V"⟩, 79) := ⟨⟨by decide +kernel, by decide +kernel⟩, List.mem_of_getElem? (i := 1526) (by decide +kernel), List.mem_of_getElem? (i := 2025) (by decide +kernel), List.mem_of_getElem? (i := 2026) (by decide +kernel)⟩
theorem lw_p90 : lw_okq (⟨"DriftSeaModel", "isHead", "(I)Z"⟩, 79) := ⟨⟨by decide +kernel, by decide +kernel⟩, List.mem_of_getElem? (i := 1526) (by decide +kernel), List.mem_of_getElem? (i := 2029) (by decide +kernel), List.mem_of_getElem? (i := 2030) (by decide +kernel)⟩
theorem lw_p91 : lw_okq (⟨"DriftSeaModel", "cheapestFor", "(I)I"⟩, 79) := ⟨⟨by decide +kernel, by decide +kernel⟩, List.mem_of_getElem? (i := 1526) (by decide +kernel), List.mem_of_getElem? (i := 2033) (by decide +kernel), List.mem_of_getElem? (i := 2034) (by decide +kernel)⟩
theorem lw_p92 : lw_okq (⟨"DriftSeaModel", "costOf", "(II)I"⟩, 79) := ⟨⟨by decide +kernel, by decide +kernel⟩, List.mem_of_getElem? (i := 1526) (by decide +kernel), List.mem_of_getElem? (i := 2037) (by decide +kernel), List.mem_of_getElem? (i := 2038) (by decide +kernel)⟩
theorem lw_p93 : lw_okq (⟨"DriftSeaModel", "nearPair", "()I"⟩, 79) := ⟨⟨by decide +kernel, by decide +kernel⟩, List.mem_of_getElem? (i := 1526) (by decide +kernel), List.mem_of_getElem? (i := 2044) (by decide +kernel), List.mem_of_getElem? (i := 2045) (by decide +kernel)⟩
theorem lw_p94 : lw_okq (⟨"DriftSeaModel", "join", "(II)V"⟩, 79) := ⟨⟨by decide +kernel, by decide +kernel⟩, List.mem_of_getElem? (i := 1526) (by decide +kernel), List.mem_of_getElem? (i := 2048) (by decide +kernel), List.mem_of_getElem? (i := 2049) (by decide +kernel)⟩
theorem lw_p95 : lw_okq (⟨"DriftSeaModel", "note", "()V"⟩, 79) := ⟨⟨by decide +kernel, by decide +kernel⟩, List.mem_of_getElem? (i := 1526) (by decide +kernel), List.mem_of_getElem? (i := 2052) (by decide +kernel), List.mem_of_getElem? (i := 2053) (by decide +kernel)⟩
def lw_privs_6 : List (MethodName × Nat) := [(⟨"DriftSeaModel", "keep", "()V"⟩, 79), (⟨"DriftSeaModel", "write", "([II)V"⟩, 79), (⟨"DriftSeaModel", "pass", "()V"⟩, 79), (⟨"DriftSeaModel", "goAll", "()V"⟩, 79), (⟨"DriftSeaModel", "layDrawn", "()V"⟩, 79), (⟨"DriftSeaModel", "pullOf", "(I)I"⟩, 79), (⟨"DriftSeaModel", "worthOf", "(I)I"⟩, 79), (⟨"DriftSeaModel", "workOut", "(III)I"⟩, 79), (⟨"DriftSeaModel", "drawnTo", "(IIIZ)I"⟩, 79), (⟨"DriftSeaModel", "trade", "()V"⟩, 79), (⟨"DriftSeaModel", "isHead", "(I)Z"⟩, 79), (⟨"DriftSeaModel", "cheapestFor", "(I)I"⟩, 79), (⟨"DriftSeaModel", "costOf", "(II)I"⟩, 79), (⟨"DriftSeaModel", "nearPair", "()I"⟩, 79), (⟨"DriftSeaModel", "join", "(II)V"⟩, 79), (⟨"DriftSeaModel", "note", "()V"⟩, 79)]
theorem lw_r6 : ∀ q ∈ lw_privs_6, lw_okq q := List.forall_mem_cons.mpr ⟨lw_p80, List.forall_mem_cons.mpr ⟨lw_p81, List.forall_mem_cons.mpr ⟨lw_p82, List.forall_mem_cons.mpr ⟨lw_p83, List.forall_mem_cons.mpr ⟨lw_p84, List.forall_mem_cons.mpr ⟨lw_p85, List.forall_mem_cons.mpr ⟨lw_p86, List.forall_mem_cons.mpr ⟨lw_p87, List.forall_mem_cons.mpr ⟨lw_p88, List.forall_mem_cons.mpr ⟨lw_p89, List.forall_mem_cons.mpr ⟨lw_p90, List.forall_mem_cons.mpr ⟨lw_p91, List.forall_mem_cons.mpr ⟨lw_p92, List.forall_mem_cons.mpr ⟨lw_p93, List.forall_mem_cons.mpr ⟨lw_p94, List.forall_mem_cons.mpr ⟨lw_p95, fun _ h => absurd h List.not_mem_nil⟩⟩⟩⟩⟩⟩⟩⟩⟩⟩⟩⟩⟩⟩⟩⟩
theorem lw_p96 : lw_okq (⟨"DriftSeaModel", "blow", "()V"⟩, 79) := ⟨⟨by decide +kernel, by decide +kernel⟩, List.mem_of_getElem? (i := 1526) (by decide +kernel), List.mem_of_getElem? (i := 2060) (by decide +kernel), List.mem_of_getElem? (i := 2061) (by decide +kernel)⟩
theorem lw_p97 : lw_okq (⟨"DriftSeaModel", "draw", "(I)I"⟩, 79) := ⟨⟨by decide +kernel, by decide +kernel⟩, List.mem_of_getElem? (i := 1526) (by decide +kernel), List.mem_of_getElem? (i := 2064) (by decide +kernel), List.mem_of_getElem? (i := 2065) (by decide +kernel)⟩
theorem lw_p98 : lw_okq (⟨"DriftSeaModel", "headMany", "()I"⟩, 79) := ⟨⟨by decide +kernel, by decide +kernel⟩, List.mem_of_getElem? (i := 1526) (by decide +kernel), List.mem_of_getElem? (i := 2070) (by decide +kernel), List.mem_of_getElem? (i := 2071) (by decide +kernel)⟩
theorem lw_p99 : lw_okq (⟨"DriftSeaModel", "read", "([IIZ)V"⟩, 79) := ⟨⟨by decide +kernel, by decide +kernel⟩, List.mem_of_getElem? (i := 1526) (by decide +kernel), List.mem_of_getElem? (i := 2079) (by decide +kernel), List.mem_of_getElem? (i := 2080) (by decide +kernel)⟩
theorem lw_p100 : lw_okq (⟨"DriftSeaModel", "putAside", "()V"⟩, 79) := ⟨⟨by decide +kernel, by decide +kernel⟩, List.mem_of_getElem? (i := 1526) (by decide +kernel), List.mem_of_getElem? (i := 2100) (by decide +kernel), List.mem_of_getElem? (i := 2101) (by decide +kernel)⟩
theorem lw_p101 : lw_okq (⟨"DriftSeaModel", "takeBack", "()V"⟩, 79) := ⟨⟨by decide +kernel, by decide +kernel⟩, List.mem_of_getElem? (i := 1526) (by decide +kernel), List.mem_of_getElem? (i := 2104) (by decide +kernel), List.mem_of_getElem? (i := 2105) (by decide +kernel)⟩
theorem lw_p102 : lw_okq (⟨"DriftSeaModel", "areTwo", "(II)Z"⟩, 79) := ⟨⟨by decide +kernel, by decide +kernel⟩, List.mem_of_getElem? (i := 1526) (by decide +kernel), List.mem_of_getElem? (i := 2112) (by decide +kernel), List.mem_of_getElem? (i := 2113) (by decide +kernel)⟩
theorem lw_p103 : lw_okq (⟨"DriftSeaModel", "passAll", "(I)V"⟩, 79) := ⟨⟨by decide +kernel, by decide +kernel⟩, List.mem_of_getElem? (i := 1526) (by decide +kernel), List.mem_of_getElem? (i := 2136) (by decide +kernel), List.mem_of_getElem? (i := 2137) (by decide +kernel)⟩
theorem lw_p104 : lw_okq (⟨"DriftSeaModel", "writeLook", "(I)V"⟩, 79) := ⟨⟨by decide +kernel, by decide +kernel⟩, List.mem_of_getElem? (i := 1526) (by decide +kernel), List.mem_of_getElem? (i := 2148) (by decide +kernel), List.mem_of_getElem? (i := 2149) (by decide +kernel)⟩
theorem lw_p105 : lw_okq (⟨"DriftSeaModel", "areAlike", "(II)Z"⟩, 79) := ⟨⟨by decide +kernel, by decide +kernel⟩, List.mem_of_getElem? (i := 1526) (by decide +kernel), List.mem_of_getElem? (i := 2152) (by decide +kernel), List.mem_of_getElem? (i := 2153) (by decide +kernel)⟩
theorem lw_p106 : lw_okq (⟨"DriftSeaModel", "sailAll", "(III)V"⟩, 79) := ⟨⟨by decide +kernel, by decide +kernel⟩, List.mem_of_getElem? (i := 1526) (by decide +kernel), List.mem_of_getElem? (i := 2172) (by decide +kernel), List.mem_of_getElem? (i := 2173) (by decide +kernel)⟩
theorem lw_p107 : lw_okq (⟨"DriftSeaModel", "areCodes", "(I)Z"⟩, 79) := ⟨⟨by decide +kernel, by decide +kernel⟩, List.mem_of_getElem? (i := 1526) (by decide +kernel), List.mem_of_getElem? (i := 2184) (by decide +kernel), List.mem_of_getElem? (i := 2185) (by decide +kernel)⟩
theorem lw_p108 : lw_okq (⟨"DriftSeaModel", "tryTreaties", "(IIII[I)V"⟩, 79) := ⟨⟨by decide +kernel, by decide +kernel⟩, List.mem_of_getElem? (i := 1526) (by decide +kernel), List.mem_of_getElem? (i := 2188) (by decide +kernel), List.mem_of_getElem? (i := 2189) (by decide +kernel)⟩
theorem lw_p109 : lw_okq (⟨"DriftSeaModel", "doesTreat", "(IIIIII)Z"⟩, 79) := ⟨⟨by decide +kernel, by decide +kernel⟩, List.mem_of_getElem? (i := 1526) (by decide +kernel), List.mem_of_getElem? (i := 2192) (by decide +kernel), List.mem_of_getElem? (i := 2193) (by decide +kernel)⟩
theorem lw_p110 : lw_okq (⟨"DriftSeaModel", "deal", "(IIII)V"⟩, 79) := ⟨⟨by decide +kernel, by decide +kernel⟩, List.mem_of_getElem? (i := 1526) (by decide +kernel), List.mem_of_getElem? (i := 2196) (by decide +kernel), List.mem_of_getElem? (i := 2197) (by decide +kernel)⟩
theorem lw_p111 : lw_okq (⟨"DriftSeaModel", "bickerFrom", "(III)V"⟩, 79) := ⟨⟨by decide +kernel, by decide +kernel⟩, List.mem_of_getElem? (i := 1526) (by decide +kernel), List.mem_of_getElem? (i := 2204) (by decide +kernel), List.mem_of_getElem? (i := 2205) (by decide +kernel)⟩
def lw_privs_7 : List (MethodName × Nat) := [(⟨"DriftSeaModel", "blow", "()V"⟩, 79), (⟨"DriftSeaModel", "draw", "(I)I"⟩, 79), (⟨"DriftSeaModel", "headMany", "()I"⟩, 79), (⟨"DriftSeaModel", "read", "([IIZ)V"⟩, 79), (⟨"DriftSeaModel", "putAside", "()V"⟩, 79), (⟨"DriftSeaModel", "takeBack", "()V"⟩, 79), (⟨"DriftSeaModel", "areTwo", "(II)Z"⟩, 79), (⟨"DriftSeaModel", "passAll", "(I)V"⟩, 79), (⟨"DriftSeaModel", "writeLook", "(I)V"⟩, 79), (⟨"DriftSeaModel", "areAlike", "(II)Z"⟩, 79), (⟨"DriftSeaModel", "sailAll", "(III)V"⟩, 79), (⟨"DriftSeaModel", "areCodes", "(I)Z"⟩, 79), (⟨"DriftSeaModel", "tryTreaties", "(IIII[I)V"⟩, 79), (⟨"DriftSeaModel", "doesTreat", "(IIIIII)Z"⟩, 79), (⟨"DriftSeaModel", "deal", "(IIII)V"⟩, 79), (⟨"DriftSeaModel", "bickerFrom", "(III)V"⟩, 79)]
theorem lw_r7 : ∀ q ∈ lw_privs_7, lw_okq q := List.forall_mem_cons.mpr ⟨lw_p96, List.forall_mem_cons.mpr ⟨lw_p97, List.forall_mem_cons.mpr ⟨lw_p98, List.forall_mem_cons.mpr ⟨lw_p99, List.forall_mem_cons.mpr ⟨lw_p100, List.forall_mem_cons.mpr ⟨lw_p101, List.forall_mem_cons.mpr ⟨lw_p102, List.forall_mem_cons.mpr ⟨lw_p103, List.forall_mem_cons.mpr ⟨lw_p104, List.forall_mem_cons.mpr ⟨lw_p105, List.forall_mem_cons.mpr ⟨lw_p106, List.forall_mem_cons.mpr ⟨lw_p107, List.forall_mem_cons.mpr ⟨lw_p108, List.forall_mem_cons.mpr ⟨lw_p109, List.forall_mem_cons.mpr ⟨lw_p110, List.forall_mem_cons.mpr ⟨lw_p111, fun _ h => absurd h List.not_mem_nil⟩⟩⟩⟩⟩⟩⟩⟩⟩⟩⟩⟩⟩⟩⟩⟩
theorem lw_p112 : lw_okq (⟨"DriftSeaModel", "agrees", "()Z"⟩, 79) := ⟨⟨by decide +kernel, by decide +kernel⟩, List.mem_of_getElem? (i := 1526) (by decide +kernel), List.mem_of_getElem? (i := 2216) (by decide +kernel), List.mem_of_getElem? (i := 2217) (by decide +kernel)⟩
theorem lw_p113 : lw_okq (⟨"DriftSeaModel", "lastChart", "()I"⟩, 79) := ⟨⟨by decide +kernel, by decide +kernel⟩, List.mem_of_getElem? (i := 1526) (by decide +kernel), List.mem_of_getElem? (i := 2220) (by decide +kernel), List.mem_of_getElem? (i := 2221) (by decide +kernel)⟩
theorem lw_p114 : lw_okq (⟨"DriftSeaModel", "isNear", "(III)Z"⟩, 79) := ⟨⟨by decide +kernel, by decide +kernel⟩, List.mem_of_getElem? (i := 1526) (by decide +kernel), List.mem_of_getElem? (i := 2232) (by decide +kernel), List.mem_of_getElem? (i := 2233) (by decide +kernel)⟩
theorem lw_p115 : lw_okq (⟨"DriftSeaModel", "fromAll", "(I)I"⟩, 79) := ⟨⟨by decide +kernel, by decide +kernel⟩, List.mem_of_getElem? (i := 1526) (by decide +kernel), List.mem_of_getElem? (i := 2240) (by decide +kernel), List.mem_of_getElem? (i := 2241) (by decide +kernel)⟩
theorem lw_p116 : lw_okq (⟨"DriftSeaModel", "landOf", "(II)I"⟩, 79) := ⟨⟨by decide +kernel, by decide +kernel⟩, List.mem_of_getElem? (i := 1526) (by decide +kernel), List.mem_of_getElem? (i := 2252) (by decide +kernel), List.mem_of_getElem? (i := 2253) (by decide +kernel)⟩
def lw_privs_8 : List (MethodName × Nat) := [(⟨"DriftSeaModel", "agrees", "()Z"⟩, 79), (⟨"DriftSeaModel", "lastChart", "()I"⟩, 79), (⟨"DriftSeaModel", "isNear", "(III)Z"⟩, 79), (⟨"DriftSeaModel", "fromAll", "(I)I"⟩, 79), (⟨"DriftSeaModel", "landOf", "(II)I"⟩, 79)]
theorem lw_r8 : ∀ q ∈ lw_privs_8, lw_okq q := List.forall_mem_cons.mpr ⟨lw_p112, List.forall_mem_cons.mpr ⟨lw_p113, List.forall_mem_cons.mpr ⟨lw_p114, List.forall_mem_cons.mpr ⟨lw_p115, List.forall_mem_cons.mpr ⟨lw_p116, fun _ h => absurd h List.not_mem_nil⟩⟩⟩⟩⟩
def lw_privs : List (MethodName × Nat) := lw_privs_1 ++ (lw_privs_2 ++ (lw_privs_3 ++ (lw_privs_4 ++ (lw_privs_5 ++ (lw_privs_6 ++ (lw_privs_7 ++ (lw_privs_8)))))))
def lw_tbl : List Cond := k2_sels lw_privs ++ tables_1
theorem lw_privs_ok : ∀ q ∈ lw_privs, lw_okq q := by
  show ∀ q ∈ lw_privs_1 ++ (lw_privs_2 ++ (lw_privs_3 ++ (lw_privs_4 ++ (lw_privs_5 ++ (lw_privs_6 ++ (lw_privs_7 ++ (lw_privs_8))))))), lw_okq q
  exact List.forall_mem_append.mpr ⟨lw_r1, List.forall_mem_append.mpr ⟨lw_r2, List.forall_mem_append.mpr ⟨lw_r3, List.forall_mem_append.mpr ⟨lw_r4, List.forall_mem_append.mpr ⟨lw_r5, List.forall_mem_append.mpr ⟨lw_r6, List.forall_mem_append.mpr ⟨lw_r7, lw_r8⟩⟩⟩⟩⟩⟩⟩
-- ===== end of PART A; then your names; then what follows =====
end
section
/-! ===== THE SMALL MACHINE: values, code lists, one step as a predicate transformer, the least closed predicate ===== -/
abbrev MV : Type := Int32 ⊕ (Int64 ⊕ (Nat × Nat))
abbrev mI (x : Int32) : MV := .inl x
abbrev mL (x : Int64) : MV := .inr (.inl x)
abbrev mR (c i : Nat) : MV := .inr (.inr (c, i))
def mcat : MV → Nat
  | .inr (.inl _) => 2
  | _ => 1
/-- an instruction with what links it: itself, the next pc, two numbers, a list -/
abbrev ME : Type := Instr × Nat × Nat × Nat × List (Int × Nat)
abbrev MC : Type := List (Nat × ME)
def mfetch : MC → Nat → Option ME
  | [], _ => none
  | q :: r, pc => cond (Nat.beq q.1 pc) (some q.2) (mfetch r pc)
abbrev ML : Type := List (Option MV)
def mlg : ML → Nat → Option MV
  | [], _ => none
  | o :: _, 0 => o
  | _ :: r, n + 1 => mlg r n
def mls : ML → Nat → Option MV → ML
  | [], _, _ => []
  | _ :: r, 0, v => v :: r
  | o :: r, n + 1, v => o :: mls r n v
/-- no long stands right below the place -/
def mfree : ML → Nat → Bool
  | _, 0 => true
  | lv, n + 1 => match mlg lv n with
    | some (.inr (.inl _)) => false
    | _ => true
def mwt : List MV → Nat
  | [] => 0
  | v :: r => mcat v + mwt r
def mtake : Nat → List MV → List MV → Option (List MV × List MV)
  | 0, st, acc => some (acc, st)
  | _ + 1, [], _ => none
  | n + 1, v :: st, acc => mtake n st (v :: acc)
def mpush : Option MV → List MV → List MV
  | none, st => st
  | some v, st => v :: st
def minit : List MV → Nat → ML
  | [], n => List.replicate n none
  | .inr (.inl y) :: r, n => some (mL y) :: none :: minit r (n - 2)
  | v :: r, n => some v :: minit r (n - 1)
/-- what a heap can do: fields, their storing, lengths, int arrays and their contents, long arrays, arrays of references, new objects, new arrays; byte arrays and statics that nobody writes; the class of an object -/
abbrev MOps (S : Type) : Type :=
  (S → Nat × Nat → Nat → Nat → Option MV) × (S → Nat × Nat → Nat → Nat → MV → Option S) × (S → Nat × Nat → Option Nat) ×
  (S → Nat × Nat → Option (Nat × (Nat → Int32))) × (S → Nat × Nat → (Nat → Int32) → Option S) ×
  (S → Nat × Nat → Option (Nat × (Nat → Int64))) × (S → Nat × Nat → (Nat → Int64) → Option S) ×
  (S → Nat × Nat → Option (Nat × (Nat → Nat × Nat))) × (S → Nat × Nat → Nat → Nat × Nat → Option S) ×
  (S → Nat → Option ((Nat × Nat) × Nat × S)) × (S → Nat → Nat → Option ((Nat × Nat) × S)) ×
  (S → Nat × Nat → Option (Nat × (Nat → Int32))) × (Nat → Option MV) × (S → Nat × Nat → Option Nat)
abbrev MOps.gf {S : Type} (O : MOps S) := O.1
abbrev MOps.pf {S : Type} (O : MOps S) := O.2.1
abbrev MOps.ln {S : Type} (O : MOps S) := O.2.2.1
abbrev MOps.ai {S : Type} (O : MOps S) := O.2.2.2.1
abbrev MOps.wi {S : Type} (O : MOps S) := O.2.2.2.2.1
abbrev MOps.al {S : Type} (O : MOps S) := O.2.2.2.2.2.1
abbrev MOps.wl {S : Type} (O : MOps S) := O.2.2.2.2.2.2.1
abbrev MOps.ar {S : Type} (O : MOps S) := O.2.2.2.2.2.2.2.1
abbrev MOps.wr {S : Type} (O : MOps S) := O.2.2.2.2.2.2.2.2.1
abbrev MOps.nw {S : Type} (O : MOps S) := O.2.2.2.2.2.2.2.2.2.1
abbrev MOps.na {S : Type} (O : MOps S) := O.2.2.2.2.2.2.2.2.2.2.1
abbrev MOps.ab {S : Type} (O : MOps S) := O.2.2.2.2.2.2.2.2.2.2.2.1
abbrev MOps.gs {S : Type} (O : MOps S) := O.2.2.2.2.2.2.2.2.2.2.2.2.1
abbrev MOps.co {S : Type} (O : MOps S) := O.2.2.2.2.2.2.2.2.2.2.2.2.2
abbrev MK (S : Type) : Type := Nat → ML → List MV → S → Nat × Nat → Prop
abbrev MCall (S : Type) : Type := Nat → List MV → S → (S → Option MV → Prop) → Prop
def jrem (x y : Int32) : Int32 := x - x / y * y
def jremL (x y : Int64) : Int64 := x - x / y * y
def jushr (x y : Int32) : Int32 := (x.toUInt32 >>> (y.toUInt32 &&& Int32.toUInt32 31)).toInt32
def jlushr (x : Int64) (y : Int32) : Int64 := (x.toUInt64 >>> (y.toInt64.toUInt64 &&& Int64.toUInt64 63)).toInt64
def ji2c (x : Int32) : Int32 := (x.toUInt32 % 65536).toInt32
def msw (x : Int32) (K : Nat → Prop) (d : Nat) : List (Int × Nat) → Prop
  | [] => K d
  | q :: r => (x = Int32.ofInt q.1 → K q.2) ∧ (¬ x = Int32.ofInt q.1 → msw x K d r)
def mbin (K : List MV → Prop) (f : Int32 → Int32 → Int32) : List MV → Prop
  | .inl y :: .inl x :: st => K (.inl (f x y) :: st)
  | _ => False
def mbinL (K : List MV → Prop) (f : Int64 → Int64 → Int64) : List MV → Prop
  | .inr (.inl y) :: .inr (.inl x) :: st => K (.inr (.inl (f x y)) :: st)
  | _ => False
def mcmp (c : ClassFile.Cond) (x y : Int32) : Prop := match c with
  | .eq => x = y
  | .ne => ¬ x = y
  | .lt => x < y
  | .ge => y ≤ x
  | .gt => y < x
  | .le => x ≤ y
/-- the other way, as the kit's rows have it -/
def mcmpN (c : ClassFile.Cond) (x y : Int32) : Prop := match c with
  | .eq => ¬ x = y
  | .ne => x = y
  | .lt => ¬ x < y
  | .ge => ¬ y ≤ x
  | .gt => ¬ y < x
  | .le => ¬ x ≤ y
def mload (K : List MV → Prop) (st : List MV) (lv : ML) (n ty : Nat) : Prop := match ty, mlg lv n with
  | 0, some (.inl x) => K (.inl x :: st)
  | 1, some (.inr (.inl x)) => K (.inr (.inl x) :: st)
  | 2, some (.inr (.inr x)) => K (.inr (.inr x) :: st)
  | _, _ => False
def mstore (K : ML → List MV → Prop) (lv : ML) (n ty : Nat) (st : List MV) : Prop := match ty, st with
  | 0, .inl x :: st => cond (mfree lv n && Nat.blt n lv.length) (K (mls lv n (some (.inl x))) st) False
  | 1, .inr (.inl x) :: st => cond (mfree lv n && Nat.blt (n + 1) lv.length) (K (mls (mls lv n (some (.inr (.inl x)))) (n + 1) none) st) False
  | 2, .inr (.inr x) :: st => cond (mfree lv n && Nat.blt n lv.length) (K (mls lv n (some (.inr (.inr x)))) st) False
  | _, _ => False
def mcallK {S : Type} (O : MOps S) (call : MCall S) (K : List MV → S → Nat × Nat → Prop) (kind a n : Nat) (sw : List (Int × Nat)) (st : List MV) (σ : S) (b : Nat × Nat) : Prop := match mtake n st [] with
  | none => False
  | some (as, rest) => cond (Nat.ble (mwt rest) 8) (match kind, as, sw with
    | 0, as, [] => ∃ Q : S → Option MV → Prop, call a as σ Q ∧ ∀ σ' r, Q σ' r → K (mpush r rest) σ' b
    | 1, .inr (.inr r0) :: as, [q] => match O.co σ r0 with
      | some ci => cond (Nat.beq ci q.2) (∃ Q : S → Option MV → Prop, call a (.inr (.inr r0) :: as) σ Q ∧ ∀ σ' r, Q σ' r → K (mpush r rest) σ' b) False
      | none => False
    | 2, .inr (.inr r0) :: as, [q] => match O.co σ r0 with
      | some _ => cond (Nat.ble q.1.toNat b.1 && Nat.ble q.2 b.2) (∃ Q : S → Option MV → Prop, call a (.inr (.inr r0) :: as) σ Q ∧ ∀ σ' r, Q σ' r → K (mpush r rest) σ' (b.1 - q.1.toNat, b.2 - q.2)) False
      | none => False
    | _, _, _ => False) False
/-- one instruction: what must hold so that K holds behind it -/
def mstep {S : Type} (O : MOps S) (call : MCall S) (rt : Nat) (Post : S → Option MV → Prop) (K : MK S) (e : ME) (lv : ML) (st : List MV) (σ : S) (b : Nat × Nat) : Prop := match e with
  | (ins, nx, a, k, sw) => match ins with
    | .iload n => mload (fun st => K nx lv st σ b) st lv n 0
    | .iload_n n => mload (fun st => K nx lv st σ b) st lv n.val 0
    | .lload n => mload (fun st => K nx lv st σ b) st lv n 1
    | .lload_n n => mload (fun st => K nx lv st σ b) st lv n.val 1
    | .aload n => mload (fun st => K nx lv st σ b) st lv n 2
    | .aload_n n => mload (fun st => K nx lv st σ b) st lv n.val 2
    | .istore n => mstore (fun lv st => K nx lv st σ b) lv n 0 st
    | .istore_n n => mstore (fun lv st => K nx lv st σ b) lv n.val 0 st
    | .lstore n => mstore (fun lv st => K nx lv st σ b) lv n 1 st
    | .lstore_n n => mstore (fun lv st => K nx lv st σ b) lv n.val 1 st
    | .astore n => mstore (fun lv st => K nx lv st σ b) lv n 2 st
    | .astore_n n => mstore (fun lv st => K nx lv st σ b) lv n.val 2 st
    | .iconst n => K nx lv (.inl (Int32.ofInt n) :: st) σ b
    | .bipush n => K nx lv (.inl (Int32.ofInt n) :: st) σ b
    | .sipush n => K nx lv (.inl (Int32.ofInt n) :: st) σ b
    | .lconst n => K nx lv (.inr (.inl (Int64.ofNat n.val)) :: st) σ b
    | .aconst_null => K nx lv (.inr (.inr (0, 0)) :: st) σ b
    | .ldc _ => match sw with
      | [] => K nx lv (.inr (.inr (2, a)) :: st) σ b
      | q :: _ => K nx lv (.inl (Int32.ofInt q.1) :: st) σ b
    | .ldc_w _ => match sw with
      | [] => False
      | q :: _ => K nx lv (.inl (Int32.ofInt q.1) :: st) σ b
    | .ldc2_w _ => match sw with
      | [] => False
      | q :: _ => K nx lv (.inr (.inl (Int64.ofInt q.1)) :: st) σ b
    | .iadd => mbin (fun st => K nx lv st σ b) (fun x y => x + y) st
    | .isub => mbin (fun st => K nx lv st σ b) (fun x y => x - y) st
    | .imul => mbin (fun st => K nx lv st σ b) (fun x y => x * y) st
    | .iand => mbin (fun st => K nx lv st σ b) (fun x y => x &&& y) st
    | .ior => mbin (fun st => K nx lv st σ b) (fun x y => x ||| y) st
    | .ixor => mbin (fun st => K nx lv st σ b) (fun x y => x ^^^ y) st
    | .ishl => mbin (fun st => K nx lv st σ b) (fun x y => x <<< y) st
    | .ishr => mbin (fun st => K nx lv st σ b) (fun x y => x >>> y) st
    | .iushr => mbin (fun st => K nx lv st σ b) jushr st
    | .idiv => match st with
      | .inl y :: .inl x :: st => ¬ y = 0 ∧ K nx lv (.inl (x / y) :: st) σ b
      | _ => False
    | .irem => match st with
      | .inl y :: .inl x :: st => ¬ y = 0 ∧ K nx lv (.inl (jrem x y) :: st) σ b
      | _ => False
    | .ineg => match st with
      | .inl x :: st => K nx lv (.inl (0 - x) :: st) σ b
      | _ => False
    | .ladd => mbinL (fun st => K nx lv st σ b) (fun x y => x + y) st
    | .lsub => mbinL (fun st => K nx lv st σ b) (fun x y => x - y) st
    | .lmul => mbinL (fun st => K nx lv st σ b) (fun x y => x * y) st
    | .land => mbinL (fun st => K nx lv st σ b) (fun x y => x &&& y) st
    | .lor => mbinL (fun st => K nx lv st σ b) (fun x y => x ||| y) st
    | .ldiv => match st with
      | .inr (.inl y) :: .inr (.inl x) :: st => ¬ y = 0 ∧ K nx lv (.inr (.inl (x / y)) :: st) σ b
      | _ => False
    | .lrem => match st with
      | .inr (.inl y) :: .inr (.inl x) :: st => ¬ y = 0 ∧ K nx lv (.inr (.inl (jremL x y)) :: st) σ b
      | _ => False
    | .lushr => match st with
      | .inl y :: .inr (.inl x) :: st => K nx lv (.inr (.inl (jlushr x y)) :: st) σ b
      | _ => False
    | .lshl => match st with
      | .inl y :: .inr (.inl x) :: st => K nx lv (.inr (.inl (x <<< y.toInt64)) :: st) σ b
      | _ => False
    | .lcmp => match st with
      | .inr (.inl y) :: .inr (.inl x) :: st => K nx lv (.inl (if x < y then -1 else if y < x then 1 else 0) :: st) σ b
      | _ => False
    | .i2l => match st with
      | .inl x :: st => K nx lv (.inr (.inl x.toInt64) :: st) σ b
      | _ => False
    | .l2i => match st with
      | .inr (.inl x) :: st => K nx lv (.inl x.toInt32 :: st) σ b
      | _ => False
    | .i2c => match st with
      | .inl x :: st => K nx lv (.inl (ji2c x) :: st) σ b
      | _ => False
    | .i2b => match st with
      | .inl x :: st => K nx lv (.inl x.toInt8.toInt32 :: st) σ b
      | _ => False
    | .dup => match st with
      | v :: st => cond (Nat.beq (mcat v) 1) (K nx lv (v :: v :: st) σ b) False
      | _ => False
    | .dup2 => match st with
      | v :: w :: st => cond (Nat.beq (mcat v) 1 && Nat.beq (mcat w) 1) (K nx lv (v :: w :: v :: w :: st) σ b) (cond (Nat.beq (mcat v) 2) (K nx lv (v :: v :: w :: st) σ b) False)
      | _ => False
    | .pop => match st with
      | v :: st => cond (Nat.beq (mcat v) 1) (K nx lv st σ b) False
      | _ => False
    | .iinc n c => match mlg lv n with
      | some (.inl x) => cond (mfree lv n) (K nx (mls lv n (some (.inl (x + Int32.ofInt c)))) st σ b) False
      | _ => False
    | .ifCond c _ => match st with
      | .inl x :: st => (mcmp c x 0 → K a lv st σ b) ∧ (mcmpN c x 0 → K nx lv st σ b)
      | _ => False
    | .if_icmp c _ => match st with
      | .inl y :: .inl x :: st => (mcmp c x y → K a lv st σ b) ∧ (mcmpN c x y → K nx lv st σ b)
      | _ => False
    | .ifnonnull _ => match st with
      | .inr (.inr r) :: st => ¬ r.1 = 1 ∧ (¬ r.1 = 0 → K a lv st σ b) ∧ (r.1 = 0 → K nx lv st σ b)
      | _ => False
    | .goto _ => K a lv st σ b
    | .tableswitch _ _ _ _ => match st with
      | .inl x :: st => msw x (fun t => K t lv st σ b) a sw
      | _ => False
    | .lookupswitch _ _ => match st with
      | .inl x :: st => msw x (fun t => K t lv st σ b) a sw
      | _ => False
    | .getfield _ => match st with
      | .inr (.inr r) :: st => match O.gf σ r a k with
        | some v => K nx lv (v :: st) σ b
        | none => False
      | _ => False
    | .putfield _ => match st with
      | v :: .inr (.inr r) :: st => match O.pf σ r a k v with
        | some σ' => K nx lv st σ' b
        | none => False
      | _ => False
    | .getstatic _ => match O.gs a with
      | some v => K nx lv (v :: st) σ b
      | none => False
    | .iaload => match st with
      | .inl i :: .inr (.inr r) :: st => match O.ai σ r with
        | some q => ∃ j : Nat, j < q.1 ∧ i = nI j ∧ K nx lv (.inl (q.2 j) :: st) σ b
        | none => False
      | _ => False
    | .baload => match st with
      | .inl i :: .inr (.inr r) :: st => match O.ab σ r with
        | some q => ∃ j : Nat, j < q.1 ∧ i = nI j ∧ K nx lv (.inl (q.2 j) :: st) σ b
        | none => False
      | _ => False
    | .laload => match st with
      | .inl i :: .inr (.inr r) :: st => match O.al σ r with
        | some q => ∃ j : Nat, j < q.1 ∧ i = nI j ∧ K nx lv (.inr (.inl (q.2 j)) :: st) σ b
        | none => False
      | _ => False
    | .aaload => match st with
      | .inl i :: .inr (.inr r) :: st => match O.ar σ r with
        | some q => ∃ j : Nat, j < q.1 ∧ i = nI j ∧ K nx lv (.inr (.inr (q.2 j)) :: st) σ b
        | none => False
      | _ => False
    | .iastore => match st with
      | .inl x :: .inl i :: .inr (.inr r) :: st => match O.ai σ r with
        | some q => ∃ j : Nat, j < q.1 ∧ i = nI j ∧ (match O.wi σ r (upd q.2 j x) with
          | some σ' => K nx lv st σ' b
          | none => False)
        | none => False
      | _ => False
    | .lastore => match st with
      | .inr (.inl x) :: .inl i :: .inr (.inr r) :: st => match O.al σ r with
        | some q => ∃ j : Nat, j < q.1 ∧ i = nI j ∧ (match O.wl σ r (vp_updL q.2 j x) with
          | some σ' => K nx lv st σ' b
          | none => False)
        | none => False
      | _ => False
    | .aastore => match st with
      | .inr (.inr x) :: .inl i :: .inr (.inr r) :: st => match O.ar σ r with
        | some q => ∃ j : Nat, j < q.1 ∧ i = nI j ∧ (match O.wr σ r j x with
          | some σ' => K nx lv st σ' b
          | none => False)
        | none => False
      | _ => False
    | .arraylength => match st with
      | .inr (.inr r) :: st => match O.ln σ r with
        | some n => K nx lv (.inl (nI n) :: st) σ b
        | none => False
      | _ => False
    | .new _ => match O.nw σ a with
      | some q => cond (Nat.ble 1 b.1 && Nat.ble q.2.1 b.2) (K nx lv (.inr (.inr q.1) :: st) q.2.2 (b.1 - 1, b.2 - q.2.1)) False
      | none => False
    | .newarray _ => match st with
      | .inl i :: st => ∃ n : Nat, n < 100000 ∧ i = nI n ∧ (match O.na σ a n with
        | some q => cond (Nat.ble 1 b.1 && Nat.ble n b.2) (K nx lv (.inr (.inr q.1) :: st) q.2 (b.1 - 1, b.2 - n)) False
        | none => False)
      | _ => False
    | .anewarray _ => match st with
      | .inl i :: st => ∃ n : Nat, n < 100000 ∧ i = nI n ∧ (match O.na σ a n with
        | some q => cond (Nat.ble 1 b.1 && Nat.ble n b.2) (K nx lv (.inr (.inr q.1) :: st) q.2 (b.1 - 1, b.2 - n)) False
        | none => False)
      | _ => False
    | .invokestatic _ => match a with
      | 0 => match st with
        | .inl n :: .inl dp :: .inr (.inr r1) :: .inl sp :: .inr (.inr r0) :: st => match O.ai σ r0, O.ai σ r1 with
          | some q0, some q1 => ∃ n' dp' sp' : Nat, n = nI n' ∧ dp = nI dp' ∧ sp = nI sp' ∧ sp' + n' ≤ q0.1 ∧ dp' + n' ≤ q1.1 ∧ Nat.ble (mwt st) 8 = true ∧ (match O.wi σ r1 (va_cpy q0.2 q1.2 sp' dp' n') with
            | some σ' => K nx lv st σ' b
            | none => False)
          | _, _ => False
        | _ => False
      | a + 1 => mcallK O call (fun st σ b => K nx lv st σ b) 0 a k sw st σ b
    | .invokevirtual _ => mcallK O call (fun st σ b => K nx lv st σ b) 1 a k sw st σ b
    | .invokespecial _ => match a with
      | 0 => match st with
        | .inr (.inr _) :: st => cond (Nat.ble (mwt st) 8) (K nx lv st σ b) False
        | _ => False
      | a + 1 => mcallK O call (fun st σ b => K nx lv st σ b) 2 a k sw st σ b
    | .ireturn => match rt, st with
      | 1, [.inl x] => Post σ (some (.inl x))
      | 2, [.inl x] => (x = 0 ∨ x = 1) ∧ Post σ (some (.inl x))
      | 3, [.inl x] => (∃ j : Nat, j < 65536 ∧ x = nI j) ∧ Post σ (some (.inl x))
      | _, _ => False
    | .lreturn => match rt, st with
      | 4, [.inr (.inl x)] => Post σ (some (.inr (.inl x)))
      | _, _ => False
    | .return_ => match rt, st with
      | 0, [] => Post σ none
      | _, _ => False
    | _ => False
def mat {S : Type} (O : MOps S) (call : MCall S) (cd : MC) (rt : Nat) (Post : S → Option MV → Prop) (K : MK S) : MK S := fun pc lv st σ b => match mfetch cd pc with
  | some e => mstep O call rt Post K e lv st σ b
  | none => False
/-- closed under one step backwards -/
abbrev MClosed {S : Type} (O : MOps S) (call : MCall S) (cd : MC) (rt : Nat) (Post : S → Option MV → Prop) (P : MK S) : Prop := ∀ pc lv st σ b, mat O call cd rt Post P pc lv st σ b → P pc lv st σ b
def mrun {S : Type} (O : MOps S) (call : MCall S) (cd : MC) (rt : Nat) (Post : S → Option MV → Prop) : MK S := fun pc lv st σ b => ∀ P : MK S, MClosed O call cd rt Post P → P pc lv st σ b
/-- up to n steps, but none at a pc of the list -/
def mgo {S : Type} (O : MOps S) (call : MCall S) (cd : MC) (rt : Nat) (Post : S → Option MV → Prop) (P : MK S) (cut : List Nat) : Nat → MK S
  | 0 => P
  | n + 1 => fun pc lv st σ b => cond (cut.elem pc) (P pc lv st σ b) (mat O call cd rt Post (mgo O call cd rt Post P cut n) pc lv st σ b)
end
