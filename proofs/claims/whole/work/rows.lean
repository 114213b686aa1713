section
-- ===== PART A: goes FIRST, ahead of the names: the tables' words, and 'selects' of the private methods out of them =====
/-- a private method of a class that the tables say can be made, by its rows of tables_1 -/
def lw_okq (q : MethodName × Nat) : Prop := (q.1.cls ≠ "java/lang/invoke/MethodHandle" ∧ q.1.cls ≠ "java/lang/invoke/VarHandle") ∧ Cond.instantiable q.1.cls q.2 ∈ tables_1 ∧ Cond.privateMethod q.1 ∈ tables_1 ∧ Cond.instanceMethod q.1 ∈ tables_1
theorem lw_p0 : lw_okq (⟨"WishLine", "refused", "(I)I"⟩, 10) := ⟨⟨by decide +kernel, by decide +kernel⟩, List.mem_of_getElem? (i := 14) (by decide +kernel), List.mem_of_getElem? (i := 310) (by decide +kernel), List.mem_of_getElem? (i := 311) (by decide +kernel)⟩
theorem lw_p1 : lw_okq (⟨"WishLine", "done", "(I)I"⟩, 10) := ⟨⟨by decide +kernel, by decide +kernel⟩, List.mem_of_getElem? (i := 14) (by decide +kernel), List.mem_of_getElem? (i := 314) (by decide +kernel), List.mem_of_getElem? (i := 315) (by decide +kernel)⟩
theorem lw_p2 : lw_okq (⟨"WishLine", "isWish", "(IIIII)Z"⟩, 10) := ⟨⟨by decide +kernel, by decide +kernel⟩, List.mem_of_getElem? (i := 14) (by decide +kernel), List.mem_of_getElem? (i := 322) (by decide +kernel), List.mem_of_getElem? (i := 323) (by decide +kernel)⟩
theorem lw_p3 : lw_okq (⟨"WishLine", "isJudged", "(IIIII)Z"⟩, 10) := ⟨⟨by decide +kernel, by decide +kernel⟩, List.mem_of_getElem? (i := 14) (by decide +kernel), List.mem_of_getElem? (i := 590) (by decide +kernel), List.mem_of_getElem? (i := 591) (by decide +kernel)⟩
theorem lw_p4 : lw_okq (⟨"WishLine$Judge", "search", "(II)Z"⟩, 8) := ⟨⟨by decide +kernel, by decide +kernel⟩, List.mem_of_getElem? (i := 193) (by decide +kernel), List.mem_of_getElem? (i := 617) (by decide +kernel), List.mem_of_getElem? (i := 618) (by decide +kernel)⟩
theorem lw_p5 : lw_okq (⟨"WishLine$Bodies", "hear", "(II)I"⟩, 6) := ⟨⟨by decide +kernel, by decide +kernel⟩, List.mem_of_getElem? (i := 231) (by decide +kernel), List.mem_of_getElem? (i := 681) (by decide +kernel), List.mem_of_getElem? (i := 682) (by decide +kernel)⟩
theorem lw_p6 : lw_okq (⟨"WishLine$Bodies", "begin", "(I)V"⟩, 6) := ⟨⟨by decide +kernel, by decide +kernel⟩, List.mem_of_getElem? (i := 231) (by decide +kernel), List.mem_of_getElem? (i := 685) (by decide +kernel), List.mem_of_getElem? (i := 686) (by decide +kernel)⟩
theorem lw_p7 : lw_okq (⟨"WishLine$Bodies", "pay", "(II)I"⟩, 6) := ⟨⟨by decide +kernel, by decide +kernel⟩, List.mem_of_getElem? (i := 231) (by decide +kernel), List.mem_of_getElem? (i := 689) (by decide +kernel), List.mem_of_getElem? (i := 690) (by decide +kernel)⟩
theorem lw_p8 : lw_okq (⟨"WishLine$Bodies", "turn", "(II)I"⟩, 6) := ⟨⟨by decide +kernel, by decide +kernel⟩, List.mem_of_getElem? (i := 231) (by decide +kernel), List.mem_of_getElem? (i := 693) (by decide +kernel), List.mem_of_getElem? (i := 694) (by decide +kernel)⟩
theorem lw_p9 : lw_okq (⟨"WishLine$Bodies", "end", "(II)I"⟩, 6) := ⟨⟨by decide +kernel, by decide +kernel⟩, List.mem_of_getElem? (i := 231) (by decide +kernel), List.mem_of_getElem? (i := 697) (by decide +kernel), List.mem_of_getElem? (i := 698) (by decide +kernel)⟩
theorem lw_p10 : lw_okq (⟨"WishLine", "orderedFrom", "(II)I"⟩, 10) := ⟨⟨by decide +kernel, by decide +kernel⟩, List.mem_of_getElem? (i := 14) (by decide +kernel), List.mem_of_getElem? (i := 739) (by decide +kernel), List.mem_of_getElem? (i := 740) (by decide +kernel)⟩
theorem lw_p11 : lw_okq (⟨"WishLine", "takenForKind", "(II)I"⟩, 10) := ⟨⟨by decide +kernel, by decide +kernel⟩, List.mem_of_getElem? (i := 14) (by decide +kernel), List.mem_of_getElem? (i := 754) (by decide +kernel), List.mem_of_getElem? (i := 755) (by decide +kernel)⟩
theorem lw_p12 : lw_okq (⟨"WishLine", "readAsShort", "(II)I"⟩, 10) := ⟨⟨by decide +kernel, by decide +kernel⟩, List.mem_of_getElem? (i := 14) (by decide +kernel), List.mem_of_getElem? (i := 758) (by decide +kernel), List.mem_of_getElem? (i := 759) (by decide +kernel)⟩
theorem lw_p13 : lw_okq (⟨"WishLine", "copiedAsBytes", "(II)I"⟩, 10) := ⟨⟨by decide +kernel, by decide +kernel⟩, List.mem_of_getElem? (i := 14) (by decide +kernel), List.mem_of_getElem? (i := 762) (by decide +kernel), List.mem_of_getElem? (i := 763) (by decide +kernel)⟩
theorem lw_p14 : lw_okq (⟨"WishLine", "putAmongShut", "(I)I"⟩, 10) := ⟨⟨by decide +kernel, by decide +kernel⟩, List.mem_of_getElem? (i := 14) (by decide +kernel), List.mem_of_getElem? (i := 766) (by decide +kernel), List.mem_of_getElem? (i := 767) (by decide +kernel)⟩
theorem lw_p15 : lw_okq (⟨"WishLineModel", "refused", "(I)I"⟩, 40) := ⟨⟨by decide +kernel, by decide +kernel⟩, List.mem_of_getElem? (i := 774) (by decide +kernel), List.mem_of_getElem? (i := 905) (by decide +kernel), List.mem_of_getElem? (i := 906) (by decide +kernel)⟩
def lw_privs_1 : List (MethodName × Nat) := [(⟨"WishLine", "refused", "(I)I"⟩, 10), (⟨"WishLine", "done", "(I)I"⟩, 10), (⟨"WishLine", "isWish", "(IIIII)Z"⟩, 10), (⟨"WishLine", "isJudged", "(IIIII)Z"⟩, 10), (⟨"WishLine$Judge", "search", "(II)Z"⟩, 8), (⟨"WishLine$Bodies", "hear", "(II)I"⟩, 6), (⟨"WishLine$Bodies", "begin", "(I)V"⟩, 6), (⟨"WishLine$Bodies", "pay", "(II)I"⟩, 6), (⟨"WishLine$Bodies", "turn", "(II)I"⟩, 6), (⟨"WishLine$Bodies", "end", "(II)I"⟩, 6), (⟨"WishLine", "orderedFrom", "(II)I"⟩, 10), (⟨"WishLine", "takenForKind", "(II)I"⟩, 10), (⟨"WishLine", "readAsShort", "(II)I"⟩, 10), (⟨"WishLine", "copiedAsBytes", "(II)I"⟩, 10), (⟨"WishLine", "putAmongShut", "(I)I"⟩, 10), (⟨"WishLineModel", "refused", "(I)I"⟩, 40)]
theorem lw_r1 : ∀ q ∈ lw_privs_1, lw_okq q := List.forall_mem_cons.mpr ⟨lw_p0, List.forall_mem_cons.mpr ⟨lw_p1, List.forall_mem_cons.mpr ⟨lw_p2, List.forall_mem_cons.mpr ⟨lw_p3, List.forall_mem_cons.mpr ⟨lw_p4, List.forall_mem_cons.mpr ⟨lw_p5, List.forall_mem_cons.mpr ⟨lw_p6, List.forall_mem_cons.mpr ⟨lw_p7, List.forall_mem_cons.mpr ⟨lw_p8, List.forall_mem_cons.mpr ⟨lw_p9, List.forall_mem_cons.mpr ⟨lw_p10, List.forall_mem_cons.mpr ⟨lw_p11, List.forall_mem_cons.mpr ⟨lw_p12, List.forall_mem_cons.mpr ⟨lw_p13, List.forall_mem_cons.mpr ⟨lw_p14, List.forall_mem_cons.mpr ⟨lw_p15, fun _ h => absurd h List.not_mem_nil⟩⟩⟩⟩⟩⟩⟩⟩⟩⟩⟩⟩⟩⟩⟩⟩
theorem lw_p16 : lw_okq (⟨"WishLineModel", "done", "(I)I"⟩, 40) := ⟨⟨by decide +kernel, by decide +kernel⟩, List.mem_of_getElem? (i := 774) (by decide +kernel), List.mem_of_getElem? (i := 909) (by decide +kernel), List.mem_of_getElem? (i := 910) (by decide +kernel)⟩
theorem lw_p17 : lw_okq (⟨"WishLineModel", "isGood", "(IIIII)Z"⟩, 40) := ⟨⟨by decide +kernel, by decide +kernel⟩, List.mem_of_getElem? (i := 774) (by decide +kernel), List.mem_of_getElem? (i := 917) (by decide +kernel), List.mem_of_getElem? (i := 918) (by decide +kernel)⟩
theorem lw_p18 : lw_okq (⟨"WishLineModel", "isLine", "(I)Z"⟩, 40) := ⟨⟨by decide +kernel, by decide +kernel⟩, List.mem_of_getElem? (i := 774) (by decide +kernel), List.mem_of_getElem? (i := 921) (by decide +kernel), List.mem_of_getElem? (i := 922) (by decide +kernel)⟩
theorem lw_p19 : lw_okq (⟨"WishLineModel", "adds", "(IIIII)I"⟩, 40) := ⟨⟨by decide +kernel, by decide +kernel⟩, List.mem_of_getElem? (i := 774) (by decide +kernel), List.mem_of_getElem? (i := 931) (by decide +kernel), List.mem_of_getElem? (i := 932) (by decide +kernel)⟩
theorem lw_p20 : lw_okq (⟨"WishLineModel", "isWish", "(I)Z"⟩, 40) := ⟨⟨by decide +kernel, by decide +kernel⟩, List.mem_of_getElem? (i := 774) (by decide +kernel), List.mem_of_getElem? (i := 939) (by decide +kernel), List.mem_of_getElem? (i := 940) (by decide +kernel)⟩
theorem lw_p21 : lw_okq (⟨"WishLineModel", "isFree", "(I)Z"⟩, 40) := ⟨⟨by decide +kernel, by decide +kernel⟩, List.mem_of_getElem? (i := 774) (by decide +kernel), List.mem_of_getElem? (i := 951) (by decide +kernel), List.mem_of_getElem? (i := 952) (by decide +kernel)⟩
theorem lw_p22 : lw_okq (⟨"WishLineModel", "callOf", "(I)I"⟩, 40) := ⟨⟨by decide +kernel, by decide +kernel⟩, List.mem_of_getElem? (i := 774) (by decide +kernel), List.mem_of_getElem? (i := 955) (by decide +kernel), List.mem_of_getElem? (i := 956) (by decide +kernel)⟩
theorem lw_p23 : lw_okq (⟨"WishLineModel", "dials", "(II)I"⟩, 40) := ⟨⟨by decide +kernel, by decide +kernel⟩, List.mem_of_getElem? (i := 774) (by decide +kernel), List.mem_of_getElem? (i := 959) (by decide +kernel), List.mem_of_getElem? (i := 960) (by decide +kernel)⟩
theorem lw_p24 : lw_okq (⟨"WishLineModel", "goes", "(III)V"⟩, 40) := ⟨⟨by decide +kernel, by decide +kernel⟩, List.mem_of_getElem? (i := 774) (by decide +kernel), List.mem_of_getElem? (i := 963) (by decide +kernel), List.mem_of_getElem? (i := 964) (by decide +kernel)⟩
theorem lw_p25 : lw_okq (⟨"WishLineModel", "isInRow", "(II)Z"⟩, 40) := ⟨⟨by decide +kernel, by decide +kernel⟩, List.mem_of_getElem? (i := 774) (by decide +kernel), List.mem_of_getElem? (i := 967) (by decide +kernel), List.mem_of_getElem? (i := 968) (by decide +kernel)⟩
theorem lw_p26 : lw_okq (⟨"WishLineModel", "ends", "(II)V"⟩, 40) := ⟨⟨by decide +kernel, by decide +kernel⟩, List.mem_of_getElem? (i := 774) (by decide +kernel), List.mem_of_getElem? (i := 971) (by decide +kernel), List.mem_of_getElem? (i := 972) (by decide +kernel)⟩
theorem lw_p27 : lw_okq (⟨"WishLineModel", "comesTo", "(III)V"⟩, 40) := ⟨⟨by decide +kernel, by decide +kernel⟩, List.mem_of_getElem? (i := 774) (by decide +kernel), List.mem_of_getElem? (i := 975) (by decide +kernel), List.mem_of_getElem? (i := 976) (by decide +kernel)⟩
theorem lw_p28 : lw_okq (⟨"WishLineModel", "has", "(II)Z"⟩, 40) := ⟨⟨by decide +kernel, by decide +kernel⟩, List.mem_of_getElem? (i := 774) (by decide +kernel), List.mem_of_getElem? (i := 979) (by decide +kernel), List.mem_of_getElem? (i := 980) (by decide +kernel)⟩
theorem lw_p29 : lw_okq (⟨"WishLineModel", "actsAt", "(III)I"⟩, 40) := ⟨⟨by decide +kernel, by decide +kernel⟩, List.mem_of_getElem? (i := 774) (by decide +kernel), List.mem_of_getElem? (i := 983) (by decide +kernel), List.mem_of_getElem? (i := 984) (by decide +kernel)⟩
theorem lw_p30 : lw_okq (⟨"WishLineModel", "wishBehind", "(II)I"⟩, 40) := ⟨⟨by decide +kernel, by decide +kernel⟩, List.mem_of_getElem? (i := 774) (by decide +kernel), List.mem_of_getElem? (i := 987) (by decide +kernel), List.mem_of_getElem? (i := 988) (by decide +kernel)⟩
theorem lw_p31 : lw_okq (⟨"WishLineModel", "doesAct", "(III)Z"⟩, 40) := ⟨⟨by decide +kernel, by decide +kernel⟩, List.mem_of_getElem? (i := 774) (by decide +kernel), List.mem_of_getElem? (i := 991) (by decide +kernel), List.mem_of_getElem? (i := 992) (by decide +kernel)⟩
def lw_privs_2 : List (MethodName × Nat) := [(⟨"WishLineModel", "done", "(I)I"⟩, 40), (⟨"WishLineModel", "isGood", "(IIIII)Z"⟩, 40), (⟨"WishLineModel", "isLine", "(I)Z"⟩, 40), (⟨"WishLineModel", "adds", "(IIIII)I"⟩, 40), (⟨"WishLineModel", "isWish", "(I)Z"⟩, 40), (⟨"WishLineModel", "isFree", "(I)Z"⟩, 40), (⟨"WishLineModel", "callOf", "(I)I"⟩, 40), (⟨"WishLineModel", "dials", "(II)I"⟩, 40), (⟨"WishLineModel", "goes", "(III)V"⟩, 40), (⟨"WishLineModel", "isInRow", "(II)Z"⟩, 40), (⟨"WishLineModel", "ends", "(II)V"⟩, 40), (⟨"WishLineModel", "comesTo", "(III)V"⟩, 40), (⟨"WishLineModel", "has", "(II)Z"⟩, 40), (⟨"WishLineModel", "actsAt", "(III)I"⟩, 40), (⟨"WishLineModel", "wishBehind", "(II)I"⟩, 40), (⟨"WishLineModel", "doesAct", "(III)Z"⟩, 40)]
theorem lw_r2 : ∀ q ∈ lw_privs_2, lw_okq q := List.forall_mem_cons.mpr ⟨lw_p16, List.forall_mem_cons.mpr ⟨lw_p17, List.forall_mem_cons.mpr ⟨lw_p18, List.forall_mem_cons.mpr ⟨lw_p19, List.forall_mem_cons.mpr ⟨lw_p20, List.forall_mem_cons.mpr ⟨lw_p21, List.forall_mem_cons.mpr ⟨lw_p22, List.forall_mem_cons.mpr ⟨lw_p23, List.forall_mem_cons.mpr ⟨lw_p24, List.forall_mem_cons.mpr ⟨lw_p25, List.forall_mem_cons.mpr ⟨lw_p26, List.forall_mem_cons.mpr ⟨lw_p27, List.forall_mem_cons.mpr ⟨lw_p28, List.forall_mem_cons.mpr ⟨lw_p29, List.forall_mem_cons.mpr ⟨lw_p30, List.forall_mem_cons.mpr ⟨lw_p31, fun _ h => absurd h List.not_mem_nil⟩⟩⟩⟩⟩⟩⟩⟩⟩⟩⟩⟩⟩⟩⟩⟩
theorem lw_p32 : lw_okq (⟨"WishLineModel", "isHour", "(I)Z"⟩, 40) := ⟨⟨by decide +kernel, by decide +kernel⟩, List.mem_of_getElem? (i := 774) (by decide +kernel), List.mem_of_getElem? (i := 995) (by decide +kernel), List.mem_of_getElem? (i := 996) (by decide +kernel)⟩
theorem lw_p33 : lw_okq (⟨"WishLineModel", "knockAt", "(I)I"⟩, 40) := ⟨⟨by decide +kernel, by decide +kernel⟩, List.mem_of_getElem? (i := 774) (by decide +kernel), List.mem_of_getElem? (i := 999) (by decide +kernel), List.mem_of_getElem? (i := 1000) (by decide +kernel)⟩
theorem lw_p34 : lw_okq (⟨"WishLineModel", "arrives", "(II)V"⟩, 40) := ⟨⟨by decide +kernel, by decide +kernel⟩, List.mem_of_getElem? (i := 774) (by decide +kernel), List.mem_of_getElem? (i := 1003) (by decide +kernel), List.mem_of_getElem? (i := 1004) (by decide +kernel)⟩
theorem lw_p35 : lw_okq (⟨"WishLineModel", "rings", "(II)V"⟩, 40) := ⟨⟨by decide +kernel, by decide +kernel⟩, List.mem_of_getElem? (i := 774) (by decide +kernel), List.mem_of_getElem? (i := 1007) (by decide +kernel), List.mem_of_getElem? (i := 1008) (by decide +kernel)⟩
theorem lw_p36 : lw_okq (⟨"WishLineModel", "wishesBack", "(II)V"⟩, 40) := ⟨⟨by decide +kernel, by decide +kernel⟩, List.mem_of_getElem? (i := 774) (by decide +kernel), List.mem_of_getElem? (i := 1011) (by decide +kernel), List.mem_of_getElem? (i := 1012) (by decide +kernel)⟩
theorem lw_p37 : lw_okq (⟨"WishLineModel", "notes", "(II)V"⟩, 40) := ⟨⟨by decide +kernel, by decide +kernel⟩, List.mem_of_getElem? (i := 774) (by decide +kernel), List.mem_of_getElem? (i := 1015) (by decide +kernel), List.mem_of_getElem? (i := 1016) (by decide +kernel)⟩
theorem lw_p38 : lw_okq (⟨"WishLineModel", "settles", "()V"⟩, 40) := ⟨⟨by decide +kernel, by decide +kernel⟩, List.mem_of_getElem? (i := 774) (by decide +kernel), List.mem_of_getElem? (i := 1019) (by decide +kernel), List.mem_of_getElem? (i := 1020) (by decide +kernel)⟩
theorem lw_p39 : lw_okq (⟨"WishLineModel", "rangOn", "(I)V"⟩, 40) := ⟨⟨by decide +kernel, by decide +kernel⟩, List.mem_of_getElem? (i := 774) (by decide +kernel), List.mem_of_getElem? (i := 1035) (by decide +kernel), List.mem_of_getElem? (i := 1036) (by decide +kernel)⟩
theorem lw_p40 : lw_okq (⟨"WishLineModel", "callsBack", "()V"⟩, 40) := ⟨⟨by decide +kernel, by decide +kernel⟩, List.mem_of_getElem? (i := 774) (by decide +kernel), List.mem_of_getElem? (i := 1039) (by decide +kernel), List.mem_of_getElem? (i := 1040) (by decide +kernel)⟩
theorem lw_p41 : lw_okq (⟨"WishLineModel", "keepsAll", "([IZ)V"⟩, 40) := ⟨⟨by decide +kernel, by decide +kernel⟩, List.mem_of_getElem? (i := 774) (by decide +kernel), List.mem_of_getElem? (i := 1047) (by decide +kernel), List.mem_of_getElem? (i := 1048) (by decide +kernel)⟩
theorem lw_p42 : lw_okq (⟨"WishLineModel", "keeps", "([I[IZ)V"⟩, 40) := ⟨⟨by decide +kernel, by decide +kernel⟩, List.mem_of_getElem? (i := 774) (by decide +kernel), List.mem_of_getElem? (i := 1051) (by decide +kernel), List.mem_of_getElem? (i := 1052) (by decide +kernel)⟩
theorem lw_p43 : lw_okq (⟨"WishLineModel", "isCall", "(I)Z"⟩, 40) := ⟨⟨by decide +kernel, by decide +kernel⟩, List.mem_of_getElem? (i := 774) (by decide +kernel), List.mem_of_getElem? (i := 1071) (by decide +kernel), List.mem_of_getElem? (i := 1072) (by decide +kernel)⟩
theorem lw_p44 : lw_okq (⟨"WishLineModel", "isTold", "(II)Z"⟩, 40) := ⟨⟨by decide +kernel, by decide +kernel⟩, List.mem_of_getElem? (i := 774) (by decide +kernel), List.mem_of_getElem? (i := 1091) (by decide +kernel), List.mem_of_getElem? (i := 1092) (by decide +kernel)⟩
theorem lw_p45 : lw_okq (⟨"WishLineModel", "isAsked", "(IIIII)Z"⟩, 40) := ⟨⟨by decide +kernel, by decide +kernel⟩, List.mem_of_getElem? (i := 774) (by decide +kernel), List.mem_of_getElem? (i := 1103) (by decide +kernel), List.mem_of_getElem? (i := 1104) (by decide +kernel)⟩
theorem lw_p46 : lw_okq (⟨"WishLineModel", "search", "(IIIII)I"⟩, 40) := ⟨⟨by decide +kernel, by decide +kernel⟩, List.mem_of_getElem? (i := 774) (by decide +kernel), List.mem_of_getElem? (i := 1112) (by decide +kernel), List.mem_of_getElem? (i := 1113) (by decide +kernel)⟩
theorem lw_p47 : lw_okq (⟨"WishLineModel", "findDeeds", "(I)V"⟩, 40) := ⟨⟨by decide +kernel, by decide +kernel⟩, List.mem_of_getElem? (i := 774) (by decide +kernel), List.mem_of_getElem? (i := 1116) (by decide +kernel), List.mem_of_getElem? (i := 1117) (by decide +kernel)⟩
def lw_privs_3 : List (MethodName × Nat) := [(⟨"WishLineModel", "isHour", "(I)Z"⟩, 40), (⟨"WishLineModel", "knockAt", "(I)I"⟩, 40), (⟨"WishLineModel", "arrives", "(II)V"⟩, 40), (⟨"WishLineModel", "rings", "(II)V"⟩, 40), (⟨"WishLineModel", "wishesBack", "(II)V"⟩, 40), (⟨"WishLineModel", "notes", "(II)V"⟩, 40), (⟨"WishLineModel", "settles", "()V"⟩, 40), (⟨"WishLineModel", "rangOn", "(I)V"⟩, 40), (⟨"WishLineModel", "callsBack", "()V"⟩, 40), (⟨"WishLineModel", "keepsAll", "([IZ)V"⟩, 40), (⟨"WishLineModel", "keeps", "([I[IZ)V"⟩, 40), (⟨"WishLineModel", "isCall", "(I)Z"⟩, 40), (⟨"WishLineModel", "isTold", "(II)Z"⟩, 40), (⟨"WishLineModel", "isAsked", "(IIIII)Z"⟩, 40), (⟨"WishLineModel", "search", "(IIIII)I"⟩, 40), (⟨"WishLineModel", "findDeeds", "(I)V"⟩, 40)]
theorem lw_r3 : ∀ q ∈ lw_privs_3, lw_okq q := List.forall_mem_cons.mpr ⟨lw_p32, List.forall_mem_cons.mpr ⟨lw_p33, List.forall_mem_cons.mpr ⟨lw_p34, List.forall_mem_cons.mpr ⟨lw_p35, List.forall_mem_cons.mpr ⟨lw_p36, List.forall_mem_cons.mpr ⟨lw_p37, List.forall_mem_cons.mpr ⟨lw_p38, List.forall_mem_cons.mpr ⟨lw_p39, List.forall_mem_cons.mpr ⟨lw_p40, List.forall_mem_cons.mpr ⟨lw_p41, List.forall_mem_cons.mpr ⟨lw_p42, List.forall_mem_cons.mpr ⟨lw_p43, List.forall_mem_cons.mpr ⟨lw_p44, List.forall_mem_cons.mpr ⟨lw_p45, List.forall_mem_cons.mpr ⟨lw_p46, List.forall_mem_cons.mpr ⟨lw_p47, fun _ h => absurd h List.not_mem_nil⟩⟩⟩⟩⟩⟩⟩⟩⟩⟩⟩⟩⟩⟩⟩⟩
theorem lw_p48 : lw_okq (⟨"WishLineModel", "breaks", "(IIIII)Z"⟩, 40) := ⟨⟨by decide +kernel, by decide +kernel⟩, List.mem_of_getElem? (i := 774) (by decide +kernel), List.mem_of_getElem? (i := 1120) (by decide +kernel), List.mem_of_getElem? (i := 1121) (by decide +kernel)⟩
theorem lw_p49 : lw_okq (⟨"WishLineModel", "empties", "()V"⟩, 40) := ⟨⟨by decide +kernel, by decide +kernel⟩, List.mem_of_getElem? (i := 774) (by decide +kernel), List.mem_of_getElem? (i := 1124) (by decide +kernel), List.mem_of_getElem? (i := 1125) (by decide +kernel)⟩
theorem lw_p50 : lw_okq (⟨"WishLineModel", "isDone", "(I)Z"⟩, 40) := ⟨⟨by decide +kernel, by decide +kernel⟩, List.mem_of_getElem? (i := 774) (by decide +kernel), List.mem_of_getElem? (i := 1128) (by decide +kernel), List.mem_of_getElem? (i := 1129) (by decide +kernel)⟩
theorem lw_p51 : lw_okq (⟨"WishLineModel", "isBroken", "(III)Z"⟩, 40) := ⟨⟨by decide +kernel, by decide +kernel⟩, List.mem_of_getElem? (i := 774) (by decide +kernel), List.mem_of_getElem? (i := 1136) (by decide +kernel), List.mem_of_getElem? (i := 1137) (by decide +kernel)⟩
theorem lw_p52 : lw_okq (⟨"WishLineModel", "isOfThese", "(I)Z"⟩, 40) := ⟨⟨by decide +kernel, by decide +kernel⟩, List.mem_of_getElem? (i := 774) (by decide +kernel), List.mem_of_getElem? (i := 1148) (by decide +kernel), List.mem_of_getElem? (i := 1149) (by decide +kernel)⟩
theorem lw_p53 : lw_okq (⟨"WishLineModel", "hear", "(II)I"⟩, 40) := ⟨⟨by decide +kernel, by decide +kernel⟩, List.mem_of_getElem? (i := 774) (by decide +kernel), List.mem_of_getElem? (i := 1164) (by decide +kernel), List.mem_of_getElem? (i := 1165) (by decide +kernel)⟩
theorem lw_p54 : lw_okq (⟨"WishLineModel", "traces", "(I)V"⟩, 40) := ⟨⟨by decide +kernel, by decide +kernel⟩, List.mem_of_getElem? (i := 774) (by decide +kernel), List.mem_of_getElem? (i := 1168) (by decide +kernel), List.mem_of_getElem? (i := 1169) (by decide +kernel)⟩
theorem lw_p55 : lw_okq (⟨"WishLineModel", "shutHear", "(II)I"⟩, 40) := ⟨⟨by decide +kernel, by decide +kernel⟩, List.mem_of_getElem? (i := 774) (by decide +kernel), List.mem_of_getElem? (i := 1172) (by decide +kernel), List.mem_of_getElem? (i := 1173) (by decide +kernel)⟩
theorem lw_p56 : lw_okq (⟨"WishLineModel", "plainHear", "(II)I"⟩, 40) := ⟨⟨by decide +kernel, by decide +kernel⟩, List.mem_of_getElem? (i := 774) (by decide +kernel), List.mem_of_getElem? (i := 1176) (by decide +kernel), List.mem_of_getElem? (i := 1177) (by decide +kernel)⟩
theorem lw_p57 : lw_okq (⟨"WishLineModel", "pay", "(II)I"⟩, 40) := ⟨⟨by decide +kernel, by decide +kernel⟩, List.mem_of_getElem? (i := 774) (by decide +kernel), List.mem_of_getElem? (i := 1180) (by decide +kernel), List.mem_of_getElem? (i := 1181) (by decide +kernel)⟩
theorem lw_p58 : lw_okq (⟨"WishLineModel", "plainPay", "(II)I"⟩, 40) := ⟨⟨by decide +kernel, by decide +kernel⟩, List.mem_of_getElem? (i := 774) (by decide +kernel), List.mem_of_getElem? (i := 1184) (by decide +kernel), List.mem_of_getElem? (i := 1185) (by decide +kernel)⟩
theorem lw_p59 : lw_okq (⟨"WishLineModel", "turn", "(II)I"⟩, 40) := ⟨⟨by decide +kernel, by decide +kernel⟩, List.mem_of_getElem? (i := 774) (by decide +kernel), List.mem_of_getElem? (i := 1188) (by decide +kernel), List.mem_of_getElem? (i := 1189) (by decide +kernel)⟩
theorem lw_p60 : lw_okq (⟨"WishLineModel", "plainTurn", "(II)I"⟩, 40) := ⟨⟨by decide +kernel, by decide +kernel⟩, List.mem_of_getElem? (i := 774) (by decide +kernel), List.mem_of_getElem? (i := 1192) (by decide +kernel), List.mem_of_getElem? (i := 1193) (by decide +kernel)⟩
theorem lw_p61 : lw_okq (⟨"WishLineModel", "end", "(II)I"⟩, 40) := ⟨⟨by decide +kernel, by decide +kernel⟩, List.mem_of_getElem? (i := 774) (by decide +kernel), List.mem_of_getElem? (i := 1196) (by decide +kernel), List.mem_of_getElem? (i := 1197) (by decide +kernel)⟩
theorem lw_p62 : lw_okq (⟨"WishLineModel", "plainEnd", "(II)I"⟩, 40) := ⟨⟨by decide +kernel, by decide +kernel⟩, List.mem_of_getElem? (i := 774) (by decide +kernel), List.mem_of_getElem? (i := 1200) (by decide +kernel), List.mem_of_getElem? (i := 1201) (by decide +kernel)⟩
theorem lw_p63 : lw_okq (⟨"WishLineModel", "copied", "(II)I"⟩, 40) := ⟨⟨by decide +kernel, by decide +kernel⟩, List.mem_of_getElem? (i := 774) (by decide +kernel), List.mem_of_getElem? (i := 1238) (by decide +kernel), List.mem_of_getElem? (i := 1239) (by decide +kernel)⟩
def lw_privs_4 : List (MethodName × Nat) := [(⟨"WishLineModel", "breaks", "(IIIII)Z"⟩, 40), (⟨"WishLineModel", "empties", "()V"⟩, 40), (⟨"WishLineModel", "isDone", "(I)Z"⟩, 40), (⟨"WishLineModel", "isBroken", "(III)Z"⟩, 40), (⟨"WishLineModel", "isOfThese", "(I)Z"⟩, 40), (⟨"WishLineModel", "hear", "(II)I"⟩, 40), (⟨"WishLineModel", "traces", "(I)V"⟩, 40), (⟨"WishLineModel", "shutHear", "(II)I"⟩, 40), (⟨"WishLineModel", "plainHear", "(II)I"⟩, 40), (⟨"WishLineModel", "pay", "(II)I"⟩, 40), (⟨"WishLineModel", "plainPay", "(II)I"⟩, 40), (⟨"WishLineModel", "turn", "(II)I"⟩, 40), (⟨"WishLineModel", "plainTurn", "(II)I"⟩, 40), (⟨"WishLineModel", "end", "(II)I"⟩, 40), (⟨"WishLineModel", "plainEnd", "(II)I"⟩, 40), (⟨"WishLineModel", "copied", "(II)I"⟩, 40)]
theorem lw_r4 : ∀ q ∈ lw_privs_4, lw_okq q := List.forall_mem_cons.mpr ⟨lw_p48, List.forall_mem_cons.mpr ⟨lw_p49, List.forall_mem_cons.mpr ⟨lw_p50, List.forall_mem_cons.mpr ⟨lw_p51, List.forall_mem_cons.mpr ⟨lw_p52, List.forall_mem_cons.mpr ⟨lw_p53, List.forall_mem_cons.mpr ⟨lw_p54, List.forall_mem_cons.mpr ⟨lw_p55, List.forall_mem_cons.mpr ⟨lw_p56, List.forall_mem_cons.mpr ⟨lw_p57, List.forall_mem_cons.mpr ⟨lw_p58, List.forall_mem_cons.mpr ⟨lw_p59, List.forall_mem_cons.mpr ⟨lw_p60, List.forall_mem_cons.mpr ⟨lw_p61, List.forall_mem_cons.mpr ⟨lw_p62, List.forall_mem_cons.mpr ⟨lw_p63, fun _ h => absurd h List.not_mem_nil⟩⟩⟩⟩⟩⟩⟩⟩⟩⟩⟩⟩⟩⟩⟩⟩
def lw_privs : List (MethodName × Nat) := lw_privs_1 ++ (lw_privs_2 ++ (lw_privs_3 ++ (lw_privs_4)))
def lw_tbl : List Cond := k2_sels lw_privs ++ tables_1
theorem lw_privs_ok : ∀ q ∈ lw_privs, lw_okq q := by
  show ∀ q ∈ lw_privs_1 ++ (lw_privs_2 ++ (lw_privs_3 ++ (lw_privs_4))), lw_okq q
  exact List.forall_mem_append.mpr ⟨lw_r1, List.forall_mem_append.mpr ⟨lw_r2, List.forall_mem_append.mpr ⟨lw_r3, lw_r4⟩⟩⟩
def R_law : String := "WishLineLaw"
/-- all words of the tables that outlive a step -/
def gk_U : List Cond := lw_tbl.filter goodWord
theorem gk_t1 {w : Cond} (h : w ∈ tables_1_1) (g : goodWord w = true) : w ∈ gk_U := List.mem_filter.mpr ⟨List.mem_append_right _ (List.mem_append_left _ h), g⟩
theorem gk_t2 {w : Cond} (h : w ∈ tables_1_2) (g : goodWord w = true) : w ∈ gk_U := List.mem_filter.mpr ⟨List.mem_append_right _ (List.mem_append_right _ (List.mem_append_left _ h)), g⟩
theorem gk_t3 {w : Cond} (h : w ∈ tables_1_3) (g : goodWord w = true) : w ∈ gk_U := List.mem_filter.mpr ⟨List.mem_append_right _ (List.mem_append_right _ (List.mem_append_right _ (List.mem_append_left _ h))), g⟩
theorem gk_t4 {w : Cond} (h : w ∈ tables_1_4) (g : goodWord w = true) : w ∈ gk_U := List.mem_filter.mpr ⟨List.mem_append_right _ (List.mem_append_right _ (List.mem_append_right _ (List.mem_append_right _ (List.mem_append_left _ h)))), g⟩
theorem gk_t5 {w : Cond} (h : w ∈ tables_1_5) (g : goodWord w = true) : w ∈ gk_U := List.mem_filter.mpr ⟨List.mem_append_right _ (List.mem_append_right _ (List.mem_append_right _ (List.mem_append_right _ (List.mem_append_right _ (List.mem_append_left _ h))))), g⟩
theorem gk_t6 {w : Cond} (h : w ∈ tables_1_6) (g : goodWord w = true) : w ∈ gk_U := List.mem_filter.mpr ⟨List.mem_append_right _ (List.mem_append_right _ (List.mem_append_right _ (List.mem_append_right _ (List.mem_append_right _ (List.mem_append_right _ h))))), g⟩
theorem gk_ts {w : Cond} (h : w ∈ k2_sels lw_privs) (g : goodWord w = true) : w ∈ gk_U := List.mem_filter.mpr ⟨List.mem_append_left _ h, g⟩
theorem gk_good : ∀ w ∈ gk_U, (w.onTables && w.keeps) = true ∨ ∃ ty, w = .arrayClass ty := fun _ hw => good_of_word (List.mem_filter.mp hw).2
theorem gk_Uin : ∀ w ∈ gk_U, w ∈ lw_tbl := fun _ hw => (List.mem_filter.mp hw).1
end
section
def RX0 : String := "WishLine$Bodies"
def TX0 : u_T := fun k => match k with
  | 0 => ("WishLine$Bodies", "numbers", "[I", true)
  | 1 => ("WishLine$Bodies", "ran", "I", false)
  | 2 => ("WishLine$Bodies", "own", "I", false)
  | 3 => ("WishLine$Bodies", "n", "I", false)
  | 4 => ("WishLine$Bodies", "\x72", "I", false)
  | _ => ("WishLine$Bodies", "t", "I", false)
def tyX0 : Nat → FieldType := fun k => match k with
  | 0 => .array .int
  | 1 => .int
  | 2 => .int
  | 3 => .int
  | 4 => .int
  | _ => .int
abbrev wsX00 : List Cond := u_ws RX0 TX0 6
theorem nmX0 : ∀ a, a < 6 → ∀ b, b < 6 → a ≠ b → (TX0 a).2.1 ≠ (TX0 b).2.1 := by decide +kernel
theorem tyX0_ok : ∀ k, k < 6 → parseFieldDescriptor (TX0 k).2.2.1 = some (tyX0 k) := by decide +kernel
abbrev cX0_init : ByteArray := prog_2_method_1_code
def yX0_init : MethodName := ⟨RX0, "<init>", "()V"⟩
abbrev cX0_run : ByteArray := prog_2_method_2_code
def yX0_run : MethodName := ⟨RX0, "run", "(LWishLine$Wish;III)I"⟩
abbrev cX0_begin : ByteArray := prog_2_method_3_code
def yX0_begin : MethodName := ⟨RX0, "begin", "(I)V"⟩
abbrev cX0_hear : ByteArray := prog_2_method_4_code
def yX0_hear : MethodName := ⟨RX0, "hear", "(II)I"⟩
abbrev cX0_turn : ByteArray := prog_2_method_5_code
def yX0_turn : MethodName := ⟨RX0, "turn", "(II)I"⟩
abbrev cX0_pay : ByteArray := prog_2_method_6_code
def yX0_pay : MethodName := ⟨RX0, "pay", "(II)I"⟩
abbrev cX0_end : ByteArray := prog_2_method_7_code
def yX0_end : MethodName := ⟨RX0, "end", "(II)I"⟩
def RX1 : String := "WishLine$Call"
def TX1 : u_T := fun k => match k with
  | 0 => ("WishLine$Call", "caller", "I", false)
  | 1 => ("WishLine$Call", "state", "I", false)
  | 2 => ("WishLine$Call", "reason", "I", false)
  | 3 => ("WishLine$Call", "length", "I", false)
  | 4 => ("WishLine$Call", "ring", "I", false)
  | 5 => ("WishLine$Call", "at", "I", false)
  | 6 => ("WishLine$Call", "rung", "I", false)
  | 7 => ("WishLine$Call", "acts", "I", false)
  | 8 => ("WishLine$Call", "row", "I", false)
  | 9 => ("WishLine$Call", "payers", "I", false)
  | _ => ("WishLine$Call", "acted", "J", false)
def tyX1 : Nat → FieldType := fun k => match k with
  | 0 => .int
  | 1 => .int
  | 2 => .int
  | 3 => .int
  | 4 => .int
  | 5 => .int
  | 6 => .int
  | 7 => .int
  | 8 => .int
  | 9 => .int
  | _ => .long
abbrev wsX10 : List Cond := u_ws RX1 TX1 11
theorem nmX1 : ∀ a, a < 11 → ∀ b, b < 11 → a ≠ b → (TX1 a).2.1 ≠ (TX1 b).2.1 := by decide +kernel
theorem tyX1_ok : ∀ k, k < 11 → parseFieldDescriptor (TX1 k).2.2.1 = some (tyX1 k) := by decide +kernel
abbrev cX1_init : ByteArray := prog_3_method_1_code
def yX1_init : MethodName := ⟨RX1, "<init>", "()V"⟩
abbrev cX1_open : ByteArray := prog_3_method_2_code
def yX1_open : MethodName := ⟨RX1, "open", "(I)V"⟩
abbrev cX1_copyFrom : ByteArray := prog_3_method_3_code
def yX1_copyFrom : MethodName := ⟨RX1, "copyFrom", "(LWishLine$Call;)V"⟩
abbrev cX1_lineAt : ByteArray := prog_3_method_4_code
def yX1_lineAt : MethodName := ⟨RX1, "lineAt", "(I)I"⟩
abbrev cX1_payerAt : ByteArray := prog_3_method_5_code
def yX1_payerAt : MethodName := ⟨RX1, "payerAt", "(I)I"⟩
abbrev cX1_actAt : ByteArray := prog_3_method_6_code
def yX1_actAt : MethodName := ⟨RX1, "actAt", "(I)I"⟩
abbrev cX1_comesRoundTo : ByteArray := prog_3_method_7_code
def yX1_comesRoundTo : MethodName := ⟨RX1, "comesRoundTo", "(I)Z"⟩
abbrev cX1_enter : ByteArray := prog_3_method_8_code
def yX1_enter : MethodName := ⟨RX1, "enter", "(II)V"⟩
abbrev cX1_note : ByteArray := prog_3_method_9_code
def yX1_note : MethodName := ⟨RX1, "note", "(I)V"⟩
def RX2 : String := "WishLine$House"
def TX2 : u_T := fun k => match k with
  | 0 => ("WishLine$House", "book", "LWishLine$WishBook;", true)
  | 1 => ("WishLine$House", "calls", "[LWishLine$Call;", true)
  | 2 => ("WishLine$House", "inCall", "[I", true)
  | 3 => ("WishLine$House", "knocker", "[I", true)
  | 4 => ("WishLine$House", "costs", "[I", true)
  | 5 => ("WishLine$House", "backFrom", "[I", true)
  | 6 => ("WishLine$House", "backTo", "[I", true)
  | 7 => ("WishLine$House", "lineCount", "I", false)
  | 8 => ("WishLine$House", "callCount", "I", false)
  | 9 => ("WishLine$House", "backCount", "I", false)
  | _ => ("WishLine$House", "now", "I", false)
def tyX2 : Nat → FieldType := fun k => match k with
  | 0 => .object "WishLine$WishBook"
  | 1 => .array (.object "WishLine$Call")
  | 2 => .array .int
  | 3 => .array .int
  | 4 => .array .int
  | 5 => .array .int
  | 6 => .array .int
  | 7 => .int
  | 8 => .int
  | 9 => .int
  | _ => .int
abbrev wsX20 : List Cond := u_ws RX2 TX2 11
theorem nmX2 : ∀ a, a < 11 → ∀ b, b < 11 → a ≠ b → (TX2 a).2.1 ≠ (TX2 b).2.1 := by decide +kernel
theorem tyX2_ok : ∀ k, k < 11 → parseFieldDescriptor (TX2 k).2.2.1 = some (tyX2 k) := by decide +kernel
abbrev cX2_init : ByteArray := prog_4_method_1_code
def yX2_init : MethodName := ⟨RX2, "<init>", "(LWishLine$WishBook;I)V"⟩
abbrev cX2_copyFrom : ByteArray := prog_4_method_2_code
def yX2_copyFrom : MethodName := ⟨RX2, "copyFrom", "(LWishLine$House;)V"⟩
abbrev cX2_isLine : ByteArray := prog_4_method_3_code
def yX2_isLine : MethodName := ⟨RX2, "isLine", "(I)Z"⟩
abbrev cX2_isCall : ByteArray := prog_4_method_4_code
def yX2_isCall : MethodName := ⟨RX2, "isCall", "(I)Z"⟩
abbrev cX2_hasRoom : ByteArray := prog_4_method_5_code
def yX2_hasRoom : MethodName := ⟨RX2, "hasRoom", "()Z"⟩
abbrev cX2_isFree : ByteArray := prog_4_method_6_code
def yX2_isFree : MethodName := ⟨RX2, "isFree", "(I)Z"⟩
abbrev cX2_isRinging : ByteArray := prog_4_method_7_code
def yX2_isRinging : MethodName := ⟨RX2, "isRinging", "(I)Z"⟩
abbrev cX2_canHangUp : ByteArray := prog_4_method_8_code
def yX2_canHangUp : MethodName := ⟨RX2, "canHangUp", "(I)Z"⟩
abbrev cX2_isTold : ByteArray := prog_4_method_9_code
def yX2_isTold : MethodName := ⟨RX2, "isTold", "(LWishLine$Call;I)Z"⟩
abbrev cX2_countOpen : ByteArray := prog_4_method_10_code
def yX2_countOpen : MethodName := ⟨RX2, "countOpen", "()I"⟩
abbrev cX2_connect : ByteArray := prog_4_method_11_code
def yX2_connect : MethodName := ⟨RX2, "connect", "(II)I"⟩
abbrev cX2_answer : ByteArray := prog_4_method_12_code
def yX2_answer : MethodName := ⟨RX2, "answer", "(I)I"⟩
abbrev cX2_hangUp : ByteArray := prog_4_method_13_code
def yX2_hangUp : MethodName := ⟨RX2, "hangUp", "(I)I"⟩
abbrev cX2_pass : ByteArray := prog_4_method_14_code
def yX2_pass : MethodName := ⟨RX2, "pass", "()V"⟩
abbrev cX2_allows : ByteArray := prog_4_method_15_code
def yX2_allows : MethodName := ⟨RX2, "allows", "(I)Z"⟩
abbrev cX2_perform : ByteArray := prog_4_method_16_code
def yX2_perform : MethodName := ⟨RX2, "perform", "(I)V"⟩
abbrev cX2_breaks : ByteArray := prog_4_method_17_code
def yX2_breaks : MethodName := ⟨RX2, "breaks", "(III)Z"⟩
abbrev cX2_opened : ByteArray := prog_4_method_18_code
def yX2_opened : MethodName := ⟨RX2, "opened", "(I)I"⟩
abbrev cX2_go : ByteArray := prog_4_method_19_code
def yX2_go : MethodName := ⟨RX2, "go", "(III)V"⟩
abbrev cX2_firstThatActs : ByteArray := prog_4_method_20_code
def yX2_firstThatActs : MethodName := ⟨RX2, "firstThatActs", "(III)I"⟩
abbrev cX2_arrive : ByteArray := prog_4_method_21_code
def yX2_arrive : MethodName := ⟨RX2, "arrive", "(II)V"⟩
abbrev cX2_ringAt : ByteArray := prog_4_method_22_code
def yX2_ringAt : MethodName := ⟨RX2, "ringAt", "(II)V"⟩
abbrev cX2_silence : ByteArray := prog_4_method_23_code
def yX2_silence : MethodName := ⟨RX2, "silence", "(LWishLine$Call;)V"⟩
abbrev cX2_close : ByteArray := prog_4_method_24_code
def yX2_close : MethodName := ⟨RX2, "close", "(LWishLine$Call;I)V"⟩
abbrev cX2_settle : ByteArray := prog_4_method_25_code
def yX2_settle : MethodName := ⟨RX2, "settle", "()V"⟩
abbrev cX2_charge : ByteArray := prog_4_method_26_code
def yX2_charge : MethodName := ⟨RX2, "charge", "()V"⟩
abbrev cX2_addBack : ByteArray := prog_4_method_27_code
def yX2_addBack : MethodName := ⟨RX2, "addBack", "(II)V"⟩
abbrev cX2_dropBack : ByteArray := prog_4_method_28_code
def yX2_dropBack : MethodName := ⟨RX2, "dropBack", "(I)V"⟩
def RX3 : String := "WishLine$Judge"
def TX3 : u_T := fun k => match k with
  | 0 => ("WishLine$Judge", "book", "LWishLine$WishBook;", true)
  | 1 => ("WishLine$Judge", "behind", "[LWishLine$House;", true)
  | 2 => ("WishLine$Judge", "doable", "[I", true)
  | 3 => ("WishLine$Judge", "picked", "[I", true)
  | 4 => ("WishLine$Judge", "doableCount", "I", false)
  | 5 => ("WishLine$Judge", "kind", "I", false)
  | 6 => ("WishLine$Judge", "a", "I", false)
  | _ => ("WishLine$Judge", "b", "I", false)
def tyX3 : Nat → FieldType := fun k => match k with
  | 0 => .object "WishLine$WishBook"
  | 1 => .array (.object "WishLine$House")
  | 2 => .array .int
  | 3 => .array .int
  | 4 => .int
  | 5 => .int
  | 6 => .int
  | _ => .int
abbrev wsX30 : List Cond := u_ws RX3 TX3 8
theorem nmX3 : ∀ a, a < 8 → ∀ b, b < 8 → a ≠ b → (TX3 a).2.1 ≠ (TX3 b).2.1 := by decide +kernel
theorem tyX3_ok : ∀ k, k < 8 → parseFieldDescriptor (TX3 k).2.2.1 = some (tyX3 k) := by decide +kernel
abbrev cX3_init : ByteArray := prog_5_method_1_code
def yX3_init : MethodName := ⟨RX3, "<init>", "()V"⟩
abbrev cX3_open : ByteArray := prog_5_method_2_code
def yX3_open : MethodName := ⟨RX3, "open", "(LWishLine$House;IIII)V"⟩
abbrev cX3_listOfEach : ByteArray := prog_5_method_3_code
def yX3_listOfEach : MethodName := ⟨RX3, "listOfEach", "(II)V"⟩
abbrev cX3_list : ByteArray := prog_5_method_4_code
def yX3_list : MethodName := ⟨RX3, "list", "(I)V"⟩
abbrev cX3_find : ByteArray := prog_5_method_5_code
def yX3_find : MethodName := ⟨RX3, "find", "(I)I"⟩
abbrev cX3_search : ByteArray := prog_5_method_6_code
def yX3_search : MethodName := ⟨RX3, "search", "(II)Z"⟩
def RX4 : String := "WishLine$Sheets"
def TX4 : u_T := fun k => match k with
  | 0 => ("WishLine$Sheets", "sorts", "[I", true)
  | 1 => ("WishLine$Sheets", "sizes", "[I", true)
  | _ => ("WishLine$Sheets", "cells", "[I", true)
def tyX4 : Nat → FieldType := fun k => match k with
  | 0 => .array .int
  | 1 => .array .int
  | _ => .array .int
abbrev wsX40 : List Cond := u_ws RX4 TX4 3
theorem nmX4 : ∀ a, a < 3 → ∀ b, b < 3 → a ≠ b → (TX4 a).2.1 ≠ (TX4 b).2.1 := by decide +kernel
theorem tyX4_ok : ∀ k, k < 3 → parseFieldDescriptor (TX4 k).2.2.1 = some (tyX4 k) := by decide +kernel
abbrev cX4_init : ByteArray := prog_6_method_1_code
def yX4_init : MethodName := ⟨RX4, "<init>", "()V"⟩
abbrev cX4_isSheet : ByteArray := prog_6_method_2_code
def yX4_isSheet : MethodName := ⟨RX4, "isSheet", "(I)Z"⟩
abbrev cX4_isSort : ByteArray := prog_6_method_3_code
def yX4_isSort : MethodName := ⟨RX4, "isSort", "(I)Z"⟩
abbrev cX4_isMissing : ByteArray := prog_6_method_4_code
def yX4_isMissing : MethodName := ⟨RX4, "isMissing", "(I)Z"⟩
abbrev cX4_lay : ByteArray := prog_6_method_5_code
def yX4_lay : MethodName := ⟨RX4, "lay", "(III)V"⟩
abbrev cX4_hasPlaces : ByteArray := prog_6_method_6_code
def yX4_hasPlaces : MethodName := ⟨RX4, "hasPlaces", "(III)Z"⟩
abbrev cX4_read : ByteArray := prog_6_method_7_code
def yX4_read : MethodName := ⟨RX4, "read", "(II)I"⟩
abbrev cX4_write : ByteArray := prog_6_method_8_code
def yX4_write : MethodName := ⟨RX4, "write", "(III)V"⟩
def RX5 : String := "WishLine$Wish"
def TX5 : u_T := fun k => match k with
  | 0 => ("WishLine$Wish", "owner", "I", false)
  | 1 => ("WishLine$Wish", "kind", "I", false)
  | 2 => ("WishLine$Wish", "rank", "I", false)
  | 3 => ("WishLine$Wish", "target", "I", false)
  | 4 => ("WishLine$Wish", "number", "I", false)
  | _ => ("WishLine$Wish", "isOn", "Z", false)
def tyX5 : Nat → FieldType := fun k => match k with
  | 0 => .int
  | 1 => .int
  | 2 => .int
  | 3 => .int
  | 4 => .int
  | _ => .boolean
abbrev wsX50 : List Cond := u_ws RX5 TX5 6
theorem nmX5 : ∀ a, a < 6 → ∀ b, b < 6 → a ≠ b → (TX5 a).2.1 ≠ (TX5 b).2.1 := by decide +kernel
theorem tyX5_ok : ∀ k, k < 6 → parseFieldDescriptor (TX5 k).2.2.1 = some (tyX5 k) := by decide +kernel
abbrev cX5_init : ByteArray := prog_7_method_1_code
def yX5_init : MethodName := ⟨RX5, "<init>", "()V"⟩
abbrev cX5_copyFrom : ByteArray := prog_7_method_2_code
def yX5_copyFrom : MethodName := ⟨RX5, "copyFrom", "(LWishLine$Wish;)V"⟩
abbrev cX5_isOnFor : ByteArray := prog_7_method_3_code
def yX5_isOnFor : MethodName := ⟨RX5, "isOnFor", "(I)Z"⟩
abbrev cX5_isOfThoseThatAct : ByteArray := prog_7_method_4_code
def yX5_isOfThoseThatAct : MethodName := ⟨RX5, "isOfThoseThatAct", "()Z"⟩
abbrev cX5_shutsOut : ByteArray := prog_7_method_5_code
def yX5_shutsOut : MethodName := ⟨RX5, "shutsOut", "(III)Z"⟩
abbrev cX5_sendsOn : ByteArray := prog_7_method_6_code
def yX5_sendsOn : MethodName := ⟨RX5, "sendsOn", "(Z)Z"⟩
def RX6 : String := "WishLine$WishBook"
def TX6 : u_T := fun k => match k with
  | 0 => ("WishLine$WishBook", "wishes", "[LWishLine$Wish;", true)
  | _ => ("WishLine$WishBook", "count", "I", false)
def tyX6 : Nat → FieldType := fun k => match k with
  | 0 => .array (.object "WishLine$Wish")
  | _ => .int
abbrev wsX60 : List Cond := u_ws RX6 TX6 2
theorem nmX6 : ∀ a, a < 2 → ∀ b, b < 2 → a ≠ b → (TX6 a).2.1 ≠ (TX6 b).2.1 := by decide +kernel
theorem tyX6_ok : ∀ k, k < 2 → parseFieldDescriptor (TX6 k).2.2.1 = some (tyX6 k) := by decide +kernel
abbrev cX6_init : ByteArray := prog_8_method_1_code
def yX6_init : MethodName := ⟨RX6, "<init>", "()V"⟩
abbrev cX6_copyFrom : ByteArray := prog_8_method_2_code
def yX6_copyFrom : MethodName := ⟨RX6, "copyFrom", "(LWishLine$WishBook;)V"⟩
abbrev cX6_holds : ByteArray := prog_8_method_3_code
def yX6_holds : MethodName := ⟨RX6, "holds", "(I)Z"⟩
abbrev cX6_isFull : ByteArray := prog_8_method_4_code
def yX6_isFull : MethodName := ⟨RX6, "isFull", "()Z"⟩
abbrev cX6_added : ByteArray := prog_8_method_5_code
def yX6_added : MethodName := ⟨RX6, "added", "(IIIII)I"⟩
abbrev cX6_has : ByteArray := prog_8_method_6_code
def yX6_has : MethodName := ⟨RX6, "has", "(II)Z"⟩
abbrev cX6_hides : ByteArray := prog_8_method_7_code
def yX6_hides : MethodName := ⟨RX6, "hides", "(II)Z"⟩
abbrev cX6_countOn : ByteArray := prog_8_method_8_code
def yX6_countOn : MethodName := ⟨RX6, "countOn", "(I)I"⟩
abbrev cX6_placeOf : ByteArray := prog_8_method_9_code
def yX6_placeOf : MethodName := ⟨RX6, "placeOf", "(I)I"⟩
abbrev cX6_inOrder : ByteArray := prog_8_method_10_code
def yX6_inOrder : MethodName := ⟨RX6, "inOrder", "(II)I"⟩
abbrev cX6_onwardAfter : ByteArray := prog_8_method_11_code
def yX6_onwardAfter : MethodName := ⟨RX6, "onwardAfter", "(II)I"⟩
abbrev cX6_leaveAlone : ByteArray := prog_8_method_12_code
def yX6_leaveAlone : MethodName := ⟨RX6, "leaveAlone", "(I)V"⟩
def RX7 : String := "WishLine"
def TX7 : u_T := fun k => match k with
  | 0 => ("WishLine", "house", "LWishLine$House;", true)
  | 1 => ("WishLine", "kept", "LWishLine$House;", true)
  | 2 => ("WishLine", "court", "LWishLine$Judge;", true)
  | 3 => ("WishLine", "bodies", "LWishLine$Bodies;", true)
  | 4 => ("WishLine", "sheets", "LWishLine$Sheets;", true)
  | 5 => ("WishLine", "caseActs", "[I", true)
  | 6 => ("WishLine", "caseLength", "I", false)
  | 7 => ("WishLine", "hasImage", "Z", false)
  | 8 => ("WishLine", "restores", "I", false)
  | _ => ("WishLine", "latest", "I", false)
def tyX7 : Nat → FieldType := fun k => match k with
  | 0 => .object "WishLine$House"
  | 1 => .object "WishLine$House"
  | 2 => .object "WishLine$Judge"
  | 3 => .object "WishLine$Bodies"
  | 4 => .object "WishLine$Sheets"
  | 5 => .array .int
  | 6 => .int
  | 7 => .boolean
  | 8 => .int
  | _ => .int
abbrev wsX70 : List Cond := u_ws RX7 TX7 10
theorem nmX7 : ∀ a, a < 10 → ∀ b, b < 10 → a ≠ b → (TX7 a).2.1 ≠ (TX7 b).2.1 := by decide +kernel
theorem tyX7_ok : ∀ k, k < 10 → parseFieldDescriptor (TX7 k).2.2.1 = some (tyX7 k) := by decide +kernel
abbrev cX7_init : ByteArray := prog_1_method_1_code
def yX7_init : MethodName := ⟨RX7, "<init>", "()V"⟩
abbrev cX7_line : ByteArray := prog_1_method_2_code
def yX7_line : MethodName := ⟨RX7, "line", "()I"⟩
abbrev cX7_wish : ByteArray := prog_1_method_3_code
def yX7_wish : MethodName := ⟨RX7, "wish", "(IIIII)I"⟩
abbrev cX7_on : ByteArray := prog_1_method_4_code
def yX7_on : MethodName := ⟨RX7, "on", "(IZ)I"⟩
abbrev cX7_rank : ByteArray := prog_1_method_5_code
def yX7_rank : MethodName := ⟨RX7, "rank", "(II)I"⟩
abbrev cX7_dial : ByteArray := prog_1_method_6_code
def yX7_dial : MethodName := ⟨RX7, "dial", "(II)I"⟩
abbrev cX7_take : ByteArray := prog_1_method_7_code
def yX7_take : MethodName := ⟨RX7, "take", "(I)I"⟩
abbrev cX7_down : ByteArray := prog_1_method_8_code
def yX7_down : MethodName := ⟨RX7, "down", "(I)I"⟩
abbrev cX7_tick : ByteArray := prog_1_method_9_code
def yX7_tick : MethodName := ⟨RX7, "tick", "()I"⟩
abbrev cX7_image : ByteArray := prog_1_method_10_code
def yX7_image : MethodName := ⟨RX7, "image", "()I"⟩
abbrev cX7_restore : ByteArray := prog_1_method_11_code
def yX7_restore : MethodName := ⟨RX7, "restore", "()I"⟩
abbrev cX7_wishTold : ByteArray := prog_1_method_12_code
def yX7_wishTold : MethodName := ⟨RX7, "wishTold", "(II)I"⟩
abbrev cX7_lineTold : ByteArray := prog_1_method_13_code
def yX7_lineTold : MethodName := ⟨RX7, "lineTold", "(II)I"⟩
abbrev cX7_call : ByteArray := prog_1_method_14_code
def yX7_call : MethodName := ⟨RX7, "call", "(II)I"⟩
abbrev cX7_row : ByteArray := prog_1_method_15_code
def yX7_row : MethodName := ⟨RX7, "row", "(II)I"⟩
abbrev cX7_piece : ByteArray := prog_1_method_16_code
def yX7_piece : MethodName := ⟨RX7, "piece", "(II)I"⟩
abbrev cX7_acted : ByteArray := prog_1_method_17_code
def yX7_acted : MethodName := ⟨RX7, "acted", "(II)I"⟩
abbrev cX7_tells : ByteArray := prog_1_method_18_code
def yX7_tells : MethodName := ⟨RX7, "tells", "(II)I"⟩
abbrev cX7_backs : ByteArray := prog_1_method_19_code
def yX7_backs : MethodName := ⟨RX7, "backs", "(II)I"⟩
abbrev cX7_judge : ByteArray := prog_1_method_20_code
def yX7_judge : MethodName := ⟨RX7, "judge", "(IIIII)I"⟩
abbrev cX7_actOf : ByteArray := prog_1_method_21_code
def yX7_actOf : MethodName := ⟨RX7, "actOf", "(I)I"⟩
abbrev cX7_alone : ByteArray := prog_1_method_22_code
def yX7_alone : MethodName := ⟨RX7, "alone", "(IIIII)I"⟩
abbrev cX7_peace : ByteArray := prog_1_method_23_code
def yX7_peace : MethodName := ⟨RX7, "peace", "(IIIIII)I"⟩
abbrev cX7_count : ByteArray := prog_1_method_24_code
def yX7_count : MethodName := ⟨RX7, "count", "(I)I"⟩
abbrev cX7_act : ByteArray := prog_1_method_25_code
def yX7_act : MethodName := ⟨RX7, "act", "(III)I"⟩
abbrev cX7_trace : ByteArray := prog_1_method_26_code
def yX7_trace : MethodName := ⟨RX7, "trace", "(I)I"⟩
abbrev cX7_sheet : ByteArray := prog_1_method_27_code
def yX7_sheet : MethodName := ⟨RX7, "sheet", "(III)I"⟩
abbrev cX7_cell : ByteArray := prog_1_method_28_code
def yX7_cell : MethodName := ⟨RX7, "cell", "(III)I"⟩
abbrev cX7_order : ByteArray := prog_1_method_29_code
def yX7_order : MethodName := ⟨RX7, "order", "(III)I"⟩
abbrev cX7_forge : ByteArray := prog_1_method_30_code
def yX7_forge : MethodName := ⟨RX7, "forge", "(III)I"⟩
abbrev cX7_status : ByteArray := prog_1_method_31_code
def yX7_status : MethodName := ⟨RX7, "status", "()I"⟩
abbrev cX7_refused : ByteArray := prog_1_method_32_code
def yX7_refused : MethodName := ⟨RX7, "refused", "(I)I"⟩
abbrev cX7_done : ByteArray := prog_1_method_33_code
def yX7_done : MethodName := ⟨RX7, "done", "(I)I"⟩
abbrev cX7_isRank : ByteArray := prog_1_method_34_code
def yX7_isRank : MethodName := ⟨RX7, "isRank", "(I)Z"⟩
abbrev cX7_isWish : ByteArray := prog_1_method_35_code
def yX7_isWish : MethodName := ⟨RX7, "isWish", "(IIIII)Z"⟩
abbrev cX7_isJudged : ByteArray := prog_1_method_36_code
def yX7_isJudged : MethodName := ⟨RX7, "isJudged", "(IIIII)Z"⟩
abbrev cX7_orderedFrom : ByteArray := prog_1_method_37_code
def yX7_orderedFrom : MethodName := ⟨RX7, "orderedFrom", "(II)I"⟩
abbrev cX7_takenForKind : ByteArray := prog_1_method_38_code
def yX7_takenForKind : MethodName := ⟨RX7, "takenForKind", "(II)I"⟩
abbrev cX7_readAsShort : ByteArray := prog_1_method_39_code
def yX7_readAsShort : MethodName := ⟨RX7, "readAsShort", "(II)I"⟩
abbrev cX7_copiedAsBytes : ByteArray := prog_1_method_40_code
def yX7_copiedAsBytes : MethodName := ⟨RX7, "copiedAsBytes", "(II)I"⟩
abbrev cX7_putAmongShut : ByteArray := prog_1_method_41_code
def yX7_putAmongShut : MethodName := ⟨RX7, "putAmongShut", "(I)I"⟩
def RX8 : String := "WishLineModel"
def TX8 : u_T := fun k => match k with
  | 0 => ("WishLineModel", "owner", "[I", true)
  | 1 => ("WishLineModel", "kind", "[I", true)
  | 2 => ("WishLineModel", "rank", "[I", true)
  | 3 => ("WishLineModel", "target", "[I", true)
  | 4 => ("WishLineModel", "number", "[I", true)
  | 5 => ("WishLineModel", "on", "[I", true)
  | 6 => ("WishLineModel", "caller", "[I", true)
  | 7 => ("WishLineModel", "state", "[I", true)
  | 8 => ("WishLineModel", "reason", "[I", true)
  | 9 => ("WishLineModel", "rows", "[I", true)
  | 10 => ("WishLineModel", "rowOf", "[I", true)
  | 11 => ("WishLineModel", "payerOf", "[I", true)
  | 12 => ("WishLineModel", "ringing", "[I", true)
  | 13 => ("WishLineModel", "lineOf", "[I", true)
  | 14 => ("WishLineModel", "rung", "[I", true)
  | 15 => ("WishLineModel", "acts", "[I", true)
  | 16 => ("WishLineModel", "actedOf", "[I", true)
  | 17 => ("WishLineModel", "backFrom", "[I", true)
  | 18 => ("WishLineModel", "backTo", "[I", true)
  | 19 => ("WishLineModel", "cost", "[I", true)
  | 20 => ("WishLineModel", "all", "[I", true)
  | 21 => ("WishLineModel", "image", "[I", true)
  | 22 => ("WishLineModel", "aside", "[I", true)
  | 23 => ("WishLineModel", "hasImage", "Z", false)
  | 24 => ("WishLineModel", "restored", "I", false)
  | 25 => ("WishLineModel", "status", "I", false)
  | 26 => ("WishLineModel", "firsts", "[I", true)
  | 27 => ("WishLineModel", "seconds", "[I", true)
  | 28 => ("WishLineModel", "imageAt", "I", false)
  | 29 => ("WishLineModel", "people", "[I", true)
  | 30 => ("WishLineModel", "trial", "[I", true)
  | 31 => ("WishLineModel", "theCase", "[I", true)
  | 32 => ("WishLineModel", "deeds", "I", false)
  | 33 => ("WishLineModel", "caseSize", "I", false)
  | 34 => ("WishLineModel", "onAside", "[I", true)
  | 35 => ("WishLineModel", "trace", "[I", true)
  | 36 => ("WishLineModel", "traces", "I", false)
  | 37 => ("WishLineModel", "sort", "[I", true)
  | 38 => ("WishLineModel", "size", "[I", true)
  | _ => ("WishLineModel", "cells", "[I", true)
def tyX8 : Nat → FieldType := fun k => match k with
  | 0 => .array .int
  | 1 => .array .int
  | 2 => .array .int
  | 3 => .array .int
  | 4 => .array .int
  | 5 => .array .int
  | 6 => .array .int
  | 7 => .array .int
  | 8 => .array .int
  | 9 => .array .int
  | 10 => .array .int
  | 11 => .array .int
  | 12 => .array .int
  | 13 => .array .int
  | 14 => .array .int
  | 15 => .array .int
  | 16 => .array .int
  | 17 => .array .int
  | 18 => .array .int
  | 19 => .array .int
  | 20 => .array .int
  | 21 => .array .int
  | 22 => .array .int
  | 23 => .boolean
  | 24 => .int
  | 25 => .int
  | 26 => .array .int
  | 27 => .array .int
  | 28 => .int
  | 29 => .array .int
  | 30 => .array .int
  | 31 => .array .int
  | 32 => .int
  | 33 => .int
  | 34 => .array .int
  | 35 => .array .int
  | 36 => .int
  | 37 => .array .int
  | 38 => .array .int
  | _ => .array .int
abbrev wsX80 : List Cond := u_ws RX8 TX8 40
theorem nmX8 : ∀ a, a < 40 → ∀ b, b < 40 → a ≠ b → (TX8 a).2.1 ≠ (TX8 b).2.1 := by decide +kernel
theorem tyX8_ok : ∀ k, k < 40 → parseFieldDescriptor (TX8 k).2.2.1 = some (tyX8 k) := by decide +kernel
abbrev cX8_init : ByteArray := prog_10_method_1_code
def yX8_init : MethodName := ⟨RX8, "<init>", "()V"⟩
abbrev cX8_isIn : ByteArray := prog_10_method_2_code
def yX8_isIn : MethodName := ⟨RX8, "isIn", "(JJJ)Z"⟩
abbrev cX8_refused : ByteArray := prog_10_method_3_code
def yX8_refused : MethodName := ⟨RX8, "refused", "(I)I"⟩
abbrev cX8_done : ByteArray := prog_10_method_4_code
def yX8_done : MethodName := ⟨RX8, "done", "(I)I"⟩
abbrev cX8_isLine : ByteArray := prog_10_method_5_code
def yX8_isLine : MethodName := ⟨RX8, "isLine", "(I)Z"⟩
abbrev cX8_isWish : ByteArray := prog_10_method_6_code
def yX8_isWish : MethodName := ⟨RX8, "isWish", "(I)Z"⟩
abbrev cX8_isCall : ByteArray := prog_10_method_7_code
def yX8_isCall : MethodName := ⟨RX8, "isCall", "(I)Z"⟩
abbrev cX8_line : ByteArray := prog_10_method_8_code
def yX8_line : MethodName := ⟨RX8, "line", "()I"⟩
abbrev cX8_isGood : ByteArray := prog_10_method_9_code
def yX8_isGood : MethodName := ⟨RX8, "isGood", "(IIIII)Z"⟩
abbrev cX8_adds : ByteArray := prog_10_method_10_code
def yX8_adds : MethodName := ⟨RX8, "adds", "(IIIII)I"⟩
abbrev cX8_wish : ByteArray := prog_10_method_11_code
def yX8_wish : MethodName := ⟨RX8, "wish", "(IIIII)I"⟩
abbrev cX8_on : ByteArray := prog_10_method_12_code
def yX8_on : MethodName := ⟨RX8, "on", "(IZ)I"⟩
abbrev cX8_rank : ByteArray := prog_10_method_13_code
def yX8_rank : MethodName := ⟨RX8, "rank", "(II)I"⟩
abbrev cX8_wishBehind : ByteArray := prog_10_method_14_code
def yX8_wishBehind : MethodName := ⟨RX8, "wishBehind", "(II)I"⟩
abbrev cX8_has : ByteArray := prog_10_method_15_code
def yX8_has : MethodName := ⟨RX8, "has", "(II)Z"⟩
abbrev cX8_callOf : ByteArray := prog_10_method_16_code
def yX8_callOf : MethodName := ⟨RX8, "callOf", "(I)I"⟩
abbrev cX8_isFree : ByteArray := prog_10_method_17_code
def yX8_isFree : MethodName := ⟨RX8, "isFree", "(I)Z"⟩
abbrev cX8_knockAt : ByteArray := prog_10_method_18_code
def yX8_knockAt : MethodName := ⟨RX8, "knockAt", "(I)I"⟩
abbrev cX8_ends : ByteArray := prog_10_method_19_code
def yX8_ends : MethodName := ⟨RX8, "ends", "(II)V"⟩
abbrev cX8_rings : ByteArray := prog_10_method_20_code
def yX8_rings : MethodName := ⟨RX8, "rings", "(II)V"⟩
abbrev cX8_notes : ByteArray := prog_10_method_21_code
def yX8_notes : MethodName := ⟨RX8, "notes", "(II)V"⟩
abbrev cX8_isInRow : ByteArray := prog_10_method_22_code
def yX8_isInRow : MethodName := ⟨RX8, "isInRow", "(II)Z"⟩
abbrev cX8_isHour : ByteArray := prog_10_method_23_code
def yX8_isHour : MethodName := ⟨RX8, "isHour", "(I)Z"⟩
abbrev cX8_doesAct : ByteArray := prog_10_method_24_code
def yX8_doesAct : MethodName := ⟨RX8, "doesAct", "(III)Z"⟩
abbrev cX8_actsAt : ByteArray := prog_10_method_25_code
def yX8_actsAt : MethodName := ⟨RX8, "actsAt", "(III)I"⟩
abbrev cX8_comesTo : ByteArray := prog_10_method_26_code
def yX8_comesTo : MethodName := ⟨RX8, "comesTo", "(III)V"⟩
abbrev cX8_goes : ByteArray := prog_10_method_27_code
def yX8_goes : MethodName := ⟨RX8, "goes", "(III)V"⟩
abbrev cX8_arrives : ByteArray := prog_10_method_28_code
def yX8_arrives : MethodName := ⟨RX8, "arrives", "(II)V"⟩
abbrev cX8_wishesBack : ByteArray := prog_10_method_29_code
def yX8_wishesBack : MethodName := ⟨RX8, "wishesBack", "(II)V"⟩
abbrev cX8_settles : ByteArray := prog_10_method_30_code
def yX8_settles : MethodName := ⟨RX8, "settles", "()V"⟩
abbrev cX8_dials : ByteArray := prog_10_method_31_code
def yX8_dials : MethodName := ⟨RX8, "dials", "(II)I"⟩
abbrev cX8_dial : ByteArray := prog_10_method_32_code
def yX8_dial : MethodName := ⟨RX8, "dial", "(II)I"⟩
abbrev cX8_take : ByteArray := prog_10_method_33_code
def yX8_take : MethodName := ⟨RX8, "take", "(I)I"⟩
abbrev cX8_down : ByteArray := prog_10_method_34_code
def yX8_down : MethodName := ⟨RX8, "down", "(I)I"⟩
abbrev cX8_rangOn : ByteArray := prog_10_method_35_code
def yX8_rangOn : MethodName := ⟨RX8, "rangOn", "(I)V"⟩
abbrev cX8_callsBack : ByteArray := prog_10_method_36_code
def yX8_callsBack : MethodName := ⟨RX8, "callsBack", "()V"⟩
abbrev cX8_tick : ByteArray := prog_10_method_37_code
def yX8_tick : MethodName := ⟨RX8, "tick", "()I"⟩
abbrev cX8_keeps : ByteArray := prog_10_method_38_code
def yX8_keeps : MethodName := ⟨RX8, "keeps", "([I[IZ)V"⟩
abbrev cX8_keepsAll : ByteArray := prog_10_method_39_code
def yX8_keepsAll : MethodName := ⟨RX8, "keepsAll", "([IZ)V"⟩
abbrev cX8_image : ByteArray := prog_10_method_40_code
def yX8_image : MethodName := ⟨RX8, "image", "()I"⟩
abbrev cX8_restore : ByteArray := prog_10_method_41_code
def yX8_restore : MethodName := ⟨RX8, "restore", "()I"⟩
abbrev cX8_wishTold : ByteArray := prog_10_method_42_code
def yX8_wishTold : MethodName := ⟨RX8, "wishTold", "(II)I"⟩
abbrev cX8_lineTold : ByteArray := prog_10_method_43_code
def yX8_lineTold : MethodName := ⟨RX8, "lineTold", "(II)I"⟩
abbrev cX8_call : ByteArray := prog_10_method_44_code
def yX8_call : MethodName := ⟨RX8, "call", "(II)I"⟩
abbrev cX8_row : ByteArray := prog_10_method_45_code
def yX8_row : MethodName := ⟨RX8, "row", "(II)I"⟩
abbrev cX8_piece : ByteArray := prog_10_method_46_code
def yX8_piece : MethodName := ⟨RX8, "piece", "(II)I"⟩
abbrev cX8_acted : ByteArray := prog_10_method_47_code
def yX8_acted : MethodName := ⟨RX8, "acted", "(II)I"⟩
abbrev cX8_isTold : ByteArray := prog_10_method_48_code
def yX8_isTold : MethodName := ⟨RX8, "isTold", "(II)Z"⟩
abbrev cX8_tells : ByteArray := prog_10_method_49_code
def yX8_tells : MethodName := ⟨RX8, "tells", "(II)I"⟩
abbrev cX8_backs : ByteArray := prog_10_method_50_code
def yX8_backs : MethodName := ⟨RX8, "backs", "(II)I"⟩
abbrev cX8_findDeeds : ByteArray := prog_10_method_51_code
def yX8_findDeeds : MethodName := ⟨RX8, "findDeeds", "(I)V"⟩
abbrev cX8_isDone : ByteArray := prog_10_method_52_code
def yX8_isDone : MethodName := ⟨RX8, "isDone", "(I)Z"⟩
abbrev cX8_isBroken : ByteArray := prog_10_method_53_code
def yX8_isBroken : MethodName := ⟨RX8, "isBroken", "(III)Z"⟩
abbrev cX8_empties : ByteArray := prog_10_method_54_code
def yX8_empties : MethodName := ⟨RX8, "empties", "()V"⟩
abbrev cX8_breaks : ByteArray := prog_10_method_55_code
def yX8_breaks : MethodName := ⟨RX8, "breaks", "(IIIII)Z"⟩
abbrev cX8_search : ByteArray := prog_10_method_56_code
def yX8_search : MethodName := ⟨RX8, "search", "(IIIII)I"⟩
abbrev cX8_bits : ByteArray := prog_10_method_57_code
def yX8_bits : MethodName := ⟨RX8, "bits", "(I)I"⟩
abbrev cX8_isAsked : ByteArray := prog_10_method_58_code
def yX8_isAsked : MethodName := ⟨RX8, "isAsked", "(IIIII)Z"⟩
abbrev cX8_judge : ByteArray := prog_10_method_59_code
def yX8_judge : MethodName := ⟨RX8, "judge", "(IIIII)I"⟩
abbrev cX8_actOf : ByteArray := prog_10_method_60_code
def yX8_actOf : MethodName := ⟨RX8, "actOf", "(I)I"⟩
abbrev cX8_isOfThese : ByteArray := prog_10_method_61_code
def yX8_isOfThese : MethodName := ⟨RX8, "isOfThese", "(I)Z"⟩
abbrev cX8_alone : ByteArray := prog_10_method_62_code
def yX8_alone : MethodName := ⟨RX8, "alone", "(IIIII)I"⟩
abbrev cX8_peace : ByteArray := prog_10_method_63_code
def yX8_peace : MethodName := ⟨RX8, "peace", "(IIIIII)I"⟩
abbrev cX8_count : ByteArray := prog_10_method_64_code
def yX8_count : MethodName := ⟨RX8, "count", "(I)I"⟩
abbrev cX8_traces : ByteArray := prog_10_method_65_code
def yX8_traces : MethodName := ⟨RX8, "traces", "(I)V"⟩
abbrev cX8_plainHear : ByteArray := prog_10_method_66_code
def yX8_plainHear : MethodName := ⟨RX8, "plainHear", "(II)I"⟩
abbrev cX8_shutHear : ByteArray := prog_10_method_67_code
def yX8_shutHear : MethodName := ⟨RX8, "shutHear", "(II)I"⟩
abbrev cX8_hear : ByteArray := prog_10_method_68_code
def yX8_hear : MethodName := ⟨RX8, "hear", "(II)I"⟩
abbrev cX8_plainPay : ByteArray := prog_10_method_69_code
def yX8_plainPay : MethodName := ⟨RX8, "plainPay", "(II)I"⟩
abbrev cX8_pay : ByteArray := prog_10_method_70_code
def yX8_pay : MethodName := ⟨RX8, "pay", "(II)I"⟩
abbrev cX8_plainTurn : ByteArray := prog_10_method_71_code
def yX8_plainTurn : MethodName := ⟨RX8, "plainTurn", "(II)I"⟩
abbrev cX8_turn : ByteArray := prog_10_method_72_code
def yX8_turn : MethodName := ⟨RX8, "turn", "(II)I"⟩
abbrev cX8_plainEnd : ByteArray := prog_10_method_73_code
def yX8_plainEnd : MethodName := ⟨RX8, "plainEnd", "(II)I"⟩
abbrev cX8_end : ByteArray := prog_10_method_74_code
def yX8_end : MethodName := ⟨RX8, "end", "(II)I"⟩
abbrev cX8_act : ByteArray := prog_10_method_75_code
def yX8_act : MethodName := ⟨RX8, "act", "(III)I"⟩
abbrev cX8_trace : ByteArray := prog_10_method_76_code
def yX8_trace : MethodName := ⟨RX8, "trace", "(I)I"⟩
abbrev cX8_sheet : ByteArray := prog_10_method_77_code
def yX8_sheet : MethodName := ⟨RX8, "sheet", "(III)I"⟩
abbrev cX8_byteOf : ByteArray := prog_10_method_78_code
def yX8_byteOf : MethodName := ⟨RX8, "byteOf", "(I)I"⟩
abbrev cX8_cell : ByteArray := prog_10_method_79_code
def yX8_cell : MethodName := ⟨RX8, "cell", "(III)I"⟩
abbrev cX8_order : ByteArray := prog_10_method_80_code
def yX8_order : MethodName := ⟨RX8, "order", "(III)I"⟩
abbrev cX8_modulo : ByteArray := prog_10_method_81_code
def yX8_modulo : MethodName := ⟨RX8, "modulo", "(II)I"⟩
abbrev cX8_forge : ByteArray := prog_10_method_82_code
def yX8_forge : MethodName := ⟨RX8, "forge", "(III)I"⟩
abbrev cX8_copied : ByteArray := prog_10_method_83_code
def yX8_copied : MethodName := ⟨RX8, "copied", "(II)I"⟩
abbrev cX8_status : ByteArray := prog_10_method_84_code
def yX8_status : MethodName := ⟨RX8, "status", "()I"⟩
def RJ6 : String := "java/lang/Integer"
abbrev cJ6_bitCount_0f7a4 : ByteArray := prog_11_method_49_code
def yJ6_bitCount_0f7a4 : MethodName := ⟨RJ6, "bitCount", "(I)I"⟩
def RJ9 : String := "java/lang/Math"
abbrev cJ9_floorMod_7cf53 : ByteArray := prog_12_method_50_code
def yJ9_floorMod_7cf53 : MethodName := ⟨RJ9, "floorMod", "(II)I"⟩
abbrev cJ9_min_7cf53 : ByteArray := prog_12_method_69_code
def yJ9_min_7cf53 : MethodName := ⟨RJ9, "min", "(II)I"⟩
def RJ10 : String := "java/lang/System"
def RL : String := "WishLineLaw"
abbrev cL_law : ByteArray := code
def yL_law : MethodName := ⟨RL, "law", "([I)Z"⟩
abbrev vwCl : List vw_C := [(RX0, TX0, 6), (RX1, TX1, 11), (RX2, TX2, 11), (RX3, TX3, 8), (RX4, TX4, 3), (RX5, TX5, 6), (RX6, TX6, 2), (RX7, TX7, 10), (RX8, TX8, 40)]
set_option maxRecDepth 20000 in
theorem inX0 : ∀ w ∈ wsX00, w ∈ gk_U := List.forall_mem_cons.mpr ⟨gk_t2 (List.mem_of_getElem? (i := 4) rfl) rfl, List.forall_mem_cons.mpr ⟨gk_t2 (List.mem_of_getElem? (i := 6) rfl) rfl, List.forall_mem_cons.mpr ⟨gk_t2 (List.mem_of_getElem? (i := 8) rfl) rfl, List.forall_mem_cons.mpr ⟨gk_t2 (List.mem_of_getElem? (i := 10) rfl) rfl, List.forall_mem_cons.mpr ⟨gk_t2 (List.mem_of_getElem? (i := 12) rfl) rfl, List.forall_mem_cons.mpr ⟨gk_t2 (List.mem_of_getElem? (i := 14) rfl) rfl, fun _ h => absurd h List.not_mem_nil⟩⟩⟩⟩⟩⟩
set_option maxRecDepth 20000 in
theorem inX1 : ∀ w ∈ wsX10, w ∈ gk_U := List.forall_mem_cons.mpr ⟨gk_t1 (List.mem_of_getElem? (i := 121) rfl) rfl, List.forall_mem_cons.mpr ⟨gk_t1 (List.mem_of_getElem? (i := 123) rfl) rfl, List.forall_mem_cons.mpr ⟨gk_t1 (List.mem_of_getElem? (i := 125) rfl) rfl, List.forall_mem_cons.mpr ⟨gk_t1 (List.mem_of_getElem? (i := 127) rfl) rfl, List.forall_mem_cons.mpr ⟨gk_t1 (List.mem_of_getElem? (i := 129) rfl) rfl, List.forall_mem_cons.mpr ⟨gk_t1 (List.mem_of_getElem? (i := 131) rfl) rfl, List.forall_mem_cons.mpr ⟨gk_t1 (List.mem_of_getElem? (i := 133) rfl) rfl, List.forall_mem_cons.mpr ⟨gk_t1 (List.mem_of_getElem? (i := 135) rfl) rfl, List.forall_mem_cons.mpr ⟨gk_t1 (List.mem_of_getElem? (i := 137) rfl) rfl, List.forall_mem_cons.mpr ⟨gk_t1 (List.mem_of_getElem? (i := 139) rfl) rfl, List.forall_mem_cons.mpr ⟨gk_t1 (List.mem_of_getElem? (i := 141) rfl) rfl, fun _ h => absurd h List.not_mem_nil⟩⟩⟩⟩⟩⟩⟩⟩⟩⟩⟩
set_option maxRecDepth 20000 in
theorem inX2 : ∀ w ∈ wsX20, w ∈ gk_U := List.forall_mem_cons.mpr ⟨gk_t1 (List.mem_of_getElem? (i := 169) rfl) rfl, List.forall_mem_cons.mpr ⟨gk_t1 (List.mem_of_getElem? (i := 171) rfl) rfl, List.forall_mem_cons.mpr ⟨gk_t1 (List.mem_of_getElem? (i := 173) rfl) rfl, List.forall_mem_cons.mpr ⟨gk_t1 (List.mem_of_getElem? (i := 175) rfl) rfl, List.forall_mem_cons.mpr ⟨gk_t1 (List.mem_of_getElem? (i := 177) rfl) rfl, List.forall_mem_cons.mpr ⟨gk_t1 (List.mem_of_getElem? (i := 179) rfl) rfl, List.forall_mem_cons.mpr ⟨gk_t1 (List.mem_of_getElem? (i := 181) rfl) rfl, List.forall_mem_cons.mpr ⟨gk_t1 (List.mem_of_getElem? (i := 183) rfl) rfl, List.forall_mem_cons.mpr ⟨gk_t1 (List.mem_of_getElem? (i := 185) rfl) rfl, List.forall_mem_cons.mpr ⟨gk_t1 (List.mem_of_getElem? (i := 187) rfl) rfl, List.forall_mem_cons.mpr ⟨gk_t1 (List.mem_of_getElem? (i := 189) rfl) rfl, fun _ h => absurd h List.not_mem_nil⟩⟩⟩⟩⟩⟩⟩⟩⟩⟩⟩
set_option maxRecDepth 20000 in
theorem inX3 : ∀ w ∈ wsX30, w ∈ gk_U := List.forall_mem_cons.mpr ⟨gk_t1 (List.mem_of_getElem? (i := 213) rfl) rfl, List.forall_mem_cons.mpr ⟨gk_t1 (List.mem_of_getElem? (i := 215) rfl) rfl, List.forall_mem_cons.mpr ⟨gk_t1 (List.mem_of_getElem? (i := 217) rfl) rfl, List.forall_mem_cons.mpr ⟨gk_t1 (List.mem_of_getElem? (i := 219) rfl) rfl, List.forall_mem_cons.mpr ⟨gk_t1 (List.mem_of_getElem? (i := 221) rfl) rfl, List.forall_mem_cons.mpr ⟨gk_t1 (List.mem_of_getElem? (i := 223) rfl) rfl, List.forall_mem_cons.mpr ⟨gk_t1 (List.mem_of_getElem? (i := 225) rfl) rfl, List.forall_mem_cons.mpr ⟨gk_t1 (List.mem_of_getElem? (i := 227) rfl) rfl, fun _ h => absurd h List.not_mem_nil⟩⟩⟩⟩⟩⟩⟩⟩
set_option maxRecDepth 20000 in
theorem inX4 : ∀ w ∈ wsX40, w ∈ gk_U := List.forall_mem_cons.mpr ⟨gk_t2 (List.mem_of_getElem? (i := 27) rfl) rfl, List.forall_mem_cons.mpr ⟨gk_t2 (List.mem_of_getElem? (i := 29) rfl) rfl, List.forall_mem_cons.mpr ⟨gk_t2 (List.mem_of_getElem? (i := 31) rfl) rfl, fun _ h => absurd h List.not_mem_nil⟩⟩⟩
set_option maxRecDepth 20000 in
theorem inX5 : ∀ w ∈ wsX50, w ∈ gk_U := List.forall_mem_cons.mpr ⟨gk_t1 (List.mem_of_getElem? (i := 60) rfl) rfl, List.forall_mem_cons.mpr ⟨gk_t1 (List.mem_of_getElem? (i := 62) rfl) rfl, List.forall_mem_cons.mpr ⟨gk_t1 (List.mem_of_getElem? (i := 64) rfl) rfl, List.forall_mem_cons.mpr ⟨gk_t1 (List.mem_of_getElem? (i := 66) rfl) rfl, List.forall_mem_cons.mpr ⟨gk_t1 (List.mem_of_getElem? (i := 68) rfl) rfl, List.forall_mem_cons.mpr ⟨gk_t1 (List.mem_of_getElem? (i := 70) rfl) rfl, fun _ h => absurd h List.not_mem_nil⟩⟩⟩⟩⟩⟩
set_option maxRecDepth 20000 in
theorem inX6 : ∀ w ∈ wsX60, w ∈ gk_U := List.forall_mem_cons.mpr ⟨gk_t1 (List.mem_of_getElem? (i := 79) rfl) rfl, List.forall_mem_cons.mpr ⟨gk_t1 (List.mem_of_getElem? (i := 81) rfl) rfl, fun _ h => absurd h List.not_mem_nil⟩⟩
set_option maxRecDepth 20000 in
theorem inX7 : ∀ w ∈ wsX70, w ∈ gk_U := List.forall_mem_cons.mpr ⟨gk_t2 (List.mem_of_getElem? (i := 44) rfl) rfl, List.forall_mem_cons.mpr ⟨gk_t2 (List.mem_of_getElem? (i := 46) rfl) rfl, List.forall_mem_cons.mpr ⟨gk_t2 (List.mem_of_getElem? (i := 48) rfl) rfl, List.forall_mem_cons.mpr ⟨gk_t2 (List.mem_of_getElem? (i := 50) rfl) rfl, List.forall_mem_cons.mpr ⟨gk_t2 (List.mem_of_getElem? (i := 52) rfl) rfl, List.forall_mem_cons.mpr ⟨gk_t2 (List.mem_of_getElem? (i := 54) rfl) rfl, List.forall_mem_cons.mpr ⟨gk_t2 (List.mem_of_getElem? (i := 56) rfl) rfl, List.forall_mem_cons.mpr ⟨gk_t2 (List.mem_of_getElem? (i := 58) rfl) rfl, List.forall_mem_cons.mpr ⟨gk_t2 (List.mem_of_getElem? (i := 60) rfl) rfl, List.forall_mem_cons.mpr ⟨gk_t2 (List.mem_of_getElem? (i := 62) rfl) rfl, fun _ h => absurd h List.not_mem_nil⟩⟩⟩⟩⟩⟩⟩⟩⟩⟩
set_option maxRecDepth 20000 in
theorem inX8 : ∀ w ∈ wsX80, w ∈ gk_U := List.forall_mem_cons.mpr ⟨gk_t4 (List.mem_of_getElem? (i := 99) rfl) rfl, List.forall_mem_cons.mpr ⟨gk_t4 (List.mem_of_getElem? (i := 101) rfl) rfl, List.forall_mem_cons.mpr ⟨gk_t4 (List.mem_of_getElem? (i := 103) rfl) rfl, List.forall_mem_cons.mpr ⟨gk_t4 (List.mem_of_getElem? (i := 105) rfl) rfl, List.forall_mem_cons.mpr ⟨gk_t4 (List.mem_of_getElem? (i := 107) rfl) rfl, List.forall_mem_cons.mpr ⟨gk_t4 (List.mem_of_getElem? (i := 109) rfl) rfl, List.forall_mem_cons.mpr ⟨gk_t4 (List.mem_of_getElem? (i := 111) rfl) rfl, List.forall_mem_cons.mpr ⟨gk_t4 (List.mem_of_getElem? (i := 113) rfl) rfl, List.forall_mem_cons.mpr ⟨gk_t4 (List.mem_of_getElem? (i := 115) rfl) rfl, List.forall_mem_cons.mpr ⟨gk_t4 (List.mem_of_getElem? (i := 117) rfl) rfl, List.forall_mem_cons.mpr ⟨gk_t4 (List.mem_of_getElem? (i := 119) rfl) rfl, List.forall_mem_cons.mpr ⟨gk_t4 (List.mem_of_getElem? (i := 121) rfl) rfl, List.forall_mem_cons.mpr ⟨gk_t4 (List.mem_of_getElem? (i := 123) rfl) rfl, List.forall_mem_cons.mpr ⟨gk_t4 (List.mem_of_getElem? (i := 125) rfl) rfl, List.forall_mem_cons.mpr ⟨gk_t4 (List.mem_of_getElem? (i := 127) rfl) rfl, List.forall_mem_cons.mpr ⟨gk_t4 (List.mem_of_getElem? (i := 129) rfl) rfl, List.forall_mem_cons.mpr ⟨gk_t4 (List.mem_of_getElem? (i := 131) rfl) rfl, List.forall_mem_cons.mpr ⟨gk_t4 (List.mem_of_getElem? (i := 133) rfl) rfl, List.forall_mem_cons.mpr ⟨gk_t4 (List.mem_of_getElem? (i := 135) rfl) rfl, List.forall_mem_cons.mpr ⟨gk_t4 (List.mem_of_getElem? (i := 137) rfl) rfl, List.forall_mem_cons.mpr ⟨gk_t4 (List.mem_of_getElem? (i := 139) rfl) rfl, List.forall_mem_cons.mpr ⟨gk_t4 (List.mem_of_getElem? (i := 141) rfl) rfl, List.forall_mem_cons.mpr ⟨gk_t4 (List.mem_of_getElem? (i := 143) rfl) rfl, List.forall_mem_cons.mpr ⟨gk_t4 (List.mem_of_getElem? (i := 145) rfl) rfl, List.forall_mem_cons.mpr ⟨gk_t4 (List.mem_of_getElem? (i := 147) rfl) rfl, List.forall_mem_cons.mpr ⟨gk_t4 (List.mem_of_getElem? (i := 149) rfl) rfl, List.forall_mem_cons.mpr ⟨gk_t4 (List.mem_of_getElem? (i := 151) rfl) rfl, List.forall_mem_cons.mpr ⟨gk_t4 (List.mem_of_getElem? (i := 153) rfl) rfl, List.forall_mem_cons.mpr ⟨gk_t4 (List.mem_of_getElem? (i := 155) rfl) rfl, List.forall_mem_cons.mpr ⟨gk_t4 (List.mem_of_getElem? (i := 157) rfl) rfl, List.forall_mem_cons.mpr ⟨gk_t4 (List.mem_of_getElem? (i := 159) rfl) rfl, List.forall_mem_cons.mpr ⟨gk_t4 (List.mem_of_getElem? (i := 161) rfl) rfl, List.forall_mem_cons.mpr ⟨gk_t4 (List.mem_of_getElem? (i := 163) rfl) rfl, List.forall_mem_cons.mpr ⟨gk_t4 (List.mem_of_getElem? (i := 165) rfl) rfl, List.forall_mem_cons.mpr ⟨gk_t4 (List.mem_of_getElem? (i := 167) rfl) rfl, List.forall_mem_cons.mpr ⟨gk_t4 (List.mem_of_getElem? (i := 169) rfl) rfl, List.forall_mem_cons.mpr ⟨gk_t4 (List.mem_of_getElem? (i := 171) rfl) rfl, List.forall_mem_cons.mpr ⟨gk_t4 (List.mem_of_getElem? (i := 173) rfl) rfl, List.forall_mem_cons.mpr ⟨gk_t4 (List.mem_of_getElem? (i := 175) rfl) rfl, List.forall_mem_cons.mpr ⟨gk_t4 (List.mem_of_getElem? (i := 177) rfl) rfl, fun _ h => absurd h List.not_mem_nil⟩⟩⟩⟩⟩⟩⟩⟩⟩⟩⟩⟩⟩⟩⟩⟩⟩⟩⟩⟩⟩⟩⟩⟩⟩⟩⟩⟩⟩⟩⟩⟩⟩⟩⟩⟩⟩⟩⟩⟩
end
section
theorem dX0_init_0 : decode cX0_init 0 = .ok (.aload_n 0, 1) := by decide +kernel
theorem dX0_init_1 : decode cX0_init 1 = .ok (.invokespecial 3, 3) := by decide +kernel
theorem dX0_init_4 : decode cX0_init 4 = .ok (.aload_n 0, 1) := by decide +kernel
theorem dX0_init_5 : decode cX0_init 5 = .ok (.bipush 50, 2) := by decide +kernel
theorem dX0_init_7 : decode cX0_init 7 = .ok (.newarray .int, 2) := by decide +kernel
theorem dX0_init_9 : decode cX0_init 9 = .ok (.putfield 9, 3) := by decide +kernel
theorem dX0_init_12 : decode cX0_init 12 = .ok (.return_, 1) := by decide +kernel
theorem dX0_run_0 : decode cX0_run 0 = .ok (.aload_n 0, 1) := by decide +kernel
theorem dX0_run_1 : decode cX0_run 1 = .ok (.iconst 0, 1) := by decide +kernel
theorem dX0_run_2 : decode cX0_run 2 = .ok (.putfield 15, 3) := by decide +kernel
theorem dX0_run_5 : decode cX0_run 5 = .ok (.aload_n 0, 1) := by decide +kernel
theorem dX0_run_6 : decode cX0_run 6 = .ok (.aload_n 1, 1) := by decide +kernel
theorem dX0_run_7 : decode cX0_run 7 = .ok (.getfield 19, 3) := by decide +kernel
theorem dX0_run_10 : decode cX0_run 10 = .ok (.putfield 24, 3) := by decide +kernel
theorem dX0_run_13 : decode cX0_run 13 = .ok (.aload_n 0, 1) := by decide +kernel
theorem dX0_run_14 : decode cX0_run 14 = .ok (.iload_n 2, 1) := by decide +kernel
theorem dX0_run_15 : decode cX0_run 15 = .ok (.putfield 27, 3) := by decide +kernel
theorem dX0_run_18 : decode cX0_run 18 = .ok (.aload_n 0, 1) := by decide +kernel
theorem dX0_run_19 : decode cX0_run 19 = .ok (.aload_n 1, 1) := by decide +kernel
theorem dX0_run_20 : decode cX0_run 20 = .ok (.getfield 30, 3) := by decide +kernel
theorem dX0_run_23 : decode cX0_run 23 = .ok (.putfield 33, 3) := by decide +kernel
theorem dX0_run_26 : decode cX0_run 26 = .ok (.aload_n 0, 1) := by decide +kernel
theorem dX0_run_27 : decode cX0_run 27 = .ok (.aload_n 1, 1) := by decide +kernel
theorem dX0_run_28 : decode cX0_run 28 = .ok (.getfield 36, 3) := by decide +kernel
theorem dX0_run_31 : decode cX0_run 31 = .ok (.putfield 39, 3) := by decide +kernel
theorem dX0_run_34 : decode cX0_run 34 = .ok (.iload_n 3, 1) := by decide +kernel
theorem dX0_run_35 : decode cX0_run 35 = .ok (.tableswitch 58 0 2 #[25, 36, 47], 25) := by decide +kernel
theorem dX0_run_60 : decode cX0_run 60 = .ok (.aload_n 0, 1) := by decide +kernel
theorem dX0_run_61 : decode cX0_run 61 = .ok (.aload_n 0, 1) := by decide +kernel
theorem dX0_run_62 : decode cX0_run 62 = .ok (.getfield 24, 3) := by decide +kernel
theorem dX0_run_65 : decode cX0_run 65 = .ok (.iload 4, 2) := by decide +kernel
theorem dX0_run_67 : decode cX0_run 67 = .ok (.invokevirtual 42, 3) := by decide +kernel
theorem dX0_run_70 : decode cX0_run 70 = .ok (.ireturn, 1) := by decide +kernel
theorem dX0_run_71 : decode cX0_run 71 = .ok (.aload_n 0, 1) := by decide +kernel
theorem dX0_run_72 : decode cX0_run 72 = .ok (.aload_n 0, 1) := by decide +kernel
theorem dX0_run_73 : decode cX0_run 73 = .ok (.getfield 24, 3) := by decide +kernel
theorem dX0_run_76 : decode cX0_run 76 = .ok (.iload 4, 2) := by decide +kernel
theorem dX0_run_78 : decode cX0_run 78 = .ok (.invokevirtual 46, 3) := by decide +kernel
theorem dX0_run_81 : decode cX0_run 81 = .ok (.ireturn, 1) := by decide +kernel
theorem dX0_run_82 : decode cX0_run 82 = .ok (.aload_n 0, 1) := by decide +kernel
theorem dX0_run_83 : decode cX0_run 83 = .ok (.aload_n 0, 1) := by decide +kernel
theorem dX0_run_84 : decode cX0_run 84 = .ok (.getfield 24, 3) := by decide +kernel
theorem dX0_run_87 : decode cX0_run 87 = .ok (.iload 4, 2) := by decide +kernel
theorem dX0_run_89 : decode cX0_run 89 = .ok (.invokevirtual 49, 3) := by decide +kernel
theorem dX0_run_92 : decode cX0_run 92 = .ok (.ireturn, 1) := by decide +kernel
theorem dX0_run_93 : decode cX0_run 93 = .ok (.aload_n 0, 1) := by decide +kernel
theorem dX0_run_94 : decode cX0_run 94 = .ok (.aload_n 0, 1) := by decide +kernel
theorem dX0_run_95 : decode cX0_run 95 = .ok (.getfield 24, 3) := by decide +kernel
theorem dX0_run_98 : decode cX0_run 98 = .ok (.iload 4, 2) := by decide +kernel
theorem dX0_run_100 : decode cX0_run 100 = .ok (.invokevirtual 52, 3) := by decide +kernel
theorem dX0_run_103 : decode cX0_run 103 = .ok (.ireturn, 1) := by decide +kernel
theorem dX0_begin_0 : decode cX0_begin 0 = .ok (.aload_n 0, 1) := by decide +kernel
theorem dX0_begin_1 : decode cX0_begin 1 = .ok (.getfield 15, 3) := by decide +kernel
theorem dX0_begin_4 : decode cX0_begin 4 = .ok (.bipush 50, 2) := by decide +kernel
theorem dX0_begin_6 : decode cX0_begin 6 = .ok (.if_icmp .ge 23, 3) := by decide +kernel
theorem dX0_begin_9 : decode cX0_begin 9 = .ok (.aload_n 0, 1) := by decide +kernel
theorem dX0_begin_10 : decode cX0_begin 10 = .ok (.getfield 9, 3) := by decide +kernel
theorem dX0_begin_13 : decode cX0_begin 13 = .ok (.aload_n 0, 1) := by decide +kernel
theorem dX0_begin_14 : decode cX0_begin 14 = .ok (.getfield 15, 3) := by decide +kernel
theorem dX0_begin_17 : decode cX0_begin 17 = .ok (.iload_n 1, 1) := by decide +kernel
theorem dX0_begin_18 : decode cX0_begin 18 = .ok (.iastore, 1) := by decide +kernel
theorem dX0_begin_19 : decode cX0_begin 19 = .ok (.aload_n 0, 1) := by decide +kernel
theorem dX0_begin_20 : decode cX0_begin 20 = .ok (.dup, 1) := by decide +kernel
theorem dX0_begin_21 : decode cX0_begin 21 = .ok (.getfield 15, 3) := by decide +kernel
theorem dX0_begin_24 : decode cX0_begin 24 = .ok (.iconst 1, 1) := by decide +kernel
theorem dX0_begin_25 : decode cX0_begin 25 = .ok (.iadd, 1) := by decide +kernel
theorem dX0_begin_26 : decode cX0_begin 26 = .ok (.putfield 15, 3) := by decide +kernel
theorem dX0_begin_29 : decode cX0_begin 29 = .ok (.return_, 1) := by decide +kernel
theorem dX0_hear_0 : decode cX0_hear 0 = .ok (.iload_n 1, 1) := by decide +kernel
theorem dX0_hear_1 : decode cX0_hear 1 = .ok (.lookupswitch 65 #[(2, 27), (3, 42)], 27) := by decide +kernel
theorem dX0_hear_28 : decode cX0_hear 28 = .ok (.aload_n 0, 1) := by decide +kernel
theorem dX0_hear_29 : decode cX0_hear 29 = .ok (.bipush 30, 2) := by decide +kernel
theorem dX0_hear_31 : decode cX0_hear 31 = .ok (.invokevirtual 55, 3) := by decide +kernel
theorem dX0_hear_34 : decode cX0_hear 34 = .ok (.aload_n 0, 1) := by decide +kernel
theorem dX0_hear_35 : decode cX0_hear 35 = .ok (.iconst 0, 1) := by decide +kernel
theorem dX0_hear_36 : decode cX0_hear 36 = .ok (.iload_n 2, 1) := by decide +kernel
theorem dX0_hear_37 : decode cX0_hear 37 = .ok (.invokevirtual 42, 3) := by decide +kernel
theorem dX0_hear_40 : decode cX0_hear 40 = .ok (.iconst 3, 1) := by decide +kernel
theorem dX0_hear_41 : decode cX0_hear 41 = .ok (.imul, 1) := by decide +kernel
theorem dX0_hear_42 : decode cX0_hear 42 = .ok (.ireturn, 1) := by decide +kernel
theorem dX0_hear_43 : decode cX0_hear 43 = .ok (.aload_n 0, 1) := by decide +kernel
theorem dX0_hear_44 : decode cX0_hear 44 = .ok (.bipush 40, 2) := by decide +kernel
theorem dX0_hear_46 : decode cX0_hear 46 = .ok (.invokevirtual 55, 3) := by decide +kernel
theorem dX0_hear_49 : decode cX0_hear 49 = .ok (.aload_n 0, 1) := by decide +kernel
theorem dX0_hear_50 : decode cX0_hear 50 = .ok (.iconst 2, 1) := by decide +kernel
theorem dX0_hear_51 : decode cX0_hear 51 = .ok (.iload_n 2, 1) := by decide +kernel
theorem dX0_hear_52 : decode cX0_hear 52 = .ok (.invokevirtual 42, 3) := by decide +kernel
theorem dX0_hear_55 : decode cX0_hear 55 = .ok (.aload_n 0, 1) := by decide +kernel
theorem dX0_hear_56 : decode cX0_hear 56 = .ok (.aload_n 0, 1) := by decide +kernel
theorem dX0_hear_57 : decode cX0_hear 57 = .ok (.getfield 24, 3) := by decide +kernel
theorem dX0_hear_60 : decode cX0_hear 60 = .ok (.iload_n 2, 1) := by decide +kernel
theorem dX0_hear_61 : decode cX0_hear 61 = .ok (.invokevirtual 49, 3) := by decide +kernel
theorem dX0_hear_64 : decode cX0_hear 64 = .ok (.isub, 1) := by decide +kernel
theorem dX0_hear_65 : decode cX0_hear 65 = .ok (.ireturn, 1) := by decide +kernel
theorem dX0_hear_66 : decode cX0_hear 66 = .ok (.aload_n 0, 1) := by decide +kernel
theorem dX0_hear_67 : decode cX0_hear 67 = .ok (.bipush 10, 2) := by decide +kernel
theorem dX0_hear_69 : decode cX0_hear 69 = .ok (.invokevirtual 55, 3) := by decide +kernel
theorem dX0_hear_72 : decode cX0_hear 72 = .ok (.iload_n 2, 1) := by decide +kernel
theorem dX0_hear_73 : decode cX0_hear 73 = .ok (.aload_n 0, 1) := by decide +kernel
theorem dX0_hear_74 : decode cX0_hear 74 = .ok (.getfield 27, 3) := by decide +kernel
theorem dX0_hear_77 : decode cX0_hear 77 = .ok (.iadd, 1) := by decide +kernel
theorem dX0_hear_78 : decode cX0_hear 78 = .ok (.ireturn, 1) := by decide +kernel
theorem dX0_turn_0 : decode cX0_turn 0 = .ok (.iload_n 1, 1) := by decide +kernel
theorem dX0_turn_1 : decode cX0_turn 1 = .ok (.lookupswitch 97 #[(1, 35), (3, 53), (6, 71)], 35) := by decide +kernel
theorem dX0_turn_36 : decode cX0_turn 36 = .ok (.aload_n 0, 1) := by decide +kernel
theorem dX0_turn_37 : decode cX0_turn 37 = .ok (.bipush 20, 2) := by decide +kernel
theorem dX0_turn_39 : decode cX0_turn 39 = .ok (.invokevirtual 55, 3) := by decide +kernel
theorem dX0_turn_42 : decode cX0_turn 42 = .ok (.aload_n 0, 1) := by decide +kernel
theorem dX0_turn_43 : decode cX0_turn 43 = .ok (.iconst 0, 1) := by decide +kernel
theorem dX0_turn_44 : decode cX0_turn 44 = .ok (.iload_n 2, 1) := by decide +kernel
theorem dX0_turn_45 : decode cX0_turn 45 = .ok (.invokevirtual 46, 3) := by decide +kernel
theorem dX0_turn_48 : decode cX0_turn 48 = .ok (.aload_n 0, 1) := by decide +kernel
theorem dX0_turn_49 : decode cX0_turn 49 = .ok (.getfield 39, 3) := by decide +kernel
theorem dX0_turn_52 : decode cX0_turn 52 = .ok (.iadd, 1) := by decide +kernel
theorem dX0_turn_53 : decode cX0_turn 53 = .ok (.ireturn, 1) := by decide +kernel
theorem dX0_turn_54 : decode cX0_turn 54 = .ok (.aload_n 0, 1) := by decide +kernel
theorem dX0_turn_55 : decode cX0_turn 55 = .ok (.bipush 41, 2) := by decide +kernel
theorem dX0_turn_57 : decode cX0_turn 57 = .ok (.invokevirtual 55, 3) := by decide +kernel
theorem dX0_turn_60 : decode cX0_turn 60 = .ok (.aload_n 0, 1) := by decide +kernel
theorem dX0_turn_61 : decode cX0_turn 61 = .ok (.iconst 2, 1) := by decide +kernel
theorem dX0_turn_62 : decode cX0_turn 62 = .ok (.iload_n 2, 1) := by decide +kernel
theorem dX0_turn_63 : decode cX0_turn 63 = .ok (.aload_n 0, 1) := by decide +kernel
theorem dX0_turn_64 : decode cX0_turn 64 = .ok (.getfield 39, 3) := by decide +kernel
theorem dX0_turn_67 : decode cX0_turn 67 = .ok (.isub, 1) := by decide +kernel
theorem dX0_turn_68 : decode cX0_turn 68 = .ok (.invokevirtual 46, 3) := by decide +kernel
theorem dX0_turn_71 : decode cX0_turn 71 = .ok (.ireturn, 1) := by decide +kernel
theorem dX0_turn_72 : decode cX0_turn 72 = .ok (.aload_n 0, 1) := by decide +kernel
theorem dX0_turn_73 : decode cX0_turn 73 = .ok (.bipush 70, 2) := by decide +kernel
theorem dX0_turn_75 : decode cX0_turn 75 = .ok (.invokevirtual 55, 3) := by decide +kernel
theorem dX0_turn_78 : decode cX0_turn 78 = .ok (.aload_n 0, 1) := by decide +kernel
theorem dX0_turn_79 : decode cX0_turn 79 = .ok (.iconst 0, 1) := by decide +kernel
theorem dX0_turn_80 : decode cX0_turn 80 = .ok (.iload_n 2, 1) := by decide +kernel
theorem dX0_turn_81 : decode cX0_turn 81 = .ok (.invokevirtual 46, 3) := by decide +kernel
theorem dX0_turn_84 : decode cX0_turn 84 = .ok (.aload_n 0, 1) := by decide +kernel
theorem dX0_turn_85 : decode cX0_turn 85 = .ok (.aload_n 0, 1) := by decide +kernel
theorem dX0_turn_86 : decode cX0_turn 86 = .ok (.getfield 24, 3) := by decide +kernel
theorem dX0_turn_89 : decode cX0_turn 89 = .ok (.aload_n 0, 1) := by decide +kernel
theorem dX0_turn_90 : decode cX0_turn 90 = .ok (.getfield 39, 3) := by decide +kernel
theorem dX0_turn_93 : decode cX0_turn 93 = .ok (.invokevirtual 42, 3) := by decide +kernel
theorem dX0_turn_96 : decode cX0_turn 96 = .ok (.ixor, 1) := by decide +kernel
theorem dX0_turn_97 : decode cX0_turn 97 = .ok (.ireturn, 1) := by decide +kernel
theorem dX0_turn_98 : decode cX0_turn 98 = .ok (.aload_n 0, 1) := by decide +kernel
theorem dX0_turn_99 : decode cX0_turn 99 = .ok (.bipush 11, 2) := by decide +kernel
theorem dX0_turn_101 : decode cX0_turn 101 = .ok (.invokevirtual 55, 3) := by decide +kernel
theorem dX0_turn_104 : decode cX0_turn 104 = .ok (.aload_n 0, 1) := by decide +kernel
theorem dX0_turn_105 : decode cX0_turn 105 = .ok (.aload_n 0, 1) := by decide +kernel
theorem dX0_turn_106 : decode cX0_turn 106 = .ok (.getfield 24, 3) := by decide +kernel
theorem dX0_turn_109 : decode cX0_turn 109 = .ok (.iload_n 2, 1) := by decide +kernel
theorem dX0_turn_110 : decode cX0_turn 110 = .ok (.invokevirtual 42, 3) := by decide +kernel
theorem dX0_turn_113 : decode cX0_turn 113 = .ok (.iconst 2, 1) := by decide +kernel
theorem dX0_turn_114 : decode cX0_turn 114 = .ok (.imul, 1) := by decide +kernel
theorem dX0_turn_115 : decode cX0_turn 115 = .ok (.ireturn, 1) := by decide +kernel
theorem dX0_pay_0 : decode cX0_pay 0 = .ok (.iload_n 1, 1) := by decide +kernel
theorem dX0_pay_1 : decode cX0_pay 1 = .ok (.lookupswitch 60 #[(5, 27), (7, 45)], 27) := by decide +kernel
theorem dX0_pay_28 : decode cX0_pay 28 = .ok (.aload_n 0, 1) := by decide +kernel
theorem dX0_pay_29 : decode cX0_pay 29 = .ok (.bipush 60, 2) := by decide +kernel
theorem dX0_pay_31 : decode cX0_pay 31 = .ok (.invokevirtual 55, 3) := by decide +kernel
theorem dX0_pay_34 : decode cX0_pay 34 = .ok (.aload_n 0, 1) := by decide +kernel
theorem dX0_pay_35 : decode cX0_pay 35 = .ok (.iconst 0, 1) := by decide +kernel
theorem dX0_pay_36 : decode cX0_pay 36 = .ok (.iload_n 2, 1) := by decide +kernel
theorem dX0_pay_37 : decode cX0_pay 37 = .ok (.invokevirtual 49, 3) := by decide +kernel
theorem dX0_pay_40 : decode cX0_pay 40 = .ok (.aload_n 0, 1) := by decide +kernel
theorem dX0_pay_41 : decode cX0_pay 41 = .ok (.getfield 39, 3) := by decide +kernel
theorem dX0_pay_44 : decode cX0_pay 44 = .ok (.iadd, 1) := by decide +kernel
theorem dX0_pay_45 : decode cX0_pay 45 = .ok (.ireturn, 1) := by decide +kernel
theorem dX0_pay_46 : decode cX0_pay 46 = .ok (.aload_n 0, 1) := by decide +kernel
theorem dX0_pay_47 : decode cX0_pay 47 = .ok (.bipush 80, 2) := by decide +kernel
theorem dX0_pay_49 : decode cX0_pay 49 = .ok (.invokevirtual 55, 3) := by decide +kernel
theorem dX0_pay_52 : decode cX0_pay 52 = .ok (.aload_n 0, 1) := by decide +kernel
theorem dX0_pay_53 : decode cX0_pay 53 = .ok (.iconst 0, 1) := by decide +kernel
theorem dX0_pay_54 : decode cX0_pay 54 = .ok (.iload_n 2, 1) := by decide +kernel
theorem dX0_pay_55 : decode cX0_pay 55 = .ok (.invokevirtual 49, 3) := by decide +kernel
theorem dX0_pay_58 : decode cX0_pay 58 = .ok (.iconst 2, 1) := by decide +kernel
theorem dX0_pay_59 : decode cX0_pay 59 = .ok (.imul, 1) := by decide +kernel
theorem dX0_pay_60 : decode cX0_pay 60 = .ok (.ireturn, 1) := by decide +kernel
theorem dX0_pay_61 : decode cX0_pay 61 = .ok (.aload_n 0, 1) := by decide +kernel
theorem dX0_pay_62 : decode cX0_pay 62 = .ok (.bipush 12, 2) := by decide +kernel
theorem dX0_pay_64 : decode cX0_pay 64 = .ok (.invokevirtual 55, 3) := by decide +kernel
theorem dX0_pay_67 : decode cX0_pay 67 = .ok (.iload_n 2, 1) := by decide +kernel
theorem dX0_pay_68 : decode cX0_pay 68 = .ok (.aload_n 0, 1) := by decide +kernel
theorem dX0_pay_69 : decode cX0_pay 69 = .ok (.getfield 33, 3) := by decide +kernel
theorem dX0_pay_72 : decode cX0_pay 72 = .ok (.isub, 1) := by decide +kernel
theorem dX0_pay_73 : decode cX0_pay 73 = .ok (.ireturn, 1) := by decide +kernel
theorem dX0_end_0 : decode cX0_end 0 = .ok (.iload_n 1, 1) := by decide +kernel
theorem dX0_end_1 : decode cX0_end 1 = .ok (.tableswitch 65 2 4 #[27, 27, 42], 27) := by decide +kernel
theorem dX0_end_28 : decode cX0_end 28 = .ok (.aload_n 0, 1) := by decide +kernel
theorem dX0_end_29 : decode cX0_end 29 = .ok (.bipush 31, 2) := by decide +kernel
theorem dX0_end_31 : decode cX0_end 31 = .ok (.invokevirtual 55, 3) := by decide +kernel
theorem dX0_end_34 : decode cX0_end 34 = .ok (.aload_n 0, 1) := by decide +kernel
theorem dX0_end_35 : decode cX0_end 35 = .ok (.iconst 0, 1) := by decide +kernel
theorem dX0_end_36 : decode cX0_end 36 = .ok (.iload_n 2, 1) := by decide +kernel
theorem dX0_end_37 : decode cX0_end 37 = .ok (.iconst 1, 1) := by decide +kernel
theorem dX0_end_38 : decode cX0_end 38 = .ok (.iadd, 1) := by decide +kernel
theorem dX0_end_39 : decode cX0_end 39 = .ok (.invokevirtual 52, 3) := by decide +kernel
theorem dX0_end_42 : decode cX0_end 42 = .ok (.ireturn, 1) := by decide +kernel
theorem dX0_end_43 : decode cX0_end 43 = .ok (.aload_n 0, 1) := by decide +kernel
theorem dX0_end_44 : decode cX0_end 44 = .ok (.bipush 50, 2) := by decide +kernel
theorem dX0_end_46 : decode cX0_end 46 = .ok (.invokevirtual 55, 3) := by decide +kernel
theorem dX0_end_49 : decode cX0_end 49 = .ok (.aload_n 0, 1) := by decide +kernel
theorem dX0_end_50 : decode cX0_end 50 = .ok (.aload_n 0, 1) := by decide +kernel
theorem dX0_end_51 : decode cX0_end 51 = .ok (.getfield 24, 3) := by decide +kernel
theorem dX0_end_54 : decode cX0_end 54 = .ok (.iload_n 2, 1) := by decide +kernel
theorem dX0_end_55 : decode cX0_end 55 = .ok (.invokevirtual 49, 3) := by decide +kernel
theorem dX0_end_58 : decode cX0_end 58 = .ok (.aload_n 0, 1) := by decide +kernel
theorem dX0_end_59 : decode cX0_end 59 = .ok (.iconst 0, 1) := by decide +kernel
theorem dX0_end_60 : decode cX0_end 60 = .ok (.iload_n 2, 1) := by decide +kernel
theorem dX0_end_61 : decode cX0_end 61 = .ok (.invokevirtual 52, 3) := by decide +kernel
theorem dX0_end_64 : decode cX0_end 64 = .ok (.isub, 1) := by decide +kernel
theorem dX0_end_65 : decode cX0_end 65 = .ok (.ireturn, 1) := by decide +kernel
theorem dX0_end_66 : decode cX0_end 66 = .ok (.aload_n 0, 1) := by decide +kernel
theorem dX0_end_67 : decode cX0_end 67 = .ok (.bipush 13, 2) := by decide +kernel
theorem dX0_end_69 : decode cX0_end 69 = .ok (.invokevirtual 55, 3) := by decide +kernel
theorem dX0_end_72 : decode cX0_end 72 = .ok (.aload_n 0, 1) := by decide +kernel
theorem dX0_end_73 : decode cX0_end 73 = .ok (.aload_n 0, 1) := by decide +kernel
theorem dX0_end_74 : decode cX0_end 74 = .ok (.getfield 24, 3) := by decide +kernel
theorem dX0_end_77 : decode cX0_end 77 = .ok (.iload_n 2, 1) := by decide +kernel
theorem dX0_end_78 : decode cX0_end 78 = .ok (.invokevirtual 46, 3) := by decide +kernel
theorem dX0_end_81 : decode cX0_end 81 = .ok (.aload_n 0, 1) := by decide +kernel
theorem dX0_end_82 : decode cX0_end 82 = .ok (.aload_n 0, 1) := by decide +kernel
theorem dX0_end_83 : decode cX0_end 83 = .ok (.getfield 24, 3) := by decide +kernel
theorem dX0_end_86 : decode cX0_end 86 = .ok (.iload_n 2, 1) := by decide +kernel
theorem dX0_end_87 : decode cX0_end 87 = .ok (.invokevirtual 49, 3) := by decide +kernel
theorem dX0_end_90 : decode cX0_end 90 = .ok (.ixor, 1) := by decide +kernel
theorem dX0_end_91 : decode cX0_end 91 = .ok (.ireturn, 1) := by decide +kernel
theorem dX1_init_0 : decode cX1_init 0 = .ok (.aload_n 0, 1) := by decide +kernel
theorem dX1_init_1 : decode cX1_init 1 = .ok (.invokespecial 3, 3) := by decide +kernel
theorem dX1_init_4 : decode cX1_init 4 = .ok (.return_, 1) := by decide +kernel
theorem dX1_open_0 : decode cX1_open 0 = .ok (.aload_n 0, 1) := by decide +kernel
theorem dX1_open_1 : decode cX1_open 1 = .ok (.iload_n 1, 1) := by decide +kernel
theorem dX1_open_2 : decode cX1_open 2 = .ok (.putfield 9, 3) := by decide +kernel
theorem dX1_open_5 : decode cX1_open 5 = .ok (.aload_n 0, 1) := by decide +kernel
theorem dX1_open_6 : decode cX1_open 6 = .ok (.iconst 0, 1) := by decide +kernel
theorem dX1_open_7 : decode cX1_open 7 = .ok (.putfield 15, 3) := by decide +kernel
theorem dX1_open_10 : decode cX1_open 10 = .ok (.aload_n 0, 1) := by decide +kernel
theorem dX1_open_11 : decode cX1_open 11 = .ok (.iconst 0, 1) := by decide +kernel
theorem dX1_open_12 : decode cX1_open 12 = .ok (.putfield 18, 3) := by decide +kernel
theorem dX1_open_15 : decode cX1_open 15 = .ok (.aload_n 0, 1) := by decide +kernel
theorem dX1_open_16 : decode cX1_open 16 = .ok (.iconst 0, 1) := by decide +kernel
theorem dX1_open_17 : decode cX1_open 17 = .ok (.putfield 21, 3) := by decide +kernel
theorem dX1_open_20 : decode cX1_open 20 = .ok (.aload_n 0, 1) := by decide +kernel
theorem dX1_open_21 : decode cX1_open 21 = .ok (.iconst 0, 1) := by decide +kernel
theorem dX1_open_22 : decode cX1_open 22 = .ok (.putfield 24, 3) := by decide +kernel
theorem dX1_open_25 : decode cX1_open 25 = .ok (.aload_n 0, 1) := by decide +kernel
theorem dX1_open_26 : decode cX1_open 26 = .ok (.iconst (-1), 1) := by decide +kernel
theorem dX1_open_27 : decode cX1_open 27 = .ok (.putfield 27, 3) := by decide +kernel
theorem dX1_open_30 : decode cX1_open 30 = .ok (.aload_n 0, 1) := by decide +kernel
theorem dX1_open_31 : decode cX1_open 31 = .ok (.iconst 0, 1) := by decide +kernel
theorem dX1_open_32 : decode cX1_open 32 = .ok (.putfield 30, 3) := by decide +kernel
theorem dX1_open_35 : decode cX1_open 35 = .ok (.aload_n 0, 1) := by decide +kernel
theorem dX1_open_36 : decode cX1_open 36 = .ok (.iconst 0, 1) := by decide +kernel
theorem dX1_open_37 : decode cX1_open 37 = .ok (.putfield 33, 3) := by decide +kernel
theorem dX1_open_40 : decode cX1_open 40 = .ok (.aload_n 0, 1) := by decide +kernel
theorem dX1_open_41 : decode cX1_open 41 = .ok (.iconst 0, 1) := by decide +kernel
theorem dX1_open_42 : decode cX1_open 42 = .ok (.putfield 36, 3) := by decide +kernel
theorem dX1_open_45 : decode cX1_open 45 = .ok (.aload_n 0, 1) := by decide +kernel
theorem dX1_open_46 : decode cX1_open 46 = .ok (.iconst 0, 1) := by decide +kernel
theorem dX1_open_47 : decode cX1_open 47 = .ok (.putfield 39, 3) := by decide +kernel
theorem dX1_open_50 : decode cX1_open 50 = .ok (.aload_n 0, 1) := by decide +kernel
theorem dX1_open_51 : decode cX1_open 51 = .ok (.lconst 0, 1) := by decide +kernel
theorem dX1_open_52 : decode cX1_open 52 = .ok (.putfield 42, 3) := by decide +kernel
theorem dX1_open_55 : decode cX1_open 55 = .ok (.return_, 1) := by decide +kernel
theorem dX1_copyFrom_0 : decode cX1_copyFrom 0 = .ok (.aload_n 0, 1) := by decide +kernel
theorem dX1_copyFrom_1 : decode cX1_copyFrom 1 = .ok (.aload_n 1, 1) := by decide +kernel
theorem dX1_copyFrom_2 : decode cX1_copyFrom 2 = .ok (.getfield 9, 3) := by decide +kernel
theorem dX1_copyFrom_5 : decode cX1_copyFrom 5 = .ok (.putfield 9, 3) := by decide +kernel
theorem dX1_copyFrom_8 : decode cX1_copyFrom 8 = .ok (.aload_n 0, 1) := by decide +kernel
theorem dX1_copyFrom_9 : decode cX1_copyFrom 9 = .ok (.aload_n 1, 1) := by decide +kernel
theorem dX1_copyFrom_10 : decode cX1_copyFrom 10 = .ok (.getfield 15, 3) := by decide +kernel
theorem dX1_copyFrom_13 : decode cX1_copyFrom 13 = .ok (.putfield 15, 3) := by decide +kernel
theorem dX1_copyFrom_16 : decode cX1_copyFrom 16 = .ok (.aload_n 0, 1) := by decide +kernel
theorem dX1_copyFrom_17 : decode cX1_copyFrom 17 = .ok (.aload_n 1, 1) := by decide +kernel
theorem dX1_copyFrom_18 : decode cX1_copyFrom 18 = .ok (.getfield 18, 3) := by decide +kernel
theorem dX1_copyFrom_21 : decode cX1_copyFrom 21 = .ok (.putfield 18, 3) := by decide +kernel
theorem dX1_copyFrom_24 : decode cX1_copyFrom 24 = .ok (.aload_n 0, 1) := by decide +kernel
theorem dX1_copyFrom_25 : decode cX1_copyFrom 25 = .ok (.aload_n 1, 1) := by decide +kernel
theorem dX1_copyFrom_26 : decode cX1_copyFrom 26 = .ok (.getfield 21, 3) := by decide +kernel
theorem dX1_copyFrom_29 : decode cX1_copyFrom 29 = .ok (.putfield 21, 3) := by decide +kernel
theorem dX1_copyFrom_32 : decode cX1_copyFrom 32 = .ok (.aload_n 0, 1) := by decide +kernel
theorem dX1_copyFrom_33 : decode cX1_copyFrom 33 = .ok (.aload_n 1, 1) := by decide +kernel
theorem dX1_copyFrom_34 : decode cX1_copyFrom 34 = .ok (.getfield 24, 3) := by decide +kernel
theorem dX1_copyFrom_37 : decode cX1_copyFrom 37 = .ok (.putfield 24, 3) := by decide +kernel
theorem dX1_copyFrom_40 : decode cX1_copyFrom 40 = .ok (.aload_n 0, 1) := by decide +kernel
theorem dX1_copyFrom_41 : decode cX1_copyFrom 41 = .ok (.aload_n 1, 1) := by decide +kernel
theorem dX1_copyFrom_42 : decode cX1_copyFrom 42 = .ok (.getfield 27, 3) := by decide +kernel
theorem dX1_copyFrom_45 : decode cX1_copyFrom 45 = .ok (.putfield 27, 3) := by decide +kernel
theorem dX1_copyFrom_48 : decode cX1_copyFrom 48 = .ok (.aload_n 0, 1) := by decide +kernel
theorem dX1_copyFrom_49 : decode cX1_copyFrom 49 = .ok (.aload_n 1, 1) := by decide +kernel
theorem dX1_copyFrom_50 : decode cX1_copyFrom 50 = .ok (.getfield 30, 3) := by decide +kernel
theorem dX1_copyFrom_53 : decode cX1_copyFrom 53 = .ok (.putfield 30, 3) := by decide +kernel
theorem dX1_copyFrom_56 : decode cX1_copyFrom 56 = .ok (.aload_n 0, 1) := by decide +kernel
theorem dX1_copyFrom_57 : decode cX1_copyFrom 57 = .ok (.aload_n 1, 1) := by decide +kernel
theorem dX1_copyFrom_58 : decode cX1_copyFrom 58 = .ok (.getfield 33, 3) := by decide +kernel
theorem dX1_copyFrom_61 : decode cX1_copyFrom 61 = .ok (.putfield 33, 3) := by decide +kernel
theorem dX1_copyFrom_64 : decode cX1_copyFrom 64 = .ok (.aload_n 0, 1) := by decide +kernel
theorem dX1_copyFrom_65 : decode cX1_copyFrom 65 = .ok (.aload_n 1, 1) := by decide +kernel
theorem dX1_copyFrom_66 : decode cX1_copyFrom 66 = .ok (.getfield 36, 3) := by decide +kernel
theorem dX1_copyFrom_69 : decode cX1_copyFrom 69 = .ok (.putfield 36, 3) := by decide +kernel
theorem dX1_copyFrom_72 : decode cX1_copyFrom 72 = .ok (.aload_n 0, 1) := by decide +kernel
theorem dX1_copyFrom_73 : decode cX1_copyFrom 73 = .ok (.aload_n 1, 1) := by decide +kernel
theorem dX1_copyFrom_74 : decode cX1_copyFrom 74 = .ok (.getfield 39, 3) := by decide +kernel
theorem dX1_copyFrom_77 : decode cX1_copyFrom 77 = .ok (.putfield 39, 3) := by decide +kernel
theorem dX1_copyFrom_80 : decode cX1_copyFrom 80 = .ok (.aload_n 0, 1) := by decide +kernel
theorem dX1_copyFrom_81 : decode cX1_copyFrom 81 = .ok (.aload_n 1, 1) := by decide +kernel
theorem dX1_copyFrom_82 : decode cX1_copyFrom 82 = .ok (.getfield 42, 3) := by decide +kernel
theorem dX1_copyFrom_85 : decode cX1_copyFrom 85 = .ok (.putfield 42, 3) := by decide +kernel
theorem dX1_copyFrom_88 : decode cX1_copyFrom 88 = .ok (.return_, 1) := by decide +kernel
theorem dX1_lineAt_0 : decode cX1_lineAt 0 = .ok (.iload_n 1, 1) := by decide +kernel
theorem dX1_lineAt_1 : decode cX1_lineAt 1 = .ok (.ifCond .lt 11, 3) := by decide +kernel
theorem dX1_lineAt_4 : decode cX1_lineAt 4 = .ok (.iload_n 1, 1) := by decide +kernel
theorem dX1_lineAt_5 : decode cX1_lineAt 5 = .ok (.aload_n 0, 1) := by decide +kernel
theorem dX1_lineAt_6 : decode cX1_lineAt 6 = .ok (.getfield 21, 3) := by decide +kernel
theorem dX1_lineAt_9 : decode cX1_lineAt 9 = .ok (.if_icmp .lt 7, 3) := by decide +kernel
theorem dX1_lineAt_12 : decode cX1_lineAt 12 = .ok (.iconst (-1), 1) := by decide +kernel
theorem dX1_lineAt_13 : decode cX1_lineAt 13 = .ok (.goto 14, 3) := by decide +kernel
theorem dX1_lineAt_16 : decode cX1_lineAt 16 = .ok (.aload_n 0, 1) := by decide +kernel
theorem dX1_lineAt_17 : decode cX1_lineAt 17 = .ok (.getfield 36, 3) := by decide +kernel
theorem dX1_lineAt_20 : decode cX1_lineAt 20 = .ok (.iconst 4, 1) := by decide +kernel
theorem dX1_lineAt_21 : decode cX1_lineAt 21 = .ok (.iload_n 1, 1) := by decide +kernel
theorem dX1_lineAt_22 : decode cX1_lineAt 22 = .ok (.imul, 1) := by decide +kernel
theorem dX1_lineAt_23 : decode cX1_lineAt 23 = .ok (.iushr, 1) := by decide +kernel
theorem dX1_lineAt_24 : decode cX1_lineAt 24 = .ok (.bipush 15, 2) := by decide +kernel
theorem dX1_lineAt_26 : decode cX1_lineAt 26 = .ok (.iand, 1) := by decide +kernel
theorem dX1_lineAt_27 : decode cX1_lineAt 27 = .ok (.ireturn, 1) := by decide +kernel
theorem dX1_payerAt_0 : decode cX1_payerAt 0 = .ok (.iload_n 1, 1) := by decide +kernel
theorem dX1_payerAt_1 : decode cX1_payerAt 1 = .ok (.ifCond .lt 11, 3) := by decide +kernel
theorem dX1_payerAt_4 : decode cX1_payerAt 4 = .ok (.iload_n 1, 1) := by decide +kernel
theorem dX1_payerAt_5 : decode cX1_payerAt 5 = .ok (.aload_n 0, 1) := by decide +kernel
theorem dX1_payerAt_6 : decode cX1_payerAt 6 = .ok (.getfield 21, 3) := by decide +kernel
theorem dX1_payerAt_9 : decode cX1_payerAt 9 = .ok (.if_icmp .lt 7, 3) := by decide +kernel
theorem dX1_payerAt_12 : decode cX1_payerAt 12 = .ok (.iconst (-1), 1) := by decide +kernel
theorem dX1_payerAt_13 : decode cX1_payerAt 13 = .ok (.goto 14, 3) := by decide +kernel
theorem dX1_payerAt_16 : decode cX1_payerAt 16 = .ok (.aload_n 0, 1) := by decide +kernel
theorem dX1_payerAt_17 : decode cX1_payerAt 17 = .ok (.getfield 39, 3) := by decide +kernel
theorem dX1_payerAt_20 : decode cX1_payerAt 20 = .ok (.iconst 4, 1) := by decide +kernel
theorem dX1_payerAt_21 : decode cX1_payerAt 21 = .ok (.iload_n 1, 1) := by decide +kernel
theorem dX1_payerAt_22 : decode cX1_payerAt 22 = .ok (.imul, 1) := by decide +kernel
theorem dX1_payerAt_23 : decode cX1_payerAt 23 = .ok (.iushr, 1) := by decide +kernel
theorem dX1_payerAt_24 : decode cX1_payerAt 24 = .ok (.bipush 15, 2) := by decide +kernel
theorem dX1_payerAt_26 : decode cX1_payerAt 26 = .ok (.iand, 1) := by decide +kernel
theorem dX1_payerAt_27 : decode cX1_payerAt 27 = .ok (.ireturn, 1) := by decide +kernel
theorem dX1_actAt_0 : decode cX1_actAt 0 = .ok (.iload_n 1, 1) := by decide +kernel
theorem dX1_actAt_1 : decode cX1_actAt 1 = .ok (.ifCond .lt 17, 3) := by decide +kernel
theorem dX1_actAt_4 : decode cX1_actAt 4 = .ok (.iload_n 1, 1) := by decide +kernel
theorem dX1_actAt_5 : decode cX1_actAt 5 = .ok (.aload_n 0, 1) := by decide +kernel
theorem dX1_actAt_6 : decode cX1_actAt 6 = .ok (.getfield 33, 3) := by decide +kernel
theorem dX1_actAt_9 : decode cX1_actAt 9 = .ok (.if_icmp .ge 9, 3) := by decide +kernel
theorem dX1_actAt_12 : decode cX1_actAt 12 = .ok (.iload_n 1, 1) := by decide +kernel
theorem dX1_actAt_13 : decode cX1_actAt 13 = .ok (.bipush 10, 2) := by decide +kernel
theorem dX1_actAt_15 : decode cX1_actAt 15 = .ok (.if_icmp .lt 7, 3) := by decide +kernel
theorem dX1_actAt_18 : decode cX1_actAt 18 = .ok (.iconst (-1), 1) := by decide +kernel
theorem dX1_actAt_19 : decode cX1_actAt 19 = .ok (.goto 16, 3) := by decide +kernel
theorem dX1_actAt_22 : decode cX1_actAt 22 = .ok (.aload_n 0, 1) := by decide +kernel
theorem dX1_actAt_23 : decode cX1_actAt 23 = .ok (.getfield 42, 3) := by decide +kernel
theorem dX1_actAt_26 : decode cX1_actAt 26 = .ok (.iconst 5, 1) := by decide +kernel
theorem dX1_actAt_27 : decode cX1_actAt 27 = .ok (.iload_n 1, 1) := by decide +kernel
theorem dX1_actAt_28 : decode cX1_actAt 28 = .ok (.imul, 1) := by decide +kernel
theorem dX1_actAt_29 : decode cX1_actAt 29 = .ok (.lushr, 1) := by decide +kernel
theorem dX1_actAt_30 : decode cX1_actAt 30 = .ok (.ldc2_w 46, 3) := by decide +kernel
theorem dX1_actAt_33 : decode cX1_actAt 33 = .ok (.land, 1) := by decide +kernel
theorem dX1_actAt_34 : decode cX1_actAt 34 = .ok (.l2i, 1) := by decide +kernel
theorem dX1_actAt_35 : decode cX1_actAt 35 = .ok (.ireturn, 1) := by decide +kernel
theorem dX1_comesRoundTo_0 : decode cX1_comesRoundTo 0 = .ok (.aload_n 0, 1) := by decide +kernel
theorem dX1_comesRoundTo_1 : decode cX1_comesRoundTo 1 = .ok (.getfield 21, 3) := by decide +kernel
theorem dX1_comesRoundTo_4 : decode cX1_comesRoundTo 4 = .ok (.ifCond .le 13, 3) := by decide +kernel
theorem dX1_comesRoundTo_7 : decode cX1_comesRoundTo 7 = .ok (.iload_n 1, 1) := by decide +kernel
theorem dX1_comesRoundTo_8 : decode cX1_comesRoundTo 8 = .ok (.aload_n 0, 1) := by decide +kernel
theorem dX1_comesRoundTo_9 : decode cX1_comesRoundTo 9 = .ok (.getfield 9, 3) := by decide +kernel
theorem dX1_comesRoundTo_12 : decode cX1_comesRoundTo 12 = .ok (.if_icmp .ne 5, 3) := by decide +kernel
theorem dX1_comesRoundTo_15 : decode cX1_comesRoundTo 15 = .ok (.iconst 1, 1) := by decide +kernel
theorem dX1_comesRoundTo_16 : decode cX1_comesRoundTo 16 = .ok (.ireturn, 1) := by decide +kernel
theorem dX1_comesRoundTo_17 : decode cX1_comesRoundTo 17 = .ok (.iconst 0, 1) := by decide +kernel
theorem dX1_comesRoundTo_18 : decode cX1_comesRoundTo 18 = .ok (.istore_n 2, 1) := by decide +kernel
theorem dX1_comesRoundTo_19 : decode cX1_comesRoundTo 19 = .ok (.iload_n 2, 1) := by decide +kernel
theorem dX1_comesRoundTo_20 : decode cX1_comesRoundTo 20 = .ok (.aload_n 0, 1) := by decide +kernel
theorem dX1_comesRoundTo_21 : decode cX1_comesRoundTo 21 = .ok (.getfield 21, 3) := by decide +kernel
theorem dX1_comesRoundTo_24 : decode cX1_comesRoundTo 24 = .ok (.if_icmp .ge 20, 3) := by decide +kernel
theorem dX1_comesRoundTo_27 : decode cX1_comesRoundTo 27 = .ok (.aload_n 0, 1) := by decide +kernel
theorem dX1_comesRoundTo_28 : decode cX1_comesRoundTo 28 = .ok (.iload_n 2, 1) := by decide +kernel
theorem dX1_comesRoundTo_29 : decode cX1_comesRoundTo 29 = .ok (.invokevirtual 48, 3) := by decide +kernel
theorem dX1_comesRoundTo_32 : decode cX1_comesRoundTo 32 = .ok (.iload_n 1, 1) := by decide +kernel
theorem dX1_comesRoundTo_33 : decode cX1_comesRoundTo 33 = .ok (.if_icmp .ne 5, 3) := by decide +kernel
theorem dX1_comesRoundTo_36 : decode cX1_comesRoundTo 36 = .ok (.iconst 1, 1) := by decide +kernel
theorem dX1_comesRoundTo_37 : decode cX1_comesRoundTo 37 = .ok (.ireturn, 1) := by decide +kernel
theorem dX1_comesRoundTo_38 : decode cX1_comesRoundTo 38 = .ok (.iinc 2 1, 3) := by decide +kernel
theorem dX1_comesRoundTo_41 : decode cX1_comesRoundTo 41 = .ok (.goto (-22), 3) := by decide +kernel
theorem dX1_comesRoundTo_44 : decode cX1_comesRoundTo 44 = .ok (.iconst 0, 1) := by decide +kernel
theorem dX1_comesRoundTo_45 : decode cX1_comesRoundTo 45 = .ok (.ireturn, 1) := by decide +kernel
theorem dX1_enter_0 : decode cX1_enter 0 = .ok (.aload_n 0, 1) := by decide +kernel
theorem dX1_enter_1 : decode cX1_enter 1 = .ok (.dup, 1) := by decide +kernel
theorem dX1_enter_2 : decode cX1_enter 2 = .ok (.getfield 36, 3) := by decide +kernel
theorem dX1_enter_5 : decode cX1_enter 5 = .ok (.iload_n 1, 1) := by decide +kernel
theorem dX1_enter_6 : decode cX1_enter 6 = .ok (.iconst 4, 1) := by decide +kernel
theorem dX1_enter_7 : decode cX1_enter 7 = .ok (.aload_n 0, 1) := by decide +kernel
theorem dX1_enter_8 : decode cX1_enter 8 = .ok (.getfield 21, 3) := by decide +kernel
theorem dX1_enter_11 : decode cX1_enter 11 = .ok (.imul, 1) := by decide +kernel
theorem dX1_enter_12 : decode cX1_enter 12 = .ok (.ishl, 1) := by decide +kernel
theorem dX1_enter_13 : decode cX1_enter 13 = .ok (.ior, 1) := by decide +kernel
theorem dX1_enter_14 : decode cX1_enter 14 = .ok (.putfield 36, 3) := by decide +kernel
theorem dX1_enter_17 : decode cX1_enter 17 = .ok (.aload_n 0, 1) := by decide +kernel
theorem dX1_enter_18 : decode cX1_enter 18 = .ok (.dup, 1) := by decide +kernel
theorem dX1_enter_19 : decode cX1_enter 19 = .ok (.getfield 39, 3) := by decide +kernel
theorem dX1_enter_22 : decode cX1_enter 22 = .ok (.iload_n 2, 1) := by decide +kernel
theorem dX1_enter_23 : decode cX1_enter 23 = .ok (.iconst 4, 1) := by decide +kernel
theorem dX1_enter_24 : decode cX1_enter 24 = .ok (.aload_n 0, 1) := by decide +kernel
theorem dX1_enter_25 : decode cX1_enter 25 = .ok (.getfield 21, 3) := by decide +kernel
theorem dX1_enter_28 : decode cX1_enter 28 = .ok (.imul, 1) := by decide +kernel
theorem dX1_enter_29 : decode cX1_enter 29 = .ok (.ishl, 1) := by decide +kernel
theorem dX1_enter_30 : decode cX1_enter 30 = .ok (.ior, 1) := by decide +kernel
theorem dX1_enter_31 : decode cX1_enter 31 = .ok (.putfield 39, 3) := by decide +kernel
theorem dX1_enter_34 : decode cX1_enter 34 = .ok (.aload_n 0, 1) := by decide +kernel
theorem dX1_enter_35 : decode cX1_enter 35 = .ok (.dup, 1) := by decide +kernel
theorem dX1_enter_36 : decode cX1_enter 36 = .ok (.getfield 21, 3) := by decide +kernel
theorem dX1_enter_39 : decode cX1_enter 39 = .ok (.iconst 1, 1) := by decide +kernel
theorem dX1_enter_40 : decode cX1_enter 40 = .ok (.iadd, 1) := by decide +kernel
theorem dX1_enter_41 : decode cX1_enter 41 = .ok (.putfield 21, 3) := by decide +kernel
theorem dX1_enter_44 : decode cX1_enter 44 = .ok (.return_, 1) := by decide +kernel
theorem dX1_note_0 : decode cX1_note 0 = .ok (.aload_n 0, 1) := by decide +kernel
theorem dX1_note_1 : decode cX1_note 1 = .ok (.getfield 33, 3) := by decide +kernel
theorem dX1_note_4 : decode cX1_note 4 = .ok (.bipush 10, 2) := by decide +kernel
theorem dX1_note_6 : decode cX1_note 6 = .ok (.if_icmp .ge 21, 3) := by decide +kernel
theorem dX1_note_9 : decode cX1_note 9 = .ok (.aload_n 0, 1) := by decide +kernel
theorem dX1_note_10 : decode cX1_note 10 = .ok (.dup, 1) := by decide +kernel
theorem dX1_note_11 : decode cX1_note 11 = .ok (.getfield 42, 3) := by decide +kernel
theorem dX1_note_14 : decode cX1_note 14 = .ok (.iload_n 1, 1) := by decide +kernel
theorem dX1_note_15 : decode cX1_note 15 = .ok (.i2l, 1) := by decide +kernel
theorem dX1_note_16 : decode cX1_note 16 = .ok (.iconst 5, 1) := by decide +kernel
theorem dX1_note_17 : decode cX1_note 17 = .ok (.aload_n 0, 1) := by decide +kernel
theorem dX1_note_18 : decode cX1_note 18 = .ok (.getfield 33, 3) := by decide +kernel
theorem dX1_note_21 : decode cX1_note 21 = .ok (.imul, 1) := by decide +kernel
theorem dX1_note_22 : decode cX1_note 22 = .ok (.lshl, 1) := by decide +kernel
theorem dX1_note_23 : decode cX1_note 23 = .ok (.lor, 1) := by decide +kernel
theorem dX1_note_24 : decode cX1_note 24 = .ok (.putfield 42, 3) := by decide +kernel
theorem dX1_note_27 : decode cX1_note 27 = .ok (.aload_n 0, 1) := by decide +kernel
theorem dX1_note_28 : decode cX1_note 28 = .ok (.dup, 1) := by decide +kernel
theorem dX1_note_29 : decode cX1_note 29 = .ok (.getfield 33, 3) := by decide +kernel
theorem dX1_note_32 : decode cX1_note 32 = .ok (.iconst 1, 1) := by decide +kernel
theorem dX1_note_33 : decode cX1_note 33 = .ok (.iadd, 1) := by decide +kernel
theorem dX1_note_34 : decode cX1_note 34 = .ok (.putfield 33, 3) := by decide +kernel
theorem dX1_note_37 : decode cX1_note 37 = .ok (.return_, 1) := by decide +kernel
theorem dX2_init_0 : decode cX2_init 0 = .ok (.aload_n 0, 1) := by decide +kernel
theorem dX2_init_1 : decode cX2_init 1 = .ok (.invokespecial 3, 3) := by decide +kernel
theorem dX2_init_4 : decode cX2_init 4 = .ok (.aload_n 0, 1) := by decide +kernel
theorem dX2_init_5 : decode cX2_init 5 = .ok (.bipush 8, 2) := by decide +kernel
theorem dX2_init_7 : decode cX2_init 7 = .ok (.newarray .int, 2) := by decide +kernel
theorem dX2_init_9 : decode cX2_init 9 = .ok (.putfield 9, 3) := by decide +kernel
theorem dX2_init_12 : decode cX2_init 12 = .ok (.aload_n 0, 1) := by decide +kernel
theorem dX2_init_13 : decode cX2_init 13 = .ok (.bipush 8, 2) := by decide +kernel
theorem dX2_init_15 : decode cX2_init 15 = .ok (.newarray .int, 2) := by decide +kernel
theorem dX2_init_17 : decode cX2_init 17 = .ok (.putfield 15, 3) := by decide +kernel
theorem dX2_init_20 : decode cX2_init 20 = .ok (.aload_n 0, 1) := by decide +kernel
theorem dX2_init_21 : decode cX2_init 21 = .ok (.bipush 8, 2) := by decide +kernel
theorem dX2_init_23 : decode cX2_init 23 = .ok (.newarray .int, 2) := by decide +kernel
theorem dX2_init_25 : decode cX2_init 25 = .ok (.putfield 18, 3) := by decide +kernel
theorem dX2_init_28 : decode cX2_init 28 = .ok (.aload_n 0, 1) := by decide +kernel
theorem dX2_init_29 : decode cX2_init 29 = .ok (.bipush 8, 2) := by decide +kernel
theorem dX2_init_31 : decode cX2_init 31 = .ok (.newarray .int, 2) := by decide +kernel
theorem dX2_init_33 : decode cX2_init 33 = .ok (.putfield 21, 3) := by decide +kernel
theorem dX2_init_36 : decode cX2_init 36 = .ok (.aload_n 0, 1) := by decide +kernel
theorem dX2_init_37 : decode cX2_init 37 = .ok (.bipush 8, 2) := by decide +kernel
theorem dX2_init_39 : decode cX2_init 39 = .ok (.newarray .int, 2) := by decide +kernel
theorem dX2_init_41 : decode cX2_init 41 = .ok (.putfield 24, 3) := by decide +kernel
theorem dX2_init_44 : decode cX2_init 44 = .ok (.aload_n 0, 1) := by decide +kernel
theorem dX2_init_45 : decode cX2_init 45 = .ok (.aload_n 1, 1) := by decide +kernel
theorem dX2_init_46 : decode cX2_init 46 = .ok (.putfield 27, 3) := by decide +kernel
theorem dX2_init_49 : decode cX2_init 49 = .ok (.aload_n 0, 1) := by decide +kernel
theorem dX2_init_50 : decode cX2_init 50 = .ok (.iload_n 2, 1) := by decide +kernel
theorem dX2_init_51 : decode cX2_init 51 = .ok (.anewarray 31, 3) := by decide +kernel
theorem dX2_init_54 : decode cX2_init 54 = .ok (.putfield 33, 3) := by decide +kernel
theorem dX2_init_57 : decode cX2_init 57 = .ok (.iconst 0, 1) := by decide +kernel
theorem dX2_init_58 : decode cX2_init 58 = .ok (.istore_n 3, 1) := by decide +kernel
theorem dX2_init_59 : decode cX2_init 59 = .ok (.iload_n 3, 1) := by decide +kernel
theorem dX2_init_60 : decode cX2_init 60 = .ok (.iload_n 2, 1) := by decide +kernel
theorem dX2_init_61 : decode cX2_init 61 = .ok (.if_icmp .ge 22, 3) := by decide +kernel
theorem dX2_init_64 : decode cX2_init 64 = .ok (.aload_n 0, 1) := by decide +kernel
theorem dX2_init_65 : decode cX2_init 65 = .ok (.getfield 33, 3) := by decide +kernel
theorem dX2_init_68 : decode cX2_init 68 = .ok (.iload_n 3, 1) := by decide +kernel
theorem dX2_init_69 : decode cX2_init 69 = .ok (.new 31, 3) := by decide +kernel
theorem dX2_init_72 : decode cX2_init 72 = .ok (.dup, 1) := by decide +kernel
theorem dX2_init_73 : decode cX2_init 73 = .ok (.invokespecial 37, 3) := by decide +kernel
theorem dX2_init_76 : decode cX2_init 76 = .ok (.aastore, 1) := by decide +kernel
theorem dX2_init_77 : decode cX2_init 77 = .ok (.iinc 3 1, 3) := by decide +kernel
theorem dX2_init_80 : decode cX2_init 80 = .ok (.goto (-21), 3) := by decide +kernel
theorem dX2_init_83 : decode cX2_init 83 = .ok (.iconst 0, 1) := by decide +kernel
theorem dX2_init_84 : decode cX2_init 84 = .ok (.istore_n 3, 1) := by decide +kernel
theorem dX2_init_85 : decode cX2_init 85 = .ok (.iload_n 3, 1) := by decide +kernel
theorem dX2_init_86 : decode cX2_init 86 = .ok (.bipush 8, 2) := by decide +kernel
theorem dX2_init_88 : decode cX2_init 88 = .ok (.if_icmp .ge 23, 3) := by decide +kernel
theorem dX2_init_91 : decode cX2_init 91 = .ok (.aload_n 0, 1) := by decide +kernel
theorem dX2_init_92 : decode cX2_init 92 = .ok (.getfield 9, 3) := by decide +kernel
theorem dX2_init_95 : decode cX2_init 95 = .ok (.iload_n 3, 1) := by decide +kernel
theorem dX2_init_96 : decode cX2_init 96 = .ok (.iconst (-1), 1) := by decide +kernel
theorem dX2_init_97 : decode cX2_init 97 = .ok (.iastore, 1) := by decide +kernel
theorem dX2_init_98 : decode cX2_init 98 = .ok (.aload_n 0, 1) := by decide +kernel
theorem dX2_init_99 : decode cX2_init 99 = .ok (.getfield 15, 3) := by decide +kernel
theorem dX2_init_102 : decode cX2_init 102 = .ok (.iload_n 3, 1) := by decide +kernel
theorem dX2_init_103 : decode cX2_init 103 = .ok (.iconst (-1), 1) := by decide +kernel
theorem dX2_init_104 : decode cX2_init 104 = .ok (.iastore, 1) := by decide +kernel
theorem dX2_init_105 : decode cX2_init 105 = .ok (.iinc 3 1, 3) := by decide +kernel
theorem dX2_init_108 : decode cX2_init 108 = .ok (.goto (-23), 3) := by decide +kernel
theorem dX2_init_111 : decode cX2_init 111 = .ok (.return_, 1) := by decide +kernel
theorem dX2_copyFrom_0 : decode cX2_copyFrom 0 = .ok (.aload_n 0, 1) := by decide +kernel
theorem dX2_copyFrom_1 : decode cX2_copyFrom 1 = .ok (.aload_n 1, 1) := by decide +kernel
theorem dX2_copyFrom_2 : decode cX2_copyFrom 2 = .ok (.getfield 38, 3) := by decide +kernel
theorem dX2_copyFrom_5 : decode cX2_copyFrom 5 = .ok (.putfield 38, 3) := by decide +kernel
theorem dX2_copyFrom_8 : decode cX2_copyFrom 8 = .ok (.aload_n 0, 1) := by decide +kernel
theorem dX2_copyFrom_9 : decode cX2_copyFrom 9 = .ok (.aload_n 1, 1) := by decide +kernel
theorem dX2_copyFrom_10 : decode cX2_copyFrom 10 = .ok (.getfield 42, 3) := by decide +kernel
theorem dX2_copyFrom_13 : decode cX2_copyFrom 13 = .ok (.aload_n 0, 1) := by decide +kernel
theorem dX2_copyFrom_14 : decode cX2_copyFrom 14 = .ok (.getfield 33, 3) := by decide +kernel
theorem dX2_copyFrom_17 : decode cX2_copyFrom 17 = .ok (.arraylength, 1) := by decide +kernel
theorem dX2_copyFrom_18 : decode cX2_copyFrom 18 = .ok (.invokestatic 45, 3) := by decide +kernel
theorem dX2_copyFrom_21 : decode cX2_copyFrom 21 = .ok (.putfield 42, 3) := by decide +kernel
theorem dX2_copyFrom_24 : decode cX2_copyFrom 24 = .ok (.aload_n 0, 1) := by decide +kernel
theorem dX2_copyFrom_25 : decode cX2_copyFrom 25 = .ok (.aload_n 1, 1) := by decide +kernel
theorem dX2_copyFrom_26 : decode cX2_copyFrom 26 = .ok (.getfield 51, 3) := by decide +kernel
theorem dX2_copyFrom_29 : decode cX2_copyFrom 29 = .ok (.putfield 51, 3) := by decide +kernel
theorem dX2_copyFrom_32 : decode cX2_copyFrom 32 = .ok (.aload_n 0, 1) := by decide +kernel
theorem dX2_copyFrom_33 : decode cX2_copyFrom 33 = .ok (.aload_n 1, 1) := by decide +kernel
theorem dX2_copyFrom_34 : decode cX2_copyFrom 34 = .ok (.getfield 54, 3) := by decide +kernel
theorem dX2_copyFrom_37 : decode cX2_copyFrom 37 = .ok (.putfield 54, 3) := by decide +kernel
theorem dX2_copyFrom_40 : decode cX2_copyFrom 40 = .ok (.iconst 0, 1) := by decide +kernel
theorem dX2_copyFrom_41 : decode cX2_copyFrom 41 = .ok (.istore_n 2, 1) := by decide +kernel
theorem dX2_copyFrom_42 : decode cX2_copyFrom 42 = .ok (.iload_n 2, 1) := by decide +kernel
theorem dX2_copyFrom_43 : decode cX2_copyFrom 43 = .ok (.bipush 8, 2) := by decide +kernel
theorem dX2_copyFrom_45 : decode cX2_copyFrom 45 = .ok (.if_icmp .ge 45, 3) := by decide +kernel
theorem dX2_copyFrom_48 : decode cX2_copyFrom 48 = .ok (.aload_n 0, 1) := by decide +kernel
theorem dX2_copyFrom_49 : decode cX2_copyFrom 49 = .ok (.getfield 9, 3) := by decide +kernel
theorem dX2_copyFrom_52 : decode cX2_copyFrom 52 = .ok (.iload_n 2, 1) := by decide +kernel
theorem dX2_copyFrom_53 : decode cX2_copyFrom 53 = .ok (.aload_n 1, 1) := by decide +kernel
theorem dX2_copyFrom_54 : decode cX2_copyFrom 54 = .ok (.getfield 9, 3) := by decide +kernel
theorem dX2_copyFrom_57 : decode cX2_copyFrom 57 = .ok (.iload_n 2, 1) := by decide +kernel
theorem dX2_copyFrom_58 : decode cX2_copyFrom 58 = .ok (.iaload, 1) := by decide +kernel
theorem dX2_copyFrom_59 : decode cX2_copyFrom 59 = .ok (.iastore, 1) := by decide +kernel
theorem dX2_copyFrom_60 : decode cX2_copyFrom 60 = .ok (.aload_n 0, 1) := by decide +kernel
theorem dX2_copyFrom_61 : decode cX2_copyFrom 61 = .ok (.getfield 15, 3) := by decide +kernel
theorem dX2_copyFrom_64 : decode cX2_copyFrom 64 = .ok (.iload_n 2, 1) := by decide +kernel
theorem dX2_copyFrom_65 : decode cX2_copyFrom 65 = .ok (.aload_n 1, 1) := by decide +kernel
theorem dX2_copyFrom_66 : decode cX2_copyFrom 66 = .ok (.getfield 15, 3) := by decide +kernel
theorem dX2_copyFrom_69 : decode cX2_copyFrom 69 = .ok (.iload_n 2, 1) := by decide +kernel
theorem dX2_copyFrom_70 : decode cX2_copyFrom 70 = .ok (.iaload, 1) := by decide +kernel
theorem dX2_copyFrom_71 : decode cX2_copyFrom 71 = .ok (.iastore, 1) := by decide +kernel
theorem dX2_copyFrom_72 : decode cX2_copyFrom 72 = .ok (.aload_n 0, 1) := by decide +kernel
theorem dX2_copyFrom_73 : decode cX2_copyFrom 73 = .ok (.getfield 18, 3) := by decide +kernel
theorem dX2_copyFrom_76 : decode cX2_copyFrom 76 = .ok (.iload_n 2, 1) := by decide +kernel
theorem dX2_copyFrom_77 : decode cX2_copyFrom 77 = .ok (.aload_n 1, 1) := by decide +kernel
theorem dX2_copyFrom_78 : decode cX2_copyFrom 78 = .ok (.getfield 18, 3) := by decide +kernel
theorem dX2_copyFrom_81 : decode cX2_copyFrom 81 = .ok (.iload_n 2, 1) := by decide +kernel
theorem dX2_copyFrom_82 : decode cX2_copyFrom 82 = .ok (.iaload, 1) := by decide +kernel
theorem dX2_copyFrom_83 : decode cX2_copyFrom 83 = .ok (.iastore, 1) := by decide +kernel
theorem dX2_copyFrom_84 : decode cX2_copyFrom 84 = .ok (.iinc 2 1, 3) := by decide +kernel
theorem dX2_copyFrom_87 : decode cX2_copyFrom 87 = .ok (.goto (-45), 3) := by decide +kernel
theorem dX2_copyFrom_90 : decode cX2_copyFrom 90 = .ok (.iconst 0, 1) := by decide +kernel
theorem dX2_copyFrom_91 : decode cX2_copyFrom 91 = .ok (.istore_n 2, 1) := by decide +kernel
theorem dX2_copyFrom_92 : decode cX2_copyFrom 92 = .ok (.iload_n 2, 1) := by decide +kernel
theorem dX2_copyFrom_93 : decode cX2_copyFrom 93 = .ok (.aload_n 0, 1) := by decide +kernel
theorem dX2_copyFrom_94 : decode cX2_copyFrom 94 = .ok (.getfield 42, 3) := by decide +kernel
theorem dX2_copyFrom_97 : decode cX2_copyFrom 97 = .ok (.if_icmp .ge 24, 3) := by decide +kernel
theorem dX2_copyFrom_100 : decode cX2_copyFrom 100 = .ok (.aload_n 0, 1) := by decide +kernel
theorem dX2_copyFrom_101 : decode cX2_copyFrom 101 = .ok (.getfield 33, 3) := by decide +kernel
theorem dX2_copyFrom_104 : decode cX2_copyFrom 104 = .ok (.iload_n 2, 1) := by decide +kernel
theorem dX2_copyFrom_105 : decode cX2_copyFrom 105 = .ok (.aaload, 1) := by decide +kernel
theorem dX2_copyFrom_106 : decode cX2_copyFrom 106 = .ok (.aload_n 1, 1) := by decide +kernel
theorem dX2_copyFrom_107 : decode cX2_copyFrom 107 = .ok (.getfield 33, 3) := by decide +kernel
theorem dX2_copyFrom_110 : decode cX2_copyFrom 110 = .ok (.iload_n 2, 1) := by decide +kernel
theorem dX2_copyFrom_111 : decode cX2_copyFrom 111 = .ok (.aaload, 1) := by decide +kernel
theorem dX2_copyFrom_112 : decode cX2_copyFrom 112 = .ok (.invokevirtual 57, 3) := by decide +kernel
theorem dX2_copyFrom_115 : decode cX2_copyFrom 115 = .ok (.iinc 2 1, 3) := by decide +kernel
theorem dX2_copyFrom_118 : decode cX2_copyFrom 118 = .ok (.goto (-26), 3) := by decide +kernel
theorem dX2_copyFrom_121 : decode cX2_copyFrom 121 = .ok (.iconst 0, 1) := by decide +kernel
theorem dX2_copyFrom_122 : decode cX2_copyFrom 122 = .ok (.istore_n 2, 1) := by decide +kernel
theorem dX2_copyFrom_123 : decode cX2_copyFrom 123 = .ok (.iload_n 2, 1) := by decide +kernel
theorem dX2_copyFrom_124 : decode cX2_copyFrom 124 = .ok (.aload_n 0, 1) := by decide +kernel
theorem dX2_copyFrom_125 : decode cX2_copyFrom 125 = .ok (.getfield 51, 3) := by decide +kernel
theorem dX2_copyFrom_128 : decode cX2_copyFrom 128 = .ok (.if_icmp .ge 33, 3) := by decide +kernel
theorem dX2_copyFrom_131 : decode cX2_copyFrom 131 = .ok (.aload_n 0, 1) := by decide +kernel
theorem dX2_copyFrom_132 : decode cX2_copyFrom 132 = .ok (.getfield 21, 3) := by decide +kernel
theorem dX2_copyFrom_135 : decode cX2_copyFrom 135 = .ok (.iload_n 2, 1) := by decide +kernel
theorem dX2_copyFrom_136 : decode cX2_copyFrom 136 = .ok (.aload_n 1, 1) := by decide +kernel
theorem dX2_copyFrom_137 : decode cX2_copyFrom 137 = .ok (.getfield 21, 3) := by decide +kernel
theorem dX2_copyFrom_140 : decode cX2_copyFrom 140 = .ok (.iload_n 2, 1) := by decide +kernel
theorem dX2_copyFrom_141 : decode cX2_copyFrom 141 = .ok (.iaload, 1) := by decide +kernel
theorem dX2_copyFrom_142 : decode cX2_copyFrom 142 = .ok (.iastore, 1) := by decide +kernel
theorem dX2_copyFrom_143 : decode cX2_copyFrom 143 = .ok (.aload_n 0, 1) := by decide +kernel
theorem dX2_copyFrom_144 : decode cX2_copyFrom 144 = .ok (.getfield 24, 3) := by decide +kernel
theorem dX2_copyFrom_147 : decode cX2_copyFrom 147 = .ok (.iload_n 2, 1) := by decide +kernel
theorem dX2_copyFrom_148 : decode cX2_copyFrom 148 = .ok (.aload_n 1, 1) := by decide +kernel
theorem dX2_copyFrom_149 : decode cX2_copyFrom 149 = .ok (.getfield 24, 3) := by decide +kernel
theorem dX2_copyFrom_152 : decode cX2_copyFrom 152 = .ok (.iload_n 2, 1) := by decide +kernel
theorem dX2_copyFrom_153 : decode cX2_copyFrom 153 = .ok (.iaload, 1) := by decide +kernel
theorem dX2_copyFrom_154 : decode cX2_copyFrom 154 = .ok (.iastore, 1) := by decide +kernel
theorem dX2_copyFrom_155 : decode cX2_copyFrom 155 = .ok (.iinc 2 1, 3) := by decide +kernel
theorem dX2_copyFrom_158 : decode cX2_copyFrom 158 = .ok (.goto (-35), 3) := by decide +kernel
theorem dX2_copyFrom_161 : decode cX2_copyFrom 161 = .ok (.return_, 1) := by decide +kernel
theorem dX2_isLine_0 : decode cX2_isLine 0 = .ok (.iload_n 1, 1) := by decide +kernel
theorem dX2_isLine_1 : decode cX2_isLine 1 = .ok (.ifCond .lt 15, 3) := by decide +kernel
theorem dX2_isLine_4 : decode cX2_isLine 4 = .ok (.iload_n 1, 1) := by decide +kernel
theorem dX2_isLine_5 : decode cX2_isLine 5 = .ok (.aload_n 0, 1) := by decide +kernel
theorem dX2_isLine_6 : decode cX2_isLine 6 = .ok (.getfield 38, 3) := by decide +kernel
theorem dX2_isLine_9 : decode cX2_isLine 9 = .ok (.if_icmp .ge 7, 3) := by decide +kernel
theorem dX2_isLine_12 : decode cX2_isLine 12 = .ok (.iconst 1, 1) := by decide +kernel
theorem dX2_isLine_13 : decode cX2_isLine 13 = .ok (.goto 4, 3) := by decide +kernel
theorem dX2_isLine_16 : decode cX2_isLine 16 = .ok (.iconst 0, 1) := by decide +kernel
theorem dX2_isLine_17 : decode cX2_isLine 17 = .ok (.ireturn, 1) := by decide +kernel
theorem dX2_isCall_0 : decode cX2_isCall 0 = .ok (.iload_n 1, 1) := by decide +kernel
theorem dX2_isCall_1 : decode cX2_isCall 1 = .ok (.ifCond .lt 15, 3) := by decide +kernel
theorem dX2_isCall_4 : decode cX2_isCall 4 = .ok (.iload_n 1, 1) := by decide +kernel
theorem dX2_isCall_5 : decode cX2_isCall 5 = .ok (.aload_n 0, 1) := by decide +kernel
theorem dX2_isCall_6 : decode cX2_isCall 6 = .ok (.getfield 42, 3) := by decide +kernel
theorem dX2_isCall_9 : decode cX2_isCall 9 = .ok (.if_icmp .ge 7, 3) := by decide +kernel
theorem dX2_isCall_12 : decode cX2_isCall 12 = .ok (.iconst 1, 1) := by decide +kernel
theorem dX2_isCall_13 : decode cX2_isCall 13 = .ok (.goto 4, 3) := by decide +kernel
theorem dX2_isCall_16 : decode cX2_isCall 16 = .ok (.iconst 0, 1) := by decide +kernel
theorem dX2_isCall_17 : decode cX2_isCall 17 = .ok (.ireturn, 1) := by decide +kernel
theorem dX2_hasRoom_0 : decode cX2_hasRoom 0 = .ok (.aload_n 0, 1) := by decide +kernel
theorem dX2_hasRoom_1 : decode cX2_hasRoom 1 = .ok (.getfield 42, 3) := by decide +kernel
theorem dX2_hasRoom_4 : decode cX2_hasRoom 4 = .ok (.aload_n 0, 1) := by decide +kernel
theorem dX2_hasRoom_5 : decode cX2_hasRoom 5 = .ok (.getfield 33, 3) := by decide +kernel
theorem dX2_hasRoom_8 : decode cX2_hasRoom 8 = .ok (.arraylength, 1) := by decide +kernel
theorem dX2_hasRoom_9 : decode cX2_hasRoom 9 = .ok (.if_icmp .ge 7, 3) := by decide +kernel
theorem dX2_hasRoom_12 : decode cX2_hasRoom 12 = .ok (.iconst 1, 1) := by decide +kernel
theorem dX2_hasRoom_13 : decode cX2_hasRoom 13 = .ok (.goto 4, 3) := by decide +kernel
theorem dX2_hasRoom_16 : decode cX2_hasRoom 16 = .ok (.iconst 0, 1) := by decide +kernel
theorem dX2_hasRoom_17 : decode cX2_hasRoom 17 = .ok (.ireturn, 1) := by decide +kernel
theorem dX2_isFree_0 : decode cX2_isFree 0 = .ok (.aload_n 0, 1) := by decide +kernel
theorem dX2_isFree_1 : decode cX2_isFree 1 = .ok (.getfield 9, 3) := by decide +kernel
theorem dX2_isFree_4 : decode cX2_isFree 4 = .ok (.iload_n 1, 1) := by decide +kernel
theorem dX2_isFree_5 : decode cX2_isFree 5 = .ok (.iaload, 1) := by decide +kernel
theorem dX2_isFree_6 : decode cX2_isFree 6 = .ok (.iconst (-1), 1) := by decide +kernel
theorem dX2_isFree_7 : decode cX2_isFree 7 = .ok (.if_icmp .ne 7, 3) := by decide +kernel
theorem dX2_isFree_10 : decode cX2_isFree 10 = .ok (.iconst 1, 1) := by decide +kernel
theorem dX2_isFree_11 : decode cX2_isFree 11 = .ok (.goto 4, 3) := by decide +kernel
theorem dX2_isFree_14 : decode cX2_isFree 14 = .ok (.iconst 0, 1) := by decide +kernel
theorem dX2_isFree_15 : decode cX2_isFree 15 = .ok (.ireturn, 1) := by decide +kernel
theorem dX2_isRinging_0 : decode cX2_isRinging 0 = .ok (.aload_n 0, 1) := by decide +kernel
theorem dX2_isRinging_1 : decode cX2_isRinging 1 = .ok (.iload_n 1, 1) := by decide +kernel
theorem dX2_isRinging_2 : decode cX2_isRinging 2 = .ok (.invokevirtual 61, 3) := by decide +kernel
theorem dX2_isRinging_5 : decode cX2_isRinging 5 = .ok (.ifCond .ne 28, 3) := by decide +kernel
theorem dX2_isRinging_8 : decode cX2_isRinging 8 = .ok (.aload_n 0, 1) := by decide +kernel
theorem dX2_isRinging_9 : decode cX2_isRinging 9 = .ok (.getfield 33, 3) := by decide +kernel
theorem dX2_isRinging_12 : decode cX2_isRinging 12 = .ok (.aload_n 0, 1) := by decide +kernel
theorem dX2_isRinging_13 : decode cX2_isRinging 13 = .ok (.getfield 9, 3) := by decide +kernel
theorem dX2_isRinging_16 : decode cX2_isRinging 16 = .ok (.iload_n 1, 1) := by decide +kernel
theorem dX2_isRinging_17 : decode cX2_isRinging 17 = .ok (.iaload, 1) := by decide +kernel
theorem dX2_isRinging_18 : decode cX2_isRinging 18 = .ok (.aaload, 1) := by decide +kernel
theorem dX2_isRinging_19 : decode cX2_isRinging 19 = .ok (.getfield 65, 3) := by decide +kernel
theorem dX2_isRinging_22 : decode cX2_isRinging 22 = .ok (.iload_n 1, 1) := by decide +kernel
theorem dX2_isRinging_23 : decode cX2_isRinging 23 = .ok (.ishr, 1) := by decide +kernel
theorem dX2_isRinging_24 : decode cX2_isRinging 24 = .ok (.iconst 1, 1) := by decide +kernel
theorem dX2_isRinging_25 : decode cX2_isRinging 25 = .ok (.iand, 1) := by decide +kernel
theorem dX2_isRinging_26 : decode cX2_isRinging 26 = .ok (.ifCond .eq 7, 3) := by decide +kernel
theorem dX2_isRinging_29 : decode cX2_isRinging 29 = .ok (.iconst 1, 1) := by decide +kernel
theorem dX2_isRinging_30 : decode cX2_isRinging 30 = .ok (.goto 4, 3) := by decide +kernel
theorem dX2_isRinging_33 : decode cX2_isRinging 33 = .ok (.iconst 0, 1) := by decide +kernel
theorem dX2_isRinging_34 : decode cX2_isRinging 34 = .ok (.ireturn, 1) := by decide +kernel
theorem dX2_canHangUp_0 : decode cX2_canHangUp 0 = .ok (.aload_n 0, 1) := by decide +kernel
theorem dX2_canHangUp_1 : decode cX2_canHangUp 1 = .ok (.iload_n 1, 1) := by decide +kernel
theorem dX2_canHangUp_2 : decode cX2_canHangUp 2 = .ok (.invokevirtual 61, 3) := by decide +kernel
theorem dX2_canHangUp_5 : decode cX2_canHangUp 5 = .ok (.ifCond .ne 15, 3) := by decide +kernel
theorem dX2_canHangUp_8 : decode cX2_canHangUp 8 = .ok (.aload_n 0, 1) := by decide +kernel
theorem dX2_canHangUp_9 : decode cX2_canHangUp 9 = .ok (.iload_n 1, 1) := by decide +kernel
theorem dX2_canHangUp_10 : decode cX2_canHangUp 10 = .ok (.invokevirtual 68, 3) := by decide +kernel
theorem dX2_canHangUp_13 : decode cX2_canHangUp 13 = .ok (.ifCond .ne 7, 3) := by decide +kernel
theorem dX2_canHangUp_16 : decode cX2_canHangUp 16 = .ok (.iconst 1, 1) := by decide +kernel
theorem dX2_canHangUp_17 : decode cX2_canHangUp 17 = .ok (.goto 4, 3) := by decide +kernel
theorem dX2_canHangUp_20 : decode cX2_canHangUp 20 = .ok (.iconst 0, 1) := by decide +kernel
theorem dX2_canHangUp_21 : decode cX2_canHangUp 21 = .ok (.ireturn, 1) := by decide +kernel
theorem dX2_isTold_0 : decode cX2_isTold 0 = .ok (.aload_n 1, 1) := by decide +kernel
theorem dX2_isTold_1 : decode cX2_isTold 1 = .ok (.getfield 65, 3) := by decide +kernel
theorem dX2_isTold_4 : decode cX2_isTold 4 = .ok (.iload_n 2, 1) := by decide +kernel
theorem dX2_isTold_5 : decode cX2_isTold 5 = .ok (.ishr, 1) := by decide +kernel
theorem dX2_isTold_6 : decode cX2_isTold 6 = .ok (.iconst 1, 1) := by decide +kernel
theorem dX2_isTold_7 : decode cX2_isTold 7 = .ok (.iand, 1) := by decide +kernel
theorem dX2_isTold_8 : decode cX2_isTold 8 = .ok (.ifCond .ne 19, 3) := by decide +kernel
theorem dX2_isTold_11 : decode cX2_isTold 11 = .ok (.aload_n 1, 1) := by decide +kernel
theorem dX2_isTold_12 : decode cX2_isTold 12 = .ok (.getfield 71, 3) := by decide +kernel
theorem dX2_isTold_15 : decode cX2_isTold 15 = .ok (.iconst 2, 1) := by decide +kernel
theorem dX2_isTold_16 : decode cX2_isTold 16 = .ok (.if_icmp .ne 15, 3) := by decide +kernel
theorem dX2_isTold_19 : decode cX2_isTold 19 = .ok (.aload_n 1, 1) := by decide +kernel
theorem dX2_isTold_20 : decode cX2_isTold 20 = .ok (.getfield 74, 3) := by decide +kernel
theorem dX2_isTold_23 : decode cX2_isTold 23 = .ok (.iload_n 2, 1) := by decide +kernel
theorem dX2_isTold_24 : decode cX2_isTold 24 = .ok (.if_icmp .ne 7, 3) := by decide +kernel
theorem dX2_isTold_27 : decode cX2_isTold 27 = .ok (.iconst 1, 1) := by decide +kernel
theorem dX2_isTold_28 : decode cX2_isTold 28 = .ok (.goto 4, 3) := by decide +kernel
theorem dX2_isTold_31 : decode cX2_isTold 31 = .ok (.iconst 0, 1) := by decide +kernel
theorem dX2_isTold_32 : decode cX2_isTold 32 = .ok (.istore_n 3, 1) := by decide +kernel
theorem dX2_isTold_33 : decode cX2_isTold 33 = .ok (.iload_n 3, 1) := by decide +kernel
theorem dX2_isTold_34 : decode cX2_isTold 34 = .ok (.ifCond .eq 22, 3) := by decide +kernel
theorem dX2_isTold_37 : decode cX2_isTold 37 = .ok (.aload_n 0, 1) := by decide +kernel
theorem dX2_isTold_38 : decode cX2_isTold 38 = .ok (.getfield 27, 3) := by decide +kernel
theorem dX2_isTold_41 : decode cX2_isTold 41 = .ok (.aload_n 1, 1) := by decide +kernel
theorem dX2_isTold_42 : decode cX2_isTold 42 = .ok (.getfield 77, 3) := by decide +kernel
theorem dX2_isTold_45 : decode cX2_isTold 45 = .ok (.iload_n 2, 1) := by decide +kernel
theorem dX2_isTold_46 : decode cX2_isTold 46 = .ok (.invokevirtual 80, 3) := by decide +kernel
theorem dX2_isTold_49 : decode cX2_isTold 49 = .ok (.ifCond .ne 7, 3) := by decide +kernel
theorem dX2_isTold_52 : decode cX2_isTold 52 = .ok (.iconst 1, 1) := by decide +kernel
theorem dX2_isTold_53 : decode cX2_isTold 53 = .ok (.goto 4, 3) := by decide +kernel
theorem dX2_isTold_56 : decode cX2_isTold 56 = .ok (.iconst 0, 1) := by decide +kernel
theorem dX2_isTold_57 : decode cX2_isTold 57 = .ok (.ireturn, 1) := by decide +kernel
theorem dX2_countOpen_0 : decode cX2_countOpen 0 = .ok (.iconst 0, 1) := by decide +kernel
theorem dX2_countOpen_1 : decode cX2_countOpen 1 = .ok (.istore_n 1, 1) := by decide +kernel
theorem dX2_countOpen_2 : decode cX2_countOpen 2 = .ok (.iconst 0, 1) := by decide +kernel
theorem dX2_countOpen_3 : decode cX2_countOpen 3 = .ok (.istore_n 2, 1) := by decide +kernel
theorem dX2_countOpen_4 : decode cX2_countOpen 4 = .ok (.iload_n 2, 1) := by decide +kernel
theorem dX2_countOpen_5 : decode cX2_countOpen 5 = .ok (.aload_n 0, 1) := by decide +kernel
theorem dX2_countOpen_6 : decode cX2_countOpen 6 = .ok (.getfield 42, 3) := by decide +kernel
theorem dX2_countOpen_9 : decode cX2_countOpen 9 = .ok (.if_icmp .ge 25, 3) := by decide +kernel
theorem dX2_countOpen_12 : decode cX2_countOpen 12 = .ok (.aload_n 0, 1) := by decide +kernel
theorem dX2_countOpen_13 : decode cX2_countOpen 13 = .ok (.getfield 33, 3) := by decide +kernel
theorem dX2_countOpen_16 : decode cX2_countOpen 16 = .ok (.iload_n 2, 1) := by decide +kernel
theorem dX2_countOpen_17 : decode cX2_countOpen 17 = .ok (.aaload, 1) := by decide +kernel
theorem dX2_countOpen_18 : decode cX2_countOpen 18 = .ok (.getfield 71, 3) := by decide +kernel
theorem dX2_countOpen_21 : decode cX2_countOpen 21 = .ok (.iconst 3, 1) := by decide +kernel
theorem dX2_countOpen_22 : decode cX2_countOpen 22 = .ok (.if_icmp .eq 6, 3) := by decide +kernel
theorem dX2_countOpen_25 : decode cX2_countOpen 25 = .ok (.iinc 1 1, 3) := by decide +kernel
theorem dX2_countOpen_28 : decode cX2_countOpen 28 = .ok (.iinc 2 1, 3) := by decide +kernel
theorem dX2_countOpen_31 : decode cX2_countOpen 31 = .ok (.goto (-27), 3) := by decide +kernel
theorem dX2_countOpen_34 : decode cX2_countOpen 34 = .ok (.iload_n 1, 1) := by decide +kernel
theorem dX2_countOpen_35 : decode cX2_countOpen 35 = .ok (.ireturn, 1) := by decide +kernel
theorem dX2_connect_0 : decode cX2_connect 0 = .ok (.aload_n 0, 1) := by decide +kernel
theorem dX2_connect_1 : decode cX2_connect 1 = .ok (.iload_n 1, 1) := by decide +kernel
theorem dX2_connect_2 : decode cX2_connect 2 = .ok (.invokevirtual 86, 3) := by decide +kernel
theorem dX2_connect_5 : decode cX2_connect 5 = .ok (.istore_n 3, 1) := by decide +kernel
theorem dX2_connect_6 : decode cX2_connect 6 = .ok (.aload_n 0, 1) := by decide +kernel
theorem dX2_connect_7 : decode cX2_connect 7 = .ok (.iload_n 3, 1) := by decide +kernel
theorem dX2_connect_8 : decode cX2_connect 8 = .ok (.iload_n 1, 1) := by decide +kernel
theorem dX2_connect_9 : decode cX2_connect 9 = .ok (.iload_n 2, 1) := by decide +kernel
theorem dX2_connect_10 : decode cX2_connect 10 = .ok (.invokevirtual 90, 3) := by decide +kernel
theorem dX2_connect_13 : decode cX2_connect 13 = .ok (.aload_n 0, 1) := by decide +kernel
theorem dX2_connect_14 : decode cX2_connect 14 = .ok (.invokevirtual 94, 3) := by decide +kernel
theorem dX2_connect_17 : decode cX2_connect 17 = .ok (.iload_n 3, 1) := by decide +kernel
theorem dX2_connect_18 : decode cX2_connect 18 = .ok (.ireturn, 1) := by decide +kernel
theorem dX2_answer_0 : decode cX2_answer 0 = .ok (.aload_n 0, 1) := by decide +kernel
theorem dX2_answer_1 : decode cX2_answer 1 = .ok (.getfield 9, 3) := by decide +kernel
theorem dX2_answer_4 : decode cX2_answer 4 = .ok (.iload_n 1, 1) := by decide +kernel
theorem dX2_answer_5 : decode cX2_answer 5 = .ok (.iaload, 1) := by decide +kernel
theorem dX2_answer_6 : decode cX2_answer 6 = .ok (.istore_n 2, 1) := by decide +kernel
theorem dX2_answer_7 : decode cX2_answer 7 = .ok (.aload_n 0, 1) := by decide +kernel
theorem dX2_answer_8 : decode cX2_answer 8 = .ok (.getfield 33, 3) := by decide +kernel
theorem dX2_answer_11 : decode cX2_answer 11 = .ok (.iload_n 2, 1) := by decide +kernel
theorem dX2_answer_12 : decode cX2_answer 12 = .ok (.aaload, 1) := by decide +kernel
theorem dX2_answer_13 : decode cX2_answer 13 = .ok (.astore_n 3, 1) := by decide +kernel
theorem dX2_answer_14 : decode cX2_answer 14 = .ok (.aload_n 0, 1) := by decide +kernel
theorem dX2_answer_15 : decode cX2_answer 15 = .ok (.aload_n 3, 1) := by decide +kernel
theorem dX2_answer_16 : decode cX2_answer 16 = .ok (.invokevirtual 97, 3) := by decide +kernel
theorem dX2_answer_19 : decode cX2_answer 19 = .ok (.aload_n 3, 1) := by decide +kernel
theorem dX2_answer_20 : decode cX2_answer 20 = .ok (.iconst 1, 1) := by decide +kernel
theorem dX2_answer_21 : decode cX2_answer 21 = .ok (.putfield 71, 3) := by decide +kernel
theorem dX2_answer_24 : decode cX2_answer 24 = .ok (.aload_n 3, 1) := by decide +kernel
theorem dX2_answer_25 : decode cX2_answer 25 = .ok (.iload_n 1, 1) := by decide +kernel
theorem dX2_answer_26 : decode cX2_answer 26 = .ok (.putfield 74, 3) := by decide +kernel
theorem dX2_answer_29 : decode cX2_answer 29 = .ok (.aload_n 0, 1) := by decide +kernel
theorem dX2_answer_30 : decode cX2_answer 30 = .ok (.getfield 9, 3) := by decide +kernel
theorem dX2_answer_33 : decode cX2_answer 33 = .ok (.iload_n 1, 1) := by decide +kernel
theorem dX2_answer_34 : decode cX2_answer 34 = .ok (.iload_n 2, 1) := by decide +kernel
theorem dX2_answer_35 : decode cX2_answer 35 = .ok (.iastore, 1) := by decide +kernel
theorem dX2_answer_36 : decode cX2_answer 36 = .ok (.aload_n 0, 1) := by decide +kernel
theorem dX2_answer_37 : decode cX2_answer 37 = .ok (.invokevirtual 94, 3) := by decide +kernel
theorem dX2_answer_40 : decode cX2_answer 40 = .ok (.iload_n 2, 1) := by decide +kernel
theorem dX2_answer_41 : decode cX2_answer 41 = .ok (.ireturn, 1) := by decide +kernel
theorem dX2_hangUp_0 : decode cX2_hangUp 0 = .ok (.aload_n 0, 1) := by decide +kernel
theorem dX2_hangUp_1 : decode cX2_hangUp 1 = .ok (.getfield 9, 3) := by decide +kernel
theorem dX2_hangUp_4 : decode cX2_hangUp 4 = .ok (.iload_n 1, 1) := by decide +kernel
theorem dX2_hangUp_5 : decode cX2_hangUp 5 = .ok (.iaload, 1) := by decide +kernel
theorem dX2_hangUp_6 : decode cX2_hangUp 6 = .ok (.istore_n 2, 1) := by decide +kernel
theorem dX2_hangUp_7 : decode cX2_hangUp 7 = .ok (.aload_n 0, 1) := by decide +kernel
theorem dX2_hangUp_8 : decode cX2_hangUp 8 = .ok (.aload_n 0, 1) := by decide +kernel
theorem dX2_hangUp_9 : decode cX2_hangUp 9 = .ok (.getfield 33, 3) := by decide +kernel
theorem dX2_hangUp_12 : decode cX2_hangUp 12 = .ok (.iload_n 2, 1) := by decide +kernel
theorem dX2_hangUp_13 : decode cX2_hangUp 13 = .ok (.aaload, 1) := by decide +kernel
theorem dX2_hangUp_14 : decode cX2_hangUp 14 = .ok (.invokevirtual 97, 3) := by decide +kernel
theorem dX2_hangUp_17 : decode cX2_hangUp 17 = .ok (.aload_n 0, 1) := by decide +kernel
theorem dX2_hangUp_18 : decode cX2_hangUp 18 = .ok (.aload_n 0, 1) := by decide +kernel
theorem dX2_hangUp_19 : decode cX2_hangUp 19 = .ok (.getfield 33, 3) := by decide +kernel
theorem dX2_hangUp_22 : decode cX2_hangUp 22 = .ok (.iload_n 2, 1) := by decide +kernel
theorem dX2_hangUp_23 : decode cX2_hangUp 23 = .ok (.aaload, 1) := by decide +kernel
theorem dX2_hangUp_24 : decode cX2_hangUp 24 = .ok (.iconst 4, 1) := by decide +kernel
theorem dX2_hangUp_25 : decode cX2_hangUp 25 = .ok (.invokevirtual 100, 3) := by decide +kernel
theorem dX2_hangUp_28 : decode cX2_hangUp 28 = .ok (.aload_n 0, 1) := by decide +kernel
theorem dX2_hangUp_29 : decode cX2_hangUp 29 = .ok (.invokevirtual 94, 3) := by decide +kernel
theorem dX2_hangUp_32 : decode cX2_hangUp 32 = .ok (.iload_n 2, 1) := by decide +kernel
theorem dX2_hangUp_33 : decode cX2_hangUp 33 = .ok (.ireturn, 1) := by decide +kernel
theorem dX2_pass_0 : decode cX2_pass 0 = .ok (.aload_n 0, 1) := by decide +kernel
theorem dX2_pass_1 : decode cX2_pass 1 = .ok (.dup, 1) := by decide +kernel
theorem dX2_pass_2 : decode cX2_pass 2 = .ok (.getfield 54, 3) := by decide +kernel
theorem dX2_pass_5 : decode cX2_pass 5 = .ok (.iconst 1, 1) := by decide +kernel
theorem dX2_pass_6 : decode cX2_pass 6 = .ok (.iadd, 1) := by decide +kernel
theorem dX2_pass_7 : decode cX2_pass 7 = .ok (.putfield 54, 3) := by decide +kernel
theorem dX2_pass_10 : decode cX2_pass 10 = .ok (.aload_n 0, 1) := by decide +kernel
theorem dX2_pass_11 : decode cX2_pass 11 = .ok (.invokevirtual 104, 3) := by decide +kernel
theorem dX2_pass_14 : decode cX2_pass 14 = .ok (.iconst 0, 1) := by decide +kernel
theorem dX2_pass_15 : decode cX2_pass 15 = .ok (.istore_n 1, 1) := by decide +kernel
theorem dX2_pass_16 : decode cX2_pass 16 = .ok (.iload_n 1, 1) := by decide +kernel
theorem dX2_pass_17 : decode cX2_pass 17 = .ok (.aload_n 0, 1) := by decide +kernel
theorem dX2_pass_18 : decode cX2_pass 18 = .ok (.getfield 42, 3) := by decide +kernel
theorem dX2_pass_21 : decode cX2_pass 21 = .ok (.if_icmp .ge 98, 3) := by decide +kernel
theorem dX2_pass_24 : decode cX2_pass 24 = .ok (.aload_n 0, 1) := by decide +kernel
theorem dX2_pass_25 : decode cX2_pass 25 = .ok (.getfield 33, 3) := by decide +kernel
theorem dX2_pass_28 : decode cX2_pass 28 = .ok (.iload_n 1, 1) := by decide +kernel
theorem dX2_pass_29 : decode cX2_pass 29 = .ok (.aaload, 1) := by decide +kernel
theorem dX2_pass_30 : decode cX2_pass 30 = .ok (.astore_n 2, 1) := by decide +kernel
theorem dX2_pass_31 : decode cX2_pass 31 = .ok (.aload_n 2, 1) := by decide +kernel
theorem dX2_pass_32 : decode cX2_pass 32 = .ok (.getfield 71, 3) := by decide +kernel
theorem dX2_pass_35 : decode cX2_pass 35 = .ok (.ifCond .ne 78, 3) := by decide +kernel
theorem dX2_pass_38 : decode cX2_pass 38 = .ok (.aload_n 2, 1) := by decide +kernel
theorem dX2_pass_39 : decode cX2_pass 39 = .ok (.dup, 1) := by decide +kernel
theorem dX2_pass_40 : decode cX2_pass 40 = .ok (.getfield 107, 3) := by decide +kernel
theorem dX2_pass_43 : decode cX2_pass 43 = .ok (.iconst 1, 1) := by decide +kernel
theorem dX2_pass_44 : decode cX2_pass 44 = .ok (.iadd, 1) := by decide +kernel
theorem dX2_pass_45 : decode cX2_pass 45 = .ok (.putfield 107, 3) := by decide +kernel
theorem dX2_pass_48 : decode cX2_pass 48 = .ok (.aload_n 2, 1) := by decide +kernel
theorem dX2_pass_49 : decode cX2_pass 49 = .ok (.aload_n 2, 1) := by decide +kernel
theorem dX2_pass_50 : decode cX2_pass 50 = .ok (.getfield 110, 3) := by decide +kernel
theorem dX2_pass_53 : decode cX2_pass 53 = .ok (.iconst 1, 1) := by decide +kernel
theorem dX2_pass_54 : decode cX2_pass 54 = .ok (.isub, 1) := by decide +kernel
theorem dX2_pass_55 : decode cX2_pass 55 = .ok (.invokevirtual 113, 3) := by decide +kernel
theorem dX2_pass_58 : decode cX2_pass 58 = .ok (.istore_n 3, 1) := by decide +kernel
theorem dX2_pass_59 : decode cX2_pass 59 = .ok (.aload_n 0, 1) := by decide +kernel
theorem dX2_pass_60 : decode cX2_pass 60 = .ok (.getfield 27, 3) := by decide +kernel
theorem dX2_pass_63 : decode cX2_pass 63 = .ok (.iload_n 3, 1) := by decide +kernel
theorem dX2_pass_64 : decode cX2_pass 64 = .ok (.aload_n 2, 1) := by decide +kernel
theorem dX2_pass_65 : decode cX2_pass 65 = .ok (.getfield 107, 3) := by decide +kernel
theorem dX2_pass_68 : decode cX2_pass 68 = .ok (.invokevirtual 116, 3) := by decide +kernel
theorem dX2_pass_71 : decode cX2_pass 71 = .ok (.istore 4, 2) := by decide +kernel
theorem dX2_pass_73 : decode cX2_pass 73 = .ok (.iload 4, 2) := by decide +kernel
theorem dX2_pass_75 : decode cX2_pass 75 = .ok (.iconst (-1), 1) := by decide +kernel
theorem dX2_pass_76 : decode cX2_pass 76 = .ok (.if_icmp .eq 33, 3) := by decide +kernel
theorem dX2_pass_79 : decode cX2_pass 79 = .ok (.aload_n 0, 1) := by decide +kernel
theorem dX2_pass_80 : decode cX2_pass 80 = .ok (.aload_n 2, 1) := by decide +kernel
theorem dX2_pass_81 : decode cX2_pass 81 = .ok (.invokevirtual 97, 3) := by decide +kernel
theorem dX2_pass_84 : decode cX2_pass 84 = .ok (.aload_n 2, 1) := by decide +kernel
theorem dX2_pass_85 : decode cX2_pass 85 = .ok (.iload 4, 2) := by decide +kernel
theorem dX2_pass_87 : decode cX2_pass 87 = .ok (.invokevirtual 119, 3) := by decide +kernel
theorem dX2_pass_90 : decode cX2_pass 90 = .ok (.aload_n 0, 1) := by decide +kernel
theorem dX2_pass_91 : decode cX2_pass 91 = .ok (.iload_n 1, 1) := by decide +kernel
theorem dX2_pass_92 : decode cX2_pass 92 = .ok (.iload_n 3, 1) := by decide +kernel
theorem dX2_pass_93 : decode cX2_pass 93 = .ok (.aload_n 0, 1) := by decide +kernel
theorem dX2_pass_94 : decode cX2_pass 94 = .ok (.getfield 27, 3) := by decide +kernel
theorem dX2_pass_97 : decode cX2_pass 97 = .ok (.getfield 123, 3) := by decide +kernel
theorem dX2_pass_100 : decode cX2_pass 100 = .ok (.iload 4, 2) := by decide +kernel
theorem dX2_pass_102 : decode cX2_pass 102 = .ok (.aaload, 1) := by decide +kernel
theorem dX2_pass_103 : decode cX2_pass 103 = .ok (.getfield 127, 3) := by decide +kernel
theorem dX2_pass_106 : decode cX2_pass 106 = .ok (.invokevirtual 90, 3) := by decide +kernel
theorem dX2_pass_109 : decode cX2_pass 109 = .ok (.aload_n 0, 1) := by decide +kernel
theorem dX2_pass_110 : decode cX2_pass 110 = .ok (.invokevirtual 94, 3) := by decide +kernel
theorem dX2_pass_113 : decode cX2_pass 113 = .ok (.iinc 1 1, 3) := by decide +kernel
theorem dX2_pass_116 : decode cX2_pass 116 = .ok (.goto (-100), 3) := by decide +kernel
theorem dX2_pass_119 : decode cX2_pass 119 = .ok (.aload_n 0, 1) := by decide +kernel
theorem dX2_pass_120 : decode cX2_pass 120 = .ok (.getfield 51, 3) := by decide +kernel
theorem dX2_pass_123 : decode cX2_pass 123 = .ok (.istore_n 1, 1) := by decide +kernel
theorem dX2_pass_124 : decode cX2_pass 124 = .ok (.iconst 0, 1) := by decide +kernel
theorem dX2_pass_125 : decode cX2_pass 125 = .ok (.istore_n 2, 1) := by decide +kernel
theorem dX2_pass_126 : decode cX2_pass 126 = .ok (.iconst 0, 1) := by decide +kernel
theorem dX2_pass_127 : decode cX2_pass 127 = .ok (.istore_n 3, 1) := by decide +kernel
theorem dX2_pass_128 : decode cX2_pass 128 = .ok (.iload_n 3, 1) := by decide +kernel
theorem dX2_pass_129 : decode cX2_pass 129 = .ok (.iload_n 1, 1) := by decide +kernel
theorem dX2_pass_130 : decode cX2_pass 130 = .ok (.if_icmp .ge 79, 3) := by decide +kernel
theorem dX2_pass_133 : decode cX2_pass 133 = .ok (.aload_n 0, 1) := by decide +kernel
theorem dX2_pass_134 : decode cX2_pass 134 = .ok (.getfield 21, 3) := by decide +kernel
theorem dX2_pass_137 : decode cX2_pass 137 = .ok (.iload_n 2, 1) := by decide +kernel
theorem dX2_pass_138 : decode cX2_pass 138 = .ok (.iaload, 1) := by decide +kernel
theorem dX2_pass_139 : decode cX2_pass 139 = .ok (.istore 4, 2) := by decide +kernel
theorem dX2_pass_141 : decode cX2_pass 141 = .ok (.aload_n 0, 1) := by decide +kernel
theorem dX2_pass_142 : decode cX2_pass 142 = .ok (.getfield 24, 3) := by decide +kernel
theorem dX2_pass_145 : decode cX2_pass 145 = .ok (.iload_n 2, 1) := by decide +kernel
theorem dX2_pass_146 : decode cX2_pass 146 = .ok (.iaload, 1) := by decide +kernel
theorem dX2_pass_147 : decode cX2_pass 147 = .ok (.istore 5, 2) := by decide +kernel
theorem dX2_pass_149 : decode cX2_pass 149 = .ok (.aload_n 0, 1) := by decide +kernel
theorem dX2_pass_150 : decode cX2_pass 150 = .ok (.iload 4, 2) := by decide +kernel
theorem dX2_pass_152 : decode cX2_pass 152 = .ok (.invokevirtual 61, 3) := by decide +kernel
theorem dX2_pass_155 : decode cX2_pass 155 = .ok (.ifCond .eq 45, 3) := by decide +kernel
theorem dX2_pass_158 : decode cX2_pass 158 = .ok (.aload_n 0, 1) := by decide +kernel
theorem dX2_pass_159 : decode cX2_pass 159 = .ok (.iload 5, 2) := by decide +kernel
theorem dX2_pass_161 : decode cX2_pass 161 = .ok (.invokevirtual 61, 3) := by decide +kernel
theorem dX2_pass_164 : decode cX2_pass 164 = .ok (.ifCond .eq 36, 3) := by decide +kernel
theorem dX2_pass_167 : decode cX2_pass 167 = .ok (.aload_n 0, 1) := by decide +kernel
theorem dX2_pass_168 : decode cX2_pass 168 = .ok (.invokevirtual 132, 3) := by decide +kernel
theorem dX2_pass_171 : decode cX2_pass 171 = .ok (.ifCond .eq 29, 3) := by decide +kernel
theorem dX2_pass_174 : decode cX2_pass 174 = .ok (.aload_n 0, 1) := by decide +kernel
theorem dX2_pass_175 : decode cX2_pass 175 = .ok (.iload_n 2, 1) := by decide +kernel
theorem dX2_pass_176 : decode cX2_pass 176 = .ok (.invokevirtual 136, 3) := by decide +kernel
theorem dX2_pass_179 : decode cX2_pass 179 = .ok (.aload_n 0, 1) := by decide +kernel
theorem dX2_pass_180 : decode cX2_pass 180 = .ok (.aload_n 0, 1) := by decide +kernel
theorem dX2_pass_181 : decode cX2_pass 181 = .ok (.iload 4, 2) := by decide +kernel
theorem dX2_pass_183 : decode cX2_pass 183 = .ok (.invokevirtual 86, 3) := by decide +kernel
theorem dX2_pass_186 : decode cX2_pass 186 = .ok (.iload 4, 2) := by decide +kernel
theorem dX2_pass_188 : decode cX2_pass 188 = .ok (.iload 5, 2) := by decide +kernel
theorem dX2_pass_190 : decode cX2_pass 190 = .ok (.invokevirtual 90, 3) := by decide +kernel
theorem dX2_pass_193 : decode cX2_pass 193 = .ok (.aload_n 0, 1) := by decide +kernel
theorem dX2_pass_194 : decode cX2_pass 194 = .ok (.invokevirtual 94, 3) := by decide +kernel
theorem dX2_pass_197 : decode cX2_pass 197 = .ok (.goto 6, 3) := by decide +kernel
theorem dX2_pass_200 : decode cX2_pass 200 = .ok (.iinc 2 1, 3) := by decide +kernel
theorem dX2_pass_203 : decode cX2_pass 203 = .ok (.iinc 3 1, 3) := by decide +kernel
theorem dX2_pass_206 : decode cX2_pass 206 = .ok (.goto (-78), 3) := by decide +kernel
theorem dX2_pass_209 : decode cX2_pass 209 = .ok (.return_, 1) := by decide +kernel
theorem dX2_allows_0 : decode cX2_allows 0 = .ok (.iload_n 1, 1) := by decide +kernel
theorem dX2_allows_1 : decode cX2_allows 1 = .ok (.sipush 1000, 3) := by decide +kernel
theorem dX2_allows_4 : decode cX2_allows 4 = .ok (.irem, 1) := by decide +kernel
theorem dX2_allows_5 : decode cX2_allows 5 = .ok (.bipush 10, 2) := by decide +kernel
theorem dX2_allows_7 : decode cX2_allows 7 = .ok (.idiv, 1) := by decide +kernel
theorem dX2_allows_8 : decode cX2_allows 8 = .ok (.istore_n 2, 1) := by decide +kernel
theorem dX2_allows_9 : decode cX2_allows 9 = .ok (.iload_n 1, 1) := by decide +kernel
theorem dX2_allows_10 : decode cX2_allows 10 = .ok (.sipush 1000, 3) := by decide +kernel
theorem dX2_allows_13 : decode cX2_allows 13 = .ok (.idiv, 1) := by decide +kernel
theorem dX2_allows_14 : decode cX2_allows 14 = .ok (.tableswitch 59 1 3 #[26, 47, 53], 26) := by decide +kernel
theorem dX2_allows_40 : decode cX2_allows 40 = .ok (.aload_n 0, 1) := by decide +kernel
theorem dX2_allows_41 : decode cX2_allows 41 = .ok (.invokevirtual 132, 3) := by decide +kernel
theorem dX2_allows_44 : decode cX2_allows 44 = .ok (.ifCond .eq 15, 3) := by decide +kernel
theorem dX2_allows_47 : decode cX2_allows 47 = .ok (.aload_n 0, 1) := by decide +kernel
theorem dX2_allows_48 : decode cX2_allows 48 = .ok (.iload_n 2, 1) := by decide +kernel
theorem dX2_allows_49 : decode cX2_allows 49 = .ok (.invokevirtual 61, 3) := by decide +kernel
theorem dX2_allows_52 : decode cX2_allows 52 = .ok (.ifCond .eq 7, 3) := by decide +kernel
theorem dX2_allows_55 : decode cX2_allows 55 = .ok (.iconst 1, 1) := by decide +kernel
theorem dX2_allows_56 : decode cX2_allows 56 = .ok (.goto 4, 3) := by decide +kernel
theorem dX2_allows_59 : decode cX2_allows 59 = .ok (.iconst 0, 1) := by decide +kernel
theorem dX2_allows_60 : decode cX2_allows 60 = .ok (.ireturn, 1) := by decide +kernel
theorem dX2_allows_61 : decode cX2_allows 61 = .ok (.aload_n 0, 1) := by decide +kernel
theorem dX2_allows_62 : decode cX2_allows 62 = .ok (.iload_n 2, 1) := by decide +kernel
theorem dX2_allows_63 : decode cX2_allows 63 = .ok (.invokevirtual 68, 3) := by decide +kernel
theorem dX2_allows_66 : decode cX2_allows 66 = .ok (.ireturn, 1) := by decide +kernel
theorem dX2_allows_67 : decode cX2_allows 67 = .ok (.aload_n 0, 1) := by decide +kernel
theorem dX2_allows_68 : decode cX2_allows 68 = .ok (.iload_n 2, 1) := by decide +kernel
theorem dX2_allows_69 : decode cX2_allows 69 = .ok (.invokevirtual 139, 3) := by decide +kernel
theorem dX2_allows_72 : decode cX2_allows 72 = .ok (.ireturn, 1) := by decide +kernel
theorem dX2_allows_73 : decode cX2_allows 73 = .ok (.aload_n 0, 1) := by decide +kernel
theorem dX2_allows_74 : decode cX2_allows 74 = .ok (.getfield 54, 3) := by decide +kernel
theorem dX2_allows_77 : decode cX2_allows 77 = .ok (.sipush 1000, 3) := by decide +kernel
theorem dX2_allows_80 : decode cX2_allows 80 = .ok (.if_icmp .ge 7, 3) := by decide +kernel
theorem dX2_allows_83 : decode cX2_allows 83 = .ok (.iconst 1, 1) := by decide +kernel
theorem dX2_allows_84 : decode cX2_allows 84 = .ok (.goto 4, 3) := by decide +kernel
theorem dX2_allows_87 : decode cX2_allows 87 = .ok (.iconst 0, 1) := by decide +kernel
theorem dX2_allows_88 : decode cX2_allows 88 = .ok (.ireturn, 1) := by decide +kernel
theorem dX2_perform_0 : decode cX2_perform 0 = .ok (.iload_n 1, 1) := by decide +kernel
theorem dX2_perform_1 : decode cX2_perform 1 = .ok (.sipush 1000, 3) := by decide +kernel
theorem dX2_perform_4 : decode cX2_perform 4 = .ok (.irem, 1) := by decide +kernel
theorem dX2_perform_5 : decode cX2_perform 5 = .ok (.bipush 10, 2) := by decide +kernel
theorem dX2_perform_7 : decode cX2_perform 7 = .ok (.idiv, 1) := by decide +kernel
theorem dX2_perform_8 : decode cX2_perform 8 = .ok (.istore_n 2, 1) := by decide +kernel
theorem dX2_perform_9 : decode cX2_perform 9 = .ok (.iload_n 1, 1) := by decide +kernel
theorem dX2_perform_10 : decode cX2_perform 10 = .ok (.sipush 1000, 3) := by decide +kernel
theorem dX2_perform_13 : decode cX2_perform 13 = .ok (.idiv, 1) := by decide +kernel
theorem dX2_perform_14 : decode cX2_perform 14 = .ok (.tableswitch 57 1 3 #[26, 39, 48], 26) := by decide +kernel
theorem dX2_perform_40 : decode cX2_perform 40 = .ok (.aload_n 0, 1) := by decide +kernel
theorem dX2_perform_41 : decode cX2_perform 41 = .ok (.iload_n 2, 1) := by decide +kernel
theorem dX2_perform_42 : decode cX2_perform 42 = .ok (.iload_n 1, 1) := by decide +kernel
theorem dX2_perform_43 : decode cX2_perform 43 = .ok (.bipush 10, 2) := by decide +kernel
theorem dX2_perform_45 : decode cX2_perform 45 = .ok (.irem, 1) := by decide +kernel
theorem dX2_perform_46 : decode cX2_perform 46 = .ok (.invokevirtual 142, 3) := by decide +kernel
theorem dX2_perform_49 : decode cX2_perform 49 = .ok (.pop, 1) := by decide +kernel
theorem dX2_perform_50 : decode cX2_perform 50 = .ok (.goto 25, 3) := by decide +kernel
theorem dX2_perform_53 : decode cX2_perform 53 = .ok (.aload_n 0, 1) := by decide +kernel
theorem dX2_perform_54 : decode cX2_perform 54 = .ok (.iload_n 2, 1) := by decide +kernel
theorem dX2_perform_55 : decode cX2_perform 55 = .ok (.invokevirtual 145, 3) := by decide +kernel
theorem dX2_perform_58 : decode cX2_perform 58 = .ok (.pop, 1) := by decide +kernel
theorem dX2_perform_59 : decode cX2_perform 59 = .ok (.goto 16, 3) := by decide +kernel
theorem dX2_perform_62 : decode cX2_perform 62 = .ok (.aload_n 0, 1) := by decide +kernel
theorem dX2_perform_63 : decode cX2_perform 63 = .ok (.iload_n 2, 1) := by decide +kernel
theorem dX2_perform_64 : decode cX2_perform 64 = .ok (.invokevirtual 148, 3) := by decide +kernel
theorem dX2_perform_67 : decode cX2_perform 67 = .ok (.pop, 1) := by decide +kernel
theorem dX2_perform_68 : decode cX2_perform 68 = .ok (.goto 7, 3) := by decide +kernel
theorem dX2_perform_71 : decode cX2_perform 71 = .ok (.aload_n 0, 1) := by decide +kernel
theorem dX2_perform_72 : decode cX2_perform 72 = .ok (.invokevirtual 151, 3) := by decide +kernel
theorem dX2_perform_75 : decode cX2_perform 75 = .ok (.return_, 1) := by decide +kernel
theorem dX2_breaks_0 : decode cX2_breaks 0 = .ok (.iload_n 1, 1) := by decide +kernel
theorem dX2_breaks_1 : decode cX2_breaks 1 = .ok (.iconst 1, 1) := by decide +kernel
theorem dX2_breaks_2 : decode cX2_breaks 2 = .ok (.if_icmp .ne 18, 3) := by decide +kernel
theorem dX2_breaks_5 : decode cX2_breaks 5 = .ok (.aload_n 0, 1) := by decide +kernel
theorem dX2_breaks_6 : decode cX2_breaks 6 = .ok (.getfield 18, 3) := by decide +kernel
theorem dX2_breaks_9 : decode cX2_breaks 9 = .ok (.iload_n 2, 1) := by decide +kernel
theorem dX2_breaks_10 : decode cX2_breaks 10 = .ok (.iaload, 1) := by decide +kernel
theorem dX2_breaks_11 : decode cX2_breaks 11 = .ok (.ifCond .le 7, 3) := by decide +kernel
theorem dX2_breaks_14 : decode cX2_breaks 14 = .ok (.iconst 1, 1) := by decide +kernel
theorem dX2_breaks_15 : decode cX2_breaks 15 = .ok (.goto 4, 3) := by decide +kernel
theorem dX2_breaks_18 : decode cX2_breaks 18 = .ok (.iconst 0, 1) := by decide +kernel
theorem dX2_breaks_19 : decode cX2_breaks 19 = .ok (.ireturn, 1) := by decide +kernel
theorem dX2_breaks_20 : decode cX2_breaks 20 = .ok (.aload_n 0, 1) := by decide +kernel
theorem dX2_breaks_21 : decode cX2_breaks 21 = .ok (.iload_n 2, 1) := by decide +kernel
theorem dX2_breaks_22 : decode cX2_breaks 22 = .ok (.invokevirtual 61, 3) := by decide +kernel
theorem dX2_breaks_25 : decode cX2_breaks 25 = .ok (.ifCond .eq 5, 3) := by decide +kernel
theorem dX2_breaks_28 : decode cX2_breaks 28 = .ok (.iconst 0, 1) := by decide +kernel
theorem dX2_breaks_29 : decode cX2_breaks 29 = .ok (.ireturn, 1) := by decide +kernel
theorem dX2_breaks_30 : decode cX2_breaks 30 = .ok (.aload_n 0, 1) := by decide +kernel
theorem dX2_breaks_31 : decode cX2_breaks 31 = .ok (.getfield 33, 3) := by decide +kernel
theorem dX2_breaks_34 : decode cX2_breaks 34 = .ok (.aload_n 0, 1) := by decide +kernel
theorem dX2_breaks_35 : decode cX2_breaks 35 = .ok (.getfield 9, 3) := by decide +kernel
theorem dX2_breaks_38 : decode cX2_breaks 38 = .ok (.iload_n 2, 1) := by decide +kernel
theorem dX2_breaks_39 : decode cX2_breaks 39 = .ok (.iaload, 1) := by decide +kernel
theorem dX2_breaks_40 : decode cX2_breaks 40 = .ok (.aaload, 1) := by decide +kernel
theorem dX2_breaks_41 : decode cX2_breaks 41 = .ok (.astore 4, 2) := by decide +kernel
theorem dX2_breaks_43 : decode cX2_breaks 43 = .ok (.iload_n 1, 1) := by decide +kernel
theorem dX2_breaks_44 : decode cX2_breaks 44 = .ok (.ifCond .ne 38, 3) := by decide +kernel
theorem dX2_breaks_47 : decode cX2_breaks 47 = .ok (.iload_n 2, 1) := by decide +kernel
theorem dX2_breaks_48 : decode cX2_breaks 48 = .ok (.iload_n 3, 1) := by decide +kernel
theorem dX2_breaks_49 : decode cX2_breaks 49 = .ok (.if_icmp .eq 31, 3) := by decide +kernel
theorem dX2_breaks_52 : decode cX2_breaks 52 = .ok (.aload 4, 2) := by decide +kernel
theorem dX2_breaks_54 : decode cX2_breaks 54 = .ok (.getfield 71, 3) := by decide +kernel
theorem dX2_breaks_57 : decode cX2_breaks 57 = .ok (.iconst 1, 1) := by decide +kernel
theorem dX2_breaks_58 : decode cX2_breaks 58 = .ok (.if_icmp .ne 22, 3) := by decide +kernel
theorem dX2_breaks_61 : decode cX2_breaks 61 = .ok (.aload_n 0, 1) := by decide +kernel
theorem dX2_breaks_62 : decode cX2_breaks 62 = .ok (.getfield 9, 3) := by decide +kernel
theorem dX2_breaks_65 : decode cX2_breaks 65 = .ok (.iload_n 3, 1) := by decide +kernel
theorem dX2_breaks_66 : decode cX2_breaks 66 = .ok (.iaload, 1) := by decide +kernel
theorem dX2_breaks_67 : decode cX2_breaks 67 = .ok (.aload_n 0, 1) := by decide +kernel
theorem dX2_breaks_68 : decode cX2_breaks 68 = .ok (.getfield 9, 3) := by decide +kernel
theorem dX2_breaks_71 : decode cX2_breaks 71 = .ok (.iload_n 2, 1) := by decide +kernel
theorem dX2_breaks_72 : decode cX2_breaks 72 = .ok (.iaload, 1) := by decide +kernel
theorem dX2_breaks_73 : decode cX2_breaks 73 = .ok (.if_icmp .ne 7, 3) := by decide +kernel
theorem dX2_breaks_76 : decode cX2_breaks 76 = .ok (.iconst 1, 1) := by decide +kernel
theorem dX2_breaks_77 : decode cX2_breaks 77 = .ok (.goto 4, 3) := by decide +kernel
theorem dX2_breaks_80 : decode cX2_breaks 80 = .ok (.iconst 0, 1) := by decide +kernel
theorem dX2_breaks_81 : decode cX2_breaks 81 = .ok (.ireturn, 1) := by decide +kernel
theorem dX2_breaks_82 : decode cX2_breaks 82 = .ok (.aload 4, 2) := by decide +kernel
theorem dX2_breaks_84 : decode cX2_breaks 84 = .ok (.getfield 77, 3) := by decide +kernel
theorem dX2_breaks_87 : decode cX2_breaks 87 = .ok (.iload_n 2, 1) := by decide +kernel
theorem dX2_breaks_88 : decode cX2_breaks 88 = .ok (.if_icmp .ne 17, 3) := by decide +kernel
theorem dX2_breaks_91 : decode cX2_breaks 91 = .ok (.aload_n 0, 1) := by decide +kernel
theorem dX2_breaks_92 : decode cX2_breaks 92 = .ok (.aload 4, 2) := by decide +kernel
theorem dX2_breaks_94 : decode cX2_breaks 94 = .ok (.iload_n 3, 1) := by decide +kernel
theorem dX2_breaks_95 : decode cX2_breaks 95 = .ok (.invokevirtual 154, 3) := by decide +kernel
theorem dX2_breaks_98 : decode cX2_breaks 98 = .ok (.ifCond .eq 7, 3) := by decide +kernel
theorem dX2_breaks_101 : decode cX2_breaks 101 = .ok (.iconst 1, 1) := by decide +kernel
theorem dX2_breaks_102 : decode cX2_breaks 102 = .ok (.goto 4, 3) := by decide +kernel
theorem dX2_breaks_105 : decode cX2_breaks 105 = .ok (.iconst 0, 1) := by decide +kernel
theorem dX2_breaks_106 : decode cX2_breaks 106 = .ok (.ireturn, 1) := by decide +kernel
theorem dX2_opened_0 : decode cX2_opened 0 = .ok (.aload_n 0, 1) := by decide +kernel
theorem dX2_opened_1 : decode cX2_opened 1 = .ok (.invokevirtual 132, 3) := by decide +kernel
theorem dX2_opened_4 : decode cX2_opened 4 = .ok (.ifCond .ne 5, 3) := by decide +kernel
theorem dX2_opened_7 : decode cX2_opened 7 = .ok (.iconst (-1), 1) := by decide +kernel
theorem dX2_opened_8 : decode cX2_opened 8 = .ok (.ireturn, 1) := by decide +kernel
theorem dX2_opened_9 : decode cX2_opened 9 = .ok (.aload_n 0, 1) := by decide +kernel
theorem dX2_opened_10 : decode cX2_opened 10 = .ok (.getfield 33, 3) := by decide +kernel
theorem dX2_opened_13 : decode cX2_opened 13 = .ok (.aload_n 0, 1) := by decide +kernel
theorem dX2_opened_14 : decode cX2_opened 14 = .ok (.getfield 42, 3) := by decide +kernel
theorem dX2_opened_17 : decode cX2_opened 17 = .ok (.aaload, 1) := by decide +kernel
theorem dX2_opened_18 : decode cX2_opened 18 = .ok (.iload_n 1, 1) := by decide +kernel
theorem dX2_opened_19 : decode cX2_opened 19 = .ok (.invokevirtual 158, 3) := by decide +kernel
theorem dX2_opened_22 : decode cX2_opened 22 = .ok (.aload_n 0, 1) := by decide +kernel
theorem dX2_opened_23 : decode cX2_opened 23 = .ok (.getfield 9, 3) := by decide +kernel
theorem dX2_opened_26 : decode cX2_opened 26 = .ok (.iload_n 1, 1) := by decide +kernel
theorem dX2_opened_27 : decode cX2_opened 27 = .ok (.aload_n 0, 1) := by decide +kernel
theorem dX2_opened_28 : decode cX2_opened 28 = .ok (.getfield 42, 3) := by decide +kernel
theorem dX2_opened_31 : decode cX2_opened 31 = .ok (.iastore, 1) := by decide +kernel
theorem dX2_opened_32 : decode cX2_opened 32 = .ok (.aload_n 0, 1) := by decide +kernel
theorem dX2_opened_33 : decode cX2_opened 33 = .ok (.dup, 1) := by decide +kernel
theorem dX2_opened_34 : decode cX2_opened 34 = .ok (.getfield 42, 3) := by decide +kernel
theorem dX2_opened_37 : decode cX2_opened 37 = .ok (.iconst 1, 1) := by decide +kernel
theorem dX2_opened_38 : decode cX2_opened 38 = .ok (.iadd, 1) := by decide +kernel
theorem dX2_opened_39 : decode cX2_opened 39 = .ok (.putfield 42, 3) := by decide +kernel
theorem dX2_opened_42 : decode cX2_opened 42 = .ok (.aload_n 0, 1) := by decide +kernel
theorem dX2_opened_43 : decode cX2_opened 43 = .ok (.getfield 42, 3) := by decide +kernel
theorem dX2_opened_46 : decode cX2_opened 46 = .ok (.iconst 1, 1) := by decide +kernel
theorem dX2_opened_47 : decode cX2_opened 47 = .ok (.isub, 1) := by decide +kernel
theorem dX2_opened_48 : decode cX2_opened 48 = .ok (.ireturn, 1) := by decide +kernel
theorem dX2_go_0 : decode cX2_go 0 = .ok (.aload_n 0, 1) := by decide +kernel
theorem dX2_go_1 : decode cX2_go 1 = .ok (.iload_n 1, 1) := by decide +kernel
theorem dX2_go_2 : decode cX2_go 2 = .ok (.invokevirtual 161, 3) := by decide +kernel
theorem dX2_go_5 : decode cX2_go 5 = .ok (.ifCond .ne 4, 3) := by decide +kernel
theorem dX2_go_8 : decode cX2_go 8 = .ok (.return_, 1) := by decide +kernel
theorem dX2_go_9 : decode cX2_go 9 = .ok (.aload_n 0, 1) := by decide +kernel
theorem dX2_go_10 : decode cX2_go 10 = .ok (.getfield 33, 3) := by decide +kernel
theorem dX2_go_13 : decode cX2_go 13 = .ok (.iload_n 1, 1) := by decide +kernel
theorem dX2_go_14 : decode cX2_go 14 = .ok (.aaload, 1) := by decide +kernel
theorem dX2_go_15 : decode cX2_go 15 = .ok (.astore 4, 2) := by decide +kernel
theorem dX2_go_17 : decode cX2_go 17 = .ok (.iload_n 2, 1) := by decide +kernel
theorem dX2_go_18 : decode cX2_go 18 = .ok (.istore 5, 2) := by decide +kernel
theorem dX2_go_20 : decode cX2_go 20 = .ok (.iload_n 3, 1) := by decide +kernel
theorem dX2_go_21 : decode cX2_go 21 = .ok (.istore 6, 2) := by decide +kernel
theorem dX2_go_23 : decode cX2_go 23 = .ok (.iconst 0, 1) := by decide +kernel
theorem dX2_go_24 : decode cX2_go 24 = .ok (.istore 7, 2) := by decide +kernel
theorem dX2_go_26 : decode cX2_go 26 = .ok (.iload 7, 2) := by decide +kernel
theorem dX2_go_28 : decode cX2_go 28 = .ok (.bipush 8, 2) := by decide +kernel
theorem dX2_go_30 : decode cX2_go 30 = .ok (.if_icmp .gt 170, 3) := by decide +kernel
theorem dX2_go_33 : decode cX2_go 33 = .ok (.aload 4, 2) := by decide +kernel
theorem dX2_go_35 : decode cX2_go 35 = .ok (.iload 6, 2) := by decide +kernel
theorem dX2_go_37 : decode cX2_go 37 = .ok (.invokevirtual 164, 3) := by decide +kernel
theorem dX2_go_40 : decode cX2_go 40 = .ok (.ifCond .eq 11, 3) := by decide +kernel
theorem dX2_go_43 : decode cX2_go 43 = .ok (.aload_n 0, 1) := by decide +kernel
theorem dX2_go_44 : decode cX2_go 44 = .ok (.aload 4, 2) := by decide +kernel
theorem dX2_go_46 : decode cX2_go 46 = .ok (.iconst 2, 1) := by decide +kernel
theorem dX2_go_47 : decode cX2_go 47 = .ok (.invokevirtual 100, 3) := by decide +kernel
theorem dX2_go_50 : decode cX2_go 50 = .ok (.return_, 1) := by decide +kernel
theorem dX2_go_51 : decode cX2_go 51 = .ok (.aload 4, 2) := by decide +kernel
theorem dX2_go_53 : decode cX2_go 53 = .ok (.iload 6, 2) := by decide +kernel
theorem dX2_go_55 : decode cX2_go 55 = .ok (.aload 4, 2) := by decide +kernel
theorem dX2_go_57 : decode cX2_go 57 = .ok (.getfield 110, 3) := by decide +kernel
theorem dX2_go_60 : decode cX2_go 60 = .ok (.ifCond .ne 22, 3) := by decide +kernel
theorem dX2_go_63 : decode cX2_go 63 = .ok (.aload_n 0, 1) := by decide +kernel
theorem dX2_go_64 : decode cX2_go 64 = .ok (.getfield 27, 3) := by decide +kernel
theorem dX2_go_67 : decode cX2_go 67 = .ok (.iload 6, 2) := by decide +kernel
theorem dX2_go_69 : decode cX2_go 69 = .ok (.bipush 7, 2) := by decide +kernel
theorem dX2_go_71 : decode cX2_go 71 = .ok (.invokevirtual 167, 3) := by decide +kernel
theorem dX2_go_74 : decode cX2_go 74 = .ok (.ifCond .eq 8, 3) := by decide +kernel
theorem dX2_go_77 : decode cX2_go 77 = .ok (.iload 6, 2) := by decide +kernel
theorem dX2_go_79 : decode cX2_go 79 = .ok (.goto 5, 3) := by decide +kernel
theorem dX2_go_82 : decode cX2_go 82 = .ok (.iload 5, 2) := by decide +kernel
theorem dX2_go_84 : decode cX2_go 84 = .ok (.invokevirtual 170, 3) := by decide +kernel
theorem dX2_go_87 : decode cX2_go 87 = .ok (.aload_n 0, 1) := by decide +kernel
theorem dX2_go_88 : decode cX2_go 88 = .ok (.aload 4, 2) := by decide +kernel
theorem dX2_go_90 : decode cX2_go 90 = .ok (.getfield 77, 3) := by decide +kernel
theorem dX2_go_93 : decode cX2_go 93 = .ok (.iload 5, 2) := by decide +kernel
theorem dX2_go_95 : decode cX2_go 95 = .ok (.iload 6, 2) := by decide +kernel
theorem dX2_go_97 : decode cX2_go 97 = .ok (.invokevirtual 174, 3) := by decide +kernel
theorem dX2_go_100 : decode cX2_go 100 = .ok (.istore 8, 2) := by decide +kernel
theorem dX2_go_102 : decode cX2_go 102 = .ok (.iload 8, 2) := by decide +kernel
theorem dX2_go_104 : decode cX2_go 104 = .ok (.iconst (-1), 1) := by decide +kernel
theorem dX2_go_105 : decode cX2_go 105 = .ok (.if_icmp .ne 11, 3) := by decide +kernel
theorem dX2_go_108 : decode cX2_go 108 = .ok (.aload_n 0, 1) := by decide +kernel
theorem dX2_go_109 : decode cX2_go 109 = .ok (.iload_n 1, 1) := by decide +kernel
theorem dX2_go_110 : decode cX2_go 110 = .ok (.iload 6, 2) := by decide +kernel
theorem dX2_go_112 : decode cX2_go 112 = .ok (.invokevirtual 178, 3) := by decide +kernel
theorem dX2_go_115 : decode cX2_go 115 = .ok (.return_, 1) := by decide +kernel
theorem dX2_go_116 : decode cX2_go 116 = .ok (.aload 4, 2) := by decide +kernel
theorem dX2_go_118 : decode cX2_go 118 = .ok (.iload 8, 2) := by decide +kernel
theorem dX2_go_120 : decode cX2_go 120 = .ok (.invokevirtual 119, 3) := by decide +kernel
theorem dX2_go_123 : decode cX2_go 123 = .ok (.aload_n 0, 1) := by decide +kernel
theorem dX2_go_124 : decode cX2_go 124 = .ok (.getfield 27, 3) := by decide +kernel
theorem dX2_go_127 : decode cX2_go 127 = .ok (.getfield 123, 3) := by decide +kernel
theorem dX2_go_130 : decode cX2_go 130 = .ok (.iload 8, 2) := by decide +kernel
theorem dX2_go_132 : decode cX2_go 132 = .ok (.aaload, 1) := by decide +kernel
theorem dX2_go_133 : decode cX2_go 133 = .ok (.astore 9, 2) := by decide +kernel
theorem dX2_go_135 : decode cX2_go 135 = .ok (.aload 9, 2) := by decide +kernel
theorem dX2_go_137 : decode cX2_go 137 = .ok (.getfield 181, 3) := by decide +kernel
theorem dX2_go_140 : decode cX2_go 140 = .ok (.iconst 2, 1) := by decide +kernel
theorem dX2_go_141 : decode cX2_go 141 = .ok (.if_icmp .ne 11, 3) := by decide +kernel
theorem dX2_go_144 : decode cX2_go 144 = .ok (.aload_n 0, 1) := by decide +kernel
theorem dX2_go_145 : decode cX2_go 145 = .ok (.aload 4, 2) := by decide +kernel
theorem dX2_go_147 : decode cX2_go 147 = .ok (.iconst 1, 1) := by decide +kernel
theorem dX2_go_148 : decode cX2_go 148 = .ok (.invokevirtual 100, 3) := by decide +kernel
theorem dX2_go_151 : decode cX2_go 151 = .ok (.return_, 1) := by decide +kernel
theorem dX2_go_152 : decode cX2_go 152 = .ok (.aload 9, 2) := by decide +kernel
theorem dX2_go_154 : decode cX2_go 154 = .ok (.getfield 181, 3) := by decide +kernel
theorem dX2_go_157 : decode cX2_go 157 = .ok (.iconst 4, 1) := by decide +kernel
theorem dX2_go_158 : decode cX2_go 158 = .ok (.if_icmp .ne 25, 3) := by decide +kernel
theorem dX2_go_161 : decode cX2_go 161 = .ok (.aload 4, 2) := by decide +kernel
theorem dX2_go_163 : decode cX2_go 163 = .ok (.iconst 2, 1) := by decide +kernel
theorem dX2_go_164 : decode cX2_go 164 = .ok (.putfield 71, 3) := by decide +kernel
theorem dX2_go_167 : decode cX2_go 167 = .ok (.aload 4, 2) := by decide +kernel
theorem dX2_go_169 : decode cX2_go 169 = .ok (.iload 6, 2) := by decide +kernel
theorem dX2_go_171 : decode cX2_go 171 = .ok (.putfield 74, 3) := by decide +kernel
theorem dX2_go_174 : decode cX2_go 174 = .ok (.aload_n 0, 1) := by decide +kernel
theorem dX2_go_175 : decode cX2_go 175 = .ok (.getfield 15, 3) := by decide +kernel
theorem dX2_go_178 : decode cX2_go 178 = .ok (.iload 6, 2) := by decide +kernel
theorem dX2_go_180 : decode cX2_go 180 = .ok (.iload_n 1, 1) := by decide +kernel
theorem dX2_go_181 : decode cX2_go 181 = .ok (.iastore, 1) := by decide +kernel
theorem dX2_go_182 : decode cX2_go 182 = .ok (.return_, 1) := by decide +kernel
theorem dX2_go_183 : decode cX2_go 183 = .ok (.iload 6, 2) := by decide +kernel
theorem dX2_go_185 : decode cX2_go 185 = .ok (.istore 5, 2) := by decide +kernel
theorem dX2_go_187 : decode cX2_go 187 = .ok (.aload 9, 2) := by decide +kernel
theorem dX2_go_189 : decode cX2_go 189 = .ok (.getfield 127, 3) := by decide +kernel
theorem dX2_go_192 : decode cX2_go 192 = .ok (.istore 6, 2) := by decide +kernel
theorem dX2_go_194 : decode cX2_go 194 = .ok (.iinc 7 1, 3) := by decide +kernel
theorem dX2_go_197 : decode cX2_go 197 = .ok (.goto (-171), 3) := by decide +kernel
theorem dX2_go_200 : decode cX2_go 200 = .ok (.return_, 1) := by decide +kernel
theorem dX2_firstThatActs_0 : decode cX2_firstThatActs 0 = .ok (.aload_n 0, 1) := by decide +kernel
theorem dX2_firstThatActs_1 : decode cX2_firstThatActs 1 = .ok (.iload_n 3, 1) := by decide +kernel
theorem dX2_firstThatActs_2 : decode cX2_firstThatActs 2 = .ok (.invokevirtual 61, 3) := by decide +kernel
theorem dX2_firstThatActs_5 : decode cX2_firstThatActs 5 = .ok (.ifCond .ne 7, 3) := by decide +kernel
theorem dX2_firstThatActs_8 : decode cX2_firstThatActs 8 = .ok (.iconst 1, 1) := by decide +kernel
theorem dX2_firstThatActs_9 : decode cX2_firstThatActs 9 = .ok (.goto 4, 3) := by decide +kernel
theorem dX2_firstThatActs_12 : decode cX2_firstThatActs 12 = .ok (.iconst 0, 1) := by decide +kernel
theorem dX2_firstThatActs_13 : decode cX2_firstThatActs 13 = .ok (.istore 4, 2) := by decide +kernel
theorem dX2_firstThatActs_15 : decode cX2_firstThatActs 15 = .ok (.iload 4, 2) := by decide +kernel
theorem dX2_firstThatActs_17 : decode cX2_firstThatActs 17 = .ok (.ifCond .eq 22, 3) := by decide +kernel
theorem dX2_firstThatActs_20 : decode cX2_firstThatActs 20 = .ok (.iload_n 3, 1) := by decide +kernel
theorem dX2_firstThatActs_21 : decode cX2_firstThatActs 21 = .ok (.iload_n 1, 1) := by decide +kernel
theorem dX2_firstThatActs_22 : decode cX2_firstThatActs 22 = .ok (.if_icmp .eq 17, 3) := by decide +kernel
theorem dX2_firstThatActs_25 : decode cX2_firstThatActs 25 = .ok (.aload_n 0, 1) := by decide +kernel
theorem dX2_firstThatActs_26 : decode cX2_firstThatActs 26 = .ok (.getfield 15, 3) := by decide +kernel
theorem dX2_firstThatActs_29 : decode cX2_firstThatActs 29 = .ok (.iload_n 3, 1) := by decide +kernel
theorem dX2_firstThatActs_30 : decode cX2_firstThatActs 30 = .ok (.iaload, 1) := by decide +kernel
theorem dX2_firstThatActs_31 : decode cX2_firstThatActs 31 = .ok (.iconst (-1), 1) := by decide +kernel
theorem dX2_firstThatActs_32 : decode cX2_firstThatActs 32 = .ok (.if_icmp .ne 7, 3) := by decide +kernel
theorem dX2_firstThatActs_35 : decode cX2_firstThatActs 35 = .ok (.iconst 1, 1) := by decide +kernel
theorem dX2_firstThatActs_36 : decode cX2_firstThatActs 36 = .ok (.goto 4, 3) := by decide +kernel
theorem dX2_firstThatActs_39 : decode cX2_firstThatActs 39 = .ok (.iconst 0, 1) := by decide +kernel
theorem dX2_firstThatActs_40 : decode cX2_firstThatActs 40 = .ok (.istore 5, 2) := by decide +kernel
theorem dX2_firstThatActs_42 : decode cX2_firstThatActs 42 = .ok (.aload_n 0, 1) := by decide +kernel
theorem dX2_firstThatActs_43 : decode cX2_firstThatActs 43 = .ok (.getfield 54, 3) := by decide +kernel
theorem dX2_firstThatActs_46 : decode cX2_firstThatActs 46 = .ok (.bipush 24, 2) := by decide +kernel
theorem dX2_firstThatActs_48 : decode cX2_firstThatActs 48 = .ok (.irem, 1) := by decide +kernel
theorem dX2_firstThatActs_49 : decode cX2_firstThatActs 49 = .ok (.istore 6, 2) := by decide +kernel
theorem dX2_firstThatActs_51 : decode cX2_firstThatActs 51 = .ok (.iconst (-1), 1) := by decide +kernel
theorem dX2_firstThatActs_52 : decode cX2_firstThatActs 52 = .ok (.istore 7, 2) := by decide +kernel
theorem dX2_firstThatActs_54 : decode cX2_firstThatActs 54 = .ok (.iconst 0, 1) := by decide +kernel
theorem dX2_firstThatActs_55 : decode cX2_firstThatActs 55 = .ok (.istore 8, 2) := by decide +kernel
theorem dX2_firstThatActs_57 : decode cX2_firstThatActs 57 = .ok (.iload 8, 2) := by decide +kernel
theorem dX2_firstThatActs_59 : decode cX2_firstThatActs 59 = .ok (.aload_n 0, 1) := by decide +kernel
theorem dX2_firstThatActs_60 : decode cX2_firstThatActs 60 = .ok (.getfield 27, 3) := by decide +kernel
theorem dX2_firstThatActs_63 : decode cX2_firstThatActs 63 = .ok (.getfield 184, 3) := by decide +kernel
theorem dX2_firstThatActs_66 : decode cX2_firstThatActs 66 = .ok (.if_icmp .ge 109, 3) := by decide +kernel
theorem dX2_firstThatActs_69 : decode cX2_firstThatActs 69 = .ok (.aload_n 0, 1) := by decide +kernel
theorem dX2_firstThatActs_70 : decode cX2_firstThatActs 70 = .ok (.getfield 27, 3) := by decide +kernel
theorem dX2_firstThatActs_73 : decode cX2_firstThatActs 73 = .ok (.getfield 123, 3) := by decide +kernel
theorem dX2_firstThatActs_76 : decode cX2_firstThatActs 76 = .ok (.iload 8, 2) := by decide +kernel
theorem dX2_firstThatActs_78 : decode cX2_firstThatActs 78 = .ok (.aaload, 1) := by decide +kernel
theorem dX2_firstThatActs_79 : decode cX2_firstThatActs 79 = .ok (.astore 9, 2) := by decide +kernel
theorem dX2_firstThatActs_81 : decode cX2_firstThatActs 81 = .ok (.aload 9, 2) := by decide +kernel
theorem dX2_firstThatActs_83 : decode cX2_firstThatActs 83 = .ok (.iload_n 3, 1) := by decide +kernel
theorem dX2_firstThatActs_84 : decode cX2_firstThatActs 84 = .ok (.invokevirtual 187, 3) := by decide +kernel
theorem dX2_firstThatActs_87 : decode cX2_firstThatActs 87 = .ok (.ifCond .eq 43, 3) := by decide +kernel
theorem dX2_firstThatActs_90 : decode cX2_firstThatActs 90 = .ok (.aload 9, 2) := by decide +kernel
theorem dX2_firstThatActs_92 : decode cX2_firstThatActs 92 = .ok (.iload_n 1, 1) := by decide +kernel
theorem dX2_firstThatActs_93 : decode cX2_firstThatActs 93 = .ok (.iload_n 2, 1) := by decide +kernel
theorem dX2_firstThatActs_94 : decode cX2_firstThatActs 94 = .ok (.iload 6, 2) := by decide +kernel
theorem dX2_firstThatActs_96 : decode cX2_firstThatActs 96 = .ok (.invokevirtual 190, 3) := by decide +kernel
theorem dX2_firstThatActs_99 : decode cX2_firstThatActs 99 = .ok (.ifCond .ne 27, 3) := by decide +kernel
theorem dX2_firstThatActs_102 : decode cX2_firstThatActs 102 = .ok (.aload 9, 2) := by decide +kernel
theorem dX2_firstThatActs_104 : decode cX2_firstThatActs 104 = .ok (.iload 4, 2) := by decide +kernel
theorem dX2_firstThatActs_106 : decode cX2_firstThatActs 106 = .ok (.invokevirtual 194, 3) := by decide +kernel
theorem dX2_firstThatActs_109 : decode cX2_firstThatActs 109 = .ok (.ifCond .ne 17, 3) := by decide +kernel
theorem dX2_firstThatActs_112 : decode cX2_firstThatActs 112 = .ok (.aload 9, 2) := by decide +kernel
theorem dX2_firstThatActs_114 : decode cX2_firstThatActs 114 = .ok (.getfield 181, 3) := by decide +kernel
theorem dX2_firstThatActs_117 : decode cX2_firstThatActs 117 = .ok (.iconst 4, 1) := by decide +kernel
theorem dX2_firstThatActs_118 : decode cX2_firstThatActs 118 = .ok (.if_icmp .ne 12, 3) := by decide +kernel
theorem dX2_firstThatActs_121 : decode cX2_firstThatActs 121 = .ok (.iload 5, 2) := by decide +kernel
theorem dX2_firstThatActs_123 : decode cX2_firstThatActs 123 = .ok (.ifCond .eq 7, 3) := by decide +kernel
theorem dX2_firstThatActs_126 : decode cX2_firstThatActs 126 = .ok (.iconst 1, 1) := by decide +kernel
theorem dX2_firstThatActs_127 : decode cX2_firstThatActs 127 = .ok (.goto 4, 3) := by decide +kernel
theorem dX2_firstThatActs_130 : decode cX2_firstThatActs 130 = .ok (.iconst 0, 1) := by decide +kernel
theorem dX2_firstThatActs_131 : decode cX2_firstThatActs 131 = .ok (.istore 10, 2) := by decide +kernel
theorem dX2_firstThatActs_133 : decode cX2_firstThatActs 133 = .ok (.iload 10, 2) := by decide +kernel
theorem dX2_firstThatActs_135 : decode cX2_firstThatActs 135 = .ok (.ifCond .eq 34, 3) := by decide +kernel
theorem dX2_firstThatActs_138 : decode cX2_firstThatActs 138 = .ok (.iload 7, 2) := by decide +kernel
theorem dX2_firstThatActs_140 : decode cX2_firstThatActs 140 = .ok (.iconst (-1), 1) := by decide +kernel
theorem dX2_firstThatActs_141 : decode cX2_firstThatActs 141 = .ok (.if_icmp .eq 24, 3) := by decide +kernel
theorem dX2_firstThatActs_144 : decode cX2_firstThatActs 144 = .ok (.aload 9, 2) := by decide +kernel
theorem dX2_firstThatActs_146 : decode cX2_firstThatActs 146 = .ok (.getfield 198, 3) := by decide +kernel
theorem dX2_firstThatActs_149 : decode cX2_firstThatActs 149 = .ok (.aload_n 0, 1) := by decide +kernel
theorem dX2_firstThatActs_150 : decode cX2_firstThatActs 150 = .ok (.getfield 27, 3) := by decide +kernel
theorem dX2_firstThatActs_153 : decode cX2_firstThatActs 153 = .ok (.getfield 123, 3) := by decide +kernel
theorem dX2_firstThatActs_156 : decode cX2_firstThatActs 156 = .ok (.iload 7, 2) := by decide +kernel
theorem dX2_firstThatActs_158 : decode cX2_firstThatActs 158 = .ok (.aaload, 1) := by decide +kernel
theorem dX2_firstThatActs_159 : decode cX2_firstThatActs 159 = .ok (.getfield 198, 3) := by decide +kernel
theorem dX2_firstThatActs_162 : decode cX2_firstThatActs 162 = .ok (.if_icmp .ge 7, 3) := by decide +kernel
theorem dX2_firstThatActs_165 : decode cX2_firstThatActs 165 = .ok (.iload 8, 2) := by decide +kernel
theorem dX2_firstThatActs_167 : decode cX2_firstThatActs 167 = .ok (.istore 7, 2) := by decide +kernel
theorem dX2_firstThatActs_169 : decode cX2_firstThatActs 169 = .ok (.iinc 8 1, 3) := by decide +kernel
theorem dX2_firstThatActs_172 : decode cX2_firstThatActs 172 = .ok (.goto (-115), 3) := by decide +kernel
theorem dX2_firstThatActs_175 : decode cX2_firstThatActs 175 = .ok (.iload 7, 2) := by decide +kernel
theorem dX2_firstThatActs_177 : decode cX2_firstThatActs 177 = .ok (.ireturn, 1) := by decide +kernel
theorem dX2_arrive_0 : decode cX2_arrive 0 = .ok (.aload_n 0, 1) := by decide +kernel
theorem dX2_arrive_1 : decode cX2_arrive 1 = .ok (.getfield 33, 3) := by decide +kernel
theorem dX2_arrive_4 : decode cX2_arrive 4 = .ok (.iload_n 1, 1) := by decide +kernel
theorem dX2_arrive_5 : decode cX2_arrive 5 = .ok (.aaload, 1) := by decide +kernel
theorem dX2_arrive_6 : decode cX2_arrive 6 = .ok (.astore_n 3, 1) := by decide +kernel
theorem dX2_arrive_7 : decode cX2_arrive 7 = .ok (.aload_n 0, 1) := by decide +kernel
theorem dX2_arrive_8 : decode cX2_arrive 8 = .ok (.iload_n 2, 1) := by decide +kernel
theorem dX2_arrive_9 : decode cX2_arrive 9 = .ok (.invokevirtual 61, 3) := by decide +kernel
theorem dX2_arrive_12 : decode cX2_arrive 12 = .ok (.ifCond .ne 34, 3) := by decide +kernel
theorem dX2_arrive_15 : decode cX2_arrive 15 = .ok (.aload_n 0, 1) := by decide +kernel
theorem dX2_arrive_16 : decode cX2_arrive 16 = .ok (.aload_n 3, 1) := by decide +kernel
theorem dX2_arrive_17 : decode cX2_arrive 17 = .ok (.iconst 3, 1) := by decide +kernel
theorem dX2_arrive_18 : decode cX2_arrive 18 = .ok (.invokevirtual 100, 3) := by decide +kernel
theorem dX2_arrive_21 : decode cX2_arrive 21 = .ok (.aload_n 0, 1) := by decide +kernel
theorem dX2_arrive_22 : decode cX2_arrive 22 = .ok (.getfield 27, 3) := by decide +kernel
theorem dX2_arrive_25 : decode cX2_arrive 25 = .ok (.aload_n 3, 1) := by decide +kernel
theorem dX2_arrive_26 : decode cX2_arrive 26 = .ok (.getfield 77, 3) := by decide +kernel
theorem dX2_arrive_29 : decode cX2_arrive 29 = .ok (.iconst 5, 1) := by decide +kernel
theorem dX2_arrive_30 : decode cX2_arrive 30 = .ok (.invokevirtual 167, 3) := by decide +kernel
theorem dX2_arrive_33 : decode cX2_arrive 33 = .ok (.ifCond .eq 12, 3) := by decide +kernel
theorem dX2_arrive_36 : decode cX2_arrive 36 = .ok (.aload_n 0, 1) := by decide +kernel
theorem dX2_arrive_37 : decode cX2_arrive 37 = .ok (.aload_n 3, 1) := by decide +kernel
theorem dX2_arrive_38 : decode cX2_arrive 38 = .ok (.getfield 77, 3) := by decide +kernel
theorem dX2_arrive_41 : decode cX2_arrive 41 = .ok (.iload_n 2, 1) := by decide +kernel
theorem dX2_arrive_42 : decode cX2_arrive 42 = .ok (.invokevirtual 201, 3) := by decide +kernel
theorem dX2_arrive_45 : decode cX2_arrive 45 = .ok (.return_, 1) := by decide +kernel
theorem dX2_arrive_46 : decode cX2_arrive 46 = .ok (.iconst 1, 1) := by decide +kernel
theorem dX2_arrive_47 : decode cX2_arrive 47 = .ok (.iload_n 2, 1) := by decide +kernel
theorem dX2_arrive_48 : decode cX2_arrive 48 = .ok (.ishl, 1) := by decide +kernel
theorem dX2_arrive_49 : decode cX2_arrive 49 = .ok (.istore 4, 2) := by decide +kernel
theorem dX2_arrive_51 : decode cX2_arrive 51 = .ok (.iconst 0, 1) := by decide +kernel
theorem dX2_arrive_52 : decode cX2_arrive 52 = .ok (.istore 5, 2) := by decide +kernel
theorem dX2_arrive_54 : decode cX2_arrive 54 = .ok (.iload 5, 2) := by decide +kernel
theorem dX2_arrive_56 : decode cX2_arrive 56 = .ok (.aload_n 0, 1) := by decide +kernel
theorem dX2_arrive_57 : decode cX2_arrive 57 = .ok (.getfield 27, 3) := by decide +kernel
theorem dX2_arrive_60 : decode cX2_arrive 60 = .ok (.getfield 184, 3) := by decide +kernel
theorem dX2_arrive_63 : decode cX2_arrive 63 = .ok (.if_icmp .ge 64, 3) := by decide +kernel
theorem dX2_arrive_66 : decode cX2_arrive 66 = .ok (.aload_n 0, 1) := by decide +kernel
theorem dX2_arrive_67 : decode cX2_arrive 67 = .ok (.getfield 27, 3) := by decide +kernel
theorem dX2_arrive_70 : decode cX2_arrive 70 = .ok (.getfield 123, 3) := by decide +kernel
theorem dX2_arrive_73 : decode cX2_arrive 73 = .ok (.iload 5, 2) := by decide +kernel
theorem dX2_arrive_75 : decode cX2_arrive 75 = .ok (.aaload, 1) := by decide +kernel
theorem dX2_arrive_76 : decode cX2_arrive 76 = .ok (.astore 6, 2) := by decide +kernel
theorem dX2_arrive_78 : decode cX2_arrive 78 = .ok (.aload 6, 2) := by decide +kernel
theorem dX2_arrive_80 : decode cX2_arrive 80 = .ok (.getfield 181, 3) := by decide +kernel
theorem dX2_arrive_83 : decode cX2_arrive 83 = .ok (.bipush 6, 2) := by decide +kernel
theorem dX2_arrive_85 : decode cX2_arrive 85 = .ok (.if_icmp .ne 36, 3) := by decide +kernel
theorem dX2_arrive_88 : decode cX2_arrive 88 = .ok (.aload 6, 2) := by decide +kernel
theorem dX2_arrive_90 : decode cX2_arrive 90 = .ok (.iload_n 2, 1) := by decide +kernel
theorem dX2_arrive_91 : decode cX2_arrive 91 = .ok (.invokevirtual 187, 3) := by decide +kernel
theorem dX2_arrive_94 : decode cX2_arrive 94 = .ok (.ifCond .eq 27, 3) := by decide +kernel
theorem dX2_arrive_97 : decode cX2_arrive 97 = .ok (.aload_n 0, 1) := by decide +kernel
theorem dX2_arrive_98 : decode cX2_arrive 98 = .ok (.aload 6, 2) := by decide +kernel
theorem dX2_arrive_100 : decode cX2_arrive 100 = .ok (.getfield 127, 3) := by decide +kernel
theorem dX2_arrive_103 : decode cX2_arrive 103 = .ok (.invokevirtual 61, 3) := by decide +kernel
theorem dX2_arrive_106 : decode cX2_arrive 106 = .ok (.ifCond .eq 15, 3) := by decide +kernel
theorem dX2_arrive_109 : decode cX2_arrive 109 = .ok (.iload 4, 2) := by decide +kernel
theorem dX2_arrive_111 : decode cX2_arrive 111 = .ok (.iconst 1, 1) := by decide +kernel
theorem dX2_arrive_112 : decode cX2_arrive 112 = .ok (.aload 6, 2) := by decide +kernel
theorem dX2_arrive_114 : decode cX2_arrive 114 = .ok (.getfield 127, 3) := by decide +kernel
theorem dX2_arrive_117 : decode cX2_arrive 117 = .ok (.ishl, 1) := by decide +kernel
theorem dX2_arrive_118 : decode cX2_arrive 118 = .ok (.ior, 1) := by decide +kernel
theorem dX2_arrive_119 : decode cX2_arrive 119 = .ok (.istore 4, 2) := by decide +kernel
theorem dX2_arrive_121 : decode cX2_arrive 121 = .ok (.iinc 5 1, 3) := by decide +kernel
theorem dX2_arrive_124 : decode cX2_arrive 124 = .ok (.goto (-70), 3) := by decide +kernel
theorem dX2_arrive_127 : decode cX2_arrive 127 = .ok (.aload_n 0, 1) := by decide +kernel
theorem dX2_arrive_128 : decode cX2_arrive 128 = .ok (.iload_n 1, 1) := by decide +kernel
theorem dX2_arrive_129 : decode cX2_arrive 129 = .ok (.iload 4, 2) := by decide +kernel
theorem dX2_arrive_131 : decode cX2_arrive 131 = .ok (.invokevirtual 204, 3) := by decide +kernel
theorem dX2_arrive_134 : decode cX2_arrive 134 = .ok (.return_, 1) := by decide +kernel
theorem dX2_ringAt_0 : decode cX2_ringAt 0 = .ok (.aload_n 0, 1) := by decide +kernel
theorem dX2_ringAt_1 : decode cX2_ringAt 1 = .ok (.getfield 33, 3) := by decide +kernel
theorem dX2_ringAt_4 : decode cX2_ringAt 4 = .ok (.iload_n 1, 1) := by decide +kernel
theorem dX2_ringAt_5 : decode cX2_ringAt 5 = .ok (.aaload, 1) := by decide +kernel
theorem dX2_ringAt_6 : decode cX2_ringAt 6 = .ok (.astore_n 3, 1) := by decide +kernel
theorem dX2_ringAt_7 : decode cX2_ringAt 7 = .ok (.aload_n 3, 1) := by decide +kernel
theorem dX2_ringAt_8 : decode cX2_ringAt 8 = .ok (.iconst 0, 1) := by decide +kernel
theorem dX2_ringAt_9 : decode cX2_ringAt 9 = .ok (.putfield 71, 3) := by decide +kernel
theorem dX2_ringAt_12 : decode cX2_ringAt 12 = .ok (.aload_n 3, 1) := by decide +kernel
theorem dX2_ringAt_13 : decode cX2_ringAt 13 = .ok (.iload_n 2, 1) := by decide +kernel
theorem dX2_ringAt_14 : decode cX2_ringAt 14 = .ok (.putfield 65, 3) := by decide +kernel
theorem dX2_ringAt_17 : decode cX2_ringAt 17 = .ok (.aload_n 3, 1) := by decide +kernel
theorem dX2_ringAt_18 : decode cX2_ringAt 18 = .ok (.iconst (-1), 1) := by decide +kernel
theorem dX2_ringAt_19 : decode cX2_ringAt 19 = .ok (.putfield 74, 3) := by decide +kernel
theorem dX2_ringAt_22 : decode cX2_ringAt 22 = .ok (.aload_n 3, 1) := by decide +kernel
theorem dX2_ringAt_23 : decode cX2_ringAt 23 = .ok (.iconst 0, 1) := by decide +kernel
theorem dX2_ringAt_24 : decode cX2_ringAt 24 = .ok (.putfield 107, 3) := by decide +kernel
theorem dX2_ringAt_27 : decode cX2_ringAt 27 = .ok (.iconst 0, 1) := by decide +kernel
theorem dX2_ringAt_28 : decode cX2_ringAt 28 = .ok (.istore 4, 2) := by decide +kernel
theorem dX2_ringAt_30 : decode cX2_ringAt 30 = .ok (.iload 4, 2) := by decide +kernel
theorem dX2_ringAt_32 : decode cX2_ringAt 32 = .ok (.bipush 8, 2) := by decide +kernel
theorem dX2_ringAt_34 : decode cX2_ringAt 34 = .ok (.if_icmp .ge 26, 3) := by decide +kernel
theorem dX2_ringAt_37 : decode cX2_ringAt 37 = .ok (.iload_n 2, 1) := by decide +kernel
theorem dX2_ringAt_38 : decode cX2_ringAt 38 = .ok (.iload 4, 2) := by decide +kernel
theorem dX2_ringAt_40 : decode cX2_ringAt 40 = .ok (.ishr, 1) := by decide +kernel
theorem dX2_ringAt_41 : decode cX2_ringAt 41 = .ok (.iconst 1, 1) := by decide +kernel
theorem dX2_ringAt_42 : decode cX2_ringAt 42 = .ok (.iand, 1) := by decide +kernel
theorem dX2_ringAt_43 : decode cX2_ringAt 43 = .ok (.ifCond .eq 11, 3) := by decide +kernel
theorem dX2_ringAt_46 : decode cX2_ringAt 46 = .ok (.aload_n 0, 1) := by decide +kernel
theorem dX2_ringAt_47 : decode cX2_ringAt 47 = .ok (.getfield 9, 3) := by decide +kernel
theorem dX2_ringAt_50 : decode cX2_ringAt 50 = .ok (.iload 4, 2) := by decide +kernel
theorem dX2_ringAt_52 : decode cX2_ringAt 52 = .ok (.iload_n 1, 1) := by decide +kernel
theorem dX2_ringAt_53 : decode cX2_ringAt 53 = .ok (.iastore, 1) := by decide +kernel
theorem dX2_ringAt_54 : decode cX2_ringAt 54 = .ok (.iinc 4 1, 3) := by decide +kernel
theorem dX2_ringAt_57 : decode cX2_ringAt 57 = .ok (.goto (-27), 3) := by decide +kernel
theorem dX2_ringAt_60 : decode cX2_ringAt 60 = .ok (.return_, 1) := by decide +kernel
theorem dX2_silence_0 : decode cX2_silence 0 = .ok (.iconst 0, 1) := by decide +kernel
theorem dX2_silence_1 : decode cX2_silence 1 = .ok (.istore_n 2, 1) := by decide +kernel
theorem dX2_silence_2 : decode cX2_silence 2 = .ok (.iload_n 2, 1) := by decide +kernel
theorem dX2_silence_3 : decode cX2_silence 3 = .ok (.bipush 8, 2) := by decide +kernel
theorem dX2_silence_5 : decode cX2_silence 5 = .ok (.if_icmp .ge 27, 3) := by decide +kernel
theorem dX2_silence_8 : decode cX2_silence 8 = .ok (.aload_n 1, 1) := by decide +kernel
theorem dX2_silence_9 : decode cX2_silence 9 = .ok (.getfield 65, 3) := by decide +kernel
theorem dX2_silence_12 : decode cX2_silence 12 = .ok (.iload_n 2, 1) := by decide +kernel
theorem dX2_silence_13 : decode cX2_silence 13 = .ok (.ishr, 1) := by decide +kernel
theorem dX2_silence_14 : decode cX2_silence 14 = .ok (.iconst 1, 1) := by decide +kernel
theorem dX2_silence_15 : decode cX2_silence 15 = .ok (.iand, 1) := by decide +kernel
theorem dX2_silence_16 : decode cX2_silence 16 = .ok (.ifCond .eq 10, 3) := by decide +kernel
theorem dX2_silence_19 : decode cX2_silence 19 = .ok (.aload_n 0, 1) := by decide +kernel
theorem dX2_silence_20 : decode cX2_silence 20 = .ok (.getfield 9, 3) := by decide +kernel
theorem dX2_silence_23 : decode cX2_silence 23 = .ok (.iload_n 2, 1) := by decide +kernel
theorem dX2_silence_24 : decode cX2_silence 24 = .ok (.iconst (-1), 1) := by decide +kernel
theorem dX2_silence_25 : decode cX2_silence 25 = .ok (.iastore, 1) := by decide +kernel
theorem dX2_silence_26 : decode cX2_silence 26 = .ok (.iinc 2 1, 3) := by decide +kernel
theorem dX2_silence_29 : decode cX2_silence 29 = .ok (.goto (-27), 3) := by decide +kernel
theorem dX2_silence_32 : decode cX2_silence 32 = .ok (.aload_n 1, 1) := by decide +kernel
theorem dX2_silence_33 : decode cX2_silence 33 = .ok (.iconst 0, 1) := by decide +kernel
theorem dX2_silence_34 : decode cX2_silence 34 = .ok (.putfield 65, 3) := by decide +kernel
theorem dX2_silence_37 : decode cX2_silence 37 = .ok (.return_, 1) := by decide +kernel
theorem dX2_close_0 : decode cX2_close 0 = .ok (.aload_n 0, 1) := by decide +kernel
theorem dX2_close_1 : decode cX2_close 1 = .ok (.getfield 9, 3) := by decide +kernel
theorem dX2_close_4 : decode cX2_close 4 = .ok (.aload_n 1, 1) := by decide +kernel
theorem dX2_close_5 : decode cX2_close 5 = .ok (.getfield 77, 3) := by decide +kernel
theorem dX2_close_8 : decode cX2_close 8 = .ok (.iconst (-1), 1) := by decide +kernel
theorem dX2_close_9 : decode cX2_close 9 = .ok (.iastore, 1) := by decide +kernel
theorem dX2_close_10 : decode cX2_close 10 = .ok (.aload_n 1, 1) := by decide +kernel
theorem dX2_close_11 : decode cX2_close 11 = .ok (.getfield 71, 3) := by decide +kernel
theorem dX2_close_14 : decode cX2_close 14 = .ok (.iconst 1, 1) := by decide +kernel
theorem dX2_close_15 : decode cX2_close 15 = .ok (.if_icmp .ne 13, 3) := by decide +kernel
theorem dX2_close_18 : decode cX2_close 18 = .ok (.aload_n 0, 1) := by decide +kernel
theorem dX2_close_19 : decode cX2_close 19 = .ok (.getfield 9, 3) := by decide +kernel
theorem dX2_close_22 : decode cX2_close 22 = .ok (.aload_n 1, 1) := by decide +kernel
theorem dX2_close_23 : decode cX2_close 23 = .ok (.getfield 74, 3) := by decide +kernel
theorem dX2_close_26 : decode cX2_close 26 = .ok (.iconst (-1), 1) := by decide +kernel
theorem dX2_close_27 : decode cX2_close 27 = .ok (.iastore, 1) := by decide +kernel
theorem dX2_close_28 : decode cX2_close 28 = .ok (.aload_n 1, 1) := by decide +kernel
theorem dX2_close_29 : decode cX2_close 29 = .ok (.getfield 71, 3) := by decide +kernel
theorem dX2_close_32 : decode cX2_close 32 = .ok (.iconst 2, 1) := by decide +kernel
theorem dX2_close_33 : decode cX2_close 33 = .ok (.if_icmp .ne 13, 3) := by decide +kernel
theorem dX2_close_36 : decode cX2_close 36 = .ok (.aload_n 0, 1) := by decide +kernel
theorem dX2_close_37 : decode cX2_close 37 = .ok (.getfield 15, 3) := by decide +kernel
theorem dX2_close_40 : decode cX2_close 40 = .ok (.aload_n 1, 1) := by decide +kernel
theorem dX2_close_41 : decode cX2_close 41 = .ok (.getfield 74, 3) := by decide +kernel
theorem dX2_close_44 : decode cX2_close 44 = .ok (.iconst (-1), 1) := by decide +kernel
theorem dX2_close_45 : decode cX2_close 45 = .ok (.iastore, 1) := by decide +kernel
theorem dX2_close_46 : decode cX2_close 46 = .ok (.aload_n 1, 1) := by decide +kernel
theorem dX2_close_47 : decode cX2_close 47 = .ok (.iconst (-1), 1) := by decide +kernel
theorem dX2_close_48 : decode cX2_close 48 = .ok (.putfield 74, 3) := by decide +kernel
theorem dX2_close_51 : decode cX2_close 51 = .ok (.aload_n 1, 1) := by decide +kernel
theorem dX2_close_52 : decode cX2_close 52 = .ok (.iconst 3, 1) := by decide +kernel
theorem dX2_close_53 : decode cX2_close 53 = .ok (.putfield 71, 3) := by decide +kernel
theorem dX2_close_56 : decode cX2_close 56 = .ok (.aload_n 1, 1) := by decide +kernel
theorem dX2_close_57 : decode cX2_close 57 = .ok (.iload_n 2, 1) := by decide +kernel
theorem dX2_close_58 : decode cX2_close 58 = .ok (.putfield 207, 3) := by decide +kernel
theorem dX2_close_61 : decode cX2_close 61 = .ok (.return_, 1) := by decide +kernel
theorem dX2_settle_0 : decode cX2_settle 0 = .ok (.iconst 0, 1) := by decide +kernel
theorem dX2_settle_1 : decode cX2_settle 1 = .ok (.istore_n 1, 1) := by decide +kernel
theorem dX2_settle_2 : decode cX2_settle 2 = .ok (.iload_n 1, 1) := by decide +kernel
theorem dX2_settle_3 : decode cX2_settle 3 = .ok (.aload_n 0, 1) := by decide +kernel
theorem dX2_settle_4 : decode cX2_settle 4 = .ok (.getfield 38, 3) := by decide +kernel
theorem dX2_settle_7 : decode cX2_settle 7 = .ok (.if_icmp .ge 49, 3) := by decide +kernel
theorem dX2_settle_10 : decode cX2_settle 10 = .ok (.aload_n 0, 1) := by decide +kernel
theorem dX2_settle_11 : decode cX2_settle 11 = .ok (.iload_n 1, 1) := by decide +kernel
theorem dX2_settle_12 : decode cX2_settle 12 = .ok (.invokevirtual 61, 3) := by decide +kernel
theorem dX2_settle_15 : decode cX2_settle 15 = .ok (.ifCond .eq 35, 3) := by decide +kernel
theorem dX2_settle_18 : decode cX2_settle 18 = .ok (.aload_n 0, 1) := by decide +kernel
theorem dX2_settle_19 : decode cX2_settle 19 = .ok (.getfield 15, 3) := by decide +kernel
theorem dX2_settle_22 : decode cX2_settle 22 = .ok (.iload_n 1, 1) := by decide +kernel
theorem dX2_settle_23 : decode cX2_settle 23 = .ok (.iaload, 1) := by decide +kernel
theorem dX2_settle_24 : decode cX2_settle 24 = .ok (.iconst (-1), 1) := by decide +kernel
theorem dX2_settle_25 : decode cX2_settle 25 = .ok (.if_icmp .eq 25, 3) := by decide +kernel
theorem dX2_settle_28 : decode cX2_settle 28 = .ok (.aload_n 0, 1) := by decide +kernel
theorem dX2_settle_29 : decode cX2_settle 29 = .ok (.getfield 15, 3) := by decide +kernel
theorem dX2_settle_32 : decode cX2_settle 32 = .ok (.iload_n 1, 1) := by decide +kernel
theorem dX2_settle_33 : decode cX2_settle 33 = .ok (.iaload, 1) := by decide +kernel
theorem dX2_settle_34 : decode cX2_settle 34 = .ok (.istore_n 2, 1) := by decide +kernel
theorem dX2_settle_35 : decode cX2_settle 35 = .ok (.aload_n 0, 1) := by decide +kernel
theorem dX2_settle_36 : decode cX2_settle 36 = .ok (.getfield 15, 3) := by decide +kernel
theorem dX2_settle_39 : decode cX2_settle 39 = .ok (.iload_n 1, 1) := by decide +kernel
theorem dX2_settle_40 : decode cX2_settle 40 = .ok (.iconst (-1), 1) := by decide +kernel
theorem dX2_settle_41 : decode cX2_settle 41 = .ok (.iastore, 1) := by decide +kernel
theorem dX2_settle_42 : decode cX2_settle 42 = .ok (.aload_n 0, 1) := by decide +kernel
theorem dX2_settle_43 : decode cX2_settle 43 = .ok (.iload_n 2, 1) := by decide +kernel
theorem dX2_settle_44 : decode cX2_settle 44 = .ok (.iconst 1, 1) := by decide +kernel
theorem dX2_settle_45 : decode cX2_settle 45 = .ok (.iload_n 1, 1) := by decide +kernel
theorem dX2_settle_46 : decode cX2_settle 46 = .ok (.ishl, 1) := by decide +kernel
theorem dX2_settle_47 : decode cX2_settle 47 = .ok (.invokevirtual 204, 3) := by decide +kernel
theorem dX2_settle_50 : decode cX2_settle 50 = .ok (.iinc 1 1, 3) := by decide +kernel
theorem dX2_settle_53 : decode cX2_settle 53 = .ok (.goto (-51), 3) := by decide +kernel
theorem dX2_settle_56 : decode cX2_settle 56 = .ok (.return_, 1) := by decide +kernel
theorem dX2_charge_0 : decode cX2_charge 0 = .ok (.iconst 0, 1) := by decide +kernel
theorem dX2_charge_1 : decode cX2_charge 1 = .ok (.istore_n 1, 1) := by decide +kernel
theorem dX2_charge_2 : decode cX2_charge 2 = .ok (.iload_n 1, 1) := by decide +kernel
theorem dX2_charge_3 : decode cX2_charge 3 = .ok (.aload_n 0, 1) := by decide +kernel
theorem dX2_charge_4 : decode cX2_charge 4 = .ok (.getfield 42, 3) := by decide +kernel
theorem dX2_charge_7 : decode cX2_charge 7 = .ok (.if_icmp .ge 54, 3) := by decide +kernel
theorem dX2_charge_10 : decode cX2_charge 10 = .ok (.aload_n 0, 1) := by decide +kernel
theorem dX2_charge_11 : decode cX2_charge 11 = .ok (.getfield 33, 3) := by decide +kernel
theorem dX2_charge_14 : decode cX2_charge 14 = .ok (.iload_n 1, 1) := by decide +kernel
theorem dX2_charge_15 : decode cX2_charge 15 = .ok (.aaload, 1) := by decide +kernel
theorem dX2_charge_16 : decode cX2_charge 16 = .ok (.astore_n 2, 1) := by decide +kernel
theorem dX2_charge_17 : decode cX2_charge 17 = .ok (.aload_n 2, 1) := by decide +kernel
theorem dX2_charge_18 : decode cX2_charge 18 = .ok (.getfield 71, 3) := by decide +kernel
theorem dX2_charge_21 : decode cX2_charge 21 = .ok (.iconst 1, 1) := by decide +kernel
theorem dX2_charge_22 : decode cX2_charge 22 = .ok (.if_icmp .ne 33, 3) := by decide +kernel
theorem dX2_charge_25 : decode cX2_charge 25 = .ok (.iconst 0, 1) := by decide +kernel
theorem dX2_charge_26 : decode cX2_charge 26 = .ok (.istore_n 3, 1) := by decide +kernel
theorem dX2_charge_27 : decode cX2_charge 27 = .ok (.iload_n 3, 1) := by decide +kernel
theorem dX2_charge_28 : decode cX2_charge 28 = .ok (.aload_n 2, 1) := by decide +kernel
theorem dX2_charge_29 : decode cX2_charge 29 = .ok (.getfield 110, 3) := by decide +kernel
theorem dX2_charge_32 : decode cX2_charge 32 = .ok (.if_icmp .ge 23, 3) := by decide +kernel
theorem dX2_charge_35 : decode cX2_charge 35 = .ok (.aload_n 0, 1) := by decide +kernel
theorem dX2_charge_36 : decode cX2_charge 36 = .ok (.getfield 18, 3) := by decide +kernel
theorem dX2_charge_39 : decode cX2_charge 39 = .ok (.aload_n 2, 1) := by decide +kernel
theorem dX2_charge_40 : decode cX2_charge 40 = .ok (.iload_n 3, 1) := by decide +kernel
theorem dX2_charge_41 : decode cX2_charge 41 = .ok (.invokevirtual 210, 3) := by decide +kernel
theorem dX2_charge_44 : decode cX2_charge 44 = .ok (.dup2, 1) := by decide +kernel
theorem dX2_charge_45 : decode cX2_charge 45 = .ok (.iaload, 1) := by decide +kernel
theorem dX2_charge_46 : decode cX2_charge 46 = .ok (.iconst 1, 1) := by decide +kernel
theorem dX2_charge_47 : decode cX2_charge 47 = .ok (.iadd, 1) := by decide +kernel
theorem dX2_charge_48 : decode cX2_charge 48 = .ok (.iastore, 1) := by decide +kernel
theorem dX2_charge_49 : decode cX2_charge 49 = .ok (.iinc 3 1, 3) := by decide +kernel
theorem dX2_charge_52 : decode cX2_charge 52 = .ok (.goto (-25), 3) := by decide +kernel
theorem dX2_charge_55 : decode cX2_charge 55 = .ok (.iinc 1 1, 3) := by decide +kernel
theorem dX2_charge_58 : decode cX2_charge 58 = .ok (.goto (-56), 3) := by decide +kernel
theorem dX2_charge_61 : decode cX2_charge 61 = .ok (.return_, 1) := by decide +kernel
theorem dX2_addBack_0 : decode cX2_addBack 0 = .ok (.iconst 0, 1) := by decide +kernel
theorem dX2_addBack_1 : decode cX2_addBack 1 = .ok (.istore_n 3, 1) := by decide +kernel
theorem dX2_addBack_2 : decode cX2_addBack 2 = .ok (.iload_n 3, 1) := by decide +kernel
theorem dX2_addBack_3 : decode cX2_addBack 3 = .ok (.aload_n 0, 1) := by decide +kernel
theorem dX2_addBack_4 : decode cX2_addBack 4 = .ok (.getfield 51, 3) := by decide +kernel
theorem dX2_addBack_7 : decode cX2_addBack 7 = .ok (.if_icmp .ge 30, 3) := by decide +kernel
theorem dX2_addBack_10 : decode cX2_addBack 10 = .ok (.aload_n 0, 1) := by decide +kernel
theorem dX2_addBack_11 : decode cX2_addBack 11 = .ok (.getfield 21, 3) := by decide +kernel
theorem dX2_addBack_14 : decode cX2_addBack 14 = .ok (.iload_n 3, 1) := by decide +kernel
theorem dX2_addBack_15 : decode cX2_addBack 15 = .ok (.iaload, 1) := by decide +kernel
theorem dX2_addBack_16 : decode cX2_addBack 16 = .ok (.iload_n 1, 1) := by decide +kernel
theorem dX2_addBack_17 : decode cX2_addBack 17 = .ok (.if_icmp .ne 14, 3) := by decide +kernel
theorem dX2_addBack_20 : decode cX2_addBack 20 = .ok (.aload_n 0, 1) := by decide +kernel
theorem dX2_addBack_21 : decode cX2_addBack 21 = .ok (.getfield 24, 3) := by decide +kernel
theorem dX2_addBack_24 : decode cX2_addBack 24 = .ok (.iload_n 3, 1) := by decide +kernel
theorem dX2_addBack_25 : decode cX2_addBack 25 = .ok (.iaload, 1) := by decide +kernel
theorem dX2_addBack_26 : decode cX2_addBack 26 = .ok (.iload_n 2, 1) := by decide +kernel
theorem dX2_addBack_27 : decode cX2_addBack 27 = .ok (.if_icmp .ne 4, 3) := by decide +kernel
theorem dX2_addBack_30 : decode cX2_addBack 30 = .ok (.return_, 1) := by decide +kernel
theorem dX2_addBack_31 : decode cX2_addBack 31 = .ok (.iinc 3 1, 3) := by decide +kernel
theorem dX2_addBack_34 : decode cX2_addBack 34 = .ok (.goto (-32), 3) := by decide +kernel
theorem dX2_addBack_37 : decode cX2_addBack 37 = .ok (.aload_n 0, 1) := by decide +kernel
theorem dX2_addBack_38 : decode cX2_addBack 38 = .ok (.getfield 51, 3) := by decide +kernel
theorem dX2_addBack_41 : decode cX2_addBack 41 = .ok (.bipush 8, 2) := by decide +kernel
theorem dX2_addBack_43 : decode cX2_addBack 43 = .ok (.if_icmp .ge 33, 3) := by decide +kernel
theorem dX2_addBack_46 : decode cX2_addBack 46 = .ok (.aload_n 0, 1) := by decide +kernel
theorem dX2_addBack_47 : decode cX2_addBack 47 = .ok (.getfield 21, 3) := by decide +kernel
theorem dX2_addBack_50 : decode cX2_addBack 50 = .ok (.aload_n 0, 1) := by decide +kernel
theorem dX2_addBack_51 : decode cX2_addBack 51 = .ok (.getfield 51, 3) := by decide +kernel
theorem dX2_addBack_54 : decode cX2_addBack 54 = .ok (.iload_n 1, 1) := by decide +kernel
theorem dX2_addBack_55 : decode cX2_addBack 55 = .ok (.iastore, 1) := by decide +kernel
theorem dX2_addBack_56 : decode cX2_addBack 56 = .ok (.aload_n 0, 1) := by decide +kernel
theorem dX2_addBack_57 : decode cX2_addBack 57 = .ok (.getfield 24, 3) := by decide +kernel
theorem dX2_addBack_60 : decode cX2_addBack 60 = .ok (.aload_n 0, 1) := by decide +kernel
theorem dX2_addBack_61 : decode cX2_addBack 61 = .ok (.getfield 51, 3) := by decide +kernel
theorem dX2_addBack_64 : decode cX2_addBack 64 = .ok (.iload_n 2, 1) := by decide +kernel
theorem dX2_addBack_65 : decode cX2_addBack 65 = .ok (.iastore, 1) := by decide +kernel
theorem dX2_addBack_66 : decode cX2_addBack 66 = .ok (.aload_n 0, 1) := by decide +kernel
theorem dX2_addBack_67 : decode cX2_addBack 67 = .ok (.dup, 1) := by decide +kernel
theorem dX2_addBack_68 : decode cX2_addBack 68 = .ok (.getfield 51, 3) := by decide +kernel
theorem dX2_addBack_71 : decode cX2_addBack 71 = .ok (.iconst 1, 1) := by decide +kernel
theorem dX2_addBack_72 : decode cX2_addBack 72 = .ok (.iadd, 1) := by decide +kernel
theorem dX2_addBack_73 : decode cX2_addBack 73 = .ok (.putfield 51, 3) := by decide +kernel
theorem dX2_addBack_76 : decode cX2_addBack 76 = .ok (.return_, 1) := by decide +kernel
theorem dX2_dropBack_0 : decode cX2_dropBack 0 = .ok (.iload_n 1, 1) := by decide +kernel
theorem dX2_dropBack_1 : decode cX2_dropBack 1 = .ok (.iconst 1, 1) := by decide +kernel
theorem dX2_dropBack_2 : decode cX2_dropBack 2 = .ok (.iadd, 1) := by decide +kernel
theorem dX2_dropBack_3 : decode cX2_dropBack 3 = .ok (.istore_n 2, 1) := by decide +kernel
theorem dX2_dropBack_4 : decode cX2_dropBack 4 = .ok (.iload_n 2, 1) := by decide +kernel
theorem dX2_dropBack_5 : decode cX2_dropBack 5 = .ok (.aload_n 0, 1) := by decide +kernel
theorem dX2_dropBack_6 : decode cX2_dropBack 6 = .ok (.getfield 51, 3) := by decide +kernel
theorem dX2_dropBack_9 : decode cX2_dropBack 9 = .ok (.if_icmp .ge 37, 3) := by decide +kernel
theorem dX2_dropBack_12 : decode cX2_dropBack 12 = .ok (.aload_n 0, 1) := by decide +kernel
theorem dX2_dropBack_13 : decode cX2_dropBack 13 = .ok (.getfield 21, 3) := by decide +kernel
theorem dX2_dropBack_16 : decode cX2_dropBack 16 = .ok (.iload_n 2, 1) := by decide +kernel
theorem dX2_dropBack_17 : decode cX2_dropBack 17 = .ok (.iconst 1, 1) := by decide +kernel
theorem dX2_dropBack_18 : decode cX2_dropBack 18 = .ok (.isub, 1) := by decide +kernel
theorem dX2_dropBack_19 : decode cX2_dropBack 19 = .ok (.aload_n 0, 1) := by decide +kernel
theorem dX2_dropBack_20 : decode cX2_dropBack 20 = .ok (.getfield 21, 3) := by decide +kernel
theorem dX2_dropBack_23 : decode cX2_dropBack 23 = .ok (.iload_n 2, 1) := by decide +kernel
theorem dX2_dropBack_24 : decode cX2_dropBack 24 = .ok (.iaload, 1) := by decide +kernel
theorem dX2_dropBack_25 : decode cX2_dropBack 25 = .ok (.iastore, 1) := by decide +kernel
theorem dX2_dropBack_26 : decode cX2_dropBack 26 = .ok (.aload_n 0, 1) := by decide +kernel
theorem dX2_dropBack_27 : decode cX2_dropBack 27 = .ok (.getfield 24, 3) := by decide +kernel
theorem dX2_dropBack_30 : decode cX2_dropBack 30 = .ok (.iload_n 2, 1) := by decide +kernel
theorem dX2_dropBack_31 : decode cX2_dropBack 31 = .ok (.iconst 1, 1) := by decide +kernel
theorem dX2_dropBack_32 : decode cX2_dropBack 32 = .ok (.isub, 1) := by decide +kernel
theorem dX2_dropBack_33 : decode cX2_dropBack 33 = .ok (.aload_n 0, 1) := by decide +kernel
theorem dX2_dropBack_34 : decode cX2_dropBack 34 = .ok (.getfield 24, 3) := by decide +kernel
theorem dX2_dropBack_37 : decode cX2_dropBack 37 = .ok (.iload_n 2, 1) := by decide +kernel
theorem dX2_dropBack_38 : decode cX2_dropBack 38 = .ok (.iaload, 1) := by decide +kernel
theorem dX2_dropBack_39 : decode cX2_dropBack 39 = .ok (.iastore, 1) := by decide +kernel
theorem dX2_dropBack_40 : decode cX2_dropBack 40 = .ok (.iinc 2 1, 3) := by decide +kernel
theorem dX2_dropBack_43 : decode cX2_dropBack 43 = .ok (.goto (-39), 3) := by decide +kernel
theorem dX2_dropBack_46 : decode cX2_dropBack 46 = .ok (.aload_n 0, 1) := by decide +kernel
theorem dX2_dropBack_47 : decode cX2_dropBack 47 = .ok (.dup, 1) := by decide +kernel
theorem dX2_dropBack_48 : decode cX2_dropBack 48 = .ok (.getfield 51, 3) := by decide +kernel
theorem dX2_dropBack_51 : decode cX2_dropBack 51 = .ok (.iconst 1, 1) := by decide +kernel
theorem dX2_dropBack_52 : decode cX2_dropBack 52 = .ok (.isub, 1) := by decide +kernel
theorem dX2_dropBack_53 : decode cX2_dropBack 53 = .ok (.putfield 51, 3) := by decide +kernel
theorem dX2_dropBack_56 : decode cX2_dropBack 56 = .ok (.return_, 1) := by decide +kernel
theorem dX3_init_0 : decode cX3_init 0 = .ok (.aload_n 0, 1) := by decide +kernel
theorem dX3_init_1 : decode cX3_init 1 = .ok (.invokespecial 3, 3) := by decide +kernel
theorem dX3_init_4 : decode cX3_init 4 = .ok (.aload_n 0, 1) := by decide +kernel
theorem dX3_init_5 : decode cX3_init 5 = .ok (.new 9, 3) := by decide +kernel
theorem dX3_init_8 : decode cX3_init 8 = .ok (.dup, 1) := by decide +kernel
theorem dX3_init_9 : decode cX3_init 9 = .ok (.invokespecial 11, 3) := by decide +kernel
theorem dX3_init_12 : decode cX3_init 12 = .ok (.putfield 12, 3) := by decide +kernel
theorem dX3_init_15 : decode cX3_init 15 = .ok (.aload_n 0, 1) := by decide +kernel
theorem dX3_init_16 : decode cX3_init 16 = .ok (.iconst 4, 1) := by decide +kernel
theorem dX3_init_17 : decode cX3_init 17 = .ok (.anewarray 18, 3) := by decide +kernel
theorem dX3_init_20 : decode cX3_init 20 = .ok (.putfield 20, 3) := by decide +kernel
theorem dX3_init_23 : decode cX3_init 23 = .ok (.aload_n 0, 1) := by decide +kernel
theorem dX3_init_24 : decode cX3_init 24 = .ok (.bipush 13, 2) := by decide +kernel
theorem dX3_init_26 : decode cX3_init 26 = .ok (.newarray .int, 2) := by decide +kernel
theorem dX3_init_28 : decode cX3_init 28 = .ok (.putfield 24, 3) := by decide +kernel
theorem dX3_init_31 : decode cX3_init 31 = .ok (.aload_n 0, 1) := by decide +kernel
theorem dX3_init_32 : decode cX3_init 32 = .ok (.iconst 3, 1) := by decide +kernel
theorem dX3_init_33 : decode cX3_init 33 = .ok (.newarray .int, 2) := by decide +kernel
theorem dX3_init_35 : decode cX3_init 35 = .ok (.putfield 28, 3) := by decide +kernel
theorem dX3_init_38 : decode cX3_init 38 = .ok (.iconst 0, 1) := by decide +kernel
theorem dX3_init_39 : decode cX3_init 39 = .ok (.istore_n 1, 1) := by decide +kernel
theorem dX3_init_40 : decode cX3_init 40 = .ok (.iload_n 1, 1) := by decide +kernel
theorem dX3_init_41 : decode cX3_init 41 = .ok (.iconst 3, 1) := by decide +kernel
theorem dX3_init_42 : decode cX3_init 42 = .ok (.if_icmp .gt 28, 3) := by decide +kernel
theorem dX3_init_45 : decode cX3_init 45 = .ok (.aload_n 0, 1) := by decide +kernel
theorem dX3_init_46 : decode cX3_init 46 = .ok (.getfield 20, 3) := by decide +kernel
theorem dX3_init_49 : decode cX3_init 49 = .ok (.iload_n 1, 1) := by decide +kernel
theorem dX3_init_50 : decode cX3_init 50 = .ok (.new 18, 3) := by decide +kernel
theorem dX3_init_53 : decode cX3_init 53 = .ok (.dup, 1) := by decide +kernel
theorem dX3_init_54 : decode cX3_init 54 = .ok (.aload_n 0, 1) := by decide +kernel
theorem dX3_init_55 : decode cX3_init 55 = .ok (.getfield 12, 3) := by decide +kernel
theorem dX3_init_58 : decode cX3_init 58 = .ok (.bipush 8, 2) := by decide +kernel
theorem dX3_init_60 : decode cX3_init 60 = .ok (.invokespecial 31, 3) := by decide +kernel
theorem dX3_init_63 : decode cX3_init 63 = .ok (.aastore, 1) := by decide +kernel
theorem dX3_init_64 : decode cX3_init 64 = .ok (.iinc 1 1, 3) := by decide +kernel
theorem dX3_init_67 : decode cX3_init 67 = .ok (.goto (-27), 3) := by decide +kernel
theorem dX3_init_70 : decode cX3_init 70 = .ok (.return_, 1) := by decide +kernel
theorem dX3_open_0 : decode cX3_open 0 = .ok (.aload_n 0, 1) := by decide +kernel
theorem dX3_open_1 : decode cX3_open 1 = .ok (.getfield 12, 3) := by decide +kernel
theorem dX3_open_4 : decode cX3_open 4 = .ok (.aload_n 1, 1) := by decide +kernel
theorem dX3_open_5 : decode cX3_open 5 = .ok (.getfield 34, 3) := by decide +kernel
theorem dX3_open_8 : decode cX3_open 8 = .ok (.invokevirtual 35, 3) := by decide +kernel
theorem dX3_open_11 : decode cX3_open 11 = .ok (.aload_n 0, 1) := by decide +kernel
theorem dX3_open_12 : decode cX3_open 12 = .ok (.getfield 20, 3) := by decide +kernel
theorem dX3_open_15 : decode cX3_open 15 = .ok (.iconst 0, 1) := by decide +kernel
theorem dX3_open_16 : decode cX3_open 16 = .ok (.aaload, 1) := by decide +kernel
theorem dX3_open_17 : decode cX3_open 17 = .ok (.aload_n 1, 1) := by decide +kernel
theorem dX3_open_18 : decode cX3_open 18 = .ok (.getfield 39, 3) := by decide +kernel
theorem dX3_open_21 : decode cX3_open 21 = .ok (.putfield 39, 3) := by decide +kernel
theorem dX3_open_24 : decode cX3_open 24 = .ok (.aload_n 0, 1) := by decide +kernel
theorem dX3_open_25 : decode cX3_open 25 = .ok (.iload_n 2, 1) := by decide +kernel
theorem dX3_open_26 : decode cX3_open 26 = .ok (.putfield 43, 3) := by decide +kernel
theorem dX3_open_29 : decode cX3_open 29 = .ok (.aload_n 0, 1) := by decide +kernel
theorem dX3_open_30 : decode cX3_open 30 = .ok (.iload_n 3, 1) := by decide +kernel
theorem dX3_open_31 : decode cX3_open 31 = .ok (.putfield 46, 3) := by decide +kernel
theorem dX3_open_34 : decode cX3_open 34 = .ok (.aload_n 0, 1) := by decide +kernel
theorem dX3_open_35 : decode cX3_open 35 = .ok (.iload 4, 2) := by decide +kernel
theorem dX3_open_37 : decode cX3_open 37 = .ok (.putfield 49, 3) := by decide +kernel
theorem dX3_open_40 : decode cX3_open 40 = .ok (.aload_n 0, 1) := by decide +kernel
theorem dX3_open_41 : decode cX3_open 41 = .ok (.iconst 0, 1) := by decide +kernel
theorem dX3_open_42 : decode cX3_open 42 = .ok (.putfield 52, 3) := by decide +kernel
theorem dX3_open_45 : decode cX3_open 45 = .ok (.iconst 0, 1) := by decide +kernel
theorem dX3_open_46 : decode cX3_open 46 = .ok (.istore 6, 2) := by decide +kernel
theorem dX3_open_48 : decode cX3_open 48 = .ok (.iload 6, 2) := by decide +kernel
theorem dX3_open_50 : decode cX3_open 50 = .ok (.bipush 8, 2) := by decide +kernel
theorem dX3_open_52 : decode cX3_open 52 = .ok (.if_icmp .ge 68, 3) := by decide +kernel
theorem dX3_open_55 : decode cX3_open 55 = .ok (.iconst 0, 1) := by decide +kernel
theorem dX3_open_56 : decode cX3_open 56 = .ok (.istore 7, 2) := by decide +kernel
theorem dX3_open_58 : decode cX3_open 58 = .ok (.iload 7, 2) := by decide +kernel
theorem dX3_open_60 : decode cX3_open 60 = .ok (.bipush 8, 2) := by decide +kernel
theorem dX3_open_62 : decode cX3_open 62 = .ok (.if_icmp .ge 52, 3) := by decide +kernel
theorem dX3_open_65 : decode cX3_open 65 = .ok (.iload 6, 2) := by decide +kernel
theorem dX3_open_67 : decode cX3_open 67 = .ok (.iload 7, 2) := by decide +kernel
theorem dX3_open_69 : decode cX3_open 69 = .ok (.if_icmp .eq 39, 3) := by decide +kernel
theorem dX3_open_72 : decode cX3_open 72 = .ok (.iload 5, 2) := by decide +kernel
theorem dX3_open_74 : decode cX3_open 74 = .ok (.iload 6, 2) := by decide +kernel
theorem dX3_open_76 : decode cX3_open 76 = .ok (.ishr, 1) := by decide +kernel
theorem dX3_open_77 : decode cX3_open 77 = .ok (.iconst 1, 1) := by decide +kernel
theorem dX3_open_78 : decode cX3_open 78 = .ok (.iand, 1) := by decide +kernel
theorem dX3_open_79 : decode cX3_open 79 = .ok (.ifCond .eq 29, 3) := by decide +kernel
theorem dX3_open_82 : decode cX3_open 82 = .ok (.iload 5, 2) := by decide +kernel
theorem dX3_open_84 : decode cX3_open 84 = .ok (.iload 7, 2) := by decide +kernel
theorem dX3_open_86 : decode cX3_open 86 = .ok (.ishr, 1) := by decide +kernel
theorem dX3_open_87 : decode cX3_open 87 = .ok (.iconst 1, 1) := by decide +kernel
theorem dX3_open_88 : decode cX3_open 88 = .ok (.iand, 1) := by decide +kernel
theorem dX3_open_89 : decode cX3_open 89 = .ok (.ifCond .eq 19, 3) := by decide +kernel
theorem dX3_open_92 : decode cX3_open 92 = .ok (.aload_n 0, 1) := by decide +kernel
theorem dX3_open_93 : decode cX3_open 93 = .ok (.sipush 1000, 3) := by decide +kernel
theorem dX3_open_96 : decode cX3_open 96 = .ok (.bipush 10, 2) := by decide +kernel
theorem dX3_open_98 : decode cX3_open 98 = .ok (.iload 6, 2) := by decide +kernel
theorem dX3_open_100 : decode cX3_open 100 = .ok (.imul, 1) := by decide +kernel
theorem dX3_open_101 : decode cX3_open 101 = .ok (.iadd, 1) := by decide +kernel
theorem dX3_open_102 : decode cX3_open 102 = .ok (.iload 7, 2) := by decide +kernel
theorem dX3_open_104 : decode cX3_open 104 = .ok (.iadd, 1) := by decide +kernel
theorem dX3_open_105 : decode cX3_open 105 = .ok (.invokevirtual 55, 3) := by decide +kernel
theorem dX3_open_108 : decode cX3_open 108 = .ok (.iinc 7 1, 3) := by decide +kernel
theorem dX3_open_111 : decode cX3_open 111 = .ok (.goto (-53), 3) := by decide +kernel
theorem dX3_open_114 : decode cX3_open 114 = .ok (.iinc 6 1, 3) := by decide +kernel
theorem dX3_open_117 : decode cX3_open 117 = .ok (.goto (-69), 3) := by decide +kernel
theorem dX3_open_120 : decode cX3_open 120 = .ok (.aload_n 0, 1) := by decide +kernel
theorem dX3_open_121 : decode cX3_open 121 = .ok (.sipush 2000, 3) := by decide +kernel
theorem dX3_open_124 : decode cX3_open 124 = .ok (.iload 5, 2) := by decide +kernel
theorem dX3_open_126 : decode cX3_open 126 = .ok (.invokevirtual 59, 3) := by decide +kernel
theorem dX3_open_129 : decode cX3_open 129 = .ok (.aload_n 0, 1) := by decide +kernel
theorem dX3_open_130 : decode cX3_open 130 = .ok (.sipush 3000, 3) := by decide +kernel
theorem dX3_open_133 : decode cX3_open 133 = .ok (.iload 5, 2) := by decide +kernel
theorem dX3_open_135 : decode cX3_open 135 = .ok (.invokevirtual 59, 3) := by decide +kernel
theorem dX3_open_138 : decode cX3_open 138 = .ok (.aload_n 0, 1) := by decide +kernel
theorem dX3_open_139 : decode cX3_open 139 = .ok (.sipush 4000, 3) := by decide +kernel
theorem dX3_open_142 : decode cX3_open 142 = .ok (.invokevirtual 55, 3) := by decide +kernel
theorem dX3_open_145 : decode cX3_open 145 = .ok (.return_, 1) := by decide +kernel
theorem dX3_listOfEach_0 : decode cX3_listOfEach 0 = .ok (.iconst 0, 1) := by decide +kernel
theorem dX3_listOfEach_1 : decode cX3_listOfEach 1 = .ok (.istore_n 3, 1) := by decide +kernel
theorem dX3_listOfEach_2 : decode cX3_listOfEach 2 = .ok (.iload_n 3, 1) := by decide +kernel
theorem dX3_listOfEach_3 : decode cX3_listOfEach 3 = .ok (.bipush 8, 2) := by decide +kernel
theorem dX3_listOfEach_5 : decode cX3_listOfEach 5 = .ok (.if_icmp .ge 27, 3) := by decide +kernel
theorem dX3_listOfEach_8 : decode cX3_listOfEach 8 = .ok (.iload_n 2, 1) := by decide +kernel
theorem dX3_listOfEach_9 : decode cX3_listOfEach 9 = .ok (.iload_n 3, 1) := by decide +kernel
theorem dX3_listOfEach_10 : decode cX3_listOfEach 10 = .ok (.ishr, 1) := by decide +kernel
theorem dX3_listOfEach_11 : decode cX3_listOfEach 11 = .ok (.iconst 1, 1) := by decide +kernel
theorem dX3_listOfEach_12 : decode cX3_listOfEach 12 = .ok (.iand, 1) := by decide +kernel
theorem dX3_listOfEach_13 : decode cX3_listOfEach 13 = .ok (.ifCond .eq 13, 3) := by decide +kernel
theorem dX3_listOfEach_16 : decode cX3_listOfEach 16 = .ok (.aload_n 0, 1) := by decide +kernel
theorem dX3_listOfEach_17 : decode cX3_listOfEach 17 = .ok (.iload_n 1, 1) := by decide +kernel
theorem dX3_listOfEach_18 : decode cX3_listOfEach 18 = .ok (.bipush 10, 2) := by decide +kernel
theorem dX3_listOfEach_20 : decode cX3_listOfEach 20 = .ok (.iload_n 3, 1) := by decide +kernel
theorem dX3_listOfEach_21 : decode cX3_listOfEach 21 = .ok (.imul, 1) := by decide +kernel
theorem dX3_listOfEach_22 : decode cX3_listOfEach 22 = .ok (.iadd, 1) := by decide +kernel
theorem dX3_listOfEach_23 : decode cX3_listOfEach 23 = .ok (.invokevirtual 55, 3) := by decide +kernel
theorem dX3_listOfEach_26 : decode cX3_listOfEach 26 = .ok (.iinc 3 1, 3) := by decide +kernel
theorem dX3_listOfEach_29 : decode cX3_listOfEach 29 = .ok (.goto (-27), 3) := by decide +kernel
theorem dX3_listOfEach_32 : decode cX3_listOfEach 32 = .ok (.return_, 1) := by decide +kernel
theorem dX3_list_0 : decode cX3_list 0 = .ok (.aload_n 0, 1) := by decide +kernel
theorem dX3_list_1 : decode cX3_list 1 = .ok (.getfield 52, 3) := by decide +kernel
theorem dX3_list_4 : decode cX3_list 4 = .ok (.bipush 13, 2) := by decide +kernel
theorem dX3_list_6 : decode cX3_list 6 = .ok (.if_icmp .ge 23, 3) := by decide +kernel
theorem dX3_list_9 : decode cX3_list 9 = .ok (.aload_n 0, 1) := by decide +kernel
theorem dX3_list_10 : decode cX3_list 10 = .ok (.getfield 24, 3) := by decide +kernel
theorem dX3_list_13 : decode cX3_list 13 = .ok (.aload_n 0, 1) := by decide +kernel
theorem dX3_list_14 : decode cX3_list 14 = .ok (.getfield 52, 3) := by decide +kernel
theorem dX3_list_17 : decode cX3_list 17 = .ok (.iload_n 1, 1) := by decide +kernel
theorem dX3_list_18 : decode cX3_list 18 = .ok (.iastore, 1) := by decide +kernel
theorem dX3_list_19 : decode cX3_list 19 = .ok (.aload_n 0, 1) := by decide +kernel
theorem dX3_list_20 : decode cX3_list 20 = .ok (.dup, 1) := by decide +kernel
theorem dX3_list_21 : decode cX3_list 21 = .ok (.getfield 52, 3) := by decide +kernel
theorem dX3_list_24 : decode cX3_list 24 = .ok (.iconst 1, 1) := by decide +kernel
theorem dX3_list_25 : decode cX3_list 25 = .ok (.iadd, 1) := by decide +kernel
theorem dX3_list_26 : decode cX3_list 26 = .ok (.putfield 52, 3) := by decide +kernel
theorem dX3_list_29 : decode cX3_list 29 = .ok (.return_, 1) := by decide +kernel
theorem dX3_find_0 : decode cX3_find 0 = .ok (.iconst 1, 1) := by decide +kernel
theorem dX3_find_1 : decode cX3_find 1 = .ok (.istore_n 2, 1) := by decide +kernel
theorem dX3_find_2 : decode cX3_find 2 = .ok (.iload_n 2, 1) := by decide +kernel
theorem dX3_find_3 : decode cX3_find 3 = .ok (.iload_n 1, 1) := by decide +kernel
theorem dX3_find_4 : decode cX3_find 4 = .ok (.if_icmp .gt 20, 3) := by decide +kernel
theorem dX3_find_7 : decode cX3_find 7 = .ok (.aload_n 0, 1) := by decide +kernel
theorem dX3_find_8 : decode cX3_find 8 = .ok (.iconst 0, 1) := by decide +kernel
theorem dX3_find_9 : decode cX3_find 9 = .ok (.iload_n 2, 1) := by decide +kernel
theorem dX3_find_10 : decode cX3_find 10 = .ok (.invokevirtual 63, 3) := by decide +kernel
theorem dX3_find_13 : decode cX3_find 13 = .ok (.ifCond .eq 5, 3) := by decide +kernel
theorem dX3_find_16 : decode cX3_find 16 = .ok (.iload_n 2, 1) := by decide +kernel
theorem dX3_find_17 : decode cX3_find 17 = .ok (.ireturn, 1) := by decide +kernel
theorem dX3_find_18 : decode cX3_find 18 = .ok (.iinc 2 1, 3) := by decide +kernel
theorem dX3_find_21 : decode cX3_find 21 = .ok (.goto (-19), 3) := by decide +kernel
theorem dX3_find_24 : decode cX3_find 24 = .ok (.iconst 0, 1) := by decide +kernel
theorem dX3_find_25 : decode cX3_find 25 = .ok (.ireturn, 1) := by decide +kernel
theorem dX3_search_0 : decode cX3_search 0 = .ok (.iload_n 1, 1) := by decide +kernel
theorem dX3_search_1 : decode cX3_search 1 = .ok (.iload_n 2, 1) := by decide +kernel
theorem dX3_search_2 : decode cX3_search 2 = .ok (.if_icmp .ge 8, 3) := by decide +kernel
theorem dX3_search_5 : decode cX3_search 5 = .ok (.iload_n 1, 1) := by decide +kernel
theorem dX3_search_6 : decode cX3_search 6 = .ok (.iconst 3, 1) := by decide +kernel
theorem dX3_search_7 : decode cX3_search 7 = .ok (.if_icmp .lt 5, 3) := by decide +kernel
theorem dX3_search_10 : decode cX3_search 10 = .ok (.iconst 0, 1) := by decide +kernel
theorem dX3_search_11 : decode cX3_search 11 = .ok (.ireturn, 1) := by decide +kernel
theorem dX3_search_12 : decode cX3_search 12 = .ok (.aload_n 0, 1) := by decide +kernel
theorem dX3_search_13 : decode cX3_search 13 = .ok (.getfield 20, 3) := by decide +kernel
theorem dX3_search_16 : decode cX3_search 16 = .ok (.iload_n 1, 1) := by decide +kernel
theorem dX3_search_17 : decode cX3_search 17 = .ok (.aaload, 1) := by decide +kernel
theorem dX3_search_18 : decode cX3_search 18 = .ok (.astore_n 3, 1) := by decide +kernel
theorem dX3_search_19 : decode cX3_search 19 = .ok (.aload_n 0, 1) := by decide +kernel
theorem dX3_search_20 : decode cX3_search 20 = .ok (.getfield 20, 3) := by decide +kernel
theorem dX3_search_23 : decode cX3_search 23 = .ok (.iload_n 1, 1) := by decide +kernel
theorem dX3_search_24 : decode cX3_search 24 = .ok (.iconst 1, 1) := by decide +kernel
theorem dX3_search_25 : decode cX3_search 25 = .ok (.iadd, 1) := by decide +kernel
theorem dX3_search_26 : decode cX3_search 26 = .ok (.aaload, 1) := by decide +kernel
theorem dX3_search_27 : decode cX3_search 27 = .ok (.astore 4, 2) := by decide +kernel
theorem dX3_search_29 : decode cX3_search 29 = .ok (.iconst 0, 1) := by decide +kernel
theorem dX3_search_30 : decode cX3_search 30 = .ok (.istore 5, 2) := by decide +kernel
theorem dX3_search_32 : decode cX3_search 32 = .ok (.iload 5, 2) := by decide +kernel
theorem dX3_search_34 : decode cX3_search 34 = .ok (.aload_n 0, 1) := by decide +kernel
theorem dX3_search_35 : decode cX3_search 35 = .ok (.getfield 52, 3) := by decide +kernel
theorem dX3_search_38 : decode cX3_search 38 = .ok (.if_icmp .ge 92, 3) := by decide +kernel
theorem dX3_search_41 : decode cX3_search 41 = .ok (.aload_n 0, 1) := by decide +kernel
theorem dX3_search_42 : decode cX3_search 42 = .ok (.getfield 24, 3) := by decide +kernel
theorem dX3_search_45 : decode cX3_search 45 = .ok (.iload 5, 2) := by decide +kernel
theorem dX3_search_47 : decode cX3_search 47 = .ok (.iaload, 1) := by decide +kernel
theorem dX3_search_48 : decode cX3_search 48 = .ok (.istore 6, 2) := by decide +kernel
theorem dX3_search_50 : decode cX3_search 50 = .ok (.aload_n 3, 1) := by decide +kernel
theorem dX3_search_51 : decode cX3_search 51 = .ok (.iload 6, 2) := by decide +kernel
theorem dX3_search_53 : decode cX3_search 53 = .ok (.invokevirtual 67, 3) := by decide +kernel
theorem dX3_search_56 : decode cX3_search 56 = .ok (.ifCond .eq 68, 3) := by decide +kernel
theorem dX3_search_59 : decode cX3_search 59 = .ok (.aload_n 0, 1) := by decide +kernel
theorem dX3_search_60 : decode cX3_search 60 = .ok (.getfield 28, 3) := by decide +kernel
theorem dX3_search_63 : decode cX3_search 63 = .ok (.iload_n 1, 1) := by decide +kernel
theorem dX3_search_64 : decode cX3_search 64 = .ok (.iload 6, 2) := by decide +kernel
theorem dX3_search_66 : decode cX3_search 66 = .ok (.iastore, 1) := by decide +kernel
theorem dX3_search_67 : decode cX3_search 67 = .ok (.aload 4, 2) := by decide +kernel
theorem dX3_search_69 : decode cX3_search 69 = .ok (.aload_n 3, 1) := by decide +kernel
theorem dX3_search_70 : decode cX3_search 70 = .ok (.invokevirtual 71, 3) := by decide +kernel
theorem dX3_search_73 : decode cX3_search 73 = .ok (.aload 4, 2) := by decide +kernel
theorem dX3_search_75 : decode cX3_search 75 = .ok (.iload 6, 2) := by decide +kernel
theorem dX3_search_77 : decode cX3_search 77 = .ok (.invokevirtual 74, 3) := by decide +kernel
theorem dX3_search_80 : decode cX3_search 80 = .ok (.iload_n 1, 1) := by decide +kernel
theorem dX3_search_81 : decode cX3_search 81 = .ok (.iconst 1, 1) := by decide +kernel
theorem dX3_search_82 : decode cX3_search 82 = .ok (.iadd, 1) := by decide +kernel
theorem dX3_search_83 : decode cX3_search 83 = .ok (.iload_n 2, 1) := by decide +kernel
theorem dX3_search_84 : decode cX3_search 84 = .ok (.if_icmp .ne 23, 3) := by decide +kernel
theorem dX3_search_87 : decode cX3_search 87 = .ok (.aload 4, 2) := by decide +kernel
theorem dX3_search_89 : decode cX3_search 89 = .ok (.aload_n 0, 1) := by decide +kernel
theorem dX3_search_90 : decode cX3_search 90 = .ok (.getfield 43, 3) := by decide +kernel
theorem dX3_search_93 : decode cX3_search 93 = .ok (.aload_n 0, 1) := by decide +kernel
theorem dX3_search_94 : decode cX3_search 94 = .ok (.getfield 46, 3) := by decide +kernel
theorem dX3_search_97 : decode cX3_search 97 = .ok (.aload_n 0, 1) := by decide +kernel
theorem dX3_search_98 : decode cX3_search 98 = .ok (.getfield 49, 3) := by decide +kernel
theorem dX3_search_101 : decode cX3_search 101 = .ok (.invokevirtual 77, 3) := by decide +kernel
theorem dX3_search_104 : decode cX3_search 104 = .ok (.goto 11, 3) := by decide +kernel
theorem dX3_search_107 : decode cX3_search 107 = .ok (.aload_n 0, 1) := by decide +kernel
theorem dX3_search_108 : decode cX3_search 108 = .ok (.iload_n 1, 1) := by decide +kernel
theorem dX3_search_109 : decode cX3_search 109 = .ok (.iconst 1, 1) := by decide +kernel
theorem dX3_search_110 : decode cX3_search 110 = .ok (.iadd, 1) := by decide +kernel
theorem dX3_search_111 : decode cX3_search 111 = .ok (.iload_n 2, 1) := by decide +kernel
theorem dX3_search_112 : decode cX3_search 112 = .ok (.invokevirtual 63, 3) := by decide +kernel
theorem dX3_search_115 : decode cX3_search 115 = .ok (.istore 7, 2) := by decide +kernel
theorem dX3_search_117 : decode cX3_search 117 = .ok (.iload 7, 2) := by decide +kernel
theorem dX3_search_119 : decode cX3_search 119 = .ok (.ifCond .eq 5, 3) := by decide +kernel
theorem dX3_search_122 : decode cX3_search 122 = .ok (.iconst 1, 1) := by decide +kernel
theorem dX3_search_123 : decode cX3_search 123 = .ok (.ireturn, 1) := by decide +kernel
theorem dX3_search_124 : decode cX3_search 124 = .ok (.iinc 5 1, 3) := by decide +kernel
theorem dX3_search_127 : decode cX3_search 127 = .ok (.goto (-95), 3) := by decide +kernel
theorem dX3_search_130 : decode cX3_search 130 = .ok (.iconst 0, 1) := by decide +kernel
theorem dX3_search_131 : decode cX3_search 131 = .ok (.ireturn, 1) := by decide +kernel
theorem dX4_init_0 : decode cX4_init 0 = .ok (.aload_n 0, 1) := by decide +kernel
theorem dX4_init_1 : decode cX4_init 1 = .ok (.invokespecial 3, 3) := by decide +kernel
theorem dX4_init_4 : decode cX4_init 4 = .ok (.aload_n 0, 1) := by decide +kernel
theorem dX4_init_5 : decode cX4_init 5 = .ok (.iconst 4, 1) := by decide +kernel
theorem dX4_init_6 : decode cX4_init 6 = .ok (.newarray .int, 2) := by decide +kernel
theorem dX4_init_8 : decode cX4_init 8 = .ok (.putfield 9, 3) := by decide +kernel
theorem dX4_init_11 : decode cX4_init 11 = .ok (.aload_n 0, 1) := by decide +kernel
theorem dX4_init_12 : decode cX4_init 12 = .ok (.iconst 4, 1) := by decide +kernel
theorem dX4_init_13 : decode cX4_init 13 = .ok (.newarray .int, 2) := by decide +kernel
theorem dX4_init_15 : decode cX4_init 15 = .ok (.putfield 15, 3) := by decide +kernel
theorem dX4_init_18 : decode cX4_init 18 = .ok (.aload_n 0, 1) := by decide +kernel
theorem dX4_init_19 : decode cX4_init 19 = .ok (.sipush 160, 3) := by decide +kernel
theorem dX4_init_22 : decode cX4_init 22 = .ok (.newarray .int, 2) := by decide +kernel
theorem dX4_init_24 : decode cX4_init 24 = .ok (.putfield 18, 3) := by decide +kernel
theorem dX4_init_27 : decode cX4_init 27 = .ok (.iconst 0, 1) := by decide +kernel
theorem dX4_init_28 : decode cX4_init 28 = .ok (.istore_n 1, 1) := by decide +kernel
theorem dX4_init_29 : decode cX4_init 29 = .ok (.iload_n 1, 1) := by decide +kernel
theorem dX4_init_30 : decode cX4_init 30 = .ok (.iconst 4, 1) := by decide +kernel
theorem dX4_init_31 : decode cX4_init 31 = .ok (.if_icmp .ge 16, 3) := by decide +kernel
theorem dX4_init_34 : decode cX4_init 34 = .ok (.aload_n 0, 1) := by decide +kernel
theorem dX4_init_35 : decode cX4_init 35 = .ok (.getfield 9, 3) := by decide +kernel
theorem dX4_init_38 : decode cX4_init 38 = .ok (.iload_n 1, 1) := by decide +kernel
theorem dX4_init_39 : decode cX4_init 39 = .ok (.iconst (-1), 1) := by decide +kernel
theorem dX4_init_40 : decode cX4_init 40 = .ok (.iastore, 1) := by decide +kernel
theorem dX4_init_41 : decode cX4_init 41 = .ok (.iinc 1 1, 3) := by decide +kernel
theorem dX4_init_44 : decode cX4_init 44 = .ok (.goto (-15), 3) := by decide +kernel
theorem dX4_init_47 : decode cX4_init 47 = .ok (.return_, 1) := by decide +kernel
theorem dX4_isSheet_0 : decode cX4_isSheet 0 = .ok (.iload_n 0, 1) := by decide +kernel
theorem dX4_isSheet_1 : decode cX4_isSheet 1 = .ok (.ifCond .lt 12, 3) := by decide +kernel
theorem dX4_isSheet_4 : decode cX4_isSheet 4 = .ok (.iload_n 0, 1) := by decide +kernel
theorem dX4_isSheet_5 : decode cX4_isSheet 5 = .ok (.iconst 4, 1) := by decide +kernel
theorem dX4_isSheet_6 : decode cX4_isSheet 6 = .ok (.if_icmp .ge 7, 3) := by decide +kernel
theorem dX4_isSheet_9 : decode cX4_isSheet 9 = .ok (.iconst 1, 1) := by decide +kernel
theorem dX4_isSheet_10 : decode cX4_isSheet 10 = .ok (.goto 4, 3) := by decide +kernel
theorem dX4_isSheet_13 : decode cX4_isSheet 13 = .ok (.iconst 0, 1) := by decide +kernel
theorem dX4_isSheet_14 : decode cX4_isSheet 14 = .ok (.ireturn, 1) := by decide +kernel
theorem dX4_isSort_0 : decode cX4_isSort 0 = .ok (.iload_n 0, 1) := by decide +kernel
theorem dX4_isSort_1 : decode cX4_isSort 1 = .ok (.ifCond .lt 12, 3) := by decide +kernel
theorem dX4_isSort_4 : decode cX4_isSort 4 = .ok (.iload_n 0, 1) := by decide +kernel
theorem dX4_isSort_5 : decode cX4_isSort 5 = .ok (.iconst 2, 1) := by decide +kernel
theorem dX4_isSort_6 : decode cX4_isSort 6 = .ok (.if_icmp .gt 7, 3) := by decide +kernel
theorem dX4_isSort_9 : decode cX4_isSort 9 = .ok (.iconst 1, 1) := by decide +kernel
theorem dX4_isSort_10 : decode cX4_isSort 10 = .ok (.goto 4, 3) := by decide +kernel
theorem dX4_isSort_13 : decode cX4_isSort 13 = .ok (.iconst 0, 1) := by decide +kernel
theorem dX4_isSort_14 : decode cX4_isSort 14 = .ok (.ireturn, 1) := by decide +kernel
theorem dX4_isMissing_0 : decode cX4_isMissing 0 = .ok (.aload_n 0, 1) := by decide +kernel
theorem dX4_isMissing_1 : decode cX4_isMissing 1 = .ok (.getfield 9, 3) := by decide +kernel
theorem dX4_isMissing_4 : decode cX4_isMissing 4 = .ok (.iload_n 1, 1) := by decide +kernel
theorem dX4_isMissing_5 : decode cX4_isMissing 5 = .ok (.iaload, 1) := by decide +kernel
theorem dX4_isMissing_6 : decode cX4_isMissing 6 = .ok (.iconst (-1), 1) := by decide +kernel
theorem dX4_isMissing_7 : decode cX4_isMissing 7 = .ok (.if_icmp .ne 7, 3) := by decide +kernel
theorem dX4_isMissing_10 : decode cX4_isMissing 10 = .ok (.iconst 1, 1) := by decide +kernel
theorem dX4_isMissing_11 : decode cX4_isMissing 11 = .ok (.goto 4, 3) := by decide +kernel
theorem dX4_isMissing_14 : decode cX4_isMissing 14 = .ok (.iconst 0, 1) := by decide +kernel
theorem dX4_isMissing_15 : decode cX4_isMissing 15 = .ok (.ireturn, 1) := by decide +kernel
theorem dX4_lay_0 : decode cX4_lay 0 = .ok (.aload_n 0, 1) := by decide +kernel
theorem dX4_lay_1 : decode cX4_lay 1 = .ok (.getfield 9, 3) := by decide +kernel
theorem dX4_lay_4 : decode cX4_lay 4 = .ok (.iload_n 1, 1) := by decide +kernel
theorem dX4_lay_5 : decode cX4_lay 5 = .ok (.iload_n 2, 1) := by decide +kernel
theorem dX4_lay_6 : decode cX4_lay 6 = .ok (.iastore, 1) := by decide +kernel
theorem dX4_lay_7 : decode cX4_lay 7 = .ok (.aload_n 0, 1) := by decide +kernel
theorem dX4_lay_8 : decode cX4_lay 8 = .ok (.getfield 15, 3) := by decide +kernel
theorem dX4_lay_11 : decode cX4_lay 11 = .ok (.iload_n 1, 1) := by decide +kernel
theorem dX4_lay_12 : decode cX4_lay 12 = .ok (.iload_n 2, 1) := by decide +kernel
theorem dX4_lay_13 : decode cX4_lay 13 = .ok (.iconst (-1), 1) := by decide +kernel
theorem dX4_lay_14 : decode cX4_lay 14 = .ok (.if_icmp .ne 7, 3) := by decide +kernel
theorem dX4_lay_17 : decode cX4_lay 17 = .ok (.iconst 0, 1) := by decide +kernel
theorem dX4_lay_18 : decode cX4_lay 18 = .ok (.goto 4, 3) := by decide +kernel
theorem dX4_lay_21 : decode cX4_lay 21 = .ok (.iload_n 3, 1) := by decide +kernel
theorem dX4_lay_22 : decode cX4_lay 22 = .ok (.iastore, 1) := by decide +kernel
theorem dX4_lay_23 : decode cX4_lay 23 = .ok (.iconst 0, 1) := by decide +kernel
theorem dX4_lay_24 : decode cX4_lay 24 = .ok (.istore 4, 2) := by decide +kernel
theorem dX4_lay_26 : decode cX4_lay 26 = .ok (.iload 4, 2) := by decide +kernel
theorem dX4_lay_28 : decode cX4_lay 28 = .ok (.bipush 40, 2) := by decide +kernel
theorem dX4_lay_30 : decode cX4_lay 30 = .ok (.if_icmp .ge 22, 3) := by decide +kernel
theorem dX4_lay_33 : decode cX4_lay 33 = .ok (.aload_n 0, 1) := by decide +kernel
theorem dX4_lay_34 : decode cX4_lay 34 = .ok (.getfield 18, 3) := by decide +kernel
theorem dX4_lay_37 : decode cX4_lay 37 = .ok (.iload_n 1, 1) := by decide +kernel
theorem dX4_lay_38 : decode cX4_lay 38 = .ok (.bipush 40, 2) := by decide +kernel
theorem dX4_lay_40 : decode cX4_lay 40 = .ok (.imul, 1) := by decide +kernel
theorem dX4_lay_41 : decode cX4_lay 41 = .ok (.iload 4, 2) := by decide +kernel
theorem dX4_lay_43 : decode cX4_lay 43 = .ok (.iadd, 1) := by decide +kernel
theorem dX4_lay_44 : decode cX4_lay 44 = .ok (.iconst 0, 1) := by decide +kernel
theorem dX4_lay_45 : decode cX4_lay 45 = .ok (.iastore, 1) := by decide +kernel
theorem dX4_lay_46 : decode cX4_lay 46 = .ok (.iinc 4 1, 3) := by decide +kernel
theorem dX4_lay_49 : decode cX4_lay 49 = .ok (.goto (-23), 3) := by decide +kernel
theorem dX4_lay_52 : decode cX4_lay 52 = .ok (.return_, 1) := by decide +kernel
theorem dX4_hasPlaces_0 : decode cX4_hasPlaces 0 = .ok (.iload_n 2, 1) := by decide +kernel
theorem dX4_hasPlaces_1 : decode cX4_hasPlaces 1 = .ok (.ifCond .lt 23, 3) := by decide +kernel
theorem dX4_hasPlaces_4 : decode cX4_hasPlaces 4 = .ok (.iload_n 3, 1) := by decide +kernel
theorem dX4_hasPlaces_5 : decode cX4_hasPlaces 5 = .ok (.ifCond .lt 19, 3) := by decide +kernel
theorem dX4_hasPlaces_8 : decode cX4_hasPlaces 8 = .ok (.iload_n 2, 1) := by decide +kernel
theorem dX4_hasPlaces_9 : decode cX4_hasPlaces 9 = .ok (.aload_n 0, 1) := by decide +kernel
theorem dX4_hasPlaces_10 : decode cX4_hasPlaces 10 = .ok (.getfield 15, 3) := by decide +kernel
theorem dX4_hasPlaces_13 : decode cX4_hasPlaces 13 = .ok (.iload_n 1, 1) := by decide +kernel
theorem dX4_hasPlaces_14 : decode cX4_hasPlaces 14 = .ok (.iaload, 1) := by decide +kernel
theorem dX4_hasPlaces_15 : decode cX4_hasPlaces 15 = .ok (.iload_n 3, 1) := by decide +kernel
theorem dX4_hasPlaces_16 : decode cX4_hasPlaces 16 = .ok (.isub, 1) := by decide +kernel
theorem dX4_hasPlaces_17 : decode cX4_hasPlaces 17 = .ok (.if_icmp .gt 7, 3) := by decide +kernel
theorem dX4_hasPlaces_20 : decode cX4_hasPlaces 20 = .ok (.iconst 1, 1) := by decide +kernel
theorem dX4_hasPlaces_21 : decode cX4_hasPlaces 21 = .ok (.goto 4, 3) := by decide +kernel
theorem dX4_hasPlaces_24 : decode cX4_hasPlaces 24 = .ok (.iconst 0, 1) := by decide +kernel
theorem dX4_hasPlaces_25 : decode cX4_hasPlaces 25 = .ok (.ireturn, 1) := by decide +kernel
theorem dX4_read_0 : decode cX4_read 0 = .ok (.aload_n 0, 1) := by decide +kernel
theorem dX4_read_1 : decode cX4_read 1 = .ok (.getfield 18, 3) := by decide +kernel
theorem dX4_read_4 : decode cX4_read 4 = .ok (.iload_n 1, 1) := by decide +kernel
theorem dX4_read_5 : decode cX4_read 5 = .ok (.bipush 40, 2) := by decide +kernel
theorem dX4_read_7 : decode cX4_read 7 = .ok (.imul, 1) := by decide +kernel
theorem dX4_read_8 : decode cX4_read 8 = .ok (.iload_n 2, 1) := by decide +kernel
theorem dX4_read_9 : decode cX4_read 9 = .ok (.iadd, 1) := by decide +kernel
theorem dX4_read_10 : decode cX4_read 10 = .ok (.iaload, 1) := by decide +kernel
theorem dX4_read_11 : decode cX4_read 11 = .ok (.ireturn, 1) := by decide +kernel
theorem dX4_write_0 : decode cX4_write 0 = .ok (.aload_n 0, 1) := by decide +kernel
theorem dX4_write_1 : decode cX4_write 1 = .ok (.getfield 18, 3) := by decide +kernel
theorem dX4_write_4 : decode cX4_write 4 = .ok (.iload_n 1, 1) := by decide +kernel
theorem dX4_write_5 : decode cX4_write 5 = .ok (.bipush 40, 2) := by decide +kernel
theorem dX4_write_7 : decode cX4_write 7 = .ok (.imul, 1) := by decide +kernel
theorem dX4_write_8 : decode cX4_write 8 = .ok (.iload_n 2, 1) := by decide +kernel
theorem dX4_write_9 : decode cX4_write 9 = .ok (.iadd, 1) := by decide +kernel
theorem dX4_write_10 : decode cX4_write 10 = .ok (.aload_n 0, 1) := by decide +kernel
theorem dX4_write_11 : decode cX4_write 11 = .ok (.getfield 9, 3) := by decide +kernel
theorem dX4_write_14 : decode cX4_write 14 = .ok (.iload_n 1, 1) := by decide +kernel
theorem dX4_write_15 : decode cX4_write 15 = .ok (.iaload, 1) := by decide +kernel
theorem dX4_write_16 : decode cX4_write 16 = .ok (.ifCond .ne 8, 3) := by decide +kernel
theorem dX4_write_19 : decode cX4_write 19 = .ok (.iload_n 3, 1) := by decide +kernel
theorem dX4_write_20 : decode cX4_write 20 = .ok (.i2b, 1) := by decide +kernel
theorem dX4_write_21 : decode cX4_write 21 = .ok (.goto 4, 3) := by decide +kernel
theorem dX4_write_24 : decode cX4_write 24 = .ok (.iload_n 3, 1) := by decide +kernel
theorem dX4_write_25 : decode cX4_write 25 = .ok (.iastore, 1) := by decide +kernel
theorem dX4_write_26 : decode cX4_write 26 = .ok (.return_, 1) := by decide +kernel
theorem dX5_init_0 : decode cX5_init 0 = .ok (.aload_n 0, 1) := by decide +kernel
theorem dX5_init_1 : decode cX5_init 1 = .ok (.invokespecial 3, 3) := by decide +kernel
theorem dX5_init_4 : decode cX5_init 4 = .ok (.return_, 1) := by decide +kernel
theorem dX5_copyFrom_0 : decode cX5_copyFrom 0 = .ok (.aload_n 0, 1) := by decide +kernel
theorem dX5_copyFrom_1 : decode cX5_copyFrom 1 = .ok (.aload_n 1, 1) := by decide +kernel
theorem dX5_copyFrom_2 : decode cX5_copyFrom 2 = .ok (.getfield 9, 3) := by decide +kernel
theorem dX5_copyFrom_5 : decode cX5_copyFrom 5 = .ok (.putfield 9, 3) := by decide +kernel
theorem dX5_copyFrom_8 : decode cX5_copyFrom 8 = .ok (.aload_n 0, 1) := by decide +kernel
theorem dX5_copyFrom_9 : decode cX5_copyFrom 9 = .ok (.aload_n 1, 1) := by decide +kernel
theorem dX5_copyFrom_10 : decode cX5_copyFrom 10 = .ok (.getfield 15, 3) := by decide +kernel
theorem dX5_copyFrom_13 : decode cX5_copyFrom 13 = .ok (.putfield 15, 3) := by decide +kernel
theorem dX5_copyFrom_16 : decode cX5_copyFrom 16 = .ok (.aload_n 0, 1) := by decide +kernel
theorem dX5_copyFrom_17 : decode cX5_copyFrom 17 = .ok (.aload_n 1, 1) := by decide +kernel
theorem dX5_copyFrom_18 : decode cX5_copyFrom 18 = .ok (.getfield 18, 3) := by decide +kernel
theorem dX5_copyFrom_21 : decode cX5_copyFrom 21 = .ok (.putfield 18, 3) := by decide +kernel
theorem dX5_copyFrom_24 : decode cX5_copyFrom 24 = .ok (.aload_n 0, 1) := by decide +kernel
theorem dX5_copyFrom_25 : decode cX5_copyFrom 25 = .ok (.aload_n 1, 1) := by decide +kernel
theorem dX5_copyFrom_26 : decode cX5_copyFrom 26 = .ok (.getfield 21, 3) := by decide +kernel
theorem dX5_copyFrom_29 : decode cX5_copyFrom 29 = .ok (.putfield 21, 3) := by decide +kernel
theorem dX5_copyFrom_32 : decode cX5_copyFrom 32 = .ok (.aload_n 0, 1) := by decide +kernel
theorem dX5_copyFrom_33 : decode cX5_copyFrom 33 = .ok (.aload_n 1, 1) := by decide +kernel
theorem dX5_copyFrom_34 : decode cX5_copyFrom 34 = .ok (.getfield 24, 3) := by decide +kernel
theorem dX5_copyFrom_37 : decode cX5_copyFrom 37 = .ok (.putfield 24, 3) := by decide +kernel
theorem dX5_copyFrom_40 : decode cX5_copyFrom 40 = .ok (.aload_n 0, 1) := by decide +kernel
theorem dX5_copyFrom_41 : decode cX5_copyFrom 41 = .ok (.aload_n 1, 1) := by decide +kernel
theorem dX5_copyFrom_42 : decode cX5_copyFrom 42 = .ok (.getfield 27, 3) := by decide +kernel
theorem dX5_copyFrom_45 : decode cX5_copyFrom 45 = .ok (.putfield 27, 3) := by decide +kernel
theorem dX5_copyFrom_48 : decode cX5_copyFrom 48 = .ok (.return_, 1) := by decide +kernel
theorem dX5_isOnFor_0 : decode cX5_isOnFor 0 = .ok (.aload_n 0, 1) := by decide +kernel
theorem dX5_isOnFor_1 : decode cX5_isOnFor 1 = .ok (.getfield 27, 3) := by decide +kernel
theorem dX5_isOnFor_4 : decode cX5_isOnFor 4 = .ok (.ifCond .eq 15, 3) := by decide +kernel
theorem dX5_isOnFor_7 : decode cX5_isOnFor 7 = .ok (.aload_n 0, 1) := by decide +kernel
theorem dX5_isOnFor_8 : decode cX5_isOnFor 8 = .ok (.getfield 9, 3) := by decide +kernel
theorem dX5_isOnFor_11 : decode cX5_isOnFor 11 = .ok (.iload_n 1, 1) := by decide +kernel
theorem dX5_isOnFor_12 : decode cX5_isOnFor 12 = .ok (.if_icmp .ne 7, 3) := by decide +kernel
theorem dX5_isOnFor_15 : decode cX5_isOnFor 15 = .ok (.iconst 1, 1) := by decide +kernel
theorem dX5_isOnFor_16 : decode cX5_isOnFor 16 = .ok (.goto 4, 3) := by decide +kernel
theorem dX5_isOnFor_19 : decode cX5_isOnFor 19 = .ok (.iconst 0, 1) := by decide +kernel
theorem dX5_isOnFor_20 : decode cX5_isOnFor 20 = .ok (.ireturn, 1) := by decide +kernel
theorem dX5_isOfThoseThatAct_0 : decode cX5_isOfThoseThatAct 0 = .ok (.aload_n 0, 1) := by decide +kernel
theorem dX5_isOfThoseThatAct_1 : decode cX5_isOfThoseThatAct 1 = .ok (.getfield 15, 3) := by decide +kernel
theorem dX5_isOfThoseThatAct_4 : decode cX5_isOfThoseThatAct 4 = .ok (.iconst 1, 1) := by decide +kernel
theorem dX5_isOfThoseThatAct_5 : decode cX5_isOfThoseThatAct 5 = .ok (.if_icmp .eq 19, 3) := by decide +kernel
theorem dX5_isOfThoseThatAct_8 : decode cX5_isOfThoseThatAct 8 = .ok (.aload_n 0, 1) := by decide +kernel
theorem dX5_isOfThoseThatAct_9 : decode cX5_isOfThoseThatAct 9 = .ok (.getfield 15, 3) := by decide +kernel
theorem dX5_isOfThoseThatAct_12 : decode cX5_isOfThoseThatAct 12 = .ok (.iconst 2, 1) := by decide +kernel
theorem dX5_isOfThoseThatAct_13 : decode cX5_isOfThoseThatAct 13 = .ok (.if_icmp .eq 11, 3) := by decide +kernel
theorem dX5_isOfThoseThatAct_16 : decode cX5_isOfThoseThatAct 16 = .ok (.aload_n 0, 1) := by decide +kernel
theorem dX5_isOfThoseThatAct_17 : decode cX5_isOfThoseThatAct 17 = .ok (.getfield 15, 3) := by decide +kernel
theorem dX5_isOfThoseThatAct_20 : decode cX5_isOfThoseThatAct 20 = .ok (.iconst 4, 1) := by decide +kernel
theorem dX5_isOfThoseThatAct_21 : decode cX5_isOfThoseThatAct 21 = .ok (.if_icmp .ne 7, 3) := by decide +kernel
theorem dX5_isOfThoseThatAct_24 : decode cX5_isOfThoseThatAct 24 = .ok (.iconst 1, 1) := by decide +kernel
theorem dX5_isOfThoseThatAct_25 : decode cX5_isOfThoseThatAct 25 = .ok (.goto 4, 3) := by decide +kernel
theorem dX5_isOfThoseThatAct_28 : decode cX5_isOfThoseThatAct 28 = .ok (.iconst 0, 1) := by decide +kernel
theorem dX5_isOfThoseThatAct_29 : decode cX5_isOfThoseThatAct 29 = .ok (.ireturn, 1) := by decide +kernel
theorem dX5_shutsOut_0 : decode cX5_shutsOut 0 = .ok (.aload_n 0, 1) := by decide +kernel
theorem dX5_shutsOut_1 : decode cX5_shutsOut 1 = .ok (.getfield 21, 3) := by decide +kernel
theorem dX5_shutsOut_4 : decode cX5_shutsOut 4 = .ok (.iload_n 1, 1) := by decide +kernel
theorem dX5_shutsOut_5 : decode cX5_shutsOut 5 = .ok (.if_icmp .eq 20, 3) := by decide +kernel
theorem dX5_shutsOut_8 : decode cX5_shutsOut 8 = .ok (.aload_n 0, 1) := by decide +kernel
theorem dX5_shutsOut_9 : decode cX5_shutsOut 9 = .ok (.getfield 24, 3) := by decide +kernel
theorem dX5_shutsOut_12 : decode cX5_shutsOut 12 = .ok (.iconst 4, 1) := by decide +kernel
theorem dX5_shutsOut_13 : decode cX5_shutsOut 13 = .ok (.iand, 1) := by decide +kernel
theorem dX5_shutsOut_14 : decode cX5_shutsOut 14 = .ok (.ifCond .eq 15, 3) := by decide +kernel
theorem dX5_shutsOut_17 : decode cX5_shutsOut 17 = .ok (.aload_n 0, 1) := by decide +kernel
theorem dX5_shutsOut_18 : decode cX5_shutsOut 18 = .ok (.getfield 21, 3) := by decide +kernel
theorem dX5_shutsOut_21 : decode cX5_shutsOut 21 = .ok (.iload_n 2, 1) := by decide +kernel
theorem dX5_shutsOut_22 : decode cX5_shutsOut 22 = .ok (.if_icmp .ne 7, 3) := by decide +kernel
theorem dX5_shutsOut_25 : decode cX5_shutsOut 25 = .ok (.iconst 1, 1) := by decide +kernel
theorem dX5_shutsOut_26 : decode cX5_shutsOut 26 = .ok (.goto 4, 3) := by decide +kernel
theorem dX5_shutsOut_29 : decode cX5_shutsOut 29 = .ok (.iconst 0, 1) := by decide +kernel
theorem dX5_shutsOut_30 : decode cX5_shutsOut 30 = .ok (.istore 4, 2) := by decide +kernel
theorem dX5_shutsOut_32 : decode cX5_shutsOut 32 = .ok (.iload_n 3, 1) := by decide +kernel
theorem dX5_shutsOut_33 : decode cX5_shutsOut 33 = .ok (.bipush 12, 2) := by decide +kernel
theorem dX5_shutsOut_35 : decode cX5_shutsOut 35 = .ok (.if_icmp .ge 7, 3) := by decide +kernel
theorem dX5_shutsOut_38 : decode cX5_shutsOut 38 = .ok (.iconst 1, 1) := by decide +kernel
theorem dX5_shutsOut_39 : decode cX5_shutsOut 39 = .ok (.goto 4, 3) := by decide +kernel
theorem dX5_shutsOut_42 : decode cX5_shutsOut 42 = .ok (.iconst 2, 1) := by decide +kernel
theorem dX5_shutsOut_43 : decode cX5_shutsOut 43 = .ok (.istore 5, 2) := by decide +kernel
theorem dX5_shutsOut_45 : decode cX5_shutsOut 45 = .ok (.aload_n 0, 1) := by decide +kernel
theorem dX5_shutsOut_46 : decode cX5_shutsOut 46 = .ok (.getfield 15, 3) := by decide +kernel
theorem dX5_shutsOut_49 : decode cX5_shutsOut 49 = .ok (.iconst 2, 1) := by decide +kernel
theorem dX5_shutsOut_50 : decode cX5_shutsOut 50 = .ok (.if_icmp .ne 22, 3) := by decide +kernel
theorem dX5_shutsOut_53 : decode cX5_shutsOut 53 = .ok (.iload 4, 2) := by decide +kernel
theorem dX5_shutsOut_55 : decode cX5_shutsOut 55 = .ok (.ifCond .eq 17, 3) := by decide +kernel
theorem dX5_shutsOut_58 : decode cX5_shutsOut 58 = .ok (.aload_n 0, 1) := by decide +kernel
theorem dX5_shutsOut_59 : decode cX5_shutsOut 59 = .ok (.getfield 24, 3) := by decide +kernel
theorem dX5_shutsOut_62 : decode cX5_shutsOut 62 = .ok (.iload 5, 2) := by decide +kernel
theorem dX5_shutsOut_64 : decode cX5_shutsOut 64 = .ok (.iand, 1) := by decide +kernel
theorem dX5_shutsOut_65 : decode cX5_shutsOut 65 = .ok (.ifCond .eq 7, 3) := by decide +kernel
theorem dX5_shutsOut_68 : decode cX5_shutsOut 68 = .ok (.iconst 1, 1) := by decide +kernel
theorem dX5_shutsOut_69 : decode cX5_shutsOut 69 = .ok (.goto 4, 3) := by decide +kernel
theorem dX5_shutsOut_72 : decode cX5_shutsOut 72 = .ok (.iconst 0, 1) := by decide +kernel
theorem dX5_shutsOut_73 : decode cX5_shutsOut 73 = .ok (.ireturn, 1) := by decide +kernel
theorem dX5_sendsOn_0 : decode cX5_sendsOn 0 = .ok (.aload_n 0, 1) := by decide +kernel
theorem dX5_sendsOn_1 : decode cX5_sendsOn 1 = .ok (.getfield 15, 3) := by decide +kernel
theorem dX5_sendsOn_4 : decode cX5_sendsOn 4 = .ok (.iconst 1, 1) := by decide +kernel
theorem dX5_sendsOn_5 : decode cX5_sendsOn 5 = .ok (.if_icmp .ne 26, 3) := by decide +kernel
theorem dX5_sendsOn_8 : decode cX5_sendsOn 8 = .ok (.aload_n 0, 1) := by decide +kernel
theorem dX5_sendsOn_9 : decode cX5_sendsOn 9 = .ok (.getfield 24, 3) := by decide +kernel
theorem dX5_sendsOn_12 : decode cX5_sendsOn 12 = .ok (.ifCond .eq 15, 3) := by decide +kernel
theorem dX5_sendsOn_15 : decode cX5_sendsOn 15 = .ok (.aload_n 0, 1) := by decide +kernel
theorem dX5_sendsOn_16 : decode cX5_sendsOn 16 = .ok (.getfield 24, 3) := by decide +kernel
theorem dX5_sendsOn_19 : decode cX5_sendsOn 19 = .ok (.iconst 1, 1) := by decide +kernel
theorem dX5_sendsOn_20 : decode cX5_sendsOn 20 = .ok (.if_icmp .ne 11, 3) := by decide +kernel
theorem dX5_sendsOn_23 : decode cX5_sendsOn 23 = .ok (.iload_n 1, 1) := by decide +kernel
theorem dX5_sendsOn_24 : decode cX5_sendsOn 24 = .ok (.ifCond .eq 7, 3) := by decide +kernel
theorem dX5_sendsOn_27 : decode cX5_sendsOn 27 = .ok (.iconst 1, 1) := by decide +kernel
theorem dX5_sendsOn_28 : decode cX5_sendsOn 28 = .ok (.goto 4, 3) := by decide +kernel
theorem dX5_sendsOn_31 : decode cX5_sendsOn 31 = .ok (.iconst 0, 1) := by decide +kernel
theorem dX5_sendsOn_32 : decode cX5_sendsOn 32 = .ok (.ireturn, 1) := by decide +kernel
theorem dX6_init_0 : decode cX6_init 0 = .ok (.aload_n 0, 1) := by decide +kernel
theorem dX6_init_1 : decode cX6_init 1 = .ok (.invokespecial 3, 3) := by decide +kernel
theorem dX6_init_4 : decode cX6_init 4 = .ok (.aload_n 0, 1) := by decide +kernel
theorem dX6_init_5 : decode cX6_init 5 = .ok (.bipush 24, 2) := by decide +kernel
theorem dX6_init_7 : decode cX6_init 7 = .ok (.anewarray 9, 3) := by decide +kernel
theorem dX6_init_10 : decode cX6_init 10 = .ok (.putfield 11, 3) := by decide +kernel
theorem dX6_init_13 : decode cX6_init 13 = .ok (.iconst 0, 1) := by decide +kernel
theorem dX6_init_14 : decode cX6_init 14 = .ok (.istore_n 1, 1) := by decide +kernel
theorem dX6_init_15 : decode cX6_init 15 = .ok (.iload_n 1, 1) := by decide +kernel
theorem dX6_init_16 : decode cX6_init 16 = .ok (.bipush 24, 2) := by decide +kernel
theorem dX6_init_18 : decode cX6_init 18 = .ok (.if_icmp .ge 22, 3) := by decide +kernel
theorem dX6_init_21 : decode cX6_init 21 = .ok (.aload_n 0, 1) := by decide +kernel
theorem dX6_init_22 : decode cX6_init 22 = .ok (.getfield 11, 3) := by decide +kernel
theorem dX6_init_25 : decode cX6_init 25 = .ok (.iload_n 1, 1) := by decide +kernel
theorem dX6_init_26 : decode cX6_init 26 = .ok (.new 9, 3) := by decide +kernel
theorem dX6_init_29 : decode cX6_init 29 = .ok (.dup, 1) := by decide +kernel
theorem dX6_init_30 : decode cX6_init 30 = .ok (.invokespecial 17, 3) := by decide +kernel
theorem dX6_init_33 : decode cX6_init 33 = .ok (.aastore, 1) := by decide +kernel
theorem dX6_init_34 : decode cX6_init 34 = .ok (.iinc 1 1, 3) := by decide +kernel
theorem dX6_init_37 : decode cX6_init 37 = .ok (.goto (-22), 3) := by decide +kernel
theorem dX6_init_40 : decode cX6_init 40 = .ok (.return_, 1) := by decide +kernel
theorem dX6_copyFrom_0 : decode cX6_copyFrom 0 = .ok (.aload_n 0, 1) := by decide +kernel
theorem dX6_copyFrom_1 : decode cX6_copyFrom 1 = .ok (.aload_n 1, 1) := by decide +kernel
theorem dX6_copyFrom_2 : decode cX6_copyFrom 2 = .ok (.getfield 18, 3) := by decide +kernel
theorem dX6_copyFrom_5 : decode cX6_copyFrom 5 = .ok (.putfield 18, 3) := by decide +kernel
theorem dX6_copyFrom_8 : decode cX6_copyFrom 8 = .ok (.iconst 0, 1) := by decide +kernel
theorem dX6_copyFrom_9 : decode cX6_copyFrom 9 = .ok (.istore_n 2, 1) := by decide +kernel
theorem dX6_copyFrom_10 : decode cX6_copyFrom 10 = .ok (.iload_n 2, 1) := by decide +kernel
theorem dX6_copyFrom_11 : decode cX6_copyFrom 11 = .ok (.aload_n 0, 1) := by decide +kernel
theorem dX6_copyFrom_12 : decode cX6_copyFrom 12 = .ok (.getfield 18, 3) := by decide +kernel
theorem dX6_copyFrom_15 : decode cX6_copyFrom 15 = .ok (.if_icmp .ge 24, 3) := by decide +kernel
theorem dX6_copyFrom_18 : decode cX6_copyFrom 18 = .ok (.aload_n 0, 1) := by decide +kernel
theorem dX6_copyFrom_19 : decode cX6_copyFrom 19 = .ok (.getfield 11, 3) := by decide +kernel
theorem dX6_copyFrom_22 : decode cX6_copyFrom 22 = .ok (.iload_n 2, 1) := by decide +kernel
theorem dX6_copyFrom_23 : decode cX6_copyFrom 23 = .ok (.aaload, 1) := by decide +kernel
theorem dX6_copyFrom_24 : decode cX6_copyFrom 24 = .ok (.aload_n 1, 1) := by decide +kernel
theorem dX6_copyFrom_25 : decode cX6_copyFrom 25 = .ok (.getfield 11, 3) := by decide +kernel
theorem dX6_copyFrom_28 : decode cX6_copyFrom 28 = .ok (.iload_n 2, 1) := by decide +kernel
theorem dX6_copyFrom_29 : decode cX6_copyFrom 29 = .ok (.aaload, 1) := by decide +kernel
theorem dX6_copyFrom_30 : decode cX6_copyFrom 30 = .ok (.invokevirtual 22, 3) := by decide +kernel
theorem dX6_copyFrom_33 : decode cX6_copyFrom 33 = .ok (.iinc 2 1, 3) := by decide +kernel
theorem dX6_copyFrom_36 : decode cX6_copyFrom 36 = .ok (.goto (-26), 3) := by decide +kernel
theorem dX6_copyFrom_39 : decode cX6_copyFrom 39 = .ok (.return_, 1) := by decide +kernel
theorem dX6_holds_0 : decode cX6_holds 0 = .ok (.iload_n 1, 1) := by decide +kernel
theorem dX6_holds_1 : decode cX6_holds 1 = .ok (.ifCond .lt 15, 3) := by decide +kernel
theorem dX6_holds_4 : decode cX6_holds 4 = .ok (.iload_n 1, 1) := by decide +kernel
theorem dX6_holds_5 : decode cX6_holds 5 = .ok (.aload_n 0, 1) := by decide +kernel
theorem dX6_holds_6 : decode cX6_holds 6 = .ok (.getfield 18, 3) := by decide +kernel
theorem dX6_holds_9 : decode cX6_holds 9 = .ok (.if_icmp .ge 7, 3) := by decide +kernel
theorem dX6_holds_12 : decode cX6_holds 12 = .ok (.iconst 1, 1) := by decide +kernel
theorem dX6_holds_13 : decode cX6_holds 13 = .ok (.goto 4, 3) := by decide +kernel
theorem dX6_holds_16 : decode cX6_holds 16 = .ok (.iconst 0, 1) := by decide +kernel
theorem dX6_holds_17 : decode cX6_holds 17 = .ok (.ireturn, 1) := by decide +kernel
theorem dX6_isFull_0 : decode cX6_isFull 0 = .ok (.aload_n 0, 1) := by decide +kernel
theorem dX6_isFull_1 : decode cX6_isFull 1 = .ok (.getfield 18, 3) := by decide +kernel
theorem dX6_isFull_4 : decode cX6_isFull 4 = .ok (.bipush 24, 2) := by decide +kernel
theorem dX6_isFull_6 : decode cX6_isFull 6 = .ok (.if_icmp .lt 7, 3) := by decide +kernel
theorem dX6_isFull_9 : decode cX6_isFull 9 = .ok (.iconst 1, 1) := by decide +kernel
theorem dX6_isFull_10 : decode cX6_isFull 10 = .ok (.goto 4, 3) := by decide +kernel
theorem dX6_isFull_13 : decode cX6_isFull 13 = .ok (.iconst 0, 1) := by decide +kernel
theorem dX6_isFull_14 : decode cX6_isFull 14 = .ok (.ireturn, 1) := by decide +kernel
theorem dX6_added_0 : decode cX6_added 0 = .ok (.aload_n 0, 1) := by decide +kernel
theorem dX6_added_1 : decode cX6_added 1 = .ok (.invokevirtual 26, 3) := by decide +kernel
theorem dX6_added_4 : decode cX6_added 4 = .ok (.ifCond .eq 5, 3) := by decide +kernel
theorem dX6_added_7 : decode cX6_added 7 = .ok (.iconst (-1), 1) := by decide +kernel
theorem dX6_added_8 : decode cX6_added 8 = .ok (.ireturn, 1) := by decide +kernel
theorem dX6_added_9 : decode cX6_added 9 = .ok (.aload_n 0, 1) := by decide +kernel
theorem dX6_added_10 : decode cX6_added 10 = .ok (.getfield 11, 3) := by decide +kernel
theorem dX6_added_13 : decode cX6_added 13 = .ok (.aload_n 0, 1) := by decide +kernel
theorem dX6_added_14 : decode cX6_added 14 = .ok (.getfield 18, 3) := by decide +kernel
theorem dX6_added_17 : decode cX6_added 17 = .ok (.aaload, 1) := by decide +kernel
theorem dX6_added_18 : decode cX6_added 18 = .ok (.astore 6, 2) := by decide +kernel
theorem dX6_added_20 : decode cX6_added 20 = .ok (.aload 6, 2) := by decide +kernel
theorem dX6_added_22 : decode cX6_added 22 = .ok (.iload_n 1, 1) := by decide +kernel
theorem dX6_added_23 : decode cX6_added 23 = .ok (.putfield 30, 3) := by decide +kernel
theorem dX6_added_26 : decode cX6_added 26 = .ok (.aload 6, 2) := by decide +kernel
theorem dX6_added_28 : decode cX6_added 28 = .ok (.iload_n 2, 1) := by decide +kernel
theorem dX6_added_29 : decode cX6_added 29 = .ok (.putfield 33, 3) := by decide +kernel
theorem dX6_added_32 : decode cX6_added 32 = .ok (.aload 6, 2) := by decide +kernel
theorem dX6_added_34 : decode cX6_added 34 = .ok (.iload_n 3, 1) := by decide +kernel
theorem dX6_added_35 : decode cX6_added 35 = .ok (.putfield 36, 3) := by decide +kernel
theorem dX6_added_38 : decode cX6_added 38 = .ok (.aload 6, 2) := by decide +kernel
theorem dX6_added_40 : decode cX6_added 40 = .ok (.iload 4, 2) := by decide +kernel
theorem dX6_added_42 : decode cX6_added 42 = .ok (.putfield 39, 3) := by decide +kernel
theorem dX6_added_45 : decode cX6_added 45 = .ok (.aload 6, 2) := by decide +kernel
theorem dX6_added_47 : decode cX6_added 47 = .ok (.iload 5, 2) := by decide +kernel
theorem dX6_added_49 : decode cX6_added 49 = .ok (.putfield 42, 3) := by decide +kernel
theorem dX6_added_52 : decode cX6_added 52 = .ok (.aload 6, 2) := by decide +kernel
theorem dX6_added_54 : decode cX6_added 54 = .ok (.iconst 1, 1) := by decide +kernel
theorem dX6_added_55 : decode cX6_added 55 = .ok (.putfield 45, 3) := by decide +kernel
theorem dX6_added_58 : decode cX6_added 58 = .ok (.aload_n 0, 1) := by decide +kernel
theorem dX6_added_59 : decode cX6_added 59 = .ok (.dup, 1) := by decide +kernel
theorem dX6_added_60 : decode cX6_added 60 = .ok (.getfield 18, 3) := by decide +kernel
theorem dX6_added_63 : decode cX6_added 63 = .ok (.iconst 1, 1) := by decide +kernel
theorem dX6_added_64 : decode cX6_added 64 = .ok (.iadd, 1) := by decide +kernel
theorem dX6_added_65 : decode cX6_added 65 = .ok (.putfield 18, 3) := by decide +kernel
theorem dX6_added_68 : decode cX6_added 68 = .ok (.aload_n 0, 1) := by decide +kernel
theorem dX6_added_69 : decode cX6_added 69 = .ok (.getfield 18, 3) := by decide +kernel
theorem dX6_added_72 : decode cX6_added 72 = .ok (.iconst 1, 1) := by decide +kernel
theorem dX6_added_73 : decode cX6_added 73 = .ok (.isub, 1) := by decide +kernel
theorem dX6_added_74 : decode cX6_added 74 = .ok (.ireturn, 1) := by decide +kernel
theorem dX6_has_0 : decode cX6_has 0 = .ok (.iconst 0, 1) := by decide +kernel
theorem dX6_has_1 : decode cX6_has 1 = .ok (.istore_n 3, 1) := by decide +kernel
theorem dX6_has_2 : decode cX6_has 2 = .ok (.iload_n 3, 1) := by decide +kernel
theorem dX6_has_3 : decode cX6_has 3 = .ok (.aload_n 0, 1) := by decide +kernel
theorem dX6_has_4 : decode cX6_has 4 = .ok (.getfield 18, 3) := by decide +kernel
theorem dX6_has_7 : decode cX6_has 7 = .ok (.if_icmp .ge 45, 3) := by decide +kernel
theorem dX6_has_10 : decode cX6_has 10 = .ok (.aload_n 0, 1) := by decide +kernel
theorem dX6_has_11 : decode cX6_has 11 = .ok (.getfield 11, 3) := by decide +kernel
theorem dX6_has_14 : decode cX6_has 14 = .ok (.iload_n 3, 1) := by decide +kernel
theorem dX6_has_15 : decode cX6_has 15 = .ok (.aaload, 1) := by decide +kernel
theorem dX6_has_16 : decode cX6_has 16 = .ok (.astore 4, 2) := by decide +kernel
theorem dX6_has_18 : decode cX6_has 18 = .ok (.aload 4, 2) := by decide +kernel
theorem dX6_has_20 : decode cX6_has 20 = .ok (.getfield 45, 3) := by decide +kernel
theorem dX6_has_23 : decode cX6_has 23 = .ok (.ifCond .eq 23, 3) := by decide +kernel
theorem dX6_has_26 : decode cX6_has 26 = .ok (.aload 4, 2) := by decide +kernel
theorem dX6_has_28 : decode cX6_has 28 = .ok (.getfield 30, 3) := by decide +kernel
theorem dX6_has_31 : decode cX6_has 31 = .ok (.iload_n 1, 1) := by decide +kernel
theorem dX6_has_32 : decode cX6_has 32 = .ok (.if_icmp .ne 14, 3) := by decide +kernel
theorem dX6_has_35 : decode cX6_has 35 = .ok (.aload 4, 2) := by decide +kernel
theorem dX6_has_37 : decode cX6_has 37 = .ok (.getfield 33, 3) := by decide +kernel
theorem dX6_has_40 : decode cX6_has 40 = .ok (.iload_n 2, 1) := by decide +kernel
theorem dX6_has_41 : decode cX6_has 41 = .ok (.if_icmp .ne 5, 3) := by decide +kernel
theorem dX6_has_44 : decode cX6_has 44 = .ok (.iconst 1, 1) := by decide +kernel
theorem dX6_has_45 : decode cX6_has 45 = .ok (.ireturn, 1) := by decide +kernel
theorem dX6_has_46 : decode cX6_has 46 = .ok (.iinc 3 1, 3) := by decide +kernel
theorem dX6_has_49 : decode cX6_has 49 = .ok (.goto (-47), 3) := by decide +kernel
theorem dX6_has_52 : decode cX6_has 52 = .ok (.iconst 0, 1) := by decide +kernel
theorem dX6_has_53 : decode cX6_has 53 = .ok (.ireturn, 1) := by decide +kernel
theorem dX6_hides_0 : decode cX6_hides 0 = .ok (.iconst 0, 1) := by decide +kernel
theorem dX6_hides_1 : decode cX6_hides 1 = .ok (.istore_n 3, 1) := by decide +kernel
theorem dX6_hides_2 : decode cX6_hides 2 = .ok (.iload_n 3, 1) := by decide +kernel
theorem dX6_hides_3 : decode cX6_hides 3 = .ok (.aload_n 0, 1) := by decide +kernel
theorem dX6_hides_4 : decode cX6_hides 4 = .ok (.getfield 18, 3) := by decide +kernel
theorem dX6_hides_7 : decode cX6_hides 7 = .ok (.if_icmp .ge 46, 3) := by decide +kernel
theorem dX6_hides_10 : decode cX6_hides 10 = .ok (.aload_n 0, 1) := by decide +kernel
theorem dX6_hides_11 : decode cX6_hides 11 = .ok (.getfield 11, 3) := by decide +kernel
theorem dX6_hides_14 : decode cX6_hides 14 = .ok (.iload_n 3, 1) := by decide +kernel
theorem dX6_hides_15 : decode cX6_hides 15 = .ok (.aaload, 1) := by decide +kernel
theorem dX6_hides_16 : decode cX6_hides 16 = .ok (.astore 4, 2) := by decide +kernel
theorem dX6_hides_18 : decode cX6_hides 18 = .ok (.aload 4, 2) := by decide +kernel
theorem dX6_hides_20 : decode cX6_hides 20 = .ok (.getfield 33, 3) := by decide +kernel
theorem dX6_hides_23 : decode cX6_hides 23 = .ok (.iconst 3, 1) := by decide +kernel
theorem dX6_hides_24 : decode cX6_hides 24 = .ok (.if_icmp .ne 23, 3) := by decide +kernel
theorem dX6_hides_27 : decode cX6_hides 27 = .ok (.aload 4, 2) := by decide +kernel
theorem dX6_hides_29 : decode cX6_hides 29 = .ok (.iload_n 1, 1) := by decide +kernel
theorem dX6_hides_30 : decode cX6_hides 30 = .ok (.invokevirtual 49, 3) := by decide +kernel
theorem dX6_hides_33 : decode cX6_hides 33 = .ok (.ifCond .eq 14, 3) := by decide +kernel
theorem dX6_hides_36 : decode cX6_hides 36 = .ok (.aload 4, 2) := by decide +kernel
theorem dX6_hides_38 : decode cX6_hides 38 = .ok (.getfield 39, 3) := by decide +kernel
theorem dX6_hides_41 : decode cX6_hides 41 = .ok (.iload_n 2, 1) := by decide +kernel
theorem dX6_hides_42 : decode cX6_hides 42 = .ok (.if_icmp .eq 5, 3) := by decide +kernel
theorem dX6_hides_45 : decode cX6_hides 45 = .ok (.iconst 1, 1) := by decide +kernel
theorem dX6_hides_46 : decode cX6_hides 46 = .ok (.ireturn, 1) := by decide +kernel
theorem dX6_hides_47 : decode cX6_hides 47 = .ok (.iinc 3 1, 3) := by decide +kernel
theorem dX6_hides_50 : decode cX6_hides 50 = .ok (.goto (-48), 3) := by decide +kernel
theorem dX6_hides_53 : decode cX6_hides 53 = .ok (.iconst 0, 1) := by decide +kernel
theorem dX6_hides_54 : decode cX6_hides 54 = .ok (.ireturn, 1) := by decide +kernel
theorem dX6_countOn_0 : decode cX6_countOn 0 = .ok (.iconst 0, 1) := by decide +kernel
theorem dX6_countOn_1 : decode cX6_countOn 1 = .ok (.istore_n 2, 1) := by decide +kernel
theorem dX6_countOn_2 : decode cX6_countOn 2 = .ok (.iconst 0, 1) := by decide +kernel
theorem dX6_countOn_3 : decode cX6_countOn 3 = .ok (.istore_n 3, 1) := by decide +kernel
theorem dX6_countOn_4 : decode cX6_countOn 4 = .ok (.iload_n 3, 1) := by decide +kernel
end
section
theorem dX6_countOn_5 : decode cX6_countOn 5 = .ok (.aload_n 0, 1) := by decide +kernel
theorem dX6_countOn_6 : decode cX6_countOn 6 = .ok (.getfield 18, 3) := by decide +kernel
theorem dX6_countOn_9 : decode cX6_countOn 9 = .ok (.if_icmp .ge 25, 3) := by decide +kernel
theorem dX6_countOn_12 : decode cX6_countOn 12 = .ok (.aload_n 0, 1) := by decide +kernel
theorem dX6_countOn_13 : decode cX6_countOn 13 = .ok (.getfield 11, 3) := by decide +kernel
theorem dX6_countOn_16 : decode cX6_countOn 16 = .ok (.iload_n 3, 1) := by decide +kernel
theorem dX6_countOn_17 : decode cX6_countOn 17 = .ok (.aaload, 1) := by decide +kernel
theorem dX6_countOn_18 : decode cX6_countOn 18 = .ok (.iload_n 1, 1) := by decide +kernel
theorem dX6_countOn_19 : decode cX6_countOn 19 = .ok (.invokevirtual 49, 3) := by decide +kernel
theorem dX6_countOn_22 : decode cX6_countOn 22 = .ok (.ifCond .eq 6, 3) := by decide +kernel
theorem dX6_countOn_25 : decode cX6_countOn 25 = .ok (.iinc 2 1, 3) := by decide +kernel
theorem dX6_countOn_28 : decode cX6_countOn 28 = .ok (.iinc 3 1, 3) := by decide +kernel
theorem dX6_countOn_31 : decode cX6_countOn 31 = .ok (.goto (-27), 3) := by decide +kernel
theorem dX6_countOn_34 : decode cX6_countOn 34 = .ok (.iload_n 2, 1) := by decide +kernel
theorem dX6_countOn_35 : decode cX6_countOn 35 = .ok (.ireturn, 1) := by decide +kernel
theorem dX6_placeOf_0 : decode cX6_placeOf 0 = .ok (.aload_n 0, 1) := by decide +kernel
theorem dX6_placeOf_1 : decode cX6_placeOf 1 = .ok (.getfield 11, 3) := by decide +kernel
theorem dX6_placeOf_4 : decode cX6_placeOf 4 = .ok (.iload_n 1, 1) := by decide +kernel
theorem dX6_placeOf_5 : decode cX6_placeOf 5 = .ok (.aaload, 1) := by decide +kernel
theorem dX6_placeOf_6 : decode cX6_placeOf 6 = .ok (.astore_n 2, 1) := by decide +kernel
theorem dX6_placeOf_7 : decode cX6_placeOf 7 = .ok (.iconst 0, 1) := by decide +kernel
theorem dX6_placeOf_8 : decode cX6_placeOf 8 = .ok (.istore_n 3, 1) := by decide +kernel
theorem dX6_placeOf_9 : decode cX6_placeOf 9 = .ok (.iconst 0, 1) := by decide +kernel
theorem dX6_placeOf_10 : decode cX6_placeOf 10 = .ok (.istore 4, 2) := by decide +kernel
theorem dX6_placeOf_12 : decode cX6_placeOf 12 = .ok (.iload 4, 2) := by decide +kernel
theorem dX6_placeOf_14 : decode cX6_placeOf 14 = .ok (.aload_n 0, 1) := by decide +kernel
theorem dX6_placeOf_15 : decode cX6_placeOf 15 = .ok (.getfield 18, 3) := by decide +kernel
theorem dX6_placeOf_18 : decode cX6_placeOf 18 = .ok (.if_icmp .ge 75, 3) := by decide +kernel
theorem dX6_placeOf_21 : decode cX6_placeOf 21 = .ok (.aload_n 0, 1) := by decide +kernel
theorem dX6_placeOf_22 : decode cX6_placeOf 22 = .ok (.getfield 11, 3) := by decide +kernel
theorem dX6_placeOf_25 : decode cX6_placeOf 25 = .ok (.iload 4, 2) := by decide +kernel
theorem dX6_placeOf_27 : decode cX6_placeOf 27 = .ok (.aaload, 1) := by decide +kernel
theorem dX6_placeOf_28 : decode cX6_placeOf 28 = .ok (.astore 5, 2) := by decide +kernel
theorem dX6_placeOf_30 : decode cX6_placeOf 30 = .ok (.aload 5, 2) := by decide +kernel
theorem dX6_placeOf_32 : decode cX6_placeOf 32 = .ok (.getfield 36, 3) := by decide +kernel
theorem dX6_placeOf_35 : decode cX6_placeOf 35 = .ok (.aload_n 2, 1) := by decide +kernel
theorem dX6_placeOf_36 : decode cX6_placeOf 36 = .ok (.getfield 36, 3) := by decide +kernel
theorem dX6_placeOf_39 : decode cX6_placeOf 39 = .ok (.if_icmp .lt 21, 3) := by decide +kernel
theorem dX6_placeOf_42 : decode cX6_placeOf 42 = .ok (.aload 5, 2) := by decide +kernel
theorem dX6_placeOf_44 : decode cX6_placeOf 44 = .ok (.getfield 36, 3) := by decide +kernel
theorem dX6_placeOf_47 : decode cX6_placeOf 47 = .ok (.aload_n 2, 1) := by decide +kernel
theorem dX6_placeOf_48 : decode cX6_placeOf 48 = .ok (.getfield 36, 3) := by decide +kernel
theorem dX6_placeOf_51 : decode cX6_placeOf 51 = .ok (.if_icmp .ne 13, 3) := by decide +kernel
theorem dX6_placeOf_54 : decode cX6_placeOf 54 = .ok (.iload 4, 2) := by decide +kernel
theorem dX6_placeOf_56 : decode cX6_placeOf 56 = .ok (.iload_n 1, 1) := by decide +kernel
theorem dX6_placeOf_57 : decode cX6_placeOf 57 = .ok (.if_icmp .ge 7, 3) := by decide +kernel
theorem dX6_placeOf_60 : decode cX6_placeOf 60 = .ok (.iconst 1, 1) := by decide +kernel
theorem dX6_placeOf_61 : decode cX6_placeOf 61 = .ok (.goto 4, 3) := by decide +kernel
theorem dX6_placeOf_64 : decode cX6_placeOf 64 = .ok (.iconst 0, 1) := by decide +kernel
theorem dX6_placeOf_65 : decode cX6_placeOf 65 = .ok (.istore 6, 2) := by decide +kernel
theorem dX6_placeOf_67 : decode cX6_placeOf 67 = .ok (.iload 6, 2) := by decide +kernel
theorem dX6_placeOf_69 : decode cX6_placeOf 69 = .ok (.ifCond .eq 18, 3) := by decide +kernel
theorem dX6_placeOf_72 : decode cX6_placeOf 72 = .ok (.aload 5, 2) := by decide +kernel
theorem dX6_placeOf_74 : decode cX6_placeOf 74 = .ok (.aload_n 2, 1) := by decide +kernel
theorem dX6_placeOf_75 : decode cX6_placeOf 75 = .ok (.getfield 30, 3) := by decide +kernel
theorem dX6_placeOf_78 : decode cX6_placeOf 78 = .ok (.invokevirtual 49, 3) := by decide +kernel
theorem dX6_placeOf_81 : decode cX6_placeOf 81 = .ok (.ifCond .eq 6, 3) := by decide +kernel
theorem dX6_placeOf_84 : decode cX6_placeOf 84 = .ok (.iinc 3 1, 3) := by decide +kernel
theorem dX6_placeOf_87 : decode cX6_placeOf 87 = .ok (.iinc 4 1, 3) := by decide +kernel
theorem dX6_placeOf_90 : decode cX6_placeOf 90 = .ok (.goto (-78), 3) := by decide +kernel
theorem dX6_placeOf_93 : decode cX6_placeOf 93 = .ok (.iload_n 3, 1) := by decide +kernel
theorem dX6_placeOf_94 : decode cX6_placeOf 94 = .ok (.ireturn, 1) := by decide +kernel
theorem dX6_inOrder_0 : decode cX6_inOrder 0 = .ok (.iconst 0, 1) := by decide +kernel
theorem dX6_inOrder_1 : decode cX6_inOrder 1 = .ok (.istore_n 3, 1) := by decide +kernel
theorem dX6_inOrder_2 : decode cX6_inOrder 2 = .ok (.iload_n 3, 1) := by decide +kernel
theorem dX6_inOrder_3 : decode cX6_inOrder 3 = .ok (.aload_n 0, 1) := by decide +kernel
theorem dX6_inOrder_4 : decode cX6_inOrder 4 = .ok (.getfield 18, 3) := by decide +kernel
theorem dX6_inOrder_7 : decode cX6_inOrder 7 = .ok (.if_icmp .ge 33, 3) := by decide +kernel
theorem dX6_inOrder_10 : decode cX6_inOrder 10 = .ok (.aload_n 0, 1) := by decide +kernel
theorem dX6_inOrder_11 : decode cX6_inOrder 11 = .ok (.getfield 11, 3) := by decide +kernel
theorem dX6_inOrder_14 : decode cX6_inOrder 14 = .ok (.iload_n 3, 1) := by decide +kernel
theorem dX6_inOrder_15 : decode cX6_inOrder 15 = .ok (.aaload, 1) := by decide +kernel
theorem dX6_inOrder_16 : decode cX6_inOrder 16 = .ok (.iload_n 1, 1) := by decide +kernel
theorem dX6_inOrder_17 : decode cX6_inOrder 17 = .ok (.invokevirtual 49, 3) := by decide +kernel
theorem dX6_inOrder_20 : decode cX6_inOrder 20 = .ok (.ifCond .eq 14, 3) := by decide +kernel
theorem dX6_inOrder_23 : decode cX6_inOrder 23 = .ok (.aload_n 0, 1) := by decide +kernel
theorem dX6_inOrder_24 : decode cX6_inOrder 24 = .ok (.iload_n 3, 1) := by decide +kernel
theorem dX6_inOrder_25 : decode cX6_inOrder 25 = .ok (.invokevirtual 53, 3) := by decide +kernel
theorem dX6_inOrder_28 : decode cX6_inOrder 28 = .ok (.iload_n 2, 1) := by decide +kernel
theorem dX6_inOrder_29 : decode cX6_inOrder 29 = .ok (.if_icmp .ne 5, 3) := by decide +kernel
theorem dX6_inOrder_32 : decode cX6_inOrder 32 = .ok (.iload_n 3, 1) := by decide +kernel
theorem dX6_inOrder_33 : decode cX6_inOrder 33 = .ok (.ireturn, 1) := by decide +kernel
theorem dX6_inOrder_34 : decode cX6_inOrder 34 = .ok (.iinc 3 1, 3) := by decide +kernel
theorem dX6_inOrder_37 : decode cX6_inOrder 37 = .ok (.goto (-35), 3) := by decide +kernel
theorem dX6_inOrder_40 : decode cX6_inOrder 40 = .ok (.iconst (-1), 1) := by decide +kernel
theorem dX6_inOrder_41 : decode cX6_inOrder 41 = .ok (.ireturn, 1) := by decide +kernel
theorem dX6_onwardAfter_0 : decode cX6_onwardAfter 0 = .ok (.iconst (-1), 1) := by decide +kernel
theorem dX6_onwardAfter_1 : decode cX6_onwardAfter 1 = .ok (.istore_n 3, 1) := by decide +kernel
theorem dX6_onwardAfter_2 : decode cX6_onwardAfter 2 = .ok (.iconst 0, 1) := by decide +kernel
theorem dX6_onwardAfter_3 : decode cX6_onwardAfter 3 = .ok (.istore 4, 2) := by decide +kernel
theorem dX6_onwardAfter_5 : decode cX6_onwardAfter 5 = .ok (.iload 4, 2) := by decide +kernel
theorem dX6_onwardAfter_7 : decode cX6_onwardAfter 7 = .ok (.aload_n 0, 1) := by decide +kernel
theorem dX6_onwardAfter_8 : decode cX6_onwardAfter 8 = .ok (.getfield 18, 3) := by decide +kernel
theorem dX6_onwardAfter_11 : decode cX6_onwardAfter 11 = .ok (.if_icmp .ge 84, 3) := by decide +kernel
theorem dX6_onwardAfter_14 : decode cX6_onwardAfter 14 = .ok (.aload_n 0, 1) := by decide +kernel
theorem dX6_onwardAfter_15 : decode cX6_onwardAfter 15 = .ok (.getfield 11, 3) := by decide +kernel
theorem dX6_onwardAfter_18 : decode cX6_onwardAfter 18 = .ok (.iload 4, 2) := by decide +kernel
theorem dX6_onwardAfter_20 : decode cX6_onwardAfter 20 = .ok (.aaload, 1) := by decide +kernel
theorem dX6_onwardAfter_21 : decode cX6_onwardAfter 21 = .ok (.astore 5, 2) := by decide +kernel
theorem dX6_onwardAfter_23 : decode cX6_onwardAfter 23 = .ok (.aload 5, 2) := by decide +kernel
theorem dX6_onwardAfter_25 : decode cX6_onwardAfter 25 = .ok (.getfield 33, 3) := by decide +kernel
theorem dX6_onwardAfter_28 : decode cX6_onwardAfter 28 = .ok (.iconst 1, 1) := by decide +kernel
theorem dX6_onwardAfter_29 : decode cX6_onwardAfter 29 = .ok (.if_icmp .ne 27, 3) := by decide +kernel
theorem dX6_onwardAfter_32 : decode cX6_onwardAfter 32 = .ok (.aload 5, 2) := by decide +kernel
theorem dX6_onwardAfter_34 : decode cX6_onwardAfter 34 = .ok (.getfield 42, 3) := by decide +kernel
theorem dX6_onwardAfter_37 : decode cX6_onwardAfter 37 = .ok (.iconst 2, 1) := by decide +kernel
theorem dX6_onwardAfter_38 : decode cX6_onwardAfter 38 = .ok (.iload_n 2, 1) := by decide +kernel
theorem dX6_onwardAfter_39 : decode cX6_onwardAfter 39 = .ok (.iadd, 1) := by decide +kernel
theorem dX6_onwardAfter_40 : decode cX6_onwardAfter 40 = .ok (.if_icmp .ne 16, 3) := by decide +kernel
theorem dX6_onwardAfter_43 : decode cX6_onwardAfter 43 = .ok (.aload 5, 2) := by decide +kernel
theorem dX6_onwardAfter_45 : decode cX6_onwardAfter 45 = .ok (.iload_n 1, 1) := by decide +kernel
theorem dX6_onwardAfter_46 : decode cX6_onwardAfter 46 = .ok (.invokevirtual 49, 3) := by decide +kernel
theorem dX6_onwardAfter_49 : decode cX6_onwardAfter 49 = .ok (.ifCond .eq 7, 3) := by decide +kernel
theorem dX6_onwardAfter_52 : decode cX6_onwardAfter 52 = .ok (.iconst 1, 1) := by decide +kernel
theorem dX6_onwardAfter_53 : decode cX6_onwardAfter 53 = .ok (.goto 4, 3) := by decide +kernel
theorem dX6_onwardAfter_56 : decode cX6_onwardAfter 56 = .ok (.iconst 0, 1) := by decide +kernel
theorem dX6_onwardAfter_57 : decode cX6_onwardAfter 57 = .ok (.istore 6, 2) := by decide +kernel
theorem dX6_onwardAfter_59 : decode cX6_onwardAfter 59 = .ok (.iload 6, 2) := by decide +kernel
theorem dX6_onwardAfter_61 : decode cX6_onwardAfter 61 = .ok (.ifCond .eq 28, 3) := by decide +kernel
theorem dX6_onwardAfter_64 : decode cX6_onwardAfter 64 = .ok (.iload_n 3, 1) := by decide +kernel
theorem dX6_onwardAfter_65 : decode cX6_onwardAfter 65 = .ok (.iconst (-1), 1) := by decide +kernel
theorem dX6_onwardAfter_66 : decode cX6_onwardAfter 66 = .ok (.if_icmp .eq 20, 3) := by decide +kernel
theorem dX6_onwardAfter_69 : decode cX6_onwardAfter 69 = .ok (.aload 5, 2) := by decide +kernel
theorem dX6_onwardAfter_71 : decode cX6_onwardAfter 71 = .ok (.getfield 36, 3) := by decide +kernel
theorem dX6_onwardAfter_74 : decode cX6_onwardAfter 74 = .ok (.aload_n 0, 1) := by decide +kernel
theorem dX6_onwardAfter_75 : decode cX6_onwardAfter 75 = .ok (.getfield 11, 3) := by decide +kernel
theorem dX6_onwardAfter_78 : decode cX6_onwardAfter 78 = .ok (.iload_n 3, 1) := by decide +kernel
theorem dX6_onwardAfter_79 : decode cX6_onwardAfter 79 = .ok (.aaload, 1) := by decide +kernel
theorem dX6_onwardAfter_80 : decode cX6_onwardAfter 80 = .ok (.getfield 36, 3) := by decide +kernel
theorem dX6_onwardAfter_83 : decode cX6_onwardAfter 83 = .ok (.if_icmp .ge 6, 3) := by decide +kernel
theorem dX6_onwardAfter_86 : decode cX6_onwardAfter 86 = .ok (.iload 4, 2) := by decide +kernel
theorem dX6_onwardAfter_88 : decode cX6_onwardAfter 88 = .ok (.istore_n 3, 1) := by decide +kernel
theorem dX6_onwardAfter_89 : decode cX6_onwardAfter 89 = .ok (.iinc 4 1, 3) := by decide +kernel
theorem dX6_onwardAfter_92 : decode cX6_onwardAfter 92 = .ok (.goto (-87), 3) := by decide +kernel
theorem dX6_onwardAfter_95 : decode cX6_onwardAfter 95 = .ok (.iload_n 3, 1) := by decide +kernel
theorem dX6_onwardAfter_96 : decode cX6_onwardAfter 96 = .ok (.ireturn, 1) := by decide +kernel
theorem dX6_leaveAlone_0 : decode cX6_leaveAlone 0 = .ok (.iconst 0, 1) := by decide +kernel
theorem dX6_leaveAlone_1 : decode cX6_leaveAlone 1 = .ok (.istore_n 2, 1) := by decide +kernel
theorem dX6_leaveAlone_2 : decode cX6_leaveAlone 2 = .ok (.iload_n 2, 1) := by decide +kernel
theorem dX6_leaveAlone_3 : decode cX6_leaveAlone 3 = .ok (.aload_n 0, 1) := by decide +kernel
theorem dX6_leaveAlone_4 : decode cX6_leaveAlone 4 = .ok (.getfield 18, 3) := by decide +kernel
theorem dX6_leaveAlone_7 : decode cX6_leaveAlone 7 = .ok (.if_icmp .ge 40, 3) := by decide +kernel
theorem dX6_leaveAlone_10 : decode cX6_leaveAlone 10 = .ok (.aload_n 0, 1) := by decide +kernel
theorem dX6_leaveAlone_11 : decode cX6_leaveAlone 11 = .ok (.getfield 11, 3) := by decide +kernel
theorem dX6_leaveAlone_14 : decode cX6_leaveAlone 14 = .ok (.iload_n 2, 1) := by decide +kernel
theorem dX6_leaveAlone_15 : decode cX6_leaveAlone 15 = .ok (.aaload, 1) := by decide +kernel
theorem dX6_leaveAlone_16 : decode cX6_leaveAlone 16 = .ok (.invokevirtual 57, 3) := by decide +kernel
theorem dX6_leaveAlone_19 : decode cX6_leaveAlone 19 = .ok (.ifCond .eq 22, 3) := by decide +kernel
theorem dX6_leaveAlone_22 : decode cX6_leaveAlone 22 = .ok (.aload_n 0, 1) := by decide +kernel
theorem dX6_leaveAlone_23 : decode cX6_leaveAlone 23 = .ok (.getfield 11, 3) := by decide +kernel
theorem dX6_leaveAlone_26 : decode cX6_leaveAlone 26 = .ok (.iload_n 2, 1) := by decide +kernel
theorem dX6_leaveAlone_27 : decode cX6_leaveAlone 27 = .ok (.aaload, 1) := by decide +kernel
theorem dX6_leaveAlone_28 : decode cX6_leaveAlone 28 = .ok (.iload_n 2, 1) := by decide +kernel
theorem dX6_leaveAlone_29 : decode cX6_leaveAlone 29 = .ok (.iload_n 1, 1) := by decide +kernel
theorem dX6_leaveAlone_30 : decode cX6_leaveAlone 30 = .ok (.if_icmp .ne 7, 3) := by decide +kernel
theorem dX6_leaveAlone_33 : decode cX6_leaveAlone 33 = .ok (.iconst 1, 1) := by decide +kernel
theorem dX6_leaveAlone_34 : decode cX6_leaveAlone 34 = .ok (.goto 4, 3) := by decide +kernel
theorem dX6_leaveAlone_37 : decode cX6_leaveAlone 37 = .ok (.iconst 0, 1) := by decide +kernel
theorem dX6_leaveAlone_38 : decode cX6_leaveAlone 38 = .ok (.putfield 45, 3) := by decide +kernel
theorem dX6_leaveAlone_41 : decode cX6_leaveAlone 41 = .ok (.iinc 2 1, 3) := by decide +kernel
theorem dX6_leaveAlone_44 : decode cX6_leaveAlone 44 = .ok (.goto (-42), 3) := by decide +kernel
theorem dX6_leaveAlone_47 : decode cX6_leaveAlone 47 = .ok (.return_, 1) := by decide +kernel
theorem dX7_init_0 : decode cX7_init 0 = .ok (.aload_n 0, 1) := by decide +kernel
theorem dX7_init_1 : decode cX7_init 1 = .ok (.invokespecial 1, 3) := by decide +kernel
theorem dX7_init_4 : decode cX7_init 4 = .ok (.aload_n 0, 1) := by decide +kernel
theorem dX7_init_5 : decode cX7_init 5 = .ok (.new 7, 3) := by decide +kernel
theorem dX7_init_8 : decode cX7_init 8 = .ok (.dup, 1) := by decide +kernel
theorem dX7_init_9 : decode cX7_init 9 = .ok (.new 9, 3) := by decide +kernel
theorem dX7_init_12 : decode cX7_init 12 = .ok (.dup, 1) := by decide +kernel
theorem dX7_init_13 : decode cX7_init 13 = .ok (.invokespecial 11, 3) := by decide +kernel
theorem dX7_init_16 : decode cX7_init 16 = .ok (.bipush 60, 2) := by decide +kernel
theorem dX7_init_18 : decode cX7_init 18 = .ok (.invokespecial 14, 3) := by decide +kernel
theorem dX7_init_21 : decode cX7_init 21 = .ok (.putfield 17, 3) := by decide +kernel
theorem dX7_init_24 : decode cX7_init 24 = .ok (.aload_n 0, 1) := by decide +kernel
theorem dX7_init_25 : decode cX7_init 25 = .ok (.new 7, 3) := by decide +kernel
theorem dX7_init_28 : decode cX7_init 28 = .ok (.dup, 1) := by decide +kernel
theorem dX7_init_29 : decode cX7_init 29 = .ok (.new 9, 3) := by decide +kernel
theorem dX7_init_32 : decode cX7_init 32 = .ok (.dup, 1) := by decide +kernel
theorem dX7_init_33 : decode cX7_init 33 = .ok (.invokespecial 11, 3) := by decide +kernel
theorem dX7_init_36 : decode cX7_init 36 = .ok (.bipush 60, 2) := by decide +kernel
theorem dX7_init_38 : decode cX7_init 38 = .ok (.invokespecial 14, 3) := by decide +kernel
theorem dX7_init_41 : decode cX7_init 41 = .ok (.putfield 21, 3) := by decide +kernel
theorem dX7_init_44 : decode cX7_init 44 = .ok (.aload_n 0, 1) := by decide +kernel
theorem dX7_init_45 : decode cX7_init 45 = .ok (.new 24, 3) := by decide +kernel
theorem dX7_init_48 : decode cX7_init 48 = .ok (.dup, 1) := by decide +kernel
theorem dX7_init_49 : decode cX7_init 49 = .ok (.invokespecial 26, 3) := by decide +kernel
theorem dX7_init_52 : decode cX7_init 52 = .ok (.putfield 27, 3) := by decide +kernel
theorem dX7_init_55 : decode cX7_init 55 = .ok (.aload_n 0, 1) := by decide +kernel
theorem dX7_init_56 : decode cX7_init 56 = .ok (.new 31, 3) := by decide +kernel
theorem dX7_init_59 : decode cX7_init 59 = .ok (.dup, 1) := by decide +kernel
theorem dX7_init_60 : decode cX7_init 60 = .ok (.invokespecial 33, 3) := by decide +kernel
theorem dX7_init_63 : decode cX7_init 63 = .ok (.putfield 34, 3) := by decide +kernel
theorem dX7_init_66 : decode cX7_init 66 = .ok (.aload_n 0, 1) := by decide +kernel
theorem dX7_init_67 : decode cX7_init 67 = .ok (.new 38, 3) := by decide +kernel
theorem dX7_init_70 : decode cX7_init 70 = .ok (.dup, 1) := by decide +kernel
theorem dX7_init_71 : decode cX7_init 71 = .ok (.invokespecial 40, 3) := by decide +kernel
theorem dX7_init_74 : decode cX7_init 74 = .ok (.putfield 41, 3) := by decide +kernel
theorem dX7_init_77 : decode cX7_init 77 = .ok (.aload_n 0, 1) := by decide +kernel
theorem dX7_init_78 : decode cX7_init 78 = .ok (.iconst 3, 1) := by decide +kernel
theorem dX7_init_79 : decode cX7_init 79 = .ok (.newarray .int, 2) := by decide +kernel
theorem dX7_init_81 : decode cX7_init 81 = .ok (.putfield 45, 3) := by decide +kernel
theorem dX7_init_84 : decode cX7_init 84 = .ok (.return_, 1) := by decide +kernel
theorem dX7_line_0 : decode cX7_line 0 = .ok (.aload_n 0, 1) := by decide +kernel
theorem dX7_line_1 : decode cX7_line 1 = .ok (.getfield 17, 3) := by decide +kernel
theorem dX7_line_4 : decode cX7_line 4 = .ok (.getfield 49, 3) := by decide +kernel
theorem dX7_line_7 : decode cX7_line 7 = .ok (.bipush 8, 2) := by decide +kernel
theorem dX7_line_9 : decode cX7_line 9 = .ok (.if_icmp .lt 9, 3) := by decide +kernel
theorem dX7_line_12 : decode cX7_line 12 = .ok (.aload_n 0, 1) := by decide +kernel
theorem dX7_line_13 : decode cX7_line 13 = .ok (.iconst 2, 1) := by decide +kernel
theorem dX7_line_14 : decode cX7_line 14 = .ok (.invokevirtual 53, 3) := by decide +kernel
theorem dX7_line_17 : decode cX7_line 17 = .ok (.ireturn, 1) := by decide +kernel
theorem dX7_line_18 : decode cX7_line 18 = .ok (.aload_n 0, 1) := by decide +kernel
theorem dX7_line_19 : decode cX7_line 19 = .ok (.getfield 17, 3) := by decide +kernel
theorem dX7_line_22 : decode cX7_line 22 = .ok (.dup, 1) := by decide +kernel
theorem dX7_line_23 : decode cX7_line 23 = .ok (.getfield 49, 3) := by decide +kernel
theorem dX7_line_26 : decode cX7_line 26 = .ok (.iconst 1, 1) := by decide +kernel
theorem dX7_line_27 : decode cX7_line 27 = .ok (.iadd, 1) := by decide +kernel
theorem dX7_line_28 : decode cX7_line 28 = .ok (.putfield 49, 3) := by decide +kernel
theorem dX7_line_31 : decode cX7_line 31 = .ok (.aload_n 0, 1) := by decide +kernel
theorem dX7_line_32 : decode cX7_line 32 = .ok (.aload_n 0, 1) := by decide +kernel
theorem dX7_line_33 : decode cX7_line 33 = .ok (.getfield 17, 3) := by decide +kernel
theorem dX7_line_36 : decode cX7_line 36 = .ok (.getfield 49, 3) := by decide +kernel
theorem dX7_line_39 : decode cX7_line 39 = .ok (.iconst 1, 1) := by decide +kernel
theorem dX7_line_40 : decode cX7_line 40 = .ok (.isub, 1) := by decide +kernel
theorem dX7_line_41 : decode cX7_line 41 = .ok (.invokevirtual 57, 3) := by decide +kernel
theorem dX7_line_44 : decode cX7_line 44 = .ok (.ireturn, 1) := by decide +kernel
theorem dX7_wish_0 : decode cX7_wish 0 = .ok (.aload_n 0, 1) := by decide +kernel
theorem dX7_wish_1 : decode cX7_wish 1 = .ok (.iload_n 1, 1) := by decide +kernel
theorem dX7_wish_2 : decode cX7_wish 2 = .ok (.iload_n 2, 1) := by decide +kernel
theorem dX7_wish_3 : decode cX7_wish 3 = .ok (.iload_n 3, 1) := by decide +kernel
theorem dX7_wish_4 : decode cX7_wish 4 = .ok (.iload 4, 2) := by decide +kernel
theorem dX7_wish_6 : decode cX7_wish 6 = .ok (.iload 5, 2) := by decide +kernel
theorem dX7_wish_8 : decode cX7_wish 8 = .ok (.invokevirtual 60, 3) := by decide +kernel
theorem dX7_wish_11 : decode cX7_wish 11 = .ok (.ifCond .ne 9, 3) := by decide +kernel
theorem dX7_wish_14 : decode cX7_wish 14 = .ok (.aload_n 0, 1) := by decide +kernel
theorem dX7_wish_15 : decode cX7_wish 15 = .ok (.iconst 1, 1) := by decide +kernel
theorem dX7_wish_16 : decode cX7_wish 16 = .ok (.invokevirtual 53, 3) := by decide +kernel
theorem dX7_wish_19 : decode cX7_wish 19 = .ok (.ireturn, 1) := by decide +kernel
theorem dX7_wish_20 : decode cX7_wish 20 = .ok (.aload_n 0, 1) := by decide +kernel
theorem dX7_wish_21 : decode cX7_wish 21 = .ok (.getfield 17, 3) := by decide +kernel
theorem dX7_wish_24 : decode cX7_wish 24 = .ok (.getfield 64, 3) := by decide +kernel
theorem dX7_wish_27 : decode cX7_wish 27 = .ok (.invokevirtual 68, 3) := by decide +kernel
theorem dX7_wish_30 : decode cX7_wish 30 = .ok (.ifCond .eq 9, 3) := by decide +kernel
theorem dX7_wish_33 : decode cX7_wish 33 = .ok (.aload_n 0, 1) := by decide +kernel
theorem dX7_wish_34 : decode cX7_wish 34 = .ok (.iconst 2, 1) := by decide +kernel
theorem dX7_wish_35 : decode cX7_wish 35 = .ok (.invokevirtual 53, 3) := by decide +kernel
theorem dX7_wish_38 : decode cX7_wish 38 = .ok (.ireturn, 1) := by decide +kernel
theorem dX7_wish_39 : decode cX7_wish 39 = .ok (.aload_n 0, 1) := by decide +kernel
theorem dX7_wish_40 : decode cX7_wish 40 = .ok (.aload_n 0, 1) := by decide +kernel
theorem dX7_wish_41 : decode cX7_wish 41 = .ok (.getfield 17, 3) := by decide +kernel
theorem dX7_wish_44 : decode cX7_wish 44 = .ok (.getfield 64, 3) := by decide +kernel
theorem dX7_wish_47 : decode cX7_wish 47 = .ok (.iload_n 1, 1) := by decide +kernel
theorem dX7_wish_48 : decode cX7_wish 48 = .ok (.iload_n 2, 1) := by decide +kernel
theorem dX7_wish_49 : decode cX7_wish 49 = .ok (.iload_n 3, 1) := by decide +kernel
theorem dX7_wish_50 : decode cX7_wish 50 = .ok (.iload 4, 2) := by decide +kernel
theorem dX7_wish_52 : decode cX7_wish 52 = .ok (.iload 5, 2) := by decide +kernel
theorem dX7_wish_54 : decode cX7_wish 54 = .ok (.invokevirtual 72, 3) := by decide +kernel
theorem dX7_wish_57 : decode cX7_wish 57 = .ok (.invokevirtual 57, 3) := by decide +kernel
theorem dX7_wish_60 : decode cX7_wish 60 = .ok (.ireturn, 1) := by decide +kernel
theorem dX7_on_0 : decode cX7_on 0 = .ok (.aload_n 0, 1) := by decide +kernel
theorem dX7_on_1 : decode cX7_on 1 = .ok (.getfield 17, 3) := by decide +kernel
theorem dX7_on_4 : decode cX7_on 4 = .ok (.getfield 64, 3) := by decide +kernel
theorem dX7_on_7 : decode cX7_on 7 = .ok (.iload_n 1, 1) := by decide +kernel
theorem dX7_on_8 : decode cX7_on 8 = .ok (.invokevirtual 76, 3) := by decide +kernel
theorem dX7_on_11 : decode cX7_on 11 = .ok (.ifCond .ne 9, 3) := by decide +kernel
theorem dX7_on_14 : decode cX7_on 14 = .ok (.aload_n 0, 1) := by decide +kernel
theorem dX7_on_15 : decode cX7_on 15 = .ok (.iconst 1, 1) := by decide +kernel
theorem dX7_on_16 : decode cX7_on 16 = .ok (.invokevirtual 53, 3) := by decide +kernel
theorem dX7_on_19 : decode cX7_on 19 = .ok (.ireturn, 1) := by decide +kernel
theorem dX7_on_20 : decode cX7_on 20 = .ok (.aload_n 0, 1) := by decide +kernel
theorem dX7_on_21 : decode cX7_on 21 = .ok (.getfield 17, 3) := by decide +kernel
theorem dX7_on_24 : decode cX7_on 24 = .ok (.getfield 64, 3) := by decide +kernel
theorem dX7_on_27 : decode cX7_on 27 = .ok (.getfield 80, 3) := by decide +kernel
theorem dX7_on_30 : decode cX7_on 30 = .ok (.iload_n 1, 1) := by decide +kernel
theorem dX7_on_31 : decode cX7_on 31 = .ok (.aaload, 1) := by decide +kernel
theorem dX7_on_32 : decode cX7_on 32 = .ok (.astore_n 3, 1) := by decide +kernel
theorem dX7_on_33 : decode cX7_on 33 = .ok (.aload_n 3, 1) := by decide +kernel
theorem dX7_on_34 : decode cX7_on 34 = .ok (.getfield 84, 3) := by decide +kernel
theorem dX7_on_37 : decode cX7_on 37 = .ok (.iload_n 2, 1) := by decide +kernel
theorem dX7_on_38 : decode cX7_on 38 = .ok (.if_icmp .ne 7, 3) := by decide +kernel
theorem dX7_on_41 : decode cX7_on 41 = .ok (.iconst 0, 1) := by decide +kernel
theorem dX7_on_42 : decode cX7_on 42 = .ok (.goto 4, 3) := by decide +kernel
theorem dX7_on_45 : decode cX7_on 45 = .ok (.iconst 1, 1) := by decide +kernel
theorem dX7_on_46 : decode cX7_on 46 = .ok (.istore 4, 2) := by decide +kernel
theorem dX7_on_48 : decode cX7_on 48 = .ok (.aload_n 3, 1) := by decide +kernel
theorem dX7_on_49 : decode cX7_on 49 = .ok (.iload_n 2, 1) := by decide +kernel
theorem dX7_on_50 : decode cX7_on 50 = .ok (.putfield 84, 3) := by decide +kernel
theorem dX7_on_53 : decode cX7_on 53 = .ok (.aload_n 0, 1) := by decide +kernel
theorem dX7_on_54 : decode cX7_on 54 = .ok (.iload 4, 2) := by decide +kernel
theorem dX7_on_56 : decode cX7_on 56 = .ok (.invokevirtual 57, 3) := by decide +kernel
theorem dX7_on_59 : decode cX7_on 59 = .ok (.ireturn, 1) := by decide +kernel
theorem dX7_rank_0 : decode cX7_rank 0 = .ok (.aload_n 0, 1) := by decide +kernel
theorem dX7_rank_1 : decode cX7_rank 1 = .ok (.getfield 17, 3) := by decide +kernel
theorem dX7_rank_4 : decode cX7_rank 4 = .ok (.getfield 64, 3) := by decide +kernel
theorem dX7_rank_7 : decode cX7_rank 7 = .ok (.iload_n 1, 1) := by decide +kernel
theorem dX7_rank_8 : decode cX7_rank 8 = .ok (.invokevirtual 76, 3) := by decide +kernel
theorem dX7_rank_11 : decode cX7_rank 11 = .ok (.ifCond .eq 10, 3) := by decide +kernel
theorem dX7_rank_14 : decode cX7_rank 14 = .ok (.iload_n 2, 1) := by decide +kernel
theorem dX7_rank_15 : decode cX7_rank 15 = .ok (.invokestatic 90, 3) := by decide +kernel
theorem dX7_rank_18 : decode cX7_rank 18 = .ok (.ifCond .ne 9, 3) := by decide +kernel
theorem dX7_rank_21 : decode cX7_rank 21 = .ok (.aload_n 0, 1) := by decide +kernel
theorem dX7_rank_22 : decode cX7_rank 22 = .ok (.iconst 1, 1) := by decide +kernel
theorem dX7_rank_23 : decode cX7_rank 23 = .ok (.invokevirtual 53, 3) := by decide +kernel
theorem dX7_rank_26 : decode cX7_rank 26 = .ok (.ireturn, 1) := by decide +kernel
theorem dX7_rank_27 : decode cX7_rank 27 = .ok (.aload_n 0, 1) := by decide +kernel
theorem dX7_rank_28 : decode cX7_rank 28 = .ok (.getfield 17, 3) := by decide +kernel
theorem dX7_rank_31 : decode cX7_rank 31 = .ok (.getfield 64, 3) := by decide +kernel
theorem dX7_rank_34 : decode cX7_rank 34 = .ok (.getfield 80, 3) := by decide +kernel
theorem dX7_rank_37 : decode cX7_rank 37 = .ok (.iload_n 1, 1) := by decide +kernel
theorem dX7_rank_38 : decode cX7_rank 38 = .ok (.aaload, 1) := by decide +kernel
theorem dX7_rank_39 : decode cX7_rank 39 = .ok (.astore_n 3, 1) := by decide +kernel
theorem dX7_rank_40 : decode cX7_rank 40 = .ok (.aload_n 3, 1) := by decide +kernel
theorem dX7_rank_41 : decode cX7_rank 41 = .ok (.getfield 93, 3) := by decide +kernel
theorem dX7_rank_44 : decode cX7_rank 44 = .ok (.istore 4, 2) := by decide +kernel
theorem dX7_rank_46 : decode cX7_rank 46 = .ok (.aload_n 3, 1) := by decide +kernel
theorem dX7_rank_47 : decode cX7_rank 47 = .ok (.iload_n 2, 1) := by decide +kernel
theorem dX7_rank_48 : decode cX7_rank 48 = .ok (.putfield 93, 3) := by decide +kernel
theorem dX7_rank_51 : decode cX7_rank 51 = .ok (.aload_n 0, 1) := by decide +kernel
theorem dX7_rank_52 : decode cX7_rank 52 = .ok (.iload 4, 2) := by decide +kernel
theorem dX7_rank_54 : decode cX7_rank 54 = .ok (.invokevirtual 57, 3) := by decide +kernel
theorem dX7_rank_57 : decode cX7_rank 57 = .ok (.ireturn, 1) := by decide +kernel
theorem dX7_dial_0 : decode cX7_dial 0 = .ok (.aload_n 0, 1) := by decide +kernel
theorem dX7_dial_1 : decode cX7_dial 1 = .ok (.getfield 17, 3) := by decide +kernel
theorem dX7_dial_4 : decode cX7_dial 4 = .ok (.iload_n 1, 1) := by decide +kernel
theorem dX7_dial_5 : decode cX7_dial 5 = .ok (.invokevirtual 96, 3) := by decide +kernel
theorem dX7_dial_8 : decode cX7_dial 8 = .ok (.ifCond .eq 14, 3) := by decide +kernel
theorem dX7_dial_11 : decode cX7_dial 11 = .ok (.aload_n 0, 1) := by decide +kernel
theorem dX7_dial_12 : decode cX7_dial 12 = .ok (.getfield 17, 3) := by decide +kernel
theorem dX7_dial_15 : decode cX7_dial 15 = .ok (.iload_n 2, 1) := by decide +kernel
theorem dX7_dial_16 : decode cX7_dial 16 = .ok (.invokevirtual 96, 3) := by decide +kernel
theorem dX7_dial_19 : decode cX7_dial 19 = .ok (.ifCond .ne 9, 3) := by decide +kernel
theorem dX7_dial_22 : decode cX7_dial 22 = .ok (.aload_n 0, 1) := by decide +kernel
theorem dX7_dial_23 : decode cX7_dial 23 = .ok (.iconst 1, 1) := by decide +kernel
theorem dX7_dial_24 : decode cX7_dial 24 = .ok (.invokevirtual 53, 3) := by decide +kernel
theorem dX7_dial_27 : decode cX7_dial 27 = .ok (.ireturn, 1) := by decide +kernel
theorem dX7_dial_28 : decode cX7_dial 28 = .ok (.aload_n 0, 1) := by decide +kernel
theorem dX7_dial_29 : decode cX7_dial 29 = .ok (.getfield 17, 3) := by decide +kernel
theorem dX7_dial_32 : decode cX7_dial 32 = .ok (.invokevirtual 99, 3) := by decide +kernel
theorem dX7_dial_35 : decode cX7_dial 35 = .ok (.ifCond .ne 9, 3) := by decide +kernel
theorem dX7_dial_38 : decode cX7_dial 38 = .ok (.aload_n 0, 1) := by decide +kernel
theorem dX7_dial_39 : decode cX7_dial 39 = .ok (.iconst 2, 1) := by decide +kernel
theorem dX7_dial_40 : decode cX7_dial 40 = .ok (.invokevirtual 53, 3) := by decide +kernel
theorem dX7_dial_43 : decode cX7_dial 43 = .ok (.ireturn, 1) := by decide +kernel
theorem dX7_dial_44 : decode cX7_dial 44 = .ok (.aload_n 0, 1) := by decide +kernel
theorem dX7_dial_45 : decode cX7_dial 45 = .ok (.getfield 17, 3) := by decide +kernel
theorem dX7_dial_48 : decode cX7_dial 48 = .ok (.iload_n 1, 1) := by decide +kernel
theorem dX7_dial_49 : decode cX7_dial 49 = .ok (.invokevirtual 102, 3) := by decide +kernel
theorem dX7_dial_52 : decode cX7_dial 52 = .ok (.ifCond .ne 9, 3) := by decide +kernel
theorem dX7_dial_55 : decode cX7_dial 55 = .ok (.aload_n 0, 1) := by decide +kernel
theorem dX7_dial_56 : decode cX7_dial 56 = .ok (.iconst 3, 1) := by decide +kernel
theorem dX7_dial_57 : decode cX7_dial 57 = .ok (.invokevirtual 53, 3) := by decide +kernel
theorem dX7_dial_60 : decode cX7_dial 60 = .ok (.ireturn, 1) := by decide +kernel
theorem dX7_dial_61 : decode cX7_dial 61 = .ok (.aload_n 0, 1) := by decide +kernel
theorem dX7_dial_62 : decode cX7_dial 62 = .ok (.aload_n 0, 1) := by decide +kernel
theorem dX7_dial_63 : decode cX7_dial 63 = .ok (.getfield 17, 3) := by decide +kernel
theorem dX7_dial_66 : decode cX7_dial 66 = .ok (.iload_n 1, 1) := by decide +kernel
theorem dX7_dial_67 : decode cX7_dial 67 = .ok (.iload_n 2, 1) := by decide +kernel
theorem dX7_dial_68 : decode cX7_dial 68 = .ok (.invokevirtual 105, 3) := by decide +kernel
theorem dX7_dial_71 : decode cX7_dial 71 = .ok (.invokevirtual 57, 3) := by decide +kernel
theorem dX7_dial_74 : decode cX7_dial 74 = .ok (.ireturn, 1) := by decide +kernel
theorem dX7_take_0 : decode cX7_take 0 = .ok (.aload_n 0, 1) := by decide +kernel
theorem dX7_take_1 : decode cX7_take 1 = .ok (.getfield 17, 3) := by decide +kernel
theorem dX7_take_4 : decode cX7_take 4 = .ok (.iload_n 1, 1) := by decide +kernel
theorem dX7_take_5 : decode cX7_take 5 = .ok (.invokevirtual 96, 3) := by decide +kernel
theorem dX7_take_8 : decode cX7_take 8 = .ok (.ifCond .ne 9, 3) := by decide +kernel
theorem dX7_take_11 : decode cX7_take 11 = .ok (.aload_n 0, 1) := by decide +kernel
theorem dX7_take_12 : decode cX7_take 12 = .ok (.iconst 1, 1) := by decide +kernel
theorem dX7_take_13 : decode cX7_take 13 = .ok (.invokevirtual 53, 3) := by decide +kernel
theorem dX7_take_16 : decode cX7_take 16 = .ok (.ireturn, 1) := by decide +kernel
theorem dX7_take_17 : decode cX7_take 17 = .ok (.aload_n 0, 1) := by decide +kernel
theorem dX7_take_18 : decode cX7_take 18 = .ok (.getfield 17, 3) := by decide +kernel
theorem dX7_take_21 : decode cX7_take 21 = .ok (.iload_n 1, 1) := by decide +kernel
theorem dX7_take_22 : decode cX7_take 22 = .ok (.invokevirtual 109, 3) := by decide +kernel
theorem dX7_take_25 : decode cX7_take 25 = .ok (.ifCond .ne 9, 3) := by decide +kernel
theorem dX7_take_28 : decode cX7_take 28 = .ok (.aload_n 0, 1) := by decide +kernel
theorem dX7_take_29 : decode cX7_take 29 = .ok (.iconst 3, 1) := by decide +kernel
theorem dX7_take_30 : decode cX7_take 30 = .ok (.invokevirtual 53, 3) := by decide +kernel
theorem dX7_take_33 : decode cX7_take 33 = .ok (.ireturn, 1) := by decide +kernel
theorem dX7_take_34 : decode cX7_take 34 = .ok (.aload_n 0, 1) := by decide +kernel
theorem dX7_take_35 : decode cX7_take 35 = .ok (.aload_n 0, 1) := by decide +kernel
theorem dX7_take_36 : decode cX7_take 36 = .ok (.getfield 17, 3) := by decide +kernel
theorem dX7_take_39 : decode cX7_take 39 = .ok (.iload_n 1, 1) := by decide +kernel
theorem dX7_take_40 : decode cX7_take 40 = .ok (.invokevirtual 112, 3) := by decide +kernel
theorem dX7_take_43 : decode cX7_take 43 = .ok (.invokevirtual 57, 3) := by decide +kernel
theorem dX7_take_46 : decode cX7_take 46 = .ok (.ireturn, 1) := by decide +kernel
theorem dX7_down_0 : decode cX7_down 0 = .ok (.aload_n 0, 1) := by decide +kernel
theorem dX7_down_1 : decode cX7_down 1 = .ok (.getfield 17, 3) := by decide +kernel
theorem dX7_down_4 : decode cX7_down 4 = .ok (.iload_n 1, 1) := by decide +kernel
theorem dX7_down_5 : decode cX7_down 5 = .ok (.invokevirtual 96, 3) := by decide +kernel
theorem dX7_down_8 : decode cX7_down 8 = .ok (.ifCond .ne 9, 3) := by decide +kernel
theorem dX7_down_11 : decode cX7_down 11 = .ok (.aload_n 0, 1) := by decide +kernel
theorem dX7_down_12 : decode cX7_down 12 = .ok (.iconst 1, 1) := by decide +kernel
theorem dX7_down_13 : decode cX7_down 13 = .ok (.invokevirtual 53, 3) := by decide +kernel
theorem dX7_down_16 : decode cX7_down 16 = .ok (.ireturn, 1) := by decide +kernel
theorem dX7_down_17 : decode cX7_down 17 = .ok (.aload_n 0, 1) := by decide +kernel
theorem dX7_down_18 : decode cX7_down 18 = .ok (.getfield 17, 3) := by decide +kernel
theorem dX7_down_21 : decode cX7_down 21 = .ok (.iload_n 1, 1) := by decide +kernel
theorem dX7_down_22 : decode cX7_down 22 = .ok (.invokevirtual 115, 3) := by decide +kernel
theorem dX7_down_25 : decode cX7_down 25 = .ok (.ifCond .ne 9, 3) := by decide +kernel
theorem dX7_down_28 : decode cX7_down 28 = .ok (.aload_n 0, 1) := by decide +kernel
theorem dX7_down_29 : decode cX7_down 29 = .ok (.iconst 3, 1) := by decide +kernel
theorem dX7_down_30 : decode cX7_down 30 = .ok (.invokevirtual 53, 3) := by decide +kernel
theorem dX7_down_33 : decode cX7_down 33 = .ok (.ireturn, 1) := by decide +kernel
theorem dX7_down_34 : decode cX7_down 34 = .ok (.aload_n 0, 1) := by decide +kernel
theorem dX7_down_35 : decode cX7_down 35 = .ok (.aload_n 0, 1) := by decide +kernel
theorem dX7_down_36 : decode cX7_down 36 = .ok (.getfield 17, 3) := by decide +kernel
theorem dX7_down_39 : decode cX7_down 39 = .ok (.iload_n 1, 1) := by decide +kernel
theorem dX7_down_40 : decode cX7_down 40 = .ok (.invokevirtual 118, 3) := by decide +kernel
theorem dX7_down_43 : decode cX7_down 43 = .ok (.invokevirtual 57, 3) := by decide +kernel
theorem dX7_down_46 : decode cX7_down 46 = .ok (.ireturn, 1) := by decide +kernel
theorem dX7_tick_0 : decode cX7_tick 0 = .ok (.aload_n 0, 1) := by decide +kernel
theorem dX7_tick_1 : decode cX7_tick 1 = .ok (.getfield 17, 3) := by decide +kernel
theorem dX7_tick_4 : decode cX7_tick 4 = .ok (.getfield 121, 3) := by decide +kernel
theorem dX7_tick_7 : decode cX7_tick 7 = .ok (.sipush 1000, 3) := by decide +kernel
theorem dX7_tick_10 : decode cX7_tick 10 = .ok (.if_icmp .lt 9, 3) := by decide +kernel
theorem dX7_tick_13 : decode cX7_tick 13 = .ok (.aload_n 0, 1) := by decide +kernel
theorem dX7_tick_14 : decode cX7_tick 14 = .ok (.iconst 2, 1) := by decide +kernel
theorem dX7_tick_15 : decode cX7_tick 15 = .ok (.invokevirtual 53, 3) := by decide +kernel
theorem dX7_tick_18 : decode cX7_tick 18 = .ok (.ireturn, 1) := by decide +kernel
theorem dX7_tick_19 : decode cX7_tick 19 = .ok (.aload_n 0, 1) := by decide +kernel
theorem dX7_tick_20 : decode cX7_tick 20 = .ok (.getfield 17, 3) := by decide +kernel
theorem dX7_tick_23 : decode cX7_tick 23 = .ok (.invokevirtual 124, 3) := by decide +kernel
theorem dX7_tick_26 : decode cX7_tick 26 = .ok (.aload_n 0, 1) := by decide +kernel
theorem dX7_tick_27 : decode cX7_tick 27 = .ok (.aload_n 0, 1) := by decide +kernel
theorem dX7_tick_28 : decode cX7_tick 28 = .ok (.getfield 17, 3) := by decide +kernel
theorem dX7_tick_31 : decode cX7_tick 31 = .ok (.getfield 121, 3) := by decide +kernel
theorem dX7_tick_34 : decode cX7_tick 34 = .ok (.invokevirtual 57, 3) := by decide +kernel
theorem dX7_tick_37 : decode cX7_tick 37 = .ok (.ireturn, 1) := by decide +kernel
theorem dX7_image_0 : decode cX7_image 0 = .ok (.aload_n 0, 1) := by decide +kernel
theorem dX7_image_1 : decode cX7_image 1 = .ok (.getfield 21, 3) := by decide +kernel
theorem dX7_image_4 : decode cX7_image 4 = .ok (.aload_n 0, 1) := by decide +kernel
theorem dX7_image_5 : decode cX7_image 5 = .ok (.getfield 17, 3) := by decide +kernel
theorem dX7_image_8 : decode cX7_image 8 = .ok (.invokevirtual 127, 3) := by decide +kernel
theorem dX7_image_11 : decode cX7_image 11 = .ok (.aload_n 0, 1) := by decide +kernel
theorem dX7_image_12 : decode cX7_image 12 = .ok (.getfield 21, 3) := by decide +kernel
theorem dX7_image_15 : decode cX7_image 15 = .ok (.getfield 64, 3) := by decide +kernel
theorem dX7_image_18 : decode cX7_image 18 = .ok (.aload_n 0, 1) := by decide +kernel
theorem dX7_image_19 : decode cX7_image 19 = .ok (.getfield 17, 3) := by decide +kernel
theorem dX7_image_22 : decode cX7_image 22 = .ok (.getfield 64, 3) := by decide +kernel
theorem dX7_image_25 : decode cX7_image 25 = .ok (.invokevirtual 131, 3) := by decide +kernel
theorem dX7_image_28 : decode cX7_image 28 = .ok (.aload_n 0, 1) := by decide +kernel
theorem dX7_image_29 : decode cX7_image 29 = .ok (.iconst 1, 1) := by decide +kernel
theorem dX7_image_30 : decode cX7_image 30 = .ok (.putfield 134, 3) := by decide +kernel
theorem dX7_image_33 : decode cX7_image 33 = .ok (.aload_n 0, 1) := by decide +kernel
theorem dX7_image_34 : decode cX7_image 34 = .ok (.iconst 1, 1) := by decide +kernel
theorem dX7_image_35 : decode cX7_image 35 = .ok (.invokevirtual 57, 3) := by decide +kernel
theorem dX7_image_38 : decode cX7_image 38 = .ok (.ireturn, 1) := by decide +kernel
theorem dX7_restore_0 : decode cX7_restore 0 = .ok (.aload_n 0, 1) := by decide +kernel
theorem dX7_restore_1 : decode cX7_restore 1 = .ok (.getfield 137, 3) := by decide +kernel
theorem dX7_restore_4 : decode cX7_restore 4 = .ok (.bipush 10, 2) := by decide +kernel
theorem dX7_restore_6 : decode cX7_restore 6 = .ok (.if_icmp .lt 9, 3) := by decide +kernel
theorem dX7_restore_9 : decode cX7_restore 9 = .ok (.aload_n 0, 1) := by decide +kernel
theorem dX7_restore_10 : decode cX7_restore 10 = .ok (.iconst 2, 1) := by decide +kernel
theorem dX7_restore_11 : decode cX7_restore 11 = .ok (.invokevirtual 53, 3) := by decide +kernel
theorem dX7_restore_14 : decode cX7_restore 14 = .ok (.ireturn, 1) := by decide +kernel
theorem dX7_restore_15 : decode cX7_restore 15 = .ok (.aload_n 0, 1) := by decide +kernel
theorem dX7_restore_16 : decode cX7_restore 16 = .ok (.getfield 134, 3) := by decide +kernel
theorem dX7_restore_19 : decode cX7_restore 19 = .ok (.ifCond .ne 9, 3) := by decide +kernel
theorem dX7_restore_22 : decode cX7_restore 22 = .ok (.aload_n 0, 1) := by decide +kernel
theorem dX7_restore_23 : decode cX7_restore 23 = .ok (.iconst 3, 1) := by decide +kernel
theorem dX7_restore_24 : decode cX7_restore 24 = .ok (.invokevirtual 53, 3) := by decide +kernel
theorem dX7_restore_27 : decode cX7_restore 27 = .ok (.ireturn, 1) := by decide +kernel
theorem dX7_restore_28 : decode cX7_restore 28 = .ok (.aload_n 0, 1) := by decide +kernel
theorem dX7_restore_29 : decode cX7_restore 29 = .ok (.getfield 17, 3) := by decide +kernel
theorem dX7_restore_32 : decode cX7_restore 32 = .ok (.aload_n 0, 1) := by decide +kernel
theorem dX7_restore_33 : decode cX7_restore 33 = .ok (.getfield 21, 3) := by decide +kernel
theorem dX7_restore_36 : decode cX7_restore 36 = .ok (.invokevirtual 127, 3) := by decide +kernel
theorem dX7_restore_39 : decode cX7_restore 39 = .ok (.aload_n 0, 1) := by decide +kernel
theorem dX7_restore_40 : decode cX7_restore 40 = .ok (.getfield 17, 3) := by decide +kernel
theorem dX7_restore_43 : decode cX7_restore 43 = .ok (.getfield 64, 3) := by decide +kernel
theorem dX7_restore_46 : decode cX7_restore 46 = .ok (.aload_n 0, 1) := by decide +kernel
theorem dX7_restore_47 : decode cX7_restore 47 = .ok (.getfield 21, 3) := by decide +kernel
theorem dX7_restore_50 : decode cX7_restore 50 = .ok (.getfield 64, 3) := by decide +kernel
theorem dX7_restore_53 : decode cX7_restore 53 = .ok (.invokevirtual 131, 3) := by decide +kernel
theorem dX7_restore_56 : decode cX7_restore 56 = .ok (.aload_n 0, 1) := by decide +kernel
theorem dX7_restore_57 : decode cX7_restore 57 = .ok (.dup, 1) := by decide +kernel
theorem dX7_restore_58 : decode cX7_restore 58 = .ok (.getfield 137, 3) := by decide +kernel
theorem dX7_restore_61 : decode cX7_restore 61 = .ok (.iconst 1, 1) := by decide +kernel
theorem dX7_restore_62 : decode cX7_restore 62 = .ok (.iadd, 1) := by decide +kernel
theorem dX7_restore_63 : decode cX7_restore 63 = .ok (.putfield 137, 3) := by decide +kernel
theorem dX7_restore_66 : decode cX7_restore 66 = .ok (.aload_n 0, 1) := by decide +kernel
theorem dX7_restore_67 : decode cX7_restore 67 = .ok (.aload_n 0, 1) := by decide +kernel
theorem dX7_restore_68 : decode cX7_restore 68 = .ok (.getfield 17, 3) := by decide +kernel
theorem dX7_restore_71 : decode cX7_restore 71 = .ok (.getfield 121, 3) := by decide +kernel
theorem dX7_restore_74 : decode cX7_restore 74 = .ok (.invokevirtual 57, 3) := by decide +kernel
theorem dX7_restore_77 : decode cX7_restore 77 = .ok (.ireturn, 1) := by decide +kernel
theorem dX7_wishTold_0 : decode cX7_wishTold 0 = .ok (.aload_n 0, 1) := by decide +kernel
theorem dX7_wishTold_1 : decode cX7_wishTold 1 = .ok (.getfield 17, 3) := by decide +kernel
theorem dX7_wishTold_4 : decode cX7_wishTold 4 = .ok (.getfield 64, 3) := by decide +kernel
theorem dX7_wishTold_7 : decode cX7_wishTold 7 = .ok (.iload_n 1, 1) := by decide +kernel
theorem dX7_wishTold_8 : decode cX7_wishTold 8 = .ok (.invokevirtual 76, 3) := by decide +kernel
theorem dX7_wishTold_11 : decode cX7_wishTold 11 = .ok (.ifCond .ne 5, 3) := by decide +kernel
theorem dX7_wishTold_14 : decode cX7_wishTold 14 = .ok (.iconst (-1), 1) := by decide +kernel
theorem dX7_wishTold_15 : decode cX7_wishTold 15 = .ok (.ireturn, 1) := by decide +kernel
theorem dX7_wishTold_16 : decode cX7_wishTold 16 = .ok (.aload_n 0, 1) := by decide +kernel
theorem dX7_wishTold_17 : decode cX7_wishTold 17 = .ok (.getfield 17, 3) := by decide +kernel
theorem dX7_wishTold_20 : decode cX7_wishTold 20 = .ok (.getfield 64, 3) := by decide +kernel
theorem dX7_wishTold_23 : decode cX7_wishTold 23 = .ok (.getfield 80, 3) := by decide +kernel
theorem dX7_wishTold_26 : decode cX7_wishTold 26 = .ok (.iload_n 1, 1) := by decide +kernel
theorem dX7_wishTold_27 : decode cX7_wishTold 27 = .ok (.aaload, 1) := by decide +kernel
theorem dX7_wishTold_28 : decode cX7_wishTold 28 = .ok (.astore_n 3, 1) := by decide +kernel
theorem dX7_wishTold_29 : decode cX7_wishTold 29 = .ok (.iload_n 2, 1) := by decide +kernel
theorem dX7_wishTold_30 : decode cX7_wishTold 30 = .ok (.tableswitch 76 0 5 #[38, 43, 48, 53, 58, 63], 38) := by decide +kernel
theorem dX7_wishTold_68 : decode cX7_wishTold 68 = .ok (.aload_n 3, 1) := by decide +kernel
theorem dX7_wishTold_69 : decode cX7_wishTold 69 = .ok (.getfield 140, 3) := by decide +kernel
theorem dX7_wishTold_72 : decode cX7_wishTold 72 = .ok (.ireturn, 1) := by decide +kernel
theorem dX7_wishTold_73 : decode cX7_wishTold 73 = .ok (.aload_n 3, 1) := by decide +kernel
theorem dX7_wishTold_74 : decode cX7_wishTold 74 = .ok (.getfield 143, 3) := by decide +kernel
theorem dX7_wishTold_77 : decode cX7_wishTold 77 = .ok (.ireturn, 1) := by decide +kernel
theorem dX7_wishTold_78 : decode cX7_wishTold 78 = .ok (.aload_n 3, 1) := by decide +kernel
theorem dX7_wishTold_79 : decode cX7_wishTold 79 = .ok (.getfield 93, 3) := by decide +kernel
theorem dX7_wishTold_82 : decode cX7_wishTold 82 = .ok (.ireturn, 1) := by decide +kernel
theorem dX7_wishTold_83 : decode cX7_wishTold 83 = .ok (.aload_n 3, 1) := by decide +kernel
theorem dX7_wishTold_84 : decode cX7_wishTold 84 = .ok (.getfield 146, 3) := by decide +kernel
theorem dX7_wishTold_87 : decode cX7_wishTold 87 = .ok (.ireturn, 1) := by decide +kernel
theorem dX7_wishTold_88 : decode cX7_wishTold 88 = .ok (.aload_n 3, 1) := by decide +kernel
theorem dX7_wishTold_89 : decode cX7_wishTold 89 = .ok (.getfield 149, 3) := by decide +kernel
theorem dX7_wishTold_92 : decode cX7_wishTold 92 = .ok (.ireturn, 1) := by decide +kernel
theorem dX7_wishTold_93 : decode cX7_wishTold 93 = .ok (.aload_n 3, 1) := by decide +kernel
theorem dX7_wishTold_94 : decode cX7_wishTold 94 = .ok (.getfield 84, 3) := by decide +kernel
theorem dX7_wishTold_97 : decode cX7_wishTold 97 = .ok (.ifCond .eq 7, 3) := by decide +kernel
theorem dX7_wishTold_100 : decode cX7_wishTold 100 = .ok (.iconst 1, 1) := by decide +kernel
theorem dX7_wishTold_101 : decode cX7_wishTold 101 = .ok (.goto 4, 3) := by decide +kernel
theorem dX7_wishTold_104 : decode cX7_wishTold 104 = .ok (.iconst 0, 1) := by decide +kernel
theorem dX7_wishTold_105 : decode cX7_wishTold 105 = .ok (.ireturn, 1) := by decide +kernel
theorem dX7_wishTold_106 : decode cX7_wishTold 106 = .ok (.iconst (-1), 1) := by decide +kernel
theorem dX7_wishTold_107 : decode cX7_wishTold 107 = .ok (.ireturn, 1) := by decide +kernel
theorem dX7_lineTold_0 : decode cX7_lineTold 0 = .ok (.aload_n 0, 1) := by decide +kernel
theorem dX7_lineTold_1 : decode cX7_lineTold 1 = .ok (.getfield 17, 3) := by decide +kernel
theorem dX7_lineTold_4 : decode cX7_lineTold 4 = .ok (.iload_n 1, 1) := by decide +kernel
theorem dX7_lineTold_5 : decode cX7_lineTold 5 = .ok (.invokevirtual 96, 3) := by decide +kernel
theorem dX7_lineTold_8 : decode cX7_lineTold 8 = .ok (.ifCond .ne 5, 3) := by decide +kernel
theorem dX7_lineTold_11 : decode cX7_lineTold 11 = .ok (.iconst (-1), 1) := by decide +kernel
theorem dX7_lineTold_12 : decode cX7_lineTold 12 = .ok (.ireturn, 1) := by decide +kernel
theorem dX7_lineTold_13 : decode cX7_lineTold 13 = .ok (.iload_n 2, 1) := by decide +kernel
theorem dX7_lineTold_14 : decode cX7_lineTold 14 = .ok (.tableswitch 93 0 4 #[34, 44, 54, 64, 81], 34) := by decide +kernel
theorem dX7_lineTold_48 : decode cX7_lineTold 48 = .ok (.aload_n 0, 1) := by decide +kernel
theorem dX7_lineTold_49 : decode cX7_lineTold 49 = .ok (.getfield 17, 3) := by decide +kernel
theorem dX7_lineTold_52 : decode cX7_lineTold 52 = .ok (.getfield 152, 3) := by decide +kernel
theorem dX7_lineTold_55 : decode cX7_lineTold 55 = .ok (.iload_n 1, 1) := by decide +kernel
theorem dX7_lineTold_56 : decode cX7_lineTold 56 = .ok (.iaload, 1) := by decide +kernel
theorem dX7_lineTold_57 : decode cX7_lineTold 57 = .ok (.ireturn, 1) := by decide +kernel
theorem dX7_lineTold_58 : decode cX7_lineTold 58 = .ok (.aload_n 0, 1) := by decide +kernel
theorem dX7_lineTold_59 : decode cX7_lineTold 59 = .ok (.getfield 17, 3) := by decide +kernel
theorem dX7_lineTold_62 : decode cX7_lineTold 62 = .ok (.getfield 155, 3) := by decide +kernel
theorem dX7_lineTold_65 : decode cX7_lineTold 65 = .ok (.iload_n 1, 1) := by decide +kernel
theorem dX7_lineTold_66 : decode cX7_lineTold 66 = .ok (.iaload, 1) := by decide +kernel
theorem dX7_lineTold_67 : decode cX7_lineTold 67 = .ok (.ireturn, 1) := by decide +kernel
theorem dX7_lineTold_68 : decode cX7_lineTold 68 = .ok (.aload_n 0, 1) := by decide +kernel
theorem dX7_lineTold_69 : decode cX7_lineTold 69 = .ok (.getfield 17, 3) := by decide +kernel
theorem dX7_lineTold_72 : decode cX7_lineTold 72 = .ok (.getfield 158, 3) := by decide +kernel
theorem dX7_lineTold_75 : decode cX7_lineTold 75 = .ok (.iload_n 1, 1) := by decide +kernel
theorem dX7_lineTold_76 : decode cX7_lineTold 76 = .ok (.iaload, 1) := by decide +kernel
theorem dX7_lineTold_77 : decode cX7_lineTold 77 = .ok (.ireturn, 1) := by decide +kernel
theorem dX7_lineTold_78 : decode cX7_lineTold 78 = .ok (.aload_n 0, 1) := by decide +kernel
theorem dX7_lineTold_79 : decode cX7_lineTold 79 = .ok (.getfield 17, 3) := by decide +kernel
theorem dX7_lineTold_82 : decode cX7_lineTold 82 = .ok (.iload_n 1, 1) := by decide +kernel
theorem dX7_lineTold_83 : decode cX7_lineTold 83 = .ok (.invokevirtual 109, 3) := by decide +kernel
theorem dX7_lineTold_86 : decode cX7_lineTold 86 = .ok (.ifCond .eq 7, 3) := by decide +kernel
theorem dX7_lineTold_89 : decode cX7_lineTold 89 = .ok (.iconst 1, 1) := by decide +kernel
theorem dX7_lineTold_90 : decode cX7_lineTold 90 = .ok (.goto 4, 3) := by decide +kernel
theorem dX7_lineTold_93 : decode cX7_lineTold 93 = .ok (.iconst 0, 1) := by decide +kernel
theorem dX7_lineTold_94 : decode cX7_lineTold 94 = .ok (.ireturn, 1) := by decide +kernel
theorem dX7_lineTold_95 : decode cX7_lineTold 95 = .ok (.aload_n 0, 1) := by decide +kernel
theorem dX7_lineTold_96 : decode cX7_lineTold 96 = .ok (.getfield 17, 3) := by decide +kernel
theorem dX7_lineTold_99 : decode cX7_lineTold 99 = .ok (.getfield 64, 3) := by decide +kernel
theorem dX7_lineTold_102 : decode cX7_lineTold 102 = .ok (.iload_n 1, 1) := by decide +kernel
theorem dX7_lineTold_103 : decode cX7_lineTold 103 = .ok (.invokevirtual 161, 3) := by decide +kernel
theorem dX7_lineTold_106 : decode cX7_lineTold 106 = .ok (.ireturn, 1) := by decide +kernel
theorem dX7_lineTold_107 : decode cX7_lineTold 107 = .ok (.iload_n 2, 1) := by decide +kernel
theorem dX7_lineTold_108 : decode cX7_lineTold 108 = .ok (.iconst 5, 1) := by decide +kernel
theorem dX7_lineTold_109 : decode cX7_lineTold 109 = .ok (.if_icmp .ge 7, 3) := by decide +kernel
theorem dX7_lineTold_112 : decode cX7_lineTold 112 = .ok (.iconst (-1), 1) := by decide +kernel
theorem dX7_lineTold_113 : decode cX7_lineTold 113 = .ok (.goto 17, 3) := by decide +kernel
theorem dX7_lineTold_116 : decode cX7_lineTold 116 = .ok (.aload_n 0, 1) := by decide +kernel
theorem dX7_lineTold_117 : decode cX7_lineTold 117 = .ok (.getfield 17, 3) := by decide +kernel
theorem dX7_lineTold_120 : decode cX7_lineTold 120 = .ok (.getfield 64, 3) := by decide +kernel
theorem dX7_lineTold_123 : decode cX7_lineTold 123 = .ok (.iload_n 1, 1) := by decide +kernel
theorem dX7_lineTold_124 : decode cX7_lineTold 124 = .ok (.iload_n 2, 1) := by decide +kernel
theorem dX7_lineTold_125 : decode cX7_lineTold 125 = .ok (.iconst 5, 1) := by decide +kernel
theorem dX7_lineTold_126 : decode cX7_lineTold 126 = .ok (.isub, 1) := by decide +kernel
theorem dX7_lineTold_127 : decode cX7_lineTold 127 = .ok (.invokevirtual 164, 3) := by decide +kernel
theorem dX7_lineTold_130 : decode cX7_lineTold 130 = .ok (.ireturn, 1) := by decide +kernel
theorem dX7_call_0 : decode cX7_call 0 = .ok (.aload_n 0, 1) := by decide +kernel
theorem dX7_call_1 : decode cX7_call 1 = .ok (.getfield 17, 3) := by decide +kernel
theorem dX7_call_4 : decode cX7_call 4 = .ok (.iload_n 1, 1) := by decide +kernel
theorem dX7_call_5 : decode cX7_call 5 = .ok (.invokevirtual 167, 3) := by decide +kernel
theorem dX7_call_8 : decode cX7_call 8 = .ok (.ifCond .ne 5, 3) := by decide +kernel
theorem dX7_call_11 : decode cX7_call 11 = .ok (.iconst (-1), 1) := by decide +kernel
theorem dX7_call_12 : decode cX7_call 12 = .ok (.ireturn, 1) := by decide +kernel
theorem dX7_call_13 : decode cX7_call 13 = .ok (.aload_n 0, 1) := by decide +kernel
theorem dX7_call_14 : decode cX7_call 14 = .ok (.getfield 17, 3) := by decide +kernel
theorem dX7_call_17 : decode cX7_call 17 = .ok (.getfield 170, 3) := by decide +kernel
theorem dX7_call_20 : decode cX7_call 20 = .ok (.iload_n 1, 1) := by decide +kernel
theorem dX7_call_21 : decode cX7_call 21 = .ok (.aaload, 1) := by decide +kernel
theorem dX7_call_22 : decode cX7_call 22 = .ok (.astore_n 3, 1) := by decide +kernel
theorem dX7_call_23 : decode cX7_call 23 = .ok (.iload_n 2, 1) := by decide +kernel
theorem dX7_call_24 : decode cX7_call 24 = .ok (.tableswitch 88 0 7 #[48, 53, 58, 63, 68, 73, 78, 83], 48) := by decide +kernel
theorem dX7_call_72 : decode cX7_call 72 = .ok (.aload_n 3, 1) := by decide +kernel
theorem dX7_call_73 : decode cX7_call 73 = .ok (.getfield 174, 3) := by decide +kernel
theorem dX7_call_76 : decode cX7_call 76 = .ok (.ireturn, 1) := by decide +kernel
theorem dX7_call_77 : decode cX7_call 77 = .ok (.aload_n 3, 1) := by decide +kernel
theorem dX7_call_78 : decode cX7_call 78 = .ok (.getfield 179, 3) := by decide +kernel
theorem dX7_call_81 : decode cX7_call 81 = .ok (.ireturn, 1) := by decide +kernel
theorem dX7_call_82 : decode cX7_call 82 = .ok (.aload_n 3, 1) := by decide +kernel
theorem dX7_call_83 : decode cX7_call 83 = .ok (.getfield 182, 3) := by decide +kernel
theorem dX7_call_86 : decode cX7_call 86 = .ok (.ireturn, 1) := by decide +kernel
theorem dX7_call_87 : decode cX7_call 87 = .ok (.aload_n 3, 1) := by decide +kernel
theorem dX7_call_88 : decode cX7_call 88 = .ok (.getfield 185, 3) := by decide +kernel
theorem dX7_call_91 : decode cX7_call 91 = .ok (.ireturn, 1) := by decide +kernel
theorem dX7_call_92 : decode cX7_call 92 = .ok (.aload_n 3, 1) := by decide +kernel
theorem dX7_call_93 : decode cX7_call 93 = .ok (.getfield 188, 3) := by decide +kernel
theorem dX7_call_96 : decode cX7_call 96 = .ok (.ireturn, 1) := by decide +kernel
theorem dX7_call_97 : decode cX7_call 97 = .ok (.aload_n 3, 1) := by decide +kernel
theorem dX7_call_98 : decode cX7_call 98 = .ok (.getfield 191, 3) := by decide +kernel
theorem dX7_call_101 : decode cX7_call 101 = .ok (.ireturn, 1) := by decide +kernel
theorem dX7_call_102 : decode cX7_call 102 = .ok (.aload_n 3, 1) := by decide +kernel
theorem dX7_call_103 : decode cX7_call 103 = .ok (.getfield 194, 3) := by decide +kernel
theorem dX7_call_106 : decode cX7_call 106 = .ok (.ireturn, 1) := by decide +kernel
theorem dX7_call_107 : decode cX7_call 107 = .ok (.aload_n 3, 1) := by decide +kernel
theorem dX7_call_108 : decode cX7_call 108 = .ok (.getfield 197, 3) := by decide +kernel
theorem dX7_call_111 : decode cX7_call 111 = .ok (.ireturn, 1) := by decide +kernel
theorem dX7_call_112 : decode cX7_call 112 = .ok (.iconst (-1), 1) := by decide +kernel
theorem dX7_call_113 : decode cX7_call 113 = .ok (.ireturn, 1) := by decide +kernel
theorem dX7_row_0 : decode cX7_row 0 = .ok (.aload_n 0, 1) := by decide +kernel
theorem dX7_row_1 : decode cX7_row 1 = .ok (.getfield 17, 3) := by decide +kernel
theorem dX7_row_4 : decode cX7_row 4 = .ok (.iload_n 1, 1) := by decide +kernel
theorem dX7_row_5 : decode cX7_row 5 = .ok (.invokevirtual 167, 3) := by decide +kernel
theorem dX7_row_8 : decode cX7_row 8 = .ok (.ifCond .eq 19, 3) := by decide +kernel
theorem dX7_row_11 : decode cX7_row 11 = .ok (.aload_n 0, 1) := by decide +kernel
theorem dX7_row_12 : decode cX7_row 12 = .ok (.getfield 17, 3) := by decide +kernel
theorem dX7_row_15 : decode cX7_row 15 = .ok (.getfield 170, 3) := by decide +kernel
theorem dX7_row_18 : decode cX7_row 18 = .ok (.iload_n 1, 1) := by decide +kernel
theorem dX7_row_19 : decode cX7_row 19 = .ok (.aaload, 1) := by decide +kernel
theorem dX7_row_20 : decode cX7_row 20 = .ok (.iload_n 2, 1) := by decide +kernel
theorem dX7_row_21 : decode cX7_row 21 = .ok (.invokevirtual 200, 3) := by decide +kernel
theorem dX7_row_24 : decode cX7_row 24 = .ok (.goto 4, 3) := by decide +kernel
theorem dX7_row_27 : decode cX7_row 27 = .ok (.iconst (-1), 1) := by decide +kernel
theorem dX7_row_28 : decode cX7_row 28 = .ok (.ireturn, 1) := by decide +kernel
theorem dX7_piece_0 : decode cX7_piece 0 = .ok (.aload_n 0, 1) := by decide +kernel
theorem dX7_piece_1 : decode cX7_piece 1 = .ok (.getfield 17, 3) := by decide +kernel
theorem dX7_piece_4 : decode cX7_piece 4 = .ok (.iload_n 1, 1) := by decide +kernel
theorem dX7_piece_5 : decode cX7_piece 5 = .ok (.invokevirtual 167, 3) := by decide +kernel
theorem dX7_piece_8 : decode cX7_piece 8 = .ok (.ifCond .eq 19, 3) := by decide +kernel
theorem dX7_piece_11 : decode cX7_piece 11 = .ok (.aload_n 0, 1) := by decide +kernel
theorem dX7_piece_12 : decode cX7_piece 12 = .ok (.getfield 17, 3) := by decide +kernel
theorem dX7_piece_15 : decode cX7_piece 15 = .ok (.getfield 170, 3) := by decide +kernel
theorem dX7_piece_18 : decode cX7_piece 18 = .ok (.iload_n 1, 1) := by decide +kernel
theorem dX7_piece_19 : decode cX7_piece 19 = .ok (.aaload, 1) := by decide +kernel
theorem dX7_piece_20 : decode cX7_piece 20 = .ok (.iload_n 2, 1) := by decide +kernel
theorem dX7_piece_21 : decode cX7_piece 21 = .ok (.invokevirtual 203, 3) := by decide +kernel
theorem dX7_piece_24 : decode cX7_piece 24 = .ok (.goto 4, 3) := by decide +kernel
theorem dX7_piece_27 : decode cX7_piece 27 = .ok (.iconst (-1), 1) := by decide +kernel
theorem dX7_piece_28 : decode cX7_piece 28 = .ok (.ireturn, 1) := by decide +kernel
theorem dX7_acted_0 : decode cX7_acted 0 = .ok (.aload_n 0, 1) := by decide +kernel
theorem dX7_acted_1 : decode cX7_acted 1 = .ok (.getfield 17, 3) := by decide +kernel
theorem dX7_acted_4 : decode cX7_acted 4 = .ok (.iload_n 1, 1) := by decide +kernel
theorem dX7_acted_5 : decode cX7_acted 5 = .ok (.invokevirtual 167, 3) := by decide +kernel
theorem dX7_acted_8 : decode cX7_acted 8 = .ok (.ifCond .eq 19, 3) := by decide +kernel
theorem dX7_acted_11 : decode cX7_acted 11 = .ok (.aload_n 0, 1) := by decide +kernel
theorem dX7_acted_12 : decode cX7_acted 12 = .ok (.getfield 17, 3) := by decide +kernel
theorem dX7_acted_15 : decode cX7_acted 15 = .ok (.getfield 170, 3) := by decide +kernel
theorem dX7_acted_18 : decode cX7_acted 18 = .ok (.iload_n 1, 1) := by decide +kernel
theorem dX7_acted_19 : decode cX7_acted 19 = .ok (.aaload, 1) := by decide +kernel
theorem dX7_acted_20 : decode cX7_acted 20 = .ok (.iload_n 2, 1) := by decide +kernel
theorem dX7_acted_21 : decode cX7_acted 21 = .ok (.invokevirtual 206, 3) := by decide +kernel
theorem dX7_acted_24 : decode cX7_acted 24 = .ok (.goto 4, 3) := by decide +kernel
theorem dX7_acted_27 : decode cX7_acted 27 = .ok (.iconst (-1), 1) := by decide +kernel
theorem dX7_acted_28 : decode cX7_acted 28 = .ok (.ireturn, 1) := by decide +kernel
theorem dX7_tells_0 : decode cX7_tells 0 = .ok (.aload_n 0, 1) := by decide +kernel
theorem dX7_tells_1 : decode cX7_tells 1 = .ok (.getfield 17, 3) := by decide +kernel
theorem dX7_tells_4 : decode cX7_tells 4 = .ok (.iload_n 1, 1) := by decide +kernel
theorem dX7_tells_5 : decode cX7_tells 5 = .ok (.invokevirtual 167, 3) := by decide +kernel
theorem dX7_tells_8 : decode cX7_tells 8 = .ok (.ifCond .eq 14, 3) := by decide +kernel
theorem dX7_tells_11 : decode cX7_tells 11 = .ok (.aload_n 0, 1) := by decide +kernel
theorem dX7_tells_12 : decode cX7_tells 12 = .ok (.getfield 17, 3) := by decide +kernel
theorem dX7_tells_15 : decode cX7_tells 15 = .ok (.iload_n 2, 1) := by decide +kernel
theorem dX7_tells_16 : decode cX7_tells 16 = .ok (.invokevirtual 96, 3) := by decide +kernel
theorem dX7_tells_19 : decode cX7_tells 19 = .ok (.ifCond .ne 5, 3) := by decide +kernel
theorem dX7_tells_22 : decode cX7_tells 22 = .ok (.iconst (-1), 1) := by decide +kernel
theorem dX7_tells_23 : decode cX7_tells 23 = .ok (.ireturn, 1) := by decide +kernel
theorem dX7_tells_24 : decode cX7_tells 24 = .ok (.aload_n 0, 1) := by decide +kernel
theorem dX7_tells_25 : decode cX7_tells 25 = .ok (.getfield 17, 3) := by decide +kernel
theorem dX7_tells_28 : decode cX7_tells 28 = .ok (.aload_n 0, 1) := by decide +kernel
theorem dX7_tells_29 : decode cX7_tells 29 = .ok (.getfield 17, 3) := by decide +kernel
theorem dX7_tells_32 : decode cX7_tells 32 = .ok (.getfield 170, 3) := by decide +kernel
theorem dX7_tells_35 : decode cX7_tells 35 = .ok (.iload_n 1, 1) := by decide +kernel
theorem dX7_tells_36 : decode cX7_tells 36 = .ok (.aaload, 1) := by decide +kernel
theorem dX7_tells_37 : decode cX7_tells 37 = .ok (.iload_n 2, 1) := by decide +kernel
theorem dX7_tells_38 : decode cX7_tells 38 = .ok (.invokevirtual 209, 3) := by decide +kernel
theorem dX7_tells_41 : decode cX7_tells 41 = .ok (.ifCond .eq 7, 3) := by decide +kernel
theorem dX7_tells_44 : decode cX7_tells 44 = .ok (.iconst 1, 1) := by decide +kernel
theorem dX7_tells_45 : decode cX7_tells 45 = .ok (.goto 4, 3) := by decide +kernel
theorem dX7_tells_48 : decode cX7_tells 48 = .ok (.iconst 0, 1) := by decide +kernel
theorem dX7_tells_49 : decode cX7_tells 49 = .ok (.ireturn, 1) := by decide +kernel
theorem dX7_backs_0 : decode cX7_backs 0 = .ok (.iload_n 1, 1) := by decide +kernel
theorem dX7_backs_1 : decode cX7_backs 1 = .ok (.ifCond .lt 14, 3) := by decide +kernel
theorem dX7_backs_4 : decode cX7_backs 4 = .ok (.iload_n 1, 1) := by decide +kernel
theorem dX7_backs_5 : decode cX7_backs 5 = .ok (.aload_n 0, 1) := by decide +kernel
theorem dX7_backs_6 : decode cX7_backs 6 = .ok (.getfield 17, 3) := by decide +kernel
theorem dX7_backs_9 : decode cX7_backs 9 = .ok (.getfield 213, 3) := by decide +kernel
theorem dX7_backs_12 : decode cX7_backs 12 = .ok (.if_icmp .lt 5, 3) := by decide +kernel
theorem dX7_backs_15 : decode cX7_backs 15 = .ok (.iconst (-1), 1) := by decide +kernel
theorem dX7_backs_16 : decode cX7_backs 16 = .ok (.ireturn, 1) := by decide +kernel
theorem dX7_backs_17 : decode cX7_backs 17 = .ok (.iload_n 2, 1) := by decide +kernel
theorem dX7_backs_18 : decode cX7_backs 18 = .ok (.lookupswitch 46 #[(0, 26), (1, 36)], 26) := by decide +kernel
theorem dX7_backs_44 : decode cX7_backs 44 = .ok (.aload_n 0, 1) := by decide +kernel
theorem dX7_backs_45 : decode cX7_backs 45 = .ok (.getfield 17, 3) := by decide +kernel
theorem dX7_backs_48 : decode cX7_backs 48 = .ok (.getfield 216, 3) := by decide +kernel
theorem dX7_backs_51 : decode cX7_backs 51 = .ok (.iload_n 1, 1) := by decide +kernel
theorem dX7_backs_52 : decode cX7_backs 52 = .ok (.iaload, 1) := by decide +kernel
theorem dX7_backs_53 : decode cX7_backs 53 = .ok (.ireturn, 1) := by decide +kernel
theorem dX7_backs_54 : decode cX7_backs 54 = .ok (.aload_n 0, 1) := by decide +kernel
theorem dX7_backs_55 : decode cX7_backs 55 = .ok (.getfield 17, 3) := by decide +kernel
theorem dX7_backs_58 : decode cX7_backs 58 = .ok (.getfield 219, 3) := by decide +kernel
theorem dX7_backs_61 : decode cX7_backs 61 = .ok (.iload_n 1, 1) := by decide +kernel
theorem dX7_backs_62 : decode cX7_backs 62 = .ok (.iaload, 1) := by decide +kernel
theorem dX7_backs_63 : decode cX7_backs 63 = .ok (.ireturn, 1) := by decide +kernel
theorem dX7_backs_64 : decode cX7_backs 64 = .ok (.iconst (-1), 1) := by decide +kernel
theorem dX7_backs_65 : decode cX7_backs 65 = .ok (.ireturn, 1) := by decide +kernel
theorem dX7_judge_0 : decode cX7_judge 0 = .ok (.aload_n 0, 1) := by decide +kernel
theorem dX7_judge_1 : decode cX7_judge 1 = .ok (.iload_n 1, 1) := by decide +kernel
theorem dX7_judge_2 : decode cX7_judge 2 = .ok (.iload_n 2, 1) := by decide +kernel
theorem dX7_judge_3 : decode cX7_judge 3 = .ok (.iload_n 3, 1) := by decide +kernel
theorem dX7_judge_4 : decode cX7_judge 4 = .ok (.iload 4, 2) := by decide +kernel
theorem dX7_judge_6 : decode cX7_judge 6 = .ok (.iload 5, 2) := by decide +kernel
theorem dX7_judge_8 : decode cX7_judge 8 = .ok (.invokevirtual 222, 3) := by decide +kernel
theorem dX7_judge_11 : decode cX7_judge 11 = .ok (.ifCond .ne 9, 3) := by decide +kernel
theorem dX7_judge_14 : decode cX7_judge 14 = .ok (.aload_n 0, 1) := by decide +kernel
theorem dX7_judge_15 : decode cX7_judge 15 = .ok (.iconst 1, 1) := by decide +kernel
theorem dX7_judge_16 : decode cX7_judge 16 = .ok (.invokevirtual 53, 3) := by decide +kernel
theorem dX7_judge_19 : decode cX7_judge 19 = .ok (.ireturn, 1) := by decide +kernel
theorem dX7_judge_20 : decode cX7_judge 20 = .ok (.aload_n 0, 1) := by decide +kernel
theorem dX7_judge_21 : decode cX7_judge 21 = .ok (.getfield 27, 3) := by decide +kernel
theorem dX7_judge_24 : decode cX7_judge 24 = .ok (.aload_n 0, 1) := by decide +kernel
theorem dX7_judge_25 : decode cX7_judge 25 = .ok (.getfield 17, 3) := by decide +kernel
theorem dX7_judge_28 : decode cX7_judge 28 = .ok (.iload_n 1, 1) := by decide +kernel
theorem dX7_judge_29 : decode cX7_judge 29 = .ok (.iload_n 2, 1) := by decide +kernel
theorem dX7_judge_30 : decode cX7_judge 30 = .ok (.iload_n 3, 1) := by decide +kernel
theorem dX7_judge_31 : decode cX7_judge 31 = .ok (.iload 4, 2) := by decide +kernel
theorem dX7_judge_33 : decode cX7_judge 33 = .ok (.invokevirtual 225, 3) := by decide +kernel
theorem dX7_judge_36 : decode cX7_judge 36 = .ok (.aload_n 0, 1) := by decide +kernel
theorem dX7_judge_37 : decode cX7_judge 37 = .ok (.aload_n 0, 1) := by decide +kernel
theorem dX7_judge_38 : decode cX7_judge 38 = .ok (.getfield 27, 3) := by decide +kernel
theorem dX7_judge_41 : decode cX7_judge 41 = .ok (.iload 5, 2) := by decide +kernel
theorem dX7_judge_43 : decode cX7_judge 43 = .ok (.invokevirtual 229, 3) := by decide +kernel
theorem dX7_judge_46 : decode cX7_judge 46 = .ok (.putfield 232, 3) := by decide +kernel
theorem dX7_judge_49 : decode cX7_judge 49 = .ok (.aload_n 0, 1) := by decide +kernel
theorem dX7_judge_50 : decode cX7_judge 50 = .ok (.getfield 27, 3) := by decide +kernel
theorem dX7_judge_53 : decode cX7_judge 53 = .ok (.getfield 235, 3) := by decide +kernel
theorem dX7_judge_56 : decode cX7_judge 56 = .ok (.iconst 0, 1) := by decide +kernel
theorem dX7_judge_57 : decode cX7_judge 57 = .ok (.aload_n 0, 1) := by decide +kernel
theorem dX7_judge_58 : decode cX7_judge 58 = .ok (.getfield 45, 3) := by decide +kernel
theorem dX7_judge_61 : decode cX7_judge 61 = .ok (.iconst 0, 1) := by decide +kernel
theorem dX7_judge_62 : decode cX7_judge 62 = .ok (.iconst 3, 1) := by decide +kernel
theorem dX7_judge_63 : decode cX7_judge 63 = .ok (.invokestatic 238, 3) := by decide +kernel
theorem dX7_judge_66 : decode cX7_judge 66 = .ok (.aload_n 0, 1) := by decide +kernel
theorem dX7_judge_67 : decode cX7_judge 67 = .ok (.aload_n 0, 1) := by decide +kernel
theorem dX7_judge_68 : decode cX7_judge 68 = .ok (.getfield 232, 3) := by decide +kernel
theorem dX7_judge_71 : decode cX7_judge 71 = .ok (.invokevirtual 57, 3) := by decide +kernel
theorem dX7_judge_74 : decode cX7_judge 74 = .ok (.ireturn, 1) := by decide +kernel
theorem dX7_actOf_0 : decode cX7_actOf 0 = .ok (.iload_n 1, 1) := by decide +kernel
theorem dX7_actOf_1 : decode cX7_actOf 1 = .ok (.ifCond .lt 16, 3) := by decide +kernel
theorem dX7_actOf_4 : decode cX7_actOf 4 = .ok (.iload_n 1, 1) := by decide +kernel
theorem dX7_actOf_5 : decode cX7_actOf 5 = .ok (.aload_n 0, 1) := by decide +kernel
theorem dX7_actOf_6 : decode cX7_actOf 6 = .ok (.getfield 232, 3) := by decide +kernel
theorem dX7_actOf_9 : decode cX7_actOf 9 = .ok (.if_icmp .ge 8, 3) := by decide +kernel
theorem dX7_actOf_12 : decode cX7_actOf 12 = .ok (.iload_n 1, 1) := by decide +kernel
theorem dX7_actOf_13 : decode cX7_actOf 13 = .ok (.iconst 3, 1) := by decide +kernel
theorem dX7_actOf_14 : decode cX7_actOf 14 = .ok (.if_icmp .lt 7, 3) := by decide +kernel
theorem dX7_actOf_17 : decode cX7_actOf 17 = .ok (.iconst (-1), 1) := by decide +kernel
theorem dX7_actOf_18 : decode cX7_actOf 18 = .ok (.goto 9, 3) := by decide +kernel
theorem dX7_actOf_21 : decode cX7_actOf 21 = .ok (.aload_n 0, 1) := by decide +kernel
theorem dX7_actOf_22 : decode cX7_actOf 22 = .ok (.getfield 45, 3) := by decide +kernel
theorem dX7_actOf_25 : decode cX7_actOf 25 = .ok (.iload_n 1, 1) := by decide +kernel
theorem dX7_actOf_26 : decode cX7_actOf 26 = .ok (.iaload, 1) := by decide +kernel
theorem dX7_actOf_27 : decode cX7_actOf 27 = .ok (.ireturn, 1) := by decide +kernel
theorem dX7_alone_0 : decode cX7_alone 0 = .ok (.aload_n 0, 1) := by decide +kernel
theorem dX7_alone_1 : decode cX7_alone 1 = .ok (.iload_n 1, 1) := by decide +kernel
theorem dX7_alone_2 : decode cX7_alone 2 = .ok (.iload_n 2, 1) := by decide +kernel
theorem dX7_alone_3 : decode cX7_alone 3 = .ok (.iload_n 3, 1) := by decide +kernel
theorem dX7_alone_4 : decode cX7_alone 4 = .ok (.iload 4, 2) := by decide +kernel
theorem dX7_alone_6 : decode cX7_alone 6 = .ok (.iload 5, 2) := by decide +kernel
theorem dX7_alone_8 : decode cX7_alone 8 = .ok (.invokevirtual 222, 3) := by decide +kernel
theorem dX7_alone_11 : decode cX7_alone 11 = .ok (.ifCond .ne 5, 3) := by decide +kernel
theorem dX7_alone_14 : decode cX7_alone 14 = .ok (.iconst (-1), 1) := by decide +kernel
theorem dX7_alone_15 : decode cX7_alone 15 = .ok (.ireturn, 1) := by decide +kernel
theorem dX7_alone_16 : decode cX7_alone 16 = .ok (.aload_n 0, 1) := by decide +kernel
theorem dX7_alone_17 : decode cX7_alone 17 = .ok (.getfield 27, 3) := by decide +kernel
theorem dX7_alone_20 : decode cX7_alone 20 = .ok (.aload_n 0, 1) := by decide +kernel
theorem dX7_alone_21 : decode cX7_alone 21 = .ok (.getfield 17, 3) := by decide +kernel
theorem dX7_alone_24 : decode cX7_alone 24 = .ok (.iload_n 1, 1) := by decide +kernel
theorem dX7_alone_25 : decode cX7_alone 25 = .ok (.iload_n 2, 1) := by decide +kernel
theorem dX7_alone_26 : decode cX7_alone 26 = .ok (.iload_n 3, 1) := by decide +kernel
theorem dX7_alone_27 : decode cX7_alone 27 = .ok (.iload 4, 2) := by decide +kernel
theorem dX7_alone_29 : decode cX7_alone 29 = .ok (.invokevirtual 225, 3) := by decide +kernel
theorem dX7_alone_32 : decode cX7_alone 32 = .ok (.iconst 0, 1) := by decide +kernel
theorem dX7_alone_33 : decode cX7_alone 33 = .ok (.istore 6, 2) := by decide +kernel
theorem dX7_alone_35 : decode cX7_alone 35 = .ok (.iload 6, 2) := by decide +kernel
theorem dX7_alone_37 : decode cX7_alone 37 = .ok (.aload_n 0, 1) := by decide +kernel
theorem dX7_alone_38 : decode cX7_alone 38 = .ok (.getfield 17, 3) := by decide +kernel
theorem dX7_alone_41 : decode cX7_alone 41 = .ok (.getfield 64, 3) := by decide +kernel
theorem dX7_alone_44 : decode cX7_alone 44 = .ok (.getfield 244, 3) := by decide +kernel
theorem dX7_alone_47 : decode cX7_alone 47 = .ok (.if_icmp .ge 55, 3) := by decide +kernel
theorem dX7_alone_50 : decode cX7_alone 50 = .ok (.aload_n 0, 1) := by decide +kernel
theorem dX7_alone_51 : decode cX7_alone 51 = .ok (.getfield 17, 3) := by decide +kernel
theorem dX7_alone_54 : decode cX7_alone 54 = .ok (.getfield 64, 3) := by decide +kernel
theorem dX7_alone_57 : decode cX7_alone 57 = .ok (.getfield 80, 3) := by decide +kernel
theorem dX7_alone_60 : decode cX7_alone 60 = .ok (.iload 6, 2) := by decide +kernel
theorem dX7_alone_62 : decode cX7_alone 62 = .ok (.aaload, 1) := by decide +kernel
theorem dX7_alone_63 : decode cX7_alone 63 = .ok (.invokevirtual 247, 3) := by decide +kernel
theorem dX7_alone_66 : decode cX7_alone 66 = .ok (.ifCond .eq 30, 3) := by decide +kernel
theorem dX7_alone_69 : decode cX7_alone 69 = .ok (.aload_n 0, 1) := by decide +kernel
theorem dX7_alone_70 : decode cX7_alone 70 = .ok (.getfield 27, 3) := by decide +kernel
theorem dX7_alone_73 : decode cX7_alone 73 = .ok (.getfield 250, 3) := by decide +kernel
theorem dX7_alone_76 : decode cX7_alone 76 = .ok (.iload 6, 2) := by decide +kernel
theorem dX7_alone_78 : decode cX7_alone 78 = .ok (.invokevirtual 251, 3) := by decide +kernel
theorem dX7_alone_81 : decode cX7_alone 81 = .ok (.aload_n 0, 1) := by decide +kernel
theorem dX7_alone_82 : decode cX7_alone 82 = .ok (.getfield 27, 3) := by decide +kernel
theorem dX7_alone_85 : decode cX7_alone 85 = .ok (.iload 5, 2) := by decide +kernel
theorem dX7_alone_87 : decode cX7_alone 87 = .ok (.invokevirtual 229, 3) := by decide +kernel
theorem dX7_alone_90 : decode cX7_alone 90 = .ok (.ifCond .le 6, 3) := by decide +kernel
theorem dX7_alone_93 : decode cX7_alone 93 = .ok (.iload 6, 2) := by decide +kernel
theorem dX7_alone_95 : decode cX7_alone 95 = .ok (.ireturn, 1) := by decide +kernel
theorem dX7_alone_96 : decode cX7_alone 96 = .ok (.iinc 6 1, 3) := by decide +kernel
theorem dX7_alone_99 : decode cX7_alone 99 = .ok (.goto (-64), 3) := by decide +kernel
theorem dX7_alone_102 : decode cX7_alone 102 = .ok (.iconst (-1), 1) := by decide +kernel
theorem dX7_alone_103 : decode cX7_alone 103 = .ok (.ireturn, 1) := by decide +kernel
theorem dX7_peace_0 : decode cX7_peace 0 = .ok (.aload_n 0, 1) := by decide +kernel
theorem dX7_peace_1 : decode cX7_peace 1 = .ok (.getfield 17, 3) := by decide +kernel
theorem dX7_peace_4 : decode cX7_peace 4 = .ok (.getfield 64, 3) := by decide +kernel
theorem dX7_peace_7 : decode cX7_peace 7 = .ok (.iload_n 1, 1) := by decide +kernel
theorem dX7_peace_8 : decode cX7_peace 8 = .ok (.invokevirtual 76, 3) := by decide +kernel
theorem dX7_peace_11 : decode cX7_peace 11 = .ok (.ifCond .eq 18, 3) := by decide +kernel
theorem dX7_peace_14 : decode cX7_peace 14 = .ok (.aload_n 0, 1) := by decide +kernel
theorem dX7_peace_15 : decode cX7_peace 15 = .ok (.iload_n 2, 1) := by decide +kernel
theorem dX7_peace_16 : decode cX7_peace 16 = .ok (.iload_n 3, 1) := by decide +kernel
theorem dX7_peace_17 : decode cX7_peace 17 = .ok (.iload 4, 2) := by decide +kernel
theorem dX7_peace_19 : decode cX7_peace 19 = .ok (.iload 5, 2) := by decide +kernel
theorem dX7_peace_21 : decode cX7_peace 21 = .ok (.iload 6, 2) := by decide +kernel
theorem dX7_peace_23 : decode cX7_peace 23 = .ok (.invokevirtual 222, 3) := by decide +kernel
theorem dX7_peace_26 : decode cX7_peace 26 = .ok (.ifCond .ne 5, 3) := by decide +kernel
theorem dX7_peace_29 : decode cX7_peace 29 = .ok (.iconst (-1), 1) := by decide +kernel
theorem dX7_peace_30 : decode cX7_peace 30 = .ok (.ireturn, 1) := by decide +kernel
theorem dX7_peace_31 : decode cX7_peace 31 = .ok (.aload_n 0, 1) := by decide +kernel
theorem dX7_peace_32 : decode cX7_peace 32 = .ok (.getfield 27, 3) := by decide +kernel
theorem dX7_peace_35 : decode cX7_peace 35 = .ok (.aload_n 0, 1) := by decide +kernel
theorem dX7_peace_36 : decode cX7_peace 36 = .ok (.getfield 17, 3) := by decide +kernel
theorem dX7_peace_39 : decode cX7_peace 39 = .ok (.iload_n 2, 1) := by decide +kernel
theorem dX7_peace_40 : decode cX7_peace 40 = .ok (.iload_n 3, 1) := by decide +kernel
theorem dX7_peace_41 : decode cX7_peace 41 = .ok (.iload 4, 2) := by decide +kernel
theorem dX7_peace_43 : decode cX7_peace 43 = .ok (.iload 5, 2) := by decide +kernel
theorem dX7_peace_45 : decode cX7_peace 45 = .ok (.invokevirtual 225, 3) := by decide +kernel
theorem dX7_peace_48 : decode cX7_peace 48 = .ok (.iconst (-1), 1) := by decide +kernel
theorem dX7_peace_49 : decode cX7_peace 49 = .ok (.istore 7, 2) := by decide +kernel
theorem dX7_peace_51 : decode cX7_peace 51 = .ok (.iconst 0, 1) := by decide +kernel
theorem dX7_peace_52 : decode cX7_peace 52 = .ok (.istore 8, 2) := by decide +kernel
theorem dX7_peace_54 : decode cX7_peace 54 = .ok (.iload 8, 2) := by decide +kernel
theorem dX7_peace_56 : decode cX7_peace 56 = .ok (.bipush 9, 2) := by decide +kernel
theorem dX7_peace_58 : decode cX7_peace 58 = .ok (.if_icmp .gt 65, 3) := by decide +kernel
theorem dX7_peace_61 : decode cX7_peace 61 = .ok (.aload_n 0, 1) := by decide +kernel
theorem dX7_peace_62 : decode cX7_peace 62 = .ok (.getfield 27, 3) := by decide +kernel
theorem dX7_peace_65 : decode cX7_peace 65 = .ok (.getfield 250, 3) := by decide +kernel
theorem dX7_peace_68 : decode cX7_peace 68 = .ok (.getfield 80, 3) := by decide +kernel
theorem dX7_peace_71 : decode cX7_peace 71 = .ok (.iload_n 1, 1) := by decide +kernel
theorem dX7_peace_72 : decode cX7_peace 72 = .ok (.aaload, 1) := by decide +kernel
theorem dX7_peace_73 : decode cX7_peace 73 = .ok (.iload 8, 2) := by decide +kernel
theorem dX7_peace_75 : decode cX7_peace 75 = .ok (.putfield 93, 3) := by decide +kernel
theorem dX7_peace_78 : decode cX7_peace 78 = .ok (.aload_n 0, 1) := by decide +kernel
theorem dX7_peace_79 : decode cX7_peace 79 = .ok (.getfield 27, 3) := by decide +kernel
theorem dX7_peace_82 : decode cX7_peace 82 = .ok (.getfield 250, 3) := by decide +kernel
theorem dX7_peace_85 : decode cX7_peace 85 = .ok (.iload_n 1, 1) := by decide +kernel
theorem dX7_peace_86 : decode cX7_peace 86 = .ok (.invokevirtual 255, 3) := by decide +kernel
theorem dX7_peace_89 : decode cX7_peace 89 = .ok (.istore 9, 2) := by decide +kernel
theorem dX7_peace_91 : decode cX7_peace 91 = .ok (.iload 9, 2) := by decide +kernel
theorem dX7_peace_93 : decode cX7_peace 93 = .ok (.iload 7, 2) := by decide +kernel
theorem dX7_peace_95 : decode cX7_peace 95 = .ok (.if_icmp .eq 18, 3) := by decide +kernel
theorem dX7_peace_98 : decode cX7_peace 98 = .ok (.aload_n 0, 1) := by decide +kernel
theorem dX7_peace_99 : decode cX7_peace 99 = .ok (.getfield 27, 3) := by decide +kernel
theorem dX7_peace_102 : decode cX7_peace 102 = .ok (.iload 6, 2) := by decide +kernel
theorem dX7_peace_104 : decode cX7_peace 104 = .ok (.invokevirtual 229, 3) := by decide +kernel
theorem dX7_peace_107 : decode cX7_peace 107 = .ok (.ifCond .ne 6, 3) := by decide +kernel
theorem dX7_peace_110 : decode cX7_peace 110 = .ok (.iload 8, 2) := by decide +kernel
theorem dX7_peace_112 : decode cX7_peace 112 = .ok (.ireturn, 1) := by decide +kernel
theorem dX7_peace_113 : decode cX7_peace 113 = .ok (.iload 9, 2) := by decide +kernel
theorem dX7_peace_115 : decode cX7_peace 115 = .ok (.istore 7, 2) := by decide +kernel
theorem dX7_peace_117 : decode cX7_peace 117 = .ok (.iinc 8 1, 3) := by decide +kernel
theorem dX7_peace_120 : decode cX7_peace 120 = .ok (.goto (-66), 3) := by decide +kernel
theorem dX7_peace_123 : decode cX7_peace 123 = .ok (.iconst (-1), 1) := by decide +kernel
theorem dX7_peace_124 : decode cX7_peace 124 = .ok (.ireturn, 1) := by decide +kernel
theorem dX7_count_0 : decode cX7_count 0 = .ok (.iload_n 1, 1) := by decide +kernel
theorem dX7_count_1 : decode cX7_count 1 = .ok (.tableswitch 111 0 7 #[47, 55, 66, 74, 82, 90, 98, 103], 47) := by decide +kernel
theorem dX7_count_48 : decode cX7_count 48 = .ok (.aload_n 0, 1) := by decide +kernel
theorem dX7_count_49 : decode cX7_count 49 = .ok (.getfield 17, 3) := by decide +kernel
theorem dX7_count_52 : decode cX7_count 52 = .ok (.getfield 49, 3) := by decide +kernel
theorem dX7_count_55 : decode cX7_count 55 = .ok (.ireturn, 1) := by decide +kernel
theorem dX7_count_56 : decode cX7_count 56 = .ok (.aload_n 0, 1) := by decide +kernel
theorem dX7_count_57 : decode cX7_count 57 = .ok (.getfield 17, 3) := by decide +kernel
theorem dX7_count_60 : decode cX7_count 60 = .ok (.getfield 64, 3) := by decide +kernel
theorem dX7_count_63 : decode cX7_count 63 = .ok (.getfield 244, 3) := by decide +kernel
theorem dX7_count_66 : decode cX7_count 66 = .ok (.ireturn, 1) := by decide +kernel
theorem dX7_count_67 : decode cX7_count 67 = .ok (.aload_n 0, 1) := by decide +kernel
theorem dX7_count_68 : decode cX7_count 68 = .ok (.getfield 17, 3) := by decide +kernel
theorem dX7_count_71 : decode cX7_count 71 = .ok (.getfield 258, 3) := by decide +kernel
theorem dX7_count_74 : decode cX7_count 74 = .ok (.ireturn, 1) := by decide +kernel
theorem dX7_count_75 : decode cX7_count 75 = .ok (.aload_n 0, 1) := by decide +kernel
theorem dX7_count_76 : decode cX7_count 76 = .ok (.getfield 17, 3) := by decide +kernel
theorem dX7_count_79 : decode cX7_count 79 = .ok (.getfield 121, 3) := by decide +kernel
theorem dX7_count_82 : decode cX7_count 82 = .ok (.ireturn, 1) := by decide +kernel
theorem dX7_count_83 : decode cX7_count 83 = .ok (.aload_n 0, 1) := by decide +kernel
theorem dX7_count_84 : decode cX7_count 84 = .ok (.getfield 17, 3) := by decide +kernel
theorem dX7_count_87 : decode cX7_count 87 = .ok (.getfield 213, 3) := by decide +kernel
theorem dX7_count_90 : decode cX7_count 90 = .ok (.ireturn, 1) := by decide +kernel
theorem dX7_count_91 : decode cX7_count 91 = .ok (.aload_n 0, 1) := by decide +kernel
theorem dX7_count_92 : decode cX7_count 92 = .ok (.getfield 17, 3) := by decide +kernel
theorem dX7_count_95 : decode cX7_count 95 = .ok (.invokevirtual 261, 3) := by decide +kernel
theorem dX7_count_98 : decode cX7_count 98 = .ok (.ireturn, 1) := by decide +kernel
theorem dX7_count_99 : decode cX7_count 99 = .ok (.aload_n 0, 1) := by decide +kernel
theorem dX7_count_100 : decode cX7_count 100 = .ok (.getfield 232, 3) := by decide +kernel
theorem dX7_count_103 : decode cX7_count 103 = .ok (.ireturn, 1) := by decide +kernel
theorem dX7_count_104 : decode cX7_count 104 = .ok (.aload_n 0, 1) := by decide +kernel
theorem dX7_count_105 : decode cX7_count 105 = .ok (.getfield 34, 3) := by decide +kernel
theorem dX7_count_108 : decode cX7_count 108 = .ok (.getfield 265, 3) := by decide +kernel
theorem dX7_count_111 : decode cX7_count 111 = .ok (.ireturn, 1) := by decide +kernel
theorem dX7_count_112 : decode cX7_count 112 = .ok (.iconst (-1), 1) := by decide +kernel
theorem dX7_count_113 : decode cX7_count 113 = .ok (.ireturn, 1) := by decide +kernel
theorem dX7_act_0 : decode cX7_act 0 = .ok (.aload_n 0, 1) := by decide +kernel
theorem dX7_act_1 : decode cX7_act 1 = .ok (.getfield 17, 3) := by decide +kernel
theorem dX7_act_4 : decode cX7_act 4 = .ok (.getfield 64, 3) := by decide +kernel
theorem dX7_act_7 : decode cX7_act 7 = .ok (.iload_n 1, 1) := by decide +kernel
theorem dX7_act_8 : decode cX7_act 8 = .ok (.invokevirtual 76, 3) := by decide +kernel
theorem dX7_act_11 : decode cX7_act 11 = .ok (.ifCond .eq 12, 3) := by decide +kernel
theorem dX7_act_14 : decode cX7_act 14 = .ok (.iload_n 2, 1) := by decide +kernel
theorem dX7_act_15 : decode cX7_act 15 = .ok (.ifCond .lt 8, 3) := by decide +kernel
theorem dX7_act_18 : decode cX7_act 18 = .ok (.iload_n 2, 1) := by decide +kernel
theorem dX7_act_19 : decode cX7_act 19 = .ok (.iconst 3, 1) := by decide +kernel
theorem dX7_act_20 : decode cX7_act 20 = .ok (.if_icmp .le 9, 3) := by decide +kernel
theorem dX7_act_23 : decode cX7_act 23 = .ok (.aload_n 0, 1) := by decide +kernel
theorem dX7_act_24 : decode cX7_act 24 = .ok (.iconst 1, 1) := by decide +kernel
theorem dX7_act_25 : decode cX7_act 25 = .ok (.invokevirtual 53, 3) := by decide +kernel
theorem dX7_act_28 : decode cX7_act 28 = .ok (.ireturn, 1) := by decide +kernel
theorem dX7_act_29 : decode cX7_act 29 = .ok (.aload_n 0, 1) := by decide +kernel
theorem dX7_act_30 : decode cX7_act 30 = .ok (.aload_n 0, 1) := by decide +kernel
theorem dX7_act_31 : decode cX7_act 31 = .ok (.getfield 34, 3) := by decide +kernel
theorem dX7_act_34 : decode cX7_act 34 = .ok (.aload_n 0, 1) := by decide +kernel
theorem dX7_act_35 : decode cX7_act 35 = .ok (.getfield 17, 3) := by decide +kernel
theorem dX7_act_38 : decode cX7_act 38 = .ok (.getfield 64, 3) := by decide +kernel
theorem dX7_act_41 : decode cX7_act 41 = .ok (.getfield 80, 3) := by decide +kernel
theorem dX7_act_44 : decode cX7_act 44 = .ok (.iload_n 1, 1) := by decide +kernel
theorem dX7_act_45 : decode cX7_act 45 = .ok (.aaload, 1) := by decide +kernel
theorem dX7_act_46 : decode cX7_act 46 = .ok (.iload_n 1, 1) := by decide +kernel
theorem dX7_act_47 : decode cX7_act 47 = .ok (.iload_n 2, 1) := by decide +kernel
theorem dX7_act_48 : decode cX7_act 48 = .ok (.iload_n 3, 1) := by decide +kernel
theorem dX7_act_49 : decode cX7_act 49 = .ok (.invokevirtual 268, 3) := by decide +kernel
theorem dX7_act_52 : decode cX7_act 52 = .ok (.invokevirtual 57, 3) := by decide +kernel
theorem dX7_act_55 : decode cX7_act 55 = .ok (.ireturn, 1) := by decide +kernel
theorem dX7_trace_0 : decode cX7_trace 0 = .ok (.iload_n 1, 1) := by decide +kernel
theorem dX7_trace_1 : decode cX7_trace 1 = .ok (.ifCond .lt 20, 3) := by decide +kernel
theorem dX7_trace_4 : decode cX7_trace 4 = .ok (.iload_n 1, 1) := by decide +kernel
theorem dX7_trace_5 : decode cX7_trace 5 = .ok (.aload_n 0, 1) := by decide +kernel
theorem dX7_trace_6 : decode cX7_trace 6 = .ok (.getfield 34, 3) := by decide +kernel
theorem dX7_trace_9 : decode cX7_trace 9 = .ok (.getfield 265, 3) := by decide +kernel
theorem dX7_trace_12 : decode cX7_trace 12 = .ok (.if_icmp .ge 9, 3) := by decide +kernel
theorem dX7_trace_15 : decode cX7_trace 15 = .ok (.iload_n 1, 1) := by decide +kernel
theorem dX7_trace_16 : decode cX7_trace 16 = .ok (.bipush 50, 2) := by decide +kernel
theorem dX7_trace_18 : decode cX7_trace 18 = .ok (.if_icmp .lt 7, 3) := by decide +kernel
theorem dX7_trace_21 : decode cX7_trace 21 = .ok (.iconst (-1), 1) := by decide +kernel
theorem dX7_trace_22 : decode cX7_trace 22 = .ok (.goto 12, 3) := by decide +kernel
theorem dX7_trace_25 : decode cX7_trace 25 = .ok (.aload_n 0, 1) := by decide +kernel
theorem dX7_trace_26 : decode cX7_trace 26 = .ok (.getfield 34, 3) := by decide +kernel
theorem dX7_trace_29 : decode cX7_trace 29 = .ok (.getfield 272, 3) := by decide +kernel
theorem dX7_trace_32 : decode cX7_trace 32 = .ok (.iload_n 1, 1) := by decide +kernel
theorem dX7_trace_33 : decode cX7_trace 33 = .ok (.iaload, 1) := by decide +kernel
theorem dX7_trace_34 : decode cX7_trace 34 = .ok (.ireturn, 1) := by decide +kernel
theorem dX7_sheet_0 : decode cX7_sheet 0 = .ok (.iload_n 3, 1) := by decide +kernel
theorem dX7_sheet_1 : decode cX7_sheet 1 = .ok (.ifCond .lt 20, 3) := by decide +kernel
theorem dX7_sheet_4 : decode cX7_sheet 4 = .ok (.iload_n 3, 1) := by decide +kernel
theorem dX7_sheet_5 : decode cX7_sheet 5 = .ok (.bipush 40, 2) := by decide +kernel
theorem dX7_sheet_7 : decode cX7_sheet 7 = .ok (.if_icmp .gt 14, 3) := by decide +kernel
theorem dX7_sheet_10 : decode cX7_sheet 10 = .ok (.iload_n 2, 1) := by decide +kernel
theorem dX7_sheet_11 : decode cX7_sheet 11 = .ok (.invokestatic 275, 3) := by decide +kernel
theorem dX7_sheet_14 : decode cX7_sheet 14 = .ok (.ifCond .eq 7, 3) := by decide +kernel
theorem dX7_sheet_17 : decode cX7_sheet 17 = .ok (.iconst 1, 1) := by decide +kernel
theorem dX7_sheet_18 : decode cX7_sheet 18 = .ok (.goto 4, 3) := by decide +kernel
theorem dX7_sheet_21 : decode cX7_sheet 21 = .ok (.iconst 0, 1) := by decide +kernel
theorem dX7_sheet_22 : decode cX7_sheet 22 = .ok (.istore 4, 2) := by decide +kernel
theorem dX7_sheet_24 : decode cX7_sheet 24 = .ok (.iload_n 1, 1) := by decide +kernel
theorem dX7_sheet_25 : decode cX7_sheet 25 = .ok (.invokestatic 278, 3) := by decide +kernel
theorem dX7_sheet_28 : decode cX7_sheet 28 = .ok (.ifCond .eq 13, 3) := by decide +kernel
theorem dX7_sheet_31 : decode cX7_sheet 31 = .ok (.iload_n 2, 1) := by decide +kernel
theorem dX7_sheet_32 : decode cX7_sheet 32 = .ok (.iconst (-1), 1) := by decide +kernel
theorem dX7_sheet_33 : decode cX7_sheet 33 = .ok (.if_icmp .eq 14, 3) := by decide +kernel
theorem dX7_sheet_36 : decode cX7_sheet 36 = .ok (.iload 4, 2) := by decide +kernel
theorem dX7_sheet_38 : decode cX7_sheet 38 = .ok (.ifCond .ne 9, 3) := by decide +kernel
theorem dX7_sheet_41 : decode cX7_sheet 41 = .ok (.aload_n 0, 1) := by decide +kernel
theorem dX7_sheet_42 : decode cX7_sheet 42 = .ok (.iconst 1, 1) := by decide +kernel
theorem dX7_sheet_43 : decode cX7_sheet 43 = .ok (.invokevirtual 53, 3) := by decide +kernel
theorem dX7_sheet_46 : decode cX7_sheet 46 = .ok (.ireturn, 1) := by decide +kernel
theorem dX7_sheet_47 : decode cX7_sheet 47 = .ok (.aload_n 0, 1) := by decide +kernel
theorem dX7_sheet_48 : decode cX7_sheet 48 = .ok (.getfield 41, 3) := by decide +kernel
theorem dX7_sheet_51 : decode cX7_sheet 51 = .ok (.iload_n 1, 1) := by decide +kernel
theorem dX7_sheet_52 : decode cX7_sheet 52 = .ok (.iload_n 2, 1) := by decide +kernel
theorem dX7_sheet_53 : decode cX7_sheet 53 = .ok (.iload_n 3, 1) := by decide +kernel
theorem dX7_sheet_54 : decode cX7_sheet 54 = .ok (.invokevirtual 281, 3) := by decide +kernel
theorem dX7_sheet_57 : decode cX7_sheet 57 = .ok (.aload_n 0, 1) := by decide +kernel
theorem dX7_sheet_58 : decode cX7_sheet 58 = .ok (.iconst 1, 1) := by decide +kernel
theorem dX7_sheet_59 : decode cX7_sheet 59 = .ok (.invokevirtual 57, 3) := by decide +kernel
theorem dX7_sheet_62 : decode cX7_sheet 62 = .ok (.ireturn, 1) := by decide +kernel
theorem dX7_cell_0 : decode cX7_cell 0 = .ok (.iload_n 1, 1) := by decide +kernel
theorem dX7_cell_1 : decode cX7_cell 1 = .ok (.invokestatic 278, 3) := by decide +kernel
theorem dX7_cell_4 : decode cX7_cell 4 = .ok (.ifCond .eq 17, 3) := by decide +kernel
theorem dX7_cell_7 : decode cX7_cell 7 = .ok (.iload_n 3, 1) := by decide +kernel
theorem dX7_cell_8 : decode cX7_cell 8 = .ok (.sipush (-1000), 3) := by decide +kernel
theorem dX7_cell_11 : decode cX7_cell 11 = .ok (.if_icmp .lt 10, 3) := by decide +kernel
theorem dX7_cell_14 : decode cX7_cell 14 = .ok (.iload_n 3, 1) := by decide +kernel
theorem dX7_cell_15 : decode cX7_cell 15 = .ok (.sipush 1000, 3) := by decide +kernel
theorem dX7_cell_18 : decode cX7_cell 18 = .ok (.if_icmp .le 9, 3) := by decide +kernel
theorem dX7_cell_21 : decode cX7_cell 21 = .ok (.aload_n 0, 1) := by decide +kernel
theorem dX7_cell_22 : decode cX7_cell 22 = .ok (.iconst 1, 1) := by decide +kernel
theorem dX7_cell_23 : decode cX7_cell 23 = .ok (.invokevirtual 53, 3) := by decide +kernel
theorem dX7_cell_26 : decode cX7_cell 26 = .ok (.ireturn, 1) := by decide +kernel
theorem dX7_cell_27 : decode cX7_cell 27 = .ok (.aload_n 0, 1) := by decide +kernel
theorem dX7_cell_28 : decode cX7_cell 28 = .ok (.getfield 41, 3) := by decide +kernel
theorem dX7_cell_31 : decode cX7_cell 31 = .ok (.iload_n 1, 1) := by decide +kernel
theorem dX7_cell_32 : decode cX7_cell 32 = .ok (.invokevirtual 285, 3) := by decide +kernel
theorem dX7_cell_35 : decode cX7_cell 35 = .ok (.ifCond .eq 10, 3) := by decide +kernel
theorem dX7_cell_38 : decode cX7_cell 38 = .ok (.aload_n 0, 1) := by decide +kernel
theorem dX7_cell_39 : decode cX7_cell 39 = .ok (.bipush 10, 2) := by decide +kernel
theorem dX7_cell_41 : decode cX7_cell 41 = .ok (.invokevirtual 53, 3) := by decide +kernel
theorem dX7_cell_44 : decode cX7_cell 44 = .ok (.ireturn, 1) := by decide +kernel
theorem dX7_cell_45 : decode cX7_cell 45 = .ok (.aload_n 0, 1) := by decide +kernel
theorem dX7_cell_46 : decode cX7_cell 46 = .ok (.getfield 41, 3) := by decide +kernel
theorem dX7_cell_49 : decode cX7_cell 49 = .ok (.iload_n 1, 1) := by decide +kernel
theorem dX7_cell_50 : decode cX7_cell 50 = .ok (.iload_n 2, 1) := by decide +kernel
theorem dX7_cell_51 : decode cX7_cell 51 = .ok (.iconst 1, 1) := by decide +kernel
theorem dX7_cell_52 : decode cX7_cell 52 = .ok (.invokevirtual 288, 3) := by decide +kernel
theorem dX7_cell_55 : decode cX7_cell 55 = .ok (.ifCond .ne 10, 3) := by decide +kernel
theorem dX7_cell_58 : decode cX7_cell 58 = .ok (.aload_n 0, 1) := by decide +kernel
theorem dX7_cell_59 : decode cX7_cell 59 = .ok (.bipush 12, 2) := by decide +kernel
theorem dX7_cell_61 : decode cX7_cell 61 = .ok (.invokevirtual 53, 3) := by decide +kernel
theorem dX7_cell_64 : decode cX7_cell 64 = .ok (.ireturn, 1) := by decide +kernel
theorem dX7_cell_65 : decode cX7_cell 65 = .ok (.aload_n 0, 1) := by decide +kernel
theorem dX7_cell_66 : decode cX7_cell 66 = .ok (.getfield 41, 3) := by decide +kernel
theorem dX7_cell_69 : decode cX7_cell 69 = .ok (.iload_n 1, 1) := by decide +kernel
theorem dX7_cell_70 : decode cX7_cell 70 = .ok (.iload_n 2, 1) := by decide +kernel
theorem dX7_cell_71 : decode cX7_cell 71 = .ok (.iload_n 3, 1) := by decide +kernel
theorem dX7_cell_72 : decode cX7_cell 72 = .ok (.invokevirtual 292, 3) := by decide +kernel
theorem dX7_cell_75 : decode cX7_cell 75 = .ok (.aload_n 0, 1) := by decide +kernel
theorem dX7_cell_76 : decode cX7_cell 76 = .ok (.iconst 1, 1) := by decide +kernel
theorem dX7_cell_77 : decode cX7_cell 77 = .ok (.invokevirtual 57, 3) := by decide +kernel
theorem dX7_cell_80 : decode cX7_cell 80 = .ok (.ireturn, 1) := by decide +kernel
theorem dX7_order_0 : decode cX7_order 0 = .ok (.iload_n 1, 1) := by decide +kernel
theorem dX7_order_1 : decode cX7_order 1 = .ok (.invokestatic 278, 3) := by decide +kernel
theorem dX7_order_4 : decode cX7_order 4 = .ok (.ifCond .eq 10, 3) := by decide +kernel
theorem dX7_order_7 : decode cX7_order 7 = .ok (.iload_n 2, 1) := by decide +kernel
theorem dX7_order_8 : decode cX7_order 8 = .ok (.invokestatic 275, 3) := by decide +kernel
theorem dX7_order_11 : decode cX7_order 11 = .ok (.ifCond .ne 9, 3) := by decide +kernel
theorem dX7_order_14 : decode cX7_order 14 = .ok (.aload_n 0, 1) := by decide +kernel
theorem dX7_order_15 : decode cX7_order 15 = .ok (.iconst 1, 1) := by decide +kernel
theorem dX7_order_16 : decode cX7_order 16 = .ok (.invokevirtual 53, 3) := by decide +kernel
theorem dX7_order_19 : decode cX7_order 19 = .ok (.ireturn, 1) := by decide +kernel
theorem dX7_order_20 : decode cX7_order 20 = .ok (.aload_n 0, 1) := by decide +kernel
theorem dX7_order_21 : decode cX7_order 21 = .ok (.getfield 17, 3) := by decide +kernel
theorem dX7_order_24 : decode cX7_order 24 = .ok (.getfield 64, 3) := by decide +kernel
theorem dX7_order_27 : decode cX7_order 27 = .ok (.invokevirtual 68, 3) := by decide +kernel
theorem dX7_order_30 : decode cX7_order 30 = .ok (.ifCond .eq 9, 3) := by decide +kernel
theorem dX7_order_33 : decode cX7_order 33 = .ok (.aload_n 0, 1) := by decide +kernel
theorem dX7_order_34 : decode cX7_order 34 = .ok (.iconst 2, 1) := by decide +kernel
theorem dX7_order_35 : decode cX7_order 35 = .ok (.invokevirtual 53, 3) := by decide +kernel
theorem dX7_order_38 : decode cX7_order 38 = .ok (.ireturn, 1) := by decide +kernel
theorem dX7_order_39 : decode cX7_order 39 = .ok (.aload_n 0, 1) := by decide +kernel
theorem dX7_order_40 : decode cX7_order 40 = .ok (.getfield 41, 3) := by decide +kernel
theorem dX7_order_43 : decode cX7_order 43 = .ok (.iload_n 1, 1) := by decide +kernel
theorem dX7_order_44 : decode cX7_order 44 = .ok (.invokevirtual 285, 3) := by decide +kernel
theorem dX7_order_47 : decode cX7_order 47 = .ok (.ifCond .eq 10, 3) := by decide +kernel
theorem dX7_order_50 : decode cX7_order 50 = .ok (.aload_n 0, 1) := by decide +kernel
theorem dX7_order_51 : decode cX7_order 51 = .ok (.bipush 10, 2) := by decide +kernel
theorem dX7_order_53 : decode cX7_order 53 = .ok (.invokevirtual 53, 3) := by decide +kernel
theorem dX7_order_56 : decode cX7_order 56 = .ok (.ireturn, 1) := by decide +kernel
theorem dX7_order_57 : decode cX7_order 57 = .ok (.aload_n 0, 1) := by decide +kernel
theorem dX7_order_58 : decode cX7_order 58 = .ok (.getfield 41, 3) := by decide +kernel
theorem dX7_order_61 : decode cX7_order 61 = .ok (.getfield 295, 3) := by decide +kernel
theorem dX7_order_64 : decode cX7_order 64 = .ok (.iload_n 1, 1) := by decide +kernel
theorem dX7_order_65 : decode cX7_order 65 = .ok (.iaload, 1) := by decide +kernel
theorem dX7_order_66 : decode cX7_order 66 = .ok (.iload_n 2, 1) := by decide +kernel
theorem dX7_order_67 : decode cX7_order 67 = .ok (.if_icmp .eq 10, 3) := by decide +kernel
theorem dX7_order_70 : decode cX7_order 70 = .ok (.aload_n 0, 1) := by decide +kernel
theorem dX7_order_71 : decode cX7_order 71 = .ok (.bipush 11, 2) := by decide +kernel
theorem dX7_order_73 : decode cX7_order 73 = .ok (.invokevirtual 53, 3) := by decide +kernel
theorem dX7_order_76 : decode cX7_order 76 = .ok (.ireturn, 1) := by decide +kernel
theorem dX7_order_77 : decode cX7_order 77 = .ok (.aload_n 0, 1) := by decide +kernel
theorem dX7_order_78 : decode cX7_order 78 = .ok (.getfield 41, 3) := by decide +kernel
theorem dX7_order_81 : decode cX7_order 81 = .ok (.iload_n 1, 1) := by decide +kernel
theorem dX7_order_82 : decode cX7_order 82 = .ok (.iload_n 3, 1) := by decide +kernel
theorem dX7_order_83 : decode cX7_order 83 = .ok (.iconst 5, 1) := by decide +kernel
theorem dX7_order_84 : decode cX7_order 84 = .ok (.invokevirtual 288, 3) := by decide +kernel
theorem dX7_order_87 : decode cX7_order 87 = .ok (.ifCond .ne 10, 3) := by decide +kernel
theorem dX7_order_90 : decode cX7_order 90 = .ok (.aload_n 0, 1) := by decide +kernel
theorem dX7_order_91 : decode cX7_order 91 = .ok (.bipush 12, 2) := by decide +kernel
theorem dX7_order_93 : decode cX7_order 93 = .ok (.invokevirtual 53, 3) := by decide +kernel
theorem dX7_order_96 : decode cX7_order 96 = .ok (.ireturn, 1) := by decide +kernel
theorem dX7_order_97 : decode cX7_order 97 = .ok (.aload_n 0, 1) := by decide +kernel
theorem dX7_order_98 : decode cX7_order 98 = .ok (.iload_n 1, 1) := by decide +kernel
theorem dX7_order_99 : decode cX7_order 99 = .ok (.iload_n 3, 1) := by decide +kernel
theorem dX7_order_100 : decode cX7_order 100 = .ok (.invokevirtual 298, 3) := by decide +kernel
theorem dX7_order_103 : decode cX7_order 103 = .ok (.ireturn, 1) := by decide +kernel
theorem dX7_forge_0 : decode cX7_forge 0 = .ok (.iload_n 2, 1) := by decide +kernel
theorem dX7_forge_1 : decode cX7_forge 1 = .ok (.bipush (-100), 2) := by decide +kernel
theorem dX7_forge_3 : decode cX7_forge 3 = .ok (.if_icmp .lt 21, 3) := by decide +kernel
theorem dX7_forge_6 : decode cX7_forge 6 = .ok (.iload_n 2, 1) := by decide +kernel
theorem dX7_forge_7 : decode cX7_forge 7 = .ok (.bipush 100, 2) := by decide +kernel
theorem dX7_forge_9 : decode cX7_forge 9 = .ok (.if_icmp .gt 15, 3) := by decide +kernel
theorem dX7_forge_12 : decode cX7_forge 12 = .ok (.iload_n 3, 1) := by decide +kernel
theorem dX7_forge_13 : decode cX7_forge 13 = .ok (.bipush (-100), 2) := by decide +kernel
theorem dX7_forge_15 : decode cX7_forge 15 = .ok (.if_icmp .lt 9, 3) := by decide +kernel
theorem dX7_forge_18 : decode cX7_forge 18 = .ok (.iload_n 3, 1) := by decide +kernel
theorem dX7_forge_19 : decode cX7_forge 19 = .ok (.bipush 100, 2) := by decide +kernel
theorem dX7_forge_21 : decode cX7_forge 21 = .ok (.if_icmp .le 9, 3) := by decide +kernel
theorem dX7_forge_24 : decode cX7_forge 24 = .ok (.aload_n 0, 1) := by decide +kernel
theorem dX7_forge_25 : decode cX7_forge 25 = .ok (.iconst 1, 1) := by decide +kernel
theorem dX7_forge_26 : decode cX7_forge 26 = .ok (.invokevirtual 53, 3) := by decide +kernel
theorem dX7_forge_29 : decode cX7_forge 29 = .ok (.ireturn, 1) := by decide +kernel
theorem dX7_forge_30 : decode cX7_forge 30 = .ok (.iload_n 3, 1) := by decide +kernel
theorem dX7_forge_31 : decode cX7_forge 31 = .ok (.bipush 24, 2) := by decide +kernel
theorem dX7_forge_33 : decode cX7_forge 33 = .ok (.invokestatic 301, 3) := by decide +kernel
theorem dX7_forge_36 : decode cX7_forge 36 = .ok (.istore 4, 2) := by decide +kernel
theorem dX7_forge_38 : decode cX7_forge 38 = .ok (.iload_n 3, 1) := by decide +kernel
theorem dX7_forge_39 : decode cX7_forge 39 = .ok (.iconst 4, 1) := by decide +kernel
theorem dX7_forge_40 : decode cX7_forge 40 = .ok (.invokestatic 301, 3) := by decide +kernel
theorem dX7_forge_43 : decode cX7_forge 43 = .ok (.istore 5, 2) := by decide +kernel
theorem dX7_forge_45 : decode cX7_forge 45 = .ok (.iload_n 1, 1) := by decide +kernel
theorem dX7_forge_46 : decode cX7_forge 46 = .ok (.tableswitch 143 0 6 #[42, 55, 74, 82, 90, 97, 120], 42) := by decide +kernel
theorem dX7_forge_88 : decode cX7_forge 88 = .ok (.aload_n 0, 1) := by decide +kernel
theorem dX7_forge_89 : decode cX7_forge 89 = .ok (.iload 4, 2) := by decide +kernel
theorem dX7_forge_91 : decode cX7_forge 91 = .ok (.iload_n 2, 1) := by decide +kernel
theorem dX7_forge_92 : decode cX7_forge 92 = .ok (.bipush 8, 2) := by decide +kernel
theorem dX7_forge_94 : decode cX7_forge 94 = .ok (.invokestatic 301, 3) := by decide +kernel
theorem dX7_forge_97 : decode cX7_forge 97 = .ok (.invokevirtual 306, 3) := by decide +kernel
theorem dX7_forge_100 : decode cX7_forge 100 = .ok (.ireturn, 1) := by decide +kernel
theorem dX7_forge_101 : decode cX7_forge 101 = .ok (.iload_n 2, 1) := by decide +kernel
theorem dX7_forge_102 : decode cX7_forge 102 = .ok (.ifCond .ge 12, 3) := by decide +kernel
theorem dX7_forge_105 : decode cX7_forge 105 = .ok (.aload_n 0, 1) := by decide +kernel
theorem dX7_forge_106 : decode cX7_forge 106 = .ok (.bipush 13, 2) := by decide +kernel
theorem dX7_forge_108 : decode cX7_forge 108 = .ok (.invokevirtual 53, 3) := by decide +kernel
theorem dX7_forge_111 : decode cX7_forge 111 = .ok (.goto 8, 3) := by decide +kernel
theorem dX7_forge_114 : decode cX7_forge 114 = .ok (.aload_n 0, 1) := by decide +kernel
theorem dX7_forge_115 : decode cX7_forge 115 = .ok (.iload_n 2, 1) := by decide +kernel
theorem dX7_forge_116 : decode cX7_forge 116 = .ok (.invokevirtual 57, 3) := by decide +kernel
theorem dX7_forge_119 : decode cX7_forge 119 = .ok (.ireturn, 1) := by decide +kernel
theorem dX7_forge_120 : decode cX7_forge 120 = .ok (.aload_n 0, 1) := by decide +kernel
theorem dX7_forge_121 : decode cX7_forge 121 = .ok (.iload 5, 2) := by decide +kernel
theorem dX7_forge_123 : decode cX7_forge 123 = .ok (.iload_n 2, 1) := by decide +kernel
theorem dX7_forge_124 : decode cX7_forge 124 = .ok (.invokevirtual 309, 3) := by decide +kernel
theorem dX7_forge_127 : decode cX7_forge 127 = .ok (.ireturn, 1) := by decide +kernel
theorem dX7_forge_128 : decode cX7_forge 128 = .ok (.aload_n 0, 1) := by decide +kernel
theorem dX7_forge_129 : decode cX7_forge 129 = .ok (.iload 5, 2) := by decide +kernel
theorem dX7_forge_131 : decode cX7_forge 131 = .ok (.iload_n 2, 1) := by decide +kernel
theorem dX7_forge_132 : decode cX7_forge 132 = .ok (.invokevirtual 312, 3) := by decide +kernel
theorem dX7_forge_135 : decode cX7_forge 135 = .ok (.ireturn, 1) := by decide +kernel
theorem dX7_forge_136 : decode cX7_forge 136 = .ok (.aload_n 0, 1) := by decide +kernel
theorem dX7_forge_137 : decode cX7_forge 137 = .ok (.iload 4, 2) := by decide +kernel
theorem dX7_forge_139 : decode cX7_forge 139 = .ok (.invokevirtual 315, 3) := by decide +kernel
theorem dX7_forge_142 : decode cX7_forge 142 = .ok (.ireturn, 1) := by decide +kernel
theorem dX7_forge_143 : decode cX7_forge 143 = .ok (.iload_n 2, 1) := by decide +kernel
theorem dX7_forge_144 : decode cX7_forge 144 = .ok (.ifCond .ne 12, 3) := by decide +kernel
theorem dX7_forge_147 : decode cX7_forge 147 = .ok (.aload_n 0, 1) := by decide +kernel
theorem dX7_forge_148 : decode cX7_forge 148 = .ok (.bipush 15, 2) := by decide +kernel
theorem dX7_forge_150 : decode cX7_forge 150 = .ok (.invokevirtual 53, 3) := by decide +kernel
theorem dX7_forge_153 : decode cX7_forge 153 = .ok (.goto 12, 3) := by decide +kernel
theorem dX7_forge_156 : decode cX7_forge 156 = .ok (.aload_n 0, 1) := by decide +kernel
theorem dX7_forge_157 : decode cX7_forge 157 = .ok (.sipush 1000, 3) := by decide +kernel
theorem dX7_forge_160 : decode cX7_forge 160 = .ok (.iload_n 2, 1) := by decide +kernel
theorem dX7_forge_161 : decode cX7_forge 161 = .ok (.idiv, 1) := by decide +kernel
theorem dX7_forge_162 : decode cX7_forge 162 = .ok (.invokevirtual 57, 3) := by decide +kernel
theorem dX7_forge_165 : decode cX7_forge 165 = .ok (.ireturn, 1) := by decide +kernel
theorem dX7_forge_166 : decode cX7_forge 166 = .ok (.iload_n 2, 1) := by decide +kernel
theorem dX7_forge_167 : decode cX7_forge 167 = .ok (.iconst 2, 1) := by decide +kernel
theorem dX7_forge_168 : decode cX7_forge 168 = .ok (.invokestatic 301, 3) := by decide +kernel
theorem dX7_forge_171 : decode cX7_forge 171 = .ok (.ifCond .ne 12, 3) := by decide +kernel
theorem dX7_forge_174 : decode cX7_forge 174 = .ok (.aload_n 0, 1) := by decide +kernel
theorem dX7_forge_175 : decode cX7_forge 175 = .ok (.bipush 10, 2) := by decide +kernel
theorem dX7_forge_177 : decode cX7_forge 177 = .ok (.invokevirtual 53, 3) := by decide +kernel
theorem dX7_forge_180 : decode cX7_forge 180 = .ok (.goto 8, 3) := by decide +kernel
theorem dX7_forge_183 : decode cX7_forge 183 = .ok (.aload_n 0, 1) := by decide +kernel
theorem dX7_forge_184 : decode cX7_forge 184 = .ok (.iconst 1, 1) := by decide +kernel
theorem dX7_forge_185 : decode cX7_forge 185 = .ok (.invokevirtual 57, 3) := by decide +kernel
theorem dX7_forge_188 : decode cX7_forge 188 = .ok (.ireturn, 1) := by decide +kernel
theorem dX7_forge_189 : decode cX7_forge 189 = .ok (.aload_n 0, 1) := by decide +kernel
theorem dX7_forge_190 : decode cX7_forge 190 = .ok (.iconst 1, 1) := by decide +kernel
theorem dX7_forge_191 : decode cX7_forge 191 = .ok (.invokevirtual 53, 3) := by decide +kernel
theorem dX7_forge_194 : decode cX7_forge 194 = .ok (.ireturn, 1) := by decide +kernel
theorem dX7_status_0 : decode cX7_status 0 = .ok (.aload_n 0, 1) := by decide +kernel
theorem dX7_status_1 : decode cX7_status 1 = .ok (.getfield 318, 3) := by decide +kernel
theorem dX7_status_4 : decode cX7_status 4 = .ok (.ireturn, 1) := by decide +kernel
theorem dX7_refused_0 : decode cX7_refused 0 = .ok (.aload_n 0, 1) := by decide +kernel
theorem dX7_refused_1 : decode cX7_refused 1 = .ok (.iload_n 1, 1) := by decide +kernel
theorem dX7_refused_2 : decode cX7_refused 2 = .ok (.putfield 318, 3) := by decide +kernel
theorem dX7_refused_5 : decode cX7_refused 5 = .ok (.iconst (-1), 1) := by decide +kernel
theorem dX7_refused_6 : decode cX7_refused 6 = .ok (.ireturn, 1) := by decide +kernel
theorem dX7_done_0 : decode cX7_done 0 = .ok (.aload_n 0, 1) := by decide +kernel
theorem dX7_done_1 : decode cX7_done 1 = .ok (.iconst 0, 1) := by decide +kernel
theorem dX7_done_2 : decode cX7_done 2 = .ok (.putfield 318, 3) := by decide +kernel
theorem dX7_done_5 : decode cX7_done 5 = .ok (.iload_n 1, 1) := by decide +kernel
theorem dX7_done_6 : decode cX7_done 6 = .ok (.ireturn, 1) := by decide +kernel
theorem dX7_isRank_0 : decode cX7_isRank 0 = .ok (.iload_n 0, 1) := by decide +kernel
theorem dX7_isRank_1 : decode cX7_isRank 1 = .ok (.ifCond .lt 13, 3) := by decide +kernel
theorem dX7_isRank_4 : decode cX7_isRank 4 = .ok (.iload_n 0, 1) := by decide +kernel
theorem dX7_isRank_5 : decode cX7_isRank 5 = .ok (.bipush 9, 2) := by decide +kernel
theorem dX7_isRank_7 : decode cX7_isRank 7 = .ok (.if_icmp .gt 7, 3) := by decide +kernel
theorem dX7_isRank_10 : decode cX7_isRank 10 = .ok (.iconst 1, 1) := by decide +kernel
theorem dX7_isRank_11 : decode cX7_isRank 11 = .ok (.goto 4, 3) := by decide +kernel
theorem dX7_isRank_14 : decode cX7_isRank 14 = .ok (.iconst 0, 1) := by decide +kernel
theorem dX7_isRank_15 : decode cX7_isRank 15 = .ok (.ireturn, 1) := by decide +kernel
theorem dX7_isWish_0 : decode cX7_isWish 0 = .ok (.aload_n 0, 1) := by decide +kernel
theorem dX7_isWish_1 : decode cX7_isWish 1 = .ok (.getfield 17, 3) := by decide +kernel
theorem dX7_isWish_4 : decode cX7_isWish 4 = .ok (.iload_n 1, 1) := by decide +kernel
theorem dX7_isWish_5 : decode cX7_isWish 5 = .ok (.invokevirtual 96, 3) := by decide +kernel
theorem dX7_isWish_8 : decode cX7_isWish 8 = .ok (.ifCond .eq 48, 3) := by decide +kernel
theorem dX7_isWish_11 : decode cX7_isWish 11 = .ok (.aload_n 0, 1) := by decide +kernel
theorem dX7_isWish_12 : decode cX7_isWish 12 = .ok (.getfield 17, 3) := by decide +kernel
theorem dX7_isWish_15 : decode cX7_isWish 15 = .ok (.iload 4, 2) := by decide +kernel
theorem dX7_isWish_17 : decode cX7_isWish 17 = .ok (.invokevirtual 96, 3) := by decide +kernel
theorem dX7_isWish_20 : decode cX7_isWish 20 = .ok (.ifCond .eq 36, 3) := by decide +kernel
theorem dX7_isWish_23 : decode cX7_isWish 23 = .ok (.iload_n 2, 1) := by decide +kernel
theorem dX7_isWish_24 : decode cX7_isWish 24 = .ok (.ifCond .lt 32, 3) := by decide +kernel
theorem dX7_isWish_27 : decode cX7_isWish 27 = .ok (.iload_n 2, 1) := by decide +kernel
theorem dX7_isWish_28 : decode cX7_isWish 28 = .ok (.bipush 8, 2) := by decide +kernel
theorem dX7_isWish_30 : decode cX7_isWish 30 = .ok (.if_icmp .ge 26, 3) := by decide +kernel
theorem dX7_isWish_33 : decode cX7_isWish 33 = .ok (.iload_n 3, 1) := by decide +kernel
theorem dX7_isWish_34 : decode cX7_isWish 34 = .ok (.invokestatic 90, 3) := by decide +kernel
theorem dX7_isWish_37 : decode cX7_isWish 37 = .ok (.ifCond .eq 19, 3) := by decide +kernel
theorem dX7_isWish_40 : decode cX7_isWish 40 = .ok (.iload 5, 2) := by decide +kernel
theorem dX7_isWish_42 : decode cX7_isWish 42 = .ok (.ifCond .lt 14, 3) := by decide +kernel
theorem dX7_isWish_45 : decode cX7_isWish 45 = .ok (.iload 5, 2) := by decide +kernel
theorem dX7_isWish_47 : decode cX7_isWish 47 = .ok (.bipush 31, 2) := by decide +kernel
theorem dX7_isWish_49 : decode cX7_isWish 49 = .ok (.if_icmp .gt 7, 3) := by decide +kernel
theorem dX7_isWish_52 : decode cX7_isWish 52 = .ok (.iconst 1, 1) := by decide +kernel
theorem dX7_isWish_53 : decode cX7_isWish 53 = .ok (.goto 4, 3) := by decide +kernel
theorem dX7_isWish_56 : decode cX7_isWish 56 = .ok (.iconst 0, 1) := by decide +kernel
theorem dX7_isWish_57 : decode cX7_isWish 57 = .ok (.istore 6, 2) := by decide +kernel
theorem dX7_isWish_59 : decode cX7_isWish 59 = .ok (.iload 5, 2) := by decide +kernel
theorem dX7_isWish_61 : decode cX7_isWish 61 = .ok (.iconst 2, 1) := by decide +kernel
theorem dX7_isWish_62 : decode cX7_isWish 62 = .ok (.if_icmp .eq 10, 3) := by decide +kernel
theorem dX7_isWish_65 : decode cX7_isWish 65 = .ok (.iload 5, 2) := by decide +kernel
theorem dX7_isWish_67 : decode cX7_isWish 67 = .ok (.bipush 11, 2) := by decide +kernel
theorem dX7_isWish_69 : decode cX7_isWish 69 = .ok (.if_icmp .le 7, 3) := by decide +kernel
theorem dX7_isWish_72 : decode cX7_isWish 72 = .ok (.iconst 1, 1) := by decide +kernel
theorem dX7_isWish_73 : decode cX7_isWish 73 = .ok (.goto 4, 3) := by decide +kernel
theorem dX7_isWish_76 : decode cX7_isWish 76 = .ok (.iconst 0, 1) := by decide +kernel
theorem dX7_isWish_77 : decode cX7_isWish 77 = .ok (.istore 7, 2) := by decide +kernel
theorem dX7_isWish_79 : decode cX7_isWish 79 = .ok (.iload 6, 2) := by decide +kernel
theorem dX7_isWish_81 : decode cX7_isWish 81 = .ok (.ifCond .eq 17, 3) := by decide +kernel
theorem dX7_isWish_84 : decode cX7_isWish 84 = .ok (.iload_n 2, 1) := by decide +kernel
theorem dX7_isWish_85 : decode cX7_isWish 85 = .ok (.iconst 1, 1) := by decide +kernel
theorem dX7_isWish_86 : decode cX7_isWish 86 = .ok (.if_icmp .ne 8, 3) := by decide +kernel
theorem dX7_isWish_89 : decode cX7_isWish 89 = .ok (.iload 7, 2) := by decide +kernel
theorem dX7_isWish_91 : decode cX7_isWish 91 = .ok (.ifCond .ne 7, 3) := by decide +kernel
theorem dX7_isWish_94 : decode cX7_isWish 94 = .ok (.iconst 1, 1) := by decide +kernel
theorem dX7_isWish_95 : decode cX7_isWish 95 = .ok (.goto 4, 3) := by decide +kernel
theorem dX7_isWish_98 : decode cX7_isWish 98 = .ok (.iconst 0, 1) := by decide +kernel
theorem dX7_isWish_99 : decode cX7_isWish 99 = .ok (.ireturn, 1) := by decide +kernel
theorem dX7_isJudged_0 : decode cX7_isJudged 0 = .ok (.iload_n 1, 1) := by decide +kernel
theorem dX7_isJudged_1 : decode cX7_isJudged 1 = .ok (.ifCond .lt 39, 3) := by decide +kernel
theorem dX7_isJudged_4 : decode cX7_isJudged 4 = .ok (.iload_n 1, 1) := by decide +kernel
theorem dX7_isJudged_5 : decode cX7_isJudged 5 = .ok (.iconst 2, 1) := by decide +kernel
theorem dX7_isJudged_6 : decode cX7_isJudged 6 = .ok (.if_icmp .gt 34, 3) := by decide +kernel
theorem dX7_isJudged_9 : decode cX7_isJudged 9 = .ok (.aload_n 0, 1) := by decide +kernel
theorem dX7_isJudged_10 : decode cX7_isJudged 10 = .ok (.getfield 17, 3) := by decide +kernel
theorem dX7_isJudged_13 : decode cX7_isJudged 13 = .ok (.iload_n 2, 1) := by decide +kernel
theorem dX7_isJudged_14 : decode cX7_isJudged 14 = .ok (.invokevirtual 96, 3) := by decide +kernel
theorem dX7_isJudged_17 : decode cX7_isJudged 17 = .ok (.ifCond .eq 23, 3) := by decide +kernel
theorem dX7_isJudged_20 : decode cX7_isJudged 20 = .ok (.iload_n 1, 1) := by decide +kernel
theorem dX7_isJudged_21 : decode cX7_isJudged 21 = .ok (.iconst 1, 1) := by decide +kernel
theorem dX7_isJudged_22 : decode cX7_isJudged 22 = .ok (.if_icmp .eq 14, 3) := by decide +kernel
theorem dX7_isJudged_25 : decode cX7_isJudged 25 = .ok (.aload_n 0, 1) := by decide +kernel
theorem dX7_isJudged_26 : decode cX7_isJudged 26 = .ok (.getfield 17, 3) := by decide +kernel
theorem dX7_isJudged_29 : decode cX7_isJudged 29 = .ok (.iload_n 3, 1) := by decide +kernel
theorem dX7_isJudged_30 : decode cX7_isJudged 30 = .ok (.invokevirtual 96, 3) := by decide +kernel
theorem dX7_isJudged_33 : decode cX7_isJudged 33 = .ok (.ifCond .eq 7, 3) := by decide +kernel
theorem dX7_isJudged_36 : decode cX7_isJudged 36 = .ok (.iconst 1, 1) := by decide +kernel
theorem dX7_isJudged_37 : decode cX7_isJudged 37 = .ok (.goto 4, 3) := by decide +kernel
theorem dX7_isJudged_40 : decode cX7_isJudged 40 = .ok (.iconst 0, 1) := by decide +kernel
theorem dX7_isJudged_41 : decode cX7_isJudged 41 = .ok (.istore 6, 2) := by decide +kernel
theorem dX7_isJudged_43 : decode cX7_isJudged 43 = .ok (.iload 4, 2) := by decide +kernel
theorem dX7_isJudged_45 : decode cX7_isJudged 45 = .ok (.ifCond .lt 30, 3) := by decide +kernel
theorem dX7_isJudged_48 : decode cX7_isJudged 48 = .ok (.iload 4, 2) := by decide +kernel
theorem dX7_isJudged_50 : decode cX7_isJudged 50 = .ok (.iconst 1, 1) := by decide +kernel
theorem dX7_isJudged_51 : decode cX7_isJudged 51 = .ok (.aload_n 0, 1) := by decide +kernel
theorem dX7_isJudged_52 : decode cX7_isJudged 52 = .ok (.getfield 17, 3) := by decide +kernel
theorem dX7_isJudged_55 : decode cX7_isJudged 55 = .ok (.getfield 49, 3) := by decide +kernel
theorem dX7_isJudged_58 : decode cX7_isJudged 58 = .ok (.ishl, 1) := by decide +kernel
theorem dX7_isJudged_59 : decode cX7_isJudged 59 = .ok (.if_icmp .ge 16, 3) := by decide +kernel
theorem dX7_isJudged_62 : decode cX7_isJudged 62 = .ok (.iload 4, 2) := by decide +kernel
theorem dX7_isJudged_64 : decode cX7_isJudged 64 = .ok (.invokestatic 321, 3) := by decide +kernel
theorem dX7_isJudged_67 : decode cX7_isJudged 67 = .ok (.iconst 3, 1) := by decide +kernel
theorem dX7_isJudged_68 : decode cX7_isJudged 68 = .ok (.if_icmp .gt 7, 3) := by decide +kernel
theorem dX7_isJudged_71 : decode cX7_isJudged 71 = .ok (.iconst 1, 1) := by decide +kernel
theorem dX7_isJudged_72 : decode cX7_isJudged 72 = .ok (.goto 4, 3) := by decide +kernel
theorem dX7_isJudged_75 : decode cX7_isJudged 75 = .ok (.iconst 0, 1) := by decide +kernel
theorem dX7_isJudged_76 : decode cX7_isJudged 76 = .ok (.istore 7, 2) := by decide +kernel
theorem dX7_isJudged_78 : decode cX7_isJudged 78 = .ok (.iload 6, 2) := by decide +kernel
theorem dX7_isJudged_80 : decode cX7_isJudged 80 = .ok (.ifCond .eq 24, 3) := by decide +kernel
theorem dX7_isJudged_83 : decode cX7_isJudged 83 = .ok (.iload 7, 2) := by decide +kernel
theorem dX7_isJudged_85 : decode cX7_isJudged 85 = .ok (.ifCond .eq 19, 3) := by decide +kernel
theorem dX7_isJudged_88 : decode cX7_isJudged 88 = .ok (.iload 5, 2) := by decide +kernel
theorem dX7_isJudged_90 : decode cX7_isJudged 90 = .ok (.iconst 1, 1) := by decide +kernel
theorem dX7_isJudged_91 : decode cX7_isJudged 91 = .ok (.if_icmp .lt 13, 3) := by decide +kernel
theorem dX7_isJudged_94 : decode cX7_isJudged 94 = .ok (.iload 5, 2) := by decide +kernel
theorem dX7_isJudged_96 : decode cX7_isJudged 96 = .ok (.iconst 3, 1) := by decide +kernel
theorem dX7_isJudged_97 : decode cX7_isJudged 97 = .ok (.if_icmp .gt 7, 3) := by decide +kernel
theorem dX7_isJudged_100 : decode cX7_isJudged 100 = .ok (.iconst 1, 1) := by decide +kernel
theorem dX7_isJudged_101 : decode cX7_isJudged 101 = .ok (.goto 4, 3) := by decide +kernel
theorem dX7_isJudged_104 : decode cX7_isJudged 104 = .ok (.iconst 0, 1) := by decide +kernel
theorem dX7_isJudged_105 : decode cX7_isJudged 105 = .ok (.ireturn, 1) := by decide +kernel
theorem dX7_orderedFrom_0 : decode cX7_orderedFrom 0 = .ok (.aload_n 0, 1) := by decide +kernel
theorem dX7_orderedFrom_1 : decode cX7_orderedFrom 1 = .ok (.getfield 41, 3) := by decide +kernel
theorem dX7_orderedFrom_4 : decode cX7_orderedFrom 4 = .ok (.iload_n 1, 1) := by decide +kernel
theorem dX7_orderedFrom_5 : decode cX7_orderedFrom 5 = .ok (.iload_n 2, 1) := by decide +kernel
theorem dX7_orderedFrom_6 : decode cX7_orderedFrom 6 = .ok (.invokevirtual 326, 3) := by decide +kernel
theorem dX7_orderedFrom_9 : decode cX7_orderedFrom 9 = .ok (.istore_n 3, 1) := by decide +kernel
theorem dX7_orderedFrom_10 : decode cX7_orderedFrom 10 = .ok (.aload_n 0, 1) := by decide +kernel
theorem dX7_orderedFrom_11 : decode cX7_orderedFrom 11 = .ok (.getfield 41, 3) := by decide +kernel
theorem dX7_orderedFrom_14 : decode cX7_orderedFrom 14 = .ok (.iload_n 1, 1) := by decide +kernel
theorem dX7_orderedFrom_15 : decode cX7_orderedFrom 15 = .ok (.iload_n 2, 1) := by decide +kernel
theorem dX7_orderedFrom_16 : decode cX7_orderedFrom 16 = .ok (.iconst 1, 1) := by decide +kernel
theorem dX7_orderedFrom_17 : decode cX7_orderedFrom 17 = .ok (.iadd, 1) := by decide +kernel
theorem dX7_orderedFrom_18 : decode cX7_orderedFrom 18 = .ok (.invokevirtual 326, 3) := by decide +kernel
theorem dX7_orderedFrom_21 : decode cX7_orderedFrom 21 = .ok (.istore 4, 2) := by decide +kernel
theorem dX7_orderedFrom_23 : decode cX7_orderedFrom 23 = .ok (.aload_n 0, 1) := by decide +kernel
theorem dX7_orderedFrom_24 : decode cX7_orderedFrom 24 = .ok (.getfield 41, 3) := by decide +kernel
theorem dX7_orderedFrom_27 : decode cX7_orderedFrom 27 = .ok (.iload_n 1, 1) := by decide +kernel
theorem dX7_orderedFrom_28 : decode cX7_orderedFrom 28 = .ok (.iload_n 2, 1) := by decide +kernel
theorem dX7_orderedFrom_29 : decode cX7_orderedFrom 29 = .ok (.iconst 2, 1) := by decide +kernel
theorem dX7_orderedFrom_30 : decode cX7_orderedFrom 30 = .ok (.iadd, 1) := by decide +kernel
theorem dX7_orderedFrom_31 : decode cX7_orderedFrom 31 = .ok (.invokevirtual 326, 3) := by decide +kernel
theorem dX7_orderedFrom_34 : decode cX7_orderedFrom 34 = .ok (.istore 5, 2) := by decide +kernel
theorem dX7_orderedFrom_36 : decode cX7_orderedFrom 36 = .ok (.aload_n 0, 1) := by decide +kernel
theorem dX7_orderedFrom_37 : decode cX7_orderedFrom 37 = .ok (.getfield 41, 3) := by decide +kernel
theorem dX7_orderedFrom_40 : decode cX7_orderedFrom 40 = .ok (.iload_n 1, 1) := by decide +kernel
theorem dX7_orderedFrom_41 : decode cX7_orderedFrom 41 = .ok (.iload_n 2, 1) := by decide +kernel
theorem dX7_orderedFrom_42 : decode cX7_orderedFrom 42 = .ok (.iconst 3, 1) := by decide +kernel
theorem dX7_orderedFrom_43 : decode cX7_orderedFrom 43 = .ok (.iadd, 1) := by decide +kernel
theorem dX7_orderedFrom_44 : decode cX7_orderedFrom 44 = .ok (.invokevirtual 326, 3) := by decide +kernel
theorem dX7_orderedFrom_47 : decode cX7_orderedFrom 47 = .ok (.istore 6, 2) := by decide +kernel
theorem dX7_orderedFrom_49 : decode cX7_orderedFrom 49 = .ok (.aload_n 0, 1) := by decide +kernel
theorem dX7_orderedFrom_50 : decode cX7_orderedFrom 50 = .ok (.getfield 41, 3) := by decide +kernel
theorem dX7_orderedFrom_53 : decode cX7_orderedFrom 53 = .ok (.iload_n 1, 1) := by decide +kernel
theorem dX7_orderedFrom_54 : decode cX7_orderedFrom 54 = .ok (.iload_n 2, 1) := by decide +kernel
theorem dX7_orderedFrom_55 : decode cX7_orderedFrom 55 = .ok (.iconst 4, 1) := by decide +kernel
theorem dX7_orderedFrom_56 : decode cX7_orderedFrom 56 = .ok (.iadd, 1) := by decide +kernel
theorem dX7_orderedFrom_57 : decode cX7_orderedFrom 57 = .ok (.invokevirtual 326, 3) := by decide +kernel
theorem dX7_orderedFrom_60 : decode cX7_orderedFrom 60 = .ok (.istore 7, 2) := by decide +kernel
theorem dX7_orderedFrom_62 : decode cX7_orderedFrom 62 = .ok (.aload_n 0, 1) := by decide +kernel
theorem dX7_orderedFrom_63 : decode cX7_orderedFrom 63 = .ok (.iload_n 3, 1) := by decide +kernel
theorem dX7_orderedFrom_64 : decode cX7_orderedFrom 64 = .ok (.iload 4, 2) := by decide +kernel
theorem dX7_orderedFrom_66 : decode cX7_orderedFrom 66 = .ok (.iload 5, 2) := by decide +kernel
theorem dX7_orderedFrom_68 : decode cX7_orderedFrom 68 = .ok (.iload 6, 2) := by decide +kernel
theorem dX7_orderedFrom_70 : decode cX7_orderedFrom 70 = .ok (.iload 7, 2) := by decide +kernel
theorem dX7_orderedFrom_72 : decode cX7_orderedFrom 72 = .ok (.invokevirtual 60, 3) := by decide +kernel
theorem dX7_orderedFrom_75 : decode cX7_orderedFrom 75 = .ok (.ifCond .ne 9, 3) := by decide +kernel
theorem dX7_orderedFrom_78 : decode cX7_orderedFrom 78 = .ok (.aload_n 0, 1) := by decide +kernel
theorem dX7_orderedFrom_79 : decode cX7_orderedFrom 79 = .ok (.iconst 3, 1) := by decide +kernel
theorem dX7_orderedFrom_80 : decode cX7_orderedFrom 80 = .ok (.invokevirtual 53, 3) := by decide +kernel
theorem dX7_orderedFrom_83 : decode cX7_orderedFrom 83 = .ok (.ireturn, 1) := by decide +kernel
theorem dX7_orderedFrom_84 : decode cX7_orderedFrom 84 = .ok (.aload_n 0, 1) := by decide +kernel
theorem dX7_orderedFrom_85 : decode cX7_orderedFrom 85 = .ok (.aload_n 0, 1) := by decide +kernel
theorem dX7_orderedFrom_86 : decode cX7_orderedFrom 86 = .ok (.getfield 17, 3) := by decide +kernel
theorem dX7_orderedFrom_89 : decode cX7_orderedFrom 89 = .ok (.getfield 64, 3) := by decide +kernel
theorem dX7_orderedFrom_92 : decode cX7_orderedFrom 92 = .ok (.iload_n 3, 1) := by decide +kernel
theorem dX7_orderedFrom_93 : decode cX7_orderedFrom 93 = .ok (.iload 4, 2) := by decide +kernel
theorem dX7_orderedFrom_95 : decode cX7_orderedFrom 95 = .ok (.iload 5, 2) := by decide +kernel
theorem dX7_orderedFrom_97 : decode cX7_orderedFrom 97 = .ok (.iload 6, 2) := by decide +kernel
theorem dX7_orderedFrom_99 : decode cX7_orderedFrom 99 = .ok (.iload 7, 2) := by decide +kernel
theorem dX7_orderedFrom_101 : decode cX7_orderedFrom 101 = .ok (.invokevirtual 72, 3) := by decide +kernel
theorem dX7_orderedFrom_104 : decode cX7_orderedFrom 104 = .ok (.invokevirtual 57, 3) := by decide +kernel
theorem dX7_orderedFrom_107 : decode cX7_orderedFrom 107 = .ok (.ireturn, 1) := by decide +kernel
theorem dX7_takenForKind_0 : decode cX7_takenForKind 0 = .ok (.aload_n 0, 1) := by decide +kernel
theorem dX7_takenForKind_1 : decode cX7_takenForKind 1 = .ok (.getfield 17, 3) := by decide +kernel
theorem dX7_takenForKind_4 : decode cX7_takenForKind 4 = .ok (.getfield 64, 3) := by decide +kernel
theorem dX7_takenForKind_7 : decode cX7_takenForKind 7 = .ok (.iload_n 1, 1) := by decide +kernel
theorem dX7_takenForKind_8 : decode cX7_takenForKind 8 = .ok (.invokevirtual 76, 3) := by decide +kernel
theorem dX7_takenForKind_11 : decode cX7_takenForKind 11 = .ok (.ifCond .ne 10, 3) := by decide +kernel
theorem dX7_takenForKind_14 : decode cX7_takenForKind 14 = .ok (.aload_n 0, 1) := by decide +kernel
theorem dX7_takenForKind_15 : decode cX7_takenForKind 15 = .ok (.bipush 10, 2) := by decide +kernel
theorem dX7_takenForKind_17 : decode cX7_takenForKind 17 = .ok (.invokevirtual 53, 3) := by decide +kernel
theorem dX7_takenForKind_20 : decode cX7_takenForKind 20 = .ok (.ireturn, 1) := by decide +kernel
theorem dX7_takenForKind_21 : decode cX7_takenForKind 21 = .ok (.aload_n 0, 1) := by decide +kernel
theorem dX7_takenForKind_22 : decode cX7_takenForKind 22 = .ok (.getfield 17, 3) := by decide +kernel
theorem dX7_takenForKind_25 : decode cX7_takenForKind 25 = .ok (.getfield 64, 3) := by decide +kernel
theorem dX7_takenForKind_28 : decode cX7_takenForKind 28 = .ok (.getfield 80, 3) := by decide +kernel
theorem dX7_takenForKind_31 : decode cX7_takenForKind 31 = .ok (.iload_n 1, 1) := by decide +kernel
theorem dX7_takenForKind_32 : decode cX7_takenForKind 32 = .ok (.aaload, 1) := by decide +kernel
theorem dX7_takenForKind_33 : decode cX7_takenForKind 33 = .ok (.getfield 143, 3) := by decide +kernel
theorem dX7_takenForKind_36 : decode cX7_takenForKind 36 = .ok (.istore_n 3, 1) := by decide +kernel
theorem dX7_takenForKind_37 : decode cX7_takenForKind 37 = .ok (.iload_n 2, 1) := by decide +kernel
theorem dX7_takenForKind_38 : decode cX7_takenForKind 38 = .ok (.ifCond .eq 13, 3) := by decide +kernel
theorem dX7_takenForKind_41 : decode cX7_takenForKind 41 = .ok (.iload_n 2, 1) := by decide +kernel
theorem dX7_takenForKind_42 : decode cX7_takenForKind 42 = .ok (.iconst 2, 1) := by decide +kernel
theorem dX7_takenForKind_43 : decode cX7_takenForKind 43 = .ok (.if_icmp .ne 12, 3) := by decide +kernel
theorem dX7_takenForKind_46 : decode cX7_takenForKind 46 = .ok (.iload_n 3, 1) := by decide +kernel
theorem dX7_takenForKind_47 : decode cX7_takenForKind 47 = .ok (.iconst 3, 1) := by decide +kernel
theorem dX7_takenForKind_48 : decode cX7_takenForKind 48 = .ok (.if_icmp .ne 7, 3) := by decide +kernel
theorem dX7_takenForKind_51 : decode cX7_takenForKind 51 = .ok (.iconst 1, 1) := by decide +kernel
theorem dX7_takenForKind_52 : decode cX7_takenForKind 52 = .ok (.goto 4, 3) := by decide +kernel
theorem dX7_takenForKind_55 : decode cX7_takenForKind 55 = .ok (.iconst 0, 1) := by decide +kernel
theorem dX7_takenForKind_56 : decode cX7_takenForKind 56 = .ok (.istore 4, 2) := by decide +kernel
theorem dX7_takenForKind_58 : decode cX7_takenForKind 58 = .ok (.iload_n 3, 1) := by decide +kernel
theorem dX7_takenForKind_59 : decode cX7_takenForKind 59 = .ok (.iload_n 2, 1) := by decide +kernel
theorem dX7_takenForKind_60 : decode cX7_takenForKind 60 = .ok (.if_icmp .eq 8, 3) := by decide +kernel
theorem dX7_takenForKind_63 : decode cX7_takenForKind 63 = .ok (.iload 4, 2) := by decide +kernel
theorem dX7_takenForKind_65 : decode cX7_takenForKind 65 = .ok (.ifCond .eq 11, 3) := by decide +kernel
theorem dX7_takenForKind_68 : decode cX7_takenForKind 68 = .ok (.aload_n 0, 1) := by decide +kernel
theorem dX7_takenForKind_69 : decode cX7_takenForKind 69 = .ok (.iload_n 3, 1) := by decide +kernel
theorem dX7_takenForKind_70 : decode cX7_takenForKind 70 = .ok (.invokevirtual 57, 3) := by decide +kernel
theorem dX7_takenForKind_73 : decode cX7_takenForKind 73 = .ok (.goto 9, 3) := by decide +kernel
theorem dX7_takenForKind_76 : decode cX7_takenForKind 76 = .ok (.aload_n 0, 1) := by decide +kernel
theorem dX7_takenForKind_77 : decode cX7_takenForKind 77 = .ok (.bipush 11, 2) := by decide +kernel
theorem dX7_takenForKind_79 : decode cX7_takenForKind 79 = .ok (.invokevirtual 53, 3) := by decide +kernel
theorem dX7_takenForKind_82 : decode cX7_takenForKind 82 = .ok (.ireturn, 1) := by decide +kernel
theorem dX7_readAsShort_0 : decode cX7_readAsShort 0 = .ok (.aload_n 0, 1) := by decide +kernel
theorem dX7_readAsShort_1 : decode cX7_readAsShort 1 = .ok (.getfield 41, 3) := by decide +kernel
theorem dX7_readAsShort_4 : decode cX7_readAsShort 4 = .ok (.iload_n 1, 1) := by decide +kernel
theorem dX7_readAsShort_5 : decode cX7_readAsShort 5 = .ok (.invokevirtual 285, 3) := by decide +kernel
theorem dX7_readAsShort_8 : decode cX7_readAsShort 8 = .ok (.ifCond .eq 10, 3) := by decide +kernel
theorem dX7_readAsShort_11 : decode cX7_readAsShort 11 = .ok (.aload_n 0, 1) := by decide +kernel
theorem dX7_readAsShort_12 : decode cX7_readAsShort 12 = .ok (.bipush 10, 2) := by decide +kernel
theorem dX7_readAsShort_14 : decode cX7_readAsShort 14 = .ok (.invokevirtual 53, 3) := by decide +kernel
theorem dX7_readAsShort_17 : decode cX7_readAsShort 17 = .ok (.ireturn, 1) := by decide +kernel
theorem dX7_readAsShort_18 : decode cX7_readAsShort 18 = .ok (.aload_n 0, 1) := by decide +kernel
theorem dX7_readAsShort_19 : decode cX7_readAsShort 19 = .ok (.getfield 41, 3) := by decide +kernel
theorem dX7_readAsShort_22 : decode cX7_readAsShort 22 = .ok (.getfield 295, 3) := by decide +kernel
theorem dX7_readAsShort_25 : decode cX7_readAsShort 25 = .ok (.iload_n 1, 1) := by decide +kernel
theorem dX7_readAsShort_26 : decode cX7_readAsShort 26 = .ok (.iaload, 1) := by decide +kernel
theorem dX7_readAsShort_27 : decode cX7_readAsShort 27 = .ok (.iconst 1, 1) := by decide +kernel
theorem dX7_readAsShort_28 : decode cX7_readAsShort 28 = .ok (.if_icmp .eq 10, 3) := by decide +kernel
theorem dX7_readAsShort_31 : decode cX7_readAsShort 31 = .ok (.aload_n 0, 1) := by decide +kernel
theorem dX7_readAsShort_32 : decode cX7_readAsShort 32 = .ok (.bipush 11, 2) := by decide +kernel
theorem dX7_readAsShort_34 : decode cX7_readAsShort 34 = .ok (.invokevirtual 53, 3) := by decide +kernel
theorem dX7_readAsShort_37 : decode cX7_readAsShort 37 = .ok (.ireturn, 1) := by decide +kernel
theorem dX7_readAsShort_38 : decode cX7_readAsShort 38 = .ok (.aload_n 0, 1) := by decide +kernel
theorem dX7_readAsShort_39 : decode cX7_readAsShort 39 = .ok (.getfield 41, 3) := by decide +kernel
theorem dX7_readAsShort_42 : decode cX7_readAsShort 42 = .ok (.iload_n 1, 1) := by decide +kernel
theorem dX7_readAsShort_43 : decode cX7_readAsShort 43 = .ok (.iload_n 2, 1) := by decide +kernel
theorem dX7_readAsShort_44 : decode cX7_readAsShort 44 = .ok (.iconst 1, 1) := by decide +kernel
theorem dX7_readAsShort_45 : decode cX7_readAsShort 45 = .ok (.invokevirtual 288, 3) := by decide +kernel
theorem dX7_readAsShort_48 : decode cX7_readAsShort 48 = .ok (.ifCond .eq 19, 3) := by decide +kernel
theorem dX7_readAsShort_51 : decode cX7_readAsShort 51 = .ok (.aload_n 0, 1) := by decide +kernel
theorem dX7_readAsShort_52 : decode cX7_readAsShort 52 = .ok (.aload_n 0, 1) := by decide +kernel
theorem dX7_readAsShort_53 : decode cX7_readAsShort 53 = .ok (.getfield 41, 3) := by decide +kernel
theorem dX7_readAsShort_56 : decode cX7_readAsShort 56 = .ok (.iload_n 1, 1) := by decide +kernel
theorem dX7_readAsShort_57 : decode cX7_readAsShort 57 = .ok (.iload_n 2, 1) := by decide +kernel
theorem dX7_readAsShort_58 : decode cX7_readAsShort 58 = .ok (.invokevirtual 326, 3) := by decide +kernel
theorem dX7_readAsShort_61 : decode cX7_readAsShort 61 = .ok (.invokevirtual 57, 3) := by decide +kernel
theorem dX7_readAsShort_64 : decode cX7_readAsShort 64 = .ok (.goto 9, 3) := by decide +kernel
theorem dX7_readAsShort_67 : decode cX7_readAsShort 67 = .ok (.aload_n 0, 1) := by decide +kernel
theorem dX7_readAsShort_68 : decode cX7_readAsShort 68 = .ok (.bipush 12, 2) := by decide +kernel
theorem dX7_readAsShort_70 : decode cX7_readAsShort 70 = .ok (.invokevirtual 53, 3) := by decide +kernel
theorem dX7_readAsShort_73 : decode cX7_readAsShort 73 = .ok (.ireturn, 1) := by decide +kernel
theorem dX7_copiedAsBytes_0 : decode cX7_copiedAsBytes 0 = .ok (.aload_n 0, 1) := by decide +kernel
theorem dX7_copiedAsBytes_1 : decode cX7_copiedAsBytes 1 = .ok (.getfield 41, 3) := by decide +kernel
theorem dX7_copiedAsBytes_4 : decode cX7_copiedAsBytes 4 = .ok (.iload_n 1, 1) := by decide +kernel
theorem dX7_copiedAsBytes_5 : decode cX7_copiedAsBytes 5 = .ok (.invokevirtual 285, 3) := by decide +kernel
theorem dX7_copiedAsBytes_8 : decode cX7_copiedAsBytes 8 = .ok (.ifCond .eq 10, 3) := by decide +kernel
theorem dX7_copiedAsBytes_11 : decode cX7_copiedAsBytes 11 = .ok (.aload_n 0, 1) := by decide +kernel
theorem dX7_copiedAsBytes_12 : decode cX7_copiedAsBytes 12 = .ok (.bipush 10, 2) := by decide +kernel
theorem dX7_copiedAsBytes_14 : decode cX7_copiedAsBytes 14 = .ok (.invokevirtual 53, 3) := by decide +kernel
theorem dX7_copiedAsBytes_17 : decode cX7_copiedAsBytes 17 = .ok (.ireturn, 1) := by decide +kernel
theorem dX7_copiedAsBytes_18 : decode cX7_copiedAsBytes 18 = .ok (.aload_n 0, 1) := by decide +kernel
theorem dX7_copiedAsBytes_19 : decode cX7_copiedAsBytes 19 = .ok (.getfield 41, 3) := by decide +kernel
theorem dX7_copiedAsBytes_22 : decode cX7_copiedAsBytes 22 = .ok (.getfield 295, 3) := by decide +kernel
theorem dX7_copiedAsBytes_25 : decode cX7_copiedAsBytes 25 = .ok (.iload_n 1, 1) := by decide +kernel
theorem dX7_copiedAsBytes_26 : decode cX7_copiedAsBytes 26 = .ok (.iaload, 1) := by decide +kernel
theorem dX7_copiedAsBytes_27 : decode cX7_copiedAsBytes 27 = .ok (.ifCond .eq 10, 3) := by decide +kernel
theorem dX7_copiedAsBytes_30 : decode cX7_copiedAsBytes 30 = .ok (.aload_n 0, 1) := by decide +kernel
theorem dX7_copiedAsBytes_31 : decode cX7_copiedAsBytes 31 = .ok (.bipush 11, 2) := by decide +kernel
theorem dX7_copiedAsBytes_33 : decode cX7_copiedAsBytes 33 = .ok (.invokevirtual 53, 3) := by decide +kernel
theorem dX7_copiedAsBytes_36 : decode cX7_copiedAsBytes 36 = .ok (.ireturn, 1) := by decide +kernel
theorem dX7_copiedAsBytes_37 : decode cX7_copiedAsBytes 37 = .ok (.iload_n 2, 1) := by decide +kernel
theorem dX7_copiedAsBytes_38 : decode cX7_copiedAsBytes 38 = .ok (.ifCond .lt 24, 3) := by decide +kernel
theorem dX7_copiedAsBytes_41 : decode cX7_copiedAsBytes 41 = .ok (.iload_n 2, 1) := by decide +kernel
theorem dX7_copiedAsBytes_42 : decode cX7_copiedAsBytes 42 = .ok (.iload_n 2, 1) := by decide +kernel
theorem dX7_copiedAsBytes_43 : decode cX7_copiedAsBytes 43 = .ok (.iadd, 1) := by decide +kernel
theorem dX7_copiedAsBytes_44 : decode cX7_copiedAsBytes 44 = .ok (.bipush 6, 2) := by decide +kernel
theorem dX7_copiedAsBytes_46 : decode cX7_copiedAsBytes 46 = .ok (.if_icmp .gt 16, 3) := by decide +kernel
theorem dX7_copiedAsBytes_49 : decode cX7_copiedAsBytes 49 = .ok (.aload_n 0, 1) := by decide +kernel
theorem dX7_copiedAsBytes_50 : decode cX7_copiedAsBytes 50 = .ok (.getfield 41, 3) := by decide +kernel
theorem dX7_copiedAsBytes_53 : decode cX7_copiedAsBytes 53 = .ok (.iload_n 1, 1) := by decide +kernel
theorem dX7_copiedAsBytes_54 : decode cX7_copiedAsBytes 54 = .ok (.iconst 1, 1) := by decide +kernel
theorem dX7_copiedAsBytes_55 : decode cX7_copiedAsBytes 55 = .ok (.iload_n 2, 1) := by decide +kernel
theorem dX7_copiedAsBytes_56 : decode cX7_copiedAsBytes 56 = .ok (.invokevirtual 288, 3) := by decide +kernel
theorem dX7_copiedAsBytes_59 : decode cX7_copiedAsBytes 59 = .ok (.ifCond .ne 10, 3) := by decide +kernel
theorem dX7_copiedAsBytes_62 : decode cX7_copiedAsBytes 62 = .ok (.aload_n 0, 1) := by decide +kernel
theorem dX7_copiedAsBytes_63 : decode cX7_copiedAsBytes 63 = .ok (.bipush 12, 2) := by decide +kernel
theorem dX7_copiedAsBytes_65 : decode cX7_copiedAsBytes 65 = .ok (.invokevirtual 53, 3) := by decide +kernel
theorem dX7_copiedAsBytes_68 : decode cX7_copiedAsBytes 68 = .ok (.ireturn, 1) := by decide +kernel
theorem dX7_copiedAsBytes_69 : decode cX7_copiedAsBytes 69 = .ok (.iconst 0, 1) := by decide +kernel
theorem dX7_copiedAsBytes_70 : decode cX7_copiedAsBytes 70 = .ok (.istore_n 3, 1) := by decide +kernel
theorem dX7_copiedAsBytes_71 : decode cX7_copiedAsBytes 71 = .ok (.iconst 1, 1) := by decide +kernel
theorem dX7_copiedAsBytes_72 : decode cX7_copiedAsBytes 72 = .ok (.istore 4, 2) := by decide +kernel
theorem dX7_copiedAsBytes_74 : decode cX7_copiedAsBytes 74 = .ok (.iload 4, 2) := by decide +kernel
theorem dX7_copiedAsBytes_76 : decode cX7_copiedAsBytes 76 = .ok (.iload_n 2, 1) := by decide +kernel
theorem dX7_copiedAsBytes_77 : decode cX7_copiedAsBytes 77 = .ok (.if_icmp .gt 22, 3) := by decide +kernel
theorem dX7_copiedAsBytes_80 : decode cX7_copiedAsBytes 80 = .ok (.iload_n 3, 1) := by decide +kernel
theorem dX7_copiedAsBytes_81 : decode cX7_copiedAsBytes 81 = .ok (.aload_n 0, 1) := by decide +kernel
theorem dX7_copiedAsBytes_82 : decode cX7_copiedAsBytes 82 = .ok (.getfield 41, 3) := by decide +kernel
theorem dX7_copiedAsBytes_85 : decode cX7_copiedAsBytes 85 = .ok (.iload_n 1, 1) := by decide +kernel
theorem dX7_copiedAsBytes_86 : decode cX7_copiedAsBytes 86 = .ok (.iload 4, 2) := by decide +kernel
theorem dX7_copiedAsBytes_88 : decode cX7_copiedAsBytes 88 = .ok (.invokevirtual 326, 3) := by decide +kernel
theorem dX7_copiedAsBytes_91 : decode cX7_copiedAsBytes 91 = .ok (.iadd, 1) := by decide +kernel
theorem dX7_copiedAsBytes_92 : decode cX7_copiedAsBytes 92 = .ok (.istore_n 3, 1) := by decide +kernel
theorem dX7_copiedAsBytes_93 : decode cX7_copiedAsBytes 93 = .ok (.iinc 4 1, 3) := by decide +kernel
theorem dX7_copiedAsBytes_96 : decode cX7_copiedAsBytes 96 = .ok (.goto (-22), 3) := by decide +kernel
theorem dX7_copiedAsBytes_99 : decode cX7_copiedAsBytes 99 = .ok (.aload_n 0, 1) := by decide +kernel
theorem dX7_copiedAsBytes_100 : decode cX7_copiedAsBytes 100 = .ok (.iload_n 3, 1) := by decide +kernel
theorem dX7_copiedAsBytes_101 : decode cX7_copiedAsBytes 101 = .ok (.invokevirtual 57, 3) := by decide +kernel
theorem dX7_copiedAsBytes_104 : decode cX7_copiedAsBytes 104 = .ok (.ireturn, 1) := by decide +kernel
theorem dX7_putAmongShut_0 : decode cX7_putAmongShut 0 = .ok (.aload_n 0, 1) := by decide +kernel
theorem dX7_putAmongShut_1 : decode cX7_putAmongShut 1 = .ok (.getfield 17, 3) := by decide +kernel
theorem dX7_putAmongShut_4 : decode cX7_putAmongShut 4 = .ok (.getfield 64, 3) := by decide +kernel
theorem dX7_putAmongShut_7 : decode cX7_putAmongShut 7 = .ok (.iload_n 1, 1) := by decide +kernel
theorem dX7_putAmongShut_8 : decode cX7_putAmongShut 8 = .ok (.invokevirtual 76, 3) := by decide +kernel
theorem dX7_putAmongShut_11 : decode cX7_putAmongShut 11 = .ok (.ifCond .ne 9, 3) := by decide +kernel
theorem dX7_putAmongShut_14 : decode cX7_putAmongShut 14 = .ok (.aload_n 0, 1) := by decide +kernel
theorem dX7_putAmongShut_15 : decode cX7_putAmongShut 15 = .ok (.iconst 0, 1) := by decide +kernel
theorem dX7_putAmongShut_16 : decode cX7_putAmongShut 16 = .ok (.invokevirtual 57, 3) := by decide +kernel
theorem dX7_putAmongShut_19 : decode cX7_putAmongShut 19 = .ok (.ireturn, 1) := by decide +kernel
theorem dX7_putAmongShut_20 : decode cX7_putAmongShut 20 = .ok (.aload_n 0, 1) := by decide +kernel
theorem dX7_putAmongShut_21 : decode cX7_putAmongShut 21 = .ok (.getfield 17, 3) := by decide +kernel
theorem dX7_putAmongShut_24 : decode cX7_putAmongShut 24 = .ok (.getfield 64, 3) := by decide +kernel
theorem dX7_putAmongShut_27 : decode cX7_putAmongShut 27 = .ok (.getfield 80, 3) := by decide +kernel
theorem dX7_putAmongShut_30 : decode cX7_putAmongShut 30 = .ok (.iload_n 1, 1) := by decide +kernel
theorem dX7_putAmongShut_31 : decode cX7_putAmongShut 31 = .ok (.aaload, 1) := by decide +kernel
theorem dX7_putAmongShut_32 : decode cX7_putAmongShut 32 = .ok (.getfield 143, 3) := by decide +kernel
theorem dX7_putAmongShut_35 : decode cX7_putAmongShut 35 = .ok (.istore_n 2, 1) := by decide +kernel
theorem dX7_putAmongShut_36 : decode cX7_putAmongShut 36 = .ok (.iload_n 2, 1) := by decide +kernel
theorem dX7_putAmongShut_37 : decode cX7_putAmongShut 37 = .ok (.iconst 2, 1) := by decide +kernel
theorem dX7_putAmongShut_38 : decode cX7_putAmongShut 38 = .ok (.if_icmp .eq 8, 3) := by decide +kernel
theorem dX7_putAmongShut_41 : decode cX7_putAmongShut 41 = .ok (.iload_n 2, 1) := by decide +kernel
theorem dX7_putAmongShut_42 : decode cX7_putAmongShut 42 = .ok (.iconst 3, 1) := by decide +kernel
theorem dX7_putAmongShut_43 : decode cX7_putAmongShut 43 = .ok (.if_icmp .ne 11, 3) := by decide +kernel
theorem dX7_putAmongShut_46 : decode cX7_putAmongShut 46 = .ok (.aload_n 0, 1) := by decide +kernel
theorem dX7_putAmongShut_47 : decode cX7_putAmongShut 47 = .ok (.iload_n 2, 1) := by decide +kernel
theorem dX7_putAmongShut_48 : decode cX7_putAmongShut 48 = .ok (.invokevirtual 57, 3) := by decide +kernel
theorem dX7_putAmongShut_51 : decode cX7_putAmongShut 51 = .ok (.goto 9, 3) := by decide +kernel
theorem dX7_putAmongShut_54 : decode cX7_putAmongShut 54 = .ok (.aload_n 0, 1) := by decide +kernel
theorem dX7_putAmongShut_55 : decode cX7_putAmongShut 55 = .ok (.bipush 14, 2) := by decide +kernel
theorem dX7_putAmongShut_57 : decode cX7_putAmongShut 57 = .ok (.invokevirtual 53, 3) := by decide +kernel
theorem dX7_putAmongShut_60 : decode cX7_putAmongShut 60 = .ok (.ireturn, 1) := by decide +kernel
theorem dX8_init_0 : decode cX8_init 0 = .ok (.aload_n 0, 1) := by decide +kernel
theorem dX8_init_1 : decode cX8_init 1 = .ok (.invokespecial 1, 3) := by decide +kernel
theorem dX8_init_4 : decode cX8_init 4 = .ok (.aload_n 0, 1) := by decide +kernel
theorem dX8_init_5 : decode cX8_init 5 = .ok (.bipush 24, 2) := by decide +kernel
theorem dX8_init_7 : decode cX8_init 7 = .ok (.newarray .int, 2) := by decide +kernel
theorem dX8_init_9 : decode cX8_init 9 = .ok (.putfield 7, 3) := by decide +kernel
theorem dX8_init_12 : decode cX8_init 12 = .ok (.aload_n 0, 1) := by decide +kernel
theorem dX8_init_13 : decode cX8_init 13 = .ok (.bipush 24, 2) := by decide +kernel
theorem dX8_init_15 : decode cX8_init 15 = .ok (.newarray .int, 2) := by decide +kernel
theorem dX8_init_17 : decode cX8_init 17 = .ok (.putfield 13, 3) := by decide +kernel
theorem dX8_init_20 : decode cX8_init 20 = .ok (.aload_n 0, 1) := by decide +kernel
theorem dX8_init_21 : decode cX8_init 21 = .ok (.bipush 24, 2) := by decide +kernel
theorem dX8_init_23 : decode cX8_init 23 = .ok (.newarray .int, 2) := by decide +kernel
theorem dX8_init_25 : decode cX8_init 25 = .ok (.putfield 16, 3) := by decide +kernel
theorem dX8_init_28 : decode cX8_init 28 = .ok (.aload_n 0, 1) := by decide +kernel
theorem dX8_init_29 : decode cX8_init 29 = .ok (.bipush 24, 2) := by decide +kernel
theorem dX8_init_31 : decode cX8_init 31 = .ok (.newarray .int, 2) := by decide +kernel
theorem dX8_init_33 : decode cX8_init 33 = .ok (.putfield 19, 3) := by decide +kernel
theorem dX8_init_36 : decode cX8_init 36 = .ok (.aload_n 0, 1) := by decide +kernel
theorem dX8_init_37 : decode cX8_init 37 = .ok (.bipush 24, 2) := by decide +kernel
theorem dX8_init_39 : decode cX8_init 39 = .ok (.newarray .int, 2) := by decide +kernel
theorem dX8_init_41 : decode cX8_init 41 = .ok (.putfield 22, 3) := by decide +kernel
theorem dX8_init_44 : decode cX8_init 44 = .ok (.aload_n 0, 1) := by decide +kernel
theorem dX8_init_45 : decode cX8_init 45 = .ok (.bipush 24, 2) := by decide +kernel
theorem dX8_init_47 : decode cX8_init 47 = .ok (.newarray .int, 2) := by decide +kernel
theorem dX8_init_49 : decode cX8_init 49 = .ok (.putfield 25, 3) := by decide +kernel
theorem dX8_init_52 : decode cX8_init 52 = .ok (.aload_n 0, 1) := by decide +kernel
theorem dX8_init_53 : decode cX8_init 53 = .ok (.bipush 60, 2) := by decide +kernel
theorem dX8_init_55 : decode cX8_init 55 = .ok (.newarray .int, 2) := by decide +kernel
theorem dX8_init_57 : decode cX8_init 57 = .ok (.putfield 28, 3) := by decide +kernel
theorem dX8_init_60 : decode cX8_init 60 = .ok (.aload_n 0, 1) := by decide +kernel
theorem dX8_init_61 : decode cX8_init 61 = .ok (.bipush 60, 2) := by decide +kernel
theorem dX8_init_63 : decode cX8_init 63 = .ok (.newarray .int, 2) := by decide +kernel
theorem dX8_init_65 : decode cX8_init 65 = .ok (.putfield 31, 3) := by decide +kernel
theorem dX8_init_68 : decode cX8_init 68 = .ok (.aload_n 0, 1) := by decide +kernel
theorem dX8_init_69 : decode cX8_init 69 = .ok (.bipush 60, 2) := by decide +kernel
theorem dX8_init_71 : decode cX8_init 71 = .ok (.newarray .int, 2) := by decide +kernel
theorem dX8_init_73 : decode cX8_init 73 = .ok (.putfield 34, 3) := by decide +kernel
theorem dX8_init_76 : decode cX8_init 76 = .ok (.aload_n 0, 1) := by decide +kernel
theorem dX8_init_77 : decode cX8_init 77 = .ok (.bipush 60, 2) := by decide +kernel
theorem dX8_init_79 : decode cX8_init 79 = .ok (.newarray .int, 2) := by decide +kernel
theorem dX8_init_81 : decode cX8_init 81 = .ok (.putfield 37, 3) := by decide +kernel
theorem dX8_init_84 : decode cX8_init 84 = .ok (.aload_n 0, 1) := by decide +kernel
theorem dX8_init_85 : decode cX8_init 85 = .ok (.sipush 540, 3) := by decide +kernel
theorem dX8_init_88 : decode cX8_init 88 = .ok (.newarray .int, 2) := by decide +kernel
theorem dX8_init_90 : decode cX8_init 90 = .ok (.putfield 40, 3) := by decide +kernel
theorem dX8_init_93 : decode cX8_init 93 = .ok (.aload_n 0, 1) := by decide +kernel
theorem dX8_init_94 : decode cX8_init 94 = .ok (.sipush 540, 3) := by decide +kernel
theorem dX8_init_97 : decode cX8_init 97 = .ok (.newarray .int, 2) := by decide +kernel
theorem dX8_init_99 : decode cX8_init 99 = .ok (.putfield 43, 3) := by decide +kernel
theorem dX8_init_102 : decode cX8_init 102 = .ok (.aload_n 0, 1) := by decide +kernel
theorem dX8_init_103 : decode cX8_init 103 = .ok (.bipush 60, 2) := by decide +kernel
theorem dX8_init_105 : decode cX8_init 105 = .ok (.newarray .int, 2) := by decide +kernel
theorem dX8_init_107 : decode cX8_init 107 = .ok (.putfield 46, 3) := by decide +kernel
theorem dX8_init_110 : decode cX8_init 110 = .ok (.aload_n 0, 1) := by decide +kernel
theorem dX8_init_111 : decode cX8_init 111 = .ok (.bipush 60, 2) := by decide +kernel
theorem dX8_init_113 : decode cX8_init 113 = .ok (.newarray .int, 2) := by decide +kernel
theorem dX8_init_115 : decode cX8_init 115 = .ok (.putfield 49, 3) := by decide +kernel
theorem dX8_init_118 : decode cX8_init 118 = .ok (.aload_n 0, 1) := by decide +kernel
theorem dX8_init_119 : decode cX8_init 119 = .ok (.bipush 60, 2) := by decide +kernel
theorem dX8_init_121 : decode cX8_init 121 = .ok (.newarray .int, 2) := by decide +kernel
theorem dX8_init_123 : decode cX8_init 123 = .ok (.putfield 52, 3) := by decide +kernel
theorem dX8_init_126 : decode cX8_init 126 = .ok (.aload_n 0, 1) := by decide +kernel
theorem dX8_init_127 : decode cX8_init 127 = .ok (.bipush 60, 2) := by decide +kernel
theorem dX8_init_129 : decode cX8_init 129 = .ok (.newarray .int, 2) := by decide +kernel
theorem dX8_init_131 : decode cX8_init 131 = .ok (.putfield 55, 3) := by decide +kernel
theorem dX8_init_134 : decode cX8_init 134 = .ok (.aload_n 0, 1) := by decide +kernel
theorem dX8_init_135 : decode cX8_init 135 = .ok (.sipush 600, 3) := by decide +kernel
theorem dX8_init_138 : decode cX8_init 138 = .ok (.newarray .int, 2) := by decide +kernel
theorem dX8_init_140 : decode cX8_init 140 = .ok (.putfield 58, 3) := by decide +kernel
theorem dX8_init_143 : decode cX8_init 143 = .ok (.aload_n 0, 1) := by decide +kernel
theorem dX8_init_144 : decode cX8_init 144 = .ok (.bipush 8, 2) := by decide +kernel
theorem dX8_init_146 : decode cX8_init 146 = .ok (.newarray .int, 2) := by decide +kernel
theorem dX8_init_148 : decode cX8_init 148 = .ok (.putfield 61, 3) := by decide +kernel
theorem dX8_init_151 : decode cX8_init 151 = .ok (.aload_n 0, 1) := by decide +kernel
theorem dX8_init_152 : decode cX8_init 152 = .ok (.bipush 8, 2) := by decide +kernel
theorem dX8_init_154 : decode cX8_init 154 = .ok (.newarray .int, 2) := by decide +kernel
theorem dX8_init_156 : decode cX8_init 156 = .ok (.putfield 64, 3) := by decide +kernel
theorem dX8_init_159 : decode cX8_init 159 = .ok (.aload_n 0, 1) := by decide +kernel
theorem dX8_init_160 : decode cX8_init 160 = .ok (.bipush 8, 2) := by decide +kernel
theorem dX8_init_162 : decode cX8_init 162 = .ok (.newarray .int, 2) := by decide +kernel
theorem dX8_init_164 : decode cX8_init 164 = .ok (.putfield 67, 3) := by decide +kernel
theorem dX8_init_167 : decode cX8_init 167 = .ok (.aload_n 0, 1) := by decide +kernel
theorem dX8_init_168 : decode cX8_init 168 = .ok (.iconst 5, 1) := by decide +kernel
theorem dX8_init_169 : decode cX8_init 169 = .ok (.newarray .int, 2) := by decide +kernel
theorem dX8_init_171 : decode cX8_init 171 = .ok (.putfield 70, 3) := by decide +kernel
theorem dX8_init_174 : decode cX8_init 174 = .ok (.aload_n 0, 1) := by decide +kernel
theorem dX8_init_175 : decode cX8_init 175 = .ok (.sipush 2500, 3) := by decide +kernel
theorem dX8_init_178 : decode cX8_init 178 = .ok (.newarray .int, 2) := by decide +kernel
theorem dX8_init_180 : decode cX8_init 180 = .ok (.putfield 73, 3) := by decide +kernel
theorem dX8_init_183 : decode cX8_init 183 = .ok (.aload_n 0, 1) := by decide +kernel
theorem dX8_init_184 : decode cX8_init 184 = .ok (.sipush 2500, 3) := by decide +kernel
theorem dX8_init_187 : decode cX8_init 187 = .ok (.newarray .int, 2) := by decide +kernel
theorem dX8_init_189 : decode cX8_init 189 = .ok (.putfield 76, 3) := by decide +kernel
theorem dX8_init_192 : decode cX8_init 192 = .ok (.aload_n 0, 1) := by decide +kernel
theorem dX8_init_193 : decode cX8_init 193 = .ok (.bipush 8, 2) := by decide +kernel
theorem dX8_init_195 : decode cX8_init 195 = .ok (.newarray .int, 2) := by decide +kernel
theorem dX8_init_197 : decode cX8_init 197 = .ok (.putfield 79, 3) := by decide +kernel
theorem dX8_init_200 : decode cX8_init 200 = .ok (.aload_n 0, 1) := by decide +kernel
theorem dX8_init_201 : decode cX8_init 201 = .ok (.bipush 8, 2) := by decide +kernel
theorem dX8_init_203 : decode cX8_init 203 = .ok (.newarray .int, 2) := by decide +kernel
theorem dX8_init_205 : decode cX8_init 205 = .ok (.putfield 82, 3) := by decide +kernel
theorem dX8_init_208 : decode cX8_init 208 = .ok (.aload_n 0, 1) := by decide +kernel
theorem dX8_init_209 : decode cX8_init 209 = .ok (.bipush 14, 2) := by decide +kernel
theorem dX8_init_211 : decode cX8_init 211 = .ok (.newarray .int, 2) := by decide +kernel
theorem dX8_init_213 : decode cX8_init 213 = .ok (.putfield 85, 3) := by decide +kernel
theorem dX8_init_216 : decode cX8_init 216 = .ok (.aload_n 0, 1) := by decide +kernel
theorem dX8_init_217 : decode cX8_init 217 = .ok (.iconst 3, 1) := by decide +kernel
theorem dX8_init_218 : decode cX8_init 218 = .ok (.newarray .int, 2) := by decide +kernel
theorem dX8_init_220 : decode cX8_init 220 = .ok (.putfield 88, 3) := by decide +kernel
theorem dX8_init_223 : decode cX8_init 223 = .ok (.aload_n 0, 1) := by decide +kernel
theorem dX8_init_224 : decode cX8_init 224 = .ok (.iconst 3, 1) := by decide +kernel
theorem dX8_init_225 : decode cX8_init 225 = .ok (.newarray .int, 2) := by decide +kernel
theorem dX8_init_227 : decode cX8_init 227 = .ok (.putfield 91, 3) := by decide +kernel
theorem dX8_init_230 : decode cX8_init 230 = .ok (.aload_n 0, 1) := by decide +kernel
theorem dX8_init_231 : decode cX8_init 231 = .ok (.bipush 24, 2) := by decide +kernel
theorem dX8_init_233 : decode cX8_init 233 = .ok (.newarray .int, 2) := by decide +kernel
theorem dX8_init_235 : decode cX8_init 235 = .ok (.putfield 94, 3) := by decide +kernel
theorem dX8_init_238 : decode cX8_init 238 = .ok (.aload_n 0, 1) := by decide +kernel
theorem dX8_init_239 : decode cX8_init 239 = .ok (.bipush 50, 2) := by decide +kernel
theorem dX8_init_241 : decode cX8_init 241 = .ok (.newarray .int, 2) := by decide +kernel
theorem dX8_init_243 : decode cX8_init 243 = .ok (.putfield 97, 3) := by decide +kernel
theorem dX8_init_246 : decode cX8_init 246 = .ok (.aload_n 0, 1) := by decide +kernel
theorem dX8_init_247 : decode cX8_init 247 = .ok (.iconst 4, 1) := by decide +kernel
theorem dX8_init_248 : decode cX8_init 248 = .ok (.newarray .int, 2) := by decide +kernel
theorem dX8_init_250 : decode cX8_init 250 = .ok (.putfield 100, 3) := by decide +kernel
theorem dX8_init_253 : decode cX8_init 253 = .ok (.aload_n 0, 1) := by decide +kernel
theorem dX8_init_254 : decode cX8_init 254 = .ok (.iconst 4, 1) := by decide +kernel
theorem dX8_init_255 : decode cX8_init 255 = .ok (.newarray .int, 2) := by decide +kernel
theorem dX8_init_257 : decode cX8_init 257 = .ok (.putfield 103, 3) := by decide +kernel
theorem dX8_init_260 : decode cX8_init 260 = .ok (.aload_n 0, 1) := by decide +kernel
theorem dX8_init_261 : decode cX8_init 261 = .ok (.sipush 160, 3) := by decide +kernel
theorem dX8_init_264 : decode cX8_init 264 = .ok (.newarray .int, 2) := by decide +kernel
theorem dX8_init_266 : decode cX8_init 266 = .ok (.putfield 106, 3) := by decide +kernel
theorem dX8_init_269 : decode cX8_init 269 = .ok (.return_, 1) := by decide +kernel
theorem dX8_isIn_0 : decode cX8_isIn 0 = .ok (.lload_n 0, 1) := by decide +kernel
theorem dX8_isIn_1 : decode cX8_isIn 1 = .ok (.lload_n 2, 1) := by decide +kernel
theorem dX8_isIn_2 : decode cX8_isIn 2 = .ok (.lcmp, 1) := by decide +kernel
theorem dX8_isIn_3 : decode cX8_isIn 3 = .ok (.ifCond .lt 14, 3) := by decide +kernel
theorem dX8_isIn_6 : decode cX8_isIn 6 = .ok (.lload_n 0, 1) := by decide +kernel
theorem dX8_isIn_7 : decode cX8_isIn 7 = .ok (.lload 4, 2) := by decide +kernel
theorem dX8_isIn_9 : decode cX8_isIn 9 = .ok (.lcmp, 1) := by decide +kernel
theorem dX8_isIn_10 : decode cX8_isIn 10 = .ok (.ifCond .gt 7, 3) := by decide +kernel
theorem dX8_isIn_13 : decode cX8_isIn 13 = .ok (.iconst 1, 1) := by decide +kernel
theorem dX8_isIn_14 : decode cX8_isIn 14 = .ok (.goto 4, 3) := by decide +kernel
theorem dX8_isIn_17 : decode cX8_isIn 17 = .ok (.iconst 0, 1) := by decide +kernel
theorem dX8_isIn_18 : decode cX8_isIn 18 = .ok (.ireturn, 1) := by decide +kernel
theorem dX8_refused_0 : decode cX8_refused 0 = .ok (.aload_n 0, 1) := by decide +kernel
theorem dX8_refused_1 : decode cX8_refused 1 = .ok (.iload_n 1, 1) := by decide +kernel
theorem dX8_refused_2 : decode cX8_refused 2 = .ok (.putfield 109, 3) := by decide +kernel
theorem dX8_refused_5 : decode cX8_refused 5 = .ok (.iconst (-1), 1) := by decide +kernel
theorem dX8_refused_6 : decode cX8_refused 6 = .ok (.ireturn, 1) := by decide +kernel
theorem dX8_done_0 : decode cX8_done 0 = .ok (.aload_n 0, 1) := by decide +kernel
theorem dX8_done_1 : decode cX8_done 1 = .ok (.iconst 0, 1) := by decide +kernel
theorem dX8_done_2 : decode cX8_done 2 = .ok (.putfield 109, 3) := by decide +kernel
theorem dX8_done_5 : decode cX8_done 5 = .ok (.iload_n 1, 1) := by decide +kernel
theorem dX8_done_6 : decode cX8_done 6 = .ok (.ireturn, 1) := by decide +kernel
theorem dX8_isLine_0 : decode cX8_isLine 0 = .ok (.iload_n 1, 1) := by decide +kernel
theorem dX8_isLine_1 : decode cX8_isLine 1 = .ok (.ifCond .lt 17, 3) := by decide +kernel
theorem dX8_isLine_4 : decode cX8_isLine 4 = .ok (.iload_n 1, 1) := by decide +kernel
theorem dX8_isLine_5 : decode cX8_isLine 5 = .ok (.aload_n 0, 1) := by decide +kernel
theorem dX8_isLine_6 : decode cX8_isLine 6 = .ok (.getfield 70, 3) := by decide +kernel
theorem dX8_isLine_9 : decode cX8_isLine 9 = .ok (.iconst 0, 1) := by decide +kernel
theorem dX8_isLine_10 : decode cX8_isLine 10 = .ok (.iaload, 1) := by decide +kernel
theorem dX8_isLine_11 : decode cX8_isLine 11 = .ok (.if_icmp .ge 7, 3) := by decide +kernel
theorem dX8_isLine_14 : decode cX8_isLine 14 = .ok (.iconst 1, 1) := by decide +kernel
theorem dX8_isLine_15 : decode cX8_isLine 15 = .ok (.goto 4, 3) := by decide +kernel
theorem dX8_isLine_18 : decode cX8_isLine 18 = .ok (.iconst 0, 1) := by decide +kernel
theorem dX8_isLine_19 : decode cX8_isLine 19 = .ok (.ireturn, 1) := by decide +kernel
theorem dX8_isWish_0 : decode cX8_isWish 0 = .ok (.iload_n 1, 1) := by decide +kernel
theorem dX8_isWish_1 : decode cX8_isWish 1 = .ok (.ifCond .lt 17, 3) := by decide +kernel
theorem dX8_isWish_4 : decode cX8_isWish 4 = .ok (.iload_n 1, 1) := by decide +kernel
theorem dX8_isWish_5 : decode cX8_isWish 5 = .ok (.aload_n 0, 1) := by decide +kernel
theorem dX8_isWish_6 : decode cX8_isWish 6 = .ok (.getfield 70, 3) := by decide +kernel
theorem dX8_isWish_9 : decode cX8_isWish 9 = .ok (.iconst 1, 1) := by decide +kernel
theorem dX8_isWish_10 : decode cX8_isWish 10 = .ok (.iaload, 1) := by decide +kernel
theorem dX8_isWish_11 : decode cX8_isWish 11 = .ok (.if_icmp .ge 7, 3) := by decide +kernel
theorem dX8_isWish_14 : decode cX8_isWish 14 = .ok (.iconst 1, 1) := by decide +kernel
theorem dX8_isWish_15 : decode cX8_isWish 15 = .ok (.goto 4, 3) := by decide +kernel
theorem dX8_isWish_18 : decode cX8_isWish 18 = .ok (.iconst 0, 1) := by decide +kernel
theorem dX8_isWish_19 : decode cX8_isWish 19 = .ok (.ireturn, 1) := by decide +kernel
theorem dX8_isCall_0 : decode cX8_isCall 0 = .ok (.iload_n 1, 1) := by decide +kernel
theorem dX8_isCall_1 : decode cX8_isCall 1 = .ok (.ifCond .lt 17, 3) := by decide +kernel
theorem dX8_isCall_4 : decode cX8_isCall 4 = .ok (.iload_n 1, 1) := by decide +kernel
theorem dX8_isCall_5 : decode cX8_isCall 5 = .ok (.aload_n 0, 1) := by decide +kernel
theorem dX8_isCall_6 : decode cX8_isCall 6 = .ok (.getfield 70, 3) := by decide +kernel
theorem dX8_isCall_9 : decode cX8_isCall 9 = .ok (.iconst 2, 1) := by decide +kernel
theorem dX8_isCall_10 : decode cX8_isCall 10 = .ok (.iaload, 1) := by decide +kernel
theorem dX8_isCall_11 : decode cX8_isCall 11 = .ok (.if_icmp .ge 7, 3) := by decide +kernel
theorem dX8_isCall_14 : decode cX8_isCall 14 = .ok (.iconst 1, 1) := by decide +kernel
theorem dX8_isCall_15 : decode cX8_isCall 15 = .ok (.goto 4, 3) := by decide +kernel
theorem dX8_isCall_18 : decode cX8_isCall 18 = .ok (.iconst 0, 1) := by decide +kernel
theorem dX8_isCall_19 : decode cX8_isCall 19 = .ok (.ireturn, 1) := by decide +kernel
theorem dX8_line_0 : decode cX8_line 0 = .ok (.aload_n 0, 1) := by decide +kernel
theorem dX8_line_1 : decode cX8_line 1 = .ok (.getfield 70, 3) := by decide +kernel
theorem dX8_line_4 : decode cX8_line 4 = .ok (.iconst 0, 1) := by decide +kernel
theorem dX8_line_5 : decode cX8_line 5 = .ok (.iaload, 1) := by decide +kernel
theorem dX8_line_6 : decode cX8_line 6 = .ok (.bipush 8, 2) := by decide +kernel
theorem dX8_line_8 : decode cX8_line 8 = .ok (.if_icmp .ne 9, 3) := by decide +kernel
theorem dX8_line_11 : decode cX8_line 11 = .ok (.aload_n 0, 1) := by decide +kernel
theorem dX8_line_12 : decode cX8_line 12 = .ok (.iconst 2, 1) := by decide +kernel
theorem dX8_line_13 : decode cX8_line 13 = .ok (.invokevirtual 113, 3) := by decide +kernel
theorem dX8_line_16 : decode cX8_line 16 = .ok (.ireturn, 1) := by decide +kernel
theorem dX8_line_17 : decode cX8_line 17 = .ok (.aload_n 0, 1) := by decide +kernel
theorem dX8_line_18 : decode cX8_line 18 = .ok (.getfield 70, 3) := by decide +kernel
theorem dX8_line_21 : decode cX8_line 21 = .ok (.iconst 0, 1) := by decide +kernel
theorem dX8_line_22 : decode cX8_line 22 = .ok (.dup2, 1) := by decide +kernel
theorem dX8_line_23 : decode cX8_line 23 = .ok (.iaload, 1) := by decide +kernel
theorem dX8_line_24 : decode cX8_line 24 = .ok (.iconst 1, 1) := by decide +kernel
theorem dX8_line_25 : decode cX8_line 25 = .ok (.iadd, 1) := by decide +kernel
theorem dX8_line_26 : decode cX8_line 26 = .ok (.iastore, 1) := by decide +kernel
theorem dX8_line_27 : decode cX8_line 27 = .ok (.aload_n 0, 1) := by decide +kernel
theorem dX8_line_28 : decode cX8_line 28 = .ok (.aload_n 0, 1) := by decide +kernel
theorem dX8_line_29 : decode cX8_line 29 = .ok (.getfield 70, 3) := by decide +kernel
theorem dX8_line_32 : decode cX8_line 32 = .ok (.iconst 0, 1) := by decide +kernel
theorem dX8_line_33 : decode cX8_line 33 = .ok (.iaload, 1) := by decide +kernel
theorem dX8_line_34 : decode cX8_line 34 = .ok (.iconst 1, 1) := by decide +kernel
theorem dX8_line_35 : decode cX8_line 35 = .ok (.isub, 1) := by decide +kernel
theorem dX8_line_36 : decode cX8_line 36 = .ok (.invokevirtual 117, 3) := by decide +kernel
theorem dX8_line_39 : decode cX8_line 39 = .ok (.ireturn, 1) := by decide +kernel
theorem dX8_isGood_0 : decode cX8_isGood 0 = .ok (.aload_n 0, 1) := by decide +kernel
theorem dX8_isGood_1 : decode cX8_isGood 1 = .ok (.iload_n 1, 1) := by decide +kernel
theorem dX8_isGood_2 : decode cX8_isGood 2 = .ok (.invokevirtual 120, 3) := by decide +kernel
theorem dX8_isGood_5 : decode cX8_isGood 5 = .ok (.ifCond .eq 49, 3) := by decide +kernel
theorem dX8_isGood_8 : decode cX8_isGood 8 = .ok (.iload_n 2, 1) := by decide +kernel
theorem dX8_isGood_9 : decode cX8_isGood 9 = .ok (.i2l, 1) := by decide +kernel
theorem dX8_isGood_10 : decode cX8_isGood 10 = .ok (.lconst 0, 1) := by decide +kernel
theorem dX8_isGood_11 : decode cX8_isGood 11 = .ok (.ldc2_w 124, 3) := by decide +kernel
theorem dX8_isGood_14 : decode cX8_isGood 14 = .ok (.invokestatic 126, 3) := by decide +kernel
theorem dX8_isGood_17 : decode cX8_isGood 17 = .ok (.ifCond .eq 37, 3) := by decide +kernel
theorem dX8_isGood_20 : decode cX8_isGood 20 = .ok (.iload_n 3, 1) := by decide +kernel
theorem dX8_isGood_21 : decode cX8_isGood 21 = .ok (.i2l, 1) := by decide +kernel
theorem dX8_isGood_22 : decode cX8_isGood 22 = .ok (.lconst 0, 1) := by decide +kernel
theorem dX8_isGood_23 : decode cX8_isGood 23 = .ok (.ldc2_w 130, 3) := by decide +kernel
theorem dX8_isGood_26 : decode cX8_isGood 26 = .ok (.invokestatic 126, 3) := by decide +kernel
theorem dX8_isGood_29 : decode cX8_isGood 29 = .ok (.ifCond .eq 25, 3) := by decide +kernel
theorem dX8_isGood_32 : decode cX8_isGood 32 = .ok (.aload_n 0, 1) := by decide +kernel
theorem dX8_isGood_33 : decode cX8_isGood 33 = .ok (.iload 4, 2) := by decide +kernel
theorem dX8_isGood_35 : decode cX8_isGood 35 = .ok (.invokevirtual 120, 3) := by decide +kernel
theorem dX8_isGood_38 : decode cX8_isGood 38 = .ok (.ifCond .eq 16, 3) := by decide +kernel
theorem dX8_isGood_41 : decode cX8_isGood 41 = .ok (.iload 5, 2) := by decide +kernel
theorem dX8_isGood_43 : decode cX8_isGood 43 = .ok (.i2l, 1) := by decide +kernel
theorem dX8_isGood_44 : decode cX8_isGood 44 = .ok (.lconst 0, 1) := by decide +kernel
theorem dX8_isGood_45 : decode cX8_isGood 45 = .ok (.ldc2_w 132, 3) := by decide +kernel
theorem dX8_isGood_48 : decode cX8_isGood 48 = .ok (.invokestatic 126, 3) := by decide +kernel
theorem dX8_isGood_51 : decode cX8_isGood 51 = .ok (.ifCond .ne 5, 3) := by decide +kernel
theorem dX8_isGood_54 : decode cX8_isGood 54 = .ok (.iconst 0, 1) := by decide +kernel
theorem dX8_isGood_55 : decode cX8_isGood 55 = .ok (.ireturn, 1) := by decide +kernel
theorem dX8_isGood_56 : decode cX8_isGood 56 = .ok (.iload_n 2, 1) := by decide +kernel
theorem dX8_isGood_57 : decode cX8_isGood 57 = .ok (.iconst 1, 1) := by decide +kernel
theorem dX8_isGood_58 : decode cX8_isGood 58 = .ok (.if_icmp .ne 16, 3) := by decide +kernel
theorem dX8_isGood_61 : decode cX8_isGood 61 = .ok (.iload 5, 2) := by decide +kernel
theorem dX8_isGood_63 : decode cX8_isGood 63 = .ok (.bipush 11, 2) := by decide +kernel
theorem dX8_isGood_65 : decode cX8_isGood 65 = .ok (.if_icmp .gt 13, 3) := by decide +kernel
theorem dX8_isGood_68 : decode cX8_isGood 68 = .ok (.iload 5, 2) := by decide +kernel
theorem dX8_isGood_70 : decode cX8_isGood 70 = .ok (.iconst 2, 1) := by decide +kernel
theorem dX8_isGood_71 : decode cX8_isGood 71 = .ok (.if_icmp .eq 7, 3) := by decide +kernel
theorem dX8_isGood_74 : decode cX8_isGood 74 = .ok (.iconst 1, 1) := by decide +kernel
theorem dX8_isGood_75 : decode cX8_isGood 75 = .ok (.goto 4, 3) := by decide +kernel
theorem dX8_isGood_78 : decode cX8_isGood 78 = .ok (.iconst 0, 1) := by decide +kernel
theorem dX8_isGood_79 : decode cX8_isGood 79 = .ok (.ireturn, 1) := by decide +kernel
theorem dX8_adds_0 : decode cX8_adds 0 = .ok (.aload_n 0, 1) := by decide +kernel
theorem dX8_adds_1 : decode cX8_adds 1 = .ok (.getfield 70, 3) := by decide +kernel
theorem dX8_adds_4 : decode cX8_adds 4 = .ok (.iconst 1, 1) := by decide +kernel
theorem dX8_adds_5 : decode cX8_adds 5 = .ok (.iaload, 1) := by decide +kernel
theorem dX8_adds_6 : decode cX8_adds 6 = .ok (.istore 6, 2) := by decide +kernel
theorem dX8_adds_8 : decode cX8_adds 8 = .ok (.aload_n 0, 1) := by decide +kernel
theorem dX8_adds_9 : decode cX8_adds 9 = .ok (.getfield 70, 3) := by decide +kernel
theorem dX8_adds_12 : decode cX8_adds 12 = .ok (.iconst 1, 1) := by decide +kernel
theorem dX8_adds_13 : decode cX8_adds 13 = .ok (.dup2, 1) := by decide +kernel
theorem dX8_adds_14 : decode cX8_adds 14 = .ok (.iaload, 1) := by decide +kernel
theorem dX8_adds_15 : decode cX8_adds 15 = .ok (.iconst 1, 1) := by decide +kernel
theorem dX8_adds_16 : decode cX8_adds 16 = .ok (.iadd, 1) := by decide +kernel
theorem dX8_adds_17 : decode cX8_adds 17 = .ok (.iastore, 1) := by decide +kernel
theorem dX8_adds_18 : decode cX8_adds 18 = .ok (.aload_n 0, 1) := by decide +kernel
theorem dX8_adds_19 : decode cX8_adds 19 = .ok (.getfield 7, 3) := by decide +kernel
theorem dX8_adds_22 : decode cX8_adds 22 = .ok (.iload 6, 2) := by decide +kernel
theorem dX8_adds_24 : decode cX8_adds 24 = .ok (.iload_n 1, 1) := by decide +kernel
theorem dX8_adds_25 : decode cX8_adds 25 = .ok (.iastore, 1) := by decide +kernel
theorem dX8_adds_26 : decode cX8_adds 26 = .ok (.aload_n 0, 1) := by decide +kernel
theorem dX8_adds_27 : decode cX8_adds 27 = .ok (.getfield 13, 3) := by decide +kernel
theorem dX8_adds_30 : decode cX8_adds 30 = .ok (.iload 6, 2) := by decide +kernel
theorem dX8_adds_32 : decode cX8_adds 32 = .ok (.iload_n 2, 1) := by decide +kernel
theorem dX8_adds_33 : decode cX8_adds 33 = .ok (.iastore, 1) := by decide +kernel
theorem dX8_adds_34 : decode cX8_adds 34 = .ok (.aload_n 0, 1) := by decide +kernel
theorem dX8_adds_35 : decode cX8_adds 35 = .ok (.getfield 16, 3) := by decide +kernel
theorem dX8_adds_38 : decode cX8_adds 38 = .ok (.iload 6, 2) := by decide +kernel
theorem dX8_adds_40 : decode cX8_adds 40 = .ok (.iload_n 3, 1) := by decide +kernel
theorem dX8_adds_41 : decode cX8_adds 41 = .ok (.iastore, 1) := by decide +kernel
theorem dX8_adds_42 : decode cX8_adds 42 = .ok (.aload_n 0, 1) := by decide +kernel
theorem dX8_adds_43 : decode cX8_adds 43 = .ok (.getfield 19, 3) := by decide +kernel
theorem dX8_adds_46 : decode cX8_adds 46 = .ok (.iload 6, 2) := by decide +kernel
theorem dX8_adds_48 : decode cX8_adds 48 = .ok (.iload 4, 2) := by decide +kernel
theorem dX8_adds_50 : decode cX8_adds 50 = .ok (.iastore, 1) := by decide +kernel
theorem dX8_adds_51 : decode cX8_adds 51 = .ok (.aload_n 0, 1) := by decide +kernel
theorem dX8_adds_52 : decode cX8_adds 52 = .ok (.getfield 22, 3) := by decide +kernel
theorem dX8_adds_55 : decode cX8_adds 55 = .ok (.iload 6, 2) := by decide +kernel
theorem dX8_adds_57 : decode cX8_adds 57 = .ok (.iload 5, 2) := by decide +kernel
theorem dX8_adds_59 : decode cX8_adds 59 = .ok (.iastore, 1) := by decide +kernel
theorem dX8_adds_60 : decode cX8_adds 60 = .ok (.aload_n 0, 1) := by decide +kernel
theorem dX8_adds_61 : decode cX8_adds 61 = .ok (.getfield 25, 3) := by decide +kernel
theorem dX8_adds_64 : decode cX8_adds 64 = .ok (.iload 6, 2) := by decide +kernel
theorem dX8_adds_66 : decode cX8_adds 66 = .ok (.iconst 1, 1) := by decide +kernel
theorem dX8_adds_67 : decode cX8_adds 67 = .ok (.iastore, 1) := by decide +kernel
theorem dX8_adds_68 : decode cX8_adds 68 = .ok (.aload_n 0, 1) := by decide +kernel
theorem dX8_adds_69 : decode cX8_adds 69 = .ok (.iload 6, 2) := by decide +kernel
theorem dX8_adds_71 : decode cX8_adds 71 = .ok (.invokevirtual 117, 3) := by decide +kernel
theorem dX8_adds_74 : decode cX8_adds 74 = .ok (.ireturn, 1) := by decide +kernel
theorem dX8_wish_0 : decode cX8_wish 0 = .ok (.aload_n 0, 1) := by decide +kernel
theorem dX8_wish_1 : decode cX8_wish 1 = .ok (.iload_n 1, 1) := by decide +kernel
theorem dX8_wish_2 : decode cX8_wish 2 = .ok (.iload_n 2, 1) := by decide +kernel
theorem dX8_wish_3 : decode cX8_wish 3 = .ok (.iload_n 3, 1) := by decide +kernel
theorem dX8_wish_4 : decode cX8_wish 4 = .ok (.iload 4, 2) := by decide +kernel
theorem dX8_wish_6 : decode cX8_wish 6 = .ok (.iload 5, 2) := by decide +kernel
theorem dX8_wish_8 : decode cX8_wish 8 = .ok (.invokevirtual 134, 3) := by decide +kernel
theorem dX8_wish_11 : decode cX8_wish 11 = .ok (.ifCond .ne 9, 3) := by decide +kernel
theorem dX8_wish_14 : decode cX8_wish 14 = .ok (.aload_n 0, 1) := by decide +kernel
theorem dX8_wish_15 : decode cX8_wish 15 = .ok (.iconst 1, 1) := by decide +kernel
theorem dX8_wish_16 : decode cX8_wish 16 = .ok (.invokevirtual 113, 3) := by decide +kernel
theorem dX8_wish_19 : decode cX8_wish 19 = .ok (.ireturn, 1) := by decide +kernel
theorem dX8_wish_20 : decode cX8_wish 20 = .ok (.aload_n 0, 1) := by decide +kernel
theorem dX8_wish_21 : decode cX8_wish 21 = .ok (.getfield 70, 3) := by decide +kernel
theorem dX8_wish_24 : decode cX8_wish 24 = .ok (.iconst 1, 1) := by decide +kernel
theorem dX8_wish_25 : decode cX8_wish 25 = .ok (.iaload, 1) := by decide +kernel
theorem dX8_wish_26 : decode cX8_wish 26 = .ok (.bipush 24, 2) := by decide +kernel
theorem dX8_wish_28 : decode cX8_wish 28 = .ok (.if_icmp .ne 9, 3) := by decide +kernel
theorem dX8_wish_31 : decode cX8_wish 31 = .ok (.aload_n 0, 1) := by decide +kernel
theorem dX8_wish_32 : decode cX8_wish 32 = .ok (.iconst 2, 1) := by decide +kernel
theorem dX8_wish_33 : decode cX8_wish 33 = .ok (.invokevirtual 113, 3) := by decide +kernel
theorem dX8_wish_36 : decode cX8_wish 36 = .ok (.ireturn, 1) := by decide +kernel
theorem dX8_wish_37 : decode cX8_wish 37 = .ok (.aload_n 0, 1) := by decide +kernel
theorem dX8_wish_38 : decode cX8_wish 38 = .ok (.iload_n 1, 1) := by decide +kernel
theorem dX8_wish_39 : decode cX8_wish 39 = .ok (.iload_n 2, 1) := by decide +kernel
theorem dX8_wish_40 : decode cX8_wish 40 = .ok (.iload_n 3, 1) := by decide +kernel
theorem dX8_wish_41 : decode cX8_wish 41 = .ok (.iload 4, 2) := by decide +kernel
theorem dX8_wish_43 : decode cX8_wish 43 = .ok (.iload 5, 2) := by decide +kernel
theorem dX8_wish_45 : decode cX8_wish 45 = .ok (.invokevirtual 138, 3) := by decide +kernel
theorem dX8_wish_48 : decode cX8_wish 48 = .ok (.ireturn, 1) := by decide +kernel
theorem dX8_on_0 : decode cX8_on 0 = .ok (.aload_n 0, 1) := by decide +kernel
theorem dX8_on_1 : decode cX8_on 1 = .ok (.iload_n 1, 1) := by decide +kernel
theorem dX8_on_2 : decode cX8_on 2 = .ok (.invokevirtual 142, 3) := by decide +kernel
theorem dX8_on_5 : decode cX8_on 5 = .ok (.ifCond .ne 9, 3) := by decide +kernel
theorem dX8_on_8 : decode cX8_on 8 = .ok (.aload_n 0, 1) := by decide +kernel
theorem dX8_on_9 : decode cX8_on 9 = .ok (.iconst 1, 1) := by decide +kernel
theorem dX8_on_10 : decode cX8_on 10 = .ok (.invokevirtual 113, 3) := by decide +kernel
theorem dX8_on_13 : decode cX8_on 13 = .ok (.ireturn, 1) := by decide +kernel
theorem dX8_on_14 : decode cX8_on 14 = .ok (.aload_n 0, 1) := by decide +kernel
theorem dX8_on_15 : decode cX8_on 15 = .ok (.getfield 25, 3) := by decide +kernel
theorem dX8_on_18 : decode cX8_on 18 = .ok (.iload_n 1, 1) := by decide +kernel
theorem dX8_on_19 : decode cX8_on 19 = .ok (.iaload, 1) := by decide +kernel
theorem dX8_on_20 : decode cX8_on 20 = .ok (.istore_n 3, 1) := by decide +kernel
theorem dX8_on_21 : decode cX8_on 21 = .ok (.aload_n 0, 1) := by decide +kernel
theorem dX8_on_22 : decode cX8_on 22 = .ok (.getfield 25, 3) := by decide +kernel
theorem dX8_on_25 : decode cX8_on 25 = .ok (.iload_n 1, 1) := by decide +kernel
theorem dX8_on_26 : decode cX8_on 26 = .ok (.iload_n 2, 1) := by decide +kernel
theorem dX8_on_27 : decode cX8_on 27 = .ok (.ifCond .eq 7, 3) := by decide +kernel
theorem dX8_on_30 : decode cX8_on 30 = .ok (.iconst 1, 1) := by decide +kernel
theorem dX8_on_31 : decode cX8_on 31 = .ok (.goto 4, 3) := by decide +kernel
theorem dX8_on_34 : decode cX8_on 34 = .ok (.iconst 0, 1) := by decide +kernel
theorem dX8_on_35 : decode cX8_on 35 = .ok (.iastore, 1) := by decide +kernel
theorem dX8_on_36 : decode cX8_on 36 = .ok (.aload_n 0, 1) := by decide +kernel
theorem dX8_on_37 : decode cX8_on 37 = .ok (.iload_n 3, 1) := by decide +kernel
theorem dX8_on_38 : decode cX8_on 38 = .ok (.aload_n 0, 1) := by decide +kernel
theorem dX8_on_39 : decode cX8_on 39 = .ok (.getfield 25, 3) := by decide +kernel
theorem dX8_on_42 : decode cX8_on 42 = .ok (.iload_n 1, 1) := by decide +kernel
theorem dX8_on_43 : decode cX8_on 43 = .ok (.iaload, 1) := by decide +kernel
theorem dX8_on_44 : decode cX8_on 44 = .ok (.if_icmp .ne 7, 3) := by decide +kernel
theorem dX8_on_47 : decode cX8_on 47 = .ok (.iconst 0, 1) := by decide +kernel
theorem dX8_on_48 : decode cX8_on 48 = .ok (.goto 4, 3) := by decide +kernel
theorem dX8_on_51 : decode cX8_on 51 = .ok (.iconst 1, 1) := by decide +kernel
theorem dX8_on_52 : decode cX8_on 52 = .ok (.invokevirtual 117, 3) := by decide +kernel
theorem dX8_on_55 : decode cX8_on 55 = .ok (.ireturn, 1) := by decide +kernel
theorem dX8_rank_0 : decode cX8_rank 0 = .ok (.aload_n 0, 1) := by decide +kernel
theorem dX8_rank_1 : decode cX8_rank 1 = .ok (.iload_n 1, 1) := by decide +kernel
theorem dX8_rank_2 : decode cX8_rank 2 = .ok (.invokevirtual 142, 3) := by decide +kernel
theorem dX8_rank_5 : decode cX8_rank 5 = .ok (.ifCond .eq 15, 3) := by decide +kernel
theorem dX8_rank_8 : decode cX8_rank 8 = .ok (.iload_n 2, 1) := by decide +kernel
theorem dX8_rank_9 : decode cX8_rank 9 = .ok (.i2l, 1) := by decide +kernel
theorem dX8_rank_10 : decode cX8_rank 10 = .ok (.lconst 0, 1) := by decide +kernel
theorem dX8_rank_11 : decode cX8_rank 11 = .ok (.ldc2_w 130, 3) := by decide +kernel
theorem dX8_rank_14 : decode cX8_rank 14 = .ok (.invokestatic 126, 3) := by decide +kernel
theorem dX8_rank_17 : decode cX8_rank 17 = .ok (.ifCond .ne 9, 3) := by decide +kernel
theorem dX8_rank_20 : decode cX8_rank 20 = .ok (.aload_n 0, 1) := by decide +kernel
theorem dX8_rank_21 : decode cX8_rank 21 = .ok (.iconst 1, 1) := by decide +kernel
theorem dX8_rank_22 : decode cX8_rank 22 = .ok (.invokevirtual 113, 3) := by decide +kernel
theorem dX8_rank_25 : decode cX8_rank 25 = .ok (.ireturn, 1) := by decide +kernel
theorem dX8_rank_26 : decode cX8_rank 26 = .ok (.aload_n 0, 1) := by decide +kernel
theorem dX8_rank_27 : decode cX8_rank 27 = .ok (.getfield 16, 3) := by decide +kernel
theorem dX8_rank_30 : decode cX8_rank 30 = .ok (.iload_n 1, 1) := by decide +kernel
theorem dX8_rank_31 : decode cX8_rank 31 = .ok (.iaload, 1) := by decide +kernel
theorem dX8_rank_32 : decode cX8_rank 32 = .ok (.istore_n 3, 1) := by decide +kernel
theorem dX8_rank_33 : decode cX8_rank 33 = .ok (.aload_n 0, 1) := by decide +kernel
theorem dX8_rank_34 : decode cX8_rank 34 = .ok (.getfield 16, 3) := by decide +kernel
theorem dX8_rank_37 : decode cX8_rank 37 = .ok (.iload_n 1, 1) := by decide +kernel
theorem dX8_rank_38 : decode cX8_rank 38 = .ok (.iload_n 2, 1) := by decide +kernel
theorem dX8_rank_39 : decode cX8_rank 39 = .ok (.iastore, 1) := by decide +kernel
theorem dX8_rank_40 : decode cX8_rank 40 = .ok (.aload_n 0, 1) := by decide +kernel
theorem dX8_rank_41 : decode cX8_rank 41 = .ok (.iload_n 3, 1) := by decide +kernel
theorem dX8_rank_42 : decode cX8_rank 42 = .ok (.invokevirtual 117, 3) := by decide +kernel
theorem dX8_rank_45 : decode cX8_rank 45 = .ok (.ireturn, 1) := by decide +kernel
theorem dX8_wishBehind_0 : decode cX8_wishBehind 0 = .ok (.iconst (-1), 1) := by decide +kernel
theorem dX8_wishBehind_1 : decode cX8_wishBehind 1 = .ok (.istore_n 3, 1) := by decide +kernel
theorem dX8_wishBehind_2 : decode cX8_wishBehind 2 = .ok (.iconst 0, 1) := by decide +kernel
theorem dX8_wishBehind_3 : decode cX8_wishBehind 3 = .ok (.istore 4, 2) := by decide +kernel
theorem dX8_wishBehind_5 : decode cX8_wishBehind 5 = .ok (.iload 4, 2) := by decide +kernel
theorem dX8_wishBehind_7 : decode cX8_wishBehind 7 = .ok (.aload_n 0, 1) := by decide +kernel
theorem dX8_wishBehind_8 : decode cX8_wishBehind 8 = .ok (.getfield 70, 3) := by decide +kernel
theorem dX8_wishBehind_11 : decode cX8_wishBehind 11 = .ok (.iconst 1, 1) := by decide +kernel
theorem dX8_wishBehind_12 : decode cX8_wishBehind 12 = .ok (.iaload, 1) := by decide +kernel
theorem dX8_wishBehind_13 : decode cX8_wishBehind 13 = .ok (.if_icmp .ge 110, 3) := by decide +kernel
theorem dX8_wishBehind_16 : decode cX8_wishBehind 16 = .ok (.aload_n 0, 1) := by decide +kernel
theorem dX8_wishBehind_17 : decode cX8_wishBehind 17 = .ok (.getfield 7, 3) := by decide +kernel
theorem dX8_wishBehind_20 : decode cX8_wishBehind 20 = .ok (.iload 4, 2) := by decide +kernel
theorem dX8_wishBehind_22 : decode cX8_wishBehind 22 = .ok (.iaload, 1) := by decide +kernel
theorem dX8_wishBehind_23 : decode cX8_wishBehind 23 = .ok (.iload_n 1, 1) := by decide +kernel
theorem dX8_wishBehind_24 : decode cX8_wishBehind 24 = .ok (.if_icmp .ne 93, 3) := by decide +kernel
theorem dX8_wishBehind_27 : decode cX8_wishBehind 27 = .ok (.aload_n 0, 1) := by decide +kernel
theorem dX8_wishBehind_28 : decode cX8_wishBehind 28 = .ok (.getfield 25, 3) := by decide +kernel
theorem dX8_wishBehind_31 : decode cX8_wishBehind 31 = .ok (.iload 4, 2) := by decide +kernel
theorem dX8_wishBehind_33 : decode cX8_wishBehind 33 = .ok (.iaload, 1) := by decide +kernel
theorem dX8_wishBehind_34 : decode cX8_wishBehind 34 = .ok (.ifCond .ne 6, 3) := by decide +kernel
theorem dX8_wishBehind_37 : decode cX8_wishBehind 37 = .ok (.goto 80, 3) := by decide +kernel
theorem dX8_wishBehind_40 : decode cX8_wishBehind 40 = .ok (.iload_n 2, 1) := by decide +kernel
theorem dX8_wishBehind_41 : decode cX8_wishBehind 41 = .ok (.ifCond .lt 41, 3) := by decide +kernel
theorem dX8_wishBehind_44 : decode cX8_wishBehind 44 = .ok (.aload_n 0, 1) := by decide +kernel
theorem dX8_wishBehind_45 : decode cX8_wishBehind 45 = .ok (.getfield 16, 3) := by decide +kernel
theorem dX8_wishBehind_48 : decode cX8_wishBehind 48 = .ok (.iload 4, 2) := by decide +kernel
theorem dX8_wishBehind_50 : decode cX8_wishBehind 50 = .ok (.iaload, 1) := by decide +kernel
theorem dX8_wishBehind_51 : decode cX8_wishBehind 51 = .ok (.aload_n 0, 1) := by decide +kernel
theorem dX8_wishBehind_52 : decode cX8_wishBehind 52 = .ok (.getfield 16, 3) := by decide +kernel
theorem dX8_wishBehind_55 : decode cX8_wishBehind 55 = .ok (.iload_n 2, 1) := by decide +kernel
theorem dX8_wishBehind_56 : decode cX8_wishBehind 56 = .ok (.iaload, 1) := by decide +kernel
theorem dX8_wishBehind_57 : decode cX8_wishBehind 57 = .ok (.if_icmp .gt 25, 3) := by decide +kernel
theorem dX8_wishBehind_60 : decode cX8_wishBehind 60 = .ok (.aload_n 0, 1) := by decide +kernel
theorem dX8_wishBehind_61 : decode cX8_wishBehind 61 = .ok (.getfield 16, 3) := by decide +kernel
theorem dX8_wishBehind_64 : decode cX8_wishBehind 64 = .ok (.iload 4, 2) := by decide +kernel
theorem dX8_wishBehind_66 : decode cX8_wishBehind 66 = .ok (.iaload, 1) := by decide +kernel
theorem dX8_wishBehind_67 : decode cX8_wishBehind 67 = .ok (.aload_n 0, 1) := by decide +kernel
theorem dX8_wishBehind_68 : decode cX8_wishBehind 68 = .ok (.getfield 16, 3) := by decide +kernel
theorem dX8_wishBehind_71 : decode cX8_wishBehind 71 = .ok (.iload_n 2, 1) := by decide +kernel
theorem dX8_wishBehind_72 : decode cX8_wishBehind 72 = .ok (.iaload, 1) := by decide +kernel
theorem dX8_wishBehind_73 : decode cX8_wishBehind 73 = .ok (.if_icmp .ne 13, 3) := by decide +kernel
theorem dX8_wishBehind_76 : decode cX8_wishBehind 76 = .ok (.iload 4, 2) := by decide +kernel
theorem dX8_wishBehind_78 : decode cX8_wishBehind 78 = .ok (.iload_n 2, 1) := by decide +kernel
theorem dX8_wishBehind_79 : decode cX8_wishBehind 79 = .ok (.if_icmp .le 7, 3) := by decide +kernel
theorem dX8_wishBehind_82 : decode cX8_wishBehind 82 = .ok (.iconst 1, 1) := by decide +kernel
theorem dX8_wishBehind_83 : decode cX8_wishBehind 83 = .ok (.goto 4, 3) := by decide +kernel
theorem dX8_wishBehind_86 : decode cX8_wishBehind 86 = .ok (.iconst 0, 1) := by decide +kernel
theorem dX8_wishBehind_87 : decode cX8_wishBehind 87 = .ok (.istore 5, 2) := by decide +kernel
theorem dX8_wishBehind_89 : decode cX8_wishBehind 89 = .ok (.iload 5, 2) := by decide +kernel
theorem dX8_wishBehind_91 : decode cX8_wishBehind 91 = .ok (.ifCond .eq 26, 3) := by decide +kernel
theorem dX8_wishBehind_94 : decode cX8_wishBehind 94 = .ok (.iload_n 3, 1) := by decide +kernel
theorem dX8_wishBehind_95 : decode cX8_wishBehind 95 = .ok (.ifCond .lt 19, 3) := by decide +kernel
theorem dX8_wishBehind_98 : decode cX8_wishBehind 98 = .ok (.aload_n 0, 1) := by decide +kernel
theorem dX8_wishBehind_99 : decode cX8_wishBehind 99 = .ok (.getfield 16, 3) := by decide +kernel
theorem dX8_wishBehind_102 : decode cX8_wishBehind 102 = .ok (.iload 4, 2) := by decide +kernel
theorem dX8_wishBehind_104 : decode cX8_wishBehind 104 = .ok (.iaload, 1) := by decide +kernel
theorem dX8_wishBehind_105 : decode cX8_wishBehind 105 = .ok (.aload_n 0, 1) := by decide +kernel
theorem dX8_wishBehind_106 : decode cX8_wishBehind 106 = .ok (.getfield 16, 3) := by decide +kernel
theorem dX8_wishBehind_109 : decode cX8_wishBehind 109 = .ok (.iload_n 3, 1) := by decide +kernel
theorem dX8_wishBehind_110 : decode cX8_wishBehind 110 = .ok (.iaload, 1) := by decide +kernel
theorem dX8_wishBehind_111 : decode cX8_wishBehind 111 = .ok (.if_icmp .ge 6, 3) := by decide +kernel
theorem dX8_wishBehind_114 : decode cX8_wishBehind 114 = .ok (.iload 4, 2) := by decide +kernel
theorem dX8_wishBehind_116 : decode cX8_wishBehind 116 = .ok (.istore_n 3, 1) := by decide +kernel
theorem dX8_wishBehind_117 : decode cX8_wishBehind 117 = .ok (.iinc 4 1, 3) := by decide +kernel
theorem dX8_wishBehind_120 : decode cX8_wishBehind 120 = .ok (.goto (-115), 3) := by decide +kernel
theorem dX8_wishBehind_123 : decode cX8_wishBehind 123 = .ok (.iload_n 3, 1) := by decide +kernel
theorem dX8_wishBehind_124 : decode cX8_wishBehind 124 = .ok (.ireturn, 1) := by decide +kernel
theorem dX8_has_0 : decode cX8_has 0 = .ok (.iconst 0, 1) := by decide +kernel
theorem dX8_has_1 : decode cX8_has 1 = .ok (.istore_n 3, 1) := by decide +kernel
theorem dX8_has_2 : decode cX8_has 2 = .ok (.iconst 0, 1) := by decide +kernel
theorem dX8_has_3 : decode cX8_has 3 = .ok (.istore 4, 2) := by decide +kernel
theorem dX8_has_5 : decode cX8_has 5 = .ok (.iload 4, 2) := by decide +kernel
theorem dX8_has_7 : decode cX8_has 7 = .ok (.aload_n 0, 1) := by decide +kernel
theorem dX8_has_8 : decode cX8_has 8 = .ok (.getfield 70, 3) := by decide +kernel
theorem dX8_has_11 : decode cX8_has 11 = .ok (.iconst 1, 1) := by decide +kernel
theorem dX8_has_12 : decode cX8_has 12 = .ok (.iaload, 1) := by decide +kernel
theorem dX8_has_13 : decode cX8_has 13 = .ok (.if_icmp .ge 52, 3) := by decide +kernel
theorem dX8_has_16 : decode cX8_has 16 = .ok (.iload_n 3, 1) := by decide +kernel
theorem dX8_has_17 : decode cX8_has 17 = .ok (.ifCond .ne 36, 3) := by decide +kernel
theorem dX8_has_20 : decode cX8_has 20 = .ok (.aload_n 0, 1) := by decide +kernel
theorem dX8_has_21 : decode cX8_has 21 = .ok (.getfield 7, 3) := by decide +kernel
theorem dX8_has_24 : decode cX8_has 24 = .ok (.iload 4, 2) := by decide +kernel
theorem dX8_has_26 : decode cX8_has 26 = .ok (.iaload, 1) := by decide +kernel
theorem dX8_has_27 : decode cX8_has 27 = .ok (.iload_n 1, 1) := by decide +kernel
theorem dX8_has_28 : decode cX8_has 28 = .ok (.if_icmp .ne 29, 3) := by decide +kernel
theorem dX8_has_31 : decode cX8_has 31 = .ok (.aload_n 0, 1) := by decide +kernel
theorem dX8_has_32 : decode cX8_has 32 = .ok (.getfield 13, 3) := by decide +kernel
theorem dX8_has_35 : decode cX8_has 35 = .ok (.iload 4, 2) := by decide +kernel
theorem dX8_has_37 : decode cX8_has 37 = .ok (.iaload, 1) := by decide +kernel
theorem dX8_has_38 : decode cX8_has 38 = .ok (.iload_n 2, 1) := by decide +kernel
theorem dX8_has_39 : decode cX8_has 39 = .ok (.if_icmp .ne 18, 3) := by decide +kernel
theorem dX8_has_42 : decode cX8_has 42 = .ok (.aload_n 0, 1) := by decide +kernel
theorem dX8_has_43 : decode cX8_has 43 = .ok (.getfield 25, 3) := by decide +kernel
theorem dX8_has_46 : decode cX8_has 46 = .ok (.iload 4, 2) := by decide +kernel
theorem dX8_has_48 : decode cX8_has 48 = .ok (.iaload, 1) := by decide +kernel
theorem dX8_has_49 : decode cX8_has 49 = .ok (.iconst 1, 1) := by decide +kernel
theorem dX8_has_50 : decode cX8_has 50 = .ok (.if_icmp .ne 7, 3) := by decide +kernel
theorem dX8_has_53 : decode cX8_has 53 = .ok (.iconst 1, 1) := by decide +kernel
theorem dX8_has_54 : decode cX8_has 54 = .ok (.goto 4, 3) := by decide +kernel
theorem dX8_has_57 : decode cX8_has 57 = .ok (.iconst 0, 1) := by decide +kernel
theorem dX8_has_58 : decode cX8_has 58 = .ok (.istore_n 3, 1) := by decide +kernel
theorem dX8_has_59 : decode cX8_has 59 = .ok (.iinc 4 1, 3) := by decide +kernel
theorem dX8_has_62 : decode cX8_has 62 = .ok (.goto (-57), 3) := by decide +kernel
theorem dX8_has_65 : decode cX8_has 65 = .ok (.iload_n 3, 1) := by decide +kernel
theorem dX8_has_66 : decode cX8_has 66 = .ok (.ireturn, 1) := by decide +kernel
theorem dX8_callOf_0 : decode cX8_callOf 0 = .ok (.iconst 0, 1) := by decide +kernel
theorem dX8_callOf_1 : decode cX8_callOf 1 = .ok (.istore_n 2, 1) := by decide +kernel
theorem dX8_callOf_2 : decode cX8_callOf 2 = .ok (.iload_n 2, 1) := by decide +kernel
theorem dX8_callOf_3 : decode cX8_callOf 3 = .ok (.aload_n 0, 1) := by decide +kernel
theorem dX8_callOf_4 : decode cX8_callOf 4 = .ok (.getfield 70, 3) := by decide +kernel
theorem dX8_callOf_7 : decode cX8_callOf 7 = .ok (.iconst 2, 1) := by decide +kernel
theorem dX8_callOf_8 : decode cX8_callOf 8 = .ok (.iaload, 1) := by decide +kernel
theorem dX8_callOf_9 : decode cX8_callOf 9 = .ok (.if_icmp .ge 68, 3) := by decide +kernel
theorem dX8_callOf_12 : decode cX8_callOf 12 = .ok (.aload_n 0, 1) := by decide +kernel
theorem dX8_callOf_13 : decode cX8_callOf 13 = .ok (.getfield 31, 3) := by decide +kernel
theorem dX8_callOf_16 : decode cX8_callOf 16 = .ok (.iload_n 2, 1) := by decide +kernel
theorem dX8_callOf_17 : decode cX8_callOf 17 = .ok (.iaload, 1) := by decide +kernel
theorem dX8_callOf_18 : decode cX8_callOf 18 = .ok (.iconst 3, 1) := by decide +kernel
theorem dX8_callOf_19 : decode cX8_callOf 19 = .ok (.if_icmp .ne 6, 3) := by decide +kernel
theorem dX8_callOf_22 : decode cX8_callOf 22 = .ok (.goto 49, 3) := by decide +kernel
theorem dX8_callOf_25 : decode cX8_callOf 25 = .ok (.aload_n 0, 1) := by decide +kernel
theorem dX8_callOf_26 : decode cX8_callOf 26 = .ok (.getfield 28, 3) := by decide +kernel
theorem dX8_callOf_29 : decode cX8_callOf 29 = .ok (.iload_n 2, 1) := by decide +kernel
theorem dX8_callOf_30 : decode cX8_callOf 30 = .ok (.iaload, 1) := by decide +kernel
theorem dX8_callOf_31 : decode cX8_callOf 31 = .ok (.iload_n 1, 1) := by decide +kernel
theorem dX8_callOf_32 : decode cX8_callOf 32 = .ok (.if_icmp .eq 37, 3) := by decide +kernel
theorem dX8_callOf_35 : decode cX8_callOf 35 = .ok (.aload_n 0, 1) := by decide +kernel
theorem dX8_callOf_36 : decode cX8_callOf 36 = .ok (.getfield 46, 3) := by decide +kernel
theorem dX8_callOf_39 : decode cX8_callOf 39 = .ok (.iload_n 2, 1) := by decide +kernel
theorem dX8_callOf_40 : decode cX8_callOf 40 = .ok (.iaload, 1) := by decide +kernel
theorem dX8_callOf_41 : decode cX8_callOf 41 = .ok (.iload_n 1, 1) := by decide +kernel
theorem dX8_callOf_42 : decode cX8_callOf 42 = .ok (.ishr, 1) := by decide +kernel
theorem dX8_callOf_43 : decode cX8_callOf 43 = .ok (.iconst 1, 1) := by decide +kernel
theorem dX8_callOf_44 : decode cX8_callOf 44 = .ok (.iand, 1) := by decide +kernel
theorem dX8_callOf_45 : decode cX8_callOf 45 = .ok (.iconst 1, 1) := by decide +kernel
theorem dX8_callOf_46 : decode cX8_callOf 46 = .ok (.if_icmp .eq 23, 3) := by decide +kernel
theorem dX8_callOf_49 : decode cX8_callOf 49 = .ok (.aload_n 0, 1) := by decide +kernel
theorem dX8_callOf_50 : decode cX8_callOf 50 = .ok (.getfield 31, 3) := by decide +kernel
theorem dX8_callOf_53 : decode cX8_callOf 53 = .ok (.iload_n 2, 1) := by decide +kernel
theorem dX8_callOf_54 : decode cX8_callOf 54 = .ok (.iaload, 1) := by decide +kernel
theorem dX8_callOf_55 : decode cX8_callOf 55 = .ok (.iconst 1, 1) := by decide +kernel
theorem dX8_callOf_56 : decode cX8_callOf 56 = .ok (.if_icmp .ne 15, 3) := by decide +kernel
theorem dX8_callOf_59 : decode cX8_callOf 59 = .ok (.aload_n 0, 1) := by decide +kernel
theorem dX8_callOf_60 : decode cX8_callOf 60 = .ok (.getfield 49, 3) := by decide +kernel
theorem dX8_callOf_63 : decode cX8_callOf 63 = .ok (.iload_n 2, 1) := by decide +kernel
theorem dX8_callOf_64 : decode cX8_callOf 64 = .ok (.iaload, 1) := by decide +kernel
theorem dX8_callOf_65 : decode cX8_callOf 65 = .ok (.iload_n 1, 1) := by decide +kernel
theorem dX8_callOf_66 : decode cX8_callOf 66 = .ok (.if_icmp .ne 5, 3) := by decide +kernel
theorem dX8_callOf_69 : decode cX8_callOf 69 = .ok (.iload_n 2, 1) := by decide +kernel
theorem dX8_callOf_70 : decode cX8_callOf 70 = .ok (.ireturn, 1) := by decide +kernel
theorem dX8_callOf_71 : decode cX8_callOf 71 = .ok (.iinc 2 1, 3) := by decide +kernel
theorem dX8_callOf_74 : decode cX8_callOf 74 = .ok (.goto (-72), 3) := by decide +kernel
theorem dX8_callOf_77 : decode cX8_callOf 77 = .ok (.iconst (-1), 1) := by decide +kernel
theorem dX8_callOf_78 : decode cX8_callOf 78 = .ok (.ireturn, 1) := by decide +kernel
theorem dX8_isFree_0 : decode cX8_isFree 0 = .ok (.aload_n 0, 1) := by decide +kernel
theorem dX8_isFree_1 : decode cX8_isFree 1 = .ok (.iload_n 1, 1) := by decide +kernel
theorem dX8_isFree_2 : decode cX8_isFree 2 = .ok (.invokevirtual 145, 3) := by decide +kernel
theorem dX8_isFree_5 : decode cX8_isFree 5 = .ok (.ifCond .ge 7, 3) := by decide +kernel
theorem dX8_isFree_8 : decode cX8_isFree 8 = .ok (.iconst 1, 1) := by decide +kernel
theorem dX8_isFree_9 : decode cX8_isFree 9 = .ok (.goto 4, 3) := by decide +kernel
theorem dX8_isFree_12 : decode cX8_isFree 12 = .ok (.iconst 0, 1) := by decide +kernel
theorem dX8_isFree_13 : decode cX8_isFree 13 = .ok (.ireturn, 1) := by decide +kernel
theorem dX8_knockAt_0 : decode cX8_knockAt 0 = .ok (.iconst (-1), 1) := by decide +kernel
theorem dX8_knockAt_1 : decode cX8_knockAt 1 = .ok (.istore_n 2, 1) := by decide +kernel
theorem dX8_knockAt_2 : decode cX8_knockAt 2 = .ok (.iconst 0, 1) := by decide +kernel
theorem dX8_knockAt_3 : decode cX8_knockAt 3 = .ok (.istore_n 3, 1) := by decide +kernel
theorem dX8_knockAt_4 : decode cX8_knockAt 4 = .ok (.iload_n 3, 1) := by decide +kernel
theorem dX8_knockAt_5 : decode cX8_knockAt 5 = .ok (.aload_n 0, 1) := by decide +kernel
theorem dX8_knockAt_6 : decode cX8_knockAt 6 = .ok (.getfield 70, 3) := by decide +kernel
theorem dX8_knockAt_9 : decode cX8_knockAt 9 = .ok (.iconst 2, 1) := by decide +kernel
theorem dX8_knockAt_10 : decode cX8_knockAt 10 = .ok (.iaload, 1) := by decide +kernel
theorem dX8_knockAt_11 : decode cX8_knockAt 11 = .ok (.if_icmp .ge 35, 3) := by decide +kernel
theorem dX8_knockAt_14 : decode cX8_knockAt 14 = .ok (.aload_n 0, 1) := by decide +kernel
theorem dX8_knockAt_15 : decode cX8_knockAt 15 = .ok (.getfield 31, 3) := by decide +kernel
theorem dX8_knockAt_18 : decode cX8_knockAt 18 = .ok (.iload_n 3, 1) := by decide +kernel
theorem dX8_knockAt_19 : decode cX8_knockAt 19 = .ok (.iaload, 1) := by decide +kernel
theorem dX8_knockAt_20 : decode cX8_knockAt 20 = .ok (.iconst 2, 1) := by decide +kernel
theorem dX8_knockAt_21 : decode cX8_knockAt 21 = .ok (.if_icmp .ne 17, 3) := by decide +kernel
theorem dX8_knockAt_24 : decode cX8_knockAt 24 = .ok (.aload_n 0, 1) := by decide +kernel
theorem dX8_knockAt_25 : decode cX8_knockAt 25 = .ok (.getfield 49, 3) := by decide +kernel
theorem dX8_knockAt_28 : decode cX8_knockAt 28 = .ok (.iload_n 3, 1) := by decide +kernel
theorem dX8_knockAt_29 : decode cX8_knockAt 29 = .ok (.iaload, 1) := by decide +kernel
theorem dX8_knockAt_30 : decode cX8_knockAt 30 = .ok (.iload_n 1, 1) := by decide +kernel
theorem dX8_knockAt_31 : decode cX8_knockAt 31 = .ok (.if_icmp .ne 7, 3) := by decide +kernel
theorem dX8_knockAt_34 : decode cX8_knockAt 34 = .ok (.iload_n 3, 1) := by decide +kernel
theorem dX8_knockAt_35 : decode cX8_knockAt 35 = .ok (.goto 4, 3) := by decide +kernel
theorem dX8_knockAt_38 : decode cX8_knockAt 38 = .ok (.iload_n 2, 1) := by decide +kernel
theorem dX8_knockAt_39 : decode cX8_knockAt 39 = .ok (.istore_n 2, 1) := by decide +kernel
theorem dX8_knockAt_40 : decode cX8_knockAt 40 = .ok (.iinc 3 1, 3) := by decide +kernel
theorem dX8_knockAt_43 : decode cX8_knockAt 43 = .ok (.goto (-39), 3) := by decide +kernel
theorem dX8_knockAt_46 : decode cX8_knockAt 46 = .ok (.iload_n 2, 1) := by decide +kernel
theorem dX8_knockAt_47 : decode cX8_knockAt 47 = .ok (.ireturn, 1) := by decide +kernel
theorem dX8_ends_0 : decode cX8_ends 0 = .ok (.aload_n 0, 1) := by decide +kernel
theorem dX8_ends_1 : decode cX8_ends 1 = .ok (.getfield 31, 3) := by decide +kernel
theorem dX8_ends_4 : decode cX8_ends 4 = .ok (.iload_n 1, 1) := by decide +kernel
theorem dX8_ends_5 : decode cX8_ends 5 = .ok (.iconst 3, 1) := by decide +kernel
theorem dX8_ends_6 : decode cX8_ends 6 = .ok (.iastore, 1) := by decide +kernel
theorem dX8_ends_7 : decode cX8_ends 7 = .ok (.aload_n 0, 1) := by decide +kernel
theorem dX8_ends_8 : decode cX8_ends 8 = .ok (.getfield 34, 3) := by decide +kernel
theorem dX8_ends_11 : decode cX8_ends 11 = .ok (.iload_n 1, 1) := by decide +kernel
theorem dX8_ends_12 : decode cX8_ends 12 = .ok (.iload_n 2, 1) := by decide +kernel
theorem dX8_ends_13 : decode cX8_ends 13 = .ok (.iastore, 1) := by decide +kernel
theorem dX8_ends_14 : decode cX8_ends 14 = .ok (.aload_n 0, 1) := by decide +kernel
theorem dX8_ends_15 : decode cX8_ends 15 = .ok (.getfield 46, 3) := by decide +kernel
theorem dX8_ends_18 : decode cX8_ends 18 = .ok (.iload_n 1, 1) := by decide +kernel
theorem dX8_ends_19 : decode cX8_ends 19 = .ok (.iconst 0, 1) := by decide +kernel
theorem dX8_ends_20 : decode cX8_ends 20 = .ok (.iastore, 1) := by decide +kernel
theorem dX8_ends_21 : decode cX8_ends 21 = .ok (.aload_n 0, 1) := by decide +kernel
theorem dX8_ends_22 : decode cX8_ends 22 = .ok (.getfield 49, 3) := by decide +kernel
theorem dX8_ends_25 : decode cX8_ends 25 = .ok (.iload_n 1, 1) := by decide +kernel
theorem dX8_ends_26 : decode cX8_ends 26 = .ok (.iconst (-1), 1) := by decide +kernel
theorem dX8_ends_27 : decode cX8_ends 27 = .ok (.iastore, 1) := by decide +kernel
theorem dX8_ends_28 : decode cX8_ends 28 = .ok (.return_, 1) := by decide +kernel
theorem dX8_rings_0 : decode cX8_rings 0 = .ok (.aload_n 0, 1) := by decide +kernel
theorem dX8_rings_1 : decode cX8_rings 1 = .ok (.getfield 31, 3) := by decide +kernel
theorem dX8_rings_4 : decode cX8_rings 4 = .ok (.iload_n 1, 1) := by decide +kernel
theorem dX8_rings_5 : decode cX8_rings 5 = .ok (.iconst 0, 1) := by decide +kernel
theorem dX8_rings_6 : decode cX8_rings 6 = .ok (.iastore, 1) := by decide +kernel
theorem dX8_rings_7 : decode cX8_rings 7 = .ok (.aload_n 0, 1) := by decide +kernel
theorem dX8_rings_8 : decode cX8_rings 8 = .ok (.getfield 46, 3) := by decide +kernel
theorem dX8_rings_11 : decode cX8_rings 11 = .ok (.iload_n 1, 1) := by decide +kernel
theorem dX8_rings_12 : decode cX8_rings 12 = .ok (.iload_n 2, 1) := by decide +kernel
theorem dX8_rings_13 : decode cX8_rings 13 = .ok (.iastore, 1) := by decide +kernel
theorem dX8_rings_14 : decode cX8_rings 14 = .ok (.aload_n 0, 1) := by decide +kernel
theorem dX8_rings_15 : decode cX8_rings 15 = .ok (.getfield 49, 3) := by decide +kernel
theorem dX8_rings_18 : decode cX8_rings 18 = .ok (.iload_n 1, 1) := by decide +kernel
theorem dX8_rings_19 : decode cX8_rings 19 = .ok (.iconst (-1), 1) := by decide +kernel
theorem dX8_rings_20 : decode cX8_rings 20 = .ok (.iastore, 1) := by decide +kernel
theorem dX8_rings_21 : decode cX8_rings 21 = .ok (.aload_n 0, 1) := by decide +kernel
theorem dX8_rings_22 : decode cX8_rings 22 = .ok (.getfield 52, 3) := by decide +kernel
theorem dX8_rings_25 : decode cX8_rings 25 = .ok (.iload_n 1, 1) := by decide +kernel
theorem dX8_rings_26 : decode cX8_rings 26 = .ok (.iconst 0, 1) := by decide +kernel
theorem dX8_rings_27 : decode cX8_rings 27 = .ok (.iastore, 1) := by decide +kernel
theorem dX8_rings_28 : decode cX8_rings 28 = .ok (.return_, 1) := by decide +kernel
theorem dX8_notes_0 : decode cX8_notes 0 = .ok (.aload_n 0, 1) := by decide +kernel
theorem dX8_notes_1 : decode cX8_notes 1 = .ok (.getfield 55, 3) := by decide +kernel
theorem dX8_notes_4 : decode cX8_notes 4 = .ok (.iload_n 1, 1) := by decide +kernel
theorem dX8_notes_5 : decode cX8_notes 5 = .ok (.iaload, 1) := by decide +kernel
theorem dX8_notes_6 : decode cX8_notes 6 = .ok (.bipush 10, 2) := by decide +kernel
theorem dX8_notes_8 : decode cX8_notes 8 = .ok (.if_icmp .ge 20, 3) := by decide +kernel
theorem dX8_notes_11 : decode cX8_notes 11 = .ok (.aload_n 0, 1) := by decide +kernel
theorem dX8_notes_12 : decode cX8_notes 12 = .ok (.getfield 58, 3) := by decide +kernel
theorem dX8_notes_15 : decode cX8_notes 15 = .ok (.bipush 10, 2) := by decide +kernel
theorem dX8_notes_17 : decode cX8_notes 17 = .ok (.iload_n 1, 1) := by decide +kernel
theorem dX8_notes_18 : decode cX8_notes 18 = .ok (.imul, 1) := by decide +kernel
theorem dX8_notes_19 : decode cX8_notes 19 = .ok (.aload_n 0, 1) := by decide +kernel
theorem dX8_notes_20 : decode cX8_notes 20 = .ok (.getfield 55, 3) := by decide +kernel
theorem dX8_notes_23 : decode cX8_notes 23 = .ok (.iload_n 1, 1) := by decide +kernel
theorem dX8_notes_24 : decode cX8_notes 24 = .ok (.iaload, 1) := by decide +kernel
theorem dX8_notes_25 : decode cX8_notes 25 = .ok (.iadd, 1) := by decide +kernel
theorem dX8_notes_26 : decode cX8_notes 26 = .ok (.iload_n 2, 1) := by decide +kernel
end
section
theorem dX8_notes_27 : decode cX8_notes 27 = .ok (.iastore, 1) := by decide +kernel
theorem dX8_notes_28 : decode cX8_notes 28 = .ok (.aload_n 0, 1) := by decide +kernel
theorem dX8_notes_29 : decode cX8_notes 29 = .ok (.getfield 55, 3) := by decide +kernel
theorem dX8_notes_32 : decode cX8_notes 32 = .ok (.iload_n 1, 1) := by decide +kernel
theorem dX8_notes_33 : decode cX8_notes 33 = .ok (.dup2, 1) := by decide +kernel
theorem dX8_notes_34 : decode cX8_notes 34 = .ok (.iaload, 1) := by decide +kernel
theorem dX8_notes_35 : decode cX8_notes 35 = .ok (.iconst 1, 1) := by decide +kernel
theorem dX8_notes_36 : decode cX8_notes 36 = .ok (.iadd, 1) := by decide +kernel
theorem dX8_notes_37 : decode cX8_notes 37 = .ok (.iastore, 1) := by decide +kernel
theorem dX8_notes_38 : decode cX8_notes 38 = .ok (.return_, 1) := by decide +kernel
theorem dX8_isInRow_0 : decode cX8_isInRow 0 = .ok (.iconst 0, 1) := by decide +kernel
theorem dX8_isInRow_1 : decode cX8_isInRow 1 = .ok (.istore_n 3, 1) := by decide +kernel
theorem dX8_isInRow_2 : decode cX8_isInRow 2 = .ok (.iconst 0, 1) := by decide +kernel
theorem dX8_isInRow_3 : decode cX8_isInRow 3 = .ok (.istore 4, 2) := by decide +kernel
theorem dX8_isInRow_5 : decode cX8_isInRow 5 = .ok (.iload 4, 2) := by decide +kernel
theorem dX8_isInRow_7 : decode cX8_isInRow 7 = .ok (.aload_n 0, 1) := by decide +kernel
theorem dX8_isInRow_8 : decode cX8_isInRow 8 = .ok (.getfield 37, 3) := by decide +kernel
theorem dX8_isInRow_11 : decode cX8_isInRow 11 = .ok (.iload_n 1, 1) := by decide +kernel
theorem dX8_isInRow_12 : decode cX8_isInRow 12 = .ok (.iaload, 1) := by decide +kernel
theorem dX8_isInRow_13 : decode cX8_isInRow 13 = .ok (.if_icmp .ge 35, 3) := by decide +kernel
theorem dX8_isInRow_16 : decode cX8_isInRow 16 = .ok (.iload_n 3, 1) := by decide +kernel
theorem dX8_isInRow_17 : decode cX8_isInRow 17 = .ok (.ifCond .ne 19, 3) := by decide +kernel
theorem dX8_isInRow_20 : decode cX8_isInRow 20 = .ok (.aload_n 0, 1) := by decide +kernel
theorem dX8_isInRow_21 : decode cX8_isInRow 21 = .ok (.getfield 40, 3) := by decide +kernel
theorem dX8_isInRow_24 : decode cX8_isInRow 24 = .ok (.bipush 9, 2) := by decide +kernel
theorem dX8_isInRow_26 : decode cX8_isInRow 26 = .ok (.iload_n 1, 1) := by decide +kernel
theorem dX8_isInRow_27 : decode cX8_isInRow 27 = .ok (.imul, 1) := by decide +kernel
theorem dX8_isInRow_28 : decode cX8_isInRow 28 = .ok (.iload 4, 2) := by decide +kernel
theorem dX8_isInRow_30 : decode cX8_isInRow 30 = .ok (.iadd, 1) := by decide +kernel
theorem dX8_isInRow_31 : decode cX8_isInRow 31 = .ok (.iaload, 1) := by decide +kernel
theorem dX8_isInRow_32 : decode cX8_isInRow 32 = .ok (.iload_n 2, 1) := by decide +kernel
theorem dX8_isInRow_33 : decode cX8_isInRow 33 = .ok (.if_icmp .ne 7, 3) := by decide +kernel
theorem dX8_isInRow_36 : decode cX8_isInRow 36 = .ok (.iconst 1, 1) := by decide +kernel
theorem dX8_isInRow_37 : decode cX8_isInRow 37 = .ok (.goto 4, 3) := by decide +kernel
theorem dX8_isInRow_40 : decode cX8_isInRow 40 = .ok (.iconst 0, 1) := by decide +kernel
theorem dX8_isInRow_41 : decode cX8_isInRow 41 = .ok (.istore_n 3, 1) := by decide +kernel
theorem dX8_isInRow_42 : decode cX8_isInRow 42 = .ok (.iinc 4 1, 3) := by decide +kernel
theorem dX8_isInRow_45 : decode cX8_isInRow 45 = .ok (.goto (-40), 3) := by decide +kernel
theorem dX8_isInRow_48 : decode cX8_isInRow 48 = .ok (.iload_n 3, 1) := by decide +kernel
theorem dX8_isInRow_49 : decode cX8_isInRow 49 = .ok (.ireturn, 1) := by decide +kernel
theorem dX8_isHour_0 : decode cX8_isHour 0 = .ok (.iload_n 1, 1) := by decide +kernel
theorem dX8_isHour_1 : decode cX8_isHour 1 = .ok (.aload_n 0, 1) := by decide +kernel
theorem dX8_isHour_2 : decode cX8_isHour 2 = .ok (.getfield 70, 3) := by decide +kernel
theorem dX8_isHour_5 : decode cX8_isHour 5 = .ok (.iconst 3, 1) := by decide +kernel
theorem dX8_isHour_6 : decode cX8_isHour 6 = .ok (.iaload, 1) := by decide +kernel
theorem dX8_isHour_7 : decode cX8_isHour 7 = .ok (.bipush 24, 2) := by decide +kernel
theorem dX8_isHour_9 : decode cX8_isHour 9 = .ok (.irem, 1) := by decide +kernel
theorem dX8_isHour_10 : decode cX8_isHour 10 = .ok (.bipush 12, 2) := by decide +kernel
theorem dX8_isHour_12 : decode cX8_isHour 12 = .ok (.if_icmp .ge 7, 3) := by decide +kernel
theorem dX8_isHour_15 : decode cX8_isHour 15 = .ok (.iconst 0, 1) := by decide +kernel
theorem dX8_isHour_16 : decode cX8_isHour 16 = .ok (.goto 4, 3) := by decide +kernel
theorem dX8_isHour_19 : decode cX8_isHour 19 = .ok (.iconst 1, 1) := by decide +kernel
theorem dX8_isHour_20 : decode cX8_isHour 20 = .ok (.ishr, 1) := by decide +kernel
theorem dX8_isHour_21 : decode cX8_isHour 21 = .ok (.iconst 1, 1) := by decide +kernel
theorem dX8_isHour_22 : decode cX8_isHour 22 = .ok (.iand, 1) := by decide +kernel
theorem dX8_isHour_23 : decode cX8_isHour 23 = .ok (.iconst 1, 1) := by decide +kernel
theorem dX8_isHour_24 : decode cX8_isHour 24 = .ok (.if_icmp .ne 7, 3) := by decide +kernel
theorem dX8_isHour_27 : decode cX8_isHour 27 = .ok (.iconst 1, 1) := by decide +kernel
theorem dX8_isHour_28 : decode cX8_isHour 28 = .ok (.goto 4, 3) := by decide +kernel
theorem dX8_isHour_31 : decode cX8_isHour 31 = .ok (.iconst 0, 1) := by decide +kernel
theorem dX8_isHour_32 : decode cX8_isHour 32 = .ok (.ireturn, 1) := by decide +kernel
theorem dX8_doesAct_0 : decode cX8_doesAct 0 = .ok (.aload_n 0, 1) := by decide +kernel
theorem dX8_doesAct_1 : decode cX8_doesAct 1 = .ok (.getfield 7, 3) := by decide +kernel
theorem dX8_doesAct_4 : decode cX8_doesAct 4 = .ok (.iload_n 1, 1) := by decide +kernel
theorem dX8_doesAct_5 : decode cX8_doesAct 5 = .ok (.iaload, 1) := by decide +kernel
theorem dX8_doesAct_6 : decode cX8_doesAct 6 = .ok (.istore 4, 2) := by decide +kernel
theorem dX8_doesAct_8 : decode cX8_doesAct 8 = .ok (.aload_n 0, 1) := by decide +kernel
theorem dX8_doesAct_9 : decode cX8_doesAct 9 = .ok (.iload 4, 2) := by decide +kernel
theorem dX8_doesAct_11 : decode cX8_doesAct 11 = .ok (.invokevirtual 148, 3) := by decide +kernel
theorem dX8_doesAct_14 : decode cX8_doesAct 14 = .ok (.ifCond .ne 7, 3) := by decide +kernel
theorem dX8_doesAct_17 : decode cX8_doesAct 17 = .ok (.iconst 1, 1) := by decide +kernel
theorem dX8_doesAct_18 : decode cX8_doesAct 18 = .ok (.goto 4, 3) := by decide +kernel
theorem dX8_doesAct_21 : decode cX8_doesAct 21 = .ok (.iconst 0, 1) := by decide +kernel
theorem dX8_doesAct_22 : decode cX8_doesAct 22 = .ok (.istore 5, 2) := by decide +kernel
theorem dX8_doesAct_24 : decode cX8_doesAct 24 = .ok (.aload_n 0, 1) := by decide +kernel
theorem dX8_doesAct_25 : decode cX8_doesAct 25 = .ok (.getfield 13, 3) := by decide +kernel
theorem dX8_doesAct_28 : decode cX8_doesAct 28 = .ok (.iload_n 1, 1) := by decide +kernel
theorem dX8_doesAct_29 : decode cX8_doesAct 29 = .ok (.iaload, 1) := by decide +kernel
theorem dX8_doesAct_30 : decode cX8_doesAct 30 = .ok (.tableswitch 158 1 4 #[86, 30, 158, 127], 30) := by decide +kernel
theorem dX8_doesAct_60 : decode cX8_doesAct 60 = .ok (.aload_n 0, 1) := by decide +kernel
theorem dX8_doesAct_61 : decode cX8_doesAct 61 = .ok (.getfield 19, 3) := by decide +kernel
theorem dX8_doesAct_64 : decode cX8_doesAct 64 = .ok (.iload_n 1, 1) := by decide +kernel
theorem dX8_doesAct_65 : decode cX8_doesAct 65 = .ok (.iaload, 1) := by decide +kernel
theorem dX8_doesAct_66 : decode cX8_doesAct 66 = .ok (.aload_n 0, 1) := by decide +kernel
theorem dX8_doesAct_67 : decode cX8_doesAct 67 = .ok (.getfield 28, 3) := by decide +kernel
theorem dX8_doesAct_70 : decode cX8_doesAct 70 = .ok (.iload_n 2, 1) := by decide +kernel
theorem dX8_doesAct_71 : decode cX8_doesAct 71 = .ok (.iaload, 1) := by decide +kernel
theorem dX8_doesAct_72 : decode cX8_doesAct 72 = .ok (.if_icmp .eq 25, 3) := by decide +kernel
theorem dX8_doesAct_75 : decode cX8_doesAct 75 = .ok (.aload_n 0, 1) := by decide +kernel
theorem dX8_doesAct_76 : decode cX8_doesAct 76 = .ok (.getfield 22, 3) := by decide +kernel
theorem dX8_doesAct_79 : decode cX8_doesAct 79 = .ok (.iload_n 1, 1) := by decide +kernel
theorem dX8_doesAct_80 : decode cX8_doesAct 80 = .ok (.iaload, 1) := by decide +kernel
theorem dX8_doesAct_81 : decode cX8_doesAct 81 = .ok (.iconst 4, 1) := by decide +kernel
theorem dX8_doesAct_82 : decode cX8_doesAct 82 = .ok (.iand, 1) := by decide +kernel
theorem dX8_doesAct_83 : decode cX8_doesAct 83 = .ok (.iconst 4, 1) := by decide +kernel
theorem dX8_doesAct_84 : decode cX8_doesAct 84 = .ok (.if_icmp .ne 30, 3) := by decide +kernel
theorem dX8_doesAct_87 : decode cX8_doesAct 87 = .ok (.aload_n 0, 1) := by decide +kernel
theorem dX8_doesAct_88 : decode cX8_doesAct 88 = .ok (.getfield 19, 3) := by decide +kernel
theorem dX8_doesAct_91 : decode cX8_doesAct 91 = .ok (.iload_n 1, 1) := by decide +kernel
theorem dX8_doesAct_92 : decode cX8_doesAct 92 = .ok (.iaload, 1) := by decide +kernel
theorem dX8_doesAct_93 : decode cX8_doesAct 93 = .ok (.iload_n 3, 1) := by decide +kernel
theorem dX8_doesAct_94 : decode cX8_doesAct 94 = .ok (.if_icmp .ne 20, 3) := by decide +kernel
theorem dX8_doesAct_97 : decode cX8_doesAct 97 = .ok (.aload_n 0, 1) := by decide +kernel
theorem dX8_doesAct_98 : decode cX8_doesAct 98 = .ok (.aload_n 0, 1) := by decide +kernel
theorem dX8_doesAct_99 : decode cX8_doesAct 99 = .ok (.getfield 22, 3) := by decide +kernel
theorem dX8_doesAct_102 : decode cX8_doesAct 102 = .ok (.iload_n 1, 1) := by decide +kernel
theorem dX8_doesAct_103 : decode cX8_doesAct 103 = .ok (.iaload, 1) := by decide +kernel
theorem dX8_doesAct_104 : decode cX8_doesAct 104 = .ok (.invokevirtual 151, 3) := by decide +kernel
theorem dX8_doesAct_107 : decode cX8_doesAct 107 = .ok (.ifCond .eq 7, 3) := by decide +kernel
theorem dX8_doesAct_110 : decode cX8_doesAct 110 = .ok (.iconst 1, 1) := by decide +kernel
theorem dX8_doesAct_111 : decode cX8_doesAct 111 = .ok (.goto 4, 3) := by decide +kernel
theorem dX8_doesAct_114 : decode cX8_doesAct 114 = .ok (.iconst 0, 1) := by decide +kernel
theorem dX8_doesAct_115 : decode cX8_doesAct 115 = .ok (.ireturn, 1) := by decide +kernel
theorem dX8_doesAct_116 : decode cX8_doesAct 116 = .ok (.aload_n 0, 1) := by decide +kernel
theorem dX8_doesAct_117 : decode cX8_doesAct 117 = .ok (.getfield 22, 3) := by decide +kernel
theorem dX8_doesAct_120 : decode cX8_doesAct 120 = .ok (.iload_n 1, 1) := by decide +kernel
theorem dX8_doesAct_121 : decode cX8_doesAct 121 = .ok (.iaload, 1) := by decide +kernel
theorem dX8_doesAct_122 : decode cX8_doesAct 122 = .ok (.ifCond .eq 29, 3) := by decide +kernel
theorem dX8_doesAct_125 : decode cX8_doesAct 125 = .ok (.aload_n 0, 1) := by decide +kernel
theorem dX8_doesAct_126 : decode cX8_doesAct 126 = .ok (.getfield 22, 3) := by decide +kernel
theorem dX8_doesAct_129 : decode cX8_doesAct 129 = .ok (.iload_n 1, 1) := by decide +kernel
theorem dX8_doesAct_130 : decode cX8_doesAct 130 = .ok (.iaload, 1) := by decide +kernel
theorem dX8_doesAct_131 : decode cX8_doesAct 131 = .ok (.iconst 1, 1) := by decide +kernel
theorem dX8_doesAct_132 : decode cX8_doesAct 132 = .ok (.if_icmp .ne 23, 3) := by decide +kernel
theorem dX8_doesAct_135 : decode cX8_doesAct 135 = .ok (.iload 5, 2) := by decide +kernel
theorem dX8_doesAct_137 : decode cX8_doesAct 137 = .ok (.ifCond .ne 14, 3) := by decide +kernel
theorem dX8_doesAct_140 : decode cX8_doesAct 140 = .ok (.iload 4, 2) := by decide +kernel
theorem dX8_doesAct_142 : decode cX8_doesAct 142 = .ok (.aload_n 0, 1) := by decide +kernel
theorem dX8_doesAct_143 : decode cX8_doesAct 143 = .ok (.getfield 28, 3) := by decide +kernel
theorem dX8_doesAct_146 : decode cX8_doesAct 146 = .ok (.iload_n 2, 1) := by decide +kernel
theorem dX8_doesAct_147 : decode cX8_doesAct 147 = .ok (.iaload, 1) := by decide +kernel
theorem dX8_doesAct_148 : decode cX8_doesAct 148 = .ok (.if_icmp .ne 7, 3) := by decide +kernel
theorem dX8_doesAct_151 : decode cX8_doesAct 151 = .ok (.iconst 1, 1) := by decide +kernel
theorem dX8_doesAct_152 : decode cX8_doesAct 152 = .ok (.goto 4, 3) := by decide +kernel
theorem dX8_doesAct_155 : decode cX8_doesAct 155 = .ok (.iconst 0, 1) := by decide +kernel
theorem dX8_doesAct_156 : decode cX8_doesAct 156 = .ok (.ireturn, 1) := by decide +kernel
theorem dX8_doesAct_157 : decode cX8_doesAct 157 = .ok (.iload 5, 2) := by decide +kernel
theorem dX8_doesAct_159 : decode cX8_doesAct 159 = .ok (.ifCond .eq 27, 3) := by decide +kernel
theorem dX8_doesAct_162 : decode cX8_doesAct 162 = .ok (.iload 4, 2) := by decide +kernel
theorem dX8_doesAct_164 : decode cX8_doesAct 164 = .ok (.aload_n 0, 1) := by decide +kernel
theorem dX8_doesAct_165 : decode cX8_doesAct 165 = .ok (.getfield 28, 3) := by decide +kernel
theorem dX8_doesAct_168 : decode cX8_doesAct 168 = .ok (.iload_n 2, 1) := by decide +kernel
theorem dX8_doesAct_169 : decode cX8_doesAct 169 = .ok (.iaload, 1) := by decide +kernel
theorem dX8_doesAct_170 : decode cX8_doesAct 170 = .ok (.if_icmp .eq 16, 3) := by decide +kernel
theorem dX8_doesAct_173 : decode cX8_doesAct 173 = .ok (.aload_n 0, 1) := by decide +kernel
theorem dX8_doesAct_174 : decode cX8_doesAct 174 = .ok (.iload 4, 2) := by decide +kernel
theorem dX8_doesAct_176 : decode cX8_doesAct 176 = .ok (.invokevirtual 154, 3) := by decide +kernel
theorem dX8_doesAct_179 : decode cX8_doesAct 179 = .ok (.ifCond .ge 7, 3) := by decide +kernel
theorem dX8_doesAct_182 : decode cX8_doesAct 182 = .ok (.iconst 1, 1) := by decide +kernel
theorem dX8_doesAct_183 : decode cX8_doesAct 183 = .ok (.goto 4, 3) := by decide +kernel
theorem dX8_doesAct_186 : decode cX8_doesAct 186 = .ok (.iconst 0, 1) := by decide +kernel
theorem dX8_doesAct_187 : decode cX8_doesAct 187 = .ok (.ireturn, 1) := by decide +kernel
theorem dX8_doesAct_188 : decode cX8_doesAct 188 = .ok (.iconst 0, 1) := by decide +kernel
theorem dX8_doesAct_189 : decode cX8_doesAct 189 = .ok (.ireturn, 1) := by decide +kernel
theorem dX8_actsAt_0 : decode cX8_actsAt 0 = .ok (.aload_n 0, 1) := by decide +kernel
theorem dX8_actsAt_1 : decode cX8_actsAt 1 = .ok (.iload_n 2, 1) := by decide +kernel
theorem dX8_actsAt_2 : decode cX8_actsAt 2 = .ok (.iconst (-1), 1) := by decide +kernel
theorem dX8_actsAt_3 : decode cX8_actsAt 3 = .ok (.invokevirtual 157, 3) := by decide +kernel
theorem dX8_actsAt_6 : decode cX8_actsAt 6 = .ok (.istore 4, 2) := by decide +kernel
theorem dX8_actsAt_8 : decode cX8_actsAt 8 = .ok (.iload 4, 2) := by decide +kernel
theorem dX8_actsAt_10 : decode cX8_actsAt 10 = .ok (.ifCond .lt 26, 3) := by decide +kernel
theorem dX8_actsAt_13 : decode cX8_actsAt 13 = .ok (.aload_n 0, 1) := by decide +kernel
theorem dX8_actsAt_14 : decode cX8_actsAt 14 = .ok (.iload 4, 2) := by decide +kernel
theorem dX8_actsAt_16 : decode cX8_actsAt 16 = .ok (.iload_n 1, 1) := by decide +kernel
theorem dX8_actsAt_17 : decode cX8_actsAt 17 = .ok (.iload_n 3, 1) := by decide +kernel
theorem dX8_actsAt_18 : decode cX8_actsAt 18 = .ok (.invokevirtual 161, 3) := by decide +kernel
theorem dX8_actsAt_21 : decode cX8_actsAt 21 = .ok (.ifCond .ne 15, 3) := by decide +kernel
theorem dX8_actsAt_24 : decode cX8_actsAt 24 = .ok (.aload_n 0, 1) := by decide +kernel
theorem dX8_actsAt_25 : decode cX8_actsAt 25 = .ok (.iload_n 2, 1) := by decide +kernel
theorem dX8_actsAt_26 : decode cX8_actsAt 26 = .ok (.iload 4, 2) := by decide +kernel
theorem dX8_actsAt_28 : decode cX8_actsAt 28 = .ok (.invokevirtual 157, 3) := by decide +kernel
theorem dX8_actsAt_31 : decode cX8_actsAt 31 = .ok (.istore 4, 2) := by decide +kernel
theorem dX8_actsAt_33 : decode cX8_actsAt 33 = .ok (.goto (-25), 3) := by decide +kernel
theorem dX8_actsAt_36 : decode cX8_actsAt 36 = .ok (.iload 4, 2) := by decide +kernel
theorem dX8_actsAt_38 : decode cX8_actsAt 38 = .ok (.ireturn, 1) := by decide +kernel
theorem dX8_comesTo_0 : decode cX8_comesTo 0 = .ok (.bipush 9, 2) := by decide +kernel
theorem dX8_comesTo_2 : decode cX8_comesTo 2 = .ok (.iload_n 1, 1) := by decide +kernel
theorem dX8_comesTo_3 : decode cX8_comesTo 3 = .ok (.imul, 1) := by decide +kernel
theorem dX8_comesTo_4 : decode cX8_comesTo 4 = .ok (.aload_n 0, 1) := by decide +kernel
theorem dX8_comesTo_5 : decode cX8_comesTo 5 = .ok (.getfield 37, 3) := by decide +kernel
theorem dX8_comesTo_8 : decode cX8_comesTo 8 = .ok (.iload_n 1, 1) := by decide +kernel
theorem dX8_comesTo_9 : decode cX8_comesTo 9 = .ok (.iaload, 1) := by decide +kernel
theorem dX8_comesTo_10 : decode cX8_comesTo 10 = .ok (.iadd, 1) := by decide +kernel
theorem dX8_comesTo_11 : decode cX8_comesTo 11 = .ok (.istore 4, 2) := by decide +kernel
theorem dX8_comesTo_13 : decode cX8_comesTo 13 = .ok (.aload_n 0, 1) := by decide +kernel
theorem dX8_comesTo_14 : decode cX8_comesTo 14 = .ok (.getfield 40, 3) := by decide +kernel
theorem dX8_comesTo_17 : decode cX8_comesTo 17 = .ok (.iload 4, 2) := by decide +kernel
theorem dX8_comesTo_19 : decode cX8_comesTo 19 = .ok (.iload_n 2, 1) := by decide +kernel
theorem dX8_comesTo_20 : decode cX8_comesTo 20 = .ok (.iastore, 1) := by decide +kernel
theorem dX8_comesTo_21 : decode cX8_comesTo 21 = .ok (.aload_n 0, 1) := by decide +kernel
theorem dX8_comesTo_22 : decode cX8_comesTo 22 = .ok (.getfield 43, 3) := by decide +kernel
theorem dX8_comesTo_25 : decode cX8_comesTo 25 = .ok (.iload 4, 2) := by decide +kernel
theorem dX8_comesTo_27 : decode cX8_comesTo 27 = .ok (.aload_n 0, 1) := by decide +kernel
theorem dX8_comesTo_28 : decode cX8_comesTo 28 = .ok (.getfield 37, 3) := by decide +kernel
theorem dX8_comesTo_31 : decode cX8_comesTo 31 = .ok (.iload_n 1, 1) := by decide +kernel
theorem dX8_comesTo_32 : decode cX8_comesTo 32 = .ok (.iaload, 1) := by decide +kernel
theorem dX8_comesTo_33 : decode cX8_comesTo 33 = .ok (.ifCond .ne 17, 3) := by decide +kernel
theorem dX8_comesTo_36 : decode cX8_comesTo 36 = .ok (.aload_n 0, 1) := by decide +kernel
theorem dX8_comesTo_37 : decode cX8_comesTo 37 = .ok (.iload_n 2, 1) := by decide +kernel
theorem dX8_comesTo_38 : decode cX8_comesTo 38 = .ok (.bipush 7, 2) := by decide +kernel
theorem dX8_comesTo_40 : decode cX8_comesTo 40 = .ok (.invokevirtual 165, 3) := by decide +kernel
theorem dX8_comesTo_43 : decode cX8_comesTo 43 = .ok (.ifCond .eq 7, 3) := by decide +kernel
theorem dX8_comesTo_46 : decode cX8_comesTo 46 = .ok (.iload_n 2, 1) := by decide +kernel
theorem dX8_comesTo_47 : decode cX8_comesTo 47 = .ok (.goto 4, 3) := by decide +kernel
theorem dX8_comesTo_50 : decode cX8_comesTo 50 = .ok (.iload_n 3, 1) := by decide +kernel
theorem dX8_comesTo_51 : decode cX8_comesTo 51 = .ok (.iastore, 1) := by decide +kernel
theorem dX8_comesTo_52 : decode cX8_comesTo 52 = .ok (.aload_n 0, 1) := by decide +kernel
theorem dX8_comesTo_53 : decode cX8_comesTo 53 = .ok (.getfield 37, 3) := by decide +kernel
theorem dX8_comesTo_56 : decode cX8_comesTo 56 = .ok (.iload_n 1, 1) := by decide +kernel
theorem dX8_comesTo_57 : decode cX8_comesTo 57 = .ok (.dup2, 1) := by decide +kernel
theorem dX8_comesTo_58 : decode cX8_comesTo 58 = .ok (.iaload, 1) := by decide +kernel
theorem dX8_comesTo_59 : decode cX8_comesTo 59 = .ok (.iconst 1, 1) := by decide +kernel
theorem dX8_comesTo_60 : decode cX8_comesTo 60 = .ok (.iadd, 1) := by decide +kernel
theorem dX8_comesTo_61 : decode cX8_comesTo 61 = .ok (.iastore, 1) := by decide +kernel
theorem dX8_comesTo_62 : decode cX8_comesTo 62 = .ok (.return_, 1) := by decide +kernel
theorem dX8_goes_0 : decode cX8_goes 0 = .ok (.iload_n 2, 1) := by decide +kernel
theorem dX8_goes_1 : decode cX8_goes 1 = .ok (.istore 4, 2) := by decide +kernel
theorem dX8_goes_3 : decode cX8_goes 3 = .ok (.iload_n 3, 1) := by decide +kernel
theorem dX8_goes_4 : decode cX8_goes 4 = .ok (.istore 5, 2) := by decide +kernel
theorem dX8_goes_6 : decode cX8_goes 6 = .ok (.aload_n 0, 1) := by decide +kernel
theorem dX8_goes_7 : decode cX8_goes 7 = .ok (.iload_n 1, 1) := by decide +kernel
theorem dX8_goes_8 : decode cX8_goes 8 = .ok (.iload 4, 2) := by decide +kernel
theorem dX8_goes_10 : decode cX8_goes 10 = .ok (.invokevirtual 169, 3) := by decide +kernel
theorem dX8_goes_13 : decode cX8_goes 13 = .ok (.ifCond .ne 23, 3) := by decide +kernel
theorem dX8_goes_16 : decode cX8_goes 16 = .ok (.iload 4, 2) := by decide +kernel
theorem dX8_goes_18 : decode cX8_goes 18 = .ok (.aload_n 0, 1) := by decide +kernel
theorem dX8_goes_19 : decode cX8_goes 19 = .ok (.getfield 28, 3) := by decide +kernel
theorem dX8_goes_22 : decode cX8_goes 22 = .ok (.iload_n 1, 1) := by decide +kernel
theorem dX8_goes_23 : decode cX8_goes 23 = .ok (.iaload, 1) := by decide +kernel
theorem dX8_goes_24 : decode cX8_goes 24 = .ok (.if_icmp .ne 19, 3) := by decide +kernel
theorem dX8_goes_27 : decode cX8_goes 27 = .ok (.aload_n 0, 1) := by decide +kernel
theorem dX8_goes_28 : decode cX8_goes 28 = .ok (.getfield 37, 3) := by decide +kernel
theorem dX8_goes_31 : decode cX8_goes 31 = .ok (.iload_n 1, 1) := by decide +kernel
theorem dX8_goes_32 : decode cX8_goes 32 = .ok (.iaload, 1) := by decide +kernel
theorem dX8_goes_33 : decode cX8_goes 33 = .ok (.ifCond .le 10, 3) := by decide +kernel
theorem dX8_goes_36 : decode cX8_goes 36 = .ok (.aload_n 0, 1) := by decide +kernel
theorem dX8_goes_37 : decode cX8_goes 37 = .ok (.iload_n 1, 1) := by decide +kernel
theorem dX8_goes_38 : decode cX8_goes 38 = .ok (.iconst 2, 1) := by decide +kernel
theorem dX8_goes_39 : decode cX8_goes 39 = .ok (.invokevirtual 172, 3) := by decide +kernel
theorem dX8_goes_42 : decode cX8_goes 42 = .ok (.return_, 1) := by decide +kernel
theorem dX8_goes_43 : decode cX8_goes 43 = .ok (.aload_n 0, 1) := by decide +kernel
theorem dX8_goes_44 : decode cX8_goes 44 = .ok (.iload_n 1, 1) := by decide +kernel
theorem dX8_goes_45 : decode cX8_goes 45 = .ok (.iload 4, 2) := by decide +kernel
theorem dX8_goes_47 : decode cX8_goes 47 = .ok (.iload 5, 2) := by decide +kernel
theorem dX8_goes_49 : decode cX8_goes 49 = .ok (.invokevirtual 176, 3) := by decide +kernel
theorem dX8_goes_52 : decode cX8_goes 52 = .ok (.aload_n 0, 1) := by decide +kernel
theorem dX8_goes_53 : decode cX8_goes 53 = .ok (.iload_n 1, 1) := by decide +kernel
theorem dX8_goes_54 : decode cX8_goes 54 = .ok (.iload 4, 2) := by decide +kernel
theorem dX8_goes_56 : decode cX8_goes 56 = .ok (.iload 5, 2) := by decide +kernel
theorem dX8_goes_58 : decode cX8_goes 58 = .ok (.invokevirtual 180, 3) := by decide +kernel
theorem dX8_goes_61 : decode cX8_goes 61 = .ok (.istore 6, 2) := by decide +kernel
theorem dX8_goes_63 : decode cX8_goes 63 = .ok (.iload 6, 2) := by decide +kernel
theorem dX8_goes_65 : decode cX8_goes 65 = .ok (.ifCond .ge 11, 3) := by decide +kernel
theorem dX8_goes_68 : decode cX8_goes 68 = .ok (.aload_n 0, 1) := by decide +kernel
theorem dX8_goes_69 : decode cX8_goes 69 = .ok (.iload_n 1, 1) := by decide +kernel
theorem dX8_goes_70 : decode cX8_goes 70 = .ok (.iload 4, 2) := by decide +kernel
theorem dX8_goes_72 : decode cX8_goes 72 = .ok (.invokevirtual 184, 3) := by decide +kernel
theorem dX8_goes_75 : decode cX8_goes 75 = .ok (.return_, 1) := by decide +kernel
theorem dX8_goes_76 : decode cX8_goes 76 = .ok (.aload_n 0, 1) := by decide +kernel
theorem dX8_goes_77 : decode cX8_goes 77 = .ok (.iload_n 1, 1) := by decide +kernel
theorem dX8_goes_78 : decode cX8_goes 78 = .ok (.iload 6, 2) := by decide +kernel
theorem dX8_goes_80 : decode cX8_goes 80 = .ok (.invokevirtual 187, 3) := by decide +kernel
theorem dX8_goes_83 : decode cX8_goes 83 = .ok (.aload_n 0, 1) := by decide +kernel
theorem dX8_goes_84 : decode cX8_goes 84 = .ok (.getfield 13, 3) := by decide +kernel
theorem dX8_goes_87 : decode cX8_goes 87 = .ok (.iload 6, 2) := by decide +kernel
theorem dX8_goes_89 : decode cX8_goes 89 = .ok (.iaload, 1) := by decide +kernel
theorem dX8_goes_90 : decode cX8_goes 90 = .ok (.iconst 2, 1) := by decide +kernel
theorem dX8_goes_91 : decode cX8_goes 91 = .ok (.if_icmp .ne 10, 3) := by decide +kernel
theorem dX8_goes_94 : decode cX8_goes 94 = .ok (.aload_n 0, 1) := by decide +kernel
theorem dX8_goes_95 : decode cX8_goes 95 = .ok (.iload_n 1, 1) := by decide +kernel
theorem dX8_goes_96 : decode cX8_goes 96 = .ok (.iconst 1, 1) := by decide +kernel
theorem dX8_goes_97 : decode cX8_goes 97 = .ok (.invokevirtual 172, 3) := by decide +kernel
theorem dX8_goes_100 : decode cX8_goes 100 = .ok (.return_, 1) := by decide +kernel
theorem dX8_goes_101 : decode cX8_goes 101 = .ok (.aload_n 0, 1) := by decide +kernel
theorem dX8_goes_102 : decode cX8_goes 102 = .ok (.getfield 13, 3) := by decide +kernel
theorem dX8_goes_105 : decode cX8_goes 105 = .ok (.iload 6, 2) := by decide +kernel
theorem dX8_goes_107 : decode cX8_goes 107 = .ok (.iaload, 1) := by decide +kernel
theorem dX8_goes_108 : decode cX8_goes 108 = .ok (.iconst 4, 1) := by decide +kernel
theorem dX8_goes_109 : decode cX8_goes 109 = .ok (.if_icmp .ne 26, 3) := by decide +kernel
theorem dX8_goes_112 : decode cX8_goes 112 = .ok (.aload_n 0, 1) := by decide +kernel
theorem dX8_goes_113 : decode cX8_goes 113 = .ok (.getfield 31, 3) := by decide +kernel
theorem dX8_goes_116 : decode cX8_goes 116 = .ok (.iload_n 1, 1) := by decide +kernel
theorem dX8_goes_117 : decode cX8_goes 117 = .ok (.iconst 2, 1) := by decide +kernel
theorem dX8_goes_118 : decode cX8_goes 118 = .ok (.iastore, 1) := by decide +kernel
theorem dX8_goes_119 : decode cX8_goes 119 = .ok (.aload_n 0, 1) := by decide +kernel
theorem dX8_goes_120 : decode cX8_goes 120 = .ok (.getfield 46, 3) := by decide +kernel
theorem dX8_goes_123 : decode cX8_goes 123 = .ok (.iload_n 1, 1) := by decide +kernel
theorem dX8_goes_124 : decode cX8_goes 124 = .ok (.iconst 0, 1) := by decide +kernel
theorem dX8_goes_125 : decode cX8_goes 125 = .ok (.iastore, 1) := by decide +kernel
theorem dX8_goes_126 : decode cX8_goes 126 = .ok (.aload_n 0, 1) := by decide +kernel
theorem dX8_goes_127 : decode cX8_goes 127 = .ok (.getfield 49, 3) := by decide +kernel
theorem dX8_goes_130 : decode cX8_goes 130 = .ok (.iload_n 1, 1) := by decide +kernel
theorem dX8_goes_131 : decode cX8_goes 131 = .ok (.iload 4, 2) := by decide +kernel
theorem dX8_goes_133 : decode cX8_goes 133 = .ok (.iastore, 1) := by decide +kernel
theorem dX8_goes_134 : decode cX8_goes 134 = .ok (.return_, 1) := by decide +kernel
theorem dX8_goes_135 : decode cX8_goes 135 = .ok (.iload 4, 2) := by decide +kernel
theorem dX8_goes_137 : decode cX8_goes 137 = .ok (.istore 5, 2) := by decide +kernel
theorem dX8_goes_139 : decode cX8_goes 139 = .ok (.aload_n 0, 1) := by decide +kernel
theorem dX8_goes_140 : decode cX8_goes 140 = .ok (.getfield 19, 3) := by decide +kernel
theorem dX8_goes_143 : decode cX8_goes 143 = .ok (.iload 6, 2) := by decide +kernel
theorem dX8_goes_145 : decode cX8_goes 145 = .ok (.iaload, 1) := by decide +kernel
theorem dX8_goes_146 : decode cX8_goes 146 = .ok (.istore 4, 2) := by decide +kernel
theorem dX8_goes_148 : decode cX8_goes 148 = .ok (.goto (-142), 3) := by decide +kernel
theorem dX8_arrives_0 : decode cX8_arrives 0 = .ok (.aload_n 0, 1) := by decide +kernel
theorem dX8_arrives_1 : decode cX8_arrives 1 = .ok (.iload_n 2, 1) := by decide +kernel
theorem dX8_arrives_2 : decode cX8_arrives 2 = .ok (.invokevirtual 148, 3) := by decide +kernel
theorem dX8_arrives_5 : decode cX8_arrives 5 = .ok (.ifCond .eq 132, 3) := by decide +kernel
theorem dX8_arrives_8 : decode cX8_arrives 8 = .ok (.iload_n 2, 1) := by decide +kernel
theorem dX8_arrives_9 : decode cX8_arrives 9 = .ok (.aload_n 0, 1) := by decide +kernel
theorem dX8_arrives_10 : decode cX8_arrives 10 = .ok (.getfield 28, 3) := by decide +kernel
theorem dX8_arrives_13 : decode cX8_arrives 13 = .ok (.iload_n 1, 1) := by decide +kernel
theorem dX8_arrives_14 : decode cX8_arrives 14 = .ok (.iaload, 1) := by decide +kernel
theorem dX8_arrives_15 : decode cX8_arrives 15 = .ok (.if_icmp .eq 122, 3) := by decide +kernel
theorem dX8_arrives_18 : decode cX8_arrives 18 = .ok (.iconst 1, 1) := by decide +kernel
theorem dX8_arrives_19 : decode cX8_arrives 19 = .ok (.iload_n 2, 1) := by decide +kernel
theorem dX8_arrives_20 : decode cX8_arrives 20 = .ok (.ishl, 1) := by decide +kernel
theorem dX8_arrives_21 : decode cX8_arrives 21 = .ok (.istore_n 3, 1) := by decide +kernel
theorem dX8_arrives_22 : decode cX8_arrives 22 = .ok (.iconst 0, 1) := by decide +kernel
theorem dX8_arrives_23 : decode cX8_arrives 23 = .ok (.istore 4, 2) := by decide +kernel
theorem dX8_arrives_25 : decode cX8_arrives 25 = .ok (.iload 4, 2) := by decide +kernel
theorem dX8_arrives_27 : decode cX8_arrives 27 = .ok (.aload_n 0, 1) := by decide +kernel
theorem dX8_arrives_28 : decode cX8_arrives 28 = .ok (.getfield 70, 3) := by decide +kernel
theorem dX8_arrives_31 : decode cX8_arrives 31 = .ok (.iconst 1, 1) := by decide +kernel
theorem dX8_arrives_32 : decode cX8_arrives 32 = .ok (.iaload, 1) := by decide +kernel
theorem dX8_arrives_33 : decode cX8_arrives 33 = .ok (.if_icmp .ge 97, 3) := by decide +kernel
theorem dX8_arrives_36 : decode cX8_arrives 36 = .ok (.aload_n 0, 1) := by decide +kernel
theorem dX8_arrives_37 : decode cX8_arrives 37 = .ok (.getfield 7, 3) := by decide +kernel
theorem dX8_arrives_40 : decode cX8_arrives 40 = .ok (.iload 4, 2) := by decide +kernel
theorem dX8_arrives_42 : decode cX8_arrives 42 = .ok (.iaload, 1) := by decide +kernel
theorem dX8_arrives_43 : decode cX8_arrives 43 = .ok (.iload_n 2, 1) := by decide +kernel
theorem dX8_arrives_44 : decode cX8_arrives 44 = .ok (.if_icmp .ne 30, 3) := by decide +kernel
theorem dX8_arrives_47 : decode cX8_arrives 47 = .ok (.aload_n 0, 1) := by decide +kernel
theorem dX8_arrives_48 : decode cX8_arrives 48 = .ok (.getfield 13, 3) := by decide +kernel
theorem dX8_arrives_51 : decode cX8_arrives 51 = .ok (.iload 4, 2) := by decide +kernel
theorem dX8_arrives_53 : decode cX8_arrives 53 = .ok (.iaload, 1) := by decide +kernel
theorem dX8_arrives_54 : decode cX8_arrives 54 = .ok (.bipush 6, 2) := by decide +kernel
theorem dX8_arrives_56 : decode cX8_arrives 56 = .ok (.if_icmp .ne 18, 3) := by decide +kernel
theorem dX8_arrives_59 : decode cX8_arrives 59 = .ok (.aload_n 0, 1) := by decide +kernel
theorem dX8_arrives_60 : decode cX8_arrives 60 = .ok (.getfield 25, 3) := by decide +kernel
theorem dX8_arrives_63 : decode cX8_arrives 63 = .ok (.iload 4, 2) := by decide +kernel
theorem dX8_arrives_65 : decode cX8_arrives 65 = .ok (.iaload, 1) := by decide +kernel
theorem dX8_arrives_66 : decode cX8_arrives 66 = .ok (.iconst 1, 1) := by decide +kernel
theorem dX8_arrives_67 : decode cX8_arrives 67 = .ok (.if_icmp .ne 7, 3) := by decide +kernel
theorem dX8_arrives_70 : decode cX8_arrives 70 = .ok (.iconst 1, 1) := by decide +kernel
theorem dX8_arrives_71 : decode cX8_arrives 71 = .ok (.goto 4, 3) := by decide +kernel
theorem dX8_arrives_74 : decode cX8_arrives 74 = .ok (.iconst 0, 1) := by decide +kernel
theorem dX8_arrives_75 : decode cX8_arrives 75 = .ok (.istore 5, 2) := by decide +kernel
theorem dX8_arrives_77 : decode cX8_arrives 77 = .ok (.iload 5, 2) := by decide +kernel
theorem dX8_arrives_79 : decode cX8_arrives 79 = .ok (.ifCond .eq 45, 3) := by decide +kernel
theorem dX8_arrives_82 : decode cX8_arrives 82 = .ok (.aload_n 0, 1) := by decide +kernel
theorem dX8_arrives_83 : decode cX8_arrives 83 = .ok (.aload_n 0, 1) := by decide +kernel
theorem dX8_arrives_84 : decode cX8_arrives 84 = .ok (.getfield 19, 3) := by decide +kernel
theorem dX8_arrives_87 : decode cX8_arrives 87 = .ok (.iload 4, 2) := by decide +kernel
theorem dX8_arrives_89 : decode cX8_arrives 89 = .ok (.iaload, 1) := by decide +kernel
theorem dX8_arrives_90 : decode cX8_arrives 90 = .ok (.invokevirtual 148, 3) := by decide +kernel
theorem dX8_arrives_93 : decode cX8_arrives 93 = .ok (.ifCond .eq 31, 3) := by decide +kernel
theorem dX8_arrives_96 : decode cX8_arrives 96 = .ok (.aload_n 0, 1) := by decide +kernel
theorem dX8_arrives_97 : decode cX8_arrives 97 = .ok (.getfield 19, 3) := by decide +kernel
theorem dX8_arrives_100 : decode cX8_arrives 100 = .ok (.iload 4, 2) := by decide +kernel
theorem dX8_arrives_102 : decode cX8_arrives 102 = .ok (.iaload, 1) := by decide +kernel
theorem dX8_arrives_103 : decode cX8_arrives 103 = .ok (.aload_n 0, 1) := by decide +kernel
theorem dX8_arrives_104 : decode cX8_arrives 104 = .ok (.getfield 28, 3) := by decide +kernel
theorem dX8_arrives_107 : decode cX8_arrives 107 = .ok (.iload_n 1, 1) := by decide +kernel
theorem dX8_arrives_108 : decode cX8_arrives 108 = .ok (.iaload, 1) := by decide +kernel
theorem dX8_arrives_109 : decode cX8_arrives 109 = .ok (.if_icmp .eq 15, 3) := by decide +kernel
theorem dX8_arrives_112 : decode cX8_arrives 112 = .ok (.iload_n 3, 1) := by decide +kernel
theorem dX8_arrives_113 : decode cX8_arrives 113 = .ok (.iconst 1, 1) := by decide +kernel
theorem dX8_arrives_114 : decode cX8_arrives 114 = .ok (.aload_n 0, 1) := by decide +kernel
theorem dX8_arrives_115 : decode cX8_arrives 115 = .ok (.getfield 19, 3) := by decide +kernel
theorem dX8_arrives_118 : decode cX8_arrives 118 = .ok (.iload 4, 2) := by decide +kernel
theorem dX8_arrives_120 : decode cX8_arrives 120 = .ok (.iaload, 1) := by decide +kernel
theorem dX8_arrives_121 : decode cX8_arrives 121 = .ok (.ishl, 1) := by decide +kernel
theorem dX8_arrives_122 : decode cX8_arrives 122 = .ok (.ior, 1) := by decide +kernel
theorem dX8_arrives_123 : decode cX8_arrives 123 = .ok (.istore_n 3, 1) := by decide +kernel
theorem dX8_arrives_124 : decode cX8_arrives 124 = .ok (.iinc 4 1, 3) := by decide +kernel
theorem dX8_arrives_127 : decode cX8_arrives 127 = .ok (.goto (-102), 3) := by decide +kernel
theorem dX8_arrives_130 : decode cX8_arrives 130 = .ok (.aload_n 0, 1) := by decide +kernel
theorem dX8_arrives_131 : decode cX8_arrives 131 = .ok (.iload_n 1, 1) := by decide +kernel
theorem dX8_arrives_132 : decode cX8_arrives 132 = .ok (.iload_n 3, 1) := by decide +kernel
theorem dX8_arrives_133 : decode cX8_arrives 133 = .ok (.invokevirtual 190, 3) := by decide +kernel
theorem dX8_arrives_136 : decode cX8_arrives 136 = .ok (.return_, 1) := by decide +kernel
theorem dX8_arrives_137 : decode cX8_arrives 137 = .ok (.aload_n 0, 1) := by decide +kernel
theorem dX8_arrives_138 : decode cX8_arrives 138 = .ok (.iload_n 1, 1) := by decide +kernel
theorem dX8_arrives_139 : decode cX8_arrives 139 = .ok (.iconst 3, 1) := by decide +kernel
theorem dX8_arrives_140 : decode cX8_arrives 140 = .ok (.invokevirtual 172, 3) := by decide +kernel
theorem dX8_arrives_143 : decode cX8_arrives 143 = .ok (.iconst 0, 1) := by decide +kernel
theorem dX8_arrives_144 : decode cX8_arrives 144 = .ok (.istore_n 3, 1) := by decide +kernel
theorem dX8_arrives_145 : decode cX8_arrives 145 = .ok (.iload_n 3, 1) := by decide +kernel
theorem dX8_arrives_146 : decode cX8_arrives 146 = .ok (.aload_n 0, 1) := by decide +kernel
theorem dX8_arrives_147 : decode cX8_arrives 147 = .ok (.getfield 70, 3) := by decide +kernel
theorem dX8_arrives_150 : decode cX8_arrives 150 = .ok (.iconst 1, 1) := by decide +kernel
theorem dX8_arrives_151 : decode cX8_arrives 151 = .ok (.iaload, 1) := by decide +kernel
theorem dX8_arrives_152 : decode cX8_arrives 152 = .ok (.if_icmp .ge 55, 3) := by decide +kernel
theorem dX8_arrives_155 : decode cX8_arrives 155 = .ok (.aload_n 0, 1) := by decide +kernel
theorem dX8_arrives_156 : decode cX8_arrives 156 = .ok (.getfield 7, 3) := by decide +kernel
theorem dX8_arrives_159 : decode cX8_arrives 159 = .ok (.iload_n 3, 1) := by decide +kernel
theorem dX8_arrives_160 : decode cX8_arrives 160 = .ok (.iaload, 1) := by decide +kernel
theorem dX8_arrives_161 : decode cX8_arrives 161 = .ok (.aload_n 0, 1) := by decide +kernel
theorem dX8_arrives_162 : decode cX8_arrives 162 = .ok (.getfield 28, 3) := by decide +kernel
theorem dX8_arrives_165 : decode cX8_arrives 165 = .ok (.iload_n 1, 1) := by decide +kernel
theorem dX8_arrives_166 : decode cX8_arrives 166 = .ok (.iaload, 1) := by decide +kernel
theorem dX8_arrives_167 : decode cX8_arrives 167 = .ok (.if_icmp .ne 34, 3) := by decide +kernel
theorem dX8_arrives_170 : decode cX8_arrives 170 = .ok (.aload_n 0, 1) := by decide +kernel
theorem dX8_arrives_171 : decode cX8_arrives 171 = .ok (.getfield 13, 3) := by decide +kernel
theorem dX8_arrives_174 : decode cX8_arrives 174 = .ok (.iload_n 3, 1) := by decide +kernel
theorem dX8_arrives_175 : decode cX8_arrives 175 = .ok (.iaload, 1) := by decide +kernel
theorem dX8_arrives_176 : decode cX8_arrives 176 = .ok (.iconst 5, 1) := by decide +kernel
theorem dX8_arrives_177 : decode cX8_arrives 177 = .ok (.if_icmp .ne 24, 3) := by decide +kernel
theorem dX8_arrives_180 : decode cX8_arrives 180 = .ok (.aload_n 0, 1) := by decide +kernel
theorem dX8_arrives_181 : decode cX8_arrives 181 = .ok (.getfield 25, 3) := by decide +kernel
theorem dX8_arrives_184 : decode cX8_arrives 184 = .ok (.iload_n 3, 1) := by decide +kernel
theorem dX8_arrives_185 : decode cX8_arrives 185 = .ok (.iaload, 1) := by decide +kernel
theorem dX8_arrives_186 : decode cX8_arrives 186 = .ok (.iconst 1, 1) := by decide +kernel
theorem dX8_arrives_187 : decode cX8_arrives 187 = .ok (.if_icmp .ne 14, 3) := by decide +kernel
theorem dX8_arrives_190 : decode cX8_arrives 190 = .ok (.aload_n 0, 1) := by decide +kernel
theorem dX8_arrives_191 : decode cX8_arrives 191 = .ok (.aload_n 0, 1) := by decide +kernel
theorem dX8_arrives_192 : decode cX8_arrives 192 = .ok (.getfield 28, 3) := by decide +kernel
theorem dX8_arrives_195 : decode cX8_arrives 195 = .ok (.iload_n 1, 1) := by decide +kernel
theorem dX8_arrives_196 : decode cX8_arrives 196 = .ok (.iaload, 1) := by decide +kernel
theorem dX8_arrives_197 : decode cX8_arrives 197 = .ok (.iload_n 2, 1) := by decide +kernel
theorem dX8_arrives_198 : decode cX8_arrives 198 = .ok (.invokevirtual 193, 3) := by decide +kernel
theorem dX8_arrives_201 : decode cX8_arrives 201 = .ok (.iinc 3 1, 3) := by decide +kernel
theorem dX8_arrives_204 : decode cX8_arrives 204 = .ok (.goto (-59), 3) := by decide +kernel
theorem dX8_arrives_207 : decode cX8_arrives 207 = .ok (.return_, 1) := by decide +kernel
theorem dX8_wishesBack_0 : decode cX8_wishesBack 0 = .ok (.aload_n 0, 1) := by decide +kernel
theorem dX8_wishesBack_1 : decode cX8_wishesBack 1 = .ok (.getfield 70, 3) := by decide +kernel
theorem dX8_wishesBack_4 : decode cX8_wishesBack 4 = .ok (.iconst 4, 1) := by decide +kernel
theorem dX8_wishesBack_5 : decode cX8_wishesBack 5 = .ok (.iaload, 1) := by decide +kernel
theorem dX8_wishesBack_6 : decode cX8_wishesBack 6 = .ok (.bipush 8, 2) := by decide +kernel
theorem dX8_wishesBack_8 : decode cX8_wishesBack 8 = .ok (.if_icmp .ne 4, 3) := by decide +kernel
theorem dX8_wishesBack_11 : decode cX8_wishesBack 11 = .ok (.return_, 1) := by decide +kernel
theorem dX8_wishesBack_12 : decode cX8_wishesBack 12 = .ok (.iconst 0, 1) := by decide +kernel
theorem dX8_wishesBack_13 : decode cX8_wishesBack 13 = .ok (.istore_n 3, 1) := by decide +kernel
theorem dX8_wishesBack_14 : decode cX8_wishesBack 14 = .ok (.iload_n 3, 1) := by decide +kernel
theorem dX8_wishesBack_15 : decode cX8_wishesBack 15 = .ok (.aload_n 0, 1) := by decide +kernel
theorem dX8_wishesBack_16 : decode cX8_wishesBack 16 = .ok (.getfield 70, 3) := by decide +kernel
theorem dX8_wishesBack_19 : decode cX8_wishesBack 19 = .ok (.iconst 4, 1) := by decide +kernel
theorem dX8_wishesBack_20 : decode cX8_wishesBack 20 = .ok (.iaload, 1) := by decide +kernel
theorem dX8_wishesBack_21 : decode cX8_wishesBack 21 = .ok (.if_icmp .ge 30, 3) := by decide +kernel
theorem dX8_wishesBack_24 : decode cX8_wishesBack 24 = .ok (.aload_n 0, 1) := by decide +kernel
theorem dX8_wishesBack_25 : decode cX8_wishesBack 25 = .ok (.getfield 61, 3) := by decide +kernel
theorem dX8_wishesBack_28 : decode cX8_wishesBack 28 = .ok (.iload_n 3, 1) := by decide +kernel
theorem dX8_wishesBack_29 : decode cX8_wishesBack 29 = .ok (.iaload, 1) := by decide +kernel
theorem dX8_wishesBack_30 : decode cX8_wishesBack 30 = .ok (.iload_n 1, 1) := by decide +kernel
theorem dX8_wishesBack_31 : decode cX8_wishesBack 31 = .ok (.if_icmp .ne 14, 3) := by decide +kernel
theorem dX8_wishesBack_34 : decode cX8_wishesBack 34 = .ok (.aload_n 0, 1) := by decide +kernel
theorem dX8_wishesBack_35 : decode cX8_wishesBack 35 = .ok (.getfield 64, 3) := by decide +kernel
theorem dX8_wishesBack_38 : decode cX8_wishesBack 38 = .ok (.iload_n 3, 1) := by decide +kernel
theorem dX8_wishesBack_39 : decode cX8_wishesBack 39 = .ok (.iaload, 1) := by decide +kernel
theorem dX8_wishesBack_40 : decode cX8_wishesBack 40 = .ok (.iload_n 2, 1) := by decide +kernel
theorem dX8_wishesBack_41 : decode cX8_wishesBack 41 = .ok (.if_icmp .ne 4, 3) := by decide +kernel
theorem dX8_wishesBack_44 : decode cX8_wishesBack 44 = .ok (.return_, 1) := by decide +kernel
theorem dX8_wishesBack_45 : decode cX8_wishesBack 45 = .ok (.iinc 3 1, 3) := by decide +kernel
theorem dX8_wishesBack_48 : decode cX8_wishesBack 48 = .ok (.goto (-34), 3) := by decide +kernel
theorem dX8_wishesBack_51 : decode cX8_wishesBack 51 = .ok (.aload_n 0, 1) := by decide +kernel
theorem dX8_wishesBack_52 : decode cX8_wishesBack 52 = .ok (.getfield 61, 3) := by decide +kernel
theorem dX8_wishesBack_55 : decode cX8_wishesBack 55 = .ok (.aload_n 0, 1) := by decide +kernel
theorem dX8_wishesBack_56 : decode cX8_wishesBack 56 = .ok (.getfield 70, 3) := by decide +kernel
theorem dX8_wishesBack_59 : decode cX8_wishesBack 59 = .ok (.iconst 4, 1) := by decide +kernel
theorem dX8_wishesBack_60 : decode cX8_wishesBack 60 = .ok (.iaload, 1) := by decide +kernel
theorem dX8_wishesBack_61 : decode cX8_wishesBack 61 = .ok (.iload_n 1, 1) := by decide +kernel
theorem dX8_wishesBack_62 : decode cX8_wishesBack 62 = .ok (.iastore, 1) := by decide +kernel
theorem dX8_wishesBack_63 : decode cX8_wishesBack 63 = .ok (.aload_n 0, 1) := by decide +kernel
theorem dX8_wishesBack_64 : decode cX8_wishesBack 64 = .ok (.getfield 64, 3) := by decide +kernel
theorem dX8_wishesBack_67 : decode cX8_wishesBack 67 = .ok (.aload_n 0, 1) := by decide +kernel
theorem dX8_wishesBack_68 : decode cX8_wishesBack 68 = .ok (.getfield 70, 3) := by decide +kernel
theorem dX8_wishesBack_71 : decode cX8_wishesBack 71 = .ok (.iconst 4, 1) := by decide +kernel
theorem dX8_wishesBack_72 : decode cX8_wishesBack 72 = .ok (.iaload, 1) := by decide +kernel
theorem dX8_wishesBack_73 : decode cX8_wishesBack 73 = .ok (.iload_n 2, 1) := by decide +kernel
theorem dX8_wishesBack_74 : decode cX8_wishesBack 74 = .ok (.iastore, 1) := by decide +kernel
theorem dX8_wishesBack_75 : decode cX8_wishesBack 75 = .ok (.aload_n 0, 1) := by decide +kernel
theorem dX8_wishesBack_76 : decode cX8_wishesBack 76 = .ok (.getfield 70, 3) := by decide +kernel
theorem dX8_wishesBack_79 : decode cX8_wishesBack 79 = .ok (.iconst 4, 1) := by decide +kernel
theorem dX8_wishesBack_80 : decode cX8_wishesBack 80 = .ok (.dup2, 1) := by decide +kernel
theorem dX8_wishesBack_81 : decode cX8_wishesBack 81 = .ok (.iaload, 1) := by decide +kernel
theorem dX8_wishesBack_82 : decode cX8_wishesBack 82 = .ok (.iconst 1, 1) := by decide +kernel
theorem dX8_wishesBack_83 : decode cX8_wishesBack 83 = .ok (.iadd, 1) := by decide +kernel
theorem dX8_wishesBack_84 : decode cX8_wishesBack 84 = .ok (.iastore, 1) := by decide +kernel
theorem dX8_wishesBack_85 : decode cX8_wishesBack 85 = .ok (.return_, 1) := by decide +kernel
theorem dX8_settles_0 : decode cX8_settles 0 = .ok (.iconst 0, 1) := by decide +kernel
theorem dX8_settles_1 : decode cX8_settles 1 = .ok (.istore_n 1, 1) := by decide +kernel
theorem dX8_settles_2 : decode cX8_settles 2 = .ok (.iload_n 1, 1) := by decide +kernel
theorem dX8_settles_3 : decode cX8_settles 3 = .ok (.aload_n 0, 1) := by decide +kernel
theorem dX8_settles_4 : decode cX8_settles 4 = .ok (.getfield 70, 3) := by decide +kernel
theorem dX8_settles_7 : decode cX8_settles 7 = .ok (.iconst 0, 1) := by decide +kernel
theorem dX8_settles_8 : decode cX8_settles 8 = .ok (.iaload, 1) := by decide +kernel
theorem dX8_settles_9 : decode cX8_settles 9 = .ok (.if_icmp .ge 35, 3) := by decide +kernel
theorem dX8_settles_12 : decode cX8_settles 12 = .ok (.aload_n 0, 1) := by decide +kernel
theorem dX8_settles_13 : decode cX8_settles 13 = .ok (.iload_n 1, 1) := by decide +kernel
theorem dX8_settles_14 : decode cX8_settles 14 = .ok (.invokevirtual 154, 3) := by decide +kernel
theorem dX8_settles_17 : decode cX8_settles 17 = .ok (.istore_n 2, 1) := by decide +kernel
theorem dX8_settles_18 : decode cX8_settles 18 = .ok (.iload_n 2, 1) := by decide +kernel
theorem dX8_settles_19 : decode cX8_settles 19 = .ok (.ifCond .lt 19, 3) := by decide +kernel
theorem dX8_settles_22 : decode cX8_settles 22 = .ok (.aload_n 0, 1) := by decide +kernel
theorem dX8_settles_23 : decode cX8_settles 23 = .ok (.iload_n 1, 1) := by decide +kernel
theorem dX8_settles_24 : decode cX8_settles 24 = .ok (.invokevirtual 148, 3) := by decide +kernel
theorem dX8_settles_27 : decode cX8_settles 27 = .ok (.ifCond .eq 11, 3) := by decide +kernel
theorem dX8_settles_30 : decode cX8_settles 30 = .ok (.aload_n 0, 1) := by decide +kernel
theorem dX8_settles_31 : decode cX8_settles 31 = .ok (.iload_n 2, 1) := by decide +kernel
theorem dX8_settles_32 : decode cX8_settles 32 = .ok (.iconst 1, 1) := by decide +kernel
theorem dX8_settles_33 : decode cX8_settles 33 = .ok (.iload_n 1, 1) := by decide +kernel
theorem dX8_settles_34 : decode cX8_settles 34 = .ok (.ishl, 1) := by decide +kernel
theorem dX8_settles_35 : decode cX8_settles 35 = .ok (.invokevirtual 190, 3) := by decide +kernel
theorem dX8_settles_38 : decode cX8_settles 38 = .ok (.iinc 1 1, 3) := by decide +kernel
theorem dX8_settles_41 : decode cX8_settles 41 = .ok (.goto (-39), 3) := by decide +kernel
theorem dX8_settles_44 : decode cX8_settles 44 = .ok (.return_, 1) := by decide +kernel
theorem dX8_dials_0 : decode cX8_dials 0 = .ok (.aload_n 0, 1) := by decide +kernel
theorem dX8_dials_1 : decode cX8_dials 1 = .ok (.getfield 70, 3) := by decide +kernel
theorem dX8_dials_4 : decode cX8_dials 4 = .ok (.iconst 2, 1) := by decide +kernel
theorem dX8_dials_5 : decode cX8_dials 5 = .ok (.iaload, 1) := by decide +kernel
theorem dX8_dials_6 : decode cX8_dials 6 = .ok (.istore_n 3, 1) := by decide +kernel
theorem dX8_dials_7 : decode cX8_dials 7 = .ok (.aload_n 0, 1) := by decide +kernel
theorem dX8_dials_8 : decode cX8_dials 8 = .ok (.getfield 70, 3) := by decide +kernel
theorem dX8_dials_11 : decode cX8_dials 11 = .ok (.iconst 2, 1) := by decide +kernel
theorem dX8_dials_12 : decode cX8_dials 12 = .ok (.dup2, 1) := by decide +kernel
theorem dX8_dials_13 : decode cX8_dials 13 = .ok (.iaload, 1) := by decide +kernel
theorem dX8_dials_14 : decode cX8_dials 14 = .ok (.iconst 1, 1) := by decide +kernel
theorem dX8_dials_15 : decode cX8_dials 15 = .ok (.iadd, 1) := by decide +kernel
theorem dX8_dials_16 : decode cX8_dials 16 = .ok (.iastore, 1) := by decide +kernel
theorem dX8_dials_17 : decode cX8_dials 17 = .ok (.aload_n 0, 1) := by decide +kernel
theorem dX8_dials_18 : decode cX8_dials 18 = .ok (.getfield 28, 3) := by decide +kernel
theorem dX8_dials_21 : decode cX8_dials 21 = .ok (.iload_n 3, 1) := by decide +kernel
theorem dX8_dials_22 : decode cX8_dials 22 = .ok (.iload_n 1, 1) := by decide +kernel
theorem dX8_dials_23 : decode cX8_dials 23 = .ok (.iastore, 1) := by decide +kernel
theorem dX8_dials_24 : decode cX8_dials 24 = .ok (.aload_n 0, 1) := by decide +kernel
theorem dX8_dials_25 : decode cX8_dials 25 = .ok (.getfield 31, 3) := by decide +kernel
theorem dX8_dials_28 : decode cX8_dials 28 = .ok (.iload_n 3, 1) := by decide +kernel
theorem dX8_dials_29 : decode cX8_dials 29 = .ok (.iconst 0, 1) := by decide +kernel
theorem dX8_dials_30 : decode cX8_dials 30 = .ok (.iastore, 1) := by decide +kernel
theorem dX8_dials_31 : decode cX8_dials 31 = .ok (.aload_n 0, 1) := by decide +kernel
theorem dX8_dials_32 : decode cX8_dials 32 = .ok (.getfield 34, 3) := by decide +kernel
theorem dX8_dials_35 : decode cX8_dials 35 = .ok (.iload_n 3, 1) := by decide +kernel
theorem dX8_dials_36 : decode cX8_dials 36 = .ok (.iconst 0, 1) := by decide +kernel
theorem dX8_dials_37 : decode cX8_dials 37 = .ok (.iastore, 1) := by decide +kernel
theorem dX8_dials_38 : decode cX8_dials 38 = .ok (.aload_n 0, 1) := by decide +kernel
theorem dX8_dials_39 : decode cX8_dials 39 = .ok (.getfield 37, 3) := by decide +kernel
theorem dX8_dials_42 : decode cX8_dials 42 = .ok (.iload_n 3, 1) := by decide +kernel
theorem dX8_dials_43 : decode cX8_dials 43 = .ok (.iconst 0, 1) := by decide +kernel
theorem dX8_dials_44 : decode cX8_dials 44 = .ok (.iastore, 1) := by decide +kernel
theorem dX8_dials_45 : decode cX8_dials 45 = .ok (.aload_n 0, 1) := by decide +kernel
theorem dX8_dials_46 : decode cX8_dials 46 = .ok (.getfield 46, 3) := by decide +kernel
theorem dX8_dials_49 : decode cX8_dials 49 = .ok (.iload_n 3, 1) := by decide +kernel
theorem dX8_dials_50 : decode cX8_dials 50 = .ok (.iconst 0, 1) := by decide +kernel
theorem dX8_dials_51 : decode cX8_dials 51 = .ok (.iastore, 1) := by decide +kernel
theorem dX8_dials_52 : decode cX8_dials 52 = .ok (.aload_n 0, 1) := by decide +kernel
theorem dX8_dials_53 : decode cX8_dials 53 = .ok (.getfield 49, 3) := by decide +kernel
theorem dX8_dials_56 : decode cX8_dials 56 = .ok (.iload_n 3, 1) := by decide +kernel
theorem dX8_dials_57 : decode cX8_dials 57 = .ok (.iconst (-1), 1) := by decide +kernel
theorem dX8_dials_58 : decode cX8_dials 58 = .ok (.iastore, 1) := by decide +kernel
theorem dX8_dials_59 : decode cX8_dials 59 = .ok (.aload_n 0, 1) := by decide +kernel
theorem dX8_dials_60 : decode cX8_dials 60 = .ok (.getfield 52, 3) := by decide +kernel
theorem dX8_dials_63 : decode cX8_dials 63 = .ok (.iload_n 3, 1) := by decide +kernel
theorem dX8_dials_64 : decode cX8_dials 64 = .ok (.iconst 0, 1) := by decide +kernel
theorem dX8_dials_65 : decode cX8_dials 65 = .ok (.iastore, 1) := by decide +kernel
theorem dX8_dials_66 : decode cX8_dials 66 = .ok (.aload_n 0, 1) := by decide +kernel
theorem dX8_dials_67 : decode cX8_dials 67 = .ok (.getfield 55, 3) := by decide +kernel
theorem dX8_dials_70 : decode cX8_dials 70 = .ok (.iload_n 3, 1) := by decide +kernel
theorem dX8_dials_71 : decode cX8_dials 71 = .ok (.iconst 0, 1) := by decide +kernel
theorem dX8_dials_72 : decode cX8_dials 72 = .ok (.iastore, 1) := by decide +kernel
theorem dX8_dials_73 : decode cX8_dials 73 = .ok (.aload_n 0, 1) := by decide +kernel
theorem dX8_dials_74 : decode cX8_dials 74 = .ok (.iload_n 3, 1) := by decide +kernel
theorem dX8_dials_75 : decode cX8_dials 75 = .ok (.iload_n 2, 1) := by decide +kernel
theorem dX8_dials_76 : decode cX8_dials 76 = .ok (.iload_n 1, 1) := by decide +kernel
theorem dX8_dials_77 : decode cX8_dials 77 = .ok (.invokevirtual 196, 3) := by decide +kernel
theorem dX8_dials_80 : decode cX8_dials 80 = .ok (.aload_n 0, 1) := by decide +kernel
theorem dX8_dials_81 : decode cX8_dials 81 = .ok (.invokevirtual 199, 3) := by decide +kernel
theorem dX8_dials_84 : decode cX8_dials 84 = .ok (.iload_n 3, 1) := by decide +kernel
theorem dX8_dials_85 : decode cX8_dials 85 = .ok (.ireturn, 1) := by decide +kernel
theorem dX8_dial_0 : decode cX8_dial 0 = .ok (.aload_n 0, 1) := by decide +kernel
theorem dX8_dial_1 : decode cX8_dial 1 = .ok (.iload_n 1, 1) := by decide +kernel
theorem dX8_dial_2 : decode cX8_dial 2 = .ok (.invokevirtual 120, 3) := by decide +kernel
theorem dX8_dial_5 : decode cX8_dial 5 = .ok (.ifCond .eq 11, 3) := by decide +kernel
theorem dX8_dial_8 : decode cX8_dial 8 = .ok (.aload_n 0, 1) := by decide +kernel
theorem dX8_dial_9 : decode cX8_dial 9 = .ok (.iload_n 2, 1) := by decide +kernel
theorem dX8_dial_10 : decode cX8_dial 10 = .ok (.invokevirtual 120, 3) := by decide +kernel
theorem dX8_dial_13 : decode cX8_dial 13 = .ok (.ifCond .ne 9, 3) := by decide +kernel
theorem dX8_dial_16 : decode cX8_dial 16 = .ok (.aload_n 0, 1) := by decide +kernel
theorem dX8_dial_17 : decode cX8_dial 17 = .ok (.iconst 1, 1) := by decide +kernel
theorem dX8_dial_18 : decode cX8_dial 18 = .ok (.invokevirtual 113, 3) := by decide +kernel
theorem dX8_dial_21 : decode cX8_dial 21 = .ok (.ireturn, 1) := by decide +kernel
theorem dX8_dial_22 : decode cX8_dial 22 = .ok (.aload_n 0, 1) := by decide +kernel
theorem dX8_dial_23 : decode cX8_dial 23 = .ok (.getfield 70, 3) := by decide +kernel
theorem dX8_dial_26 : decode cX8_dial 26 = .ok (.iconst 2, 1) := by decide +kernel
theorem dX8_dial_27 : decode cX8_dial 27 = .ok (.iaload, 1) := by decide +kernel
theorem dX8_dial_28 : decode cX8_dial 28 = .ok (.bipush 60, 2) := by decide +kernel
theorem dX8_dial_30 : decode cX8_dial 30 = .ok (.if_icmp .ne 9, 3) := by decide +kernel
theorem dX8_dial_33 : decode cX8_dial 33 = .ok (.aload_n 0, 1) := by decide +kernel
theorem dX8_dial_34 : decode cX8_dial 34 = .ok (.iconst 2, 1) := by decide +kernel
theorem dX8_dial_35 : decode cX8_dial 35 = .ok (.invokevirtual 113, 3) := by decide +kernel
theorem dX8_dial_38 : decode cX8_dial 38 = .ok (.ireturn, 1) := by decide +kernel
theorem dX8_dial_39 : decode cX8_dial 39 = .ok (.aload_n 0, 1) := by decide +kernel
theorem dX8_dial_40 : decode cX8_dial 40 = .ok (.iload_n 1, 1) := by decide +kernel
theorem dX8_dial_41 : decode cX8_dial 41 = .ok (.invokevirtual 148, 3) := by decide +kernel
theorem dX8_dial_44 : decode cX8_dial 44 = .ok (.ifCond .ne 9, 3) := by decide +kernel
theorem dX8_dial_47 : decode cX8_dial 47 = .ok (.aload_n 0, 1) := by decide +kernel
theorem dX8_dial_48 : decode cX8_dial 48 = .ok (.iconst 3, 1) := by decide +kernel
theorem dX8_dial_49 : decode cX8_dial 49 = .ok (.invokevirtual 113, 3) := by decide +kernel
theorem dX8_dial_52 : decode cX8_dial 52 = .ok (.ireturn, 1) := by decide +kernel
theorem dX8_dial_53 : decode cX8_dial 53 = .ok (.aload_n 0, 1) := by decide +kernel
theorem dX8_dial_54 : decode cX8_dial 54 = .ok (.aload_n 0, 1) := by decide +kernel
theorem dX8_dial_55 : decode cX8_dial 55 = .ok (.iload_n 1, 1) := by decide +kernel
theorem dX8_dial_56 : decode cX8_dial 56 = .ok (.iload_n 2, 1) := by decide +kernel
theorem dX8_dial_57 : decode cX8_dial 57 = .ok (.invokevirtual 202, 3) := by decide +kernel
theorem dX8_dial_60 : decode cX8_dial 60 = .ok (.invokevirtual 117, 3) := by decide +kernel
theorem dX8_dial_63 : decode cX8_dial 63 = .ok (.ireturn, 1) := by decide +kernel
theorem dX8_take_0 : decode cX8_take 0 = .ok (.aload_n 0, 1) := by decide +kernel
theorem dX8_take_1 : decode cX8_take 1 = .ok (.iload_n 1, 1) := by decide +kernel
theorem dX8_take_2 : decode cX8_take 2 = .ok (.invokevirtual 120, 3) := by decide +kernel
theorem dX8_take_5 : decode cX8_take 5 = .ok (.ifCond .ne 9, 3) := by decide +kernel
theorem dX8_take_8 : decode cX8_take 8 = .ok (.aload_n 0, 1) := by decide +kernel
theorem dX8_take_9 : decode cX8_take 9 = .ok (.iconst 1, 1) := by decide +kernel
theorem dX8_take_10 : decode cX8_take 10 = .ok (.invokevirtual 113, 3) := by decide +kernel
theorem dX8_take_13 : decode cX8_take 13 = .ok (.ireturn, 1) := by decide +kernel
theorem dX8_take_14 : decode cX8_take 14 = .ok (.aload_n 0, 1) := by decide +kernel
theorem dX8_take_15 : decode cX8_take 15 = .ok (.iload_n 1, 1) := by decide +kernel
theorem dX8_take_16 : decode cX8_take 16 = .ok (.invokevirtual 145, 3) := by decide +kernel
theorem dX8_take_19 : decode cX8_take 19 = .ok (.istore_n 2, 1) := by decide +kernel
theorem dX8_take_20 : decode cX8_take 20 = .ok (.iload_n 2, 1) := by decide +kernel
theorem dX8_take_21 : decode cX8_take 21 = .ok (.ifCond .lt 16, 3) := by decide +kernel
theorem dX8_take_24 : decode cX8_take 24 = .ok (.aload_n 0, 1) := by decide +kernel
theorem dX8_take_25 : decode cX8_take 25 = .ok (.getfield 46, 3) := by decide +kernel
theorem dX8_take_28 : decode cX8_take 28 = .ok (.iload_n 2, 1) := by decide +kernel
theorem dX8_take_29 : decode cX8_take 29 = .ok (.iaload, 1) := by decide +kernel
theorem dX8_take_30 : decode cX8_take 30 = .ok (.iload_n 1, 1) := by decide +kernel
theorem dX8_take_31 : decode cX8_take 31 = .ok (.ishr, 1) := by decide +kernel
theorem dX8_take_32 : decode cX8_take 32 = .ok (.iconst 1, 1) := by decide +kernel
theorem dX8_take_33 : decode cX8_take 33 = .ok (.iand, 1) := by decide +kernel
theorem dX8_take_34 : decode cX8_take 34 = .ok (.ifCond .ne 9, 3) := by decide +kernel
theorem dX8_take_37 : decode cX8_take 37 = .ok (.aload_n 0, 1) := by decide +kernel
theorem dX8_take_38 : decode cX8_take 38 = .ok (.iconst 3, 1) := by decide +kernel
theorem dX8_take_39 : decode cX8_take 39 = .ok (.invokevirtual 113, 3) := by decide +kernel
theorem dX8_take_42 : decode cX8_take 42 = .ok (.ireturn, 1) := by decide +kernel
theorem dX8_take_43 : decode cX8_take 43 = .ok (.aload_n 0, 1) := by decide +kernel
theorem dX8_take_44 : decode cX8_take 44 = .ok (.getfield 31, 3) := by decide +kernel
theorem dX8_take_47 : decode cX8_take 47 = .ok (.iload_n 2, 1) := by decide +kernel
theorem dX8_take_48 : decode cX8_take 48 = .ok (.iconst 1, 1) := by decide +kernel
theorem dX8_take_49 : decode cX8_take 49 = .ok (.iastore, 1) := by decide +kernel
theorem dX8_take_50 : decode cX8_take 50 = .ok (.aload_n 0, 1) := by decide +kernel
theorem dX8_take_51 : decode cX8_take 51 = .ok (.getfield 46, 3) := by decide +kernel
theorem dX8_take_54 : decode cX8_take 54 = .ok (.iload_n 2, 1) := by decide +kernel
theorem dX8_take_55 : decode cX8_take 55 = .ok (.iconst 0, 1) := by decide +kernel
theorem dX8_take_56 : decode cX8_take 56 = .ok (.iastore, 1) := by decide +kernel
theorem dX8_take_57 : decode cX8_take 57 = .ok (.aload_n 0, 1) := by decide +kernel
theorem dX8_take_58 : decode cX8_take 58 = .ok (.getfield 49, 3) := by decide +kernel
theorem dX8_take_61 : decode cX8_take 61 = .ok (.iload_n 2, 1) := by decide +kernel
theorem dX8_take_62 : decode cX8_take 62 = .ok (.iload_n 1, 1) := by decide +kernel
theorem dX8_take_63 : decode cX8_take 63 = .ok (.iastore, 1) := by decide +kernel
theorem dX8_take_64 : decode cX8_take 64 = .ok (.aload_n 0, 1) := by decide +kernel
theorem dX8_take_65 : decode cX8_take 65 = .ok (.invokevirtual 199, 3) := by decide +kernel
theorem dX8_take_68 : decode cX8_take 68 = .ok (.aload_n 0, 1) := by decide +kernel
theorem dX8_take_69 : decode cX8_take 69 = .ok (.iload_n 2, 1) := by decide +kernel
theorem dX8_take_70 : decode cX8_take 70 = .ok (.invokevirtual 117, 3) := by decide +kernel
theorem dX8_take_73 : decode cX8_take 73 = .ok (.ireturn, 1) := by decide +kernel
theorem dX8_down_0 : decode cX8_down 0 = .ok (.aload_n 0, 1) := by decide +kernel
theorem dX8_down_1 : decode cX8_down 1 = .ok (.iload_n 1, 1) := by decide +kernel
theorem dX8_down_2 : decode cX8_down 2 = .ok (.invokevirtual 120, 3) := by decide +kernel
theorem dX8_down_5 : decode cX8_down 5 = .ok (.ifCond .ne 9, 3) := by decide +kernel
theorem dX8_down_8 : decode cX8_down 8 = .ok (.aload_n 0, 1) := by decide +kernel
theorem dX8_down_9 : decode cX8_down 9 = .ok (.iconst 1, 1) := by decide +kernel
theorem dX8_down_10 : decode cX8_down 10 = .ok (.invokevirtual 113, 3) := by decide +kernel
theorem dX8_down_13 : decode cX8_down 13 = .ok (.ireturn, 1) := by decide +kernel
theorem dX8_down_14 : decode cX8_down 14 = .ok (.aload_n 0, 1) := by decide +kernel
theorem dX8_down_15 : decode cX8_down 15 = .ok (.iload_n 1, 1) := by decide +kernel
theorem dX8_down_16 : decode cX8_down 16 = .ok (.invokevirtual 145, 3) := by decide +kernel
theorem dX8_down_19 : decode cX8_down 19 = .ok (.istore_n 2, 1) := by decide +kernel
theorem dX8_down_20 : decode cX8_down 20 = .ok (.iload_n 2, 1) := by decide +kernel
theorem dX8_down_21 : decode cX8_down 21 = .ok (.ifCond .lt 17, 3) := by decide +kernel
theorem dX8_down_24 : decode cX8_down 24 = .ok (.aload_n 0, 1) := by decide +kernel
theorem dX8_down_25 : decode cX8_down 25 = .ok (.getfield 46, 3) := by decide +kernel
theorem dX8_down_28 : decode cX8_down 28 = .ok (.iload_n 2, 1) := by decide +kernel
theorem dX8_down_29 : decode cX8_down 29 = .ok (.iaload, 1) := by decide +kernel
theorem dX8_down_30 : decode cX8_down 30 = .ok (.iload_n 1, 1) := by decide +kernel
theorem dX8_down_31 : decode cX8_down 31 = .ok (.ishr, 1) := by decide +kernel
theorem dX8_down_32 : decode cX8_down 32 = .ok (.iconst 1, 1) := by decide +kernel
theorem dX8_down_33 : decode cX8_down 33 = .ok (.iand, 1) := by decide +kernel
theorem dX8_down_34 : decode cX8_down 34 = .ok (.iconst 1, 1) := by decide +kernel
theorem dX8_down_35 : decode cX8_down 35 = .ok (.if_icmp .ne 9, 3) := by decide +kernel
theorem dX8_down_38 : decode cX8_down 38 = .ok (.aload_n 0, 1) := by decide +kernel
theorem dX8_down_39 : decode cX8_down 39 = .ok (.iconst 3, 1) := by decide +kernel
theorem dX8_down_40 : decode cX8_down 40 = .ok (.invokevirtual 113, 3) := by decide +kernel
theorem dX8_down_43 : decode cX8_down 43 = .ok (.ireturn, 1) := by decide +kernel
theorem dX8_down_44 : decode cX8_down 44 = .ok (.aload_n 0, 1) := by decide +kernel
theorem dX8_down_45 : decode cX8_down 45 = .ok (.iload_n 2, 1) := by decide +kernel
theorem dX8_down_46 : decode cX8_down 46 = .ok (.iconst 4, 1) := by decide +kernel
theorem dX8_down_47 : decode cX8_down 47 = .ok (.invokevirtual 172, 3) := by decide +kernel
theorem dX8_down_50 : decode cX8_down 50 = .ok (.aload_n 0, 1) := by decide +kernel
theorem dX8_down_51 : decode cX8_down 51 = .ok (.invokevirtual 199, 3) := by decide +kernel
theorem dX8_down_54 : decode cX8_down 54 = .ok (.aload_n 0, 1) := by decide +kernel
theorem dX8_down_55 : decode cX8_down 55 = .ok (.iload_n 2, 1) := by decide +kernel
theorem dX8_down_56 : decode cX8_down 56 = .ok (.invokevirtual 117, 3) := by decide +kernel
theorem dX8_down_59 : decode cX8_down 59 = .ok (.ireturn, 1) := by decide +kernel
theorem dX8_rangOn_0 : decode cX8_rangOn 0 = .ok (.aload_n 0, 1) := by decide +kernel
theorem dX8_rangOn_1 : decode cX8_rangOn 1 = .ok (.getfield 52, 3) := by decide +kernel
theorem dX8_rangOn_4 : decode cX8_rangOn 4 = .ok (.iload_n 1, 1) := by decide +kernel
theorem dX8_rangOn_5 : decode cX8_rangOn 5 = .ok (.dup2, 1) := by decide +kernel
theorem dX8_rangOn_6 : decode cX8_rangOn 6 = .ok (.iaload, 1) := by decide +kernel
theorem dX8_rangOn_7 : decode cX8_rangOn 7 = .ok (.iconst 1, 1) := by decide +kernel
theorem dX8_rangOn_8 : decode cX8_rangOn 8 = .ok (.iadd, 1) := by decide +kernel
theorem dX8_rangOn_9 : decode cX8_rangOn 9 = .ok (.iastore, 1) := by decide +kernel
theorem dX8_rangOn_10 : decode cX8_rangOn 10 = .ok (.aload_n 0, 1) := by decide +kernel
theorem dX8_rangOn_11 : decode cX8_rangOn 11 = .ok (.getfield 40, 3) := by decide +kernel
theorem dX8_rangOn_14 : decode cX8_rangOn 14 = .ok (.bipush 9, 2) := by decide +kernel
theorem dX8_rangOn_16 : decode cX8_rangOn 16 = .ok (.iload_n 1, 1) := by decide +kernel
theorem dX8_rangOn_17 : decode cX8_rangOn 17 = .ok (.imul, 1) := by decide +kernel
theorem dX8_rangOn_18 : decode cX8_rangOn 18 = .ok (.aload_n 0, 1) := by decide +kernel
theorem dX8_rangOn_19 : decode cX8_rangOn 19 = .ok (.getfield 37, 3) := by decide +kernel
theorem dX8_rangOn_22 : decode cX8_rangOn 22 = .ok (.iload_n 1, 1) := by decide +kernel
theorem dX8_rangOn_23 : decode cX8_rangOn 23 = .ok (.iaload, 1) := by decide +kernel
theorem dX8_rangOn_24 : decode cX8_rangOn 24 = .ok (.iadd, 1) := by decide +kernel
theorem dX8_rangOn_25 : decode cX8_rangOn 25 = .ok (.iconst 1, 1) := by decide +kernel
theorem dX8_rangOn_26 : decode cX8_rangOn 26 = .ok (.isub, 1) := by decide +kernel
theorem dX8_rangOn_27 : decode cX8_rangOn 27 = .ok (.iaload, 1) := by decide +kernel
theorem dX8_rangOn_28 : decode cX8_rangOn 28 = .ok (.istore_n 2, 1) := by decide +kernel
theorem dX8_rangOn_29 : decode cX8_rangOn 29 = .ok (.aload_n 0, 1) := by decide +kernel
theorem dX8_rangOn_30 : decode cX8_rangOn 30 = .ok (.iload_n 2, 1) := by decide +kernel
theorem dX8_rangOn_31 : decode cX8_rangOn 31 = .ok (.iconst (-1), 1) := by decide +kernel
theorem dX8_rangOn_32 : decode cX8_rangOn 32 = .ok (.invokevirtual 157, 3) := by decide +kernel
theorem dX8_rangOn_35 : decode cX8_rangOn 35 = .ok (.istore_n 3, 1) := by decide +kernel
theorem dX8_rangOn_36 : decode cX8_rangOn 36 = .ok (.iload_n 3, 1) := by decide +kernel
theorem dX8_rangOn_37 : decode cX8_rangOn 37 = .ok (.ifCond .lt 50, 3) := by decide +kernel
theorem dX8_rangOn_40 : decode cX8_rangOn 40 = .ok (.aload_n 0, 1) := by decide +kernel
theorem dX8_rangOn_41 : decode cX8_rangOn 41 = .ok (.getfield 13, 3) := by decide +kernel
theorem dX8_rangOn_44 : decode cX8_rangOn 44 = .ok (.iload_n 3, 1) := by decide +kernel
theorem dX8_rangOn_45 : decode cX8_rangOn 45 = .ok (.iaload, 1) := by decide +kernel
theorem dX8_rangOn_46 : decode cX8_rangOn 46 = .ok (.iconst 1, 1) := by decide +kernel
theorem dX8_rangOn_47 : decode cX8_rangOn 47 = .ok (.if_icmp .ne 30, 3) := by decide +kernel
theorem dX8_rangOn_50 : decode cX8_rangOn 50 = .ok (.aload_n 0, 1) := by decide +kernel
theorem dX8_rangOn_51 : decode cX8_rangOn 51 = .ok (.getfield 22, 3) := by decide +kernel
theorem dX8_rangOn_54 : decode cX8_rangOn 54 = .ok (.iload_n 3, 1) := by decide +kernel
theorem dX8_rangOn_55 : decode cX8_rangOn 55 = .ok (.iaload, 1) := by decide +kernel
theorem dX8_rangOn_56 : decode cX8_rangOn 56 = .ok (.iconst 2, 1) := by decide +kernel
theorem dX8_rangOn_57 : decode cX8_rangOn 57 = .ok (.if_icmp .le 20, 3) := by decide +kernel
theorem dX8_rangOn_60 : decode cX8_rangOn 60 = .ok (.aload_n 0, 1) := by decide +kernel
theorem dX8_rangOn_61 : decode cX8_rangOn 61 = .ok (.getfield 22, 3) := by decide +kernel
theorem dX8_rangOn_64 : decode cX8_rangOn 64 = .ok (.iload_n 3, 1) := by decide +kernel
theorem dX8_rangOn_65 : decode cX8_rangOn 65 = .ok (.iaload, 1) := by decide +kernel
theorem dX8_rangOn_66 : decode cX8_rangOn 66 = .ok (.iconst 2, 1) := by decide +kernel
theorem dX8_rangOn_67 : decode cX8_rangOn 67 = .ok (.isub, 1) := by decide +kernel
theorem dX8_rangOn_68 : decode cX8_rangOn 68 = .ok (.aload_n 0, 1) := by decide +kernel
theorem dX8_rangOn_69 : decode cX8_rangOn 69 = .ok (.getfield 52, 3) := by decide +kernel
theorem dX8_rangOn_72 : decode cX8_rangOn 72 = .ok (.iload_n 1, 1) := by decide +kernel
theorem dX8_rangOn_73 : decode cX8_rangOn 73 = .ok (.iaload, 1) := by decide +kernel
theorem dX8_rangOn_74 : decode cX8_rangOn 74 = .ok (.if_icmp .eq 13, 3) := by decide +kernel
theorem dX8_rangOn_77 : decode cX8_rangOn 77 = .ok (.aload_n 0, 1) := by decide +kernel
theorem dX8_rangOn_78 : decode cX8_rangOn 78 = .ok (.iload_n 2, 1) := by decide +kernel
theorem dX8_rangOn_79 : decode cX8_rangOn 79 = .ok (.iload_n 3, 1) := by decide +kernel
theorem dX8_rangOn_80 : decode cX8_rangOn 80 = .ok (.invokevirtual 157, 3) := by decide +kernel
theorem dX8_rangOn_83 : decode cX8_rangOn 83 = .ok (.istore_n 3, 1) := by decide +kernel
theorem dX8_rangOn_84 : decode cX8_rangOn 84 = .ok (.goto (-48), 3) := by decide +kernel
theorem dX8_rangOn_87 : decode cX8_rangOn 87 = .ok (.iload_n 3, 1) := by decide +kernel
theorem dX8_rangOn_88 : decode cX8_rangOn 88 = .ok (.ifCond .ge 4, 3) := by decide +kernel
theorem dX8_rangOn_91 : decode cX8_rangOn 91 = .ok (.return_, 1) := by decide +kernel
theorem dX8_rangOn_92 : decode cX8_rangOn 92 = .ok (.aload_n 0, 1) := by decide +kernel
theorem dX8_rangOn_93 : decode cX8_rangOn 93 = .ok (.iload_n 1, 1) := by decide +kernel
theorem dX8_rangOn_94 : decode cX8_rangOn 94 = .ok (.iload_n 3, 1) := by decide +kernel
theorem dX8_rangOn_95 : decode cX8_rangOn 95 = .ok (.invokevirtual 187, 3) := by decide +kernel
theorem dX8_rangOn_98 : decode cX8_rangOn 98 = .ok (.aload_n 0, 1) := by decide +kernel
theorem dX8_rangOn_99 : decode cX8_rangOn 99 = .ok (.getfield 46, 3) := by decide +kernel
theorem dX8_rangOn_102 : decode cX8_rangOn 102 = .ok (.iload_n 1, 1) := by decide +kernel
theorem dX8_rangOn_103 : decode cX8_rangOn 103 = .ok (.iconst 0, 1) := by decide +kernel
theorem dX8_rangOn_104 : decode cX8_rangOn 104 = .ok (.iastore, 1) := by decide +kernel
theorem dX8_rangOn_105 : decode cX8_rangOn 105 = .ok (.aload_n 0, 1) := by decide +kernel
theorem dX8_rangOn_106 : decode cX8_rangOn 106 = .ok (.iload_n 1, 1) := by decide +kernel
theorem dX8_rangOn_107 : decode cX8_rangOn 107 = .ok (.aload_n 0, 1) := by decide +kernel
theorem dX8_rangOn_108 : decode cX8_rangOn 108 = .ok (.getfield 19, 3) := by decide +kernel
theorem dX8_rangOn_111 : decode cX8_rangOn 111 = .ok (.iload_n 3, 1) := by decide +kernel
theorem dX8_rangOn_112 : decode cX8_rangOn 112 = .ok (.iaload, 1) := by decide +kernel
theorem dX8_rangOn_113 : decode cX8_rangOn 113 = .ok (.iload_n 2, 1) := by decide +kernel
theorem dX8_rangOn_114 : decode cX8_rangOn 114 = .ok (.invokevirtual 196, 3) := by decide +kernel
theorem dX8_rangOn_117 : decode cX8_rangOn 117 = .ok (.return_, 1) := by decide +kernel
theorem dX8_callsBack_0 : decode cX8_callsBack 0 = .ok (.aload_n 0, 1) := by decide +kernel
theorem dX8_callsBack_1 : decode cX8_callsBack 1 = .ok (.getfield 70, 3) := by decide +kernel
theorem dX8_callsBack_4 : decode cX8_callsBack 4 = .ok (.iconst 4, 1) := by decide +kernel
theorem dX8_callsBack_5 : decode cX8_callsBack 5 = .ok (.iaload, 1) := by decide +kernel
theorem dX8_callsBack_6 : decode cX8_callsBack 6 = .ok (.istore_n 1, 1) := by decide +kernel
theorem dX8_callsBack_7 : decode cX8_callsBack 7 = .ok (.iconst 0, 1) := by decide +kernel
theorem dX8_callsBack_8 : decode cX8_callsBack 8 = .ok (.istore_n 2, 1) := by decide +kernel
theorem dX8_callsBack_9 : decode cX8_callsBack 9 = .ok (.iload_n 2, 1) := by decide +kernel
theorem dX8_callsBack_10 : decode cX8_callsBack 10 = .ok (.iload_n 1, 1) := by decide +kernel
theorem dX8_callsBack_11 : decode cX8_callsBack 11 = .ok (.if_icmp .ge 33, 3) := by decide +kernel
theorem dX8_callsBack_14 : decode cX8_callsBack 14 = .ok (.aload_n 0, 1) := by decide +kernel
theorem dX8_callsBack_15 : decode cX8_callsBack 15 = .ok (.getfield 79, 3) := by decide +kernel
theorem dX8_callsBack_18 : decode cX8_callsBack 18 = .ok (.iload_n 2, 1) := by decide +kernel
theorem dX8_callsBack_19 : decode cX8_callsBack 19 = .ok (.aload_n 0, 1) := by decide +kernel
theorem dX8_callsBack_20 : decode cX8_callsBack 20 = .ok (.getfield 61, 3) := by decide +kernel
theorem dX8_callsBack_23 : decode cX8_callsBack 23 = .ok (.iload_n 2, 1) := by decide +kernel
theorem dX8_callsBack_24 : decode cX8_callsBack 24 = .ok (.iaload, 1) := by decide +kernel
theorem dX8_callsBack_25 : decode cX8_callsBack 25 = .ok (.iastore, 1) := by decide +kernel
theorem dX8_callsBack_26 : decode cX8_callsBack 26 = .ok (.aload_n 0, 1) := by decide +kernel
theorem dX8_callsBack_27 : decode cX8_callsBack 27 = .ok (.getfield 82, 3) := by decide +kernel
theorem dX8_callsBack_30 : decode cX8_callsBack 30 = .ok (.iload_n 2, 1) := by decide +kernel
theorem dX8_callsBack_31 : decode cX8_callsBack 31 = .ok (.aload_n 0, 1) := by decide +kernel
theorem dX8_callsBack_32 : decode cX8_callsBack 32 = .ok (.getfield 64, 3) := by decide +kernel
theorem dX8_callsBack_35 : decode cX8_callsBack 35 = .ok (.iload_n 2, 1) := by decide +kernel
theorem dX8_callsBack_36 : decode cX8_callsBack 36 = .ok (.iaload, 1) := by decide +kernel
theorem dX8_callsBack_37 : decode cX8_callsBack 37 = .ok (.iastore, 1) := by decide +kernel
theorem dX8_callsBack_38 : decode cX8_callsBack 38 = .ok (.iinc 2 1, 3) := by decide +kernel
theorem dX8_callsBack_41 : decode cX8_callsBack 41 = .ok (.goto (-32), 3) := by decide +kernel
theorem dX8_callsBack_44 : decode cX8_callsBack 44 = .ok (.iconst 0, 1) := by decide +kernel
theorem dX8_callsBack_45 : decode cX8_callsBack 45 = .ok (.istore_n 2, 1) := by decide +kernel
theorem dX8_callsBack_46 : decode cX8_callsBack 46 = .ok (.iload_n 2, 1) := by decide +kernel
theorem dX8_callsBack_47 : decode cX8_callsBack 47 = .ok (.iload_n 1, 1) := by decide +kernel
theorem dX8_callsBack_48 : decode cX8_callsBack 48 = .ok (.if_icmp .ge 167, 3) := by decide +kernel
theorem dX8_callsBack_51 : decode cX8_callsBack 51 = .ok (.aload_n 0, 1) := by decide +kernel
theorem dX8_callsBack_52 : decode cX8_callsBack 52 = .ok (.aload_n 0, 1) := by decide +kernel
theorem dX8_callsBack_53 : decode cX8_callsBack 53 = .ok (.getfield 79, 3) := by decide +kernel
theorem dX8_callsBack_56 : decode cX8_callsBack 56 = .ok (.iload_n 2, 1) := by decide +kernel
theorem dX8_callsBack_57 : decode cX8_callsBack 57 = .ok (.iaload, 1) := by decide +kernel
theorem dX8_callsBack_58 : decode cX8_callsBack 58 = .ok (.invokevirtual 148, 3) := by decide +kernel
theorem dX8_callsBack_61 : decode cX8_callsBack 61 = .ok (.ifCond .eq 148, 3) := by decide +kernel
theorem dX8_callsBack_64 : decode cX8_callsBack 64 = .ok (.aload_n 0, 1) := by decide +kernel
theorem dX8_callsBack_65 : decode cX8_callsBack 65 = .ok (.aload_n 0, 1) := by decide +kernel
theorem dX8_callsBack_66 : decode cX8_callsBack 66 = .ok (.getfield 82, 3) := by decide +kernel
theorem dX8_callsBack_69 : decode cX8_callsBack 69 = .ok (.iload_n 2, 1) := by decide +kernel
theorem dX8_callsBack_70 : decode cX8_callsBack 70 = .ok (.iaload, 1) := by decide +kernel
theorem dX8_callsBack_71 : decode cX8_callsBack 71 = .ok (.invokevirtual 148, 3) := by decide +kernel
theorem dX8_callsBack_74 : decode cX8_callsBack 74 = .ok (.ifCond .eq 135, 3) := by decide +kernel
theorem dX8_callsBack_77 : decode cX8_callsBack 77 = .ok (.aload_n 0, 1) := by decide +kernel
theorem dX8_callsBack_78 : decode cX8_callsBack 78 = .ok (.getfield 70, 3) := by decide +kernel
theorem dX8_callsBack_81 : decode cX8_callsBack 81 = .ok (.iconst 2, 1) := by decide +kernel
theorem dX8_callsBack_82 : decode cX8_callsBack 82 = .ok (.iaload, 1) := by decide +kernel
theorem dX8_callsBack_83 : decode cX8_callsBack 83 = .ok (.bipush 60, 2) := by decide +kernel
theorem dX8_callsBack_85 : decode cX8_callsBack 85 = .ok (.if_icmp .ne 6, 3) := by decide +kernel
theorem dX8_callsBack_88 : decode cX8_callsBack 88 = .ok (.goto 121, 3) := by decide +kernel
theorem dX8_callsBack_91 : decode cX8_callsBack 91 = .ok (.iconst 0, 1) := by decide +kernel
theorem dX8_callsBack_92 : decode cX8_callsBack 92 = .ok (.istore_n 3, 1) := by decide +kernel
theorem dX8_callsBack_93 : decode cX8_callsBack 93 = .ok (.aload_n 0, 1) := by decide +kernel
theorem dX8_callsBack_94 : decode cX8_callsBack 94 = .ok (.getfield 61, 3) := by decide +kernel
theorem dX8_callsBack_97 : decode cX8_callsBack 97 = .ok (.iload_n 3, 1) := by decide +kernel
theorem dX8_callsBack_98 : decode cX8_callsBack 98 = .ok (.iaload, 1) := by decide +kernel
theorem dX8_callsBack_99 : decode cX8_callsBack 99 = .ok (.aload_n 0, 1) := by decide +kernel
theorem dX8_callsBack_100 : decode cX8_callsBack 100 = .ok (.getfield 79, 3) := by decide +kernel
theorem dX8_callsBack_103 : decode cX8_callsBack 103 = .ok (.iload_n 2, 1) := by decide +kernel
theorem dX8_callsBack_104 : decode cX8_callsBack 104 = .ok (.iaload, 1) := by decide +kernel
theorem dX8_callsBack_105 : decode cX8_callsBack 105 = .ok (.if_icmp .ne 18, 3) := by decide +kernel
theorem dX8_callsBack_108 : decode cX8_callsBack 108 = .ok (.aload_n 0, 1) := by decide +kernel
theorem dX8_callsBack_109 : decode cX8_callsBack 109 = .ok (.getfield 64, 3) := by decide +kernel
theorem dX8_callsBack_112 : decode cX8_callsBack 112 = .ok (.iload_n 3, 1) := by decide +kernel
theorem dX8_callsBack_113 : decode cX8_callsBack 113 = .ok (.iaload, 1) := by decide +kernel
theorem dX8_callsBack_114 : decode cX8_callsBack 114 = .ok (.aload_n 0, 1) := by decide +kernel
theorem dX8_callsBack_115 : decode cX8_callsBack 115 = .ok (.getfield 82, 3) := by decide +kernel
theorem dX8_callsBack_118 : decode cX8_callsBack 118 = .ok (.iload_n 2, 1) := by decide +kernel
theorem dX8_callsBack_119 : decode cX8_callsBack 119 = .ok (.iaload, 1) := by decide +kernel
theorem dX8_callsBack_120 : decode cX8_callsBack 120 = .ok (.if_icmp .eq 9, 3) := by decide +kernel
theorem dX8_callsBack_123 : decode cX8_callsBack 123 = .ok (.iinc 3 1, 3) := by decide +kernel
theorem dX8_callsBack_126 : decode cX8_callsBack 126 = .ok (.goto (-33), 3) := by decide +kernel
theorem dX8_callsBack_129 : decode cX8_callsBack 129 = .ok (.aload_n 0, 1) := by decide +kernel
theorem dX8_callsBack_130 : decode cX8_callsBack 130 = .ok (.getfield 70, 3) := by decide +kernel
theorem dX8_callsBack_133 : decode cX8_callsBack 133 = .ok (.iconst 4, 1) := by decide +kernel
theorem dX8_callsBack_134 : decode cX8_callsBack 134 = .ok (.dup2, 1) := by decide +kernel
theorem dX8_callsBack_135 : decode cX8_callsBack 135 = .ok (.iaload, 1) := by decide +kernel
theorem dX8_callsBack_136 : decode cX8_callsBack 136 = .ok (.iconst 1, 1) := by decide +kernel
theorem dX8_callsBack_137 : decode cX8_callsBack 137 = .ok (.isub, 1) := by decide +kernel
theorem dX8_callsBack_138 : decode cX8_callsBack 138 = .ok (.iastore, 1) := by decide +kernel
theorem dX8_callsBack_139 : decode cX8_callsBack 139 = .ok (.iload_n 3, 1) := by decide +kernel
theorem dX8_callsBack_140 : decode cX8_callsBack 140 = .ok (.istore 4, 2) := by decide +kernel
theorem dX8_callsBack_142 : decode cX8_callsBack 142 = .ok (.iload 4, 2) := by decide +kernel
theorem dX8_callsBack_144 : decode cX8_callsBack 144 = .ok (.aload_n 0, 1) := by decide +kernel
theorem dX8_callsBack_145 : decode cX8_callsBack 145 = .ok (.getfield 70, 3) := by decide +kernel
theorem dX8_callsBack_148 : decode cX8_callsBack 148 = .ok (.iconst 4, 1) := by decide +kernel
theorem dX8_callsBack_149 : decode cX8_callsBack 149 = .ok (.iaload, 1) := by decide +kernel
theorem dX8_callsBack_150 : decode cX8_callsBack 150 = .ok (.if_icmp .ge 41, 3) := by decide +kernel
theorem dX8_callsBack_153 : decode cX8_callsBack 153 = .ok (.aload_n 0, 1) := by decide +kernel
theorem dX8_callsBack_154 : decode cX8_callsBack 154 = .ok (.getfield 61, 3) := by decide +kernel
theorem dX8_callsBack_157 : decode cX8_callsBack 157 = .ok (.iload 4, 2) := by decide +kernel
theorem dX8_callsBack_159 : decode cX8_callsBack 159 = .ok (.aload_n 0, 1) := by decide +kernel
theorem dX8_callsBack_160 : decode cX8_callsBack 160 = .ok (.getfield 61, 3) := by decide +kernel
theorem dX8_callsBack_163 : decode cX8_callsBack 163 = .ok (.iload 4, 2) := by decide +kernel
theorem dX8_callsBack_165 : decode cX8_callsBack 165 = .ok (.iconst 1, 1) := by decide +kernel
theorem dX8_callsBack_166 : decode cX8_callsBack 166 = .ok (.iadd, 1) := by decide +kernel
theorem dX8_callsBack_167 : decode cX8_callsBack 167 = .ok (.iaload, 1) := by decide +kernel
theorem dX8_callsBack_168 : decode cX8_callsBack 168 = .ok (.iastore, 1) := by decide +kernel
theorem dX8_callsBack_169 : decode cX8_callsBack 169 = .ok (.aload_n 0, 1) := by decide +kernel
theorem dX8_callsBack_170 : decode cX8_callsBack 170 = .ok (.getfield 64, 3) := by decide +kernel
theorem dX8_callsBack_173 : decode cX8_callsBack 173 = .ok (.iload 4, 2) := by decide +kernel
theorem dX8_callsBack_175 : decode cX8_callsBack 175 = .ok (.aload_n 0, 1) := by decide +kernel
theorem dX8_callsBack_176 : decode cX8_callsBack 176 = .ok (.getfield 64, 3) := by decide +kernel
theorem dX8_callsBack_179 : decode cX8_callsBack 179 = .ok (.iload 4, 2) := by decide +kernel
theorem dX8_callsBack_181 : decode cX8_callsBack 181 = .ok (.iconst 1, 1) := by decide +kernel
theorem dX8_callsBack_182 : decode cX8_callsBack 182 = .ok (.iadd, 1) := by decide +kernel
theorem dX8_callsBack_183 : decode cX8_callsBack 183 = .ok (.iaload, 1) := by decide +kernel
theorem dX8_callsBack_184 : decode cX8_callsBack 184 = .ok (.iastore, 1) := by decide +kernel
theorem dX8_callsBack_185 : decode cX8_callsBack 185 = .ok (.iinc 4 1, 3) := by decide +kernel
theorem dX8_callsBack_188 : decode cX8_callsBack 188 = .ok (.goto (-46), 3) := by decide +kernel
theorem dX8_callsBack_191 : decode cX8_callsBack 191 = .ok (.aload_n 0, 1) := by decide +kernel
theorem dX8_callsBack_192 : decode cX8_callsBack 192 = .ok (.aload_n 0, 1) := by decide +kernel
theorem dX8_callsBack_193 : decode cX8_callsBack 193 = .ok (.getfield 79, 3) := by decide +kernel
theorem dX8_callsBack_196 : decode cX8_callsBack 196 = .ok (.iload_n 2, 1) := by decide +kernel
theorem dX8_callsBack_197 : decode cX8_callsBack 197 = .ok (.iaload, 1) := by decide +kernel
theorem dX8_callsBack_198 : decode cX8_callsBack 198 = .ok (.aload_n 0, 1) := by decide +kernel
theorem dX8_callsBack_199 : decode cX8_callsBack 199 = .ok (.getfield 82, 3) := by decide +kernel
theorem dX8_callsBack_202 : decode cX8_callsBack 202 = .ok (.iload_n 2, 1) := by decide +kernel
theorem dX8_callsBack_203 : decode cX8_callsBack 203 = .ok (.iaload, 1) := by decide +kernel
theorem dX8_callsBack_204 : decode cX8_callsBack 204 = .ok (.invokevirtual 202, 3) := by decide +kernel
theorem dX8_callsBack_207 : decode cX8_callsBack 207 = .ok (.istore 4, 2) := by decide +kernel
theorem dX8_callsBack_209 : decode cX8_callsBack 209 = .ok (.iinc 2 1, 3) := by decide +kernel
theorem dX8_callsBack_212 : decode cX8_callsBack 212 = .ok (.goto (-166), 3) := by decide +kernel
theorem dX8_callsBack_215 : decode cX8_callsBack 215 = .ok (.aload_n 0, 1) := by decide +kernel
theorem dX8_callsBack_216 : decode cX8_callsBack 216 = .ok (.invokevirtual 199, 3) := by decide +kernel
theorem dX8_callsBack_219 : decode cX8_callsBack 219 = .ok (.return_, 1) := by decide +kernel
theorem dX8_tick_0 : decode cX8_tick 0 = .ok (.aload_n 0, 1) := by decide +kernel
theorem dX8_tick_1 : decode cX8_tick 1 = .ok (.getfield 70, 3) := by decide +kernel
theorem dX8_tick_4 : decode cX8_tick 4 = .ok (.iconst 3, 1) := by decide +kernel
theorem dX8_tick_5 : decode cX8_tick 5 = .ok (.iaload, 1) := by decide +kernel
theorem dX8_tick_6 : decode cX8_tick 6 = .ok (.sipush 1000, 3) := by decide +kernel
theorem dX8_tick_9 : decode cX8_tick 9 = .ok (.if_icmp .ne 9, 3) := by decide +kernel
theorem dX8_tick_12 : decode cX8_tick 12 = .ok (.aload_n 0, 1) := by decide +kernel
theorem dX8_tick_13 : decode cX8_tick 13 = .ok (.iconst 2, 1) := by decide +kernel
theorem dX8_tick_14 : decode cX8_tick 14 = .ok (.invokevirtual 113, 3) := by decide +kernel
theorem dX8_tick_17 : decode cX8_tick 17 = .ok (.ireturn, 1) := by decide +kernel
theorem dX8_tick_18 : decode cX8_tick 18 = .ok (.aload_n 0, 1) := by decide +kernel
theorem dX8_tick_19 : decode cX8_tick 19 = .ok (.getfield 70, 3) := by decide +kernel
theorem dX8_tick_22 : decode cX8_tick 22 = .ok (.iconst 3, 1) := by decide +kernel
theorem dX8_tick_23 : decode cX8_tick 23 = .ok (.dup2, 1) := by decide +kernel
theorem dX8_tick_24 : decode cX8_tick 24 = .ok (.iaload, 1) := by decide +kernel
theorem dX8_tick_25 : decode cX8_tick 25 = .ok (.iconst 1, 1) := by decide +kernel
theorem dX8_tick_26 : decode cX8_tick 26 = .ok (.iadd, 1) := by decide +kernel
theorem dX8_tick_27 : decode cX8_tick 27 = .ok (.iastore, 1) := by decide +kernel
theorem dX8_tick_28 : decode cX8_tick 28 = .ok (.iconst 0, 1) := by decide +kernel
theorem dX8_tick_29 : decode cX8_tick 29 = .ok (.istore_n 1, 1) := by decide +kernel
theorem dX8_tick_30 : decode cX8_tick 30 = .ok (.iload_n 1, 1) := by decide +kernel
theorem dX8_tick_31 : decode cX8_tick 31 = .ok (.aload_n 0, 1) := by decide +kernel
theorem dX8_tick_32 : decode cX8_tick 32 = .ok (.getfield 70, 3) := by decide +kernel
theorem dX8_tick_35 : decode cX8_tick 35 = .ok (.iconst 2, 1) := by decide +kernel
theorem dX8_tick_36 : decode cX8_tick 36 = .ok (.iaload, 1) := by decide +kernel
theorem dX8_tick_37 : decode cX8_tick 37 = .ok (.if_icmp .ge 57, 3) := by decide +kernel
theorem dX8_tick_40 : decode cX8_tick 40 = .ok (.iconst 0, 1) := by decide +kernel
theorem dX8_tick_41 : decode cX8_tick 41 = .ok (.istore_n 2, 1) := by decide +kernel
theorem dX8_tick_42 : decode cX8_tick 42 = .ok (.iload_n 2, 1) := by decide +kernel
theorem dX8_tick_43 : decode cX8_tick 43 = .ok (.aload_n 0, 1) := by decide +kernel
theorem dX8_tick_44 : decode cX8_tick 44 = .ok (.getfield 37, 3) := by decide +kernel
theorem dX8_tick_47 : decode cX8_tick 47 = .ok (.iload_n 1, 1) := by decide +kernel
theorem dX8_tick_48 : decode cX8_tick 48 = .ok (.iaload, 1) := by decide +kernel
theorem dX8_tick_49 : decode cX8_tick 49 = .ok (.if_icmp .ge 39, 3) := by decide +kernel
theorem dX8_tick_52 : decode cX8_tick 52 = .ok (.aload_n 0, 1) := by decide +kernel
theorem dX8_tick_53 : decode cX8_tick 53 = .ok (.getfield 31, 3) := by decide +kernel
theorem dX8_tick_56 : decode cX8_tick 56 = .ok (.iload_n 1, 1) := by decide +kernel
theorem dX8_tick_57 : decode cX8_tick 57 = .ok (.iaload, 1) := by decide +kernel
theorem dX8_tick_58 : decode cX8_tick 58 = .ok (.iconst 1, 1) := by decide +kernel
theorem dX8_tick_59 : decode cX8_tick 59 = .ok (.if_icmp .ne 29, 3) := by decide +kernel
theorem dX8_tick_62 : decode cX8_tick 62 = .ok (.aload_n 0, 1) := by decide +kernel
theorem dX8_tick_63 : decode cX8_tick 63 = .ok (.getfield 67, 3) := by decide +kernel
theorem dX8_tick_66 : decode cX8_tick 66 = .ok (.aload_n 0, 1) := by decide +kernel
theorem dX8_tick_67 : decode cX8_tick 67 = .ok (.getfield 43, 3) := by decide +kernel
theorem dX8_tick_70 : decode cX8_tick 70 = .ok (.bipush 9, 2) := by decide +kernel
theorem dX8_tick_72 : decode cX8_tick 72 = .ok (.iload_n 1, 1) := by decide +kernel
theorem dX8_tick_73 : decode cX8_tick 73 = .ok (.imul, 1) := by decide +kernel
theorem dX8_tick_74 : decode cX8_tick 74 = .ok (.iload_n 2, 1) := by decide +kernel
theorem dX8_tick_75 : decode cX8_tick 75 = .ok (.iadd, 1) := by decide +kernel
theorem dX8_tick_76 : decode cX8_tick 76 = .ok (.iaload, 1) := by decide +kernel
theorem dX8_tick_77 : decode cX8_tick 77 = .ok (.dup2, 1) := by decide +kernel
theorem dX8_tick_78 : decode cX8_tick 78 = .ok (.iaload, 1) := by decide +kernel
theorem dX8_tick_79 : decode cX8_tick 79 = .ok (.iconst 1, 1) := by decide +kernel
theorem dX8_tick_80 : decode cX8_tick 80 = .ok (.iadd, 1) := by decide +kernel
theorem dX8_tick_81 : decode cX8_tick 81 = .ok (.iastore, 1) := by decide +kernel
theorem dX8_tick_82 : decode cX8_tick 82 = .ok (.iinc 2 1, 3) := by decide +kernel
theorem dX8_tick_85 : decode cX8_tick 85 = .ok (.goto (-43), 3) := by decide +kernel
theorem dX8_tick_88 : decode cX8_tick 88 = .ok (.iinc 1 1, 3) := by decide +kernel
theorem dX8_tick_91 : decode cX8_tick 91 = .ok (.goto (-61), 3) := by decide +kernel
theorem dX8_tick_94 : decode cX8_tick 94 = .ok (.iconst 0, 1) := by decide +kernel
theorem dX8_tick_95 : decode cX8_tick 95 = .ok (.istore_n 1, 1) := by decide +kernel
theorem dX8_tick_96 : decode cX8_tick 96 = .ok (.iload_n 1, 1) := by decide +kernel
theorem dX8_tick_97 : decode cX8_tick 97 = .ok (.aload_n 0, 1) := by decide +kernel
theorem dX8_tick_98 : decode cX8_tick 98 = .ok (.getfield 70, 3) := by decide +kernel
theorem dX8_tick_101 : decode cX8_tick 101 = .ok (.iconst 2, 1) := by decide +kernel
theorem dX8_tick_102 : decode cX8_tick 102 = .ok (.iaload, 1) := by decide +kernel
theorem dX8_tick_103 : decode cX8_tick 103 = .ok (.if_icmp .ge 30, 3) := by decide +kernel
theorem dX8_tick_106 : decode cX8_tick 106 = .ok (.aload_n 0, 1) := by decide +kernel
theorem dX8_tick_107 : decode cX8_tick 107 = .ok (.getfield 31, 3) := by decide +kernel
theorem dX8_tick_110 : decode cX8_tick 110 = .ok (.iload_n 1, 1) := by decide +kernel
theorem dX8_tick_111 : decode cX8_tick 111 = .ok (.iaload, 1) := by decide +kernel
theorem dX8_tick_112 : decode cX8_tick 112 = .ok (.ifCond .eq 6, 3) := by decide +kernel
theorem dX8_tick_115 : decode cX8_tick 115 = .ok (.goto 12, 3) := by decide +kernel
theorem dX8_tick_118 : decode cX8_tick 118 = .ok (.aload_n 0, 1) := by decide +kernel
theorem dX8_tick_119 : decode cX8_tick 119 = .ok (.iload_n 1, 1) := by decide +kernel
theorem dX8_tick_120 : decode cX8_tick 120 = .ok (.invokevirtual 205, 3) := by decide +kernel
theorem dX8_tick_123 : decode cX8_tick 123 = .ok (.aload_n 0, 1) := by decide +kernel
theorem dX8_tick_124 : decode cX8_tick 124 = .ok (.invokevirtual 199, 3) := by decide +kernel
theorem dX8_tick_127 : decode cX8_tick 127 = .ok (.iinc 1 1, 3) := by decide +kernel
theorem dX8_tick_130 : decode cX8_tick 130 = .ok (.goto (-34), 3) := by decide +kernel
theorem dX8_tick_133 : decode cX8_tick 133 = .ok (.aload_n 0, 1) := by decide +kernel
theorem dX8_tick_134 : decode cX8_tick 134 = .ok (.invokevirtual 209, 3) := by decide +kernel
theorem dX8_tick_137 : decode cX8_tick 137 = .ok (.aload_n 0, 1) := by decide +kernel
theorem dX8_tick_138 : decode cX8_tick 138 = .ok (.aload_n 0, 1) := by decide +kernel
theorem dX8_tick_139 : decode cX8_tick 139 = .ok (.getfield 70, 3) := by decide +kernel
theorem dX8_tick_142 : decode cX8_tick 142 = .ok (.iconst 3, 1) := by decide +kernel
theorem dX8_tick_143 : decode cX8_tick 143 = .ok (.iaload, 1) := by decide +kernel
theorem dX8_tick_144 : decode cX8_tick 144 = .ok (.invokevirtual 117, 3) := by decide +kernel
theorem dX8_tick_147 : decode cX8_tick 147 = .ok (.ireturn, 1) := by decide +kernel
theorem dX8_keeps_0 : decode cX8_keeps 0 = .ok (.iconst 0, 1) := by decide +kernel
theorem dX8_keeps_1 : decode cX8_keeps 1 = .ok (.istore 4, 2) := by decide +kernel
theorem dX8_keeps_3 : decode cX8_keeps 3 = .ok (.iload 4, 2) := by decide +kernel
theorem dX8_keeps_5 : decode cX8_keeps 5 = .ok (.aload_n 2, 1) := by decide +kernel
theorem dX8_keeps_6 : decode cX8_keeps 6 = .ok (.arraylength, 1) := by decide +kernel
theorem dX8_keeps_7 : decode cX8_keeps 7 = .ok (.if_icmp .ge 46, 3) := by decide +kernel
theorem dX8_keeps_10 : decode cX8_keeps 10 = .ok (.iload_n 3, 1) := by decide +kernel
theorem dX8_keeps_11 : decode cX8_keeps 11 = .ok (.ifCond .eq 16, 3) := by decide +kernel
theorem dX8_keeps_14 : decode cX8_keeps 14 = .ok (.aload_n 1, 1) := by decide +kernel
theorem dX8_keeps_15 : decode cX8_keeps 15 = .ok (.aload_n 0, 1) := by decide +kernel
theorem dX8_keeps_16 : decode cX8_keeps 16 = .ok (.getfield 212, 3) := by decide +kernel
theorem dX8_keeps_19 : decode cX8_keeps 19 = .ok (.aload_n 2, 1) := by decide +kernel
theorem dX8_keeps_20 : decode cX8_keeps 20 = .ok (.iload 4, 2) := by decide +kernel
theorem dX8_keeps_22 : decode cX8_keeps 22 = .ok (.iaload, 1) := by decide +kernel
theorem dX8_keeps_23 : decode cX8_keeps 23 = .ok (.iastore, 1) := by decide +kernel
theorem dX8_keeps_24 : decode cX8_keeps 24 = .ok (.goto 13, 3) := by decide +kernel
theorem dX8_keeps_27 : decode cX8_keeps 27 = .ok (.aload_n 2, 1) := by decide +kernel
theorem dX8_keeps_28 : decode cX8_keeps 28 = .ok (.iload 4, 2) := by decide +kernel
theorem dX8_keeps_30 : decode cX8_keeps 30 = .ok (.aload_n 1, 1) := by decide +kernel
theorem dX8_keeps_31 : decode cX8_keeps 31 = .ok (.aload_n 0, 1) := by decide +kernel
theorem dX8_keeps_32 : decode cX8_keeps 32 = .ok (.getfield 212, 3) := by decide +kernel
theorem dX8_keeps_35 : decode cX8_keeps 35 = .ok (.iaload, 1) := by decide +kernel
theorem dX8_keeps_36 : decode cX8_keeps 36 = .ok (.iastore, 1) := by decide +kernel
theorem dX8_keeps_37 : decode cX8_keeps 37 = .ok (.aload_n 0, 1) := by decide +kernel
theorem dX8_keeps_38 : decode cX8_keeps 38 = .ok (.dup, 1) := by decide +kernel
theorem dX8_keeps_39 : decode cX8_keeps 39 = .ok (.getfield 212, 3) := by decide +kernel
theorem dX8_keeps_42 : decode cX8_keeps 42 = .ok (.iconst 1, 1) := by decide +kernel
theorem dX8_keeps_43 : decode cX8_keeps 43 = .ok (.iadd, 1) := by decide +kernel
theorem dX8_keeps_44 : decode cX8_keeps 44 = .ok (.putfield 212, 3) := by decide +kernel
theorem dX8_keeps_47 : decode cX8_keeps 47 = .ok (.iinc 4 1, 3) := by decide +kernel
theorem dX8_keeps_50 : decode cX8_keeps 50 = .ok (.goto (-47), 3) := by decide +kernel
theorem dX8_keeps_53 : decode cX8_keeps 53 = .ok (.return_, 1) := by decide +kernel
theorem dX8_keepsAll_0 : decode cX8_keepsAll 0 = .ok (.aload_n 0, 1) := by decide +kernel
theorem dX8_keepsAll_1 : decode cX8_keepsAll 1 = .ok (.iconst 0, 1) := by decide +kernel
theorem dX8_keepsAll_2 : decode cX8_keepsAll 2 = .ok (.putfield 212, 3) := by decide +kernel
theorem dX8_keepsAll_5 : decode cX8_keepsAll 5 = .ok (.aload_n 0, 1) := by decide +kernel
theorem dX8_keepsAll_6 : decode cX8_keepsAll 6 = .ok (.aload_n 1, 1) := by decide +kernel
theorem dX8_keepsAll_7 : decode cX8_keepsAll 7 = .ok (.aload_n 0, 1) := by decide +kernel
theorem dX8_keepsAll_8 : decode cX8_keepsAll 8 = .ok (.getfield 7, 3) := by decide +kernel
theorem dX8_keepsAll_11 : decode cX8_keepsAll 11 = .ok (.iload_n 2, 1) := by decide +kernel
theorem dX8_keepsAll_12 : decode cX8_keepsAll 12 = .ok (.invokevirtual 215, 3) := by decide +kernel
theorem dX8_keepsAll_15 : decode cX8_keepsAll 15 = .ok (.aload_n 0, 1) := by decide +kernel
theorem dX8_keepsAll_16 : decode cX8_keepsAll 16 = .ok (.aload_n 1, 1) := by decide +kernel
theorem dX8_keepsAll_17 : decode cX8_keepsAll 17 = .ok (.aload_n 0, 1) := by decide +kernel
theorem dX8_keepsAll_18 : decode cX8_keepsAll 18 = .ok (.getfield 13, 3) := by decide +kernel
theorem dX8_keepsAll_21 : decode cX8_keepsAll 21 = .ok (.iload_n 2, 1) := by decide +kernel
theorem dX8_keepsAll_22 : decode cX8_keepsAll 22 = .ok (.invokevirtual 215, 3) := by decide +kernel
theorem dX8_keepsAll_25 : decode cX8_keepsAll 25 = .ok (.aload_n 0, 1) := by decide +kernel
theorem dX8_keepsAll_26 : decode cX8_keepsAll 26 = .ok (.aload_n 1, 1) := by decide +kernel
theorem dX8_keepsAll_27 : decode cX8_keepsAll 27 = .ok (.aload_n 0, 1) := by decide +kernel
theorem dX8_keepsAll_28 : decode cX8_keepsAll 28 = .ok (.getfield 16, 3) := by decide +kernel
theorem dX8_keepsAll_31 : decode cX8_keepsAll 31 = .ok (.iload_n 2, 1) := by decide +kernel
theorem dX8_keepsAll_32 : decode cX8_keepsAll 32 = .ok (.invokevirtual 215, 3) := by decide +kernel
theorem dX8_keepsAll_35 : decode cX8_keepsAll 35 = .ok (.aload_n 0, 1) := by decide +kernel
theorem dX8_keepsAll_36 : decode cX8_keepsAll 36 = .ok (.aload_n 1, 1) := by decide +kernel
theorem dX8_keepsAll_37 : decode cX8_keepsAll 37 = .ok (.aload_n 0, 1) := by decide +kernel
theorem dX8_keepsAll_38 : decode cX8_keepsAll 38 = .ok (.getfield 19, 3) := by decide +kernel
theorem dX8_keepsAll_41 : decode cX8_keepsAll 41 = .ok (.iload_n 2, 1) := by decide +kernel
theorem dX8_keepsAll_42 : decode cX8_keepsAll 42 = .ok (.invokevirtual 215, 3) := by decide +kernel
theorem dX8_keepsAll_45 : decode cX8_keepsAll 45 = .ok (.aload_n 0, 1) := by decide +kernel
theorem dX8_keepsAll_46 : decode cX8_keepsAll 46 = .ok (.aload_n 1, 1) := by decide +kernel
theorem dX8_keepsAll_47 : decode cX8_keepsAll 47 = .ok (.aload_n 0, 1) := by decide +kernel
theorem dX8_keepsAll_48 : decode cX8_keepsAll 48 = .ok (.getfield 22, 3) := by decide +kernel
theorem dX8_keepsAll_51 : decode cX8_keepsAll 51 = .ok (.iload_n 2, 1) := by decide +kernel
theorem dX8_keepsAll_52 : decode cX8_keepsAll 52 = .ok (.invokevirtual 215, 3) := by decide +kernel
theorem dX8_keepsAll_55 : decode cX8_keepsAll 55 = .ok (.aload_n 0, 1) := by decide +kernel
theorem dX8_keepsAll_56 : decode cX8_keepsAll 56 = .ok (.aload_n 1, 1) := by decide +kernel
theorem dX8_keepsAll_57 : decode cX8_keepsAll 57 = .ok (.aload_n 0, 1) := by decide +kernel
theorem dX8_keepsAll_58 : decode cX8_keepsAll 58 = .ok (.getfield 25, 3) := by decide +kernel
theorem dX8_keepsAll_61 : decode cX8_keepsAll 61 = .ok (.iload_n 2, 1) := by decide +kernel
theorem dX8_keepsAll_62 : decode cX8_keepsAll 62 = .ok (.invokevirtual 215, 3) := by decide +kernel
theorem dX8_keepsAll_65 : decode cX8_keepsAll 65 = .ok (.aload_n 0, 1) := by decide +kernel
theorem dX8_keepsAll_66 : decode cX8_keepsAll 66 = .ok (.aload_n 1, 1) := by decide +kernel
theorem dX8_keepsAll_67 : decode cX8_keepsAll 67 = .ok (.aload_n 0, 1) := by decide +kernel
theorem dX8_keepsAll_68 : decode cX8_keepsAll 68 = .ok (.getfield 28, 3) := by decide +kernel
theorem dX8_keepsAll_71 : decode cX8_keepsAll 71 = .ok (.iload_n 2, 1) := by decide +kernel
theorem dX8_keepsAll_72 : decode cX8_keepsAll 72 = .ok (.invokevirtual 215, 3) := by decide +kernel
theorem dX8_keepsAll_75 : decode cX8_keepsAll 75 = .ok (.aload_n 0, 1) := by decide +kernel
theorem dX8_keepsAll_76 : decode cX8_keepsAll 76 = .ok (.aload_n 1, 1) := by decide +kernel
theorem dX8_keepsAll_77 : decode cX8_keepsAll 77 = .ok (.aload_n 0, 1) := by decide +kernel
theorem dX8_keepsAll_78 : decode cX8_keepsAll 78 = .ok (.getfield 31, 3) := by decide +kernel
theorem dX8_keepsAll_81 : decode cX8_keepsAll 81 = .ok (.iload_n 2, 1) := by decide +kernel
theorem dX8_keepsAll_82 : decode cX8_keepsAll 82 = .ok (.invokevirtual 215, 3) := by decide +kernel
theorem dX8_keepsAll_85 : decode cX8_keepsAll 85 = .ok (.aload_n 0, 1) := by decide +kernel
theorem dX8_keepsAll_86 : decode cX8_keepsAll 86 = .ok (.aload_n 1, 1) := by decide +kernel
theorem dX8_keepsAll_87 : decode cX8_keepsAll 87 = .ok (.aload_n 0, 1) := by decide +kernel
theorem dX8_keepsAll_88 : decode cX8_keepsAll 88 = .ok (.getfield 34, 3) := by decide +kernel
theorem dX8_keepsAll_91 : decode cX8_keepsAll 91 = .ok (.iload_n 2, 1) := by decide +kernel
theorem dX8_keepsAll_92 : decode cX8_keepsAll 92 = .ok (.invokevirtual 215, 3) := by decide +kernel
theorem dX8_keepsAll_95 : decode cX8_keepsAll 95 = .ok (.aload_n 0, 1) := by decide +kernel
theorem dX8_keepsAll_96 : decode cX8_keepsAll 96 = .ok (.aload_n 1, 1) := by decide +kernel
theorem dX8_keepsAll_97 : decode cX8_keepsAll 97 = .ok (.aload_n 0, 1) := by decide +kernel
theorem dX8_keepsAll_98 : decode cX8_keepsAll 98 = .ok (.getfield 37, 3) := by decide +kernel
theorem dX8_keepsAll_101 : decode cX8_keepsAll 101 = .ok (.iload_n 2, 1) := by decide +kernel
theorem dX8_keepsAll_102 : decode cX8_keepsAll 102 = .ok (.invokevirtual 215, 3) := by decide +kernel
theorem dX8_keepsAll_105 : decode cX8_keepsAll 105 = .ok (.aload_n 0, 1) := by decide +kernel
theorem dX8_keepsAll_106 : decode cX8_keepsAll 106 = .ok (.aload_n 1, 1) := by decide +kernel
theorem dX8_keepsAll_107 : decode cX8_keepsAll 107 = .ok (.aload_n 0, 1) := by decide +kernel
theorem dX8_keepsAll_108 : decode cX8_keepsAll 108 = .ok (.getfield 40, 3) := by decide +kernel
theorem dX8_keepsAll_111 : decode cX8_keepsAll 111 = .ok (.iload_n 2, 1) := by decide +kernel
theorem dX8_keepsAll_112 : decode cX8_keepsAll 112 = .ok (.invokevirtual 215, 3) := by decide +kernel
theorem dX8_keepsAll_115 : decode cX8_keepsAll 115 = .ok (.aload_n 0, 1) := by decide +kernel
theorem dX8_keepsAll_116 : decode cX8_keepsAll 116 = .ok (.aload_n 1, 1) := by decide +kernel
theorem dX8_keepsAll_117 : decode cX8_keepsAll 117 = .ok (.aload_n 0, 1) := by decide +kernel
theorem dX8_keepsAll_118 : decode cX8_keepsAll 118 = .ok (.getfield 43, 3) := by decide +kernel
theorem dX8_keepsAll_121 : decode cX8_keepsAll 121 = .ok (.iload_n 2, 1) := by decide +kernel
theorem dX8_keepsAll_122 : decode cX8_keepsAll 122 = .ok (.invokevirtual 215, 3) := by decide +kernel
theorem dX8_keepsAll_125 : decode cX8_keepsAll 125 = .ok (.aload_n 0, 1) := by decide +kernel
theorem dX8_keepsAll_126 : decode cX8_keepsAll 126 = .ok (.aload_n 1, 1) := by decide +kernel
theorem dX8_keepsAll_127 : decode cX8_keepsAll 127 = .ok (.aload_n 0, 1) := by decide +kernel
theorem dX8_keepsAll_128 : decode cX8_keepsAll 128 = .ok (.getfield 46, 3) := by decide +kernel
theorem dX8_keepsAll_131 : decode cX8_keepsAll 131 = .ok (.iload_n 2, 1) := by decide +kernel
theorem dX8_keepsAll_132 : decode cX8_keepsAll 132 = .ok (.invokevirtual 215, 3) := by decide +kernel
theorem dX8_keepsAll_135 : decode cX8_keepsAll 135 = .ok (.aload_n 0, 1) := by decide +kernel
theorem dX8_keepsAll_136 : decode cX8_keepsAll 136 = .ok (.aload_n 1, 1) := by decide +kernel
theorem dX8_keepsAll_137 : decode cX8_keepsAll 137 = .ok (.aload_n 0, 1) := by decide +kernel
theorem dX8_keepsAll_138 : decode cX8_keepsAll 138 = .ok (.getfield 49, 3) := by decide +kernel
theorem dX8_keepsAll_141 : decode cX8_keepsAll 141 = .ok (.iload_n 2, 1) := by decide +kernel
theorem dX8_keepsAll_142 : decode cX8_keepsAll 142 = .ok (.invokevirtual 215, 3) := by decide +kernel
theorem dX8_keepsAll_145 : decode cX8_keepsAll 145 = .ok (.aload_n 0, 1) := by decide +kernel
theorem dX8_keepsAll_146 : decode cX8_keepsAll 146 = .ok (.aload_n 1, 1) := by decide +kernel
theorem dX8_keepsAll_147 : decode cX8_keepsAll 147 = .ok (.aload_n 0, 1) := by decide +kernel
theorem dX8_keepsAll_148 : decode cX8_keepsAll 148 = .ok (.getfield 52, 3) := by decide +kernel
theorem dX8_keepsAll_151 : decode cX8_keepsAll 151 = .ok (.iload_n 2, 1) := by decide +kernel
theorem dX8_keepsAll_152 : decode cX8_keepsAll 152 = .ok (.invokevirtual 215, 3) := by decide +kernel
theorem dX8_keepsAll_155 : decode cX8_keepsAll 155 = .ok (.aload_n 0, 1) := by decide +kernel
theorem dX8_keepsAll_156 : decode cX8_keepsAll 156 = .ok (.aload_n 1, 1) := by decide +kernel
theorem dX8_keepsAll_157 : decode cX8_keepsAll 157 = .ok (.aload_n 0, 1) := by decide +kernel
theorem dX8_keepsAll_158 : decode cX8_keepsAll 158 = .ok (.getfield 55, 3) := by decide +kernel
theorem dX8_keepsAll_161 : decode cX8_keepsAll 161 = .ok (.iload_n 2, 1) := by decide +kernel
theorem dX8_keepsAll_162 : decode cX8_keepsAll 162 = .ok (.invokevirtual 215, 3) := by decide +kernel
theorem dX8_keepsAll_165 : decode cX8_keepsAll 165 = .ok (.aload_n 0, 1) := by decide +kernel
theorem dX8_keepsAll_166 : decode cX8_keepsAll 166 = .ok (.aload_n 1, 1) := by decide +kernel
theorem dX8_keepsAll_167 : decode cX8_keepsAll 167 = .ok (.aload_n 0, 1) := by decide +kernel
theorem dX8_keepsAll_168 : decode cX8_keepsAll 168 = .ok (.getfield 58, 3) := by decide +kernel
theorem dX8_keepsAll_171 : decode cX8_keepsAll 171 = .ok (.iload_n 2, 1) := by decide +kernel
theorem dX8_keepsAll_172 : decode cX8_keepsAll 172 = .ok (.invokevirtual 215, 3) := by decide +kernel
theorem dX8_keepsAll_175 : decode cX8_keepsAll 175 = .ok (.aload_n 0, 1) := by decide +kernel
theorem dX8_keepsAll_176 : decode cX8_keepsAll 176 = .ok (.aload_n 1, 1) := by decide +kernel
theorem dX8_keepsAll_177 : decode cX8_keepsAll 177 = .ok (.aload_n 0, 1) := by decide +kernel
theorem dX8_keepsAll_178 : decode cX8_keepsAll 178 = .ok (.getfield 61, 3) := by decide +kernel
theorem dX8_keepsAll_181 : decode cX8_keepsAll 181 = .ok (.iload_n 2, 1) := by decide +kernel
theorem dX8_keepsAll_182 : decode cX8_keepsAll 182 = .ok (.invokevirtual 215, 3) := by decide +kernel
theorem dX8_keepsAll_185 : decode cX8_keepsAll 185 = .ok (.aload_n 0, 1) := by decide +kernel
theorem dX8_keepsAll_186 : decode cX8_keepsAll 186 = .ok (.aload_n 1, 1) := by decide +kernel
theorem dX8_keepsAll_187 : decode cX8_keepsAll 187 = .ok (.aload_n 0, 1) := by decide +kernel
theorem dX8_keepsAll_188 : decode cX8_keepsAll 188 = .ok (.getfield 64, 3) := by decide +kernel
theorem dX8_keepsAll_191 : decode cX8_keepsAll 191 = .ok (.iload_n 2, 1) := by decide +kernel
theorem dX8_keepsAll_192 : decode cX8_keepsAll 192 = .ok (.invokevirtual 215, 3) := by decide +kernel
theorem dX8_keepsAll_195 : decode cX8_keepsAll 195 = .ok (.aload_n 0, 1) := by decide +kernel
theorem dX8_keepsAll_196 : decode cX8_keepsAll 196 = .ok (.aload_n 1, 1) := by decide +kernel
theorem dX8_keepsAll_197 : decode cX8_keepsAll 197 = .ok (.aload_n 0, 1) := by decide +kernel
theorem dX8_keepsAll_198 : decode cX8_keepsAll 198 = .ok (.getfield 67, 3) := by decide +kernel
theorem dX8_keepsAll_201 : decode cX8_keepsAll 201 = .ok (.iload_n 2, 1) := by decide +kernel
theorem dX8_keepsAll_202 : decode cX8_keepsAll 202 = .ok (.invokevirtual 215, 3) := by decide +kernel
theorem dX8_keepsAll_205 : decode cX8_keepsAll 205 = .ok (.aload_n 0, 1) := by decide +kernel
theorem dX8_keepsAll_206 : decode cX8_keepsAll 206 = .ok (.aload_n 1, 1) := by decide +kernel
theorem dX8_keepsAll_207 : decode cX8_keepsAll 207 = .ok (.aload_n 0, 1) := by decide +kernel
theorem dX8_keepsAll_208 : decode cX8_keepsAll 208 = .ok (.getfield 70, 3) := by decide +kernel
theorem dX8_keepsAll_211 : decode cX8_keepsAll 211 = .ok (.iload_n 2, 1) := by decide +kernel
theorem dX8_keepsAll_212 : decode cX8_keepsAll 212 = .ok (.invokevirtual 215, 3) := by decide +kernel
theorem dX8_keepsAll_215 : decode cX8_keepsAll 215 = .ok (.return_, 1) := by decide +kernel
theorem dX8_image_0 : decode cX8_image 0 = .ok (.aload_n 0, 1) := by decide +kernel
theorem dX8_image_1 : decode cX8_image 1 = .ok (.aload_n 0, 1) := by decide +kernel
theorem dX8_image_2 : decode cX8_image 2 = .ok (.getfield 73, 3) := by decide +kernel
theorem dX8_image_5 : decode cX8_image 5 = .ok (.iconst 1, 1) := by decide +kernel
theorem dX8_image_6 : decode cX8_image 6 = .ok (.invokevirtual 219, 3) := by decide +kernel
theorem dX8_image_9 : decode cX8_image 9 = .ok (.aload_n 0, 1) := by decide +kernel
theorem dX8_image_10 : decode cX8_image 10 = .ok (.iconst 1, 1) := by decide +kernel
theorem dX8_image_11 : decode cX8_image 11 = .ok (.putfield 223, 3) := by decide +kernel
theorem dX8_image_14 : decode cX8_image 14 = .ok (.aload_n 0, 1) := by decide +kernel
theorem dX8_image_15 : decode cX8_image 15 = .ok (.iconst 1, 1) := by decide +kernel
theorem dX8_image_16 : decode cX8_image 16 = .ok (.invokevirtual 117, 3) := by decide +kernel
theorem dX8_image_19 : decode cX8_image 19 = .ok (.ireturn, 1) := by decide +kernel
theorem dX8_restore_0 : decode cX8_restore 0 = .ok (.aload_n 0, 1) := by decide +kernel
theorem dX8_restore_1 : decode cX8_restore 1 = .ok (.getfield 227, 3) := by decide +kernel
theorem dX8_restore_4 : decode cX8_restore 4 = .ok (.bipush 10, 2) := by decide +kernel
theorem dX8_restore_6 : decode cX8_restore 6 = .ok (.if_icmp .ne 9, 3) := by decide +kernel
theorem dX8_restore_9 : decode cX8_restore 9 = .ok (.aload_n 0, 1) := by decide +kernel
theorem dX8_restore_10 : decode cX8_restore 10 = .ok (.iconst 2, 1) := by decide +kernel
theorem dX8_restore_11 : decode cX8_restore 11 = .ok (.invokevirtual 113, 3) := by decide +kernel
theorem dX8_restore_14 : decode cX8_restore 14 = .ok (.ireturn, 1) := by decide +kernel
theorem dX8_restore_15 : decode cX8_restore 15 = .ok (.aload_n 0, 1) := by decide +kernel
theorem dX8_restore_16 : decode cX8_restore 16 = .ok (.getfield 223, 3) := by decide +kernel
theorem dX8_restore_19 : decode cX8_restore 19 = .ok (.ifCond .ne 9, 3) := by decide +kernel
theorem dX8_restore_22 : decode cX8_restore 22 = .ok (.aload_n 0, 1) := by decide +kernel
theorem dX8_restore_23 : decode cX8_restore 23 = .ok (.iconst 3, 1) := by decide +kernel
theorem dX8_restore_24 : decode cX8_restore 24 = .ok (.invokevirtual 113, 3) := by decide +kernel
theorem dX8_restore_27 : decode cX8_restore 27 = .ok (.ireturn, 1) := by decide +kernel
theorem dX8_restore_28 : decode cX8_restore 28 = .ok (.aload_n 0, 1) := by decide +kernel
theorem dX8_restore_29 : decode cX8_restore 29 = .ok (.dup, 1) := by decide +kernel
theorem dX8_restore_30 : decode cX8_restore 30 = .ok (.getfield 227, 3) := by decide +kernel
theorem dX8_restore_33 : decode cX8_restore 33 = .ok (.iconst 1, 1) := by decide +kernel
theorem dX8_restore_34 : decode cX8_restore 34 = .ok (.iadd, 1) := by decide +kernel
theorem dX8_restore_35 : decode cX8_restore 35 = .ok (.putfield 227, 3) := by decide +kernel
theorem dX8_restore_38 : decode cX8_restore 38 = .ok (.aload_n 0, 1) := by decide +kernel
theorem dX8_restore_39 : decode cX8_restore 39 = .ok (.aload_n 0, 1) := by decide +kernel
theorem dX8_restore_40 : decode cX8_restore 40 = .ok (.getfield 73, 3) := by decide +kernel
theorem dX8_restore_43 : decode cX8_restore 43 = .ok (.iconst 0, 1) := by decide +kernel
theorem dX8_restore_44 : decode cX8_restore 44 = .ok (.invokevirtual 219, 3) := by decide +kernel
theorem dX8_restore_47 : decode cX8_restore 47 = .ok (.aload_n 0, 1) := by decide +kernel
theorem dX8_restore_48 : decode cX8_restore 48 = .ok (.aload_n 0, 1) := by decide +kernel
theorem dX8_restore_49 : decode cX8_restore 49 = .ok (.getfield 70, 3) := by decide +kernel
theorem dX8_restore_52 : decode cX8_restore 52 = .ok (.iconst 3, 1) := by decide +kernel
theorem dX8_restore_53 : decode cX8_restore 53 = .ok (.iaload, 1) := by decide +kernel
theorem dX8_restore_54 : decode cX8_restore 54 = .ok (.invokevirtual 117, 3) := by decide +kernel
theorem dX8_restore_57 : decode cX8_restore 57 = .ok (.ireturn, 1) := by decide +kernel
theorem dX8_wishTold_0 : decode cX8_wishTold 0 = .ok (.aload_n 0, 1) := by decide +kernel
theorem dX8_wishTold_1 : decode cX8_wishTold 1 = .ok (.iload_n 1, 1) := by decide +kernel
theorem dX8_wishTold_2 : decode cX8_wishTold 2 = .ok (.invokevirtual 142, 3) := by decide +kernel
theorem dX8_wishTold_5 : decode cX8_wishTold 5 = .ok (.ifCond .ne 5, 3) := by decide +kernel
theorem dX8_wishTold_8 : decode cX8_wishTold 8 = .ok (.iconst (-1), 1) := by decide +kernel
theorem dX8_wishTold_9 : decode cX8_wishTold 9 = .ok (.ireturn, 1) := by decide +kernel
theorem dX8_wishTold_10 : decode cX8_wishTold 10 = .ok (.iload_n 2, 1) := by decide +kernel
theorem dX8_wishTold_11 : decode cX8_wishTold 11 = .ok (.tableswitch 79 0 5 #[37, 44, 51, 58, 65, 72], 37) := by decide +kernel
theorem dX8_wishTold_48 : decode cX8_wishTold 48 = .ok (.aload_n 0, 1) := by decide +kernel
theorem dX8_wishTold_49 : decode cX8_wishTold 49 = .ok (.getfield 7, 3) := by decide +kernel
theorem dX8_wishTold_52 : decode cX8_wishTold 52 = .ok (.iload_n 1, 1) := by decide +kernel
theorem dX8_wishTold_53 : decode cX8_wishTold 53 = .ok (.iaload, 1) := by decide +kernel
theorem dX8_wishTold_54 : decode cX8_wishTold 54 = .ok (.ireturn, 1) := by decide +kernel
theorem dX8_wishTold_55 : decode cX8_wishTold 55 = .ok (.aload_n 0, 1) := by decide +kernel
theorem dX8_wishTold_56 : decode cX8_wishTold 56 = .ok (.getfield 13, 3) := by decide +kernel
theorem dX8_wishTold_59 : decode cX8_wishTold 59 = .ok (.iload_n 1, 1) := by decide +kernel
theorem dX8_wishTold_60 : decode cX8_wishTold 60 = .ok (.iaload, 1) := by decide +kernel
theorem dX8_wishTold_61 : decode cX8_wishTold 61 = .ok (.ireturn, 1) := by decide +kernel
theorem dX8_wishTold_62 : decode cX8_wishTold 62 = .ok (.aload_n 0, 1) := by decide +kernel
theorem dX8_wishTold_63 : decode cX8_wishTold 63 = .ok (.getfield 16, 3) := by decide +kernel
theorem dX8_wishTold_66 : decode cX8_wishTold 66 = .ok (.iload_n 1, 1) := by decide +kernel
theorem dX8_wishTold_67 : decode cX8_wishTold 67 = .ok (.iaload, 1) := by decide +kernel
theorem dX8_wishTold_68 : decode cX8_wishTold 68 = .ok (.ireturn, 1) := by decide +kernel
theorem dX8_wishTold_69 : decode cX8_wishTold 69 = .ok (.aload_n 0, 1) := by decide +kernel
theorem dX8_wishTold_70 : decode cX8_wishTold 70 = .ok (.getfield 19, 3) := by decide +kernel
theorem dX8_wishTold_73 : decode cX8_wishTold 73 = .ok (.iload_n 1, 1) := by decide +kernel
theorem dX8_wishTold_74 : decode cX8_wishTold 74 = .ok (.iaload, 1) := by decide +kernel
theorem dX8_wishTold_75 : decode cX8_wishTold 75 = .ok (.ireturn, 1) := by decide +kernel
theorem dX8_wishTold_76 : decode cX8_wishTold 76 = .ok (.aload_n 0, 1) := by decide +kernel
theorem dX8_wishTold_77 : decode cX8_wishTold 77 = .ok (.getfield 22, 3) := by decide +kernel
theorem dX8_wishTold_80 : decode cX8_wishTold 80 = .ok (.iload_n 1, 1) := by decide +kernel
theorem dX8_wishTold_81 : decode cX8_wishTold 81 = .ok (.iaload, 1) := by decide +kernel
theorem dX8_wishTold_82 : decode cX8_wishTold 82 = .ok (.ireturn, 1) := by decide +kernel
theorem dX8_wishTold_83 : decode cX8_wishTold 83 = .ok (.aload_n 0, 1) := by decide +kernel
theorem dX8_wishTold_84 : decode cX8_wishTold 84 = .ok (.getfield 25, 3) := by decide +kernel
theorem dX8_wishTold_87 : decode cX8_wishTold 87 = .ok (.iload_n 1, 1) := by decide +kernel
theorem dX8_wishTold_88 : decode cX8_wishTold 88 = .ok (.iaload, 1) := by decide +kernel
theorem dX8_wishTold_89 : decode cX8_wishTold 89 = .ok (.ireturn, 1) := by decide +kernel
theorem dX8_wishTold_90 : decode cX8_wishTold 90 = .ok (.iconst (-1), 1) := by decide +kernel
theorem dX8_wishTold_91 : decode cX8_wishTold 91 = .ok (.ireturn, 1) := by decide +kernel
theorem dX8_lineTold_0 : decode cX8_lineTold 0 = .ok (.aload_n 0, 1) := by decide +kernel
theorem dX8_lineTold_1 : decode cX8_lineTold 1 = .ok (.iload_n 1, 1) := by decide +kernel
theorem dX8_lineTold_2 : decode cX8_lineTold 2 = .ok (.invokevirtual 120, 3) := by decide +kernel
theorem dX8_lineTold_5 : decode cX8_lineTold 5 = .ok (.ifCond .eq 7, 3) := by decide +kernel
theorem dX8_lineTold_8 : decode cX8_lineTold 8 = .ok (.iload_n 2, 1) := by decide +kernel
theorem dX8_lineTold_9 : decode cX8_lineTold 9 = .ok (.ifCond .ge 5, 3) := by decide +kernel
theorem dX8_lineTold_12 : decode cX8_lineTold 12 = .ok (.iconst (-1), 1) := by decide +kernel
theorem dX8_lineTold_13 : decode cX8_lineTold 13 = .ok (.ireturn, 1) := by decide +kernel
theorem dX8_lineTold_14 : decode cX8_lineTold 14 = .ok (.aload_n 0, 1) := by decide +kernel
theorem dX8_lineTold_15 : decode cX8_lineTold 15 = .ok (.iload_n 1, 1) := by decide +kernel
theorem dX8_lineTold_16 : decode cX8_lineTold 16 = .ok (.invokevirtual 145, 3) := by decide +kernel
theorem dX8_lineTold_19 : decode cX8_lineTold 19 = .ok (.istore_n 3, 1) := by decide +kernel
theorem dX8_lineTold_20 : decode cX8_lineTold 20 = .ok (.iconst 0, 1) := by decide +kernel
theorem dX8_lineTold_21 : decode cX8_lineTold 21 = .ok (.istore 4, 2) := by decide +kernel
theorem dX8_lineTold_23 : decode cX8_lineTold 23 = .ok (.iload_n 2, 1) := by decide +kernel
theorem dX8_lineTold_24 : decode cX8_lineTold 24 = .ok (.tableswitch 125 0 4 #[36, 38, 44, 51, 75], 36) := by decide +kernel
theorem dX8_lineTold_60 : decode cX8_lineTold 60 = .ok (.iload_n 3, 1) := by decide +kernel
theorem dX8_lineTold_61 : decode cX8_lineTold 61 = .ok (.ireturn, 1) := by decide +kernel
theorem dX8_lineTold_62 : decode cX8_lineTold 62 = .ok (.aload_n 0, 1) := by decide +kernel
theorem dX8_lineTold_63 : decode cX8_lineTold 63 = .ok (.iload_n 1, 1) := by decide +kernel
theorem dX8_lineTold_64 : decode cX8_lineTold 64 = .ok (.invokevirtual 154, 3) := by decide +kernel
theorem dX8_lineTold_67 : decode cX8_lineTold 67 = .ok (.ireturn, 1) := by decide +kernel
theorem dX8_lineTold_68 : decode cX8_lineTold 68 = .ok (.aload_n 0, 1) := by decide +kernel
theorem dX8_lineTold_69 : decode cX8_lineTold 69 = .ok (.getfield 67, 3) := by decide +kernel
theorem dX8_lineTold_72 : decode cX8_lineTold 72 = .ok (.iload_n 1, 1) := by decide +kernel
theorem dX8_lineTold_73 : decode cX8_lineTold 73 = .ok (.iaload, 1) := by decide +kernel
theorem dX8_lineTold_74 : decode cX8_lineTold 74 = .ok (.ireturn, 1) := by decide +kernel
theorem dX8_lineTold_75 : decode cX8_lineTold 75 = .ok (.iload_n 3, 1) := by decide +kernel
theorem dX8_lineTold_76 : decode cX8_lineTold 76 = .ok (.ifCond .lt 21, 3) := by decide +kernel
theorem dX8_lineTold_79 : decode cX8_lineTold 79 = .ok (.aload_n 0, 1) := by decide +kernel
theorem dX8_lineTold_80 : decode cX8_lineTold 80 = .ok (.getfield 46, 3) := by decide +kernel
theorem dX8_lineTold_83 : decode cX8_lineTold 83 = .ok (.iload_n 3, 1) := by decide +kernel
theorem dX8_lineTold_84 : decode cX8_lineTold 84 = .ok (.iaload, 1) := by decide +kernel
theorem dX8_lineTold_85 : decode cX8_lineTold 85 = .ok (.iload_n 1, 1) := by decide +kernel
theorem dX8_lineTold_86 : decode cX8_lineTold 86 = .ok (.ishr, 1) := by decide +kernel
theorem dX8_lineTold_87 : decode cX8_lineTold 87 = .ok (.iconst 1, 1) := by decide +kernel
theorem dX8_lineTold_88 : decode cX8_lineTold 88 = .ok (.iand, 1) := by decide +kernel
theorem dX8_lineTold_89 : decode cX8_lineTold 89 = .ok (.iconst 1, 1) := by decide +kernel
theorem dX8_lineTold_90 : decode cX8_lineTold 90 = .ok (.if_icmp .ne 7, 3) := by decide +kernel
theorem dX8_lineTold_93 : decode cX8_lineTold 93 = .ok (.iconst 1, 1) := by decide +kernel
theorem dX8_lineTold_94 : decode cX8_lineTold 94 = .ok (.goto 4, 3) := by decide +kernel
theorem dX8_lineTold_97 : decode cX8_lineTold 97 = .ok (.iconst 0, 1) := by decide +kernel
theorem dX8_lineTold_98 : decode cX8_lineTold 98 = .ok (.ireturn, 1) := by decide +kernel
theorem dX8_lineTold_99 : decode cX8_lineTold 99 = .ok (.iconst 0, 1) := by decide +kernel
theorem dX8_lineTold_100 : decode cX8_lineTold 100 = .ok (.istore 5, 2) := by decide +kernel
theorem dX8_lineTold_102 : decode cX8_lineTold 102 = .ok (.iload 5, 2) := by decide +kernel
theorem dX8_lineTold_104 : decode cX8_lineTold 104 = .ok (.aload_n 0, 1) := by decide +kernel
theorem dX8_lineTold_105 : decode cX8_lineTold 105 = .ok (.getfield 70, 3) := by decide +kernel
theorem dX8_lineTold_108 : decode cX8_lineTold 108 = .ok (.iconst 1, 1) := by decide +kernel
theorem dX8_lineTold_109 : decode cX8_lineTold 109 = .ok (.iaload, 1) := by decide +kernel
theorem dX8_lineTold_110 : decode cX8_lineTold 110 = .ok (.if_icmp .ge 36, 3) := by decide +kernel
theorem dX8_lineTold_113 : decode cX8_lineTold 113 = .ok (.iload 4, 2) := by decide +kernel
theorem dX8_lineTold_115 : decode cX8_lineTold 115 = .ok (.aload_n 0, 1) := by decide +kernel
theorem dX8_lineTold_116 : decode cX8_lineTold 116 = .ok (.getfield 7, 3) := by decide +kernel
theorem dX8_lineTold_119 : decode cX8_lineTold 119 = .ok (.iload 5, 2) := by decide +kernel
theorem dX8_lineTold_121 : decode cX8_lineTold 121 = .ok (.iaload, 1) := by decide +kernel
theorem dX8_lineTold_122 : decode cX8_lineTold 122 = .ok (.iload_n 1, 1) := by decide +kernel
theorem dX8_lineTold_123 : decode cX8_lineTold 123 = .ok (.if_icmp .ne 13, 3) := by decide +kernel
theorem dX8_lineTold_126 : decode cX8_lineTold 126 = .ok (.aload_n 0, 1) := by decide +kernel
theorem dX8_lineTold_127 : decode cX8_lineTold 127 = .ok (.getfield 25, 3) := by decide +kernel
theorem dX8_lineTold_130 : decode cX8_lineTold 130 = .ok (.iload 5, 2) := by decide +kernel
theorem dX8_lineTold_132 : decode cX8_lineTold 132 = .ok (.iaload, 1) := by decide +kernel
theorem dX8_lineTold_133 : decode cX8_lineTold 133 = .ok (.goto 4, 3) := by decide +kernel
theorem dX8_lineTold_136 : decode cX8_lineTold 136 = .ok (.iconst 0, 1) := by decide +kernel
theorem dX8_lineTold_137 : decode cX8_lineTold 137 = .ok (.iadd, 1) := by decide +kernel
theorem dX8_lineTold_138 : decode cX8_lineTold 138 = .ok (.istore 4, 2) := by decide +kernel
theorem dX8_lineTold_140 : decode cX8_lineTold 140 = .ok (.iinc 5 1, 3) := by decide +kernel
theorem dX8_lineTold_143 : decode cX8_lineTold 143 = .ok (.goto (-41), 3) := by decide +kernel
theorem dX8_lineTold_146 : decode cX8_lineTold 146 = .ok (.iload 4, 2) := by decide +kernel
theorem dX8_lineTold_148 : decode cX8_lineTold 148 = .ok (.ireturn, 1) := by decide +kernel
theorem dX8_lineTold_149 : decode cX8_lineTold 149 = .ok (.aload_n 0, 1) := by decide +kernel
theorem dX8_lineTold_150 : decode cX8_lineTold 150 = .ok (.iload_n 1, 1) := by decide +kernel
theorem dX8_lineTold_151 : decode cX8_lineTold 151 = .ok (.iconst (-1), 1) := by decide +kernel
theorem dX8_lineTold_152 : decode cX8_lineTold 152 = .ok (.invokevirtual 157, 3) := by decide +kernel
theorem dX8_lineTold_155 : decode cX8_lineTold 155 = .ok (.istore 5, 2) := by decide +kernel
theorem dX8_lineTold_157 : decode cX8_lineTold 157 = .ok (.iconst 5, 1) := by decide +kernel
theorem dX8_lineTold_158 : decode cX8_lineTold 158 = .ok (.istore 6, 2) := by decide +kernel
theorem dX8_lineTold_160 : decode cX8_lineTold 160 = .ok (.iload 6, 2) := by decide +kernel
theorem dX8_lineTold_162 : decode cX8_lineTold 162 = .ok (.iload_n 2, 1) := by decide +kernel
theorem dX8_lineTold_163 : decode cX8_lineTold 163 = .ok (.if_icmp .ge 23, 3) := by decide +kernel
theorem dX8_lineTold_166 : decode cX8_lineTold 166 = .ok (.iload 5, 2) := by decide +kernel
theorem dX8_lineTold_168 : decode cX8_lineTold 168 = .ok (.ifCond .lt 18, 3) := by decide +kernel
theorem dX8_lineTold_171 : decode cX8_lineTold 171 = .ok (.aload_n 0, 1) := by decide +kernel
theorem dX8_lineTold_172 : decode cX8_lineTold 172 = .ok (.iload_n 1, 1) := by decide +kernel
theorem dX8_lineTold_173 : decode cX8_lineTold 173 = .ok (.iload 5, 2) := by decide +kernel
theorem dX8_lineTold_175 : decode cX8_lineTold 175 = .ok (.invokevirtual 157, 3) := by decide +kernel
theorem dX8_lineTold_178 : decode cX8_lineTold 178 = .ok (.istore 5, 2) := by decide +kernel
theorem dX8_lineTold_180 : decode cX8_lineTold 180 = .ok (.iinc 6 1, 3) := by decide +kernel
theorem dX8_lineTold_183 : decode cX8_lineTold 183 = .ok (.goto (-23), 3) := by decide +kernel
theorem dX8_lineTold_186 : decode cX8_lineTold 186 = .ok (.iload 5, 2) := by decide +kernel
theorem dX8_lineTold_188 : decode cX8_lineTold 188 = .ok (.ireturn, 1) := by decide +kernel
theorem dX8_call_0 : decode cX8_call 0 = .ok (.aload_n 0, 1) := by decide +kernel
theorem dX8_call_1 : decode cX8_call 1 = .ok (.iload_n 1, 1) := by decide +kernel
theorem dX8_call_2 : decode cX8_call 2 = .ok (.invokevirtual 230, 3) := by decide +kernel
theorem dX8_call_5 : decode cX8_call 5 = .ok (.ifCond .ne 5, 3) := by decide +kernel
theorem dX8_call_8 : decode cX8_call 8 = .ok (.iconst (-1), 1) := by decide +kernel
theorem dX8_call_9 : decode cX8_call 9 = .ok (.ireturn, 1) := by decide +kernel
theorem dX8_call_10 : decode cX8_call 10 = .ok (.iload_n 2, 1) := by decide +kernel
theorem dX8_call_11 : decode cX8_call 11 = .ok (.tableswitch 101 0 7 #[45, 52, 59, 66, 73, 80, 87, 94], 45) := by decide +kernel
theorem dX8_call_56 : decode cX8_call 56 = .ok (.aload_n 0, 1) := by decide +kernel
theorem dX8_call_57 : decode cX8_call 57 = .ok (.getfield 28, 3) := by decide +kernel
theorem dX8_call_60 : decode cX8_call 60 = .ok (.iload_n 1, 1) := by decide +kernel
theorem dX8_call_61 : decode cX8_call 61 = .ok (.iaload, 1) := by decide +kernel
theorem dX8_call_62 : decode cX8_call 62 = .ok (.ireturn, 1) := by decide +kernel
theorem dX8_call_63 : decode cX8_call 63 = .ok (.aload_n 0, 1) := by decide +kernel
theorem dX8_call_64 : decode cX8_call 64 = .ok (.getfield 31, 3) := by decide +kernel
theorem dX8_call_67 : decode cX8_call 67 = .ok (.iload_n 1, 1) := by decide +kernel
theorem dX8_call_68 : decode cX8_call 68 = .ok (.iaload, 1) := by decide +kernel
theorem dX8_call_69 : decode cX8_call 69 = .ok (.ireturn, 1) := by decide +kernel
theorem dX8_call_70 : decode cX8_call 70 = .ok (.aload_n 0, 1) := by decide +kernel
theorem dX8_call_71 : decode cX8_call 71 = .ok (.getfield 34, 3) := by decide +kernel
theorem dX8_call_74 : decode cX8_call 74 = .ok (.iload_n 1, 1) := by decide +kernel
theorem dX8_call_75 : decode cX8_call 75 = .ok (.iaload, 1) := by decide +kernel
theorem dX8_call_76 : decode cX8_call 76 = .ok (.ireturn, 1) := by decide +kernel
theorem dX8_call_77 : decode cX8_call 77 = .ok (.aload_n 0, 1) := by decide +kernel
theorem dX8_call_78 : decode cX8_call 78 = .ok (.getfield 37, 3) := by decide +kernel
theorem dX8_call_81 : decode cX8_call 81 = .ok (.iload_n 1, 1) := by decide +kernel
theorem dX8_call_82 : decode cX8_call 82 = .ok (.iaload, 1) := by decide +kernel
theorem dX8_call_83 : decode cX8_call 83 = .ok (.ireturn, 1) := by decide +kernel
theorem dX8_call_84 : decode cX8_call 84 = .ok (.aload_n 0, 1) := by decide +kernel
theorem dX8_call_85 : decode cX8_call 85 = .ok (.getfield 46, 3) := by decide +kernel
theorem dX8_call_88 : decode cX8_call 88 = .ok (.iload_n 1, 1) := by decide +kernel
theorem dX8_call_89 : decode cX8_call 89 = .ok (.iaload, 1) := by decide +kernel
theorem dX8_call_90 : decode cX8_call 90 = .ok (.ireturn, 1) := by decide +kernel
theorem dX8_call_91 : decode cX8_call 91 = .ok (.aload_n 0, 1) := by decide +kernel
theorem dX8_call_92 : decode cX8_call 92 = .ok (.getfield 49, 3) := by decide +kernel
theorem dX8_call_95 : decode cX8_call 95 = .ok (.iload_n 1, 1) := by decide +kernel
theorem dX8_call_96 : decode cX8_call 96 = .ok (.iaload, 1) := by decide +kernel
theorem dX8_call_97 : decode cX8_call 97 = .ok (.ireturn, 1) := by decide +kernel
theorem dX8_call_98 : decode cX8_call 98 = .ok (.aload_n 0, 1) := by decide +kernel
theorem dX8_call_99 : decode cX8_call 99 = .ok (.getfield 52, 3) := by decide +kernel
theorem dX8_call_102 : decode cX8_call 102 = .ok (.iload_n 1, 1) := by decide +kernel
theorem dX8_call_103 : decode cX8_call 103 = .ok (.iaload, 1) := by decide +kernel
theorem dX8_call_104 : decode cX8_call 104 = .ok (.ireturn, 1) := by decide +kernel
theorem dX8_call_105 : decode cX8_call 105 = .ok (.aload_n 0, 1) := by decide +kernel
theorem dX8_call_106 : decode cX8_call 106 = .ok (.getfield 55, 3) := by decide +kernel
theorem dX8_call_109 : decode cX8_call 109 = .ok (.iload_n 1, 1) := by decide +kernel
theorem dX8_call_110 : decode cX8_call 110 = .ok (.iaload, 1) := by decide +kernel
theorem dX8_call_111 : decode cX8_call 111 = .ok (.ireturn, 1) := by decide +kernel
theorem dX8_call_112 : decode cX8_call 112 = .ok (.iconst (-1), 1) := by decide +kernel
theorem dX8_call_113 : decode cX8_call 113 = .ok (.ireturn, 1) := by decide +kernel
theorem dX8_row_0 : decode cX8_row 0 = .ok (.aload_n 0, 1) := by decide +kernel
theorem dX8_row_1 : decode cX8_row 1 = .ok (.iload_n 1, 1) := by decide +kernel
theorem dX8_row_2 : decode cX8_row 2 = .ok (.invokevirtual 230, 3) := by decide +kernel
theorem dX8_row_5 : decode cX8_row 5 = .ok (.ifCond .eq 35, 3) := by decide +kernel
theorem dX8_row_8 : decode cX8_row 8 = .ok (.iload_n 2, 1) := by decide +kernel
theorem dX8_row_9 : decode cX8_row 9 = .ok (.i2l, 1) := by decide +kernel
theorem dX8_row_10 : decode cX8_row 10 = .ok (.lconst 0, 1) := by decide +kernel
theorem dX8_row_11 : decode cX8_row 11 = .ok (.aload_n 0, 1) := by decide +kernel
theorem dX8_row_12 : decode cX8_row 12 = .ok (.getfield 37, 3) := by decide +kernel
theorem dX8_row_15 : decode cX8_row 15 = .ok (.iload_n 1, 1) := by decide +kernel
theorem dX8_row_16 : decode cX8_row 16 = .ok (.iaload, 1) := by decide +kernel
theorem dX8_row_17 : decode cX8_row 17 = .ok (.iconst 1, 1) := by decide +kernel
theorem dX8_row_18 : decode cX8_row 18 = .ok (.isub, 1) := by decide +kernel
theorem dX8_row_19 : decode cX8_row 19 = .ok (.i2l, 1) := by decide +kernel
theorem dX8_row_20 : decode cX8_row 20 = .ok (.invokestatic 126, 3) := by decide +kernel
theorem dX8_row_23 : decode cX8_row 23 = .ok (.ifCond .eq 17, 3) := by decide +kernel
theorem dX8_row_26 : decode cX8_row 26 = .ok (.aload_n 0, 1) := by decide +kernel
theorem dX8_row_27 : decode cX8_row 27 = .ok (.getfield 40, 3) := by decide +kernel
theorem dX8_row_30 : decode cX8_row 30 = .ok (.bipush 9, 2) := by decide +kernel
theorem dX8_row_32 : decode cX8_row 32 = .ok (.iload_n 1, 1) := by decide +kernel
theorem dX8_row_33 : decode cX8_row 33 = .ok (.imul, 1) := by decide +kernel
theorem dX8_row_34 : decode cX8_row 34 = .ok (.iload_n 2, 1) := by decide +kernel
theorem dX8_row_35 : decode cX8_row 35 = .ok (.iadd, 1) := by decide +kernel
theorem dX8_row_36 : decode cX8_row 36 = .ok (.iaload, 1) := by decide +kernel
theorem dX8_row_37 : decode cX8_row 37 = .ok (.goto 4, 3) := by decide +kernel
theorem dX8_row_40 : decode cX8_row 40 = .ok (.iconst (-1), 1) := by decide +kernel
theorem dX8_row_41 : decode cX8_row 41 = .ok (.ireturn, 1) := by decide +kernel
theorem dX8_piece_0 : decode cX8_piece 0 = .ok (.aload_n 0, 1) := by decide +kernel
theorem dX8_piece_1 : decode cX8_piece 1 = .ok (.iload_n 1, 1) := by decide +kernel
theorem dX8_piece_2 : decode cX8_piece 2 = .ok (.invokevirtual 230, 3) := by decide +kernel
theorem dX8_piece_5 : decode cX8_piece 5 = .ok (.ifCond .eq 35, 3) := by decide +kernel
theorem dX8_piece_8 : decode cX8_piece 8 = .ok (.iload_n 2, 1) := by decide +kernel
theorem dX8_piece_9 : decode cX8_piece 9 = .ok (.i2l, 1) := by decide +kernel
theorem dX8_piece_10 : decode cX8_piece 10 = .ok (.lconst 0, 1) := by decide +kernel
theorem dX8_piece_11 : decode cX8_piece 11 = .ok (.aload_n 0, 1) := by decide +kernel
theorem dX8_piece_12 : decode cX8_piece 12 = .ok (.getfield 37, 3) := by decide +kernel
theorem dX8_piece_15 : decode cX8_piece 15 = .ok (.iload_n 1, 1) := by decide +kernel
theorem dX8_piece_16 : decode cX8_piece 16 = .ok (.iaload, 1) := by decide +kernel
theorem dX8_piece_17 : decode cX8_piece 17 = .ok (.iconst 1, 1) := by decide +kernel
theorem dX8_piece_18 : decode cX8_piece 18 = .ok (.isub, 1) := by decide +kernel
theorem dX8_piece_19 : decode cX8_piece 19 = .ok (.i2l, 1) := by decide +kernel
theorem dX8_piece_20 : decode cX8_piece 20 = .ok (.invokestatic 126, 3) := by decide +kernel
theorem dX8_piece_23 : decode cX8_piece 23 = .ok (.ifCond .eq 17, 3) := by decide +kernel
theorem dX8_piece_26 : decode cX8_piece 26 = .ok (.aload_n 0, 1) := by decide +kernel
theorem dX8_piece_27 : decode cX8_piece 27 = .ok (.getfield 43, 3) := by decide +kernel
theorem dX8_piece_30 : decode cX8_piece 30 = .ok (.bipush 9, 2) := by decide +kernel
theorem dX8_piece_32 : decode cX8_piece 32 = .ok (.iload_n 1, 1) := by decide +kernel
theorem dX8_piece_33 : decode cX8_piece 33 = .ok (.imul, 1) := by decide +kernel
theorem dX8_piece_34 : decode cX8_piece 34 = .ok (.iload_n 2, 1) := by decide +kernel
theorem dX8_piece_35 : decode cX8_piece 35 = .ok (.iadd, 1) := by decide +kernel
theorem dX8_piece_36 : decode cX8_piece 36 = .ok (.iaload, 1) := by decide +kernel
theorem dX8_piece_37 : decode cX8_piece 37 = .ok (.goto 4, 3) := by decide +kernel
theorem dX8_piece_40 : decode cX8_piece 40 = .ok (.iconst (-1), 1) := by decide +kernel
theorem dX8_piece_41 : decode cX8_piece 41 = .ok (.ireturn, 1) := by decide +kernel
theorem dX8_acted_0 : decode cX8_acted 0 = .ok (.aload_n 0, 1) := by decide +kernel
theorem dX8_acted_1 : decode cX8_acted 1 = .ok (.iload_n 1, 1) := by decide +kernel
theorem dX8_acted_2 : decode cX8_acted 2 = .ok (.invokevirtual 230, 3) := by decide +kernel
theorem dX8_acted_5 : decode cX8_acted 5 = .ok (.ifCond .eq 51, 3) := by decide +kernel
theorem dX8_acted_8 : decode cX8_acted 8 = .ok (.iload_n 2, 1) := by decide +kernel
theorem dX8_acted_9 : decode cX8_acted 9 = .ok (.i2l, 1) := by decide +kernel
theorem dX8_acted_10 : decode cX8_acted 10 = .ok (.lconst 0, 1) := by decide +kernel
theorem dX8_acted_11 : decode cX8_acted 11 = .ok (.aload_n 0, 1) := by decide +kernel
theorem dX8_acted_12 : decode cX8_acted 12 = .ok (.getfield 55, 3) := by decide +kernel
theorem dX8_acted_15 : decode cX8_acted 15 = .ok (.iload_n 1, 1) := by decide +kernel
theorem dX8_acted_16 : decode cX8_acted 16 = .ok (.iaload, 1) := by decide +kernel
theorem dX8_acted_17 : decode cX8_acted 17 = .ok (.bipush 10, 2) := by decide +kernel
theorem dX8_acted_19 : decode cX8_acted 19 = .ok (.if_icmp .ge 12, 3) := by decide +kernel
theorem dX8_acted_22 : decode cX8_acted 22 = .ok (.aload_n 0, 1) := by decide +kernel
theorem dX8_acted_23 : decode cX8_acted 23 = .ok (.getfield 55, 3) := by decide +kernel
theorem dX8_acted_26 : decode cX8_acted 26 = .ok (.iload_n 1, 1) := by decide +kernel
theorem dX8_acted_27 : decode cX8_acted 27 = .ok (.iaload, 1) := by decide +kernel
theorem dX8_acted_28 : decode cX8_acted 28 = .ok (.goto 5, 3) := by decide +kernel
theorem dX8_acted_31 : decode cX8_acted 31 = .ok (.bipush 10, 2) := by decide +kernel
theorem dX8_acted_33 : decode cX8_acted 33 = .ok (.iconst 1, 1) := by decide +kernel
theorem dX8_acted_34 : decode cX8_acted 34 = .ok (.isub, 1) := by decide +kernel
theorem dX8_acted_35 : decode cX8_acted 35 = .ok (.i2l, 1) := by decide +kernel
theorem dX8_acted_36 : decode cX8_acted 36 = .ok (.invokestatic 126, 3) := by decide +kernel
theorem dX8_acted_39 : decode cX8_acted 39 = .ok (.ifCond .eq 17, 3) := by decide +kernel
theorem dX8_acted_42 : decode cX8_acted 42 = .ok (.aload_n 0, 1) := by decide +kernel
theorem dX8_acted_43 : decode cX8_acted 43 = .ok (.getfield 58, 3) := by decide +kernel
theorem dX8_acted_46 : decode cX8_acted 46 = .ok (.bipush 10, 2) := by decide +kernel
theorem dX8_acted_48 : decode cX8_acted 48 = .ok (.iload_n 1, 1) := by decide +kernel
theorem dX8_acted_49 : decode cX8_acted 49 = .ok (.imul, 1) := by decide +kernel
theorem dX8_acted_50 : decode cX8_acted 50 = .ok (.iload_n 2, 1) := by decide +kernel
theorem dX8_acted_51 : decode cX8_acted 51 = .ok (.iadd, 1) := by decide +kernel
theorem dX8_acted_52 : decode cX8_acted 52 = .ok (.iaload, 1) := by decide +kernel
theorem dX8_acted_53 : decode cX8_acted 53 = .ok (.goto 4, 3) := by decide +kernel
theorem dX8_acted_56 : decode cX8_acted 56 = .ok (.iconst (-1), 1) := by decide +kernel
theorem dX8_acted_57 : decode cX8_acted 57 = .ok (.ireturn, 1) := by decide +kernel
theorem dX8_isTold_0 : decode cX8_isTold 0 = .ok (.aload_n 0, 1) := by decide +kernel
theorem dX8_isTold_1 : decode cX8_isTold 1 = .ok (.getfield 46, 3) := by decide +kernel
theorem dX8_isTold_4 : decode cX8_isTold 4 = .ok (.iload_n 1, 1) := by decide +kernel
theorem dX8_isTold_5 : decode cX8_isTold 5 = .ok (.iaload, 1) := by decide +kernel
theorem dX8_isTold_6 : decode cX8_isTold 6 = .ok (.iload_n 2, 1) := by decide +kernel
theorem dX8_isTold_7 : decode cX8_isTold 7 = .ok (.ishr, 1) := by decide +kernel
theorem dX8_isTold_8 : decode cX8_isTold 8 = .ok (.iconst 1, 1) := by decide +kernel
theorem dX8_isTold_9 : decode cX8_isTold 9 = .ok (.iand, 1) := by decide +kernel
theorem dX8_isTold_10 : decode cX8_isTold 10 = .ok (.iconst 1, 1) := by decide +kernel
theorem dX8_isTold_11 : decode cX8_isTold 11 = .ok (.if_icmp .eq 23, 3) := by decide +kernel
theorem dX8_isTold_14 : decode cX8_isTold 14 = .ok (.aload_n 0, 1) := by decide +kernel
theorem dX8_isTold_15 : decode cX8_isTold 15 = .ok (.getfield 31, 3) := by decide +kernel
theorem dX8_isTold_18 : decode cX8_isTold 18 = .ok (.iload_n 1, 1) := by decide +kernel
theorem dX8_isTold_19 : decode cX8_isTold 19 = .ok (.iaload, 1) := by decide +kernel
theorem dX8_isTold_20 : decode cX8_isTold 20 = .ok (.iconst 2, 1) := by decide +kernel
theorem dX8_isTold_21 : decode cX8_isTold 21 = .ok (.if_icmp .ne 17, 3) := by decide +kernel
theorem dX8_isTold_24 : decode cX8_isTold 24 = .ok (.aload_n 0, 1) := by decide +kernel
theorem dX8_isTold_25 : decode cX8_isTold 25 = .ok (.getfield 49, 3) := by decide +kernel
theorem dX8_isTold_28 : decode cX8_isTold 28 = .ok (.iload_n 1, 1) := by decide +kernel
theorem dX8_isTold_29 : decode cX8_isTold 29 = .ok (.iaload, 1) := by decide +kernel
theorem dX8_isTold_30 : decode cX8_isTold 30 = .ok (.iload_n 2, 1) := by decide +kernel
theorem dX8_isTold_31 : decode cX8_isTold 31 = .ok (.if_icmp .ne 7, 3) := by decide +kernel
theorem dX8_isTold_34 : decode cX8_isTold 34 = .ok (.iconst 1, 1) := by decide +kernel
theorem dX8_isTold_35 : decode cX8_isTold 35 = .ok (.goto 4, 3) := by decide +kernel
theorem dX8_isTold_38 : decode cX8_isTold 38 = .ok (.iconst 0, 1) := by decide +kernel
theorem dX8_isTold_39 : decode cX8_isTold 39 = .ok (.istore_n 3, 1) := by decide +kernel
theorem dX8_isTold_40 : decode cX8_isTold 40 = .ok (.iconst 0, 1) := by decide +kernel
theorem dX8_isTold_41 : decode cX8_isTold 41 = .ok (.istore 4, 2) := by decide +kernel
theorem dX8_isTold_43 : decode cX8_isTold 43 = .ok (.iload 4, 2) := by decide +kernel
theorem dX8_isTold_45 : decode cX8_isTold 45 = .ok (.aload_n 0, 1) := by decide +kernel
theorem dX8_isTold_46 : decode cX8_isTold 46 = .ok (.getfield 70, 3) := by decide +kernel
theorem dX8_isTold_49 : decode cX8_isTold 49 = .ok (.iconst 1, 1) := by decide +kernel
theorem dX8_isTold_50 : decode cX8_isTold 50 = .ok (.iaload, 1) := by decide +kernel
theorem dX8_isTold_51 : decode cX8_isTold 51 = .ok (.if_icmp .ge 68, 3) := by decide +kernel
theorem dX8_isTold_54 : decode cX8_isTold 54 = .ok (.iload_n 3, 1) := by decide +kernel
theorem dX8_isTold_55 : decode cX8_isTold 55 = .ok (.ifCond .eq 56, 3) := by decide +kernel
theorem dX8_isTold_58 : decode cX8_isTold 58 = .ok (.aload_n 0, 1) := by decide +kernel
theorem dX8_isTold_59 : decode cX8_isTold 59 = .ok (.getfield 7, 3) := by decide +kernel
theorem dX8_isTold_62 : decode cX8_isTold 62 = .ok (.iload 4, 2) := by decide +kernel
theorem dX8_isTold_64 : decode cX8_isTold 64 = .ok (.iaload, 1) := by decide +kernel
theorem dX8_isTold_65 : decode cX8_isTold 65 = .ok (.aload_n 0, 1) := by decide +kernel
theorem dX8_isTold_66 : decode cX8_isTold 66 = .ok (.getfield 28, 3) := by decide +kernel
theorem dX8_isTold_69 : decode cX8_isTold 69 = .ok (.iload_n 1, 1) := by decide +kernel
theorem dX8_isTold_70 : decode cX8_isTold 70 = .ok (.iaload, 1) := by decide +kernel
theorem dX8_isTold_71 : decode cX8_isTold 71 = .ok (.if_icmp .ne 36, 3) := by decide +kernel
theorem dX8_isTold_74 : decode cX8_isTold 74 = .ok (.aload_n 0, 1) := by decide +kernel
theorem dX8_isTold_75 : decode cX8_isTold 75 = .ok (.getfield 13, 3) := by decide +kernel
theorem dX8_isTold_78 : decode cX8_isTold 78 = .ok (.iload 4, 2) := by decide +kernel
theorem dX8_isTold_80 : decode cX8_isTold 80 = .ok (.iaload, 1) := by decide +kernel
theorem dX8_isTold_81 : decode cX8_isTold 81 = .ok (.iconst 3, 1) := by decide +kernel
theorem dX8_isTold_82 : decode cX8_isTold 82 = .ok (.if_icmp .ne 25, 3) := by decide +kernel
theorem dX8_isTold_85 : decode cX8_isTold 85 = .ok (.aload_n 0, 1) := by decide +kernel
theorem dX8_isTold_86 : decode cX8_isTold 86 = .ok (.getfield 25, 3) := by decide +kernel
theorem dX8_isTold_89 : decode cX8_isTold 89 = .ok (.iload 4, 2) := by decide +kernel
theorem dX8_isTold_91 : decode cX8_isTold 91 = .ok (.iaload, 1) := by decide +kernel
theorem dX8_isTold_92 : decode cX8_isTold 92 = .ok (.iconst 1, 1) := by decide +kernel
theorem dX8_isTold_93 : decode cX8_isTold 93 = .ok (.if_icmp .ne 14, 3) := by decide +kernel
theorem dX8_isTold_96 : decode cX8_isTold 96 = .ok (.aload_n 0, 1) := by decide +kernel
theorem dX8_isTold_97 : decode cX8_isTold 97 = .ok (.getfield 19, 3) := by decide +kernel
theorem dX8_isTold_100 : decode cX8_isTold 100 = .ok (.iload 4, 2) := by decide +kernel
theorem dX8_isTold_102 : decode cX8_isTold 102 = .ok (.iaload, 1) := by decide +kernel
theorem dX8_isTold_103 : decode cX8_isTold 103 = .ok (.iload_n 2, 1) := by decide +kernel
theorem dX8_isTold_104 : decode cX8_isTold 104 = .ok (.if_icmp .ne 7, 3) := by decide +kernel
theorem dX8_isTold_107 : decode cX8_isTold 107 = .ok (.iconst 1, 1) := by decide +kernel
theorem dX8_isTold_108 : decode cX8_isTold 108 = .ok (.goto 4, 3) := by decide +kernel
theorem dX8_isTold_111 : decode cX8_isTold 111 = .ok (.iconst 0, 1) := by decide +kernel
theorem dX8_isTold_112 : decode cX8_isTold 112 = .ok (.istore_n 3, 1) := by decide +kernel
theorem dX8_isTold_113 : decode cX8_isTold 113 = .ok (.iinc 4 1, 3) := by decide +kernel
theorem dX8_isTold_116 : decode cX8_isTold 116 = .ok (.goto (-73), 3) := by decide +kernel
theorem dX8_isTold_119 : decode cX8_isTold 119 = .ok (.iload_n 3, 1) := by decide +kernel
theorem dX8_isTold_120 : decode cX8_isTold 120 = .ok (.ireturn, 1) := by decide +kernel
theorem dX8_tells_0 : decode cX8_tells 0 = .ok (.aload_n 0, 1) := by decide +kernel
theorem dX8_tells_1 : decode cX8_tells 1 = .ok (.iload_n 1, 1) := by decide +kernel
theorem dX8_tells_2 : decode cX8_tells 2 = .ok (.invokevirtual 230, 3) := by decide +kernel
theorem dX8_tells_5 : decode cX8_tells 5 = .ok (.ifCond .eq 11, 3) := by decide +kernel
theorem dX8_tells_8 : decode cX8_tells 8 = .ok (.aload_n 0, 1) := by decide +kernel
theorem dX8_tells_9 : decode cX8_tells 9 = .ok (.iload_n 2, 1) := by decide +kernel
theorem dX8_tells_10 : decode cX8_tells 10 = .ok (.invokevirtual 120, 3) := by decide +kernel
theorem dX8_tells_13 : decode cX8_tells 13 = .ok (.ifCond .ne 7, 3) := by decide +kernel
theorem dX8_tells_16 : decode cX8_tells 16 = .ok (.iconst (-1), 1) := by decide +kernel
theorem dX8_tells_17 : decode cX8_tells 17 = .ok (.goto 17, 3) := by decide +kernel
theorem dX8_tells_20 : decode cX8_tells 20 = .ok (.aload_n 0, 1) := by decide +kernel
theorem dX8_tells_21 : decode cX8_tells 21 = .ok (.iload_n 1, 1) := by decide +kernel
theorem dX8_tells_22 : decode cX8_tells 22 = .ok (.iload_n 2, 1) := by decide +kernel
theorem dX8_tells_23 : decode cX8_tells 23 = .ok (.invokevirtual 233, 3) := by decide +kernel
theorem dX8_tells_26 : decode cX8_tells 26 = .ok (.ifCond .eq 7, 3) := by decide +kernel
theorem dX8_tells_29 : decode cX8_tells 29 = .ok (.iconst 1, 1) := by decide +kernel
theorem dX8_tells_30 : decode cX8_tells 30 = .ok (.goto 4, 3) := by decide +kernel
theorem dX8_tells_33 : decode cX8_tells 33 = .ok (.iconst 0, 1) := by decide +kernel
theorem dX8_tells_34 : decode cX8_tells 34 = .ok (.ireturn, 1) := by decide +kernel
theorem dX8_backs_0 : decode cX8_backs 0 = .ok (.iload_n 1, 1) := by decide +kernel
theorem dX8_backs_1 : decode cX8_backs 1 = .ok (.i2l, 1) := by decide +kernel
theorem dX8_backs_2 : decode cX8_backs 2 = .ok (.lconst 0, 1) := by decide +kernel
theorem dX8_backs_3 : decode cX8_backs 3 = .ok (.aload_n 0, 1) := by decide +kernel
theorem dX8_backs_4 : decode cX8_backs 4 = .ok (.getfield 70, 3) := by decide +kernel
theorem dX8_backs_7 : decode cX8_backs 7 = .ok (.iconst 4, 1) := by decide +kernel
theorem dX8_backs_8 : decode cX8_backs 8 = .ok (.iaload, 1) := by decide +kernel
theorem dX8_backs_9 : decode cX8_backs 9 = .ok (.iconst 1, 1) := by decide +kernel
theorem dX8_backs_10 : decode cX8_backs 10 = .ok (.isub, 1) := by decide +kernel
theorem dX8_backs_11 : decode cX8_backs 11 = .ok (.i2l, 1) := by decide +kernel
theorem dX8_backs_12 : decode cX8_backs 12 = .ok (.invokestatic 126, 3) := by decide +kernel
theorem dX8_backs_15 : decode cX8_backs 15 = .ok (.ifCond .eq 13, 3) := by decide +kernel
theorem dX8_backs_18 : decode cX8_backs 18 = .ok (.iload_n 2, 1) := by decide +kernel
theorem dX8_backs_19 : decode cX8_backs 19 = .ok (.i2l, 1) := by decide +kernel
theorem dX8_backs_20 : decode cX8_backs 20 = .ok (.lconst 0, 1) := by decide +kernel
theorem dX8_backs_21 : decode cX8_backs 21 = .ok (.lconst 1, 1) := by decide +kernel
theorem dX8_backs_22 : decode cX8_backs 22 = .ok (.invokestatic 126, 3) := by decide +kernel
theorem dX8_backs_25 : decode cX8_backs 25 = .ok (.ifCond .ne 7, 3) := by decide +kernel
theorem dX8_backs_28 : decode cX8_backs 28 = .ok (.iconst (-1), 1) := by decide +kernel
theorem dX8_backs_29 : decode cX8_backs 29 = .ok (.goto 22, 3) := by decide +kernel
theorem dX8_backs_32 : decode cX8_backs 32 = .ok (.iload_n 2, 1) := by decide +kernel
theorem dX8_backs_33 : decode cX8_backs 33 = .ok (.ifCond .ne 12, 3) := by decide +kernel
theorem dX8_backs_36 : decode cX8_backs 36 = .ok (.aload_n 0, 1) := by decide +kernel
theorem dX8_backs_37 : decode cX8_backs 37 = .ok (.getfield 61, 3) := by decide +kernel
theorem dX8_backs_40 : decode cX8_backs 40 = .ok (.iload_n 1, 1) := by decide +kernel
theorem dX8_backs_41 : decode cX8_backs 41 = .ok (.iaload, 1) := by decide +kernel
theorem dX8_backs_42 : decode cX8_backs 42 = .ok (.goto 9, 3) := by decide +kernel
theorem dX8_backs_45 : decode cX8_backs 45 = .ok (.aload_n 0, 1) := by decide +kernel
theorem dX8_backs_46 : decode cX8_backs 46 = .ok (.getfield 64, 3) := by decide +kernel
theorem dX8_backs_49 : decode cX8_backs 49 = .ok (.iload_n 1, 1) := by decide +kernel
theorem dX8_backs_50 : decode cX8_backs 50 = .ok (.iaload, 1) := by decide +kernel
theorem dX8_backs_51 : decode cX8_backs 51 = .ok (.ireturn, 1) := by decide +kernel
theorem dX8_findDeeds_0 : decode cX8_findDeeds 0 = .ok (.aload_n 0, 1) := by decide +kernel
theorem dX8_findDeeds_1 : decode cX8_findDeeds 1 = .ok (.iconst 0, 1) := by decide +kernel
theorem dX8_findDeeds_2 : decode cX8_findDeeds 2 = .ok (.putfield 236, 3) := by decide +kernel
theorem dX8_findDeeds_5 : decode cX8_findDeeds 5 = .ok (.iconst 0, 1) := by decide +kernel
theorem dX8_findDeeds_6 : decode cX8_findDeeds 6 = .ok (.istore_n 2, 1) := by decide +kernel
theorem dX8_findDeeds_7 : decode cX8_findDeeds 7 = .ok (.iload_n 2, 1) := by decide +kernel
theorem dX8_findDeeds_8 : decode cX8_findDeeds 8 = .ok (.bipush 8, 2) := by decide +kernel
theorem dX8_findDeeds_10 : decode cX8_findDeeds 10 = .ok (.if_icmp .ge 76, 3) := by decide +kernel
theorem dX8_findDeeds_13 : decode cX8_findDeeds 13 = .ok (.iconst 0, 1) := by decide +kernel
theorem dX8_findDeeds_14 : decode cX8_findDeeds 14 = .ok (.istore_n 3, 1) := by decide +kernel
theorem dX8_findDeeds_15 : decode cX8_findDeeds 15 = .ok (.iload_n 3, 1) := by decide +kernel
theorem dX8_findDeeds_16 : decode cX8_findDeeds 16 = .ok (.bipush 8, 2) := by decide +kernel
theorem dX8_findDeeds_18 : decode cX8_findDeeds 18 = .ok (.if_icmp .ge 62, 3) := by decide +kernel
theorem dX8_findDeeds_21 : decode cX8_findDeeds 21 = .ok (.iload_n 2, 1) := by decide +kernel
theorem dX8_findDeeds_22 : decode cX8_findDeeds 22 = .ok (.iload_n 3, 1) := by decide +kernel
theorem dX8_findDeeds_23 : decode cX8_findDeeds 23 = .ok (.if_icmp .eq 51, 3) := by decide +kernel
theorem dX8_findDeeds_26 : decode cX8_findDeeds 26 = .ok (.iload_n 1, 1) := by decide +kernel
theorem dX8_findDeeds_27 : decode cX8_findDeeds 27 = .ok (.iload_n 2, 1) := by decide +kernel
theorem dX8_findDeeds_28 : decode cX8_findDeeds 28 = .ok (.ishr, 1) := by decide +kernel
theorem dX8_findDeeds_29 : decode cX8_findDeeds 29 = .ok (.iconst 1, 1) := by decide +kernel
theorem dX8_findDeeds_30 : decode cX8_findDeeds 30 = .ok (.iand, 1) := by decide +kernel
theorem dX8_findDeeds_31 : decode cX8_findDeeds 31 = .ok (.ifCond .eq 43, 3) := by decide +kernel
theorem dX8_findDeeds_34 : decode cX8_findDeeds 34 = .ok (.iload_n 1, 1) := by decide +kernel
theorem dX8_findDeeds_35 : decode cX8_findDeeds 35 = .ok (.iload_n 3, 1) := by decide +kernel
theorem dX8_findDeeds_36 : decode cX8_findDeeds 36 = .ok (.ishr, 1) := by decide +kernel
theorem dX8_findDeeds_37 : decode cX8_findDeeds 37 = .ok (.iconst 1, 1) := by decide +kernel
theorem dX8_findDeeds_38 : decode cX8_findDeeds 38 = .ok (.iand, 1) := by decide +kernel
theorem dX8_findDeeds_39 : decode cX8_findDeeds 39 = .ok (.ifCond .ne 6, 3) := by decide +kernel
theorem dX8_findDeeds_42 : decode cX8_findDeeds 42 = .ok (.goto 32, 3) := by decide +kernel
theorem dX8_findDeeds_45 : decode cX8_findDeeds 45 = .ok (.aload_n 0, 1) := by decide +kernel
theorem dX8_findDeeds_46 : decode cX8_findDeeds 46 = .ok (.getfield 85, 3) := by decide +kernel
theorem dX8_findDeeds_49 : decode cX8_findDeeds 49 = .ok (.aload_n 0, 1) := by decide +kernel
theorem dX8_findDeeds_50 : decode cX8_findDeeds 50 = .ok (.getfield 236, 3) := by decide +kernel
theorem dX8_findDeeds_53 : decode cX8_findDeeds 53 = .ok (.sipush 1000, 3) := by decide +kernel
theorem dX8_findDeeds_56 : decode cX8_findDeeds 56 = .ok (.bipush 10, 2) := by decide +kernel
theorem dX8_findDeeds_58 : decode cX8_findDeeds 58 = .ok (.iload_n 2, 1) := by decide +kernel
theorem dX8_findDeeds_59 : decode cX8_findDeeds 59 = .ok (.imul, 1) := by decide +kernel
theorem dX8_findDeeds_60 : decode cX8_findDeeds 60 = .ok (.iadd, 1) := by decide +kernel
theorem dX8_findDeeds_61 : decode cX8_findDeeds 61 = .ok (.iload_n 3, 1) := by decide +kernel
theorem dX8_findDeeds_62 : decode cX8_findDeeds 62 = .ok (.iadd, 1) := by decide +kernel
theorem dX8_findDeeds_63 : decode cX8_findDeeds 63 = .ok (.iastore, 1) := by decide +kernel
theorem dX8_findDeeds_64 : decode cX8_findDeeds 64 = .ok (.aload_n 0, 1) := by decide +kernel
theorem dX8_findDeeds_65 : decode cX8_findDeeds 65 = .ok (.dup, 1) := by decide +kernel
theorem dX8_findDeeds_66 : decode cX8_findDeeds 66 = .ok (.getfield 236, 3) := by decide +kernel
theorem dX8_findDeeds_69 : decode cX8_findDeeds 69 = .ok (.iconst 1, 1) := by decide +kernel
theorem dX8_findDeeds_70 : decode cX8_findDeeds 70 = .ok (.iadd, 1) := by decide +kernel
theorem dX8_findDeeds_71 : decode cX8_findDeeds 71 = .ok (.putfield 236, 3) := by decide +kernel
theorem dX8_findDeeds_74 : decode cX8_findDeeds 74 = .ok (.iinc 3 1, 3) := by decide +kernel
theorem dX8_findDeeds_77 : decode cX8_findDeeds 77 = .ok (.goto (-62), 3) := by decide +kernel
theorem dX8_findDeeds_80 : decode cX8_findDeeds 80 = .ok (.iinc 2 1, 3) := by decide +kernel
theorem dX8_findDeeds_83 : decode cX8_findDeeds 83 = .ok (.goto (-76), 3) := by decide +kernel
theorem dX8_findDeeds_86 : decode cX8_findDeeds 86 = .ok (.iconst 2, 1) := by decide +kernel
theorem dX8_findDeeds_87 : decode cX8_findDeeds 87 = .ok (.istore_n 2, 1) := by decide +kernel
theorem dX8_findDeeds_88 : decode cX8_findDeeds 88 = .ok (.iload_n 2, 1) := by decide +kernel
theorem dX8_findDeeds_89 : decode cX8_findDeeds 89 = .ok (.iconst 4, 1) := by decide +kernel
theorem dX8_findDeeds_90 : decode cX8_findDeeds 90 = .ok (.if_icmp .ge 63, 3) := by decide +kernel
theorem dX8_findDeeds_93 : decode cX8_findDeeds 93 = .ok (.iconst 0, 1) := by decide +kernel
theorem dX8_findDeeds_94 : decode cX8_findDeeds 94 = .ok (.istore_n 3, 1) := by decide +kernel
theorem dX8_findDeeds_95 : decode cX8_findDeeds 95 = .ok (.iload_n 3, 1) := by decide +kernel
theorem dX8_findDeeds_96 : decode cX8_findDeeds 96 = .ok (.bipush 8, 2) := by decide +kernel
theorem dX8_findDeeds_98 : decode cX8_findDeeds 98 = .ok (.if_icmp .ge 49, 3) := by decide +kernel
theorem dX8_findDeeds_101 : decode cX8_findDeeds 101 = .ok (.iload_n 1, 1) := by decide +kernel
theorem dX8_findDeeds_102 : decode cX8_findDeeds 102 = .ok (.iload_n 3, 1) := by decide +kernel
theorem dX8_findDeeds_103 : decode cX8_findDeeds 103 = .ok (.ishr, 1) := by decide +kernel
theorem dX8_findDeeds_104 : decode cX8_findDeeds 104 = .ok (.iconst 1, 1) := by decide +kernel
theorem dX8_findDeeds_105 : decode cX8_findDeeds 105 = .ok (.iand, 1) := by decide +kernel
theorem dX8_findDeeds_106 : decode cX8_findDeeds 106 = .ok (.ifCond .ne 6, 3) := by decide +kernel
theorem dX8_findDeeds_109 : decode cX8_findDeeds 109 = .ok (.goto 32, 3) := by decide +kernel
theorem dX8_findDeeds_112 : decode cX8_findDeeds 112 = .ok (.aload_n 0, 1) := by decide +kernel
theorem dX8_findDeeds_113 : decode cX8_findDeeds 113 = .ok (.getfield 85, 3) := by decide +kernel
theorem dX8_findDeeds_116 : decode cX8_findDeeds 116 = .ok (.aload_n 0, 1) := by decide +kernel
theorem dX8_findDeeds_117 : decode cX8_findDeeds 117 = .ok (.getfield 236, 3) := by decide +kernel
theorem dX8_findDeeds_120 : decode cX8_findDeeds 120 = .ok (.sipush 1000, 3) := by decide +kernel
theorem dX8_findDeeds_123 : decode cX8_findDeeds 123 = .ok (.iload_n 2, 1) := by decide +kernel
theorem dX8_findDeeds_124 : decode cX8_findDeeds 124 = .ok (.imul, 1) := by decide +kernel
theorem dX8_findDeeds_125 : decode cX8_findDeeds 125 = .ok (.bipush 10, 2) := by decide +kernel
theorem dX8_findDeeds_127 : decode cX8_findDeeds 127 = .ok (.iload_n 3, 1) := by decide +kernel
theorem dX8_findDeeds_128 : decode cX8_findDeeds 128 = .ok (.imul, 1) := by decide +kernel
theorem dX8_findDeeds_129 : decode cX8_findDeeds 129 = .ok (.iadd, 1) := by decide +kernel
theorem dX8_findDeeds_130 : decode cX8_findDeeds 130 = .ok (.iastore, 1) := by decide +kernel
theorem dX8_findDeeds_131 : decode cX8_findDeeds 131 = .ok (.aload_n 0, 1) := by decide +kernel
theorem dX8_findDeeds_132 : decode cX8_findDeeds 132 = .ok (.dup, 1) := by decide +kernel
theorem dX8_findDeeds_133 : decode cX8_findDeeds 133 = .ok (.getfield 236, 3) := by decide +kernel
theorem dX8_findDeeds_136 : decode cX8_findDeeds 136 = .ok (.iconst 1, 1) := by decide +kernel
theorem dX8_findDeeds_137 : decode cX8_findDeeds 137 = .ok (.iadd, 1) := by decide +kernel
theorem dX8_findDeeds_138 : decode cX8_findDeeds 138 = .ok (.putfield 236, 3) := by decide +kernel
theorem dX8_findDeeds_141 : decode cX8_findDeeds 141 = .ok (.iinc 3 1, 3) := by decide +kernel
theorem dX8_findDeeds_144 : decode cX8_findDeeds 144 = .ok (.goto (-49), 3) := by decide +kernel
theorem dX8_findDeeds_147 : decode cX8_findDeeds 147 = .ok (.iinc 2 1, 3) := by decide +kernel
theorem dX8_findDeeds_150 : decode cX8_findDeeds 150 = .ok (.goto (-62), 3) := by decide +kernel
theorem dX8_findDeeds_153 : decode cX8_findDeeds 153 = .ok (.aload_n 0, 1) := by decide +kernel
theorem dX8_findDeeds_154 : decode cX8_findDeeds 154 = .ok (.getfield 85, 3) := by decide +kernel
theorem dX8_findDeeds_157 : decode cX8_findDeeds 157 = .ok (.aload_n 0, 1) := by decide +kernel
theorem dX8_findDeeds_158 : decode cX8_findDeeds 158 = .ok (.getfield 236, 3) := by decide +kernel
theorem dX8_findDeeds_161 : decode cX8_findDeeds 161 = .ok (.sipush 4000, 3) := by decide +kernel
theorem dX8_findDeeds_164 : decode cX8_findDeeds 164 = .ok (.iastore, 1) := by decide +kernel
theorem dX8_findDeeds_165 : decode cX8_findDeeds 165 = .ok (.aload_n 0, 1) := by decide +kernel
theorem dX8_findDeeds_166 : decode cX8_findDeeds 166 = .ok (.dup, 1) := by decide +kernel
theorem dX8_findDeeds_167 : decode cX8_findDeeds 167 = .ok (.getfield 236, 3) := by decide +kernel
theorem dX8_findDeeds_170 : decode cX8_findDeeds 170 = .ok (.iconst 1, 1) := by decide +kernel
theorem dX8_findDeeds_171 : decode cX8_findDeeds 171 = .ok (.iadd, 1) := by decide +kernel
theorem dX8_findDeeds_172 : decode cX8_findDeeds 172 = .ok (.putfield 236, 3) := by decide +kernel
theorem dX8_findDeeds_175 : decode cX8_findDeeds 175 = .ok (.return_, 1) := by decide +kernel
theorem dX8_isDone_0 : decode cX8_isDone 0 = .ok (.iload_n 1, 1) := by decide +kernel
theorem dX8_isDone_1 : decode cX8_isDone 1 = .ok (.sipush 1000, 3) := by decide +kernel
theorem dX8_isDone_4 : decode cX8_isDone 4 = .ok (.irem, 1) := by decide +kernel
theorem dX8_isDone_5 : decode cX8_isDone 5 = .ok (.bipush 10, 2) := by decide +kernel
theorem dX8_isDone_7 : decode cX8_isDone 7 = .ok (.idiv, 1) := by decide +kernel
theorem dX8_isDone_8 : decode cX8_isDone 8 = .ok (.istore_n 2, 1) := by decide +kernel
theorem dX8_isDone_9 : decode cX8_isDone 9 = .ok (.iload_n 1, 1) := by decide +kernel
theorem dX8_isDone_10 : decode cX8_isDone 10 = .ok (.sipush 1000, 3) := by decide +kernel
theorem dX8_isDone_13 : decode cX8_isDone 13 = .ok (.idiv, 1) := by decide +kernel
theorem dX8_isDone_14 : decode cX8_isDone 14 = .ok (.tableswitch 72 1 3 #[26, 44, 58], 26) := by decide +kernel
theorem dX8_isDone_40 : decode cX8_isDone 40 = .ok (.aload_n 0, 1) := by decide +kernel
theorem dX8_isDone_41 : decode cX8_isDone 41 = .ok (.iload_n 2, 1) := by decide +kernel
theorem dX8_isDone_42 : decode cX8_isDone 42 = .ok (.iload_n 1, 1) := by decide +kernel
theorem dX8_isDone_43 : decode cX8_isDone 43 = .ok (.bipush 10, 2) := by decide +kernel
theorem dX8_isDone_45 : decode cX8_isDone 45 = .ok (.irem, 1) := by decide +kernel
theorem dX8_isDone_46 : decode cX8_isDone 46 = .ok (.invokevirtual 239, 3) := by decide +kernel
theorem dX8_isDone_49 : decode cX8_isDone 49 = .ok (.ifCond .lt 7, 3) := by decide +kernel
theorem dX8_isDone_52 : decode cX8_isDone 52 = .ok (.iconst 1, 1) := by decide +kernel
theorem dX8_isDone_53 : decode cX8_isDone 53 = .ok (.goto 4, 3) := by decide +kernel
theorem dX8_isDone_56 : decode cX8_isDone 56 = .ok (.iconst 0, 1) := by decide +kernel
theorem dX8_isDone_57 : decode cX8_isDone 57 = .ok (.ireturn, 1) := by decide +kernel
theorem dX8_isDone_58 : decode cX8_isDone 58 = .ok (.aload_n 0, 1) := by decide +kernel
theorem dX8_isDone_59 : decode cX8_isDone 59 = .ok (.iload_n 2, 1) := by decide +kernel
theorem dX8_isDone_60 : decode cX8_isDone 60 = .ok (.invokevirtual 242, 3) := by decide +kernel
theorem dX8_isDone_63 : decode cX8_isDone 63 = .ok (.ifCond .lt 7, 3) := by decide +kernel
theorem dX8_isDone_66 : decode cX8_isDone 66 = .ok (.iconst 1, 1) := by decide +kernel
theorem dX8_isDone_67 : decode cX8_isDone 67 = .ok (.goto 4, 3) := by decide +kernel
theorem dX8_isDone_70 : decode cX8_isDone 70 = .ok (.iconst 0, 1) := by decide +kernel
theorem dX8_isDone_71 : decode cX8_isDone 71 = .ok (.ireturn, 1) := by decide +kernel
theorem dX8_isDone_72 : decode cX8_isDone 72 = .ok (.aload_n 0, 1) := by decide +kernel
theorem dX8_isDone_73 : decode cX8_isDone 73 = .ok (.iload_n 2, 1) := by decide +kernel
theorem dX8_isDone_74 : decode cX8_isDone 74 = .ok (.invokevirtual 245, 3) := by decide +kernel
theorem dX8_isDone_77 : decode cX8_isDone 77 = .ok (.ifCond .lt 7, 3) := by decide +kernel
theorem dX8_isDone_80 : decode cX8_isDone 80 = .ok (.iconst 1, 1) := by decide +kernel
theorem dX8_isDone_81 : decode cX8_isDone 81 = .ok (.goto 4, 3) := by decide +kernel
theorem dX8_isDone_84 : decode cX8_isDone 84 = .ok (.iconst 0, 1) := by decide +kernel
theorem dX8_isDone_85 : decode cX8_isDone 85 = .ok (.ireturn, 1) := by decide +kernel
theorem dX8_isDone_86 : decode cX8_isDone 86 = .ok (.aload_n 0, 1) := by decide +kernel
theorem dX8_isDone_87 : decode cX8_isDone 87 = .ok (.invokevirtual 248, 3) := by decide +kernel
theorem dX8_isDone_90 : decode cX8_isDone 90 = .ok (.ifCond .lt 7, 3) := by decide +kernel
theorem dX8_isDone_93 : decode cX8_isDone 93 = .ok (.iconst 1, 1) := by decide +kernel
theorem dX8_isDone_94 : decode cX8_isDone 94 = .ok (.goto 4, 3) := by decide +kernel
theorem dX8_isDone_97 : decode cX8_isDone 97 = .ok (.iconst 0, 1) := by decide +kernel
theorem dX8_isDone_98 : decode cX8_isDone 98 = .ok (.ireturn, 1) := by decide +kernel
theorem dX8_isBroken_0 : decode cX8_isBroken 0 = .ok (.iload_n 1, 1) := by decide +kernel
theorem dX8_isBroken_1 : decode cX8_isBroken 1 = .ok (.iconst 1, 1) := by decide +kernel
theorem dX8_isBroken_2 : decode cX8_isBroken 2 = .ok (.if_icmp .ne 16, 3) := by decide +kernel
theorem dX8_isBroken_5 : decode cX8_isBroken 5 = .ok (.aload_n 0, 1) := by decide +kernel
theorem dX8_isBroken_6 : decode cX8_isBroken 6 = .ok (.getfield 67, 3) := by decide +kernel
theorem dX8_isBroken_9 : decode cX8_isBroken 9 = .ok (.iload_n 2, 1) := by decide +kernel
theorem dX8_isBroken_10 : decode cX8_isBroken 10 = .ok (.iaload, 1) := by decide +kernel
theorem dX8_isBroken_11 : decode cX8_isBroken 11 = .ok (.ifCond .le 7, 3) := by decide +kernel
theorem dX8_isBroken_14 : decode cX8_isBroken 14 = .ok (.iconst 1, 1) := by decide +kernel
theorem dX8_isBroken_15 : decode cX8_isBroken 15 = .ok (.goto 4, 3) := by decide +kernel
theorem dX8_isBroken_18 : decode cX8_isBroken 18 = .ok (.iconst 0, 1) := by decide +kernel
theorem dX8_isBroken_19 : decode cX8_isBroken 19 = .ok (.istore 4, 2) := by decide +kernel
theorem dX8_isBroken_21 : decode cX8_isBroken 21 = .ok (.iconst 0, 1) := by decide +kernel
theorem dX8_isBroken_22 : decode cX8_isBroken 22 = .ok (.istore 5, 2) := by decide +kernel
theorem dX8_isBroken_24 : decode cX8_isBroken 24 = .ok (.iload 5, 2) := by decide +kernel
theorem dX8_isBroken_26 : decode cX8_isBroken 26 = .ok (.aload_n 0, 1) := by decide +kernel
theorem dX8_isBroken_27 : decode cX8_isBroken 27 = .ok (.getfield 70, 3) := by decide +kernel
theorem dX8_isBroken_30 : decode cX8_isBroken 30 = .ok (.iconst 2, 1) := by decide +kernel
theorem dX8_isBroken_31 : decode cX8_isBroken 31 = .ok (.iaload, 1) := by decide +kernel
theorem dX8_isBroken_32 : decode cX8_isBroken 32 = .ok (.if_icmp .ge 118, 3) := by decide +kernel
theorem dX8_isBroken_35 : decode cX8_isBroken 35 = .ok (.aload_n 0, 1) := by decide +kernel
theorem dX8_isBroken_36 : decode cX8_isBroken 36 = .ok (.getfield 31, 3) := by decide +kernel
theorem dX8_isBroken_39 : decode cX8_isBroken 39 = .ok (.iload 5, 2) := by decide +kernel
theorem dX8_isBroken_41 : decode cX8_isBroken 41 = .ok (.iaload, 1) := by decide +kernel
theorem dX8_isBroken_42 : decode cX8_isBroken 42 = .ok (.iconst 1, 1) := by decide +kernel
theorem dX8_isBroken_43 : decode cX8_isBroken 43 = .ok (.if_icmp .ne 51, 3) := by decide +kernel
theorem dX8_isBroken_46 : decode cX8_isBroken 46 = .ok (.aload_n 0, 1) := by decide +kernel
theorem dX8_isBroken_47 : decode cX8_isBroken 47 = .ok (.getfield 28, 3) := by decide +kernel
theorem dX8_isBroken_50 : decode cX8_isBroken 50 = .ok (.iload 5, 2) := by decide +kernel
theorem dX8_isBroken_52 : decode cX8_isBroken 52 = .ok (.iaload, 1) := by decide +kernel
theorem dX8_isBroken_53 : decode cX8_isBroken 53 = .ok (.iload_n 2, 1) := by decide +kernel
theorem dX8_isBroken_54 : decode cX8_isBroken 54 = .ok (.if_icmp .ne 14, 3) := by decide +kernel
theorem dX8_isBroken_57 : decode cX8_isBroken 57 = .ok (.aload_n 0, 1) := by decide +kernel
theorem dX8_isBroken_58 : decode cX8_isBroken 58 = .ok (.getfield 49, 3) := by decide +kernel
theorem dX8_isBroken_61 : decode cX8_isBroken 61 = .ok (.iload 5, 2) := by decide +kernel
theorem dX8_isBroken_63 : decode cX8_isBroken 63 = .ok (.iaload, 1) := by decide +kernel
theorem dX8_isBroken_64 : decode cX8_isBroken 64 = .ok (.iload_n 3, 1) := by decide +kernel
theorem dX8_isBroken_65 : decode cX8_isBroken 65 = .ok (.if_icmp .eq 25, 3) := by decide +kernel
theorem dX8_isBroken_68 : decode cX8_isBroken 68 = .ok (.aload_n 0, 1) := by decide +kernel
theorem dX8_isBroken_69 : decode cX8_isBroken 69 = .ok (.getfield 28, 3) := by decide +kernel
theorem dX8_isBroken_72 : decode cX8_isBroken 72 = .ok (.iload 5, 2) := by decide +kernel
theorem dX8_isBroken_74 : decode cX8_isBroken 74 = .ok (.iaload, 1) := by decide +kernel
theorem dX8_isBroken_75 : decode cX8_isBroken 75 = .ok (.iload_n 3, 1) := by decide +kernel
theorem dX8_isBroken_76 : decode cX8_isBroken 76 = .ok (.if_icmp .ne 18, 3) := by decide +kernel
theorem dX8_isBroken_79 : decode cX8_isBroken 79 = .ok (.aload_n 0, 1) := by decide +kernel
theorem dX8_isBroken_80 : decode cX8_isBroken 80 = .ok (.getfield 49, 3) := by decide +kernel
theorem dX8_isBroken_83 : decode cX8_isBroken 83 = .ok (.iload 5, 2) := by decide +kernel
theorem dX8_isBroken_85 : decode cX8_isBroken 85 = .ok (.iaload, 1) := by decide +kernel
theorem dX8_isBroken_86 : decode cX8_isBroken 86 = .ok (.iload_n 2, 1) := by decide +kernel
theorem dX8_isBroken_87 : decode cX8_isBroken 87 = .ok (.if_icmp .ne 7, 3) := by decide +kernel
theorem dX8_isBroken_90 : decode cX8_isBroken 90 = .ok (.iconst 1, 1) := by decide +kernel
theorem dX8_isBroken_91 : decode cX8_isBroken 91 = .ok (.goto 4, 3) := by decide +kernel
theorem dX8_isBroken_94 : decode cX8_isBroken 94 = .ok (.iconst 0, 1) := by decide +kernel
theorem dX8_isBroken_95 : decode cX8_isBroken 95 = .ok (.istore 6, 2) := by decide +kernel
theorem dX8_isBroken_97 : decode cX8_isBroken 97 = .ok (.iload 4, 2) := by decide +kernel
theorem dX8_isBroken_99 : decode cX8_isBroken 99 = .ok (.ifCond .ne 38, 3) := by decide +kernel
theorem dX8_isBroken_102 : decode cX8_isBroken 102 = .ok (.iload_n 1, 1) := by decide +kernel
theorem dX8_isBroken_103 : decode cX8_isBroken 103 = .ok (.ifCond .ne 8, 3) := by decide +kernel
theorem dX8_isBroken_106 : decode cX8_isBroken 106 = .ok (.iload 6, 2) := by decide +kernel
theorem dX8_isBroken_108 : decode cX8_isBroken 108 = .ok (.ifCond .ne 29, 3) := by decide +kernel
theorem dX8_isBroken_111 : decode cX8_isBroken 111 = .ok (.iload_n 1, 1) := by decide +kernel
theorem dX8_isBroken_112 : decode cX8_isBroken 112 = .ok (.iconst 2, 1) := by decide +kernel
theorem dX8_isBroken_113 : decode cX8_isBroken 113 = .ok (.if_icmp .ne 28, 3) := by decide +kernel
theorem dX8_isBroken_116 : decode cX8_isBroken 116 = .ok (.aload_n 0, 1) := by decide +kernel
theorem dX8_isBroken_117 : decode cX8_isBroken 117 = .ok (.getfield 28, 3) := by decide +kernel
theorem dX8_isBroken_120 : decode cX8_isBroken 120 = .ok (.iload 5, 2) := by decide +kernel
theorem dX8_isBroken_122 : decode cX8_isBroken 122 = .ok (.iaload, 1) := by decide +kernel
theorem dX8_isBroken_123 : decode cX8_isBroken 123 = .ok (.iload_n 2, 1) := by decide +kernel
theorem dX8_isBroken_124 : decode cX8_isBroken 124 = .ok (.if_icmp .ne 17, 3) := by decide +kernel
theorem dX8_isBroken_127 : decode cX8_isBroken 127 = .ok (.aload_n 0, 1) := by decide +kernel
theorem dX8_isBroken_128 : decode cX8_isBroken 128 = .ok (.iload 5, 2) := by decide +kernel
theorem dX8_isBroken_130 : decode cX8_isBroken 130 = .ok (.iload_n 3, 1) := by decide +kernel
theorem dX8_isBroken_131 : decode cX8_isBroken 131 = .ok (.invokevirtual 233, 3) := by decide +kernel
theorem dX8_isBroken_134 : decode cX8_isBroken 134 = .ok (.ifCond .eq 7, 3) := by decide +kernel
theorem dX8_isBroken_137 : decode cX8_isBroken 137 = .ok (.iconst 1, 1) := by decide +kernel
theorem dX8_isBroken_138 : decode cX8_isBroken 138 = .ok (.goto 4, 3) := by decide +kernel
theorem dX8_isBroken_141 : decode cX8_isBroken 141 = .ok (.iconst 0, 1) := by decide +kernel
theorem dX8_isBroken_142 : decode cX8_isBroken 142 = .ok (.istore 4, 2) := by decide +kernel
theorem dX8_isBroken_144 : decode cX8_isBroken 144 = .ok (.iinc 5 1, 3) := by decide +kernel
theorem dX8_isBroken_147 : decode cX8_isBroken 147 = .ok (.goto (-123), 3) := by decide +kernel
theorem dX8_isBroken_150 : decode cX8_isBroken 150 = .ok (.iload 4, 2) := by decide +kernel
theorem dX8_isBroken_152 : decode cX8_isBroken 152 = .ok (.ireturn, 1) := by decide +kernel
theorem dX8_empties_0 : decode cX8_empties 0 = .ok (.aload_n 0, 1) := by decide +kernel
theorem dX8_empties_1 : decode cX8_empties 1 = .ok (.getfield 70, 3) := by decide +kernel
theorem dX8_empties_4 : decode cX8_empties 4 = .ok (.iconst 2, 1) := by decide +kernel
theorem dX8_empties_5 : decode cX8_empties 5 = .ok (.iconst 0, 1) := by decide +kernel
theorem dX8_empties_6 : decode cX8_empties 6 = .ok (.iastore, 1) := by decide +kernel
theorem dX8_empties_7 : decode cX8_empties 7 = .ok (.aload_n 0, 1) := by decide +kernel
theorem dX8_empties_8 : decode cX8_empties 8 = .ok (.getfield 70, 3) := by decide +kernel
theorem dX8_empties_11 : decode cX8_empties 11 = .ok (.iconst 3, 1) := by decide +kernel
theorem dX8_empties_12 : decode cX8_empties 12 = .ok (.iconst 0, 1) := by decide +kernel
theorem dX8_empties_13 : decode cX8_empties 13 = .ok (.iastore, 1) := by decide +kernel
theorem dX8_empties_14 : decode cX8_empties 14 = .ok (.aload_n 0, 1) := by decide +kernel
theorem dX8_empties_15 : decode cX8_empties 15 = .ok (.getfield 70, 3) := by decide +kernel
theorem dX8_empties_18 : decode cX8_empties 18 = .ok (.iconst 4, 1) := by decide +kernel
theorem dX8_empties_19 : decode cX8_empties 19 = .ok (.iconst 0, 1) := by decide +kernel
theorem dX8_empties_20 : decode cX8_empties 20 = .ok (.iastore, 1) := by decide +kernel
theorem dX8_empties_21 : decode cX8_empties 21 = .ok (.iconst 0, 1) := by decide +kernel
theorem dX8_empties_22 : decode cX8_empties 22 = .ok (.istore_n 1, 1) := by decide +kernel
theorem dX8_empties_23 : decode cX8_empties 23 = .ok (.iload_n 1, 1) := by decide +kernel
theorem dX8_empties_24 : decode cX8_empties 24 = .ok (.bipush 8, 2) := by decide +kernel
theorem dX8_empties_26 : decode cX8_empties 26 = .ok (.if_icmp .ge 16, 3) := by decide +kernel
theorem dX8_empties_29 : decode cX8_empties 29 = .ok (.aload_n 0, 1) := by decide +kernel
theorem dX8_empties_30 : decode cX8_empties 30 = .ok (.getfield 67, 3) := by decide +kernel
theorem dX8_empties_33 : decode cX8_empties 33 = .ok (.iload_n 1, 1) := by decide +kernel
theorem dX8_empties_34 : decode cX8_empties 34 = .ok (.iconst 0, 1) := by decide +kernel
theorem dX8_empties_35 : decode cX8_empties 35 = .ok (.iastore, 1) := by decide +kernel
theorem dX8_empties_36 : decode cX8_empties 36 = .ok (.iinc 1 1, 3) := by decide +kernel
theorem dX8_empties_39 : decode cX8_empties 39 = .ok (.goto (-16), 3) := by decide +kernel
theorem dX8_empties_42 : decode cX8_empties 42 = .ok (.return_, 1) := by decide +kernel
theorem dX8_breaks_0 : decode cX8_breaks 0 = .ok (.aload_n 0, 1) := by decide +kernel
theorem dX8_breaks_1 : decode cX8_breaks 1 = .ok (.invokevirtual 252, 3) := by decide +kernel
theorem dX8_breaks_4 : decode cX8_breaks 4 = .ok (.iload_n 1, 1) := by decide +kernel
theorem dX8_breaks_5 : decode cX8_breaks 5 = .ok (.istore 6, 2) := by decide +kernel
theorem dX8_breaks_7 : decode cX8_breaks 7 = .ok (.iload_n 2, 1) := by decide +kernel
theorem dX8_breaks_8 : decode cX8_breaks 8 = .ok (.iconst 1, 1) := by decide +kernel
theorem dX8_breaks_9 : decode cX8_breaks 9 = .ok (.isub, 1) := by decide +kernel
theorem dX8_breaks_10 : decode cX8_breaks 10 = .ok (.istore 7, 2) := by decide +kernel
theorem dX8_breaks_12 : decode cX8_breaks 12 = .ok (.iload 7, 2) := by decide +kernel
theorem dX8_breaks_14 : decode cX8_breaks 14 = .ok (.ifCond .lt 37, 3) := by decide +kernel
theorem dX8_breaks_17 : decode cX8_breaks 17 = .ok (.aload_n 0, 1) := by decide +kernel
theorem dX8_breaks_18 : decode cX8_breaks 18 = .ok (.getfield 88, 3) := by decide +kernel
theorem dX8_breaks_21 : decode cX8_breaks 21 = .ok (.iload 7, 2) := by decide +kernel
theorem dX8_breaks_23 : decode cX8_breaks 23 = .ok (.aload_n 0, 1) := by decide +kernel
theorem dX8_breaks_24 : decode cX8_breaks 24 = .ok (.getfield 85, 3) := by decide +kernel
theorem dX8_breaks_27 : decode cX8_breaks 27 = .ok (.iload 6, 2) := by decide +kernel
theorem dX8_breaks_29 : decode cX8_breaks 29 = .ok (.aload_n 0, 1) := by decide +kernel
theorem dX8_breaks_30 : decode cX8_breaks 30 = .ok (.getfield 236, 3) := by decide +kernel
theorem dX8_breaks_33 : decode cX8_breaks 33 = .ok (.irem, 1) := by decide +kernel
theorem dX8_breaks_34 : decode cX8_breaks 34 = .ok (.iaload, 1) := by decide +kernel
theorem dX8_breaks_35 : decode cX8_breaks 35 = .ok (.iastore, 1) := by decide +kernel
theorem dX8_breaks_36 : decode cX8_breaks 36 = .ok (.iload 6, 2) := by decide +kernel
theorem dX8_breaks_38 : decode cX8_breaks 38 = .ok (.aload_n 0, 1) := by decide +kernel
theorem dX8_breaks_39 : decode cX8_breaks 39 = .ok (.getfield 236, 3) := by decide +kernel
theorem dX8_breaks_42 : decode cX8_breaks 42 = .ok (.idiv, 1) := by decide +kernel
theorem dX8_breaks_43 : decode cX8_breaks 43 = .ok (.istore 6, 2) := by decide +kernel
theorem dX8_breaks_45 : decode cX8_breaks 45 = .ok (.iinc 7 (-1), 3) := by decide +kernel
theorem dX8_breaks_48 : decode cX8_breaks 48 = .ok (.goto (-36), 3) := by decide +kernel
theorem dX8_breaks_51 : decode cX8_breaks 51 = .ok (.iconst 0, 1) := by decide +kernel
theorem dX8_breaks_52 : decode cX8_breaks 52 = .ok (.istore 7, 2) := by decide +kernel
theorem dX8_breaks_54 : decode cX8_breaks 54 = .ok (.iload 7, 2) := by decide +kernel
theorem dX8_breaks_56 : decode cX8_breaks 56 = .ok (.iload_n 2, 1) := by decide +kernel
theorem dX8_breaks_57 : decode cX8_breaks 57 = .ok (.if_icmp .ge 25, 3) := by decide +kernel
theorem dX8_breaks_60 : decode cX8_breaks 60 = .ok (.aload_n 0, 1) := by decide +kernel
theorem dX8_breaks_61 : decode cX8_breaks 61 = .ok (.aload_n 0, 1) := by decide +kernel
theorem dX8_breaks_62 : decode cX8_breaks 62 = .ok (.getfield 88, 3) := by decide +kernel
theorem dX8_breaks_65 : decode cX8_breaks 65 = .ok (.iload 7, 2) := by decide +kernel
theorem dX8_breaks_67 : decode cX8_breaks 67 = .ok (.iaload, 1) := by decide +kernel
theorem dX8_breaks_68 : decode cX8_breaks 68 = .ok (.invokevirtual 255, 3) := by decide +kernel
theorem dX8_breaks_71 : decode cX8_breaks 71 = .ok (.ifCond .ne 5, 3) := by decide +kernel
theorem dX8_breaks_74 : decode cX8_breaks 74 = .ok (.iconst 0, 1) := by decide +kernel
theorem dX8_breaks_75 : decode cX8_breaks 75 = .ok (.ireturn, 1) := by decide +kernel
theorem dX8_breaks_76 : decode cX8_breaks 76 = .ok (.iinc 7 1, 3) := by decide +kernel
theorem dX8_breaks_79 : decode cX8_breaks 79 = .ok (.goto (-25), 3) := by decide +kernel
theorem dX8_breaks_82 : decode cX8_breaks 82 = .ok (.aload_n 0, 1) := by decide +kernel
theorem dX8_breaks_83 : decode cX8_breaks 83 = .ok (.iload_n 3, 1) := by decide +kernel
theorem dX8_breaks_84 : decode cX8_breaks 84 = .ok (.iload 4, 2) := by decide +kernel
theorem dX8_breaks_86 : decode cX8_breaks 86 = .ok (.iload 5, 2) := by decide +kernel
theorem dX8_breaks_88 : decode cX8_breaks 88 = .ok (.invokevirtual 258, 3) := by decide +kernel
theorem dX8_breaks_91 : decode cX8_breaks 91 = .ok (.ireturn, 1) := by decide +kernel
theorem dX8_search_0 : decode cX8_search 0 = .ok (.aload_n 0, 1) := by decide +kernel
theorem dX8_search_1 : decode cX8_search 1 = .ok (.getfield 109, 3) := by decide +kernel
theorem dX8_search_4 : decode cX8_search 4 = .ok (.istore 6, 2) := by decide +kernel
theorem dX8_search_6 : decode cX8_search 6 = .ok (.aload_n 0, 1) := by decide +kernel
theorem dX8_search_7 : decode cX8_search 7 = .ok (.aload_n 0, 1) := by decide +kernel
theorem dX8_search_8 : decode cX8_search 8 = .ok (.getfield 76, 3) := by decide +kernel
theorem dX8_search_11 : decode cX8_search 11 = .ok (.iconst 1, 1) := by decide +kernel
theorem dX8_search_12 : decode cX8_search 12 = .ok (.invokevirtual 219, 3) := by decide +kernel
theorem dX8_search_15 : decode cX8_search 15 = .ok (.aload_n 0, 1) := by decide +kernel
theorem dX8_search_16 : decode cX8_search 16 = .ok (.iload 4, 2) := by decide +kernel
theorem dX8_search_18 : decode cX8_search 18 = .ok (.invokevirtual 261, 3) := by decide +kernel
theorem dX8_search_21 : decode cX8_search 21 = .ok (.iconst 0, 1) := by decide +kernel
theorem dX8_search_22 : decode cX8_search 22 = .ok (.istore 7, 2) := by decide +kernel
theorem dX8_search_24 : decode cX8_search 24 = .ok (.iconst 1, 1) := by decide +kernel
theorem dX8_search_25 : decode cX8_search 25 = .ok (.istore 8, 2) := by decide +kernel
theorem dX8_search_27 : decode cX8_search 27 = .ok (.iconst 1, 1) := by decide +kernel
theorem dX8_search_28 : decode cX8_search 28 = .ok (.istore 9, 2) := by decide +kernel
theorem dX8_search_30 : decode cX8_search 30 = .ok (.iload 9, 2) := by decide +kernel
theorem dX8_search_32 : decode cX8_search 32 = .ok (.iload 5, 2) := by decide +kernel
theorem dX8_search_34 : decode cX8_search 34 = .ok (.if_icmp .gt 62, 3) := by decide +kernel
theorem dX8_search_37 : decode cX8_search 37 = .ok (.iload 7, 2) := by decide +kernel
theorem dX8_search_39 : decode cX8_search 39 = .ok (.ifCond .ne 57, 3) := by decide +kernel
theorem dX8_search_42 : decode cX8_search 42 = .ok (.iload 8, 2) := by decide +kernel
theorem dX8_search_44 : decode cX8_search 44 = .ok (.aload_n 0, 1) := by decide +kernel
theorem dX8_search_45 : decode cX8_search 45 = .ok (.getfield 236, 3) := by decide +kernel
theorem dX8_search_48 : decode cX8_search 48 = .ok (.imul, 1) := by decide +kernel
theorem dX8_search_49 : decode cX8_search 49 = .ok (.istore 8, 2) := by decide +kernel
theorem dX8_search_51 : decode cX8_search 51 = .ok (.iconst 0, 1) := by decide +kernel
theorem dX8_search_52 : decode cX8_search 52 = .ok (.istore 10, 2) := by decide +kernel
theorem dX8_search_54 : decode cX8_search 54 = .ok (.iload 10, 2) := by decide +kernel
theorem dX8_search_56 : decode cX8_search 56 = .ok (.iload 8, 2) := by decide +kernel
theorem dX8_search_58 : decode cX8_search 58 = .ok (.if_icmp .ge 32, 3) := by decide +kernel
theorem dX8_search_61 : decode cX8_search 61 = .ok (.iload 7, 2) := by decide +kernel
theorem dX8_search_63 : decode cX8_search 63 = .ok (.ifCond .ne 27, 3) := by decide +kernel
theorem dX8_search_66 : decode cX8_search 66 = .ok (.aload_n 0, 1) := by decide +kernel
theorem dX8_search_67 : decode cX8_search 67 = .ok (.iload 10, 2) := by decide +kernel
theorem dX8_search_69 : decode cX8_search 69 = .ok (.iload 9, 2) := by decide +kernel
theorem dX8_search_71 : decode cX8_search 71 = .ok (.iload_n 1, 1) := by decide +kernel
theorem dX8_search_72 : decode cX8_search 72 = .ok (.iload_n 2, 1) := by decide +kernel
theorem dX8_search_73 : decode cX8_search 73 = .ok (.iload_n 3, 1) := by decide +kernel
theorem dX8_search_74 : decode cX8_search 74 = .ok (.invokevirtual 264, 3) := by decide +kernel
theorem dX8_search_77 : decode cX8_search 77 = .ok (.ifCond .eq 7, 3) := by decide +kernel
theorem dX8_search_80 : decode cX8_search 80 = .ok (.iload 9, 2) := by decide +kernel
theorem dX8_search_82 : decode cX8_search 82 = .ok (.istore 7, 2) := by decide +kernel
theorem dX8_search_84 : decode cX8_search 84 = .ok (.iinc 10 1, 3) := by decide +kernel
theorem dX8_search_87 : decode cX8_search 87 = .ok (.goto (-33), 3) := by decide +kernel
theorem dX8_search_90 : decode cX8_search 90 = .ok (.iinc 9 1, 3) := by decide +kernel
theorem dX8_search_93 : decode cX8_search 93 = .ok (.goto (-63), 3) := by decide +kernel
theorem dX8_search_96 : decode cX8_search 96 = .ok (.aload_n 0, 1) := by decide +kernel
theorem dX8_search_97 : decode cX8_search 97 = .ok (.aload_n 0, 1) := by decide +kernel
theorem dX8_search_98 : decode cX8_search 98 = .ok (.getfield 76, 3) := by decide +kernel
theorem dX8_search_101 : decode cX8_search 101 = .ok (.iconst 0, 1) := by decide +kernel
theorem dX8_search_102 : decode cX8_search 102 = .ok (.invokevirtual 219, 3) := by decide +kernel
theorem dX8_search_105 : decode cX8_search 105 = .ok (.aload_n 0, 1) := by decide +kernel
theorem dX8_search_106 : decode cX8_search 106 = .ok (.iload 6, 2) := by decide +kernel
theorem dX8_search_108 : decode cX8_search 108 = .ok (.putfield 109, 3) := by decide +kernel
theorem dX8_search_111 : decode cX8_search 111 = .ok (.iload 7, 2) := by decide +kernel
theorem dX8_search_113 : decode cX8_search 113 = .ok (.ireturn, 1) := by decide +kernel
theorem dX8_bits_0 : decode cX8_bits 0 = .ok (.iconst 0, 1) := by decide +kernel
theorem dX8_bits_1 : decode cX8_bits 1 = .ok (.istore_n 1, 1) := by decide +kernel
theorem dX8_bits_2 : decode cX8_bits 2 = .ok (.iconst 0, 1) := by decide +kernel
theorem dX8_bits_3 : decode cX8_bits 3 = .ok (.istore_n 2, 1) := by decide +kernel
theorem dX8_bits_4 : decode cX8_bits 4 = .ok (.iload_n 2, 1) := by decide +kernel
theorem dX8_bits_5 : decode cX8_bits 5 = .ok (.bipush 8, 2) := by decide +kernel
theorem dX8_bits_7 : decode cX8_bits 7 = .ok (.if_icmp .ge 17, 3) := by decide +kernel
theorem dX8_bits_10 : decode cX8_bits 10 = .ok (.iload_n 1, 1) := by decide +kernel
theorem dX8_bits_11 : decode cX8_bits 11 = .ok (.iload_n 0, 1) := by decide +kernel
theorem dX8_bits_12 : decode cX8_bits 12 = .ok (.iload_n 2, 1) := by decide +kernel
theorem dX8_bits_13 : decode cX8_bits 13 = .ok (.ishr, 1) := by decide +kernel
theorem dX8_bits_14 : decode cX8_bits 14 = .ok (.iconst 1, 1) := by decide +kernel
theorem dX8_bits_15 : decode cX8_bits 15 = .ok (.iand, 1) := by decide +kernel
theorem dX8_bits_16 : decode cX8_bits 16 = .ok (.iadd, 1) := by decide +kernel
theorem dX8_bits_17 : decode cX8_bits 17 = .ok (.istore_n 1, 1) := by decide +kernel
theorem dX8_bits_18 : decode cX8_bits 18 = .ok (.iinc 2 1, 3) := by decide +kernel
theorem dX8_bits_21 : decode cX8_bits 21 = .ok (.goto (-17), 3) := by decide +kernel
theorem dX8_bits_24 : decode cX8_bits 24 = .ok (.iload_n 1, 1) := by decide +kernel
theorem dX8_bits_25 : decode cX8_bits 25 = .ok (.ireturn, 1) := by decide +kernel
theorem dX8_isAsked_0 : decode cX8_isAsked 0 = .ok (.iload_n 1, 1) := by decide +kernel
theorem dX8_isAsked_1 : decode cX8_isAsked 1 = .ok (.i2l, 1) := by decide +kernel
theorem dX8_isAsked_2 : decode cX8_isAsked 2 = .ok (.lconst 0, 1) := by decide +kernel
theorem dX8_isAsked_3 : decode cX8_isAsked 3 = .ok (.ldc2_w 267, 3) := by decide +kernel
theorem dX8_isAsked_6 : decode cX8_isAsked 6 = .ok (.invokestatic 126, 3) := by decide +kernel
theorem dX8_isAsked_9 : decode cX8_isAsked 9 = .ok (.ifCond .eq 24, 3) := by decide +kernel
theorem dX8_isAsked_12 : decode cX8_isAsked 12 = .ok (.aload_n 0, 1) := by decide +kernel
theorem dX8_isAsked_13 : decode cX8_isAsked 13 = .ok (.iload_n 2, 1) := by decide +kernel
theorem dX8_isAsked_14 : decode cX8_isAsked 14 = .ok (.invokevirtual 120, 3) := by decide +kernel
theorem dX8_isAsked_17 : decode cX8_isAsked 17 = .ok (.ifCond .eq 16, 3) := by decide +kernel
theorem dX8_isAsked_20 : decode cX8_isAsked 20 = .ok (.iload_n 1, 1) := by decide +kernel
theorem dX8_isAsked_21 : decode cX8_isAsked 21 = .ok (.iconst 1, 1) := by decide +kernel
theorem dX8_isAsked_22 : decode cX8_isAsked 22 = .ok (.if_icmp .eq 13, 3) := by decide +kernel
theorem dX8_isAsked_25 : decode cX8_isAsked 25 = .ok (.aload_n 0, 1) := by decide +kernel
theorem dX8_isAsked_26 : decode cX8_isAsked 26 = .ok (.iload_n 3, 1) := by decide +kernel
theorem dX8_isAsked_27 : decode cX8_isAsked 27 = .ok (.invokevirtual 120, 3) := by decide +kernel
theorem dX8_isAsked_30 : decode cX8_isAsked 30 = .ok (.ifCond .ne 5, 3) := by decide +kernel
theorem dX8_isAsked_33 : decode cX8_isAsked 33 = .ok (.iconst 0, 1) := by decide +kernel
theorem dX8_isAsked_34 : decode cX8_isAsked 34 = .ok (.ireturn, 1) := by decide +kernel
theorem dX8_isAsked_35 : decode cX8_isAsked 35 = .ok (.iload 4, 2) := by decide +kernel
theorem dX8_isAsked_37 : decode cX8_isAsked 37 = .ok (.ifCond .lt 42, 3) := by decide +kernel
theorem dX8_isAsked_40 : decode cX8_isAsked 40 = .ok (.iload 4, 2) := by decide +kernel
theorem dX8_isAsked_42 : decode cX8_isAsked 42 = .ok (.iconst 1, 1) := by decide +kernel
theorem dX8_isAsked_43 : decode cX8_isAsked 43 = .ok (.aload_n 0, 1) := by decide +kernel
theorem dX8_isAsked_44 : decode cX8_isAsked 44 = .ok (.getfield 70, 3) := by decide +kernel
theorem dX8_isAsked_47 : decode cX8_isAsked 47 = .ok (.iconst 0, 1) := by decide +kernel
theorem dX8_isAsked_48 : decode cX8_isAsked 48 = .ok (.iaload, 1) := by decide +kernel
theorem dX8_isAsked_49 : decode cX8_isAsked 49 = .ok (.ishl, 1) := by decide +kernel
theorem dX8_isAsked_50 : decode cX8_isAsked 50 = .ok (.if_icmp .ge 29, 3) := by decide +kernel
theorem dX8_isAsked_53 : decode cX8_isAsked 53 = .ok (.iload 4, 2) := by decide +kernel
theorem dX8_isAsked_55 : decode cX8_isAsked 55 = .ok (.invokestatic 269, 3) := by decide +kernel
theorem dX8_isAsked_58 : decode cX8_isAsked 58 = .ok (.iconst 3, 1) := by decide +kernel
theorem dX8_isAsked_59 : decode cX8_isAsked 59 = .ok (.if_icmp .gt 20, 3) := by decide +kernel
theorem dX8_isAsked_62 : decode cX8_isAsked 62 = .ok (.iload 5, 2) := by decide +kernel
theorem dX8_isAsked_64 : decode cX8_isAsked 64 = .ok (.i2l, 1) := by decide +kernel
theorem dX8_isAsked_65 : decode cX8_isAsked 65 = .ok (.lconst 1, 1) := by decide +kernel
theorem dX8_isAsked_66 : decode cX8_isAsked 66 = .ok (.ldc2_w 272, 3) := by decide +kernel
theorem dX8_isAsked_69 : decode cX8_isAsked 69 = .ok (.invokestatic 126, 3) := by decide +kernel
theorem dX8_isAsked_72 : decode cX8_isAsked 72 = .ok (.ifCond .eq 7, 3) := by decide +kernel
theorem dX8_isAsked_75 : decode cX8_isAsked 75 = .ok (.iconst 1, 1) := by decide +kernel
theorem dX8_isAsked_76 : decode cX8_isAsked 76 = .ok (.goto 4, 3) := by decide +kernel
theorem dX8_isAsked_79 : decode cX8_isAsked 79 = .ok (.iconst 0, 1) := by decide +kernel
theorem dX8_isAsked_80 : decode cX8_isAsked 80 = .ok (.ireturn, 1) := by decide +kernel
theorem dX8_judge_0 : decode cX8_judge 0 = .ok (.aload_n 0, 1) := by decide +kernel
theorem dX8_judge_1 : decode cX8_judge 1 = .ok (.iload_n 1, 1) := by decide +kernel
theorem dX8_judge_2 : decode cX8_judge 2 = .ok (.iload_n 2, 1) := by decide +kernel
theorem dX8_judge_3 : decode cX8_judge 3 = .ok (.iload_n 3, 1) := by decide +kernel
theorem dX8_judge_4 : decode cX8_judge 4 = .ok (.iload 4, 2) := by decide +kernel
theorem dX8_judge_6 : decode cX8_judge 6 = .ok (.iload 5, 2) := by decide +kernel
theorem dX8_judge_8 : decode cX8_judge 8 = .ok (.invokevirtual 274, 3) := by decide +kernel
theorem dX8_judge_11 : decode cX8_judge 11 = .ok (.ifCond .ne 9, 3) := by decide +kernel
theorem dX8_judge_14 : decode cX8_judge 14 = .ok (.aload_n 0, 1) := by decide +kernel
theorem dX8_judge_15 : decode cX8_judge 15 = .ok (.iconst 1, 1) := by decide +kernel
theorem dX8_judge_16 : decode cX8_judge 16 = .ok (.invokevirtual 113, 3) := by decide +kernel
theorem dX8_judge_19 : decode cX8_judge 19 = .ok (.ireturn, 1) := by decide +kernel
theorem dX8_judge_20 : decode cX8_judge 20 = .ok (.aload_n 0, 1) := by decide +kernel
theorem dX8_judge_21 : decode cX8_judge 21 = .ok (.aload_n 0, 1) := by decide +kernel
theorem dX8_judge_22 : decode cX8_judge 22 = .ok (.iload_n 1, 1) := by decide +kernel
theorem dX8_judge_23 : decode cX8_judge 23 = .ok (.iload_n 2, 1) := by decide +kernel
theorem dX8_judge_24 : decode cX8_judge 24 = .ok (.iload_n 3, 1) := by decide +kernel
theorem dX8_judge_25 : decode cX8_judge 25 = .ok (.iload 4, 2) := by decide +kernel
theorem dX8_judge_27 : decode cX8_judge 27 = .ok (.iload 5, 2) := by decide +kernel
theorem dX8_judge_29 : decode cX8_judge 29 = .ok (.invokevirtual 277, 3) := by decide +kernel
theorem dX8_judge_32 : decode cX8_judge 32 = .ok (.putfield 280, 3) := by decide +kernel
theorem dX8_judge_35 : decode cX8_judge 35 = .ok (.iconst 0, 1) := by decide +kernel
theorem dX8_judge_36 : decode cX8_judge 36 = .ok (.istore 6, 2) := by decide +kernel
theorem dX8_judge_38 : decode cX8_judge 38 = .ok (.iload 6, 2) := by decide +kernel
theorem dX8_judge_40 : decode cX8_judge 40 = .ok (.aload_n 0, 1) := by decide +kernel
theorem dX8_judge_41 : decode cX8_judge 41 = .ok (.getfield 280, 3) := by decide +kernel
theorem dX8_judge_44 : decode cX8_judge 44 = .ok (.if_icmp .ge 23, 3) := by decide +kernel
theorem dX8_judge_47 : decode cX8_judge 47 = .ok (.aload_n 0, 1) := by decide +kernel
theorem dX8_judge_48 : decode cX8_judge 48 = .ok (.getfield 91, 3) := by decide +kernel
theorem dX8_judge_51 : decode cX8_judge 51 = .ok (.iload 6, 2) := by decide +kernel
theorem dX8_judge_53 : decode cX8_judge 53 = .ok (.aload_n 0, 1) := by decide +kernel
theorem dX8_judge_54 : decode cX8_judge 54 = .ok (.getfield 88, 3) := by decide +kernel
theorem dX8_judge_57 : decode cX8_judge 57 = .ok (.iload 6, 2) := by decide +kernel
theorem dX8_judge_59 : decode cX8_judge 59 = .ok (.iaload, 1) := by decide +kernel
theorem dX8_judge_60 : decode cX8_judge 60 = .ok (.iastore, 1) := by decide +kernel
theorem dX8_judge_61 : decode cX8_judge 61 = .ok (.iinc 6 1, 3) := by decide +kernel
theorem dX8_judge_64 : decode cX8_judge 64 = .ok (.goto (-26), 3) := by decide +kernel
theorem dX8_judge_67 : decode cX8_judge 67 = .ok (.aload_n 0, 1) := by decide +kernel
theorem dX8_judge_68 : decode cX8_judge 68 = .ok (.aload_n 0, 1) := by decide +kernel
theorem dX8_judge_69 : decode cX8_judge 69 = .ok (.getfield 280, 3) := by decide +kernel
theorem dX8_judge_72 : decode cX8_judge 72 = .ok (.invokevirtual 117, 3) := by decide +kernel
theorem dX8_judge_75 : decode cX8_judge 75 = .ok (.ireturn, 1) := by decide +kernel
theorem dX8_actOf_0 : decode cX8_actOf 0 = .ok (.iload_n 1, 1) := by decide +kernel
theorem dX8_actOf_1 : decode cX8_actOf 1 = .ok (.i2l, 1) := by decide +kernel
theorem dX8_actOf_2 : decode cX8_actOf 2 = .ok (.lconst 0, 1) := by decide +kernel
theorem dX8_actOf_3 : decode cX8_actOf 3 = .ok (.aload_n 0, 1) := by decide +kernel
theorem dX8_actOf_4 : decode cX8_actOf 4 = .ok (.getfield 280, 3) := by decide +kernel
theorem dX8_actOf_7 : decode cX8_actOf 7 = .ok (.iconst 1, 1) := by decide +kernel
theorem dX8_actOf_8 : decode cX8_actOf 8 = .ok (.isub, 1) := by decide +kernel
theorem dX8_actOf_9 : decode cX8_actOf 9 = .ok (.i2l, 1) := by decide +kernel
theorem dX8_actOf_10 : decode cX8_actOf 10 = .ok (.invokestatic 126, 3) := by decide +kernel
theorem dX8_actOf_13 : decode cX8_actOf 13 = .ok (.ifCond .eq 12, 3) := by decide +kernel
theorem dX8_actOf_16 : decode cX8_actOf 16 = .ok (.aload_n 0, 1) := by decide +kernel
theorem dX8_actOf_17 : decode cX8_actOf 17 = .ok (.getfield 91, 3) := by decide +kernel
theorem dX8_actOf_20 : decode cX8_actOf 20 = .ok (.iload_n 1, 1) := by decide +kernel
theorem dX8_actOf_21 : decode cX8_actOf 21 = .ok (.iaload, 1) := by decide +kernel
theorem dX8_actOf_22 : decode cX8_actOf 22 = .ok (.goto 4, 3) := by decide +kernel
theorem dX8_actOf_25 : decode cX8_actOf 25 = .ok (.iconst (-1), 1) := by decide +kernel
theorem dX8_actOf_26 : decode cX8_actOf 26 = .ok (.ireturn, 1) := by decide +kernel
theorem dX8_isOfThese_0 : decode cX8_isOfThese 0 = .ok (.aload_n 0, 1) := by decide +kernel
theorem dX8_isOfThese_1 : decode cX8_isOfThese 1 = .ok (.getfield 13, 3) := by decide +kernel
theorem dX8_isOfThese_4 : decode cX8_isOfThese 4 = .ok (.iload_n 1, 1) := by decide +kernel
theorem dX8_isOfThese_5 : decode cX8_isOfThese 5 = .ok (.iaload, 1) := by decide +kernel
theorem dX8_isOfThese_6 : decode cX8_isOfThese 6 = .ok (.iconst 1, 1) := by decide +kernel
theorem dX8_isOfThese_7 : decode cX8_isOfThese 7 = .ok (.if_icmp .eq 23, 3) := by decide +kernel
theorem dX8_isOfThese_10 : decode cX8_isOfThese 10 = .ok (.aload_n 0, 1) := by decide +kernel
theorem dX8_isOfThese_11 : decode cX8_isOfThese 11 = .ok (.getfield 13, 3) := by decide +kernel
theorem dX8_isOfThese_14 : decode cX8_isOfThese 14 = .ok (.iload_n 1, 1) := by decide +kernel
theorem dX8_isOfThese_15 : decode cX8_isOfThese 15 = .ok (.iaload, 1) := by decide +kernel
theorem dX8_isOfThese_16 : decode cX8_isOfThese 16 = .ok (.iconst 2, 1) := by decide +kernel
theorem dX8_isOfThese_17 : decode cX8_isOfThese 17 = .ok (.if_icmp .eq 13, 3) := by decide +kernel
theorem dX8_isOfThese_20 : decode cX8_isOfThese 20 = .ok (.aload_n 0, 1) := by decide +kernel
theorem dX8_isOfThese_21 : decode cX8_isOfThese 21 = .ok (.getfield 13, 3) := by decide +kernel
theorem dX8_isOfThese_24 : decode cX8_isOfThese 24 = .ok (.iload_n 1, 1) := by decide +kernel
theorem dX8_isOfThese_25 : decode cX8_isOfThese 25 = .ok (.iaload, 1) := by decide +kernel
theorem dX8_isOfThese_26 : decode cX8_isOfThese 26 = .ok (.iconst 4, 1) := by decide +kernel
theorem dX8_isOfThese_27 : decode cX8_isOfThese 27 = .ok (.if_icmp .ne 7, 3) := by decide +kernel
theorem dX8_isOfThese_30 : decode cX8_isOfThese 30 = .ok (.iconst 1, 1) := by decide +kernel
theorem dX8_isOfThese_31 : decode cX8_isOfThese 31 = .ok (.goto 4, 3) := by decide +kernel
theorem dX8_isOfThese_34 : decode cX8_isOfThese 34 = .ok (.iconst 0, 1) := by decide +kernel
theorem dX8_isOfThese_35 : decode cX8_isOfThese 35 = .ok (.ireturn, 1) := by decide +kernel
theorem dX8_alone_0 : decode cX8_alone 0 = .ok (.aload_n 0, 1) := by decide +kernel
theorem dX8_alone_1 : decode cX8_alone 1 = .ok (.iload_n 1, 1) := by decide +kernel
theorem dX8_alone_2 : decode cX8_alone 2 = .ok (.iload_n 2, 1) := by decide +kernel
theorem dX8_alone_3 : decode cX8_alone 3 = .ok (.iload_n 3, 1) := by decide +kernel
theorem dX8_alone_4 : decode cX8_alone 4 = .ok (.iload 4, 2) := by decide +kernel
theorem dX8_alone_6 : decode cX8_alone 6 = .ok (.iload 5, 2) := by decide +kernel
theorem dX8_alone_8 : decode cX8_alone 8 = .ok (.invokevirtual 274, 3) := by decide +kernel
theorem dX8_alone_11 : decode cX8_alone 11 = .ok (.ifCond .ne 5, 3) := by decide +kernel
theorem dX8_alone_14 : decode cX8_alone 14 = .ok (.iconst (-1), 1) := by decide +kernel
theorem dX8_alone_15 : decode cX8_alone 15 = .ok (.ireturn, 1) := by decide +kernel
theorem dX8_alone_16 : decode cX8_alone 16 = .ok (.iconst 0, 1) := by decide +kernel
theorem dX8_alone_17 : decode cX8_alone 17 = .ok (.istore 6, 2) := by decide +kernel
theorem dX8_alone_19 : decode cX8_alone 19 = .ok (.iload 6, 2) := by decide +kernel
theorem dX8_alone_21 : decode cX8_alone 21 = .ok (.aload_n 0, 1) := by decide +kernel
theorem dX8_alone_22 : decode cX8_alone 22 = .ok (.getfield 70, 3) := by decide +kernel
theorem dX8_alone_25 : decode cX8_alone 25 = .ok (.iconst 1, 1) := by decide +kernel
theorem dX8_alone_26 : decode cX8_alone 26 = .ok (.iaload, 1) := by decide +kernel
theorem dX8_alone_27 : decode cX8_alone 27 = .ok (.if_icmp .ge 23, 3) := by decide +kernel
theorem dX8_alone_30 : decode cX8_alone 30 = .ok (.aload_n 0, 1) := by decide +kernel
theorem dX8_alone_31 : decode cX8_alone 31 = .ok (.getfield 94, 3) := by decide +kernel
theorem dX8_alone_34 : decode cX8_alone 34 = .ok (.iload 6, 2) := by decide +kernel
theorem dX8_alone_36 : decode cX8_alone 36 = .ok (.aload_n 0, 1) := by decide +kernel
theorem dX8_alone_37 : decode cX8_alone 37 = .ok (.getfield 25, 3) := by decide +kernel
theorem dX8_alone_40 : decode cX8_alone 40 = .ok (.iload 6, 2) := by decide +kernel
theorem dX8_alone_42 : decode cX8_alone 42 = .ok (.iaload, 1) := by decide +kernel
theorem dX8_alone_43 : decode cX8_alone 43 = .ok (.iastore, 1) := by decide +kernel
theorem dX8_alone_44 : decode cX8_alone 44 = .ok (.iinc 6 1, 3) := by decide +kernel
theorem dX8_alone_47 : decode cX8_alone 47 = .ok (.goto (-28), 3) := by decide +kernel
theorem dX8_alone_50 : decode cX8_alone 50 = .ok (.iconst (-1), 1) := by decide +kernel
theorem dX8_alone_51 : decode cX8_alone 51 = .ok (.istore 6, 2) := by decide +kernel
theorem dX8_alone_53 : decode cX8_alone 53 = .ok (.iconst 0, 1) := by decide +kernel
theorem dX8_alone_54 : decode cX8_alone 54 = .ok (.istore 7, 2) := by decide +kernel
theorem dX8_alone_56 : decode cX8_alone 56 = .ok (.iload 7, 2) := by decide +kernel
theorem dX8_alone_58 : decode cX8_alone 58 = .ok (.aload_n 0, 1) := by decide +kernel
theorem dX8_alone_59 : decode cX8_alone 59 = .ok (.getfield 70, 3) := by decide +kernel
theorem dX8_alone_62 : decode cX8_alone 62 = .ok (.iconst 1, 1) := by decide +kernel
theorem dX8_alone_63 : decode cX8_alone 63 = .ok (.iaload, 1) := by decide +kernel
theorem dX8_alone_64 : decode cX8_alone 64 = .ok (.if_icmp .ge 102, 3) := by decide +kernel
theorem dX8_alone_67 : decode cX8_alone 67 = .ok (.iload 6, 2) := by decide +kernel
theorem dX8_alone_69 : decode cX8_alone 69 = .ok (.ifCond .ge 97, 3) := by decide +kernel
theorem dX8_alone_72 : decode cX8_alone 72 = .ok (.aload_n 0, 1) := by decide +kernel
theorem dX8_alone_73 : decode cX8_alone 73 = .ok (.iload 7, 2) := by decide +kernel
theorem dX8_alone_75 : decode cX8_alone 75 = .ok (.invokevirtual 283, 3) := by decide +kernel
theorem dX8_alone_78 : decode cX8_alone 78 = .ok (.ifCond .ne 6, 3) := by decide +kernel
theorem dX8_alone_81 : decode cX8_alone 81 = .ok (.goto 79, 3) := by decide +kernel
theorem dX8_alone_84 : decode cX8_alone 84 = .ok (.iconst 0, 1) := by decide +kernel
theorem dX8_alone_85 : decode cX8_alone 85 = .ok (.istore 8, 2) := by decide +kernel
theorem dX8_alone_87 : decode cX8_alone 87 = .ok (.iload 8, 2) := by decide +kernel
theorem dX8_alone_89 : decode cX8_alone 89 = .ok (.aload_n 0, 1) := by decide +kernel
theorem dX8_alone_90 : decode cX8_alone 90 = .ok (.getfield 70, 3) := by decide +kernel
theorem dX8_alone_93 : decode cX8_alone 93 = .ok (.iconst 1, 1) := by decide +kernel
theorem dX8_alone_94 : decode cX8_alone 94 = .ok (.iaload, 1) := by decide +kernel
theorem dX8_alone_95 : decode cX8_alone 95 = .ok (.if_icmp .ge 47, 3) := by decide +kernel
theorem dX8_alone_98 : decode cX8_alone 98 = .ok (.aload_n 0, 1) := by decide +kernel
theorem dX8_alone_99 : decode cX8_alone 99 = .ok (.getfield 25, 3) := by decide +kernel
theorem dX8_alone_102 : decode cX8_alone 102 = .ok (.iload 8, 2) := by decide +kernel
theorem dX8_alone_104 : decode cX8_alone 104 = .ok (.aload_n 0, 1) := by decide +kernel
theorem dX8_alone_105 : decode cX8_alone 105 = .ok (.iload 8, 2) := by decide +kernel
theorem dX8_alone_107 : decode cX8_alone 107 = .ok (.invokevirtual 283, 3) := by decide +kernel
theorem dX8_alone_110 : decode cX8_alone 110 = .ok (.ifCond .eq 18, 3) := by decide +kernel
theorem dX8_alone_113 : decode cX8_alone 113 = .ok (.iload 8, 2) := by decide +kernel
theorem dX8_alone_115 : decode cX8_alone 115 = .ok (.iload 7, 2) := by decide +kernel
theorem dX8_alone_117 : decode cX8_alone 117 = .ok (.if_icmp .ne 7, 3) := by decide +kernel
theorem dX8_alone_120 : decode cX8_alone 120 = .ok (.iconst 1, 1) := by decide +kernel
theorem dX8_alone_121 : decode cX8_alone 121 = .ok (.goto 14, 3) := by decide +kernel
theorem dX8_alone_124 : decode cX8_alone 124 = .ok (.iconst 0, 1) := by decide +kernel
theorem dX8_alone_125 : decode cX8_alone 125 = .ok (.goto 10, 3) := by decide +kernel
theorem dX8_alone_128 : decode cX8_alone 128 = .ok (.aload_n 0, 1) := by decide +kernel
theorem dX8_alone_129 : decode cX8_alone 129 = .ok (.getfield 94, 3) := by decide +kernel
theorem dX8_alone_132 : decode cX8_alone 132 = .ok (.iload 8, 2) := by decide +kernel
theorem dX8_alone_134 : decode cX8_alone 134 = .ok (.iaload, 1) := by decide +kernel
theorem dX8_alone_135 : decode cX8_alone 135 = .ok (.iastore, 1) := by decide +kernel
theorem dX8_alone_136 : decode cX8_alone 136 = .ok (.iinc 8 1, 3) := by decide +kernel
theorem dX8_alone_139 : decode cX8_alone 139 = .ok (.goto (-52), 3) := by decide +kernel
theorem dX8_alone_142 : decode cX8_alone 142 = .ok (.aload_n 0, 1) := by decide +kernel
theorem dX8_alone_143 : decode cX8_alone 143 = .ok (.iload_n 1, 1) := by decide +kernel
theorem dX8_alone_144 : decode cX8_alone 144 = .ok (.iload_n 2, 1) := by decide +kernel
theorem dX8_alone_145 : decode cX8_alone 145 = .ok (.iload_n 3, 1) := by decide +kernel
theorem dX8_alone_146 : decode cX8_alone 146 = .ok (.iload 4, 2) := by decide +kernel
theorem dX8_alone_148 : decode cX8_alone 148 = .ok (.iload 5, 2) := by decide +kernel
theorem dX8_alone_150 : decode cX8_alone 150 = .ok (.invokevirtual 277, 3) := by decide +kernel
theorem dX8_alone_153 : decode cX8_alone 153 = .ok (.ifCond .le 7, 3) := by decide +kernel
theorem dX8_alone_156 : decode cX8_alone 156 = .ok (.iload 7, 2) := by decide +kernel
theorem dX8_alone_158 : decode cX8_alone 158 = .ok (.istore 6, 2) := by decide +kernel
theorem dX8_alone_160 : decode cX8_alone 160 = .ok (.iinc 7 1, 3) := by decide +kernel
theorem dX8_alone_163 : decode cX8_alone 163 = .ok (.goto (-107), 3) := by decide +kernel
theorem dX8_alone_166 : decode cX8_alone 166 = .ok (.iconst 0, 1) := by decide +kernel
theorem dX8_alone_167 : decode cX8_alone 167 = .ok (.istore 7, 2) := by decide +kernel
theorem dX8_alone_169 : decode cX8_alone 169 = .ok (.iload 7, 2) := by decide +kernel
theorem dX8_alone_171 : decode cX8_alone 171 = .ok (.aload_n 0, 1) := by decide +kernel
theorem dX8_alone_172 : decode cX8_alone 172 = .ok (.getfield 70, 3) := by decide +kernel
theorem dX8_alone_175 : decode cX8_alone 175 = .ok (.iconst 1, 1) := by decide +kernel
theorem dX8_alone_176 : decode cX8_alone 176 = .ok (.iaload, 1) := by decide +kernel
theorem dX8_alone_177 : decode cX8_alone 177 = .ok (.if_icmp .ge 23, 3) := by decide +kernel
theorem dX8_alone_180 : decode cX8_alone 180 = .ok (.aload_n 0, 1) := by decide +kernel
theorem dX8_alone_181 : decode cX8_alone 181 = .ok (.getfield 25, 3) := by decide +kernel
theorem dX8_alone_184 : decode cX8_alone 184 = .ok (.iload 7, 2) := by decide +kernel
theorem dX8_alone_186 : decode cX8_alone 186 = .ok (.aload_n 0, 1) := by decide +kernel
theorem dX8_alone_187 : decode cX8_alone 187 = .ok (.getfield 94, 3) := by decide +kernel
theorem dX8_alone_190 : decode cX8_alone 190 = .ok (.iload 7, 2) := by decide +kernel
theorem dX8_alone_192 : decode cX8_alone 192 = .ok (.iaload, 1) := by decide +kernel
theorem dX8_alone_193 : decode cX8_alone 193 = .ok (.iastore, 1) := by decide +kernel
theorem dX8_alone_194 : decode cX8_alone 194 = .ok (.iinc 7 1, 3) := by decide +kernel
theorem dX8_alone_197 : decode cX8_alone 197 = .ok (.goto (-28), 3) := by decide +kernel
end
section
theorem dX8_alone_200 : decode cX8_alone 200 = .ok (.iload 6, 2) := by decide +kernel
theorem dX8_alone_202 : decode cX8_alone 202 = .ok (.ireturn, 1) := by decide +kernel
theorem dX8_peace_0 : decode cX8_peace 0 = .ok (.aload_n 0, 1) := by decide +kernel
theorem dX8_peace_1 : decode cX8_peace 1 = .ok (.iload_n 1, 1) := by decide +kernel
theorem dX8_peace_2 : decode cX8_peace 2 = .ok (.invokevirtual 142, 3) := by decide +kernel
theorem dX8_peace_5 : decode cX8_peace 5 = .ok (.ifCond .eq 18, 3) := by decide +kernel
theorem dX8_peace_8 : decode cX8_peace 8 = .ok (.aload_n 0, 1) := by decide +kernel
theorem dX8_peace_9 : decode cX8_peace 9 = .ok (.iload_n 2, 1) := by decide +kernel
theorem dX8_peace_10 : decode cX8_peace 10 = .ok (.iload_n 3, 1) := by decide +kernel
theorem dX8_peace_11 : decode cX8_peace 11 = .ok (.iload 4, 2) := by decide +kernel
theorem dX8_peace_13 : decode cX8_peace 13 = .ok (.iload 5, 2) := by decide +kernel
theorem dX8_peace_15 : decode cX8_peace 15 = .ok (.iload 6, 2) := by decide +kernel
theorem dX8_peace_17 : decode cX8_peace 17 = .ok (.invokevirtual 274, 3) := by decide +kernel
theorem dX8_peace_20 : decode cX8_peace 20 = .ok (.ifCond .ne 5, 3) := by decide +kernel
theorem dX8_peace_23 : decode cX8_peace 23 = .ok (.iconst (-1), 1) := by decide +kernel
theorem dX8_peace_24 : decode cX8_peace 24 = .ok (.ireturn, 1) := by decide +kernel
theorem dX8_peace_25 : decode cX8_peace 25 = .ok (.aload_n 0, 1) := by decide +kernel
theorem dX8_peace_26 : decode cX8_peace 26 = .ok (.getfield 16, 3) := by decide +kernel
theorem dX8_peace_29 : decode cX8_peace 29 = .ok (.iload_n 1, 1) := by decide +kernel
theorem dX8_peace_30 : decode cX8_peace 30 = .ok (.iaload, 1) := by decide +kernel
theorem dX8_peace_31 : decode cX8_peace 31 = .ok (.istore 7, 2) := by decide +kernel
theorem dX8_peace_33 : decode cX8_peace 33 = .ok (.iconst (-1), 1) := by decide +kernel
theorem dX8_peace_34 : decode cX8_peace 34 = .ok (.istore 8, 2) := by decide +kernel
theorem dX8_peace_36 : decode cX8_peace 36 = .ok (.iconst 0, 1) := by decide +kernel
theorem dX8_peace_37 : decode cX8_peace 37 = .ok (.istore 9, 2) := by decide +kernel
theorem dX8_peace_39 : decode cX8_peace 39 = .ok (.iload 9, 2) := by decide +kernel
theorem dX8_peace_41 : decode cX8_peace 41 = .ok (.bipush 9, 2) := by decide +kernel
theorem dX8_peace_43 : decode cX8_peace 43 = .ok (.if_icmp .gt 41, 3) := by decide +kernel
theorem dX8_peace_46 : decode cX8_peace 46 = .ok (.iload 8, 2) := by decide +kernel
theorem dX8_peace_48 : decode cX8_peace 48 = .ok (.ifCond .ge 36, 3) := by decide +kernel
theorem dX8_peace_51 : decode cX8_peace 51 = .ok (.aload_n 0, 1) := by decide +kernel
theorem dX8_peace_52 : decode cX8_peace 52 = .ok (.getfield 16, 3) := by decide +kernel
theorem dX8_peace_55 : decode cX8_peace 55 = .ok (.iload_n 1, 1) := by decide +kernel
theorem dX8_peace_56 : decode cX8_peace 56 = .ok (.iload 9, 2) := by decide +kernel
theorem dX8_peace_58 : decode cX8_peace 58 = .ok (.iastore, 1) := by decide +kernel
theorem dX8_peace_59 : decode cX8_peace 59 = .ok (.aload_n 0, 1) := by decide +kernel
theorem dX8_peace_60 : decode cX8_peace 60 = .ok (.iload_n 2, 1) := by decide +kernel
theorem dX8_peace_61 : decode cX8_peace 61 = .ok (.iload_n 3, 1) := by decide +kernel
theorem dX8_peace_62 : decode cX8_peace 62 = .ok (.iload 4, 2) := by decide +kernel
theorem dX8_peace_64 : decode cX8_peace 64 = .ok (.iload 5, 2) := by decide +kernel
theorem dX8_peace_66 : decode cX8_peace 66 = .ok (.iload 6, 2) := by decide +kernel
theorem dX8_peace_68 : decode cX8_peace 68 = .ok (.invokevirtual 277, 3) := by decide +kernel
theorem dX8_peace_71 : decode cX8_peace 71 = .ok (.ifCond .ne 7, 3) := by decide +kernel
theorem dX8_peace_74 : decode cX8_peace 74 = .ok (.iload 9, 2) := by decide +kernel
theorem dX8_peace_76 : decode cX8_peace 76 = .ok (.istore 8, 2) := by decide +kernel
theorem dX8_peace_78 : decode cX8_peace 78 = .ok (.iinc 9 1, 3) := by decide +kernel
theorem dX8_peace_81 : decode cX8_peace 81 = .ok (.goto (-42), 3) := by decide +kernel
theorem dX8_peace_84 : decode cX8_peace 84 = .ok (.aload_n 0, 1) := by decide +kernel
theorem dX8_peace_85 : decode cX8_peace 85 = .ok (.getfield 16, 3) := by decide +kernel
theorem dX8_peace_88 : decode cX8_peace 88 = .ok (.iload_n 1, 1) := by decide +kernel
theorem dX8_peace_89 : decode cX8_peace 89 = .ok (.iload 7, 2) := by decide +kernel
theorem dX8_peace_91 : decode cX8_peace 91 = .ok (.iastore, 1) := by decide +kernel
theorem dX8_peace_92 : decode cX8_peace 92 = .ok (.iload 8, 2) := by decide +kernel
theorem dX8_peace_94 : decode cX8_peace 94 = .ok (.ireturn, 1) := by decide +kernel
theorem dX8_count_0 : decode cX8_count 0 = .ok (.iconst 0, 1) := by decide +kernel
theorem dX8_count_1 : decode cX8_count 1 = .ok (.istore_n 2, 1) := by decide +kernel
theorem dX8_count_2 : decode cX8_count 2 = .ok (.iload_n 1, 1) := by decide +kernel
theorem dX8_count_3 : decode cX8_count 3 = .ok (.tableswitch 100 0 7 #[45, 45, 45, 45, 45, 52, 90, 95], 45) := by decide +kernel
theorem dX8_count_48 : decode cX8_count 48 = .ok (.aload_n 0, 1) := by decide +kernel
theorem dX8_count_49 : decode cX8_count 49 = .ok (.getfield 70, 3) := by decide +kernel
theorem dX8_count_52 : decode cX8_count 52 = .ok (.iload_n 1, 1) := by decide +kernel
theorem dX8_count_53 : decode cX8_count 53 = .ok (.iaload, 1) := by decide +kernel
theorem dX8_count_54 : decode cX8_count 54 = .ok (.ireturn, 1) := by decide +kernel
theorem dX8_count_55 : decode cX8_count 55 = .ok (.iconst 0, 1) := by decide +kernel
theorem dX8_count_56 : decode cX8_count 56 = .ok (.istore_n 3, 1) := by decide +kernel
theorem dX8_count_57 : decode cX8_count 57 = .ok (.iload_n 3, 1) := by decide +kernel
theorem dX8_count_58 : decode cX8_count 58 = .ok (.aload_n 0, 1) := by decide +kernel
theorem dX8_count_59 : decode cX8_count 59 = .ok (.getfield 70, 3) := by decide +kernel
theorem dX8_count_62 : decode cX8_count 62 = .ok (.iconst 2, 1) := by decide +kernel
theorem dX8_count_63 : decode cX8_count 63 = .ok (.iaload, 1) := by decide +kernel
theorem dX8_count_64 : decode cX8_count 64 = .ok (.if_icmp .ge 27, 3) := by decide +kernel
theorem dX8_count_67 : decode cX8_count 67 = .ok (.iload_n 2, 1) := by decide +kernel
theorem dX8_count_68 : decode cX8_count 68 = .ok (.aload_n 0, 1) := by decide +kernel
theorem dX8_count_69 : decode cX8_count 69 = .ok (.getfield 31, 3) := by decide +kernel
theorem dX8_count_72 : decode cX8_count 72 = .ok (.iload_n 3, 1) := by decide +kernel
theorem dX8_count_73 : decode cX8_count 73 = .ok (.iaload, 1) := by decide +kernel
theorem dX8_count_74 : decode cX8_count 74 = .ok (.iconst 3, 1) := by decide +kernel
theorem dX8_count_75 : decode cX8_count 75 = .ok (.if_icmp .eq 7, 3) := by decide +kernel
theorem dX8_count_78 : decode cX8_count 78 = .ok (.iconst 1, 1) := by decide +kernel
theorem dX8_count_79 : decode cX8_count 79 = .ok (.goto 4, 3) := by decide +kernel
theorem dX8_count_82 : decode cX8_count 82 = .ok (.iconst 0, 1) := by decide +kernel
theorem dX8_count_83 : decode cX8_count 83 = .ok (.iadd, 1) := by decide +kernel
theorem dX8_count_84 : decode cX8_count 84 = .ok (.istore_n 2, 1) := by decide +kernel
theorem dX8_count_85 : decode cX8_count 85 = .ok (.iinc 3 1, 3) := by decide +kernel
theorem dX8_count_88 : decode cX8_count 88 = .ok (.goto (-31), 3) := by decide +kernel
theorem dX8_count_91 : decode cX8_count 91 = .ok (.iload_n 2, 1) := by decide +kernel
theorem dX8_count_92 : decode cX8_count 92 = .ok (.ireturn, 1) := by decide +kernel
theorem dX8_count_93 : decode cX8_count 93 = .ok (.aload_n 0, 1) := by decide +kernel
theorem dX8_count_94 : decode cX8_count 94 = .ok (.getfield 280, 3) := by decide +kernel
theorem dX8_count_97 : decode cX8_count 97 = .ok (.ireturn, 1) := by decide +kernel
theorem dX8_count_98 : decode cX8_count 98 = .ok (.aload_n 0, 1) := by decide +kernel
theorem dX8_count_99 : decode cX8_count 99 = .ok (.getfield 286, 3) := by decide +kernel
theorem dX8_count_102 : decode cX8_count 102 = .ok (.ireturn, 1) := by decide +kernel
theorem dX8_count_103 : decode cX8_count 103 = .ok (.iconst (-1), 1) := by decide +kernel
theorem dX8_count_104 : decode cX8_count 104 = .ok (.ireturn, 1) := by decide +kernel
theorem dX8_traces_0 : decode cX8_traces 0 = .ok (.aload_n 0, 1) := by decide +kernel
theorem dX8_traces_1 : decode cX8_traces 1 = .ok (.getfield 286, 3) := by decide +kernel
theorem dX8_traces_4 : decode cX8_traces 4 = .ok (.bipush 50, 2) := by decide +kernel
theorem dX8_traces_6 : decode cX8_traces 6 = .ok (.if_icmp .ge 13, 3) := by decide +kernel
theorem dX8_traces_9 : decode cX8_traces 9 = .ok (.aload_n 0, 1) := by decide +kernel
theorem dX8_traces_10 : decode cX8_traces 10 = .ok (.getfield 97, 3) := by decide +kernel
theorem dX8_traces_13 : decode cX8_traces 13 = .ok (.aload_n 0, 1) := by decide +kernel
theorem dX8_traces_14 : decode cX8_traces 14 = .ok (.getfield 286, 3) := by decide +kernel
theorem dX8_traces_17 : decode cX8_traces 17 = .ok (.iload_n 1, 1) := by decide +kernel
theorem dX8_traces_18 : decode cX8_traces 18 = .ok (.iastore, 1) := by decide +kernel
theorem dX8_traces_19 : decode cX8_traces 19 = .ok (.aload_n 0, 1) := by decide +kernel
theorem dX8_traces_20 : decode cX8_traces 20 = .ok (.dup, 1) := by decide +kernel
theorem dX8_traces_21 : decode cX8_traces 21 = .ok (.getfield 286, 3) := by decide +kernel
theorem dX8_traces_24 : decode cX8_traces 24 = .ok (.iconst 1, 1) := by decide +kernel
theorem dX8_traces_25 : decode cX8_traces 25 = .ok (.iadd, 1) := by decide +kernel
theorem dX8_traces_26 : decode cX8_traces 26 = .ok (.putfield 286, 3) := by decide +kernel
theorem dX8_traces_29 : decode cX8_traces 29 = .ok (.return_, 1) := by decide +kernel
theorem dX8_plainHear_0 : decode cX8_plainHear 0 = .ok (.aload_n 0, 1) := by decide +kernel
theorem dX8_plainHear_1 : decode cX8_plainHear 1 = .ok (.bipush 10, 2) := by decide +kernel
theorem dX8_plainHear_3 : decode cX8_plainHear 3 = .ok (.invokevirtual 289, 3) := by decide +kernel
theorem dX8_plainHear_6 : decode cX8_plainHear 6 = .ok (.iload_n 2, 1) := by decide +kernel
theorem dX8_plainHear_7 : decode cX8_plainHear 7 = .ok (.iload_n 1, 1) := by decide +kernel
theorem dX8_plainHear_8 : decode cX8_plainHear 8 = .ok (.iadd, 1) := by decide +kernel
theorem dX8_plainHear_9 : decode cX8_plainHear 9 = .ok (.ireturn, 1) := by decide +kernel
theorem dX8_shutHear_0 : decode cX8_shutHear 0 = .ok (.aload_n 0, 1) := by decide +kernel
theorem dX8_shutHear_1 : decode cX8_shutHear 1 = .ok (.bipush 30, 2) := by decide +kernel
theorem dX8_shutHear_3 : decode cX8_shutHear 3 = .ok (.invokevirtual 289, 3) := by decide +kernel
theorem dX8_shutHear_6 : decode cX8_shutHear 6 = .ok (.aload_n 0, 1) := by decide +kernel
theorem dX8_shutHear_7 : decode cX8_shutHear 7 = .ok (.iload_n 1, 1) := by decide +kernel
theorem dX8_shutHear_8 : decode cX8_shutHear 8 = .ok (.iload_n 2, 1) := by decide +kernel
theorem dX8_shutHear_9 : decode cX8_shutHear 9 = .ok (.invokevirtual 291, 3) := by decide +kernel
theorem dX8_shutHear_12 : decode cX8_shutHear 12 = .ok (.iconst 3, 1) := by decide +kernel
theorem dX8_shutHear_13 : decode cX8_shutHear 13 = .ok (.imul, 1) := by decide +kernel
theorem dX8_shutHear_14 : decode cX8_shutHear 14 = .ok (.ireturn, 1) := by decide +kernel
theorem dX8_hear_0 : decode cX8_hear 0 = .ok (.aload_n 0, 1) := by decide +kernel
theorem dX8_hear_1 : decode cX8_hear 1 = .ok (.getfield 13, 3) := by decide +kernel
theorem dX8_hear_4 : decode cX8_hear 4 = .ok (.iload_n 1, 1) := by decide +kernel
theorem dX8_hear_5 : decode cX8_hear 5 = .ok (.iaload, 1) := by decide +kernel
theorem dX8_hear_6 : decode cX8_hear 6 = .ok (.iconst 3, 1) := by decide +kernel
theorem dX8_hear_7 : decode cX8_hear 7 = .ok (.if_icmp .ne 25, 3) := by decide +kernel
theorem dX8_hear_10 : decode cX8_hear 10 = .ok (.aload_n 0, 1) := by decide +kernel
theorem dX8_hear_11 : decode cX8_hear 11 = .ok (.bipush 40, 2) := by decide +kernel
theorem dX8_hear_13 : decode cX8_hear 13 = .ok (.invokevirtual 289, 3) := by decide +kernel
theorem dX8_hear_16 : decode cX8_hear 16 = .ok (.aload_n 0, 1) := by decide +kernel
theorem dX8_hear_17 : decode cX8_hear 17 = .ok (.iload_n 1, 1) := by decide +kernel
theorem dX8_hear_18 : decode cX8_hear 18 = .ok (.iload_n 2, 1) := by decide +kernel
theorem dX8_hear_19 : decode cX8_hear 19 = .ok (.invokevirtual 294, 3) := by decide +kernel
theorem dX8_hear_22 : decode cX8_hear 22 = .ok (.istore_n 3, 1) := by decide +kernel
theorem dX8_hear_23 : decode cX8_hear 23 = .ok (.iload_n 3, 1) := by decide +kernel
theorem dX8_hear_24 : decode cX8_hear 24 = .ok (.aload_n 0, 1) := by decide +kernel
theorem dX8_hear_25 : decode cX8_hear 25 = .ok (.iload_n 1, 1) := by decide +kernel
theorem dX8_hear_26 : decode cX8_hear 26 = .ok (.iload_n 2, 1) := by decide +kernel
theorem dX8_hear_27 : decode cX8_hear 27 = .ok (.invokevirtual 297, 3) := by decide +kernel
theorem dX8_hear_30 : decode cX8_hear 30 = .ok (.isub, 1) := by decide +kernel
theorem dX8_hear_31 : decode cX8_hear 31 = .ok (.ireturn, 1) := by decide +kernel
theorem dX8_hear_32 : decode cX8_hear 32 = .ok (.aload_n 0, 1) := by decide +kernel
theorem dX8_hear_33 : decode cX8_hear 33 = .ok (.getfield 13, 3) := by decide +kernel
theorem dX8_hear_36 : decode cX8_hear 36 = .ok (.iload_n 1, 1) := by decide +kernel
theorem dX8_hear_37 : decode cX8_hear 37 = .ok (.iaload, 1) := by decide +kernel
theorem dX8_hear_38 : decode cX8_hear 38 = .ok (.iconst 2, 1) := by decide +kernel
theorem dX8_hear_39 : decode cX8_hear 39 = .ok (.if_icmp .ne 12, 3) := by decide +kernel
theorem dX8_hear_42 : decode cX8_hear 42 = .ok (.aload_n 0, 1) := by decide +kernel
theorem dX8_hear_43 : decode cX8_hear 43 = .ok (.iload_n 1, 1) := by decide +kernel
theorem dX8_hear_44 : decode cX8_hear 44 = .ok (.iload_n 2, 1) := by decide +kernel
theorem dX8_hear_45 : decode cX8_hear 45 = .ok (.invokevirtual 294, 3) := by decide +kernel
theorem dX8_hear_48 : decode cX8_hear 48 = .ok (.goto 9, 3) := by decide +kernel
theorem dX8_hear_51 : decode cX8_hear 51 = .ok (.aload_n 0, 1) := by decide +kernel
theorem dX8_hear_52 : decode cX8_hear 52 = .ok (.iload_n 1, 1) := by decide +kernel
theorem dX8_hear_53 : decode cX8_hear 53 = .ok (.iload_n 2, 1) := by decide +kernel
theorem dX8_hear_54 : decode cX8_hear 54 = .ok (.invokevirtual 291, 3) := by decide +kernel
theorem dX8_hear_57 : decode cX8_hear 57 = .ok (.ireturn, 1) := by decide +kernel
theorem dX8_plainPay_0 : decode cX8_plainPay 0 = .ok (.aload_n 0, 1) := by decide +kernel
theorem dX8_plainPay_1 : decode cX8_plainPay 1 = .ok (.bipush 12, 2) := by decide +kernel
theorem dX8_plainPay_3 : decode cX8_plainPay 3 = .ok (.invokevirtual 289, 3) := by decide +kernel
theorem dX8_plainPay_6 : decode cX8_plainPay 6 = .ok (.iload_n 2, 1) := by decide +kernel
theorem dX8_plainPay_7 : decode cX8_plainPay 7 = .ok (.aload_n 0, 1) := by decide +kernel
theorem dX8_plainPay_8 : decode cX8_plainPay 8 = .ok (.getfield 16, 3) := by decide +kernel
theorem dX8_plainPay_11 : decode cX8_plainPay 11 = .ok (.iload_n 1, 1) := by decide +kernel
theorem dX8_plainPay_12 : decode cX8_plainPay 12 = .ok (.iaload, 1) := by decide +kernel
theorem dX8_plainPay_13 : decode cX8_plainPay 13 = .ok (.isub, 1) := by decide +kernel
theorem dX8_plainPay_14 : decode cX8_plainPay 14 = .ok (.ireturn, 1) := by decide +kernel
theorem dX8_pay_0 : decode cX8_pay 0 = .ok (.aload_n 0, 1) := by decide +kernel
theorem dX8_pay_1 : decode cX8_pay 1 = .ok (.getfield 13, 3) := by decide +kernel
theorem dX8_pay_4 : decode cX8_pay 4 = .ok (.iload_n 1, 1) := by decide +kernel
theorem dX8_pay_5 : decode cX8_pay 5 = .ok (.iaload, 1) := by decide +kernel
theorem dX8_pay_6 : decode cX8_pay 6 = .ok (.iconst 5, 1) := by decide +kernel
theorem dX8_pay_7 : decode cX8_pay 7 = .ok (.if_icmp .ne 23, 3) := by decide +kernel
theorem dX8_pay_10 : decode cX8_pay 10 = .ok (.aload_n 0, 1) := by decide +kernel
theorem dX8_pay_11 : decode cX8_pay 11 = .ok (.bipush 60, 2) := by decide +kernel
theorem dX8_pay_13 : decode cX8_pay 13 = .ok (.invokevirtual 289, 3) := by decide +kernel
theorem dX8_pay_16 : decode cX8_pay 16 = .ok (.aload_n 0, 1) := by decide +kernel
theorem dX8_pay_17 : decode cX8_pay 17 = .ok (.iload_n 1, 1) := by decide +kernel
theorem dX8_pay_18 : decode cX8_pay 18 = .ok (.iload_n 2, 1) := by decide +kernel
theorem dX8_pay_19 : decode cX8_pay 19 = .ok (.invokevirtual 300, 3) := by decide +kernel
theorem dX8_pay_22 : decode cX8_pay 22 = .ok (.aload_n 0, 1) := by decide +kernel
theorem dX8_pay_23 : decode cX8_pay 23 = .ok (.getfield 19, 3) := by decide +kernel
theorem dX8_pay_26 : decode cX8_pay 26 = .ok (.iload_n 1, 1) := by decide +kernel
theorem dX8_pay_27 : decode cX8_pay 27 = .ok (.iaload, 1) := by decide +kernel
theorem dX8_pay_28 : decode cX8_pay 28 = .ok (.iadd, 1) := by decide +kernel
theorem dX8_pay_29 : decode cX8_pay 29 = .ok (.ireturn, 1) := by decide +kernel
theorem dX8_pay_30 : decode cX8_pay 30 = .ok (.aload_n 0, 1) := by decide +kernel
theorem dX8_pay_31 : decode cX8_pay 31 = .ok (.getfield 13, 3) := by decide +kernel
theorem dX8_pay_34 : decode cX8_pay 34 = .ok (.iload_n 1, 1) := by decide +kernel
theorem dX8_pay_35 : decode cX8_pay 35 = .ok (.iaload, 1) := by decide +kernel
theorem dX8_pay_36 : decode cX8_pay 36 = .ok (.bipush 7, 2) := by decide +kernel
theorem dX8_pay_38 : decode cX8_pay 38 = .ok (.if_icmp .eq 10, 3) := by decide +kernel
theorem dX8_pay_41 : decode cX8_pay 41 = .ok (.aload_n 0, 1) := by decide +kernel
theorem dX8_pay_42 : decode cX8_pay 42 = .ok (.iload_n 1, 1) := by decide +kernel
theorem dX8_pay_43 : decode cX8_pay 43 = .ok (.iload_n 2, 1) := by decide +kernel
theorem dX8_pay_44 : decode cX8_pay 44 = .ok (.invokevirtual 300, 3) := by decide +kernel
theorem dX8_pay_47 : decode cX8_pay 47 = .ok (.ireturn, 1) := by decide +kernel
theorem dX8_pay_48 : decode cX8_pay 48 = .ok (.aload_n 0, 1) := by decide +kernel
theorem dX8_pay_49 : decode cX8_pay 49 = .ok (.bipush 80, 2) := by decide +kernel
theorem dX8_pay_51 : decode cX8_pay 51 = .ok (.invokevirtual 289, 3) := by decide +kernel
theorem dX8_pay_54 : decode cX8_pay 54 = .ok (.aload_n 0, 1) := by decide +kernel
theorem dX8_pay_55 : decode cX8_pay 55 = .ok (.iload_n 1, 1) := by decide +kernel
theorem dX8_pay_56 : decode cX8_pay 56 = .ok (.iload_n 2, 1) := by decide +kernel
theorem dX8_pay_57 : decode cX8_pay 57 = .ok (.invokevirtual 300, 3) := by decide +kernel
theorem dX8_pay_60 : decode cX8_pay 60 = .ok (.iconst 2, 1) := by decide +kernel
theorem dX8_pay_61 : decode cX8_pay 61 = .ok (.imul, 1) := by decide +kernel
theorem dX8_pay_62 : decode cX8_pay 62 = .ok (.ireturn, 1) := by decide +kernel
theorem dX8_plainTurn_0 : decode cX8_plainTurn 0 = .ok (.aload_n 0, 1) := by decide +kernel
theorem dX8_plainTurn_1 : decode cX8_plainTurn 1 = .ok (.bipush 11, 2) := by decide +kernel
theorem dX8_plainTurn_3 : decode cX8_plainTurn 3 = .ok (.invokevirtual 289, 3) := by decide +kernel
theorem dX8_plainTurn_6 : decode cX8_plainTurn 6 = .ok (.aload_n 0, 1) := by decide +kernel
theorem dX8_plainTurn_7 : decode cX8_plainTurn 7 = .ok (.iload_n 1, 1) := by decide +kernel
theorem dX8_plainTurn_8 : decode cX8_plainTurn 8 = .ok (.iload_n 2, 1) := by decide +kernel
theorem dX8_plainTurn_9 : decode cX8_plainTurn 9 = .ok (.invokevirtual 303, 3) := by decide +kernel
theorem dX8_plainTurn_12 : decode cX8_plainTurn 12 = .ok (.iconst 2, 1) := by decide +kernel
theorem dX8_plainTurn_13 : decode cX8_plainTurn 13 = .ok (.imul, 1) := by decide +kernel
theorem dX8_plainTurn_14 : decode cX8_plainTurn 14 = .ok (.ireturn, 1) := by decide +kernel
theorem dX8_turn_0 : decode cX8_turn 0 = .ok (.aload_n 0, 1) := by decide +kernel
theorem dX8_turn_1 : decode cX8_turn 1 = .ok (.getfield 13, 3) := by decide +kernel
theorem dX8_turn_4 : decode cX8_turn 4 = .ok (.iload_n 1, 1) := by decide +kernel
theorem dX8_turn_5 : decode cX8_turn 5 = .ok (.iaload, 1) := by decide +kernel
theorem dX8_turn_6 : decode cX8_turn 6 = .ok (.iconst 1, 1) := by decide +kernel
theorem dX8_turn_7 : decode cX8_turn 7 = .ok (.if_icmp .ne 23, 3) := by decide +kernel
theorem dX8_turn_10 : decode cX8_turn 10 = .ok (.aload_n 0, 1) := by decide +kernel
theorem dX8_turn_11 : decode cX8_turn 11 = .ok (.bipush 20, 2) := by decide +kernel
theorem dX8_turn_13 : decode cX8_turn 13 = .ok (.invokevirtual 289, 3) := by decide +kernel
theorem dX8_turn_16 : decode cX8_turn 16 = .ok (.aload_n 0, 1) := by decide +kernel
theorem dX8_turn_17 : decode cX8_turn 17 = .ok (.iload_n 1, 1) := by decide +kernel
theorem dX8_turn_18 : decode cX8_turn 18 = .ok (.iload_n 2, 1) := by decide +kernel
theorem dX8_turn_19 : decode cX8_turn 19 = .ok (.invokevirtual 306, 3) := by decide +kernel
theorem dX8_turn_22 : decode cX8_turn 22 = .ok (.aload_n 0, 1) := by decide +kernel
theorem dX8_turn_23 : decode cX8_turn 23 = .ok (.getfield 19, 3) := by decide +kernel
theorem dX8_turn_26 : decode cX8_turn 26 = .ok (.iload_n 1, 1) := by decide +kernel
theorem dX8_turn_27 : decode cX8_turn 27 = .ok (.iaload, 1) := by decide +kernel
theorem dX8_turn_28 : decode cX8_turn 28 = .ok (.iadd, 1) := by decide +kernel
theorem dX8_turn_29 : decode cX8_turn 29 = .ok (.ireturn, 1) := by decide +kernel
theorem dX8_turn_30 : decode cX8_turn 30 = .ok (.aload_n 0, 1) := by decide +kernel
theorem dX8_turn_31 : decode cX8_turn 31 = .ok (.getfield 13, 3) := by decide +kernel
theorem dX8_turn_34 : decode cX8_turn 34 = .ok (.iload_n 1, 1) := by decide +kernel
theorem dX8_turn_35 : decode cX8_turn 35 = .ok (.iaload, 1) := by decide +kernel
theorem dX8_turn_36 : decode cX8_turn 36 = .ok (.iconst 3, 1) := by decide +kernel
theorem dX8_turn_37 : decode cX8_turn 37 = .ok (.if_icmp .ne 23, 3) := by decide +kernel
theorem dX8_turn_40 : decode cX8_turn 40 = .ok (.aload_n 0, 1) := by decide +kernel
theorem dX8_turn_41 : decode cX8_turn 41 = .ok (.bipush 41, 2) := by decide +kernel
theorem dX8_turn_43 : decode cX8_turn 43 = .ok (.invokevirtual 289, 3) := by decide +kernel
theorem dX8_turn_46 : decode cX8_turn 46 = .ok (.aload_n 0, 1) := by decide +kernel
theorem dX8_turn_47 : decode cX8_turn 47 = .ok (.iload_n 1, 1) := by decide +kernel
theorem dX8_turn_48 : decode cX8_turn 48 = .ok (.iload_n 2, 1) := by decide +kernel
theorem dX8_turn_49 : decode cX8_turn 49 = .ok (.aload_n 0, 1) := by decide +kernel
theorem dX8_turn_50 : decode cX8_turn 50 = .ok (.getfield 19, 3) := by decide +kernel
theorem dX8_turn_53 : decode cX8_turn 53 = .ok (.iload_n 1, 1) := by decide +kernel
theorem dX8_turn_54 : decode cX8_turn 54 = .ok (.iaload, 1) := by decide +kernel
theorem dX8_turn_55 : decode cX8_turn 55 = .ok (.isub, 1) := by decide +kernel
theorem dX8_turn_56 : decode cX8_turn 56 = .ok (.invokevirtual 306, 3) := by decide +kernel
theorem dX8_turn_59 : decode cX8_turn 59 = .ok (.ireturn, 1) := by decide +kernel
theorem dX8_turn_60 : decode cX8_turn 60 = .ok (.aload_n 0, 1) := by decide +kernel
theorem dX8_turn_61 : decode cX8_turn 61 = .ok (.getfield 13, 3) := by decide +kernel
theorem dX8_turn_64 : decode cX8_turn 64 = .ok (.iload_n 1, 1) := by decide +kernel
theorem dX8_turn_65 : decode cX8_turn 65 = .ok (.iaload, 1) := by decide +kernel
theorem dX8_turn_66 : decode cX8_turn 66 = .ok (.bipush 6, 2) := by decide +kernel
theorem dX8_turn_68 : decode cX8_turn 68 = .ok (.if_icmp .eq 10, 3) := by decide +kernel
theorem dX8_turn_71 : decode cX8_turn 71 = .ok (.aload_n 0, 1) := by decide +kernel
theorem dX8_turn_72 : decode cX8_turn 72 = .ok (.iload_n 1, 1) := by decide +kernel
theorem dX8_turn_73 : decode cX8_turn 73 = .ok (.iload_n 2, 1) := by decide +kernel
theorem dX8_turn_74 : decode cX8_turn 74 = .ok (.invokevirtual 306, 3) := by decide +kernel
theorem dX8_turn_77 : decode cX8_turn 77 = .ok (.ireturn, 1) := by decide +kernel
theorem dX8_turn_78 : decode cX8_turn 78 = .ok (.aload_n 0, 1) := by decide +kernel
theorem dX8_turn_79 : decode cX8_turn 79 = .ok (.bipush 70, 2) := by decide +kernel
theorem dX8_turn_81 : decode cX8_turn 81 = .ok (.invokevirtual 289, 3) := by decide +kernel
theorem dX8_turn_84 : decode cX8_turn 84 = .ok (.aload_n 0, 1) := by decide +kernel
theorem dX8_turn_85 : decode cX8_turn 85 = .ok (.iload_n 1, 1) := by decide +kernel
theorem dX8_turn_86 : decode cX8_turn 86 = .ok (.iload_n 2, 1) := by decide +kernel
theorem dX8_turn_87 : decode cX8_turn 87 = .ok (.invokevirtual 306, 3) := by decide +kernel
theorem dX8_turn_90 : decode cX8_turn 90 = .ok (.istore_n 3, 1) := by decide +kernel
theorem dX8_turn_91 : decode cX8_turn 91 = .ok (.iload_n 3, 1) := by decide +kernel
theorem dX8_turn_92 : decode cX8_turn 92 = .ok (.aload_n 0, 1) := by decide +kernel
theorem dX8_turn_93 : decode cX8_turn 93 = .ok (.iload_n 1, 1) := by decide +kernel
theorem dX8_turn_94 : decode cX8_turn 94 = .ok (.aload_n 0, 1) := by decide +kernel
theorem dX8_turn_95 : decode cX8_turn 95 = .ok (.getfield 19, 3) := by decide +kernel
theorem dX8_turn_98 : decode cX8_turn 98 = .ok (.iload_n 1, 1) := by decide +kernel
theorem dX8_turn_99 : decode cX8_turn 99 = .ok (.iaload, 1) := by decide +kernel
theorem dX8_turn_100 : decode cX8_turn 100 = .ok (.invokevirtual 303, 3) := by decide +kernel
theorem dX8_turn_103 : decode cX8_turn 103 = .ok (.ixor, 1) := by decide +kernel
theorem dX8_turn_104 : decode cX8_turn 104 = .ok (.ireturn, 1) := by decide +kernel
theorem dX8_plainEnd_0 : decode cX8_plainEnd 0 = .ok (.aload_n 0, 1) := by decide +kernel
theorem dX8_plainEnd_1 : decode cX8_plainEnd 1 = .ok (.bipush 13, 2) := by decide +kernel
theorem dX8_plainEnd_3 : decode cX8_plainEnd 3 = .ok (.invokevirtual 289, 3) := by decide +kernel
theorem dX8_plainEnd_6 : decode cX8_plainEnd 6 = .ok (.aload_n 0, 1) := by decide +kernel
theorem dX8_plainEnd_7 : decode cX8_plainEnd 7 = .ok (.iload_n 1, 1) := by decide +kernel
theorem dX8_plainEnd_8 : decode cX8_plainEnd 8 = .ok (.iload_n 2, 1) := by decide +kernel
theorem dX8_plainEnd_9 : decode cX8_plainEnd 9 = .ok (.invokevirtual 309, 3) := by decide +kernel
theorem dX8_plainEnd_12 : decode cX8_plainEnd 12 = .ok (.istore_n 3, 1) := by decide +kernel
theorem dX8_plainEnd_13 : decode cX8_plainEnd 13 = .ok (.iload_n 3, 1) := by decide +kernel
theorem dX8_plainEnd_14 : decode cX8_plainEnd 14 = .ok (.aload_n 0, 1) := by decide +kernel
theorem dX8_plainEnd_15 : decode cX8_plainEnd 15 = .ok (.iload_n 1, 1) := by decide +kernel
theorem dX8_plainEnd_16 : decode cX8_plainEnd 16 = .ok (.iload_n 2, 1) := by decide +kernel
theorem dX8_plainEnd_17 : decode cX8_plainEnd 17 = .ok (.invokevirtual 297, 3) := by decide +kernel
theorem dX8_plainEnd_20 : decode cX8_plainEnd 20 = .ok (.ixor, 1) := by decide +kernel
theorem dX8_plainEnd_21 : decode cX8_plainEnd 21 = .ok (.ireturn, 1) := by decide +kernel
theorem dX8_end_0 : decode cX8_end 0 = .ok (.aload_n 0, 1) := by decide +kernel
theorem dX8_end_1 : decode cX8_end 1 = .ok (.getfield 13, 3) := by decide +kernel
theorem dX8_end_4 : decode cX8_end 4 = .ok (.iload_n 1, 1) := by decide +kernel
theorem dX8_end_5 : decode cX8_end 5 = .ok (.iaload, 1) := by decide +kernel
theorem dX8_end_6 : decode cX8_end 6 = .ok (.iconst 2, 1) := by decide +kernel
theorem dX8_end_7 : decode cX8_end 7 = .ok (.if_icmp .eq 13, 3) := by decide +kernel
theorem dX8_end_10 : decode cX8_end 10 = .ok (.aload_n 0, 1) := by decide +kernel
theorem dX8_end_11 : decode cX8_end 11 = .ok (.getfield 13, 3) := by decide +kernel
theorem dX8_end_14 : decode cX8_end 14 = .ok (.iload_n 1, 1) := by decide +kernel
theorem dX8_end_15 : decode cX8_end 15 = .ok (.iaload, 1) := by decide +kernel
theorem dX8_end_16 : decode cX8_end 16 = .ok (.iconst 3, 1) := by decide +kernel
theorem dX8_end_17 : decode cX8_end 17 = .ok (.if_icmp .ne 18, 3) := by decide +kernel
theorem dX8_end_20 : decode cX8_end 20 = .ok (.aload_n 0, 1) := by decide +kernel
theorem dX8_end_21 : decode cX8_end 21 = .ok (.bipush 31, 2) := by decide +kernel
theorem dX8_end_23 : decode cX8_end 23 = .ok (.invokevirtual 289, 3) := by decide +kernel
theorem dX8_end_26 : decode cX8_end 26 = .ok (.aload_n 0, 1) := by decide +kernel
theorem dX8_end_27 : decode cX8_end 27 = .ok (.iload_n 1, 1) := by decide +kernel
theorem dX8_end_28 : decode cX8_end 28 = .ok (.iload_n 2, 1) := by decide +kernel
theorem dX8_end_29 : decode cX8_end 29 = .ok (.iconst 1, 1) := by decide +kernel
theorem dX8_end_30 : decode cX8_end 30 = .ok (.iadd, 1) := by decide +kernel
theorem dX8_end_31 : decode cX8_end 31 = .ok (.invokevirtual 312, 3) := by decide +kernel
theorem dX8_end_34 : decode cX8_end 34 = .ok (.ireturn, 1) := by decide +kernel
theorem dX8_end_35 : decode cX8_end 35 = .ok (.aload_n 0, 1) := by decide +kernel
theorem dX8_end_36 : decode cX8_end 36 = .ok (.getfield 13, 3) := by decide +kernel
theorem dX8_end_39 : decode cX8_end 39 = .ok (.iload_n 1, 1) := by decide +kernel
theorem dX8_end_40 : decode cX8_end 40 = .ok (.iaload, 1) := by decide +kernel
theorem dX8_end_41 : decode cX8_end 41 = .ok (.iconst 4, 1) := by decide +kernel
theorem dX8_end_42 : decode cX8_end 42 = .ok (.if_icmp .eq 10, 3) := by decide +kernel
theorem dX8_end_45 : decode cX8_end 45 = .ok (.aload_n 0, 1) := by decide +kernel
theorem dX8_end_46 : decode cX8_end 46 = .ok (.iload_n 1, 1) := by decide +kernel
theorem dX8_end_47 : decode cX8_end 47 = .ok (.iload_n 2, 1) := by decide +kernel
theorem dX8_end_48 : decode cX8_end 48 = .ok (.invokevirtual 312, 3) := by decide +kernel
theorem dX8_end_51 : decode cX8_end 51 = .ok (.ireturn, 1) := by decide +kernel
theorem dX8_end_52 : decode cX8_end 52 = .ok (.aload_n 0, 1) := by decide +kernel
theorem dX8_end_53 : decode cX8_end 53 = .ok (.bipush 50, 2) := by decide +kernel
theorem dX8_end_55 : decode cX8_end 55 = .ok (.invokevirtual 289, 3) := by decide +kernel
theorem dX8_end_58 : decode cX8_end 58 = .ok (.aload_n 0, 1) := by decide +kernel
theorem dX8_end_59 : decode cX8_end 59 = .ok (.iload_n 1, 1) := by decide +kernel
theorem dX8_end_60 : decode cX8_end 60 = .ok (.iload_n 2, 1) := by decide +kernel
theorem dX8_end_61 : decode cX8_end 61 = .ok (.invokevirtual 297, 3) := by decide +kernel
theorem dX8_end_64 : decode cX8_end 64 = .ok (.istore_n 3, 1) := by decide +kernel
theorem dX8_end_65 : decode cX8_end 65 = .ok (.iload_n 3, 1) := by decide +kernel
theorem dX8_end_66 : decode cX8_end 66 = .ok (.aload_n 0, 1) := by decide +kernel
theorem dX8_end_67 : decode cX8_end 67 = .ok (.iload_n 1, 1) := by decide +kernel
theorem dX8_end_68 : decode cX8_end 68 = .ok (.iload_n 2, 1) := by decide +kernel
theorem dX8_end_69 : decode cX8_end 69 = .ok (.invokevirtual 312, 3) := by decide +kernel
theorem dX8_end_72 : decode cX8_end 72 = .ok (.isub, 1) := by decide +kernel
theorem dX8_end_73 : decode cX8_end 73 = .ok (.ireturn, 1) := by decide +kernel
theorem dX8_act_0 : decode cX8_act 0 = .ok (.aload_n 0, 1) := by decide +kernel
theorem dX8_act_1 : decode cX8_act 1 = .ok (.iload_n 1, 1) := by decide +kernel
theorem dX8_act_2 : decode cX8_act 2 = .ok (.invokevirtual 142, 3) := by decide +kernel
theorem dX8_act_5 : decode cX8_act 5 = .ok (.ifCond .eq 15, 3) := by decide +kernel
theorem dX8_act_8 : decode cX8_act 8 = .ok (.iload_n 2, 1) := by decide +kernel
theorem dX8_act_9 : decode cX8_act 9 = .ok (.i2l, 1) := by decide +kernel
theorem dX8_act_10 : decode cX8_act 10 = .ok (.lconst 0, 1) := by decide +kernel
theorem dX8_act_11 : decode cX8_act 11 = .ok (.ldc2_w 272, 3) := by decide +kernel
theorem dX8_act_14 : decode cX8_act 14 = .ok (.invokestatic 126, 3) := by decide +kernel
theorem dX8_act_17 : decode cX8_act 17 = .ok (.ifCond .ne 9, 3) := by decide +kernel
theorem dX8_act_20 : decode cX8_act 20 = .ok (.aload_n 0, 1) := by decide +kernel
theorem dX8_act_21 : decode cX8_act 21 = .ok (.iconst 1, 1) := by decide +kernel
theorem dX8_act_22 : decode cX8_act 22 = .ok (.invokevirtual 113, 3) := by decide +kernel
theorem dX8_act_25 : decode cX8_act 25 = .ok (.ireturn, 1) := by decide +kernel
theorem dX8_act_26 : decode cX8_act 26 = .ok (.aload_n 0, 1) := by decide +kernel
theorem dX8_act_27 : decode cX8_act 27 = .ok (.iconst 0, 1) := by decide +kernel
theorem dX8_act_28 : decode cX8_act 28 = .ok (.putfield 286, 3) := by decide +kernel
theorem dX8_act_31 : decode cX8_act 31 = .ok (.aload_n 0, 1) := by decide +kernel
theorem dX8_act_32 : decode cX8_act 32 = .ok (.iload_n 2, 1) := by decide +kernel
theorem dX8_act_33 : decode cX8_act 33 = .ok (.ifCond .ne 12, 3) := by decide +kernel
theorem dX8_act_36 : decode cX8_act 36 = .ok (.aload_n 0, 1) := by decide +kernel
theorem dX8_act_37 : decode cX8_act 37 = .ok (.iload_n 1, 1) := by decide +kernel
theorem dX8_act_38 : decode cX8_act 38 = .ok (.iload_n 3, 1) := by decide +kernel
theorem dX8_act_39 : decode cX8_act 39 = .ok (.invokevirtual 303, 3) := by decide +kernel
theorem dX8_act_42 : decode cX8_act 42 = .ok (.goto 37, 3) := by decide +kernel
theorem dX8_act_45 : decode cX8_act 45 = .ok (.iload_n 2, 1) := by decide +kernel
theorem dX8_act_46 : decode cX8_act 46 = .ok (.iconst 1, 1) := by decide +kernel
theorem dX8_act_47 : decode cX8_act 47 = .ok (.if_icmp .ne 12, 3) := by decide +kernel
theorem dX8_act_50 : decode cX8_act 50 = .ok (.aload_n 0, 1) := by decide +kernel
theorem dX8_act_51 : decode cX8_act 51 = .ok (.iload_n 1, 1) := by decide +kernel
theorem dX8_act_52 : decode cX8_act 52 = .ok (.iload_n 3, 1) := by decide +kernel
theorem dX8_act_53 : decode cX8_act 53 = .ok (.invokevirtual 309, 3) := by decide +kernel
theorem dX8_act_56 : decode cX8_act 56 = .ok (.goto 23, 3) := by decide +kernel
theorem dX8_act_59 : decode cX8_act 59 = .ok (.iload_n 2, 1) := by decide +kernel
theorem dX8_act_60 : decode cX8_act 60 = .ok (.iconst 2, 1) := by decide +kernel
theorem dX8_act_61 : decode cX8_act 61 = .ok (.if_icmp .ne 12, 3) := by decide +kernel
theorem dX8_act_64 : decode cX8_act 64 = .ok (.aload_n 0, 1) := by decide +kernel
theorem dX8_act_65 : decode cX8_act 65 = .ok (.iload_n 1, 1) := by decide +kernel
theorem dX8_act_66 : decode cX8_act 66 = .ok (.iload_n 3, 1) := by decide +kernel
theorem dX8_act_67 : decode cX8_act 67 = .ok (.invokevirtual 297, 3) := by decide +kernel
theorem dX8_act_70 : decode cX8_act 70 = .ok (.goto 9, 3) := by decide +kernel
theorem dX8_act_73 : decode cX8_act 73 = .ok (.aload_n 0, 1) := by decide +kernel
theorem dX8_act_74 : decode cX8_act 74 = .ok (.iload_n 1, 1) := by decide +kernel
theorem dX8_act_75 : decode cX8_act 75 = .ok (.iload_n 3, 1) := by decide +kernel
theorem dX8_act_76 : decode cX8_act 76 = .ok (.invokevirtual 315, 3) := by decide +kernel
theorem dX8_act_79 : decode cX8_act 79 = .ok (.invokevirtual 117, 3) := by decide +kernel
theorem dX8_act_82 : decode cX8_act 82 = .ok (.ireturn, 1) := by decide +kernel
theorem dX8_trace_0 : decode cX8_trace 0 = .ok (.iload_n 1, 1) := by decide +kernel
theorem dX8_trace_1 : decode cX8_trace 1 = .ok (.i2l, 1) := by decide +kernel
theorem dX8_trace_2 : decode cX8_trace 2 = .ok (.lconst 0, 1) := by decide +kernel
theorem dX8_trace_3 : decode cX8_trace 3 = .ok (.aload_n 0, 1) := by decide +kernel
theorem dX8_trace_4 : decode cX8_trace 4 = .ok (.getfield 286, 3) := by decide +kernel
theorem dX8_trace_7 : decode cX8_trace 7 = .ok (.bipush 50, 2) := by decide +kernel
theorem dX8_trace_9 : decode cX8_trace 9 = .ok (.if_icmp .ge 10, 3) := by decide +kernel
theorem dX8_trace_12 : decode cX8_trace 12 = .ok (.aload_n 0, 1) := by decide +kernel
theorem dX8_trace_13 : decode cX8_trace 13 = .ok (.getfield 286, 3) := by decide +kernel
theorem dX8_trace_16 : decode cX8_trace 16 = .ok (.goto 5, 3) := by decide +kernel
theorem dX8_trace_19 : decode cX8_trace 19 = .ok (.bipush 50, 2) := by decide +kernel
theorem dX8_trace_21 : decode cX8_trace 21 = .ok (.iconst 1, 1) := by decide +kernel
theorem dX8_trace_22 : decode cX8_trace 22 = .ok (.isub, 1) := by decide +kernel
theorem dX8_trace_23 : decode cX8_trace 23 = .ok (.i2l, 1) := by decide +kernel
theorem dX8_trace_24 : decode cX8_trace 24 = .ok (.invokestatic 126, 3) := by decide +kernel
theorem dX8_trace_27 : decode cX8_trace 27 = .ok (.ifCond .eq 12, 3) := by decide +kernel
theorem dX8_trace_30 : decode cX8_trace 30 = .ok (.aload_n 0, 1) := by decide +kernel
theorem dX8_trace_31 : decode cX8_trace 31 = .ok (.getfield 97, 3) := by decide +kernel
theorem dX8_trace_34 : decode cX8_trace 34 = .ok (.iload_n 1, 1) := by decide +kernel
theorem dX8_trace_35 : decode cX8_trace 35 = .ok (.iaload, 1) := by decide +kernel
theorem dX8_trace_36 : decode cX8_trace 36 = .ok (.goto 4, 3) := by decide +kernel
theorem dX8_trace_39 : decode cX8_trace 39 = .ok (.iconst (-1), 1) := by decide +kernel
theorem dX8_trace_40 : decode cX8_trace 40 = .ok (.ireturn, 1) := by decide +kernel
theorem dX8_sheet_0 : decode cX8_sheet 0 = .ok (.iload_n 1, 1) := by decide +kernel
theorem dX8_sheet_1 : decode cX8_sheet 1 = .ok (.i2l, 1) := by decide +kernel
theorem dX8_sheet_2 : decode cX8_sheet 2 = .ok (.lconst 0, 1) := by decide +kernel
theorem dX8_sheet_3 : decode cX8_sheet 3 = .ok (.ldc2_w 272, 3) := by decide +kernel
theorem dX8_sheet_6 : decode cX8_sheet 6 = .ok (.invokestatic 126, 3) := by decide +kernel
theorem dX8_sheet_9 : decode cX8_sheet 9 = .ok (.ifCond .eq 33, 3) := by decide +kernel
theorem dX8_sheet_12 : decode cX8_sheet 12 = .ok (.iload_n 2, 1) := by decide +kernel
theorem dX8_sheet_13 : decode cX8_sheet 13 = .ok (.i2l, 1) := by decide +kernel
theorem dX8_sheet_14 : decode cX8_sheet 14 = .ok (.ldc2_w 318, 3) := by decide +kernel
theorem dX8_sheet_17 : decode cX8_sheet 17 = .ok (.ldc2_w 267, 3) := by decide +kernel
theorem dX8_sheet_20 : decode cX8_sheet 20 = .ok (.invokestatic 126, 3) := by decide +kernel
theorem dX8_sheet_23 : decode cX8_sheet 23 = .ok (.ifCond .eq 19, 3) := by decide +kernel
theorem dX8_sheet_26 : decode cX8_sheet 26 = .ok (.iload_n 2, 1) := by decide +kernel
theorem dX8_sheet_27 : decode cX8_sheet 27 = .ok (.ifCond .lt 21, 3) := by decide +kernel
theorem dX8_sheet_30 : decode cX8_sheet 30 = .ok (.iload_n 3, 1) := by decide +kernel
theorem dX8_sheet_31 : decode cX8_sheet 31 = .ok (.i2l, 1) := by decide +kernel
theorem dX8_sheet_32 : decode cX8_sheet 32 = .ok (.lconst 0, 1) := by decide +kernel
theorem dX8_sheet_33 : decode cX8_sheet 33 = .ok (.ldc2_w 320, 3) := by decide +kernel
theorem dX8_sheet_36 : decode cX8_sheet 36 = .ok (.invokestatic 126, 3) := by decide +kernel
theorem dX8_sheet_39 : decode cX8_sheet 39 = .ok (.ifCond .ne 9, 3) := by decide +kernel
theorem dX8_sheet_42 : decode cX8_sheet 42 = .ok (.aload_n 0, 1) := by decide +kernel
theorem dX8_sheet_43 : decode cX8_sheet 43 = .ok (.iconst 1, 1) := by decide +kernel
theorem dX8_sheet_44 : decode cX8_sheet 44 = .ok (.invokevirtual 113, 3) := by decide +kernel
theorem dX8_sheet_47 : decode cX8_sheet 47 = .ok (.ireturn, 1) := by decide +kernel
theorem dX8_sheet_48 : decode cX8_sheet 48 = .ok (.aload_n 0, 1) := by decide +kernel
theorem dX8_sheet_49 : decode cX8_sheet 49 = .ok (.getfield 100, 3) := by decide +kernel
theorem dX8_sheet_52 : decode cX8_sheet 52 = .ok (.iload_n 1, 1) := by decide +kernel
theorem dX8_sheet_53 : decode cX8_sheet 53 = .ok (.iload_n 2, 1) := by decide +kernel
theorem dX8_sheet_54 : decode cX8_sheet 54 = .ok (.iconst 1, 1) := by decide +kernel
theorem dX8_sheet_55 : decode cX8_sheet 55 = .ok (.iadd, 1) := by decide +kernel
theorem dX8_sheet_56 : decode cX8_sheet 56 = .ok (.iastore, 1) := by decide +kernel
theorem dX8_sheet_57 : decode cX8_sheet 57 = .ok (.aload_n 0, 1) := by decide +kernel
theorem dX8_sheet_58 : decode cX8_sheet 58 = .ok (.getfield 103, 3) := by decide +kernel
theorem dX8_sheet_61 : decode cX8_sheet 61 = .ok (.iload_n 1, 1) := by decide +kernel
theorem dX8_sheet_62 : decode cX8_sheet 62 = .ok (.iload_n 2, 1) := by decide +kernel
theorem dX8_sheet_63 : decode cX8_sheet 63 = .ok (.ifCond .ge 7, 3) := by decide +kernel
theorem dX8_sheet_66 : decode cX8_sheet 66 = .ok (.iconst 0, 1) := by decide +kernel
theorem dX8_sheet_67 : decode cX8_sheet 67 = .ok (.goto 4, 3) := by decide +kernel
theorem dX8_sheet_70 : decode cX8_sheet 70 = .ok (.iload_n 3, 1) := by decide +kernel
theorem dX8_sheet_71 : decode cX8_sheet 71 = .ok (.iastore, 1) := by decide +kernel
theorem dX8_sheet_72 : decode cX8_sheet 72 = .ok (.bipush 40, 2) := by decide +kernel
theorem dX8_sheet_74 : decode cX8_sheet 74 = .ok (.iload_n 1, 1) := by decide +kernel
theorem dX8_sheet_75 : decode cX8_sheet 75 = .ok (.imul, 1) := by decide +kernel
theorem dX8_sheet_76 : decode cX8_sheet 76 = .ok (.istore 4, 2) := by decide +kernel
theorem dX8_sheet_78 : decode cX8_sheet 78 = .ok (.iload 4, 2) := by decide +kernel
theorem dX8_sheet_80 : decode cX8_sheet 80 = .ok (.bipush 40, 2) := by decide +kernel
theorem dX8_sheet_82 : decode cX8_sheet 82 = .ok (.iload_n 1, 1) := by decide +kernel
theorem dX8_sheet_83 : decode cX8_sheet 83 = .ok (.imul, 1) := by decide +kernel
theorem dX8_sheet_84 : decode cX8_sheet 84 = .ok (.bipush 40, 2) := by decide +kernel
theorem dX8_sheet_86 : decode cX8_sheet 86 = .ok (.iadd, 1) := by decide +kernel
theorem dX8_sheet_87 : decode cX8_sheet 87 = .ok (.if_icmp .ge 17, 3) := by decide +kernel
theorem dX8_sheet_90 : decode cX8_sheet 90 = .ok (.aload_n 0, 1) := by decide +kernel
theorem dX8_sheet_91 : decode cX8_sheet 91 = .ok (.getfield 106, 3) := by decide +kernel
theorem dX8_sheet_94 : decode cX8_sheet 94 = .ok (.iload 4, 2) := by decide +kernel
theorem dX8_sheet_96 : decode cX8_sheet 96 = .ok (.iconst 0, 1) := by decide +kernel
theorem dX8_sheet_97 : decode cX8_sheet 97 = .ok (.iastore, 1) := by decide +kernel
theorem dX8_sheet_98 : decode cX8_sheet 98 = .ok (.iinc 4 1, 3) := by decide +kernel
theorem dX8_sheet_101 : decode cX8_sheet 101 = .ok (.goto (-23), 3) := by decide +kernel
theorem dX8_sheet_104 : decode cX8_sheet 104 = .ok (.aload_n 0, 1) := by decide +kernel
theorem dX8_sheet_105 : decode cX8_sheet 105 = .ok (.iconst 1, 1) := by decide +kernel
theorem dX8_sheet_106 : decode cX8_sheet 106 = .ok (.invokevirtual 117, 3) := by decide +kernel
theorem dX8_sheet_109 : decode cX8_sheet 109 = .ok (.ireturn, 1) := by decide +kernel
theorem dX8_byteOf_0 : decode cX8_byteOf 0 = .ok (.iload_n 0, 1) := by decide +kernel
theorem dX8_byteOf_1 : decode cX8_byteOf 1 = .ok (.sipush 255, 3) := by decide +kernel
theorem dX8_byteOf_4 : decode cX8_byteOf 4 = .ok (.iand, 1) := by decide +kernel
theorem dX8_byteOf_5 : decode cX8_byteOf 5 = .ok (.istore_n 1, 1) := by decide +kernel
theorem dX8_byteOf_6 : decode cX8_byteOf 6 = .ok (.iload_n 1, 1) := by decide +kernel
theorem dX8_byteOf_7 : decode cX8_byteOf 7 = .ok (.bipush 127, 2) := by decide +kernel
theorem dX8_byteOf_9 : decode cX8_byteOf 9 = .ok (.if_icmp .le 11, 3) := by decide +kernel
theorem dX8_byteOf_12 : decode cX8_byteOf 12 = .ok (.iload_n 1, 1) := by decide +kernel
theorem dX8_byteOf_13 : decode cX8_byteOf 13 = .ok (.sipush 256, 3) := by decide +kernel
theorem dX8_byteOf_16 : decode cX8_byteOf 16 = .ok (.isub, 1) := by decide +kernel
theorem dX8_byteOf_17 : decode cX8_byteOf 17 = .ok (.goto 4, 3) := by decide +kernel
theorem dX8_byteOf_20 : decode cX8_byteOf 20 = .ok (.iload_n 1, 1) := by decide +kernel
theorem dX8_byteOf_21 : decode cX8_byteOf 21 = .ok (.ireturn, 1) := by decide +kernel
theorem dX8_cell_0 : decode cX8_cell 0 = .ok (.iload_n 1, 1) := by decide +kernel
theorem dX8_cell_1 : decode cX8_cell 1 = .ok (.i2l, 1) := by decide +kernel
theorem dX8_cell_2 : decode cX8_cell 2 = .ok (.lconst 0, 1) := by decide +kernel
theorem dX8_cell_3 : decode cX8_cell 3 = .ok (.ldc2_w 272, 3) := by decide +kernel
theorem dX8_cell_6 : decode cX8_cell 6 = .ok (.invokestatic 126, 3) := by decide +kernel
theorem dX8_cell_9 : decode cX8_cell 9 = .ok (.ifCond .eq 17, 3) := by decide +kernel
theorem dX8_cell_12 : decode cX8_cell 12 = .ok (.iload_n 3, 1) := by decide +kernel
theorem dX8_cell_13 : decode cX8_cell 13 = .ok (.i2l, 1) := by decide +kernel
theorem dX8_cell_14 : decode cX8_cell 14 = .ok (.ldc2_w 322, 3) := by decide +kernel
theorem dX8_cell_17 : decode cX8_cell 17 = .ok (.ldc2_w 324, 3) := by decide +kernel
theorem dX8_cell_20 : decode cX8_cell 20 = .ok (.invokestatic 126, 3) := by decide +kernel
theorem dX8_cell_23 : decode cX8_cell 23 = .ok (.ifCond .ne 9, 3) := by decide +kernel
theorem dX8_cell_26 : decode cX8_cell 26 = .ok (.aload_n 0, 1) := by decide +kernel
theorem dX8_cell_27 : decode cX8_cell 27 = .ok (.iconst 1, 1) := by decide +kernel
theorem dX8_cell_28 : decode cX8_cell 28 = .ok (.invokevirtual 113, 3) := by decide +kernel
theorem dX8_cell_31 : decode cX8_cell 31 = .ok (.ireturn, 1) := by decide +kernel
theorem dX8_cell_32 : decode cX8_cell 32 = .ok (.aload_n 0, 1) := by decide +kernel
theorem dX8_cell_33 : decode cX8_cell 33 = .ok (.getfield 100, 3) := by decide +kernel
theorem dX8_cell_36 : decode cX8_cell 36 = .ok (.iload_n 1, 1) := by decide +kernel
theorem dX8_cell_37 : decode cX8_cell 37 = .ok (.iaload, 1) := by decide +kernel
theorem dX8_cell_38 : decode cX8_cell 38 = .ok (.ifCond .ne 10, 3) := by decide +kernel
theorem dX8_cell_41 : decode cX8_cell 41 = .ok (.aload_n 0, 1) := by decide +kernel
theorem dX8_cell_42 : decode cX8_cell 42 = .ok (.bipush 10, 2) := by decide +kernel
theorem dX8_cell_44 : decode cX8_cell 44 = .ok (.invokevirtual 113, 3) := by decide +kernel
theorem dX8_cell_47 : decode cX8_cell 47 = .ok (.ireturn, 1) := by decide +kernel
theorem dX8_cell_48 : decode cX8_cell 48 = .ok (.iload_n 2, 1) := by decide +kernel
theorem dX8_cell_49 : decode cX8_cell 49 = .ok (.i2l, 1) := by decide +kernel
theorem dX8_cell_50 : decode cX8_cell 50 = .ok (.lconst 0, 1) := by decide +kernel
theorem dX8_cell_51 : decode cX8_cell 51 = .ok (.aload_n 0, 1) := by decide +kernel
theorem dX8_cell_52 : decode cX8_cell 52 = .ok (.getfield 103, 3) := by decide +kernel
theorem dX8_cell_55 : decode cX8_cell 55 = .ok (.iload_n 1, 1) := by decide +kernel
theorem dX8_cell_56 : decode cX8_cell 56 = .ok (.iaload, 1) := by decide +kernel
theorem dX8_cell_57 : decode cX8_cell 57 = .ok (.iconst 1, 1) := by decide +kernel
theorem dX8_cell_58 : decode cX8_cell 58 = .ok (.isub, 1) := by decide +kernel
theorem dX8_cell_59 : decode cX8_cell 59 = .ok (.i2l, 1) := by decide +kernel
theorem dX8_cell_60 : decode cX8_cell 60 = .ok (.invokestatic 126, 3) := by decide +kernel
theorem dX8_cell_63 : decode cX8_cell 63 = .ok (.ifCond .ne 10, 3) := by decide +kernel
theorem dX8_cell_66 : decode cX8_cell 66 = .ok (.aload_n 0, 1) := by decide +kernel
theorem dX8_cell_67 : decode cX8_cell 67 = .ok (.bipush 12, 2) := by decide +kernel
theorem dX8_cell_69 : decode cX8_cell 69 = .ok (.invokevirtual 113, 3) := by decide +kernel
theorem dX8_cell_72 : decode cX8_cell 72 = .ok (.ireturn, 1) := by decide +kernel
theorem dX8_cell_73 : decode cX8_cell 73 = .ok (.aload_n 0, 1) := by decide +kernel
theorem dX8_cell_74 : decode cX8_cell 74 = .ok (.getfield 106, 3) := by decide +kernel
theorem dX8_cell_77 : decode cX8_cell 77 = .ok (.bipush 40, 2) := by decide +kernel
theorem dX8_cell_79 : decode cX8_cell 79 = .ok (.iload_n 1, 1) := by decide +kernel
theorem dX8_cell_80 : decode cX8_cell 80 = .ok (.imul, 1) := by decide +kernel
theorem dX8_cell_81 : decode cX8_cell 81 = .ok (.iload_n 2, 1) := by decide +kernel
theorem dX8_cell_82 : decode cX8_cell 82 = .ok (.iadd, 1) := by decide +kernel
theorem dX8_cell_83 : decode cX8_cell 83 = .ok (.aload_n 0, 1) := by decide +kernel
theorem dX8_cell_84 : decode cX8_cell 84 = .ok (.getfield 100, 3) := by decide +kernel
theorem dX8_cell_87 : decode cX8_cell 87 = .ok (.iload_n 1, 1) := by decide +kernel
theorem dX8_cell_88 : decode cX8_cell 88 = .ok (.iaload, 1) := by decide +kernel
theorem dX8_cell_89 : decode cX8_cell 89 = .ok (.iconst 1, 1) := by decide +kernel
theorem dX8_cell_90 : decode cX8_cell 90 = .ok (.if_icmp .ne 10, 3) := by decide +kernel
theorem dX8_cell_93 : decode cX8_cell 93 = .ok (.iload_n 3, 1) := by decide +kernel
theorem dX8_cell_94 : decode cX8_cell 94 = .ok (.invokestatic 326, 3) := by decide +kernel
theorem dX8_cell_97 : decode cX8_cell 97 = .ok (.goto 4, 3) := by decide +kernel
theorem dX8_cell_100 : decode cX8_cell 100 = .ok (.iload_n 3, 1) := by decide +kernel
theorem dX8_cell_101 : decode cX8_cell 101 = .ok (.iastore, 1) := by decide +kernel
theorem dX8_cell_102 : decode cX8_cell 102 = .ok (.aload_n 0, 1) := by decide +kernel
theorem dX8_cell_103 : decode cX8_cell 103 = .ok (.iconst 1, 1) := by decide +kernel
theorem dX8_cell_104 : decode cX8_cell 104 = .ok (.invokevirtual 117, 3) := by decide +kernel
theorem dX8_cell_107 : decode cX8_cell 107 = .ok (.ireturn, 1) := by decide +kernel
theorem dX8_order_0 : decode cX8_order 0 = .ok (.iload_n 1, 1) := by decide +kernel
theorem dX8_order_1 : decode cX8_order 1 = .ok (.i2l, 1) := by decide +kernel
theorem dX8_order_2 : decode cX8_order 2 = .ok (.lconst 0, 1) := by decide +kernel
theorem dX8_order_3 : decode cX8_order 3 = .ok (.ldc2_w 272, 3) := by decide +kernel
theorem dX8_order_6 : decode cX8_order 6 = .ok (.invokestatic 126, 3) := by decide +kernel
theorem dX8_order_9 : decode cX8_order 9 = .ok (.ifCond .eq 15, 3) := by decide +kernel
theorem dX8_order_12 : decode cX8_order 12 = .ok (.iload_n 2, 1) := by decide +kernel
theorem dX8_order_13 : decode cX8_order 13 = .ok (.i2l, 1) := by decide +kernel
theorem dX8_order_14 : decode cX8_order 14 = .ok (.lconst 0, 1) := by decide +kernel
theorem dX8_order_15 : decode cX8_order 15 = .ok (.ldc2_w 267, 3) := by decide +kernel
theorem dX8_order_18 : decode cX8_order 18 = .ok (.invokestatic 126, 3) := by decide +kernel
theorem dX8_order_21 : decode cX8_order 21 = .ok (.ifCond .ne 9, 3) := by decide +kernel
theorem dX8_order_24 : decode cX8_order 24 = .ok (.aload_n 0, 1) := by decide +kernel
theorem dX8_order_25 : decode cX8_order 25 = .ok (.iconst 1, 1) := by decide +kernel
theorem dX8_order_26 : decode cX8_order 26 = .ok (.invokevirtual 113, 3) := by decide +kernel
theorem dX8_order_29 : decode cX8_order 29 = .ok (.ireturn, 1) := by decide +kernel
theorem dX8_order_30 : decode cX8_order 30 = .ok (.aload_n 0, 1) := by decide +kernel
theorem dX8_order_31 : decode cX8_order 31 = .ok (.getfield 70, 3) := by decide +kernel
theorem dX8_order_34 : decode cX8_order 34 = .ok (.iconst 1, 1) := by decide +kernel
theorem dX8_order_35 : decode cX8_order 35 = .ok (.iaload, 1) := by decide +kernel
theorem dX8_order_36 : decode cX8_order 36 = .ok (.bipush 24, 2) := by decide +kernel
theorem dX8_order_38 : decode cX8_order 38 = .ok (.if_icmp .ne 9, 3) := by decide +kernel
theorem dX8_order_41 : decode cX8_order 41 = .ok (.aload_n 0, 1) := by decide +kernel
theorem dX8_order_42 : decode cX8_order 42 = .ok (.iconst 2, 1) := by decide +kernel
theorem dX8_order_43 : decode cX8_order 43 = .ok (.invokevirtual 113, 3) := by decide +kernel
theorem dX8_order_46 : decode cX8_order 46 = .ok (.ireturn, 1) := by decide +kernel
theorem dX8_order_47 : decode cX8_order 47 = .ok (.aload_n 0, 1) := by decide +kernel
theorem dX8_order_48 : decode cX8_order 48 = .ok (.getfield 100, 3) := by decide +kernel
theorem dX8_order_51 : decode cX8_order 51 = .ok (.iload_n 1, 1) := by decide +kernel
theorem dX8_order_52 : decode cX8_order 52 = .ok (.iaload, 1) := by decide +kernel
theorem dX8_order_53 : decode cX8_order 53 = .ok (.ifCond .ne 10, 3) := by decide +kernel
theorem dX8_order_56 : decode cX8_order 56 = .ok (.aload_n 0, 1) := by decide +kernel
theorem dX8_order_57 : decode cX8_order 57 = .ok (.bipush 10, 2) := by decide +kernel
theorem dX8_order_59 : decode cX8_order 59 = .ok (.invokevirtual 113, 3) := by decide +kernel
theorem dX8_order_62 : decode cX8_order 62 = .ok (.ireturn, 1) := by decide +kernel
theorem dX8_order_63 : decode cX8_order 63 = .ok (.aload_n 0, 1) := by decide +kernel
theorem dX8_order_64 : decode cX8_order 64 = .ok (.getfield 100, 3) := by decide +kernel
theorem dX8_order_67 : decode cX8_order 67 = .ok (.iload_n 1, 1) := by decide +kernel
theorem dX8_order_68 : decode cX8_order 68 = .ok (.iaload, 1) := by decide +kernel
theorem dX8_order_69 : decode cX8_order 69 = .ok (.iload_n 2, 1) := by decide +kernel
theorem dX8_order_70 : decode cX8_order 70 = .ok (.iconst 1, 1) := by decide +kernel
theorem dX8_order_71 : decode cX8_order 71 = .ok (.iadd, 1) := by decide +kernel
theorem dX8_order_72 : decode cX8_order 72 = .ok (.if_icmp .eq 10, 3) := by decide +kernel
theorem dX8_order_75 : decode cX8_order 75 = .ok (.aload_n 0, 1) := by decide +kernel
theorem dX8_order_76 : decode cX8_order 76 = .ok (.bipush 11, 2) := by decide +kernel
theorem dX8_order_78 : decode cX8_order 78 = .ok (.invokevirtual 113, 3) := by decide +kernel
theorem dX8_order_81 : decode cX8_order 81 = .ok (.ireturn, 1) := by decide +kernel
theorem dX8_order_82 : decode cX8_order 82 = .ok (.iload_n 3, 1) := by decide +kernel
theorem dX8_order_83 : decode cX8_order 83 = .ok (.ifCond .lt 20, 3) := by decide +kernel
theorem dX8_order_86 : decode cX8_order 86 = .ok (.iload_n 3, 1) := by decide +kernel
theorem dX8_order_87 : decode cX8_order 87 = .ok (.i2l, 1) := by decide +kernel
theorem dX8_order_88 : decode cX8_order 88 = .ok (.ldc2_w 329, 3) := by decide +kernel
theorem dX8_order_91 : decode cX8_order 91 = .ok (.ladd, 1) := by decide +kernel
theorem dX8_order_92 : decode cX8_order 92 = .ok (.aload_n 0, 1) := by decide +kernel
theorem dX8_order_93 : decode cX8_order 93 = .ok (.getfield 103, 3) := by decide +kernel
theorem dX8_order_96 : decode cX8_order 96 = .ok (.iload_n 1, 1) := by decide +kernel
theorem dX8_order_97 : decode cX8_order 97 = .ok (.iaload, 1) := by decide +kernel
theorem dX8_order_98 : decode cX8_order 98 = .ok (.i2l, 1) := by decide +kernel
theorem dX8_order_99 : decode cX8_order 99 = .ok (.lcmp, 1) := by decide +kernel
theorem dX8_order_100 : decode cX8_order 100 = .ok (.ifCond .le 10, 3) := by decide +kernel
theorem dX8_order_103 : decode cX8_order 103 = .ok (.aload_n 0, 1) := by decide +kernel
theorem dX8_order_104 : decode cX8_order 104 = .ok (.bipush 12, 2) := by decide +kernel
theorem dX8_order_106 : decode cX8_order 106 = .ok (.invokevirtual 113, 3) := by decide +kernel
theorem dX8_order_109 : decode cX8_order 109 = .ok (.ireturn, 1) := by decide +kernel
theorem dX8_order_110 : decode cX8_order 110 = .ok (.bipush 40, 2) := by decide +kernel
theorem dX8_order_112 : decode cX8_order 112 = .ok (.iload_n 1, 1) := by decide +kernel
theorem dX8_order_113 : decode cX8_order 113 = .ok (.imul, 1) := by decide +kernel
theorem dX8_order_114 : decode cX8_order 114 = .ok (.iload_n 3, 1) := by decide +kernel
theorem dX8_order_115 : decode cX8_order 115 = .ok (.iadd, 1) := by decide +kernel
theorem dX8_order_116 : decode cX8_order 116 = .ok (.istore 4, 2) := by decide +kernel
theorem dX8_order_118 : decode cX8_order 118 = .ok (.aload_n 0, 1) := by decide +kernel
theorem dX8_order_119 : decode cX8_order 119 = .ok (.aload_n 0, 1) := by decide +kernel
theorem dX8_order_120 : decode cX8_order 120 = .ok (.getfield 106, 3) := by decide +kernel
theorem dX8_order_123 : decode cX8_order 123 = .ok (.iload 4, 2) := by decide +kernel
theorem dX8_order_125 : decode cX8_order 125 = .ok (.iaload, 1) := by decide +kernel
theorem dX8_order_126 : decode cX8_order 126 = .ok (.aload_n 0, 1) := by decide +kernel
theorem dX8_order_127 : decode cX8_order 127 = .ok (.getfield 106, 3) := by decide +kernel
theorem dX8_order_130 : decode cX8_order 130 = .ok (.iload 4, 2) := by decide +kernel
theorem dX8_order_132 : decode cX8_order 132 = .ok (.iconst 1, 1) := by decide +kernel
theorem dX8_order_133 : decode cX8_order 133 = .ok (.iadd, 1) := by decide +kernel
theorem dX8_order_134 : decode cX8_order 134 = .ok (.iaload, 1) := by decide +kernel
theorem dX8_order_135 : decode cX8_order 135 = .ok (.aload_n 0, 1) := by decide +kernel
theorem dX8_order_136 : decode cX8_order 136 = .ok (.getfield 106, 3) := by decide +kernel
theorem dX8_order_139 : decode cX8_order 139 = .ok (.iload 4, 2) := by decide +kernel
theorem dX8_order_141 : decode cX8_order 141 = .ok (.iconst 2, 1) := by decide +kernel
theorem dX8_order_142 : decode cX8_order 142 = .ok (.iadd, 1) := by decide +kernel
theorem dX8_order_143 : decode cX8_order 143 = .ok (.iaload, 1) := by decide +kernel
theorem dX8_order_144 : decode cX8_order 144 = .ok (.aload_n 0, 1) := by decide +kernel
theorem dX8_order_145 : decode cX8_order 145 = .ok (.getfield 106, 3) := by decide +kernel
theorem dX8_order_148 : decode cX8_order 148 = .ok (.iload 4, 2) := by decide +kernel
theorem dX8_order_150 : decode cX8_order 150 = .ok (.iconst 3, 1) := by decide +kernel
theorem dX8_order_151 : decode cX8_order 151 = .ok (.iadd, 1) := by decide +kernel
theorem dX8_order_152 : decode cX8_order 152 = .ok (.iaload, 1) := by decide +kernel
theorem dX8_order_153 : decode cX8_order 153 = .ok (.aload_n 0, 1) := by decide +kernel
theorem dX8_order_154 : decode cX8_order 154 = .ok (.getfield 106, 3) := by decide +kernel
theorem dX8_order_157 : decode cX8_order 157 = .ok (.iload 4, 2) := by decide +kernel
theorem dX8_order_159 : decode cX8_order 159 = .ok (.iconst 4, 1) := by decide +kernel
theorem dX8_order_160 : decode cX8_order 160 = .ok (.iadd, 1) := by decide +kernel
theorem dX8_order_161 : decode cX8_order 161 = .ok (.iaload, 1) := by decide +kernel
theorem dX8_order_162 : decode cX8_order 162 = .ok (.invokevirtual 134, 3) := by decide +kernel
theorem dX8_order_165 : decode cX8_order 165 = .ok (.ifCond .ne 9, 3) := by decide +kernel
theorem dX8_order_168 : decode cX8_order 168 = .ok (.aload_n 0, 1) := by decide +kernel
theorem dX8_order_169 : decode cX8_order 169 = .ok (.iconst 3, 1) := by decide +kernel
theorem dX8_order_170 : decode cX8_order 170 = .ok (.invokevirtual 113, 3) := by decide +kernel
theorem dX8_order_173 : decode cX8_order 173 = .ok (.ireturn, 1) := by decide +kernel
theorem dX8_order_174 : decode cX8_order 174 = .ok (.aload_n 0, 1) := by decide +kernel
theorem dX8_order_175 : decode cX8_order 175 = .ok (.aload_n 0, 1) := by decide +kernel
theorem dX8_order_176 : decode cX8_order 176 = .ok (.getfield 106, 3) := by decide +kernel
theorem dX8_order_179 : decode cX8_order 179 = .ok (.iload 4, 2) := by decide +kernel
theorem dX8_order_181 : decode cX8_order 181 = .ok (.iaload, 1) := by decide +kernel
theorem dX8_order_182 : decode cX8_order 182 = .ok (.aload_n 0, 1) := by decide +kernel
theorem dX8_order_183 : decode cX8_order 183 = .ok (.getfield 106, 3) := by decide +kernel
theorem dX8_order_186 : decode cX8_order 186 = .ok (.iload 4, 2) := by decide +kernel
theorem dX8_order_188 : decode cX8_order 188 = .ok (.iconst 1, 1) := by decide +kernel
theorem dX8_order_189 : decode cX8_order 189 = .ok (.iadd, 1) := by decide +kernel
theorem dX8_order_190 : decode cX8_order 190 = .ok (.iaload, 1) := by decide +kernel
theorem dX8_order_191 : decode cX8_order 191 = .ok (.aload_n 0, 1) := by decide +kernel
theorem dX8_order_192 : decode cX8_order 192 = .ok (.getfield 106, 3) := by decide +kernel
theorem dX8_order_195 : decode cX8_order 195 = .ok (.iload 4, 2) := by decide +kernel
theorem dX8_order_197 : decode cX8_order 197 = .ok (.iconst 2, 1) := by decide +kernel
theorem dX8_order_198 : decode cX8_order 198 = .ok (.iadd, 1) := by decide +kernel
theorem dX8_order_199 : decode cX8_order 199 = .ok (.iaload, 1) := by decide +kernel
theorem dX8_order_200 : decode cX8_order 200 = .ok (.aload_n 0, 1) := by decide +kernel
theorem dX8_order_201 : decode cX8_order 201 = .ok (.getfield 106, 3) := by decide +kernel
theorem dX8_order_204 : decode cX8_order 204 = .ok (.iload 4, 2) := by decide +kernel
theorem dX8_order_206 : decode cX8_order 206 = .ok (.iconst 3, 1) := by decide +kernel
theorem dX8_order_207 : decode cX8_order 207 = .ok (.iadd, 1) := by decide +kernel
theorem dX8_order_208 : decode cX8_order 208 = .ok (.iaload, 1) := by decide +kernel
theorem dX8_order_209 : decode cX8_order 209 = .ok (.aload_n 0, 1) := by decide +kernel
theorem dX8_order_210 : decode cX8_order 210 = .ok (.getfield 106, 3) := by decide +kernel
theorem dX8_order_213 : decode cX8_order 213 = .ok (.iload 4, 2) := by decide +kernel
theorem dX8_order_215 : decode cX8_order 215 = .ok (.iconst 4, 1) := by decide +kernel
theorem dX8_order_216 : decode cX8_order 216 = .ok (.iadd, 1) := by decide +kernel
theorem dX8_order_217 : decode cX8_order 217 = .ok (.iaload, 1) := by decide +kernel
theorem dX8_order_218 : decode cX8_order 218 = .ok (.invokevirtual 138, 3) := by decide +kernel
theorem dX8_order_221 : decode cX8_order 221 = .ok (.ireturn, 1) := by decide +kernel
theorem dX8_modulo_0 : decode cX8_modulo 0 = .ok (.iload_n 0, 1) := by decide +kernel
theorem dX8_modulo_1 : decode cX8_modulo 1 = .ok (.iload_n 1, 1) := by decide +kernel
theorem dX8_modulo_2 : decode cX8_modulo 2 = .ok (.irem, 1) := by decide +kernel
theorem dX8_modulo_3 : decode cX8_modulo 3 = .ok (.iload_n 1, 1) := by decide +kernel
theorem dX8_modulo_4 : decode cX8_modulo 4 = .ok (.iadd, 1) := by decide +kernel
theorem dX8_modulo_5 : decode cX8_modulo 5 = .ok (.iload_n 1, 1) := by decide +kernel
theorem dX8_modulo_6 : decode cX8_modulo 6 = .ok (.irem, 1) := by decide +kernel
theorem dX8_modulo_7 : decode cX8_modulo 7 = .ok (.ireturn, 1) := by decide +kernel
theorem dX8_forge_0 : decode cX8_forge 0 = .ok (.iload_n 1, 1) := by decide +kernel
theorem dX8_forge_1 : decode cX8_forge 1 = .ok (.i2l, 1) := by decide +kernel
theorem dX8_forge_2 : decode cX8_forge 2 = .ok (.lconst 0, 1) := by decide +kernel
theorem dX8_forge_3 : decode cX8_forge 3 = .ok (.ldc2_w 331, 3) := by decide +kernel
theorem dX8_forge_6 : decode cX8_forge 6 = .ok (.invokestatic 126, 3) := by decide +kernel
theorem dX8_forge_9 : decode cX8_forge 9 = .ok (.ifCond .eq 31, 3) := by decide +kernel
theorem dX8_forge_12 : decode cX8_forge 12 = .ok (.iload_n 2, 1) := by decide +kernel
theorem dX8_forge_13 : decode cX8_forge 13 = .ok (.i2l, 1) := by decide +kernel
theorem dX8_forge_14 : decode cX8_forge 14 = .ok (.ldc2_w 333, 3) := by decide +kernel
theorem dX8_forge_17 : decode cX8_forge 17 = .ok (.ldc2_w 335, 3) := by decide +kernel
theorem dX8_forge_20 : decode cX8_forge 20 = .ok (.invokestatic 126, 3) := by decide +kernel
theorem dX8_forge_23 : decode cX8_forge 23 = .ok (.ifCond .eq 17, 3) := by decide +kernel
theorem dX8_forge_26 : decode cX8_forge 26 = .ok (.iload_n 3, 1) := by decide +kernel
theorem dX8_forge_27 : decode cX8_forge 27 = .ok (.i2l, 1) := by decide +kernel
theorem dX8_forge_28 : decode cX8_forge 28 = .ok (.ldc2_w 333, 3) := by decide +kernel
theorem dX8_forge_31 : decode cX8_forge 31 = .ok (.ldc2_w 335, 3) := by decide +kernel
theorem dX8_forge_34 : decode cX8_forge 34 = .ok (.invokestatic 126, 3) := by decide +kernel
theorem dX8_forge_37 : decode cX8_forge 37 = .ok (.ifCond .ne 9, 3) := by decide +kernel
theorem dX8_forge_40 : decode cX8_forge 40 = .ok (.aload_n 0, 1) := by decide +kernel
theorem dX8_forge_41 : decode cX8_forge 41 = .ok (.iconst 1, 1) := by decide +kernel
theorem dX8_forge_42 : decode cX8_forge 42 = .ok (.invokevirtual 113, 3) := by decide +kernel
theorem dX8_forge_45 : decode cX8_forge 45 = .ok (.ireturn, 1) := by decide +kernel
theorem dX8_forge_46 : decode cX8_forge 46 = .ok (.iload_n 3, 1) := by decide +kernel
theorem dX8_forge_47 : decode cX8_forge 47 = .ok (.bipush 24, 2) := by decide +kernel
theorem dX8_forge_49 : decode cX8_forge 49 = .ok (.invokestatic 337, 3) := by decide +kernel
theorem dX8_forge_52 : decode cX8_forge 52 = .ok (.istore 4, 2) := by decide +kernel
theorem dX8_forge_54 : decode cX8_forge 54 = .ok (.iload_n 3, 1) := by decide +kernel
theorem dX8_forge_55 : decode cX8_forge 55 = .ok (.iconst 4, 1) := by decide +kernel
theorem dX8_forge_56 : decode cX8_forge 56 = .ok (.invokestatic 337, 3) := by decide +kernel
theorem dX8_forge_59 : decode cX8_forge 59 = .ok (.istore 5, 2) := by decide +kernel
theorem dX8_forge_61 : decode cX8_forge 61 = .ok (.iload_n 1, 1) := by decide +kernel
theorem dX8_forge_62 : decode cX8_forge 62 = .ok (.tableswitch 317 0 5 #[38, 129, 148, 228, 236, 294], 38) := by decide +kernel
theorem dX8_forge_100 : decode cX8_forge 100 = .ok (.iload_n 2, 1) := by decide +kernel
theorem dX8_forge_101 : decode cX8_forge 101 = .ok (.bipush 8, 2) := by decide +kernel
theorem dX8_forge_103 : decode cX8_forge 103 = .ok (.invokestatic 337, 3) := by decide +kernel
theorem dX8_forge_106 : decode cX8_forge 106 = .ok (.istore 6, 2) := by decide +kernel
theorem dX8_forge_108 : decode cX8_forge 108 = .ok (.aload_n 0, 1) := by decide +kernel
theorem dX8_forge_109 : decode cX8_forge 109 = .ok (.iload 4, 2) := by decide +kernel
theorem dX8_forge_111 : decode cX8_forge 111 = .ok (.invokevirtual 142, 3) := by decide +kernel
theorem dX8_forge_114 : decode cX8_forge 114 = .ok (.ifCond .ne 10, 3) := by decide +kernel
theorem dX8_forge_117 : decode cX8_forge 117 = .ok (.aload_n 0, 1) := by decide +kernel
theorem dX8_forge_118 : decode cX8_forge 118 = .ok (.bipush 10, 2) := by decide +kernel
theorem dX8_forge_120 : decode cX8_forge 120 = .ok (.invokevirtual 113, 3) := by decide +kernel
theorem dX8_forge_123 : decode cX8_forge 123 = .ok (.ireturn, 1) := by decide +kernel
theorem dX8_forge_124 : decode cX8_forge 124 = .ok (.iload 6, 2) := by decide +kernel
theorem dX8_forge_126 : decode cX8_forge 126 = .ok (.ifCond .eq 32, 3) := by decide +kernel
theorem dX8_forge_129 : decode cX8_forge 129 = .ok (.aload_n 0, 1) := by decide +kernel
theorem dX8_forge_130 : decode cX8_forge 130 = .ok (.getfield 13, 3) := by decide +kernel
theorem dX8_forge_133 : decode cX8_forge 133 = .ok (.iload 4, 2) := by decide +kernel
theorem dX8_forge_135 : decode cX8_forge 135 = .ok (.iaload, 1) := by decide +kernel
theorem dX8_forge_136 : decode cX8_forge 136 = .ok (.iload 6, 2) := by decide +kernel
theorem dX8_forge_138 : decode cX8_forge 138 = .ok (.if_icmp .eq 20, 3) := by decide +kernel
theorem dX8_forge_141 : decode cX8_forge 141 = .ok (.iload 6, 2) := by decide +kernel
theorem dX8_forge_143 : decode cX8_forge 143 = .ok (.iconst 2, 1) := by decide +kernel
theorem dX8_forge_144 : decode cX8_forge 144 = .ok (.if_icmp .ne 18, 3) := by decide +kernel
theorem dX8_forge_147 : decode cX8_forge 147 = .ok (.aload_n 0, 1) := by decide +kernel
theorem dX8_forge_148 : decode cX8_forge 148 = .ok (.getfield 13, 3) := by decide +kernel
theorem dX8_forge_151 : decode cX8_forge 151 = .ok (.iload 4, 2) := by decide +kernel
theorem dX8_forge_153 : decode cX8_forge 153 = .ok (.iaload, 1) := by decide +kernel
theorem dX8_forge_154 : decode cX8_forge 154 = .ok (.iconst 3, 1) := by decide +kernel
theorem dX8_forge_155 : decode cX8_forge 155 = .ok (.if_icmp .ne 7, 3) := by decide +kernel
theorem dX8_forge_158 : decode cX8_forge 158 = .ok (.iconst 1, 1) := by decide +kernel
theorem dX8_forge_159 : decode cX8_forge 159 = .ok (.goto 4, 3) := by decide +kernel
theorem dX8_forge_162 : decode cX8_forge 162 = .ok (.iconst 0, 1) := by decide +kernel
theorem dX8_forge_163 : decode cX8_forge 163 = .ok (.istore 7, 2) := by decide +kernel
theorem dX8_forge_165 : decode cX8_forge 165 = .ok (.iload 7, 2) := by decide +kernel
theorem dX8_forge_167 : decode cX8_forge 167 = .ok (.ifCond .eq 17, 3) := by decide +kernel
theorem dX8_forge_170 : decode cX8_forge 170 = .ok (.aload_n 0, 1) := by decide +kernel
theorem dX8_forge_171 : decode cX8_forge 171 = .ok (.aload_n 0, 1) := by decide +kernel
theorem dX8_forge_172 : decode cX8_forge 172 = .ok (.getfield 13, 3) := by decide +kernel
theorem dX8_forge_175 : decode cX8_forge 175 = .ok (.iload 4, 2) := by decide +kernel
theorem dX8_forge_177 : decode cX8_forge 177 = .ok (.iaload, 1) := by decide +kernel
theorem dX8_forge_178 : decode cX8_forge 178 = .ok (.invokevirtual 117, 3) := by decide +kernel
theorem dX8_forge_181 : decode cX8_forge 181 = .ok (.goto 9, 3) := by decide +kernel
theorem dX8_forge_184 : decode cX8_forge 184 = .ok (.aload_n 0, 1) := by decide +kernel
theorem dX8_forge_185 : decode cX8_forge 185 = .ok (.bipush 11, 2) := by decide +kernel
theorem dX8_forge_187 : decode cX8_forge 187 = .ok (.invokevirtual 113, 3) := by decide +kernel
theorem dX8_forge_190 : decode cX8_forge 190 = .ok (.ireturn, 1) := by decide +kernel
theorem dX8_forge_191 : decode cX8_forge 191 = .ok (.iload_n 2, 1) := by decide +kernel
theorem dX8_forge_192 : decode cX8_forge 192 = .ok (.ifCond .ge 12, 3) := by decide +kernel
theorem dX8_forge_195 : decode cX8_forge 195 = .ok (.aload_n 0, 1) := by decide +kernel
theorem dX8_forge_196 : decode cX8_forge 196 = .ok (.bipush 13, 2) := by decide +kernel
theorem dX8_forge_198 : decode cX8_forge 198 = .ok (.invokevirtual 113, 3) := by decide +kernel
theorem dX8_forge_201 : decode cX8_forge 201 = .ok (.goto 8, 3) := by decide +kernel
theorem dX8_forge_204 : decode cX8_forge 204 = .ok (.aload_n 0, 1) := by decide +kernel
theorem dX8_forge_205 : decode cX8_forge 205 = .ok (.iload_n 2, 1) := by decide +kernel
theorem dX8_forge_206 : decode cX8_forge 206 = .ok (.invokevirtual 117, 3) := by decide +kernel
theorem dX8_forge_209 : decode cX8_forge 209 = .ok (.ireturn, 1) := by decide +kernel
theorem dX8_forge_210 : decode cX8_forge 210 = .ok (.aload_n 0, 1) := by decide +kernel
theorem dX8_forge_211 : decode cX8_forge 211 = .ok (.getfield 100, 3) := by decide +kernel
theorem dX8_forge_214 : decode cX8_forge 214 = .ok (.iload 5, 2) := by decide +kernel
theorem dX8_forge_216 : decode cX8_forge 216 = .ok (.iaload, 1) := by decide +kernel
theorem dX8_forge_217 : decode cX8_forge 217 = .ok (.ifCond .ne 10, 3) := by decide +kernel
theorem dX8_forge_220 : decode cX8_forge 220 = .ok (.aload_n 0, 1) := by decide +kernel
theorem dX8_forge_221 : decode cX8_forge 221 = .ok (.bipush 10, 2) := by decide +kernel
theorem dX8_forge_223 : decode cX8_forge 223 = .ok (.invokevirtual 113, 3) := by decide +kernel
theorem dX8_forge_226 : decode cX8_forge 226 = .ok (.ireturn, 1) := by decide +kernel
theorem dX8_forge_227 : decode cX8_forge 227 = .ok (.aload_n 0, 1) := by decide +kernel
theorem dX8_forge_228 : decode cX8_forge 228 = .ok (.getfield 100, 3) := by decide +kernel
theorem dX8_forge_231 : decode cX8_forge 231 = .ok (.iload 5, 2) := by decide +kernel
theorem dX8_forge_233 : decode cX8_forge 233 = .ok (.iaload, 1) := by decide +kernel
theorem dX8_forge_234 : decode cX8_forge 234 = .ok (.iconst 2, 1) := by decide +kernel
theorem dX8_forge_235 : decode cX8_forge 235 = .ok (.if_icmp .eq 10, 3) := by decide +kernel
theorem dX8_forge_238 : decode cX8_forge 238 = .ok (.aload_n 0, 1) := by decide +kernel
theorem dX8_forge_239 : decode cX8_forge 239 = .ok (.bipush 11, 2) := by decide +kernel
theorem dX8_forge_241 : decode cX8_forge 241 = .ok (.invokevirtual 113, 3) := by decide +kernel
theorem dX8_forge_244 : decode cX8_forge 244 = .ok (.ireturn, 1) := by decide +kernel
theorem dX8_forge_245 : decode cX8_forge 245 = .ok (.iload_n 2, 1) := by decide +kernel
theorem dX8_forge_246 : decode cX8_forge 246 = .ok (.i2l, 1) := by decide +kernel
theorem dX8_forge_247 : decode cX8_forge 247 = .ok (.lconst 0, 1) := by decide +kernel
theorem dX8_forge_248 : decode cX8_forge 248 = .ok (.aload_n 0, 1) := by decide +kernel
theorem dX8_forge_249 : decode cX8_forge 249 = .ok (.getfield 103, 3) := by decide +kernel
theorem dX8_forge_252 : decode cX8_forge 252 = .ok (.iload 5, 2) := by decide +kernel
theorem dX8_forge_254 : decode cX8_forge 254 = .ok (.iaload, 1) := by decide +kernel
theorem dX8_forge_255 : decode cX8_forge 255 = .ok (.iconst 1, 1) := by decide +kernel
theorem dX8_forge_256 : decode cX8_forge 256 = .ok (.isub, 1) := by decide +kernel
theorem dX8_forge_257 : decode cX8_forge 257 = .ok (.i2l, 1) := by decide +kernel
theorem dX8_forge_258 : decode cX8_forge 258 = .ok (.invokestatic 126, 3) := by decide +kernel
theorem dX8_forge_261 : decode cX8_forge 261 = .ok (.ifCond .eq 22, 3) := by decide +kernel
theorem dX8_forge_264 : decode cX8_forge 264 = .ok (.aload_n 0, 1) := by decide +kernel
theorem dX8_forge_265 : decode cX8_forge 265 = .ok (.aload_n 0, 1) := by decide +kernel
theorem dX8_forge_266 : decode cX8_forge 266 = .ok (.getfield 106, 3) := by decide +kernel
theorem dX8_forge_269 : decode cX8_forge 269 = .ok (.bipush 40, 2) := by decide +kernel
theorem dX8_forge_271 : decode cX8_forge 271 = .ok (.iload 5, 2) := by decide +kernel
theorem dX8_forge_273 : decode cX8_forge 273 = .ok (.imul, 1) := by decide +kernel
theorem dX8_forge_274 : decode cX8_forge 274 = .ok (.iload_n 2, 1) := by decide +kernel
theorem dX8_forge_275 : decode cX8_forge 275 = .ok (.iadd, 1) := by decide +kernel
theorem dX8_forge_276 : decode cX8_forge 276 = .ok (.iaload, 1) := by decide +kernel
theorem dX8_forge_277 : decode cX8_forge 277 = .ok (.invokevirtual 117, 3) := by decide +kernel
theorem dX8_forge_280 : decode cX8_forge 280 = .ok (.goto 9, 3) := by decide +kernel
theorem dX8_forge_283 : decode cX8_forge 283 = .ok (.aload_n 0, 1) := by decide +kernel
theorem dX8_forge_284 : decode cX8_forge 284 = .ok (.bipush 12, 2) := by decide +kernel
theorem dX8_forge_286 : decode cX8_forge 286 = .ok (.invokevirtual 113, 3) := by decide +kernel
theorem dX8_forge_289 : decode cX8_forge 289 = .ok (.ireturn, 1) := by decide +kernel
theorem dX8_forge_290 : decode cX8_forge 290 = .ok (.aload_n 0, 1) := by decide +kernel
theorem dX8_forge_291 : decode cX8_forge 291 = .ok (.iload 5, 2) := by decide +kernel
theorem dX8_forge_293 : decode cX8_forge 293 = .ok (.iload_n 2, 1) := by decide +kernel
theorem dX8_forge_294 : decode cX8_forge 294 = .ok (.invokevirtual 340, 3) := by decide +kernel
theorem dX8_forge_297 : decode cX8_forge 297 = .ok (.ireturn, 1) := by decide +kernel
theorem dX8_forge_298 : decode cX8_forge 298 = .ok (.aload_n 0, 1) := by decide +kernel
theorem dX8_forge_299 : decode cX8_forge 299 = .ok (.iload 4, 2) := by decide +kernel
theorem dX8_forge_301 : decode cX8_forge 301 = .ok (.invokevirtual 142, 3) := by decide +kernel
theorem dX8_forge_304 : decode cX8_forge 304 = .ok (.ifCond .ne 9, 3) := by decide +kernel
theorem dX8_forge_307 : decode cX8_forge 307 = .ok (.aload_n 0, 1) := by decide +kernel
theorem dX8_forge_308 : decode cX8_forge 308 = .ok (.iconst 0, 1) := by decide +kernel
theorem dX8_forge_309 : decode cX8_forge 309 = .ok (.invokevirtual 117, 3) := by decide +kernel
theorem dX8_forge_312 : decode cX8_forge 312 = .ok (.ireturn, 1) := by decide +kernel
theorem dX8_forge_313 : decode cX8_forge 313 = .ok (.aload_n 0, 1) := by decide +kernel
theorem dX8_forge_314 : decode cX8_forge 314 = .ok (.getfield 13, 3) := by decide +kernel
theorem dX8_forge_317 : decode cX8_forge 317 = .ok (.iload 4, 2) := by decide +kernel
theorem dX8_forge_319 : decode cX8_forge 319 = .ok (.iaload, 1) := by decide +kernel
theorem dX8_forge_320 : decode cX8_forge 320 = .ok (.iconst 2, 1) := by decide +kernel
theorem dX8_forge_321 : decode cX8_forge 321 = .ok (.if_icmp .eq 14, 3) := by decide +kernel
theorem dX8_forge_324 : decode cX8_forge 324 = .ok (.aload_n 0, 1) := by decide +kernel
theorem dX8_forge_325 : decode cX8_forge 325 = .ok (.getfield 13, 3) := by decide +kernel
theorem dX8_forge_328 : decode cX8_forge 328 = .ok (.iload 4, 2) := by decide +kernel
theorem dX8_forge_330 : decode cX8_forge 330 = .ok (.iaload, 1) := by decide +kernel
theorem dX8_forge_331 : decode cX8_forge 331 = .ok (.iconst 3, 1) := by decide +kernel
theorem dX8_forge_332 : decode cX8_forge 332 = .ok (.if_icmp .ne 17, 3) := by decide +kernel
theorem dX8_forge_335 : decode cX8_forge 335 = .ok (.aload_n 0, 1) := by decide +kernel
theorem dX8_forge_336 : decode cX8_forge 336 = .ok (.aload_n 0, 1) := by decide +kernel
theorem dX8_forge_337 : decode cX8_forge 337 = .ok (.getfield 13, 3) := by decide +kernel
theorem dX8_forge_340 : decode cX8_forge 340 = .ok (.iload 4, 2) := by decide +kernel
theorem dX8_forge_342 : decode cX8_forge 342 = .ok (.iaload, 1) := by decide +kernel
theorem dX8_forge_343 : decode cX8_forge 343 = .ok (.invokevirtual 117, 3) := by decide +kernel
theorem dX8_forge_346 : decode cX8_forge 346 = .ok (.goto 9, 3) := by decide +kernel
theorem dX8_forge_349 : decode cX8_forge 349 = .ok (.aload_n 0, 1) := by decide +kernel
theorem dX8_forge_350 : decode cX8_forge 350 = .ok (.bipush 14, 2) := by decide +kernel
theorem dX8_forge_352 : decode cX8_forge 352 = .ok (.invokevirtual 113, 3) := by decide +kernel
theorem dX8_forge_355 : decode cX8_forge 355 = .ok (.ireturn, 1) := by decide +kernel
theorem dX8_forge_356 : decode cX8_forge 356 = .ok (.iload_n 2, 1) := by decide +kernel
theorem dX8_forge_357 : decode cX8_forge 357 = .ok (.ifCond .ne 12, 3) := by decide +kernel
theorem dX8_forge_360 : decode cX8_forge 360 = .ok (.aload_n 0, 1) := by decide +kernel
theorem dX8_forge_361 : decode cX8_forge 361 = .ok (.bipush 15, 2) := by decide +kernel
theorem dX8_forge_363 : decode cX8_forge 363 = .ok (.invokevirtual 113, 3) := by decide +kernel
theorem dX8_forge_366 : decode cX8_forge 366 = .ok (.goto 12, 3) := by decide +kernel
theorem dX8_forge_369 : decode cX8_forge 369 = .ok (.aload_n 0, 1) := by decide +kernel
theorem dX8_forge_370 : decode cX8_forge 370 = .ok (.sipush 1000, 3) := by decide +kernel
theorem dX8_forge_373 : decode cX8_forge 373 = .ok (.iload_n 2, 1) := by decide +kernel
theorem dX8_forge_374 : decode cX8_forge 374 = .ok (.idiv, 1) := by decide +kernel
theorem dX8_forge_375 : decode cX8_forge 375 = .ok (.invokevirtual 117, 3) := by decide +kernel
theorem dX8_forge_378 : decode cX8_forge 378 = .ok (.ireturn, 1) := by decide +kernel
theorem dX8_forge_379 : decode cX8_forge 379 = .ok (.iload_n 2, 1) := by decide +kernel
theorem dX8_forge_380 : decode cX8_forge 380 = .ok (.iconst 2, 1) := by decide +kernel
theorem dX8_forge_381 : decode cX8_forge 381 = .ok (.invokestatic 337, 3) := by decide +kernel
theorem dX8_forge_384 : decode cX8_forge 384 = .ok (.ifCond .ne 12, 3) := by decide +kernel
theorem dX8_forge_387 : decode cX8_forge 387 = .ok (.aload_n 0, 1) := by decide +kernel
theorem dX8_forge_388 : decode cX8_forge 388 = .ok (.bipush 10, 2) := by decide +kernel
theorem dX8_forge_390 : decode cX8_forge 390 = .ok (.invokevirtual 113, 3) := by decide +kernel
theorem dX8_forge_393 : decode cX8_forge 393 = .ok (.goto 8, 3) := by decide +kernel
theorem dX8_forge_396 : decode cX8_forge 396 = .ok (.aload_n 0, 1) := by decide +kernel
theorem dX8_forge_397 : decode cX8_forge 397 = .ok (.iconst 1, 1) := by decide +kernel
theorem dX8_forge_398 : decode cX8_forge 398 = .ok (.invokevirtual 117, 3) := by decide +kernel
theorem dX8_forge_401 : decode cX8_forge 401 = .ok (.ireturn, 1) := by decide +kernel
theorem dX8_copied_0 : decode cX8_copied 0 = .ok (.aload_n 0, 1) := by decide +kernel
theorem dX8_copied_1 : decode cX8_copied 1 = .ok (.getfield 100, 3) := by decide +kernel
theorem dX8_copied_4 : decode cX8_copied 4 = .ok (.iload_n 1, 1) := by decide +kernel
theorem dX8_copied_5 : decode cX8_copied 5 = .ok (.iaload, 1) := by decide +kernel
theorem dX8_copied_6 : decode cX8_copied 6 = .ok (.ifCond .ne 10, 3) := by decide +kernel
theorem dX8_copied_9 : decode cX8_copied 9 = .ok (.aload_n 0, 1) := by decide +kernel
theorem dX8_copied_10 : decode cX8_copied 10 = .ok (.bipush 10, 2) := by decide +kernel
theorem dX8_copied_12 : decode cX8_copied 12 = .ok (.invokevirtual 113, 3) := by decide +kernel
theorem dX8_copied_15 : decode cX8_copied 15 = .ok (.ireturn, 1) := by decide +kernel
theorem dX8_copied_16 : decode cX8_copied 16 = .ok (.aload_n 0, 1) := by decide +kernel
theorem dX8_copied_17 : decode cX8_copied 17 = .ok (.getfield 100, 3) := by decide +kernel
theorem dX8_copied_20 : decode cX8_copied 20 = .ok (.iload_n 1, 1) := by decide +kernel
theorem dX8_copied_21 : decode cX8_copied 21 = .ok (.iaload, 1) := by decide +kernel
theorem dX8_copied_22 : decode cX8_copied 22 = .ok (.iconst 1, 1) := by decide +kernel
theorem dX8_copied_23 : decode cX8_copied 23 = .ok (.if_icmp .eq 10, 3) := by decide +kernel
theorem dX8_copied_26 : decode cX8_copied 26 = .ok (.aload_n 0, 1) := by decide +kernel
theorem dX8_copied_27 : decode cX8_copied 27 = .ok (.bipush 11, 2) := by decide +kernel
theorem dX8_copied_29 : decode cX8_copied 29 = .ok (.invokevirtual 113, 3) := by decide +kernel
theorem dX8_copied_32 : decode cX8_copied 32 = .ok (.ireturn, 1) := by decide +kernel
theorem dX8_copied_33 : decode cX8_copied 33 = .ok (.iload_n 2, 1) := by decide +kernel
theorem dX8_copied_34 : decode cX8_copied 34 = .ok (.ifCond .lt 23, 3) := by decide +kernel
theorem dX8_copied_37 : decode cX8_copied 37 = .ok (.iload_n 2, 1) := by decide +kernel
theorem dX8_copied_38 : decode cX8_copied 38 = .ok (.iconst 1, 1) := by decide +kernel
theorem dX8_copied_39 : decode cX8_copied 39 = .ok (.iadd, 1) := by decide +kernel
theorem dX8_copied_40 : decode cX8_copied 40 = .ok (.aload_n 0, 1) := by decide +kernel
theorem dX8_copied_41 : decode cX8_copied 41 = .ok (.getfield 103, 3) := by decide +kernel
theorem dX8_copied_44 : decode cX8_copied 44 = .ok (.iload_n 1, 1) := by decide +kernel
theorem dX8_copied_45 : decode cX8_copied 45 = .ok (.iaload, 1) := by decide +kernel
theorem dX8_copied_46 : decode cX8_copied 46 = .ok (.if_icmp .gt 11, 3) := by decide +kernel
theorem dX8_copied_49 : decode cX8_copied 49 = .ok (.iload_n 2, 1) := by decide +kernel
theorem dX8_copied_50 : decode cX8_copied 50 = .ok (.iload_n 2, 1) := by decide +kernel
theorem dX8_copied_51 : decode cX8_copied 51 = .ok (.iadd, 1) := by decide +kernel
theorem dX8_copied_52 : decode cX8_copied 52 = .ok (.bipush 6, 2) := by decide +kernel
theorem dX8_copied_54 : decode cX8_copied 54 = .ok (.if_icmp .le 10, 3) := by decide +kernel
theorem dX8_copied_57 : decode cX8_copied 57 = .ok (.aload_n 0, 1) := by decide +kernel
theorem dX8_copied_58 : decode cX8_copied 58 = .ok (.bipush 12, 2) := by decide +kernel
theorem dX8_copied_60 : decode cX8_copied 60 = .ok (.invokevirtual 113, 3) := by decide +kernel
theorem dX8_copied_63 : decode cX8_copied 63 = .ok (.ireturn, 1) := by decide +kernel
theorem dX8_copied_64 : decode cX8_copied 64 = .ok (.iconst 0, 1) := by decide +kernel
theorem dX8_copied_65 : decode cX8_copied 65 = .ok (.istore_n 3, 1) := by decide +kernel
theorem dX8_copied_66 : decode cX8_copied 66 = .ok (.iconst 1, 1) := by decide +kernel
theorem dX8_copied_67 : decode cX8_copied 67 = .ok (.istore 4, 2) := by decide +kernel
theorem dX8_copied_69 : decode cX8_copied 69 = .ok (.iload 4, 2) := by decide +kernel
theorem dX8_copied_71 : decode cX8_copied 71 = .ok (.iload_n 2, 1) := by decide +kernel
theorem dX8_copied_72 : decode cX8_copied 72 = .ok (.if_icmp .gt 24, 3) := by decide +kernel
theorem dX8_copied_75 : decode cX8_copied 75 = .ok (.iload_n 3, 1) := by decide +kernel
theorem dX8_copied_76 : decode cX8_copied 76 = .ok (.aload_n 0, 1) := by decide +kernel
theorem dX8_copied_77 : decode cX8_copied 77 = .ok (.getfield 106, 3) := by decide +kernel
theorem dX8_copied_80 : decode cX8_copied 80 = .ok (.bipush 40, 2) := by decide +kernel
theorem dX8_copied_82 : decode cX8_copied 82 = .ok (.iload_n 1, 1) := by decide +kernel
theorem dX8_copied_83 : decode cX8_copied 83 = .ok (.imul, 1) := by decide +kernel
theorem dX8_copied_84 : decode cX8_copied 84 = .ok (.iload 4, 2) := by decide +kernel
theorem dX8_copied_86 : decode cX8_copied 86 = .ok (.iadd, 1) := by decide +kernel
theorem dX8_copied_87 : decode cX8_copied 87 = .ok (.iaload, 1) := by decide +kernel
theorem dX8_copied_88 : decode cX8_copied 88 = .ok (.iadd, 1) := by decide +kernel
theorem dX8_copied_89 : decode cX8_copied 89 = .ok (.istore_n 3, 1) := by decide +kernel
theorem dX8_copied_90 : decode cX8_copied 90 = .ok (.iinc 4 1, 3) := by decide +kernel
theorem dX8_copied_93 : decode cX8_copied 93 = .ok (.goto (-24), 3) := by decide +kernel
theorem dX8_copied_96 : decode cX8_copied 96 = .ok (.aload_n 0, 1) := by decide +kernel
theorem dX8_copied_97 : decode cX8_copied 97 = .ok (.iload_n 3, 1) := by decide +kernel
theorem dX8_copied_98 : decode cX8_copied 98 = .ok (.invokevirtual 117, 3) := by decide +kernel
theorem dX8_copied_101 : decode cX8_copied 101 = .ok (.ireturn, 1) := by decide +kernel
theorem dX8_status_0 : decode cX8_status 0 = .ok (.aload_n 0, 1) := by decide +kernel
theorem dX8_status_1 : decode cX8_status 1 = .ok (.getfield 109, 3) := by decide +kernel
theorem dX8_status_4 : decode cX8_status 4 = .ok (.ireturn, 1) := by decide +kernel
theorem dJ6_bitCount_0f7a4_0 : decode cJ6_bitCount_0f7a4 0 = .ok (.iload_n 0, 1) := by decide +kernel
theorem dJ6_bitCount_0f7a4_1 : decode cJ6_bitCount_0f7a4 1 = .ok (.iload_n 0, 1) := by decide +kernel
theorem dJ6_bitCount_0f7a4_2 : decode cJ6_bitCount_0f7a4 2 = .ok (.iconst 1, 1) := by decide +kernel
theorem dJ6_bitCount_0f7a4_3 : decode cJ6_bitCount_0f7a4 3 = .ok (.iushr, 1) := by decide +kernel
theorem dJ6_bitCount_0f7a4_4 : decode cJ6_bitCount_0f7a4 4 = .ok (.ldc_w 265, 3) := by decide +kernel
theorem dJ6_bitCount_0f7a4_7 : decode cJ6_bitCount_0f7a4 7 = .ok (.iand, 1) := by decide +kernel
theorem dJ6_bitCount_0f7a4_8 : decode cJ6_bitCount_0f7a4 8 = .ok (.isub, 1) := by decide +kernel
theorem dJ6_bitCount_0f7a4_9 : decode cJ6_bitCount_0f7a4 9 = .ok (.istore_n 0, 1) := by decide +kernel
theorem dJ6_bitCount_0f7a4_10 : decode cJ6_bitCount_0f7a4 10 = .ok (.iload_n 0, 1) := by decide +kernel
theorem dJ6_bitCount_0f7a4_11 : decode cJ6_bitCount_0f7a4 11 = .ok (.ldc_w 266, 3) := by decide +kernel
theorem dJ6_bitCount_0f7a4_14 : decode cJ6_bitCount_0f7a4 14 = .ok (.iand, 1) := by decide +kernel
theorem dJ6_bitCount_0f7a4_15 : decode cJ6_bitCount_0f7a4 15 = .ok (.iload_n 0, 1) := by decide +kernel
theorem dJ6_bitCount_0f7a4_16 : decode cJ6_bitCount_0f7a4 16 = .ok (.iconst 2, 1) := by decide +kernel
theorem dJ6_bitCount_0f7a4_17 : decode cJ6_bitCount_0f7a4 17 = .ok (.iushr, 1) := by decide +kernel
theorem dJ6_bitCount_0f7a4_18 : decode cJ6_bitCount_0f7a4 18 = .ok (.ldc_w 266, 3) := by decide +kernel
theorem dJ6_bitCount_0f7a4_21 : decode cJ6_bitCount_0f7a4 21 = .ok (.iand, 1) := by decide +kernel
theorem dJ6_bitCount_0f7a4_22 : decode cJ6_bitCount_0f7a4 22 = .ok (.iadd, 1) := by decide +kernel
theorem dJ6_bitCount_0f7a4_23 : decode cJ6_bitCount_0f7a4 23 = .ok (.istore_n 0, 1) := by decide +kernel
theorem dJ6_bitCount_0f7a4_24 : decode cJ6_bitCount_0f7a4 24 = .ok (.iload_n 0, 1) := by decide +kernel
theorem dJ6_bitCount_0f7a4_25 : decode cJ6_bitCount_0f7a4 25 = .ok (.iload_n 0, 1) := by decide +kernel
theorem dJ6_bitCount_0f7a4_26 : decode cJ6_bitCount_0f7a4 26 = .ok (.iconst 4, 1) := by decide +kernel
theorem dJ6_bitCount_0f7a4_27 : decode cJ6_bitCount_0f7a4 27 = .ok (.iushr, 1) := by decide +kernel
theorem dJ6_bitCount_0f7a4_28 : decode cJ6_bitCount_0f7a4 28 = .ok (.iadd, 1) := by decide +kernel
theorem dJ6_bitCount_0f7a4_29 : decode cJ6_bitCount_0f7a4 29 = .ok (.ldc_w 267, 3) := by decide +kernel
theorem dJ6_bitCount_0f7a4_32 : decode cJ6_bitCount_0f7a4 32 = .ok (.iand, 1) := by decide +kernel
theorem dJ6_bitCount_0f7a4_33 : decode cJ6_bitCount_0f7a4 33 = .ok (.istore_n 0, 1) := by decide +kernel
theorem dJ6_bitCount_0f7a4_34 : decode cJ6_bitCount_0f7a4 34 = .ok (.iload_n 0, 1) := by decide +kernel
theorem dJ6_bitCount_0f7a4_35 : decode cJ6_bitCount_0f7a4 35 = .ok (.iload_n 0, 1) := by decide +kernel
theorem dJ6_bitCount_0f7a4_36 : decode cJ6_bitCount_0f7a4 36 = .ok (.bipush 8, 2) := by decide +kernel
theorem dJ6_bitCount_0f7a4_38 : decode cJ6_bitCount_0f7a4 38 = .ok (.iushr, 1) := by decide +kernel
theorem dJ6_bitCount_0f7a4_39 : decode cJ6_bitCount_0f7a4 39 = .ok (.iadd, 1) := by decide +kernel
theorem dJ6_bitCount_0f7a4_40 : decode cJ6_bitCount_0f7a4 40 = .ok (.istore_n 0, 1) := by decide +kernel
theorem dJ6_bitCount_0f7a4_41 : decode cJ6_bitCount_0f7a4 41 = .ok (.iload_n 0, 1) := by decide +kernel
theorem dJ6_bitCount_0f7a4_42 : decode cJ6_bitCount_0f7a4 42 = .ok (.iload_n 0, 1) := by decide +kernel
theorem dJ6_bitCount_0f7a4_43 : decode cJ6_bitCount_0f7a4 43 = .ok (.bipush 16, 2) := by decide +kernel
theorem dJ6_bitCount_0f7a4_45 : decode cJ6_bitCount_0f7a4 45 = .ok (.iushr, 1) := by decide +kernel
theorem dJ6_bitCount_0f7a4_46 : decode cJ6_bitCount_0f7a4 46 = .ok (.iadd, 1) := by decide +kernel
theorem dJ6_bitCount_0f7a4_47 : decode cJ6_bitCount_0f7a4 47 = .ok (.istore_n 0, 1) := by decide +kernel
theorem dJ6_bitCount_0f7a4_48 : decode cJ6_bitCount_0f7a4 48 = .ok (.iload_n 0, 1) := by decide +kernel
theorem dJ6_bitCount_0f7a4_49 : decode cJ6_bitCount_0f7a4 49 = .ok (.bipush 63, 2) := by decide +kernel
theorem dJ6_bitCount_0f7a4_51 : decode cJ6_bitCount_0f7a4 51 = .ok (.iand, 1) := by decide +kernel
theorem dJ6_bitCount_0f7a4_52 : decode cJ6_bitCount_0f7a4 52 = .ok (.ireturn, 1) := by decide +kernel
theorem dJ9_floorMod_7cf53_0 : decode cJ9_floorMod_7cf53 0 = .ok (.iload_n 0, 1) := by decide +kernel
theorem dJ9_floorMod_7cf53_1 : decode cJ9_floorMod_7cf53 1 = .ok (.iload_n 1, 1) := by decide +kernel
theorem dJ9_floorMod_7cf53_2 : decode cJ9_floorMod_7cf53 2 = .ok (.irem, 1) := by decide +kernel
theorem dJ9_floorMod_7cf53_3 : decode cJ9_floorMod_7cf53 3 = .ok (.istore_n 2, 1) := by decide +kernel
theorem dJ9_floorMod_7cf53_4 : decode cJ9_floorMod_7cf53 4 = .ok (.iload_n 0, 1) := by decide +kernel
theorem dJ9_floorMod_7cf53_5 : decode cJ9_floorMod_7cf53 5 = .ok (.iload_n 1, 1) := by decide +kernel
theorem dJ9_floorMod_7cf53_6 : decode cJ9_floorMod_7cf53 6 = .ok (.ixor, 1) := by decide +kernel
theorem dJ9_floorMod_7cf53_7 : decode cJ9_floorMod_7cf53 7 = .ok (.ifCond .ge 11, 3) := by decide +kernel
theorem dJ9_floorMod_7cf53_10 : decode cJ9_floorMod_7cf53 10 = .ok (.iload_n 2, 1) := by decide +kernel
theorem dJ9_floorMod_7cf53_11 : decode cJ9_floorMod_7cf53 11 = .ok (.ifCond .eq 7, 3) := by decide +kernel
theorem dJ9_floorMod_7cf53_14 : decode cJ9_floorMod_7cf53 14 = .ok (.iload_n 2, 1) := by decide +kernel
theorem dJ9_floorMod_7cf53_15 : decode cJ9_floorMod_7cf53 15 = .ok (.iload_n 1, 1) := by decide +kernel
theorem dJ9_floorMod_7cf53_16 : decode cJ9_floorMod_7cf53 16 = .ok (.iadd, 1) := by decide +kernel
theorem dJ9_floorMod_7cf53_17 : decode cJ9_floorMod_7cf53 17 = .ok (.ireturn, 1) := by decide +kernel
theorem dJ9_floorMod_7cf53_18 : decode cJ9_floorMod_7cf53 18 = .ok (.iload_n 2, 1) := by decide +kernel
theorem dJ9_floorMod_7cf53_19 : decode cJ9_floorMod_7cf53 19 = .ok (.ireturn, 1) := by decide +kernel
theorem dJ9_min_7cf53_0 : decode cJ9_min_7cf53 0 = .ok (.iload_n 0, 1) := by decide +kernel
theorem dJ9_min_7cf53_1 : decode cJ9_min_7cf53 1 = .ok (.iload_n 1, 1) := by decide +kernel
theorem dJ9_min_7cf53_2 : decode cJ9_min_7cf53 2 = .ok (.if_icmp .gt 7, 3) := by decide +kernel
theorem dJ9_min_7cf53_5 : decode cJ9_min_7cf53 5 = .ok (.iload_n 0, 1) := by decide +kernel
theorem dJ9_min_7cf53_6 : decode cJ9_min_7cf53 6 = .ok (.goto 4, 3) := by decide +kernel
theorem dJ9_min_7cf53_9 : decode cJ9_min_7cf53 9 = .ok (.iload_n 1, 1) := by decide +kernel
theorem dJ9_min_7cf53_10 : decode cJ9_min_7cf53 10 = .ok (.ireturn, 1) := by decide +kernel
theorem dL_law_0 : decode cL_law 0 = .ok (.new 7, 3) := by decide +kernel
theorem dL_law_3 : decode cL_law 3 = .ok (.dup, 1) := by decide +kernel
theorem dL_law_4 : decode cL_law 4 = .ok (.invokespecial 9, 3) := by decide +kernel
theorem dL_law_7 : decode cL_law 7 = .ok (.astore_n 1, 1) := by decide +kernel
theorem dL_law_8 : decode cL_law 8 = .ok (.new 10, 3) := by decide +kernel
theorem dL_law_11 : decode cL_law 11 = .ok (.dup, 1) := by decide +kernel
theorem dL_law_12 : decode cL_law 12 = .ok (.invokespecial 12, 3) := by decide +kernel
theorem dL_law_15 : decode cL_law 15 = .ok (.astore_n 2, 1) := by decide +kernel
theorem dL_law_16 : decode cL_law 16 = .ok (.iconst 0, 1) := by decide +kernel
theorem dL_law_17 : decode cL_law 17 = .ok (.istore_n 3, 1) := by decide +kernel
theorem dL_law_18 : decode cL_law 18 = .ok (.iload_n 3, 1) := by decide +kernel
theorem dL_law_19 : decode cL_law 19 = .ok (.aload_n 0, 1) := by decide +kernel
theorem dL_law_20 : decode cL_law 20 = .ok (.arraylength, 1) := by decide +kernel
theorem dL_law_21 : decode cL_law 21 = .ok (.bipush 7, 2) := by decide +kernel
theorem dL_law_23 : decode cL_law 23 = .ok (.isub, 1) := by decide +kernel
theorem dL_law_24 : decode cL_law 24 = .ok (.if_icmp .gt 1188, 3) := by decide +kernel
theorem dL_law_27 : decode cL_law 27 = .ok (.aload_n 0, 1) := by decide +kernel
theorem dL_law_28 : decode cL_law 28 = .ok (.iload_n 3, 1) := by decide +kernel
theorem dL_law_29 : decode cL_law 29 = .ok (.iaload, 1) := by decide +kernel
theorem dL_law_30 : decode cL_law 30 = .ok (.bipush 31, 2) := by decide +kernel
theorem dL_law_32 : decode cL_law 32 = .ok (.iand, 1) := by decide +kernel
theorem dL_law_33 : decode cL_law 33 = .ok (.tableswitch 1173 0 29 #[135, 148, 211, 260, 293, 326, 349, 372, 385, 398, 411, 444, 477, 510, 543, 576, 609, 642, 675, 738, 761, 824, 899, 922, 965, 988, 1031, 1074, 1117, 1160], 135) := by decide +kernel
theorem dL_law_168 : decode cL_law 168 = .ok (.aload_n 1, 1) := by decide +kernel
theorem dL_law_169 : decode cL_law 169 = .ok (.invokevirtual 13, 3) := by decide +kernel
theorem dL_law_172 : decode cL_law 172 = .ok (.aload_n 2, 1) := by decide +kernel
theorem dL_law_173 : decode cL_law 173 = .ok (.invokevirtual 17, 3) := by decide +kernel
theorem dL_law_176 : decode cL_law 176 = .ok (.if_icmp .eq 1030, 3) := by decide +kernel
theorem dL_law_179 : decode cL_law 179 = .ok (.iconst 0, 1) := by decide +kernel
theorem dL_law_180 : decode cL_law 180 = .ok (.ireturn, 1) := by decide +kernel
theorem dL_law_181 : decode cL_law 181 = .ok (.aload_n 1, 1) := by decide +kernel
theorem dL_law_182 : decode cL_law 182 = .ok (.aload_n 0, 1) := by decide +kernel
theorem dL_law_183 : decode cL_law 183 = .ok (.iload_n 3, 1) := by decide +kernel
theorem dL_law_184 : decode cL_law 184 = .ok (.iconst 1, 1) := by decide +kernel
theorem dL_law_185 : decode cL_law 185 = .ok (.iadd, 1) := by decide +kernel
theorem dL_law_186 : decode cL_law 186 = .ok (.iaload, 1) := by decide +kernel
theorem dL_law_187 : decode cL_law 187 = .ok (.aload_n 0, 1) := by decide +kernel
theorem dL_law_188 : decode cL_law 188 = .ok (.iload_n 3, 1) := by decide +kernel
theorem dL_law_189 : decode cL_law 189 = .ok (.iconst 2, 1) := by decide +kernel
theorem dL_law_190 : decode cL_law 190 = .ok (.iadd, 1) := by decide +kernel
theorem dL_law_191 : decode cL_law 191 = .ok (.iaload, 1) := by decide +kernel
theorem dL_law_192 : decode cL_law 192 = .ok (.aload_n 0, 1) := by decide +kernel
theorem dL_law_193 : decode cL_law 193 = .ok (.iload_n 3, 1) := by decide +kernel
theorem dL_law_194 : decode cL_law 194 = .ok (.iconst 3, 1) := by decide +kernel
theorem dL_law_195 : decode cL_law 195 = .ok (.iadd, 1) := by decide +kernel
theorem dL_law_196 : decode cL_law 196 = .ok (.iaload, 1) := by decide +kernel
theorem dL_law_197 : decode cL_law 197 = .ok (.aload_n 0, 1) := by decide +kernel
theorem dL_law_198 : decode cL_law 198 = .ok (.iload_n 3, 1) := by decide +kernel
theorem dL_law_199 : decode cL_law 199 = .ok (.iconst 4, 1) := by decide +kernel
theorem dL_law_200 : decode cL_law 200 = .ok (.iadd, 1) := by decide +kernel
theorem dL_law_201 : decode cL_law 201 = .ok (.iaload, 1) := by decide +kernel
theorem dL_law_202 : decode cL_law 202 = .ok (.aload_n 0, 1) := by decide +kernel
theorem dL_law_203 : decode cL_law 203 = .ok (.iload_n 3, 1) := by decide +kernel
theorem dL_law_204 : decode cL_law 204 = .ok (.iconst 5, 1) := by decide +kernel
theorem dL_law_205 : decode cL_law 205 = .ok (.iadd, 1) := by decide +kernel
theorem dL_law_206 : decode cL_law 206 = .ok (.iaload, 1) := by decide +kernel
theorem dL_law_207 : decode cL_law 207 = .ok (.invokevirtual 18, 3) := by decide +kernel
theorem dL_law_210 : decode cL_law 210 = .ok (.aload_n 2, 1) := by decide +kernel
theorem dL_law_211 : decode cL_law 211 = .ok (.aload_n 0, 1) := by decide +kernel
theorem dL_law_212 : decode cL_law 212 = .ok (.iload_n 3, 1) := by decide +kernel
theorem dL_law_213 : decode cL_law 213 = .ok (.iconst 1, 1) := by decide +kernel
theorem dL_law_214 : decode cL_law 214 = .ok (.iadd, 1) := by decide +kernel
theorem dL_law_215 : decode cL_law 215 = .ok (.iaload, 1) := by decide +kernel
theorem dL_law_216 : decode cL_law 216 = .ok (.aload_n 0, 1) := by decide +kernel
theorem dL_law_217 : decode cL_law 217 = .ok (.iload_n 3, 1) := by decide +kernel
theorem dL_law_218 : decode cL_law 218 = .ok (.iconst 2, 1) := by decide +kernel
theorem dL_law_219 : decode cL_law 219 = .ok (.iadd, 1) := by decide +kernel
theorem dL_law_220 : decode cL_law 220 = .ok (.iaload, 1) := by decide +kernel
theorem dL_law_221 : decode cL_law 221 = .ok (.aload_n 0, 1) := by decide +kernel
theorem dL_law_222 : decode cL_law 222 = .ok (.iload_n 3, 1) := by decide +kernel
theorem dL_law_223 : decode cL_law 223 = .ok (.iconst 3, 1) := by decide +kernel
theorem dL_law_224 : decode cL_law 224 = .ok (.iadd, 1) := by decide +kernel
theorem dL_law_225 : decode cL_law 225 = .ok (.iaload, 1) := by decide +kernel
theorem dL_law_226 : decode cL_law 226 = .ok (.aload_n 0, 1) := by decide +kernel
theorem dL_law_227 : decode cL_law 227 = .ok (.iload_n 3, 1) := by decide +kernel
theorem dL_law_228 : decode cL_law 228 = .ok (.iconst 4, 1) := by decide +kernel
theorem dL_law_229 : decode cL_law 229 = .ok (.iadd, 1) := by decide +kernel
theorem dL_law_230 : decode cL_law 230 = .ok (.iaload, 1) := by decide +kernel
theorem dL_law_231 : decode cL_law 231 = .ok (.aload_n 0, 1) := by decide +kernel
theorem dL_law_232 : decode cL_law 232 = .ok (.iload_n 3, 1) := by decide +kernel
theorem dL_law_233 : decode cL_law 233 = .ok (.iconst 5, 1) := by decide +kernel
theorem dL_law_234 : decode cL_law 234 = .ok (.iadd, 1) := by decide +kernel
theorem dL_law_235 : decode cL_law 235 = .ok (.iaload, 1) := by decide +kernel
theorem dL_law_236 : decode cL_law 236 = .ok (.invokevirtual 22, 3) := by decide +kernel
theorem dL_law_239 : decode cL_law 239 = .ok (.if_icmp .eq 967, 3) := by decide +kernel
theorem dL_law_242 : decode cL_law 242 = .ok (.iconst 0, 1) := by decide +kernel
theorem dL_law_243 : decode cL_law 243 = .ok (.ireturn, 1) := by decide +kernel
theorem dL_law_244 : decode cL_law 244 = .ok (.aload_n 1, 1) := by decide +kernel
theorem dL_law_245 : decode cL_law 245 = .ok (.aload_n 0, 1) := by decide +kernel
theorem dL_law_246 : decode cL_law 246 = .ok (.iload_n 3, 1) := by decide +kernel
theorem dL_law_247 : decode cL_law 247 = .ok (.iconst 1, 1) := by decide +kernel
theorem dL_law_248 : decode cL_law 248 = .ok (.iadd, 1) := by decide +kernel
theorem dL_law_249 : decode cL_law 249 = .ok (.iaload, 1) := by decide +kernel
theorem dL_law_250 : decode cL_law 250 = .ok (.aload_n 0, 1) := by decide +kernel
theorem dL_law_251 : decode cL_law 251 = .ok (.iload_n 3, 1) := by decide +kernel
theorem dL_law_252 : decode cL_law 252 = .ok (.iconst 2, 1) := by decide +kernel
theorem dL_law_253 : decode cL_law 253 = .ok (.iadd, 1) := by decide +kernel
theorem dL_law_254 : decode cL_law 254 = .ok (.iaload, 1) := by decide +kernel
theorem dL_law_255 : decode cL_law 255 = .ok (.ifCond .eq 7, 3) := by decide +kernel
theorem dL_law_258 : decode cL_law 258 = .ok (.iconst 1, 1) := by decide +kernel
theorem dL_law_259 : decode cL_law 259 = .ok (.goto 4, 3) := by decide +kernel
theorem dL_law_262 : decode cL_law 262 = .ok (.iconst 0, 1) := by decide +kernel
theorem dL_law_263 : decode cL_law 263 = .ok (.invokevirtual 23, 3) := by decide +kernel
theorem dL_law_266 : decode cL_law 266 = .ok (.aload_n 2, 1) := by decide +kernel
theorem dL_law_267 : decode cL_law 267 = .ok (.aload_n 0, 1) := by decide +kernel
theorem dL_law_268 : decode cL_law 268 = .ok (.iload_n 3, 1) := by decide +kernel
theorem dL_law_269 : decode cL_law 269 = .ok (.iconst 1, 1) := by decide +kernel
theorem dL_law_270 : decode cL_law 270 = .ok (.iadd, 1) := by decide +kernel
theorem dL_law_271 : decode cL_law 271 = .ok (.iaload, 1) := by decide +kernel
theorem dL_law_272 : decode cL_law 272 = .ok (.aload_n 0, 1) := by decide +kernel
theorem dL_law_273 : decode cL_law 273 = .ok (.iload_n 3, 1) := by decide +kernel
theorem dL_law_274 : decode cL_law 274 = .ok (.iconst 2, 1) := by decide +kernel
theorem dL_law_275 : decode cL_law 275 = .ok (.iadd, 1) := by decide +kernel
theorem dL_law_276 : decode cL_law 276 = .ok (.iaload, 1) := by decide +kernel
theorem dL_law_277 : decode cL_law 277 = .ok (.ifCond .eq 7, 3) := by decide +kernel
theorem dL_law_280 : decode cL_law 280 = .ok (.iconst 1, 1) := by decide +kernel
theorem dL_law_281 : decode cL_law 281 = .ok (.goto 4, 3) := by decide +kernel
theorem dL_law_284 : decode cL_law 284 = .ok (.iconst 0, 1) := by decide +kernel
theorem dL_law_285 : decode cL_law 285 = .ok (.invokevirtual 27, 3) := by decide +kernel
theorem dL_law_288 : decode cL_law 288 = .ok (.if_icmp .eq 918, 3) := by decide +kernel
theorem dL_law_291 : decode cL_law 291 = .ok (.iconst 0, 1) := by decide +kernel
theorem dL_law_292 : decode cL_law 292 = .ok (.ireturn, 1) := by decide +kernel
theorem dL_law_293 : decode cL_law 293 = .ok (.aload_n 1, 1) := by decide +kernel
theorem dL_law_294 : decode cL_law 294 = .ok (.aload_n 0, 1) := by decide +kernel
theorem dL_law_295 : decode cL_law 295 = .ok (.iload_n 3, 1) := by decide +kernel
theorem dL_law_296 : decode cL_law 296 = .ok (.iconst 1, 1) := by decide +kernel
theorem dL_law_297 : decode cL_law 297 = .ok (.iadd, 1) := by decide +kernel
theorem dL_law_298 : decode cL_law 298 = .ok (.iaload, 1) := by decide +kernel
theorem dL_law_299 : decode cL_law 299 = .ok (.aload_n 0, 1) := by decide +kernel
theorem dL_law_300 : decode cL_law 300 = .ok (.iload_n 3, 1) := by decide +kernel
theorem dL_law_301 : decode cL_law 301 = .ok (.iconst 2, 1) := by decide +kernel
theorem dL_law_302 : decode cL_law 302 = .ok (.iadd, 1) := by decide +kernel
theorem dL_law_303 : decode cL_law 303 = .ok (.iaload, 1) := by decide +kernel
theorem dL_law_304 : decode cL_law 304 = .ok (.invokevirtual 28, 3) := by decide +kernel
theorem dL_law_307 : decode cL_law 307 = .ok (.aload_n 2, 1) := by decide +kernel
theorem dL_law_308 : decode cL_law 308 = .ok (.aload_n 0, 1) := by decide +kernel
theorem dL_law_309 : decode cL_law 309 = .ok (.iload_n 3, 1) := by decide +kernel
theorem dL_law_310 : decode cL_law 310 = .ok (.iconst 1, 1) := by decide +kernel
theorem dL_law_311 : decode cL_law 311 = .ok (.iadd, 1) := by decide +kernel
theorem dL_law_312 : decode cL_law 312 = .ok (.iaload, 1) := by decide +kernel
theorem dL_law_313 : decode cL_law 313 = .ok (.aload_n 0, 1) := by decide +kernel
theorem dL_law_314 : decode cL_law 314 = .ok (.iload_n 3, 1) := by decide +kernel
theorem dL_law_315 : decode cL_law 315 = .ok (.iconst 2, 1) := by decide +kernel
theorem dL_law_316 : decode cL_law 316 = .ok (.iadd, 1) := by decide +kernel
theorem dL_law_317 : decode cL_law 317 = .ok (.iaload, 1) := by decide +kernel
theorem dL_law_318 : decode cL_law 318 = .ok (.invokevirtual 32, 3) := by decide +kernel
theorem dL_law_321 : decode cL_law 321 = .ok (.if_icmp .eq 885, 3) := by decide +kernel
theorem dL_law_324 : decode cL_law 324 = .ok (.iconst 0, 1) := by decide +kernel
theorem dL_law_325 : decode cL_law 325 = .ok (.ireturn, 1) := by decide +kernel
theorem dL_law_326 : decode cL_law 326 = .ok (.aload_n 1, 1) := by decide +kernel
theorem dL_law_327 : decode cL_law 327 = .ok (.aload_n 0, 1) := by decide +kernel
theorem dL_law_328 : decode cL_law 328 = .ok (.iload_n 3, 1) := by decide +kernel
theorem dL_law_329 : decode cL_law 329 = .ok (.iconst 1, 1) := by decide +kernel
theorem dL_law_330 : decode cL_law 330 = .ok (.iadd, 1) := by decide +kernel
theorem dL_law_331 : decode cL_law 331 = .ok (.iaload, 1) := by decide +kernel
theorem dL_law_332 : decode cL_law 332 = .ok (.aload_n 0, 1) := by decide +kernel
theorem dL_law_333 : decode cL_law 333 = .ok (.iload_n 3, 1) := by decide +kernel
theorem dL_law_334 : decode cL_law 334 = .ok (.iconst 2, 1) := by decide +kernel
theorem dL_law_335 : decode cL_law 335 = .ok (.iadd, 1) := by decide +kernel
theorem dL_law_336 : decode cL_law 336 = .ok (.iaload, 1) := by decide +kernel
theorem dL_law_337 : decode cL_law 337 = .ok (.invokevirtual 33, 3) := by decide +kernel
theorem dL_law_340 : decode cL_law 340 = .ok (.aload_n 2, 1) := by decide +kernel
theorem dL_law_341 : decode cL_law 341 = .ok (.aload_n 0, 1) := by decide +kernel
theorem dL_law_342 : decode cL_law 342 = .ok (.iload_n 3, 1) := by decide +kernel
theorem dL_law_343 : decode cL_law 343 = .ok (.iconst 1, 1) := by decide +kernel
theorem dL_law_344 : decode cL_law 344 = .ok (.iadd, 1) := by decide +kernel
theorem dL_law_345 : decode cL_law 345 = .ok (.iaload, 1) := by decide +kernel
theorem dL_law_346 : decode cL_law 346 = .ok (.aload_n 0, 1) := by decide +kernel
theorem dL_law_347 : decode cL_law 347 = .ok (.iload_n 3, 1) := by decide +kernel
theorem dL_law_348 : decode cL_law 348 = .ok (.iconst 2, 1) := by decide +kernel
theorem dL_law_349 : decode cL_law 349 = .ok (.iadd, 1) := by decide +kernel
theorem dL_law_350 : decode cL_law 350 = .ok (.iaload, 1) := by decide +kernel
theorem dL_law_351 : decode cL_law 351 = .ok (.invokevirtual 36, 3) := by decide +kernel
theorem dL_law_354 : decode cL_law 354 = .ok (.if_icmp .eq 852, 3) := by decide +kernel
theorem dL_law_357 : decode cL_law 357 = .ok (.iconst 0, 1) := by decide +kernel
theorem dL_law_358 : decode cL_law 358 = .ok (.ireturn, 1) := by decide +kernel
theorem dL_law_359 : decode cL_law 359 = .ok (.aload_n 1, 1) := by decide +kernel
theorem dL_law_360 : decode cL_law 360 = .ok (.aload_n 0, 1) := by decide +kernel
theorem dL_law_361 : decode cL_law 361 = .ok (.iload_n 3, 1) := by decide +kernel
theorem dL_law_362 : decode cL_law 362 = .ok (.iconst 1, 1) := by decide +kernel
theorem dL_law_363 : decode cL_law 363 = .ok (.iadd, 1) := by decide +kernel
theorem dL_law_364 : decode cL_law 364 = .ok (.iaload, 1) := by decide +kernel
theorem dL_law_365 : decode cL_law 365 = .ok (.invokevirtual 37, 3) := by decide +kernel
theorem dL_law_368 : decode cL_law 368 = .ok (.aload_n 2, 1) := by decide +kernel
theorem dL_law_369 : decode cL_law 369 = .ok (.aload_n 0, 1) := by decide +kernel
theorem dL_law_370 : decode cL_law 370 = .ok (.iload_n 3, 1) := by decide +kernel
theorem dL_law_371 : decode cL_law 371 = .ok (.iconst 1, 1) := by decide +kernel
theorem dL_law_372 : decode cL_law 372 = .ok (.iadd, 1) := by decide +kernel
theorem dL_law_373 : decode cL_law 373 = .ok (.iaload, 1) := by decide +kernel
theorem dL_law_374 : decode cL_law 374 = .ok (.invokevirtual 41, 3) := by decide +kernel
theorem dL_law_377 : decode cL_law 377 = .ok (.if_icmp .eq 829, 3) := by decide +kernel
theorem dL_law_380 : decode cL_law 380 = .ok (.iconst 0, 1) := by decide +kernel
theorem dL_law_381 : decode cL_law 381 = .ok (.ireturn, 1) := by decide +kernel
theorem dL_law_382 : decode cL_law 382 = .ok (.aload_n 1, 1) := by decide +kernel
theorem dL_law_383 : decode cL_law 383 = .ok (.aload_n 0, 1) := by decide +kernel
theorem dL_law_384 : decode cL_law 384 = .ok (.iload_n 3, 1) := by decide +kernel
theorem dL_law_385 : decode cL_law 385 = .ok (.iconst 1, 1) := by decide +kernel
theorem dL_law_386 : decode cL_law 386 = .ok (.iadd, 1) := by decide +kernel
theorem dL_law_387 : decode cL_law 387 = .ok (.iaload, 1) := by decide +kernel
theorem dL_law_388 : decode cL_law 388 = .ok (.invokevirtual 42, 3) := by decide +kernel
theorem dL_law_391 : decode cL_law 391 = .ok (.aload_n 2, 1) := by decide +kernel
theorem dL_law_392 : decode cL_law 392 = .ok (.aload_n 0, 1) := by decide +kernel
theorem dL_law_393 : decode cL_law 393 = .ok (.iload_n 3, 1) := by decide +kernel
theorem dL_law_394 : decode cL_law 394 = .ok (.iconst 1, 1) := by decide +kernel
theorem dL_law_395 : decode cL_law 395 = .ok (.iadd, 1) := by decide +kernel
theorem dL_law_396 : decode cL_law 396 = .ok (.iaload, 1) := by decide +kernel
theorem dL_law_397 : decode cL_law 397 = .ok (.invokevirtual 45, 3) := by decide +kernel
theorem dL_law_400 : decode cL_law 400 = .ok (.if_icmp .eq 806, 3) := by decide +kernel
theorem dL_law_403 : decode cL_law 403 = .ok (.iconst 0, 1) := by decide +kernel
theorem dL_law_404 : decode cL_law 404 = .ok (.ireturn, 1) := by decide +kernel
theorem dL_law_405 : decode cL_law 405 = .ok (.aload_n 1, 1) := by decide +kernel
theorem dL_law_406 : decode cL_law 406 = .ok (.invokevirtual 46, 3) := by decide +kernel
theorem dL_law_409 : decode cL_law 409 = .ok (.aload_n 2, 1) := by decide +kernel
theorem dL_law_410 : decode cL_law 410 = .ok (.invokevirtual 49, 3) := by decide +kernel
theorem dL_law_413 : decode cL_law 413 = .ok (.if_icmp .eq 793, 3) := by decide +kernel
theorem dL_law_416 : decode cL_law 416 = .ok (.iconst 0, 1) := by decide +kernel
theorem dL_law_417 : decode cL_law 417 = .ok (.ireturn, 1) := by decide +kernel
theorem dL_law_418 : decode cL_law 418 = .ok (.aload_n 1, 1) := by decide +kernel
theorem dL_law_419 : decode cL_law 419 = .ok (.invokevirtual 50, 3) := by decide +kernel
theorem dL_law_422 : decode cL_law 422 = .ok (.aload_n 2, 1) := by decide +kernel
theorem dL_law_423 : decode cL_law 423 = .ok (.invokevirtual 53, 3) := by decide +kernel
theorem dL_law_426 : decode cL_law 426 = .ok (.if_icmp .eq 780, 3) := by decide +kernel
theorem dL_law_429 : decode cL_law 429 = .ok (.iconst 0, 1) := by decide +kernel
theorem dL_law_430 : decode cL_law 430 = .ok (.ireturn, 1) := by decide +kernel
theorem dL_law_431 : decode cL_law 431 = .ok (.aload_n 1, 1) := by decide +kernel
theorem dL_law_432 : decode cL_law 432 = .ok (.invokevirtual 54, 3) := by decide +kernel
theorem dL_law_435 : decode cL_law 435 = .ok (.aload_n 2, 1) := by decide +kernel
theorem dL_law_436 : decode cL_law 436 = .ok (.invokevirtual 57, 3) := by decide +kernel
theorem dL_law_439 : decode cL_law 439 = .ok (.if_icmp .eq 767, 3) := by decide +kernel
theorem dL_law_442 : decode cL_law 442 = .ok (.iconst 0, 1) := by decide +kernel
theorem dL_law_443 : decode cL_law 443 = .ok (.ireturn, 1) := by decide +kernel
theorem dL_law_444 : decode cL_law 444 = .ok (.aload_n 1, 1) := by decide +kernel
theorem dL_law_445 : decode cL_law 445 = .ok (.aload_n 0, 1) := by decide +kernel
theorem dL_law_446 : decode cL_law 446 = .ok (.iload_n 3, 1) := by decide +kernel
theorem dL_law_447 : decode cL_law 447 = .ok (.iconst 1, 1) := by decide +kernel
theorem dL_law_448 : decode cL_law 448 = .ok (.iadd, 1) := by decide +kernel
theorem dL_law_449 : decode cL_law 449 = .ok (.iaload, 1) := by decide +kernel
theorem dL_law_450 : decode cL_law 450 = .ok (.aload_n 0, 1) := by decide +kernel
theorem dL_law_451 : decode cL_law 451 = .ok (.iload_n 3, 1) := by decide +kernel
theorem dL_law_452 : decode cL_law 452 = .ok (.iconst 2, 1) := by decide +kernel
theorem dL_law_453 : decode cL_law 453 = .ok (.iadd, 1) := by decide +kernel
theorem dL_law_454 : decode cL_law 454 = .ok (.iaload, 1) := by decide +kernel
theorem dL_law_455 : decode cL_law 455 = .ok (.invokevirtual 58, 3) := by decide +kernel
theorem dL_law_458 : decode cL_law 458 = .ok (.aload_n 2, 1) := by decide +kernel
theorem dL_law_459 : decode cL_law 459 = .ok (.aload_n 0, 1) := by decide +kernel
theorem dL_law_460 : decode cL_law 460 = .ok (.iload_n 3, 1) := by decide +kernel
theorem dL_law_461 : decode cL_law 461 = .ok (.iconst 1, 1) := by decide +kernel
theorem dL_law_462 : decode cL_law 462 = .ok (.iadd, 1) := by decide +kernel
theorem dL_law_463 : decode cL_law 463 = .ok (.iaload, 1) := by decide +kernel
theorem dL_law_464 : decode cL_law 464 = .ok (.aload_n 0, 1) := by decide +kernel
theorem dL_law_465 : decode cL_law 465 = .ok (.iload_n 3, 1) := by decide +kernel
theorem dL_law_466 : decode cL_law 466 = .ok (.iconst 2, 1) := by decide +kernel
theorem dL_law_467 : decode cL_law 467 = .ok (.iadd, 1) := by decide +kernel
theorem dL_law_468 : decode cL_law 468 = .ok (.iaload, 1) := by decide +kernel
theorem dL_law_469 : decode cL_law 469 = .ok (.invokevirtual 61, 3) := by decide +kernel
theorem dL_law_472 : decode cL_law 472 = .ok (.if_icmp .eq 734, 3) := by decide +kernel
theorem dL_law_475 : decode cL_law 475 = .ok (.iconst 0, 1) := by decide +kernel
theorem dL_law_476 : decode cL_law 476 = .ok (.ireturn, 1) := by decide +kernel
theorem dL_law_477 : decode cL_law 477 = .ok (.aload_n 1, 1) := by decide +kernel
theorem dL_law_478 : decode cL_law 478 = .ok (.aload_n 0, 1) := by decide +kernel
theorem dL_law_479 : decode cL_law 479 = .ok (.iload_n 3, 1) := by decide +kernel
theorem dL_law_480 : decode cL_law 480 = .ok (.iconst 1, 1) := by decide +kernel
theorem dL_law_481 : decode cL_law 481 = .ok (.iadd, 1) := by decide +kernel
theorem dL_law_482 : decode cL_law 482 = .ok (.iaload, 1) := by decide +kernel
theorem dL_law_483 : decode cL_law 483 = .ok (.aload_n 0, 1) := by decide +kernel
theorem dL_law_484 : decode cL_law 484 = .ok (.iload_n 3, 1) := by decide +kernel
theorem dL_law_485 : decode cL_law 485 = .ok (.iconst 2, 1) := by decide +kernel
theorem dL_law_486 : decode cL_law 486 = .ok (.iadd, 1) := by decide +kernel
theorem dL_law_487 : decode cL_law 487 = .ok (.iaload, 1) := by decide +kernel
theorem dL_law_488 : decode cL_law 488 = .ok (.invokevirtual 62, 3) := by decide +kernel
theorem dL_law_491 : decode cL_law 491 = .ok (.aload_n 2, 1) := by decide +kernel
theorem dL_law_492 : decode cL_law 492 = .ok (.aload_n 0, 1) := by decide +kernel
theorem dL_law_493 : decode cL_law 493 = .ok (.iload_n 3, 1) := by decide +kernel
theorem dL_law_494 : decode cL_law 494 = .ok (.iconst 1, 1) := by decide +kernel
theorem dL_law_495 : decode cL_law 495 = .ok (.iadd, 1) := by decide +kernel
theorem dL_law_496 : decode cL_law 496 = .ok (.iaload, 1) := by decide +kernel
theorem dL_law_497 : decode cL_law 497 = .ok (.aload_n 0, 1) := by decide +kernel
theorem dL_law_498 : decode cL_law 498 = .ok (.iload_n 3, 1) := by decide +kernel
theorem dL_law_499 : decode cL_law 499 = .ok (.iconst 2, 1) := by decide +kernel
theorem dL_law_500 : decode cL_law 500 = .ok (.iadd, 1) := by decide +kernel
theorem dL_law_501 : decode cL_law 501 = .ok (.iaload, 1) := by decide +kernel
theorem dL_law_502 : decode cL_law 502 = .ok (.invokevirtual 65, 3) := by decide +kernel
theorem dL_law_505 : decode cL_law 505 = .ok (.if_icmp .eq 701, 3) := by decide +kernel
theorem dL_law_508 : decode cL_law 508 = .ok (.iconst 0, 1) := by decide +kernel
theorem dL_law_509 : decode cL_law 509 = .ok (.ireturn, 1) := by decide +kernel
theorem dL_law_510 : decode cL_law 510 = .ok (.aload_n 1, 1) := by decide +kernel
theorem dL_law_511 : decode cL_law 511 = .ok (.aload_n 0, 1) := by decide +kernel
theorem dL_law_512 : decode cL_law 512 = .ok (.iload_n 3, 1) := by decide +kernel
theorem dL_law_513 : decode cL_law 513 = .ok (.iconst 1, 1) := by decide +kernel
theorem dL_law_514 : decode cL_law 514 = .ok (.iadd, 1) := by decide +kernel
theorem dL_law_515 : decode cL_law 515 = .ok (.iaload, 1) := by decide +kernel
theorem dL_law_516 : decode cL_law 516 = .ok (.aload_n 0, 1) := by decide +kernel
theorem dL_law_517 : decode cL_law 517 = .ok (.iload_n 3, 1) := by decide +kernel
theorem dL_law_518 : decode cL_law 518 = .ok (.iconst 2, 1) := by decide +kernel
theorem dL_law_519 : decode cL_law 519 = .ok (.iadd, 1) := by decide +kernel
theorem dL_law_520 : decode cL_law 520 = .ok (.iaload, 1) := by decide +kernel
theorem dL_law_521 : decode cL_law 521 = .ok (.invokevirtual 66, 3) := by decide +kernel
theorem dL_law_524 : decode cL_law 524 = .ok (.aload_n 2, 1) := by decide +kernel
theorem dL_law_525 : decode cL_law 525 = .ok (.aload_n 0, 1) := by decide +kernel
theorem dL_law_526 : decode cL_law 526 = .ok (.iload_n 3, 1) := by decide +kernel
theorem dL_law_527 : decode cL_law 527 = .ok (.iconst 1, 1) := by decide +kernel
theorem dL_law_528 : decode cL_law 528 = .ok (.iadd, 1) := by decide +kernel
theorem dL_law_529 : decode cL_law 529 = .ok (.iaload, 1) := by decide +kernel
theorem dL_law_530 : decode cL_law 530 = .ok (.aload_n 0, 1) := by decide +kernel
theorem dL_law_531 : decode cL_law 531 = .ok (.iload_n 3, 1) := by decide +kernel
theorem dL_law_532 : decode cL_law 532 = .ok (.iconst 2, 1) := by decide +kernel
theorem dL_law_533 : decode cL_law 533 = .ok (.iadd, 1) := by decide +kernel
theorem dL_law_534 : decode cL_law 534 = .ok (.iaload, 1) := by decide +kernel
theorem dL_law_535 : decode cL_law 535 = .ok (.invokevirtual 69, 3) := by decide +kernel
theorem dL_law_538 : decode cL_law 538 = .ok (.if_icmp .eq 668, 3) := by decide +kernel
theorem dL_law_541 : decode cL_law 541 = .ok (.iconst 0, 1) := by decide +kernel
theorem dL_law_542 : decode cL_law 542 = .ok (.ireturn, 1) := by decide +kernel
theorem dL_law_543 : decode cL_law 543 = .ok (.aload_n 1, 1) := by decide +kernel
theorem dL_law_544 : decode cL_law 544 = .ok (.aload_n 0, 1) := by decide +kernel
theorem dL_law_545 : decode cL_law 545 = .ok (.iload_n 3, 1) := by decide +kernel
theorem dL_law_546 : decode cL_law 546 = .ok (.iconst 1, 1) := by decide +kernel
theorem dL_law_547 : decode cL_law 547 = .ok (.iadd, 1) := by decide +kernel
theorem dL_law_548 : decode cL_law 548 = .ok (.iaload, 1) := by decide +kernel
theorem dL_law_549 : decode cL_law 549 = .ok (.aload_n 0, 1) := by decide +kernel
theorem dL_law_550 : decode cL_law 550 = .ok (.iload_n 3, 1) := by decide +kernel
theorem dL_law_551 : decode cL_law 551 = .ok (.iconst 2, 1) := by decide +kernel
theorem dL_law_552 : decode cL_law 552 = .ok (.iadd, 1) := by decide +kernel
theorem dL_law_553 : decode cL_law 553 = .ok (.iaload, 1) := by decide +kernel
theorem dL_law_554 : decode cL_law 554 = .ok (.invokevirtual 70, 3) := by decide +kernel
theorem dL_law_557 : decode cL_law 557 = .ok (.aload_n 2, 1) := by decide +kernel
theorem dL_law_558 : decode cL_law 558 = .ok (.aload_n 0, 1) := by decide +kernel
theorem dL_law_559 : decode cL_law 559 = .ok (.iload_n 3, 1) := by decide +kernel
theorem dL_law_560 : decode cL_law 560 = .ok (.iconst 1, 1) := by decide +kernel
theorem dL_law_561 : decode cL_law 561 = .ok (.iadd, 1) := by decide +kernel
theorem dL_law_562 : decode cL_law 562 = .ok (.iaload, 1) := by decide +kernel
theorem dL_law_563 : decode cL_law 563 = .ok (.aload_n 0, 1) := by decide +kernel
theorem dL_law_564 : decode cL_law 564 = .ok (.iload_n 3, 1) := by decide +kernel
theorem dL_law_565 : decode cL_law 565 = .ok (.iconst 2, 1) := by decide +kernel
theorem dL_law_566 : decode cL_law 566 = .ok (.iadd, 1) := by decide +kernel
theorem dL_law_567 : decode cL_law 567 = .ok (.iaload, 1) := by decide +kernel
theorem dL_law_568 : decode cL_law 568 = .ok (.invokevirtual 73, 3) := by decide +kernel
theorem dL_law_571 : decode cL_law 571 = .ok (.if_icmp .eq 635, 3) := by decide +kernel
theorem dL_law_574 : decode cL_law 574 = .ok (.iconst 0, 1) := by decide +kernel
theorem dL_law_575 : decode cL_law 575 = .ok (.ireturn, 1) := by decide +kernel
theorem dL_law_576 : decode cL_law 576 = .ok (.aload_n 1, 1) := by decide +kernel
theorem dL_law_577 : decode cL_law 577 = .ok (.aload_n 0, 1) := by decide +kernel
theorem dL_law_578 : decode cL_law 578 = .ok (.iload_n 3, 1) := by decide +kernel
theorem dL_law_579 : decode cL_law 579 = .ok (.iconst 1, 1) := by decide +kernel
theorem dL_law_580 : decode cL_law 580 = .ok (.iadd, 1) := by decide +kernel
theorem dL_law_581 : decode cL_law 581 = .ok (.iaload, 1) := by decide +kernel
theorem dL_law_582 : decode cL_law 582 = .ok (.aload_n 0, 1) := by decide +kernel
theorem dL_law_583 : decode cL_law 583 = .ok (.iload_n 3, 1) := by decide +kernel
theorem dL_law_584 : decode cL_law 584 = .ok (.iconst 2, 1) := by decide +kernel
theorem dL_law_585 : decode cL_law 585 = .ok (.iadd, 1) := by decide +kernel
theorem dL_law_586 : decode cL_law 586 = .ok (.iaload, 1) := by decide +kernel
theorem dL_law_587 : decode cL_law 587 = .ok (.invokevirtual 74, 3) := by decide +kernel
theorem dL_law_590 : decode cL_law 590 = .ok (.aload_n 2, 1) := by decide +kernel
theorem dL_law_591 : decode cL_law 591 = .ok (.aload_n 0, 1) := by decide +kernel
theorem dL_law_592 : decode cL_law 592 = .ok (.iload_n 3, 1) := by decide +kernel
theorem dL_law_593 : decode cL_law 593 = .ok (.iconst 1, 1) := by decide +kernel
theorem dL_law_594 : decode cL_law 594 = .ok (.iadd, 1) := by decide +kernel
theorem dL_law_595 : decode cL_law 595 = .ok (.iaload, 1) := by decide +kernel
theorem dL_law_596 : decode cL_law 596 = .ok (.aload_n 0, 1) := by decide +kernel
theorem dL_law_597 : decode cL_law 597 = .ok (.iload_n 3, 1) := by decide +kernel
theorem dL_law_598 : decode cL_law 598 = .ok (.iconst 2, 1) := by decide +kernel
theorem dL_law_599 : decode cL_law 599 = .ok (.iadd, 1) := by decide +kernel
theorem dL_law_600 : decode cL_law 600 = .ok (.iaload, 1) := by decide +kernel
theorem dL_law_601 : decode cL_law 601 = .ok (.invokevirtual 77, 3) := by decide +kernel
theorem dL_law_604 : decode cL_law 604 = .ok (.if_icmp .eq 602, 3) := by decide +kernel
theorem dL_law_607 : decode cL_law 607 = .ok (.iconst 0, 1) := by decide +kernel
theorem dL_law_608 : decode cL_law 608 = .ok (.ireturn, 1) := by decide +kernel
theorem dL_law_609 : decode cL_law 609 = .ok (.aload_n 1, 1) := by decide +kernel
theorem dL_law_610 : decode cL_law 610 = .ok (.aload_n 0, 1) := by decide +kernel
theorem dL_law_611 : decode cL_law 611 = .ok (.iload_n 3, 1) := by decide +kernel
theorem dL_law_612 : decode cL_law 612 = .ok (.iconst 1, 1) := by decide +kernel
theorem dL_law_613 : decode cL_law 613 = .ok (.iadd, 1) := by decide +kernel
theorem dL_law_614 : decode cL_law 614 = .ok (.iaload, 1) := by decide +kernel
theorem dL_law_615 : decode cL_law 615 = .ok (.aload_n 0, 1) := by decide +kernel
theorem dL_law_616 : decode cL_law 616 = .ok (.iload_n 3, 1) := by decide +kernel
theorem dL_law_617 : decode cL_law 617 = .ok (.iconst 2, 1) := by decide +kernel
theorem dL_law_618 : decode cL_law 618 = .ok (.iadd, 1) := by decide +kernel
theorem dL_law_619 : decode cL_law 619 = .ok (.iaload, 1) := by decide +kernel
theorem dL_law_620 : decode cL_law 620 = .ok (.invokevirtual 78, 3) := by decide +kernel
theorem dL_law_623 : decode cL_law 623 = .ok (.aload_n 2, 1) := by decide +kernel
theorem dL_law_624 : decode cL_law 624 = .ok (.aload_n 0, 1) := by decide +kernel
theorem dL_law_625 : decode cL_law 625 = .ok (.iload_n 3, 1) := by decide +kernel
theorem dL_law_626 : decode cL_law 626 = .ok (.iconst 1, 1) := by decide +kernel
theorem dL_law_627 : decode cL_law 627 = .ok (.iadd, 1) := by decide +kernel
theorem dL_law_628 : decode cL_law 628 = .ok (.iaload, 1) := by decide +kernel
theorem dL_law_629 : decode cL_law 629 = .ok (.aload_n 0, 1) := by decide +kernel
theorem dL_law_630 : decode cL_law 630 = .ok (.iload_n 3, 1) := by decide +kernel
theorem dL_law_631 : decode cL_law 631 = .ok (.iconst 2, 1) := by decide +kernel
theorem dL_law_632 : decode cL_law 632 = .ok (.iadd, 1) := by decide +kernel
theorem dL_law_633 : decode cL_law 633 = .ok (.iaload, 1) := by decide +kernel
theorem dL_law_634 : decode cL_law 634 = .ok (.invokevirtual 81, 3) := by decide +kernel
theorem dL_law_637 : decode cL_law 637 = .ok (.if_icmp .eq 569, 3) := by decide +kernel
theorem dL_law_640 : decode cL_law 640 = .ok (.iconst 0, 1) := by decide +kernel
theorem dL_law_641 : decode cL_law 641 = .ok (.ireturn, 1) := by decide +kernel
theorem dL_law_642 : decode cL_law 642 = .ok (.aload_n 1, 1) := by decide +kernel
theorem dL_law_643 : decode cL_law 643 = .ok (.aload_n 0, 1) := by decide +kernel
theorem dL_law_644 : decode cL_law 644 = .ok (.iload_n 3, 1) := by decide +kernel
theorem dL_law_645 : decode cL_law 645 = .ok (.iconst 1, 1) := by decide +kernel
theorem dL_law_646 : decode cL_law 646 = .ok (.iadd, 1) := by decide +kernel
theorem dL_law_647 : decode cL_law 647 = .ok (.iaload, 1) := by decide +kernel
theorem dL_law_648 : decode cL_law 648 = .ok (.aload_n 0, 1) := by decide +kernel
theorem dL_law_649 : decode cL_law 649 = .ok (.iload_n 3, 1) := by decide +kernel
theorem dL_law_650 : decode cL_law 650 = .ok (.iconst 2, 1) := by decide +kernel
theorem dL_law_651 : decode cL_law 651 = .ok (.iadd, 1) := by decide +kernel
theorem dL_law_652 : decode cL_law 652 = .ok (.iaload, 1) := by decide +kernel
theorem dL_law_653 : decode cL_law 653 = .ok (.invokevirtual 82, 3) := by decide +kernel
theorem dL_law_656 : decode cL_law 656 = .ok (.aload_n 2, 1) := by decide +kernel
theorem dL_law_657 : decode cL_law 657 = .ok (.aload_n 0, 1) := by decide +kernel
theorem dL_law_658 : decode cL_law 658 = .ok (.iload_n 3, 1) := by decide +kernel
theorem dL_law_659 : decode cL_law 659 = .ok (.iconst 1, 1) := by decide +kernel
theorem dL_law_660 : decode cL_law 660 = .ok (.iadd, 1) := by decide +kernel
theorem dL_law_661 : decode cL_law 661 = .ok (.iaload, 1) := by decide +kernel
theorem dL_law_662 : decode cL_law 662 = .ok (.aload_n 0, 1) := by decide +kernel
theorem dL_law_663 : decode cL_law 663 = .ok (.iload_n 3, 1) := by decide +kernel
theorem dL_law_664 : decode cL_law 664 = .ok (.iconst 2, 1) := by decide +kernel
theorem dL_law_665 : decode cL_law 665 = .ok (.iadd, 1) := by decide +kernel
theorem dL_law_666 : decode cL_law 666 = .ok (.iaload, 1) := by decide +kernel
theorem dL_law_667 : decode cL_law 667 = .ok (.invokevirtual 85, 3) := by decide +kernel
theorem dL_law_670 : decode cL_law 670 = .ok (.if_icmp .eq 536, 3) := by decide +kernel
theorem dL_law_673 : decode cL_law 673 = .ok (.iconst 0, 1) := by decide +kernel
theorem dL_law_674 : decode cL_law 674 = .ok (.ireturn, 1) := by decide +kernel
theorem dL_law_675 : decode cL_law 675 = .ok (.aload_n 1, 1) := by decide +kernel
theorem dL_law_676 : decode cL_law 676 = .ok (.aload_n 0, 1) := by decide +kernel
theorem dL_law_677 : decode cL_law 677 = .ok (.iload_n 3, 1) := by decide +kernel
theorem dL_law_678 : decode cL_law 678 = .ok (.iconst 1, 1) := by decide +kernel
theorem dL_law_679 : decode cL_law 679 = .ok (.iadd, 1) := by decide +kernel
theorem dL_law_680 : decode cL_law 680 = .ok (.iaload, 1) := by decide +kernel
theorem dL_law_681 : decode cL_law 681 = .ok (.aload_n 0, 1) := by decide +kernel
theorem dL_law_682 : decode cL_law 682 = .ok (.iload_n 3, 1) := by decide +kernel
theorem dL_law_683 : decode cL_law 683 = .ok (.iconst 2, 1) := by decide +kernel
theorem dL_law_684 : decode cL_law 684 = .ok (.iadd, 1) := by decide +kernel
theorem dL_law_685 : decode cL_law 685 = .ok (.iaload, 1) := by decide +kernel
theorem dL_law_686 : decode cL_law 686 = .ok (.invokevirtual 86, 3) := by decide +kernel
theorem dL_law_689 : decode cL_law 689 = .ok (.aload_n 2, 1) := by decide +kernel
theorem dL_law_690 : decode cL_law 690 = .ok (.aload_n 0, 1) := by decide +kernel
theorem dL_law_691 : decode cL_law 691 = .ok (.iload_n 3, 1) := by decide +kernel
theorem dL_law_692 : decode cL_law 692 = .ok (.iconst 1, 1) := by decide +kernel
theorem dL_law_693 : decode cL_law 693 = .ok (.iadd, 1) := by decide +kernel
theorem dL_law_694 : decode cL_law 694 = .ok (.iaload, 1) := by decide +kernel
theorem dL_law_695 : decode cL_law 695 = .ok (.aload_n 0, 1) := by decide +kernel
theorem dL_law_696 : decode cL_law 696 = .ok (.iload_n 3, 1) := by decide +kernel
theorem dL_law_697 : decode cL_law 697 = .ok (.iconst 2, 1) := by decide +kernel
theorem dL_law_698 : decode cL_law 698 = .ok (.iadd, 1) := by decide +kernel
theorem dL_law_699 : decode cL_law 699 = .ok (.iaload, 1) := by decide +kernel
theorem dL_law_700 : decode cL_law 700 = .ok (.invokevirtual 89, 3) := by decide +kernel
theorem dL_law_703 : decode cL_law 703 = .ok (.if_icmp .eq 503, 3) := by decide +kernel
theorem dL_law_706 : decode cL_law 706 = .ok (.iconst 0, 1) := by decide +kernel
theorem dL_law_707 : decode cL_law 707 = .ok (.ireturn, 1) := by decide +kernel
theorem dL_law_708 : decode cL_law 708 = .ok (.aload_n 1, 1) := by decide +kernel
theorem dL_law_709 : decode cL_law 709 = .ok (.aload_n 0, 1) := by decide +kernel
theorem dL_law_710 : decode cL_law 710 = .ok (.iload_n 3, 1) := by decide +kernel
theorem dL_law_711 : decode cL_law 711 = .ok (.iconst 1, 1) := by decide +kernel
theorem dL_law_712 : decode cL_law 712 = .ok (.iadd, 1) := by decide +kernel
theorem dL_law_713 : decode cL_law 713 = .ok (.iaload, 1) := by decide +kernel
theorem dL_law_714 : decode cL_law 714 = .ok (.aload_n 0, 1) := by decide +kernel
theorem dL_law_715 : decode cL_law 715 = .ok (.iload_n 3, 1) := by decide +kernel
theorem dL_law_716 : decode cL_law 716 = .ok (.iconst 2, 1) := by decide +kernel
theorem dL_law_717 : decode cL_law 717 = .ok (.iadd, 1) := by decide +kernel
theorem dL_law_718 : decode cL_law 718 = .ok (.iaload, 1) := by decide +kernel
theorem dL_law_719 : decode cL_law 719 = .ok (.aload_n 0, 1) := by decide +kernel
theorem dL_law_720 : decode cL_law 720 = .ok (.iload_n 3, 1) := by decide +kernel
theorem dL_law_721 : decode cL_law 721 = .ok (.iconst 3, 1) := by decide +kernel
theorem dL_law_722 : decode cL_law 722 = .ok (.iadd, 1) := by decide +kernel
theorem dL_law_723 : decode cL_law 723 = .ok (.iaload, 1) := by decide +kernel
theorem dL_law_724 : decode cL_law 724 = .ok (.aload_n 0, 1) := by decide +kernel
theorem dL_law_725 : decode cL_law 725 = .ok (.iload_n 3, 1) := by decide +kernel
theorem dL_law_726 : decode cL_law 726 = .ok (.iconst 4, 1) := by decide +kernel
theorem dL_law_727 : decode cL_law 727 = .ok (.iadd, 1) := by decide +kernel
theorem dL_law_728 : decode cL_law 728 = .ok (.iaload, 1) := by decide +kernel
theorem dL_law_729 : decode cL_law 729 = .ok (.aload_n 0, 1) := by decide +kernel
theorem dL_law_730 : decode cL_law 730 = .ok (.iload_n 3, 1) := by decide +kernel
theorem dL_law_731 : decode cL_law 731 = .ok (.iconst 5, 1) := by decide +kernel
theorem dL_law_732 : decode cL_law 732 = .ok (.iadd, 1) := by decide +kernel
theorem dL_law_733 : decode cL_law 733 = .ok (.iaload, 1) := by decide +kernel
theorem dL_law_734 : decode cL_law 734 = .ok (.invokevirtual 90, 3) := by decide +kernel
theorem dL_law_737 : decode cL_law 737 = .ok (.aload_n 2, 1) := by decide +kernel
theorem dL_law_738 : decode cL_law 738 = .ok (.aload_n 0, 1) := by decide +kernel
theorem dL_law_739 : decode cL_law 739 = .ok (.iload_n 3, 1) := by decide +kernel
theorem dL_law_740 : decode cL_law 740 = .ok (.iconst 1, 1) := by decide +kernel
theorem dL_law_741 : decode cL_law 741 = .ok (.iadd, 1) := by decide +kernel
theorem dL_law_742 : decode cL_law 742 = .ok (.iaload, 1) := by decide +kernel
theorem dL_law_743 : decode cL_law 743 = .ok (.aload_n 0, 1) := by decide +kernel
theorem dL_law_744 : decode cL_law 744 = .ok (.iload_n 3, 1) := by decide +kernel
theorem dL_law_745 : decode cL_law 745 = .ok (.iconst 2, 1) := by decide +kernel
theorem dL_law_746 : decode cL_law 746 = .ok (.iadd, 1) := by decide +kernel
theorem dL_law_747 : decode cL_law 747 = .ok (.iaload, 1) := by decide +kernel
theorem dL_law_748 : decode cL_law 748 = .ok (.aload_n 0, 1) := by decide +kernel
theorem dL_law_749 : decode cL_law 749 = .ok (.iload_n 3, 1) := by decide +kernel
theorem dL_law_750 : decode cL_law 750 = .ok (.iconst 3, 1) := by decide +kernel
theorem dL_law_751 : decode cL_law 751 = .ok (.iadd, 1) := by decide +kernel
theorem dL_law_752 : decode cL_law 752 = .ok (.iaload, 1) := by decide +kernel
theorem dL_law_753 : decode cL_law 753 = .ok (.aload_n 0, 1) := by decide +kernel
theorem dL_law_754 : decode cL_law 754 = .ok (.iload_n 3, 1) := by decide +kernel
theorem dL_law_755 : decode cL_law 755 = .ok (.iconst 4, 1) := by decide +kernel
theorem dL_law_756 : decode cL_law 756 = .ok (.iadd, 1) := by decide +kernel
theorem dL_law_757 : decode cL_law 757 = .ok (.iaload, 1) := by decide +kernel
theorem dL_law_758 : decode cL_law 758 = .ok (.aload_n 0, 1) := by decide +kernel
theorem dL_law_759 : decode cL_law 759 = .ok (.iload_n 3, 1) := by decide +kernel
theorem dL_law_760 : decode cL_law 760 = .ok (.iconst 5, 1) := by decide +kernel
theorem dL_law_761 : decode cL_law 761 = .ok (.iadd, 1) := by decide +kernel
theorem dL_law_762 : decode cL_law 762 = .ok (.iaload, 1) := by decide +kernel
theorem dL_law_763 : decode cL_law 763 = .ok (.invokevirtual 93, 3) := by decide +kernel
theorem dL_law_766 : decode cL_law 766 = .ok (.if_icmp .eq 440, 3) := by decide +kernel
theorem dL_law_769 : decode cL_law 769 = .ok (.iconst 0, 1) := by decide +kernel
theorem dL_law_770 : decode cL_law 770 = .ok (.ireturn, 1) := by decide +kernel
theorem dL_law_771 : decode cL_law 771 = .ok (.aload_n 1, 1) := by decide +kernel
theorem dL_law_772 : decode cL_law 772 = .ok (.aload_n 0, 1) := by decide +kernel
theorem dL_law_773 : decode cL_law 773 = .ok (.iload_n 3, 1) := by decide +kernel
theorem dL_law_774 : decode cL_law 774 = .ok (.iconst 1, 1) := by decide +kernel
theorem dL_law_775 : decode cL_law 775 = .ok (.iadd, 1) := by decide +kernel
theorem dL_law_776 : decode cL_law 776 = .ok (.iaload, 1) := by decide +kernel
theorem dL_law_777 : decode cL_law 777 = .ok (.invokevirtual 94, 3) := by decide +kernel
theorem dL_law_780 : decode cL_law 780 = .ok (.aload_n 2, 1) := by decide +kernel
theorem dL_law_781 : decode cL_law 781 = .ok (.aload_n 0, 1) := by decide +kernel
theorem dL_law_782 : decode cL_law 782 = .ok (.iload_n 3, 1) := by decide +kernel
theorem dL_law_783 : decode cL_law 783 = .ok (.iconst 1, 1) := by decide +kernel
theorem dL_law_784 : decode cL_law 784 = .ok (.iadd, 1) := by decide +kernel
theorem dL_law_785 : decode cL_law 785 = .ok (.iaload, 1) := by decide +kernel
theorem dL_law_786 : decode cL_law 786 = .ok (.invokevirtual 97, 3) := by decide +kernel
theorem dL_law_789 : decode cL_law 789 = .ok (.if_icmp .eq 417, 3) := by decide +kernel
theorem dL_law_792 : decode cL_law 792 = .ok (.iconst 0, 1) := by decide +kernel
theorem dL_law_793 : decode cL_law 793 = .ok (.ireturn, 1) := by decide +kernel
theorem dL_law_794 : decode cL_law 794 = .ok (.aload_n 1, 1) := by decide +kernel
theorem dL_law_795 : decode cL_law 795 = .ok (.aload_n 0, 1) := by decide +kernel
theorem dL_law_796 : decode cL_law 796 = .ok (.iload_n 3, 1) := by decide +kernel
theorem dL_law_797 : decode cL_law 797 = .ok (.iconst 1, 1) := by decide +kernel
theorem dL_law_798 : decode cL_law 798 = .ok (.iadd, 1) := by decide +kernel
theorem dL_law_799 : decode cL_law 799 = .ok (.iaload, 1) := by decide +kernel
theorem dL_law_800 : decode cL_law 800 = .ok (.aload_n 0, 1) := by decide +kernel
theorem dL_law_801 : decode cL_law 801 = .ok (.iload_n 3, 1) := by decide +kernel
theorem dL_law_802 : decode cL_law 802 = .ok (.iconst 2, 1) := by decide +kernel
theorem dL_law_803 : decode cL_law 803 = .ok (.iadd, 1) := by decide +kernel
theorem dL_law_804 : decode cL_law 804 = .ok (.iaload, 1) := by decide +kernel
theorem dL_law_805 : decode cL_law 805 = .ok (.aload_n 0, 1) := by decide +kernel
theorem dL_law_806 : decode cL_law 806 = .ok (.iload_n 3, 1) := by decide +kernel
theorem dL_law_807 : decode cL_law 807 = .ok (.iconst 3, 1) := by decide +kernel
theorem dL_law_808 : decode cL_law 808 = .ok (.iadd, 1) := by decide +kernel
theorem dL_law_809 : decode cL_law 809 = .ok (.iaload, 1) := by decide +kernel
theorem dL_law_810 : decode cL_law 810 = .ok (.aload_n 0, 1) := by decide +kernel
theorem dL_law_811 : decode cL_law 811 = .ok (.iload_n 3, 1) := by decide +kernel
theorem dL_law_812 : decode cL_law 812 = .ok (.iconst 4, 1) := by decide +kernel
theorem dL_law_813 : decode cL_law 813 = .ok (.iadd, 1) := by decide +kernel
theorem dL_law_814 : decode cL_law 814 = .ok (.iaload, 1) := by decide +kernel
theorem dL_law_815 : decode cL_law 815 = .ok (.aload_n 0, 1) := by decide +kernel
theorem dL_law_816 : decode cL_law 816 = .ok (.iload_n 3, 1) := by decide +kernel
theorem dL_law_817 : decode cL_law 817 = .ok (.iconst 5, 1) := by decide +kernel
theorem dL_law_818 : decode cL_law 818 = .ok (.iadd, 1) := by decide +kernel
theorem dL_law_819 : decode cL_law 819 = .ok (.iaload, 1) := by decide +kernel
theorem dL_law_820 : decode cL_law 820 = .ok (.invokevirtual 98, 3) := by decide +kernel
theorem dL_law_823 : decode cL_law 823 = .ok (.aload_n 2, 1) := by decide +kernel
theorem dL_law_824 : decode cL_law 824 = .ok (.aload_n 0, 1) := by decide +kernel
theorem dL_law_825 : decode cL_law 825 = .ok (.iload_n 3, 1) := by decide +kernel
theorem dL_law_826 : decode cL_law 826 = .ok (.iconst 1, 1) := by decide +kernel
theorem dL_law_827 : decode cL_law 827 = .ok (.iadd, 1) := by decide +kernel
theorem dL_law_828 : decode cL_law 828 = .ok (.iaload, 1) := by decide +kernel
theorem dL_law_829 : decode cL_law 829 = .ok (.aload_n 0, 1) := by decide +kernel
theorem dL_law_830 : decode cL_law 830 = .ok (.iload_n 3, 1) := by decide +kernel
theorem dL_law_831 : decode cL_law 831 = .ok (.iconst 2, 1) := by decide +kernel
theorem dL_law_832 : decode cL_law 832 = .ok (.iadd, 1) := by decide +kernel
theorem dL_law_833 : decode cL_law 833 = .ok (.iaload, 1) := by decide +kernel
theorem dL_law_834 : decode cL_law 834 = .ok (.aload_n 0, 1) := by decide +kernel
theorem dL_law_835 : decode cL_law 835 = .ok (.iload_n 3, 1) := by decide +kernel
theorem dL_law_836 : decode cL_law 836 = .ok (.iconst 3, 1) := by decide +kernel
theorem dL_law_837 : decode cL_law 837 = .ok (.iadd, 1) := by decide +kernel
theorem dL_law_838 : decode cL_law 838 = .ok (.iaload, 1) := by decide +kernel
theorem dL_law_839 : decode cL_law 839 = .ok (.aload_n 0, 1) := by decide +kernel
theorem dL_law_840 : decode cL_law 840 = .ok (.iload_n 3, 1) := by decide +kernel
theorem dL_law_841 : decode cL_law 841 = .ok (.iconst 4, 1) := by decide +kernel
theorem dL_law_842 : decode cL_law 842 = .ok (.iadd, 1) := by decide +kernel
theorem dL_law_843 : decode cL_law 843 = .ok (.iaload, 1) := by decide +kernel
theorem dL_law_844 : decode cL_law 844 = .ok (.aload_n 0, 1) := by decide +kernel
theorem dL_law_845 : decode cL_law 845 = .ok (.iload_n 3, 1) := by decide +kernel
theorem dL_law_846 : decode cL_law 846 = .ok (.iconst 5, 1) := by decide +kernel
theorem dL_law_847 : decode cL_law 847 = .ok (.iadd, 1) := by decide +kernel
theorem dL_law_848 : decode cL_law 848 = .ok (.iaload, 1) := by decide +kernel
theorem dL_law_849 : decode cL_law 849 = .ok (.invokevirtual 101, 3) := by decide +kernel
theorem dL_law_852 : decode cL_law 852 = .ok (.if_icmp .eq 354, 3) := by decide +kernel
theorem dL_law_855 : decode cL_law 855 = .ok (.iconst 0, 1) := by decide +kernel
theorem dL_law_856 : decode cL_law 856 = .ok (.ireturn, 1) := by decide +kernel
theorem dL_law_857 : decode cL_law 857 = .ok (.aload_n 1, 1) := by decide +kernel
theorem dL_law_858 : decode cL_law 858 = .ok (.aload_n 0, 1) := by decide +kernel
theorem dL_law_859 : decode cL_law 859 = .ok (.iload_n 3, 1) := by decide +kernel
theorem dL_law_860 : decode cL_law 860 = .ok (.iconst 1, 1) := by decide +kernel
theorem dL_law_861 : decode cL_law 861 = .ok (.iadd, 1) := by decide +kernel
theorem dL_law_862 : decode cL_law 862 = .ok (.iaload, 1) := by decide +kernel
theorem dL_law_863 : decode cL_law 863 = .ok (.aload_n 0, 1) := by decide +kernel
theorem dL_law_864 : decode cL_law 864 = .ok (.iload_n 3, 1) := by decide +kernel
theorem dL_law_865 : decode cL_law 865 = .ok (.iconst 2, 1) := by decide +kernel
theorem dL_law_866 : decode cL_law 866 = .ok (.iadd, 1) := by decide +kernel
theorem dL_law_867 : decode cL_law 867 = .ok (.iaload, 1) := by decide +kernel
theorem dL_law_868 : decode cL_law 868 = .ok (.aload_n 0, 1) := by decide +kernel
theorem dL_law_869 : decode cL_law 869 = .ok (.iload_n 3, 1) := by decide +kernel
theorem dL_law_870 : decode cL_law 870 = .ok (.iconst 3, 1) := by decide +kernel
theorem dL_law_871 : decode cL_law 871 = .ok (.iadd, 1) := by decide +kernel
theorem dL_law_872 : decode cL_law 872 = .ok (.iaload, 1) := by decide +kernel
theorem dL_law_873 : decode cL_law 873 = .ok (.aload_n 0, 1) := by decide +kernel
theorem dL_law_874 : decode cL_law 874 = .ok (.iload_n 3, 1) := by decide +kernel
theorem dL_law_875 : decode cL_law 875 = .ok (.iconst 4, 1) := by decide +kernel
theorem dL_law_876 : decode cL_law 876 = .ok (.iadd, 1) := by decide +kernel
theorem dL_law_877 : decode cL_law 877 = .ok (.iaload, 1) := by decide +kernel
theorem dL_law_878 : decode cL_law 878 = .ok (.aload_n 0, 1) := by decide +kernel
theorem dL_law_879 : decode cL_law 879 = .ok (.iload_n 3, 1) := by decide +kernel
theorem dL_law_880 : decode cL_law 880 = .ok (.iconst 5, 1) := by decide +kernel
theorem dL_law_881 : decode cL_law 881 = .ok (.iadd, 1) := by decide +kernel
theorem dL_law_882 : decode cL_law 882 = .ok (.iaload, 1) := by decide +kernel
theorem dL_law_883 : decode cL_law 883 = .ok (.aload_n 0, 1) := by decide +kernel
theorem dL_law_884 : decode cL_law 884 = .ok (.iload_n 3, 1) := by decide +kernel
theorem dL_law_885 : decode cL_law 885 = .ok (.bipush 6, 2) := by decide +kernel
theorem dL_law_887 : decode cL_law 887 = .ok (.iadd, 1) := by decide +kernel
theorem dL_law_888 : decode cL_law 888 = .ok (.iaload, 1) := by decide +kernel
theorem dL_law_889 : decode cL_law 889 = .ok (.invokevirtual 102, 3) := by decide +kernel
theorem dL_law_892 : decode cL_law 892 = .ok (.aload_n 2, 1) := by decide +kernel
theorem dL_law_893 : decode cL_law 893 = .ok (.aload_n 0, 1) := by decide +kernel
theorem dL_law_894 : decode cL_law 894 = .ok (.iload_n 3, 1) := by decide +kernel
theorem dL_law_895 : decode cL_law 895 = .ok (.iconst 1, 1) := by decide +kernel
theorem dL_law_896 : decode cL_law 896 = .ok (.iadd, 1) := by decide +kernel
theorem dL_law_897 : decode cL_law 897 = .ok (.iaload, 1) := by decide +kernel
theorem dL_law_898 : decode cL_law 898 = .ok (.aload_n 0, 1) := by decide +kernel
theorem dL_law_899 : decode cL_law 899 = .ok (.iload_n 3, 1) := by decide +kernel
theorem dL_law_900 : decode cL_law 900 = .ok (.iconst 2, 1) := by decide +kernel
theorem dL_law_901 : decode cL_law 901 = .ok (.iadd, 1) := by decide +kernel
theorem dL_law_902 : decode cL_law 902 = .ok (.iaload, 1) := by decide +kernel
theorem dL_law_903 : decode cL_law 903 = .ok (.aload_n 0, 1) := by decide +kernel
theorem dL_law_904 : decode cL_law 904 = .ok (.iload_n 3, 1) := by decide +kernel
theorem dL_law_905 : decode cL_law 905 = .ok (.iconst 3, 1) := by decide +kernel
theorem dL_law_906 : decode cL_law 906 = .ok (.iadd, 1) := by decide +kernel
theorem dL_law_907 : decode cL_law 907 = .ok (.iaload, 1) := by decide +kernel
theorem dL_law_908 : decode cL_law 908 = .ok (.aload_n 0, 1) := by decide +kernel
theorem dL_law_909 : decode cL_law 909 = .ok (.iload_n 3, 1) := by decide +kernel
theorem dL_law_910 : decode cL_law 910 = .ok (.iconst 4, 1) := by decide +kernel
theorem dL_law_911 : decode cL_law 911 = .ok (.iadd, 1) := by decide +kernel
theorem dL_law_912 : decode cL_law 912 = .ok (.iaload, 1) := by decide +kernel
theorem dL_law_913 : decode cL_law 913 = .ok (.aload_n 0, 1) := by decide +kernel
theorem dL_law_914 : decode cL_law 914 = .ok (.iload_n 3, 1) := by decide +kernel
theorem dL_law_915 : decode cL_law 915 = .ok (.iconst 5, 1) := by decide +kernel
theorem dL_law_916 : decode cL_law 916 = .ok (.iadd, 1) := by decide +kernel
theorem dL_law_917 : decode cL_law 917 = .ok (.iaload, 1) := by decide +kernel
theorem dL_law_918 : decode cL_law 918 = .ok (.aload_n 0, 1) := by decide +kernel
theorem dL_law_919 : decode cL_law 919 = .ok (.iload_n 3, 1) := by decide +kernel
theorem dL_law_920 : decode cL_law 920 = .ok (.bipush 6, 2) := by decide +kernel
theorem dL_law_922 : decode cL_law 922 = .ok (.iadd, 1) := by decide +kernel
theorem dL_law_923 : decode cL_law 923 = .ok (.iaload, 1) := by decide +kernel
theorem dL_law_924 : decode cL_law 924 = .ok (.invokevirtual 106, 3) := by decide +kernel
theorem dL_law_927 : decode cL_law 927 = .ok (.if_icmp .eq 279, 3) := by decide +kernel
theorem dL_law_930 : decode cL_law 930 = .ok (.iconst 0, 1) := by decide +kernel
theorem dL_law_931 : decode cL_law 931 = .ok (.ireturn, 1) := by decide +kernel
theorem dL_law_932 : decode cL_law 932 = .ok (.aload_n 1, 1) := by decide +kernel
theorem dL_law_933 : decode cL_law 933 = .ok (.aload_n 0, 1) := by decide +kernel
theorem dL_law_934 : decode cL_law 934 = .ok (.iload_n 3, 1) := by decide +kernel
theorem dL_law_935 : decode cL_law 935 = .ok (.iconst 1, 1) := by decide +kernel
theorem dL_law_936 : decode cL_law 936 = .ok (.iadd, 1) := by decide +kernel
theorem dL_law_937 : decode cL_law 937 = .ok (.iaload, 1) := by decide +kernel
theorem dL_law_938 : decode cL_law 938 = .ok (.invokevirtual 107, 3) := by decide +kernel
theorem dL_law_941 : decode cL_law 941 = .ok (.aload_n 2, 1) := by decide +kernel
theorem dL_law_942 : decode cL_law 942 = .ok (.aload_n 0, 1) := by decide +kernel
theorem dL_law_943 : decode cL_law 943 = .ok (.iload_n 3, 1) := by decide +kernel
theorem dL_law_944 : decode cL_law 944 = .ok (.iconst 1, 1) := by decide +kernel
theorem dL_law_945 : decode cL_law 945 = .ok (.iadd, 1) := by decide +kernel
theorem dL_law_946 : decode cL_law 946 = .ok (.iaload, 1) := by decide +kernel
theorem dL_law_947 : decode cL_law 947 = .ok (.invokevirtual 110, 3) := by decide +kernel
theorem dL_law_950 : decode cL_law 950 = .ok (.if_icmp .eq 256, 3) := by decide +kernel
theorem dL_law_953 : decode cL_law 953 = .ok (.iconst 0, 1) := by decide +kernel
theorem dL_law_954 : decode cL_law 954 = .ok (.ireturn, 1) := by decide +kernel
theorem dL_law_955 : decode cL_law 955 = .ok (.aload_n 1, 1) := by decide +kernel
theorem dL_law_956 : decode cL_law 956 = .ok (.aload_n 0, 1) := by decide +kernel
theorem dL_law_957 : decode cL_law 957 = .ok (.iload_n 3, 1) := by decide +kernel
theorem dL_law_958 : decode cL_law 958 = .ok (.iconst 1, 1) := by decide +kernel
theorem dL_law_959 : decode cL_law 959 = .ok (.iadd, 1) := by decide +kernel
theorem dL_law_960 : decode cL_law 960 = .ok (.iaload, 1) := by decide +kernel
theorem dL_law_961 : decode cL_law 961 = .ok (.aload_n 0, 1) := by decide +kernel
theorem dL_law_962 : decode cL_law 962 = .ok (.iload_n 3, 1) := by decide +kernel
theorem dL_law_963 : decode cL_law 963 = .ok (.iconst 2, 1) := by decide +kernel
theorem dL_law_964 : decode cL_law 964 = .ok (.iadd, 1) := by decide +kernel
theorem dL_law_965 : decode cL_law 965 = .ok (.iaload, 1) := by decide +kernel
theorem dL_law_966 : decode cL_law 966 = .ok (.aload_n 0, 1) := by decide +kernel
theorem dL_law_967 : decode cL_law 967 = .ok (.iload_n 3, 1) := by decide +kernel
theorem dL_law_968 : decode cL_law 968 = .ok (.iconst 3, 1) := by decide +kernel
theorem dL_law_969 : decode cL_law 969 = .ok (.iadd, 1) := by decide +kernel
theorem dL_law_970 : decode cL_law 970 = .ok (.iaload, 1) := by decide +kernel
theorem dL_law_971 : decode cL_law 971 = .ok (.invokevirtual 111, 3) := by decide +kernel
theorem dL_law_974 : decode cL_law 974 = .ok (.aload_n 2, 1) := by decide +kernel
theorem dL_law_975 : decode cL_law 975 = .ok (.aload_n 0, 1) := by decide +kernel
theorem dL_law_976 : decode cL_law 976 = .ok (.iload_n 3, 1) := by decide +kernel
theorem dL_law_977 : decode cL_law 977 = .ok (.iconst 1, 1) := by decide +kernel
theorem dL_law_978 : decode cL_law 978 = .ok (.iadd, 1) := by decide +kernel
theorem dL_law_979 : decode cL_law 979 = .ok (.iaload, 1) := by decide +kernel
theorem dL_law_980 : decode cL_law 980 = .ok (.aload_n 0, 1) := by decide +kernel
theorem dL_law_981 : decode cL_law 981 = .ok (.iload_n 3, 1) := by decide +kernel
theorem dL_law_982 : decode cL_law 982 = .ok (.iconst 2, 1) := by decide +kernel
theorem dL_law_983 : decode cL_law 983 = .ok (.iadd, 1) := by decide +kernel
theorem dL_law_984 : decode cL_law 984 = .ok (.iaload, 1) := by decide +kernel
theorem dL_law_985 : decode cL_law 985 = .ok (.aload_n 0, 1) := by decide +kernel
theorem dL_law_986 : decode cL_law 986 = .ok (.iload_n 3, 1) := by decide +kernel
theorem dL_law_987 : decode cL_law 987 = .ok (.iconst 3, 1) := by decide +kernel
theorem dL_law_988 : decode cL_law 988 = .ok (.iadd, 1) := by decide +kernel
theorem dL_law_989 : decode cL_law 989 = .ok (.iaload, 1) := by decide +kernel
theorem dL_law_990 : decode cL_law 990 = .ok (.invokevirtual 115, 3) := by decide +kernel
theorem dL_law_993 : decode cL_law 993 = .ok (.if_icmp .eq 213, 3) := by decide +kernel
theorem dL_law_996 : decode cL_law 996 = .ok (.iconst 0, 1) := by decide +kernel
theorem dL_law_997 : decode cL_law 997 = .ok (.ireturn, 1) := by decide +kernel
theorem dL_law_998 : decode cL_law 998 = .ok (.aload_n 1, 1) := by decide +kernel
theorem dL_law_999 : decode cL_law 999 = .ok (.aload_n 0, 1) := by decide +kernel
theorem dL_law_1000 : decode cL_law 1000 = .ok (.iload_n 3, 1) := by decide +kernel
theorem dL_law_1001 : decode cL_law 1001 = .ok (.iconst 1, 1) := by decide +kernel
theorem dL_law_1002 : decode cL_law 1002 = .ok (.iadd, 1) := by decide +kernel
theorem dL_law_1003 : decode cL_law 1003 = .ok (.iaload, 1) := by decide +kernel
theorem dL_law_1004 : decode cL_law 1004 = .ok (.invokevirtual 116, 3) := by decide +kernel
theorem dL_law_1007 : decode cL_law 1007 = .ok (.aload_n 2, 1) := by decide +kernel
theorem dL_law_1008 : decode cL_law 1008 = .ok (.aload_n 0, 1) := by decide +kernel
theorem dL_law_1009 : decode cL_law 1009 = .ok (.iload_n 3, 1) := by decide +kernel
theorem dL_law_1010 : decode cL_law 1010 = .ok (.iconst 1, 1) := by decide +kernel
theorem dL_law_1011 : decode cL_law 1011 = .ok (.iadd, 1) := by decide +kernel
theorem dL_law_1012 : decode cL_law 1012 = .ok (.iaload, 1) := by decide +kernel
theorem dL_law_1013 : decode cL_law 1013 = .ok (.invokevirtual 119, 3) := by decide +kernel
theorem dL_law_1016 : decode cL_law 1016 = .ok (.if_icmp .eq 190, 3) := by decide +kernel
theorem dL_law_1019 : decode cL_law 1019 = .ok (.iconst 0, 1) := by decide +kernel
theorem dL_law_1020 : decode cL_law 1020 = .ok (.ireturn, 1) := by decide +kernel
theorem dL_law_1021 : decode cL_law 1021 = .ok (.aload_n 1, 1) := by decide +kernel
theorem dL_law_1022 : decode cL_law 1022 = .ok (.aload_n 0, 1) := by decide +kernel
theorem dL_law_1023 : decode cL_law 1023 = .ok (.iload_n 3, 1) := by decide +kernel
theorem dL_law_1024 : decode cL_law 1024 = .ok (.iconst 1, 1) := by decide +kernel
theorem dL_law_1025 : decode cL_law 1025 = .ok (.iadd, 1) := by decide +kernel
theorem dL_law_1026 : decode cL_law 1026 = .ok (.iaload, 1) := by decide +kernel
theorem dL_law_1027 : decode cL_law 1027 = .ok (.aload_n 0, 1) := by decide +kernel
theorem dL_law_1028 : decode cL_law 1028 = .ok (.iload_n 3, 1) := by decide +kernel
theorem dL_law_1029 : decode cL_law 1029 = .ok (.iconst 2, 1) := by decide +kernel
theorem dL_law_1030 : decode cL_law 1030 = .ok (.iadd, 1) := by decide +kernel
theorem dL_law_1031 : decode cL_law 1031 = .ok (.iaload, 1) := by decide +kernel
theorem dL_law_1032 : decode cL_law 1032 = .ok (.aload_n 0, 1) := by decide +kernel
theorem dL_law_1033 : decode cL_law 1033 = .ok (.iload_n 3, 1) := by decide +kernel
theorem dL_law_1034 : decode cL_law 1034 = .ok (.iconst 3, 1) := by decide +kernel
theorem dL_law_1035 : decode cL_law 1035 = .ok (.iadd, 1) := by decide +kernel
theorem dL_law_1036 : decode cL_law 1036 = .ok (.iaload, 1) := by decide +kernel
theorem dL_law_1037 : decode cL_law 1037 = .ok (.invokevirtual 120, 3) := by decide +kernel
theorem dL_law_1040 : decode cL_law 1040 = .ok (.aload_n 2, 1) := by decide +kernel
theorem dL_law_1041 : decode cL_law 1041 = .ok (.aload_n 0, 1) := by decide +kernel
theorem dL_law_1042 : decode cL_law 1042 = .ok (.iload_n 3, 1) := by decide +kernel
theorem dL_law_1043 : decode cL_law 1043 = .ok (.iconst 1, 1) := by decide +kernel
theorem dL_law_1044 : decode cL_law 1044 = .ok (.iadd, 1) := by decide +kernel
theorem dL_law_1045 : decode cL_law 1045 = .ok (.iaload, 1) := by decide +kernel
theorem dL_law_1046 : decode cL_law 1046 = .ok (.aload_n 0, 1) := by decide +kernel
theorem dL_law_1047 : decode cL_law 1047 = .ok (.iload_n 3, 1) := by decide +kernel
theorem dL_law_1048 : decode cL_law 1048 = .ok (.iconst 2, 1) := by decide +kernel
theorem dL_law_1049 : decode cL_law 1049 = .ok (.iadd, 1) := by decide +kernel
theorem dL_law_1050 : decode cL_law 1050 = .ok (.iaload, 1) := by decide +kernel
theorem dL_law_1051 : decode cL_law 1051 = .ok (.aload_n 0, 1) := by decide +kernel
theorem dL_law_1052 : decode cL_law 1052 = .ok (.iload_n 3, 1) := by decide +kernel
theorem dL_law_1053 : decode cL_law 1053 = .ok (.iconst 3, 1) := by decide +kernel
theorem dL_law_1054 : decode cL_law 1054 = .ok (.iadd, 1) := by decide +kernel
theorem dL_law_1055 : decode cL_law 1055 = .ok (.iaload, 1) := by decide +kernel
theorem dL_law_1056 : decode cL_law 1056 = .ok (.invokevirtual 123, 3) := by decide +kernel
theorem dL_law_1059 : decode cL_law 1059 = .ok (.if_icmp .eq 147, 3) := by decide +kernel
theorem dL_law_1062 : decode cL_law 1062 = .ok (.iconst 0, 1) := by decide +kernel
theorem dL_law_1063 : decode cL_law 1063 = .ok (.ireturn, 1) := by decide +kernel
theorem dL_law_1064 : decode cL_law 1064 = .ok (.aload_n 1, 1) := by decide +kernel
theorem dL_law_1065 : decode cL_law 1065 = .ok (.aload_n 0, 1) := by decide +kernel
theorem dL_law_1066 : decode cL_law 1066 = .ok (.iload_n 3, 1) := by decide +kernel
theorem dL_law_1067 : decode cL_law 1067 = .ok (.iconst 1, 1) := by decide +kernel
theorem dL_law_1068 : decode cL_law 1068 = .ok (.iadd, 1) := by decide +kernel
theorem dL_law_1069 : decode cL_law 1069 = .ok (.iaload, 1) := by decide +kernel
theorem dL_law_1070 : decode cL_law 1070 = .ok (.aload_n 0, 1) := by decide +kernel
theorem dL_law_1071 : decode cL_law 1071 = .ok (.iload_n 3, 1) := by decide +kernel
theorem dL_law_1072 : decode cL_law 1072 = .ok (.iconst 2, 1) := by decide +kernel
theorem dL_law_1073 : decode cL_law 1073 = .ok (.iadd, 1) := by decide +kernel
theorem dL_law_1074 : decode cL_law 1074 = .ok (.iaload, 1) := by decide +kernel
theorem dL_law_1075 : decode cL_law 1075 = .ok (.aload_n 0, 1) := by decide +kernel
theorem dL_law_1076 : decode cL_law 1076 = .ok (.iload_n 3, 1) := by decide +kernel
theorem dL_law_1077 : decode cL_law 1077 = .ok (.iconst 3, 1) := by decide +kernel
theorem dL_law_1078 : decode cL_law 1078 = .ok (.iadd, 1) := by decide +kernel
theorem dL_law_1079 : decode cL_law 1079 = .ok (.iaload, 1) := by decide +kernel
theorem dL_law_1080 : decode cL_law 1080 = .ok (.invokevirtual 124, 3) := by decide +kernel
theorem dL_law_1083 : decode cL_law 1083 = .ok (.aload_n 2, 1) := by decide +kernel
theorem dL_law_1084 : decode cL_law 1084 = .ok (.aload_n 0, 1) := by decide +kernel
theorem dL_law_1085 : decode cL_law 1085 = .ok (.iload_n 3, 1) := by decide +kernel
theorem dL_law_1086 : decode cL_law 1086 = .ok (.iconst 1, 1) := by decide +kernel
theorem dL_law_1087 : decode cL_law 1087 = .ok (.iadd, 1) := by decide +kernel
theorem dL_law_1088 : decode cL_law 1088 = .ok (.iaload, 1) := by decide +kernel
theorem dL_law_1089 : decode cL_law 1089 = .ok (.aload_n 0, 1) := by decide +kernel
theorem dL_law_1090 : decode cL_law 1090 = .ok (.iload_n 3, 1) := by decide +kernel
theorem dL_law_1091 : decode cL_law 1091 = .ok (.iconst 2, 1) := by decide +kernel
theorem dL_law_1092 : decode cL_law 1092 = .ok (.iadd, 1) := by decide +kernel
theorem dL_law_1093 : decode cL_law 1093 = .ok (.iaload, 1) := by decide +kernel
theorem dL_law_1094 : decode cL_law 1094 = .ok (.aload_n 0, 1) := by decide +kernel
theorem dL_law_1095 : decode cL_law 1095 = .ok (.iload_n 3, 1) := by decide +kernel
theorem dL_law_1096 : decode cL_law 1096 = .ok (.iconst 3, 1) := by decide +kernel
theorem dL_law_1097 : decode cL_law 1097 = .ok (.iadd, 1) := by decide +kernel
theorem dL_law_1098 : decode cL_law 1098 = .ok (.iaload, 1) := by decide +kernel
theorem dL_law_1099 : decode cL_law 1099 = .ok (.invokevirtual 127, 3) := by decide +kernel
theorem dL_law_1102 : decode cL_law 1102 = .ok (.if_icmp .eq 104, 3) := by decide +kernel
theorem dL_law_1105 : decode cL_law 1105 = .ok (.iconst 0, 1) := by decide +kernel
theorem dL_law_1106 : decode cL_law 1106 = .ok (.ireturn, 1) := by decide +kernel
theorem dL_law_1107 : decode cL_law 1107 = .ok (.aload_n 1, 1) := by decide +kernel
theorem dL_law_1108 : decode cL_law 1108 = .ok (.aload_n 0, 1) := by decide +kernel
theorem dL_law_1109 : decode cL_law 1109 = .ok (.iload_n 3, 1) := by decide +kernel
theorem dL_law_1110 : decode cL_law 1110 = .ok (.iconst 1, 1) := by decide +kernel
theorem dL_law_1111 : decode cL_law 1111 = .ok (.iadd, 1) := by decide +kernel
theorem dL_law_1112 : decode cL_law 1112 = .ok (.iaload, 1) := by decide +kernel
theorem dL_law_1113 : decode cL_law 1113 = .ok (.aload_n 0, 1) := by decide +kernel
theorem dL_law_1114 : decode cL_law 1114 = .ok (.iload_n 3, 1) := by decide +kernel
theorem dL_law_1115 : decode cL_law 1115 = .ok (.iconst 2, 1) := by decide +kernel
theorem dL_law_1116 : decode cL_law 1116 = .ok (.iadd, 1) := by decide +kernel
theorem dL_law_1117 : decode cL_law 1117 = .ok (.iaload, 1) := by decide +kernel
theorem dL_law_1118 : decode cL_law 1118 = .ok (.aload_n 0, 1) := by decide +kernel
theorem dL_law_1119 : decode cL_law 1119 = .ok (.iload_n 3, 1) := by decide +kernel
theorem dL_law_1120 : decode cL_law 1120 = .ok (.iconst 3, 1) := by decide +kernel
theorem dL_law_1121 : decode cL_law 1121 = .ok (.iadd, 1) := by decide +kernel
theorem dL_law_1122 : decode cL_law 1122 = .ok (.iaload, 1) := by decide +kernel
theorem dL_law_1123 : decode cL_law 1123 = .ok (.invokevirtual 128, 3) := by decide +kernel
theorem dL_law_1126 : decode cL_law 1126 = .ok (.aload_n 2, 1) := by decide +kernel
theorem dL_law_1127 : decode cL_law 1127 = .ok (.aload_n 0, 1) := by decide +kernel
theorem dL_law_1128 : decode cL_law 1128 = .ok (.iload_n 3, 1) := by decide +kernel
theorem dL_law_1129 : decode cL_law 1129 = .ok (.iconst 1, 1) := by decide +kernel
theorem dL_law_1130 : decode cL_law 1130 = .ok (.iadd, 1) := by decide +kernel
theorem dL_law_1131 : decode cL_law 1131 = .ok (.iaload, 1) := by decide +kernel
theorem dL_law_1132 : decode cL_law 1132 = .ok (.aload_n 0, 1) := by decide +kernel
theorem dL_law_1133 : decode cL_law 1133 = .ok (.iload_n 3, 1) := by decide +kernel
theorem dL_law_1134 : decode cL_law 1134 = .ok (.iconst 2, 1) := by decide +kernel
theorem dL_law_1135 : decode cL_law 1135 = .ok (.iadd, 1) := by decide +kernel
theorem dL_law_1136 : decode cL_law 1136 = .ok (.iaload, 1) := by decide +kernel
theorem dL_law_1137 : decode cL_law 1137 = .ok (.aload_n 0, 1) := by decide +kernel
theorem dL_law_1138 : decode cL_law 1138 = .ok (.iload_n 3, 1) := by decide +kernel
theorem dL_law_1139 : decode cL_law 1139 = .ok (.iconst 3, 1) := by decide +kernel
theorem dL_law_1140 : decode cL_law 1140 = .ok (.iadd, 1) := by decide +kernel
theorem dL_law_1141 : decode cL_law 1141 = .ok (.iaload, 1) := by decide +kernel
theorem dL_law_1142 : decode cL_law 1142 = .ok (.invokevirtual 131, 3) := by decide +kernel
theorem dL_law_1145 : decode cL_law 1145 = .ok (.if_icmp .eq 61, 3) := by decide +kernel
theorem dL_law_1148 : decode cL_law 1148 = .ok (.iconst 0, 1) := by decide +kernel
theorem dL_law_1149 : decode cL_law 1149 = .ok (.ireturn, 1) := by decide +kernel
theorem dL_law_1150 : decode cL_law 1150 = .ok (.aload_n 1, 1) := by decide +kernel
theorem dL_law_1151 : decode cL_law 1151 = .ok (.aload_n 0, 1) := by decide +kernel
theorem dL_law_1152 : decode cL_law 1152 = .ok (.iload_n 3, 1) := by decide +kernel
theorem dL_law_1153 : decode cL_law 1153 = .ok (.iconst 1, 1) := by decide +kernel
theorem dL_law_1154 : decode cL_law 1154 = .ok (.iadd, 1) := by decide +kernel
theorem dL_law_1155 : decode cL_law 1155 = .ok (.iaload, 1) := by decide +kernel
theorem dL_law_1156 : decode cL_law 1156 = .ok (.aload_n 0, 1) := by decide +kernel
theorem dL_law_1157 : decode cL_law 1157 = .ok (.iload_n 3, 1) := by decide +kernel
theorem dL_law_1158 : decode cL_law 1158 = .ok (.iconst 2, 1) := by decide +kernel
theorem dL_law_1159 : decode cL_law 1159 = .ok (.iadd, 1) := by decide +kernel
theorem dL_law_1160 : decode cL_law 1160 = .ok (.iaload, 1) := by decide +kernel
theorem dL_law_1161 : decode cL_law 1161 = .ok (.aload_n 0, 1) := by decide +kernel
theorem dL_law_1162 : decode cL_law 1162 = .ok (.iload_n 3, 1) := by decide +kernel
theorem dL_law_1163 : decode cL_law 1163 = .ok (.iconst 3, 1) := by decide +kernel
theorem dL_law_1164 : decode cL_law 1164 = .ok (.iadd, 1) := by decide +kernel
theorem dL_law_1165 : decode cL_law 1165 = .ok (.iaload, 1) := by decide +kernel
theorem dL_law_1166 : decode cL_law 1166 = .ok (.invokevirtual 132, 3) := by decide +kernel
theorem dL_law_1169 : decode cL_law 1169 = .ok (.aload_n 2, 1) := by decide +kernel
theorem dL_law_1170 : decode cL_law 1170 = .ok (.aload_n 0, 1) := by decide +kernel
theorem dL_law_1171 : decode cL_law 1171 = .ok (.iload_n 3, 1) := by decide +kernel
theorem dL_law_1172 : decode cL_law 1172 = .ok (.iconst 1, 1) := by decide +kernel
theorem dL_law_1173 : decode cL_law 1173 = .ok (.iadd, 1) := by decide +kernel
theorem dL_law_1174 : decode cL_law 1174 = .ok (.iaload, 1) := by decide +kernel
theorem dL_law_1175 : decode cL_law 1175 = .ok (.aload_n 0, 1) := by decide +kernel
theorem dL_law_1176 : decode cL_law 1176 = .ok (.iload_n 3, 1) := by decide +kernel
theorem dL_law_1177 : decode cL_law 1177 = .ok (.iconst 2, 1) := by decide +kernel
theorem dL_law_1178 : decode cL_law 1178 = .ok (.iadd, 1) := by decide +kernel
theorem dL_law_1179 : decode cL_law 1179 = .ok (.iaload, 1) := by decide +kernel
theorem dL_law_1180 : decode cL_law 1180 = .ok (.aload_n 0, 1) := by decide +kernel
theorem dL_law_1181 : decode cL_law 1181 = .ok (.iload_n 3, 1) := by decide +kernel
theorem dL_law_1182 : decode cL_law 1182 = .ok (.iconst 3, 1) := by decide +kernel
theorem dL_law_1183 : decode cL_law 1183 = .ok (.iadd, 1) := by decide +kernel
theorem dL_law_1184 : decode cL_law 1184 = .ok (.iaload, 1) := by decide +kernel
theorem dL_law_1185 : decode cL_law 1185 = .ok (.invokevirtual 135, 3) := by decide +kernel
theorem dL_law_1188 : decode cL_law 1188 = .ok (.if_icmp .eq 18, 3) := by decide +kernel
theorem dL_law_1191 : decode cL_law 1191 = .ok (.iconst 0, 1) := by decide +kernel
theorem dL_law_1192 : decode cL_law 1192 = .ok (.ireturn, 1) := by decide +kernel
theorem dL_law_1193 : decode cL_law 1193 = .ok (.aload_n 1, 1) := by decide +kernel
theorem dL_law_1194 : decode cL_law 1194 = .ok (.invokevirtual 136, 3) := by decide +kernel
theorem dL_law_1197 : decode cL_law 1197 = .ok (.aload_n 2, 1) := by decide +kernel
theorem dL_law_1198 : decode cL_law 1198 = .ok (.invokevirtual 139, 3) := by decide +kernel
theorem dL_law_1201 : decode cL_law 1201 = .ok (.if_icmp .eq 5, 3) := by decide +kernel
theorem dL_law_1204 : decode cL_law 1204 = .ok (.iconst 0, 1) := by decide +kernel
theorem dL_law_1205 : decode cL_law 1205 = .ok (.ireturn, 1) := by decide +kernel
theorem dL_law_1206 : decode cL_law 1206 = .ok (.iinc 3 7, 3) := by decide +kernel
theorem dL_law_1209 : decode cL_law 1209 = .ok (.goto (-1191), 3) := by decide +kernel
theorem dL_law_1212 : decode cL_law 1212 = .ok (.iconst 1, 1) := by decide +kernel
theorem dL_law_1213 : decode cL_law 1213 = .ok (.ireturn, 1) := by decide +kernel
end
section
/-! A world whose cells, references and lengths stand still, and whose numbers move: what every method of the system works on once the objects are made. -/
abbrev gk_M : Type := (Nat → Nat → Int32) × (Nat → Int64)
abbrev gk_Y : Type := va_G × (Nat → ClassId) × List (Nat × Nat) × (Nat → Nat) × (Nat → Nat → Nat) × (Nat → Prop)
abbrev gk_D (Y : gk_Y) : va_G := Y.1
abbrev gk_cA (Y : gk_Y) : Nat → ClassId := Y.2.1
abbrev gk_L (Y : gk_Y) : List (Nat × Nat) := Y.2.2.1
abbrev gk_ln (Y : gk_Y) : Nat → Nat := Y.2.2.2.1
abbrev gk_rf (Y : gk_Y) : Nat → Nat → Nat := Y.2.2.2.2.1
abbrev gk_A (Y : gk_Y) : Nat → Prop := Y.2.2.2.2.2
def gk_wr (M : gk_M) (a k : Nat) (v : Int32) : gk_M := (fun b j => if b = a ∧ j = k then v else M.1 b j, M.2)
def gk_wl (M : gk_M) (a : Nat) (v : Int64) : gk_M := (M.1, fun b => if b = a then v else M.2 b)
/-- field kinds of the nine kinds of objects: 0 int, 1 long, 2 boolean, 10 and more: the tag of the cell that it refers to -/
def gk_tab : List (List Nat) := [[100, 0, 0, 0, 0, 0], [0, 0, 0, 0, 0, 0, 0, 0, 0, 0, 1], [16, 101, 100, 100, 100, 100, 100, 0, 0, 0, 0], [16, 103, 100, 100, 0, 0, 0, 0], [100, 100, 100], [0, 0, 0, 0, 0, 2], [102, 0], [12, 12, 13, 10, 14, 100, 0, 2, 0, 0], [100, 100, 100, 100, 100, 100, 100, 100, 100, 100, 100, 100, 100, 100, 100, 100, 100, 100, 100, 100, 100, 100, 100, 2, 0, 0, 100, 100, 0, 100, 100, 100, 0, 0, 100, 100, 0, 100, 100, 100]]
def gk_ft (t k : Nat) : Nat := (gk_tab.getD (t - 10) []).getD k 0
def gk_nf (t : Nat) : Nat := (gk_tab.getD (t - 10) []).length
def gk_el (t : Nat) : Nat := ([0, 11, 15, 12] : List Nat).getD (t - 100) 0
def gk_fv (rf : Nat → Nat → Nat) (M : gk_M) (a f k : Nat) : Value := if f = 1 then .long (M.2 a) else if f < 10 then .int (M.1 a k) else .ref (rf a k)
def gk_fs (rf : Nat → Nat → Nat) (M : gk_M) (a t : Nat) : List Value := (List.range (gk_nf t)).map fun k => gk_fv rf M a (gk_ft t k) k
def gk_ce (Y : gk_Y) (M : gk_M) (a t : Nat) : va_E := if t < 100 then .inr (t - 10, gk_fs (gk_rf Y) M a t) else if t = 100 then .inl (gk_cA Y 100, gk_ln Y a, .inl (M.1 a)) else .inl (gk_cA Y t, gk_ln Y a, .inr (.inr (.inr (.inr (fun j => some (gk_rf Y a j))))))
def gk_ws (Y : gk_Y) (M : gk_M) : va_W := (gk_L Y).map fun q => (q.1, gk_ce Y M q.1 q.2)
def gk_ty (Y : gk_Y) : List (ClassId × FieldType) := [(gk_cA Y 100, .int), (gk_cA Y 101, .object "WishLine$Call"), (gk_cA Y 102, .object "WishLine$Wish"), (gk_cA Y 103, .object "WishLine$House")]
def gk_T (Y : gk_Y) (t a : Nat) : Prop := (a, t) ∈ gk_L Y
def gk_WF (Y : gk_Y) : Prop := (∀ (i j : Nat) (p q : Nat × Nat), (gk_L Y)[i]? = some p → (gk_L Y)[j]? = some q → p.1 = q.1 → i = j) ∧ (∀ q ∈ gk_L Y, gk_A Y q.1) ∧
  (∀ a t k : Nat, gk_T Y t a → t < 100 → k < gk_nf t → 10 ≤ gk_ft t k → gk_T Y (gk_ft t k) (gk_rf Y a k)) ∧ (∀ a t i : Nat, gk_T Y t a → 100 < t → i < gk_ln Y a → gk_T Y (gk_el t) (gk_rf Y a i))
theorem gk_fs_at {rf : Nat → Nat → Nat} {M : gk_M} {a t k : Nat} (hk : k < gk_nf t) : (gk_fs rf M a t)[k]? = some (gk_fv rf M a (gk_ft t k) k) := by
  simp [gk_fs, hk]
theorem gk_ws_at {Y : gk_Y} {M : gk_M} {a t : Nat} (h : gk_T Y t a) : ∃ q0 : Nat, (gk_L Y)[q0]? = some (a, t) ∧ (gk_ws Y M)[q0]? = some (a, gk_ce Y M a t) := by
  obtain ⟨q0, hq⟩ := List.getElem?_of_mem h
  exact ⟨q0, hq, by simp [gk_ws, hq]⟩
theorem gk_WD {Y : gk_Y} {M : gk_M} (hY : gk_WF Y) : va_D (gk_A Y) (gk_ws Y M) := by
  obtain ⟨h1, h2, -, -⟩ := hY
  refine ⟨fun i j p q hp hq he => ?_, fun k q hq => ?_⟩
  · simp only [gk_ws, List.getElem?_map, Option.map_eq_some_iff] at hp hq
    obtain ⟨p', hp', rfl⟩ := hp
    obtain ⟨q', hq', rfl⟩ := hq
    exact h1 i j p' q' hp' hq' he
  · simp only [gk_ws, List.getElem?_map, Option.map_eq_some_iff] at hq
    obtain ⟨q', hq', rfl⟩ := hq
    exact h2 q' (List.mem_of_getElem? hq')
/-- one cell anew -/
theorem gk_ws_set {Y : gk_Y} {M M' : gk_M} (hY : gk_WF Y) {q0 a t : Nat} {e : va_E} (hq : (gk_L Y)[q0]? = some (a, t)) (he : gk_ce Y M' a t = e) (ho : ∀ b u, b ≠ a → gk_ce Y M' b u = gk_ce Y M b u) : (gk_ws Y M).set q0 (a, e) = gk_ws Y M' := by
  apply List.ext_getElem?
  intro i
  rw [List.getElem?_set]
  by_cases hi : q0 = i
  · subst hi
    have hl : q0 < (gk_L Y).length := (List.getElem?_eq_some_iff.mp hq).1
    have hl2 : q0 < (gk_ws Y M).length := by unfold gk_ws; rw [List.length_map]; exact hl
    rw [if_pos rfl, if_pos hl2]
    unfold gk_ws
    rw [List.getElem?_map, hq, ← he]; rfl
  · rw [if_neg hi]
    simp only [gk_ws, List.getElem?_map]
    cases hL : (gk_L Y)[i]? with
    | none => rfl
    | some p =>
      have hne : p.1 ≠ a := fun h => hi (hY.1 q0 i (a, t) p hq hL h.symm)
      simp [ho p.1 p.2 hne]
theorem gk_fs_wr {rf : Nat → Nat → Nat} {M : gk_M} {a t k : Nat} {v : Int32} (h1 : gk_ft t k ≠ 1) (h2 : gk_ft t k < 10) : gk_fs rf (gk_wr M a k v) a t = (gk_fs rf M a t).set k (.int v) := by
  apply List.ext_getElem?
  intro i
  rw [List.getElem?_set]
  by_cases hi : k = i
  · subst hi
    by_cases hk : k < gk_nf t
    · simp [gk_fs, hk, gk_fv, h1, h2, gk_wr]
    · simp [gk_fs, hk]
  · rw [if_neg hi]
    by_cases hk : i < gk_nf t
    · have hik : ¬ i = k := fun h => hi h.symm
      simp [gk_fs, hk, gk_fv, gk_wr, hik]
    · simp [gk_fs, hk]
theorem gk_ce_wr {Y : gk_Y} {M : gk_M} {a k b u : Nat} {v : Int32} (h : b ≠ a) : gk_ce Y (gk_wr M a k v) b u = gk_ce Y M b u := by
  simp [gk_ce, gk_fs, gk_fv, gk_wr, h]
theorem gk_ce_wl {Y : gk_Y} {M : gk_M} {a b u : Nat} {v : Int64} (h : b ≠ a) : gk_ce Y (gk_wl M a v) b u = gk_ce Y M b u := by
  simp [gk_ce, gk_fs, gk_fv, gk_wl, h]
theorem gk_ft11 : ∀ i, i < 11 → (gk_ft 11 i = 1 ↔ i = 10) := by decide +kernel
theorem gk_fs_wl {rf : Nat → Nat → Nat} {M : gk_M} {a : Nat} {v : Int64} : gk_fs rf (gk_wl M a v) a 11 = (gk_fs rf M a 11).set 10 (.long v) := by
  apply List.ext_getElem?
  intro i
  rw [List.getElem?_set]
  have hn : gk_nf 11 = 11 := by decide +kernel
  by_cases hi : 10 = i
  · subst hi
    have h1 : gk_ft 11 10 = 1 := by decide +kernel
    simp [gk_fs, hn, gk_fv, gk_wl, h1]
  · rw [if_neg hi]
    by_cases hk : i < 11
    · have h1 : gk_ft 11 i ≠ 1 := fun h => hi ((gk_ft11 i hk).mp h).symm
      simp [gk_fs, hn, hk, gk_fv, gk_wl, h1]
    · simp [gk_fs, hn, hk]
theorem gk_cls : ∀ (ci : Nat) (C : String) (T : u_T) (N : Nat), vwCl[ci]? = some (C, T, N) → (∀ w ∈ u_ws C T N, w ∈ gk_U) ∧ ∃ ty : Nat → FieldType, (∀ k, k < N → parseFieldDescriptor (T k).2.2.1 = some (ty k)) ∧ ∀ a, a < N → ∀ b, b < N → a ≠ b → (T a).2.1 ≠ (T b).2.1
  | 0, _, _, _, h => by cases (show (RX0, TX0, 6) = _ from Option.some.inj h); exact ⟨inX0, tyX0, tyX0_ok, nmX0⟩
  | 1, _, _, _, h => by cases (show (RX1, TX1, 11) = _ from Option.some.inj h); exact ⟨inX1, tyX1, tyX1_ok, nmX1⟩
  | 2, _, _, _, h => by cases (show (RX2, TX2, 11) = _ from Option.some.inj h); exact ⟨inX2, tyX2, tyX2_ok, nmX2⟩
  | 3, _, _, _, h => by cases (show (RX3, TX3, 8) = _ from Option.some.inj h); exact ⟨inX3, tyX3, tyX3_ok, nmX3⟩
  | 4, _, _, _, h => by cases (show (RX4, TX4, 3) = _ from Option.some.inj h); exact ⟨inX4, tyX4, tyX4_ok, nmX4⟩
  | 5, _, _, _, h => by cases (show (RX5, TX5, 6) = _ from Option.some.inj h); exact ⟨inX5, tyX5, tyX5_ok, nmX5⟩
  | 6, _, _, _, h => by cases (show (RX6, TX6, 2) = _ from Option.some.inj h); exact ⟨inX6, tyX6, tyX6_ok, nmX6⟩
  | 7, _, _, _, h => by cases (show (RX7, TX7, 10) = _ from Option.some.inj h); exact ⟨inX7, tyX7, tyX7_ok, nmX7⟩
  | 8, _, _, _, h => by cases (show (RX8, TX8, 40) = _ from Option.some.inj h); exact ⟨inX8, tyX8, tyX8_ok, nmX8⟩
  | _ + 9, _, _, _, h => by cases h
/-- a field link: in the code of 'own' the pool's entry idx is field k, of kind f, of the objects of tag t -/
def gk_FL (own : String) (idx t k f : Nat) : Prop := ∃ (C : String) (T : u_T) (N : Nat), vwCl[t - 10]? = some (C, T, N) ∧ t < 100 ∧ N = gk_nf t ∧ k < N ∧ gk_ft t k = f ∧ Cond.fieldLink own idx (T k).1 (T k).2.1 (T k).2.2.1 ∈ gk_U
/-- .. that may be written -/
def gk_FP (own : String) (idx t k f : Nat) (ty : FieldType) : Prop := ∃ (C : String) (T : u_T) (N : Nat), vwCl[t - 10]? = some (C, T, N) ∧ t < 100 ∧ N = gk_nf t ∧ k < N ∧ gk_ft t k = f ∧ Cond.fieldLink own idx (T k).1 (T k).2.1 (T k).2.2.1 ∈ gk_U ∧ (T k).2.2.2 = false ∧ parseFieldDescriptor (T k).2.2.1 = some ty
end
section
/-! The judgement over such a world: 'gk_K Z Y nL ρ pc lv st M k': from this frame the machine comes to its end as 'k' tells, where k tells anything at all. A rule an instruction. -/
abbrev gk_Z : Type := Program × Launch × Env × Room × State × MethodId × Array Value × List Frame × Method × Code × Nat × Nat × ((Option Value × gk_M) → State → Prop)
def gk_G : gk_Z → gk_Y → (Option Value × gk_M) → Nat → Nat → List (Nat × Value) → List Value → gk_M → Prop
  | (p, l, e, R, s, m, args, below, meth, c, cells, slots, Qf), Y, x, nL, pc, lv, st, M => ∀ (ls : Array Slot) (H : Heap) (locs : List Loc), lv_has ls nL lv → va_P (gk_D Y) vwCl (gk_ws Y M) H → va_S (gk_A Y) s.heap H locs → W p l e R s m args below meth c H locs cells slots (Qf x) (F0 m pc ls st)
def gk_K (Z : gk_Z) (Y : gk_Y) (nL : Nat) {α : Type} (ρ : α → Option Value × gk_M) (pc : Nat) (lv : List (Nat × Value)) (st : List Value) (M : gk_M) (k : Option α) : Prop := ∀ x, k = some x → gk_G Z Y (ρ x) nL pc lv st M
/-- what the rules need of the frame: machine, code, words, room for d frames more -/
def gk_C : gk_Z → gk_Y → ByteArray → Nat → String → Nat → Prop
  | (p, _, _, R, s, m, args, _, _, c, cells, slots, _), Y, cc, nL, own, d => p.tables.exec = Jvm.exec ∧ c.code = cc ∧ c.maxLocals = nL ∧ s.vm.findClass own = some m.cls ∧ (∀ w ∈ gk_U, w.before args s = true) ∧ va_K (gk_D Y) vwCl (gk_ty Y) s ∧ gk_WF Y ∧ d ≤ R.frames ∧ 40 * d ≤ R.locals ∧ cells ≤ R.cells ∧ slots ≤ R.slots
def gk_Q (Y : gk_Y) (x : Option Value × gk_M) : Array Value → State → Outcome → State → Prop := fun _ st oc t => oc = .returned x.1 ∧ va_P (gk_D Y) vwCl (gk_ws Y x.2) t.heap ∧ va_K (gk_D Y) vwCl (gk_ty Y) t ∧ va_F (gk_A Y) st t
/-- .. and of a method's end -/
def gk_R : gk_Z → gk_Y → Option FieldType → Prop
  | (_, _, _, _, s, _, args, below, meth, _, cells, slots, Qf), Y, ret => Qf = (fun x => MQ below (gk_Q Y x) args s 0 0 (gk_A Y)) ∧ cells = 0 ∧ slots = 0 ∧ meth.sig.returnType = ret ∧ meth.locks = false
section GKR
variable {Z : gk_Z} {Y : gk_Y} {cc : ByteArray} {nL d pc q : Nat} {own : String} {α : Type} {ρ : α → Option Value × gk_M} {lv lv' : List (Nat × Value)} {st : List Value} {M : gk_M} {k k1 k2 : Option α}
theorem gk_none : gk_K Z Y nL ρ pc lv st M none := fun _ h => by cases h
/-- a step that keeps heap and locals -/
theorem gk_go {st' : List Value} (hC : gk_C Z Y cc nL own d) (h : gk_K Z Y nL ρ q lv st' M k)
    (w : ∀ (p : Program) (l : Launch) (e : Env) (R : Room) (s : State) (m : MethodId) (args : Array Value) (below : List Frame) (meth : Method) (c : Code) (H : Heap) (locs : List Loc) (cells slots : Nat) (Q : State → Prop) (ls : Array Slot), p.tables.exec = Jvm.exec → c.code = cc → s.vm.findClass own = some m.cls → (∀ w ∈ gk_U, w.before args s = true) → lv_has ls nL lv → W p l e R s m args below meth c H locs cells slots Q (F0 m q ls st') → W p l e R s m args below meth c H locs cells slots Q (F0 m pc ls st)) : gk_K Z Y nL ρ pc lv st M k := by
  obtain ⟨p, l, e, R, s, m, args, below, meth, c, cells, slots, Qf⟩ := Z
  obtain ⟨hx, hb, -, hown, hts, -⟩ := hC
  intro x hk ls H locs hl hP hS
  exact w p l e R s m args below meth c H locs cells slots _ ls hx hb hown hts hl (h x hk ls H locs hl hP hS)
theorem gk_iconst (hC : gk_C Z Y cc nL own d) {n : Int} {v : Int32} (hd : decode cc pc = .ok (.iconst n, 1)) (hv : Int32.ofInt n = v) (hq : pc + 1 = q) (h : gk_K Z Y nL ρ q lv (.int v :: st) M k) : gk_K Z Y nL ρ pc lv st M k := by
  subst hq; exact gk_go hC h fun p l e R s m args below meth c H locs cells slots Q ls hx hb _ _ _ => lv_iconst hx hb hd hv
theorem gk_bipush (hC : gk_C Z Y cc nL own d) {n : Int} {v : Int32} (hd : decode cc pc = .ok (.bipush n, 2)) (hv : (Int8.ofInt n).toInt32 = v) (hq : pc + 2 = q) (h : gk_K Z Y nL ρ q lv (.int v :: st) M k) : gk_K Z Y nL ρ pc lv st M k := by
  subst hq; exact gk_go hC h fun p l e R s m args below meth c H locs cells slots Q ls hx hb _ _ _ => lv_bipush hx hb hd hv
theorem gk_sipush (hC : gk_C Z Y cc nL own d) {n : Int} {v : Int32} (hd : decode cc pc = .ok (.sipush n, 3)) (hv : (Int16.ofInt n).toInt32 = v) (hq : pc + 3 = q) (h : gk_K Z Y nL ρ q lv (.int v :: st) M k) : gk_K Z Y nL ρ pc lv st M k := by
  subst hq; exact gk_go hC h fun p l e R s m args below meth c H locs cells slots Q ls hx hb _ _ _ => lv_sipush hx hb hd hv
theorem gk_lconst (hC : gk_C Z Y cc nL own d) {n : Fin 2} {v : Int64} (hd : decode cc pc = .ok (.lconst n, 1)) (hv : Int64.ofNat (n : Nat) = v) (hq : pc + 1 = q) (h : gk_K Z Y nL ρ q lv (.long v :: st) M k) : gk_K Z Y nL ρ pc lv st M k := by
  subst hq; exact gk_go hC h fun p l e R s m args below meth c H locs cells slots Q ls hx hb _ _ _ => lv_lconst hx hb hd hv
theorem gk_ldc2 (hC : gk_C Z Y cc nL own d) {idx : Nat} {v : Int64} (hw : Cond.constantLong own idx v ∈ gk_U) (hd : decode cc pc = .ok (.ldc2_w idx, 3)) (hq : pc + 3 = q) (h : gk_K Z Y nL ρ q lv (.long v :: st) M k) : gk_K Z Y nL ρ pc lv st M k := by
  subst hq; exact gk_go hC h fun p l e R s m args below meth c H locs cells slots Q ls hx hb hown hts _ => lv_ldc2 hx hb hown (hts _ hw) hd
theorem gk_ldcw (hC : gk_C Z Y cc nL own d) {idx : Nat} {v : Int32} (hw : Cond.constant own idx v ∈ gk_U) (hd : decode cc pc = .ok (.ldc_w idx, 3)) (hq : pc + 3 = q) (h : gk_K Z Y nL ρ q lv (.int v :: st) M k) : gk_K Z Y nL ρ pc lv st M k := by
  subst hq; exact gk_go hC h fun p l e R s m args below meth c H locs cells slots Q ls hx hb hown hts _ => lv_ldcw hx hb hown (hts _ hw) hd
theorem gk_iload_n (hC : gk_C Z Y cc nL own d) {i : Fin 4} {x : Int32} (n : Nat) (hd : decode cc pc = .ok (.iload_n i, 1)) (hl : lv[n]? = some ((i : Nat), .int x)) (hq : pc + 1 = q) (h : gk_K Z Y nL ρ q lv (.int x :: st) M k) : gk_K Z Y nL ρ pc lv st M k := by
  subst hq; exact gk_go hC h fun p l e R s m args below meth c H locs cells slots Q ls hx hb _ _ hh => lv_iload_n hx hb hd rfl (lv_at hh n hl)
theorem gk_iload (hC : gk_C Z Y cc nL own d) {i : Nat} {x : Int32} (n : Nat) (hd : decode cc pc = .ok (.iload i, 2)) (hl : lv[n]? = some (i, .int x)) (hq : pc + 2 = q) (h : gk_K Z Y nL ρ q lv (.int x :: st) M k) : gk_K Z Y nL ρ pc lv st M k := by
  subst hq; exact gk_go hC h fun p l e R s m args below meth c H locs cells slots Q ls hx hb _ _ hh => lv_iload hx hb hd (lv_at hh n hl)
theorem gk_aload_n (hC : gk_C Z Y cc nL own d) {i : Fin 4} {x : Nat} (n : Nat) (hd : decode cc pc = .ok (.aload_n i, 1)) (hl : lv[n]? = some ((i : Nat), .ref x)) (hq : pc + 1 = q) (h : gk_K Z Y nL ρ q lv (.ref x :: st) M k) : gk_K Z Y nL ρ pc lv st M k := by
  subst hq; exact gk_go hC h fun p l e R s m args below meth c H locs cells slots Q ls hx hb _ _ hh => lv_aload_n hx hb hd rfl (lv_at hh n hl)
theorem gk_aload (hC : gk_C Z Y cc nL own d) {i : Nat} {x : Nat} (n : Nat) (hd : decode cc pc = .ok (.aload i, 2)) (hl : lv[n]? = some (i, .ref x)) (hq : pc + 2 = q) (h : gk_K Z Y nL ρ q lv (.ref x :: st) M k) : gk_K Z Y nL ρ pc lv st M k := by
  subst hq; exact gk_go hC h fun p l e R s m args below meth c H locs cells slots Q ls hx hb _ _ hh => lv_aload hx hb hd (lv_at hh n hl)
theorem gk_lload_n (hC : gk_C Z Y cc nL own d) {i : Fin 4} {x : Int64} (n : Nat) (hd : decode cc pc = .ok (.lload_n i, 1)) (hl : lv[n]? = some ((i : Nat), .long x)) (hq : pc + 1 = q) (h : gk_K Z Y nL ρ q lv (.long x :: st) M k) : gk_K Z Y nL ρ pc lv st M k := by
  subst hq; exact gk_go hC h fun p l e R s m args below meth c H locs cells slots Q ls hx hb _ _ hh => lv_lload_n hx hb hd rfl (lv_at hh n hl)
theorem gk_lload (hC : gk_C Z Y cc nL own d) {i : Nat} {x : Int64} (n : Nat) (hd : decode cc pc = .ok (.lload i, 2)) (hl : lv[n]? = some (i, .long x)) (hq : pc + 2 = q) (h : gk_K Z Y nL ρ q lv (.long x :: st) M k) : gk_K Z Y nL ρ pc lv st M k := by
  subst hq; exact gk_go hC h fun p l e R s m args below meth c H locs cells slots Q ls hx hb _ _ hh => lv_lload hx hb hd (lv_at hh n hl)
/-- a store: the new list of locals by places of the old -/
abbrev gk_sl (i : Nat) (v : Value) (lv : List (Nat × Value)) (ps : List Nat) : List (Nat × Value) := lv_pick ((i, v) :: lv.filter (fun q => !(q.1 == i) && !(q.1 + 1 == i && q.2.category == 2))) ps
theorem gk_istore_n (hC : gk_C Z Y cc nL own d) {i : Fin 4} {x : Int32} (ps : List Nat) (hd : decode cc pc = .ok (.istore_n i, 1)) (hn : (i : Nat) < nL) (hl : gk_sl i (.int x) lv ps = lv') (hq : pc + 1 = q) (h : gk_K Z Y nL ρ q lv' st M k) : gk_K Z Y nL ρ pc lv (.int x :: st) M k := by
  subst hq
  obtain ⟨p, l, e, R, s, m, args, below, meth, c, cells, slots, Qf⟩ := Z
  obtain ⟨hx, hb, -⟩ := hC
  intro y hk ls H locs hh hP hS
  exact lv_istore_n hx hb hd rfl hh hn rfl fun ls' h' => h y hk ls' H locs (lv_sub h' ps hl) hP hS
theorem gk_istore (hC : gk_C Z Y cc nL own d) {i : Nat} {x : Int32} (ps : List Nat) (hd : decode cc pc = .ok (.istore i, 2)) (hn : i < nL) (hl : gk_sl i (.int x) lv ps = lv') (hq : pc + 2 = q) (h : gk_K Z Y nL ρ q lv' st M k) : gk_K Z Y nL ρ pc lv (.int x :: st) M k := by
  subst hq
  obtain ⟨p, l, e, R, s, m, args, below, meth, c, cells, slots, Qf⟩ := Z
  obtain ⟨hx, hb, -⟩ := hC
  intro y hk ls H locs hh hP hS
  exact lv_istore hx hb hd hh hn rfl fun ls' h' => h y hk ls' H locs (lv_sub h' ps hl) hP hS
theorem gk_astore_n (hC : gk_C Z Y cc nL own d) {i : Fin 4} {x : Nat} (ps : List Nat) (hd : decode cc pc = .ok (.astore_n i, 1)) (hn : (i : Nat) < nL) (hl : gk_sl i (.ref x) lv ps = lv') (hq : pc + 1 = q) (h : gk_K Z Y nL ρ q lv' st M k) : gk_K Z Y nL ρ pc lv (.ref x :: st) M k := by
  subst hq
  obtain ⟨p, l, e, R, s, m, args, below, meth, c, cells, slots, Qf⟩ := Z
  obtain ⟨hx, hb, -⟩ := hC
  intro y hk ls H locs hh hP hS
  exact lv_astore_n hx hb hd rfl hh hn rfl fun ls' h' => h y hk ls' H locs (lv_sub h' ps hl) hP hS
theorem gk_astore (hC : gk_C Z Y cc nL own d) {i : Nat} {x : Nat} (ps : List Nat) (hd : decode cc pc = .ok (.astore i, 2)) (hn : i < nL) (hl : gk_sl i (.ref x) lv ps = lv') (hq : pc + 2 = q) (h : gk_K Z Y nL ρ q lv' st M k) : gk_K Z Y nL ρ pc lv (.ref x :: st) M k := by
  subst hq
  obtain ⟨p, l, e, R, s, m, args, below, meth, c, cells, slots, Qf⟩ := Z
  obtain ⟨hx, hb, -⟩ := hC
  intro y hk ls H locs hh hP hS
  exact lv_astore hx hb hd hh hn rfl fun ls' h' => h y hk ls' H locs (lv_sub h' ps hl) hP hS
theorem gk_iinc (hC : gk_C Z Y cc nL own d) {i : Nat} {n : Int} {x v : Int32} (pl : Nat) (ps : List Nat) (hd : decode cc pc = .ok (.iinc i n, 3)) (hi : lv[pl]? = some (i, .int x)) (hv : Int32.ofInt n = v) (hn : i < nL) (hl : gk_sl i (.int (x + v)) lv ps = lv') (hq : pc + 3 = q) (h : gk_K Z Y nL ρ q lv' st M k) : gk_K Z Y nL ρ pc lv st M k := by
  subst hq; subst hv
  obtain ⟨p, l, e, R, s, m, args, below, meth, c, cells, slots, Qf⟩ := Z
  obtain ⟨hx, hb, -⟩ := hC
  intro y hk ls H locs hh hP hS
  exact lv_iinc hx hb hd hh hi rfl hn rfl fun ls' h' => h y hk ls' H locs (lv_sub h' ps hl) hP hS
/-- fewer locals -/
theorem gk_pick (ps : List Nat) (hl : lv_pick lv ps = lv') (h : gk_K Z Y nL ρ pc lv' st M k) : gk_K Z Y nL ρ pc lv st M k := by
  obtain ⟨p, l, e, R, s, m, args, below, meth, c, cells, slots, Qf⟩ := Z
  intro y hk ls H locs hh hP hS
  exact h y hk ls H locs (lv_sub hh ps hl) hP hS
theorem gk_iadd (hC : gk_C Z Y cc nL own d) {x y : Int32} (hd : decode cc pc = .ok (.iadd, 1)) (hq : pc + 1 = q) (h : gk_K Z Y nL ρ q lv (.int (x + y) :: st) M k) : gk_K Z Y nL ρ pc lv (.int y :: .int x :: st) M k := by
  subst hq; exact gk_go hC h fun p l e R s m args below meth c H locs cells slots Q ls hx hb _ _ _ => lv_iadd hx hb hd
theorem gk_isub (hC : gk_C Z Y cc nL own d) {x y : Int32} (hd : decode cc pc = .ok (.isub, 1)) (hq : pc + 1 = q) (h : gk_K Z Y nL ρ q lv (.int (x - y) :: st) M k) : gk_K Z Y nL ρ pc lv (.int y :: .int x :: st) M k := by
  subst hq; exact gk_go hC h fun p l e R s m args below meth c H locs cells slots Q ls hx hb _ _ _ => lv_isub hx hb hd
theorem gk_imul (hC : gk_C Z Y cc nL own d) {x y : Int32} (hd : decode cc pc = .ok (.imul, 1)) (hq : pc + 1 = q) (h : gk_K Z Y nL ρ q lv (.int (x * y) :: st) M k) : gk_K Z Y nL ρ pc lv (.int y :: .int x :: st) M k := by
  subst hq; exact gk_go hC h fun p l e R s m args below meth c H locs cells slots Q ls hx hb _ _ _ => lv_imul hx hb hd
theorem gk_iand (hC : gk_C Z Y cc nL own d) {x y : Int32} (hd : decode cc pc = .ok (.iand, 1)) (hq : pc + 1 = q) (h : gk_K Z Y nL ρ q lv (.int (x &&& y) :: st) M k) : gk_K Z Y nL ρ pc lv (.int y :: .int x :: st) M k := by
  subst hq; exact gk_go hC h fun p l e R s m args below meth c H locs cells slots Q ls hx hb _ _ _ => lv_iand hx hb hd
theorem gk_ior (hC : gk_C Z Y cc nL own d) {x y : Int32} (hd : decode cc pc = .ok (.ior, 1)) (hq : pc + 1 = q) (h : gk_K Z Y nL ρ q lv (.int (x ||| y) :: st) M k) : gk_K Z Y nL ρ pc lv (.int y :: .int x :: st) M k := by
  subst hq; exact gk_go hC h fun p l e R s m args below meth c H locs cells slots Q ls hx hb _ _ _ => lv_ior hx hb hd
theorem gk_ixor (hC : gk_C Z Y cc nL own d) {x y : Int32} (hd : decode cc pc = .ok (.ixor, 1)) (hq : pc + 1 = q) (h : gk_K Z Y nL ρ q lv (.int (x ^^^ y) :: st) M k) : gk_K Z Y nL ρ pc lv (.int y :: .int x :: st) M k := by
  subst hq; exact gk_go hC h fun p l e R s m args below meth c H locs cells slots Q ls hx hb _ _ _ => lv_ixor hx hb hd
theorem gk_ishl (hC : gk_C Z Y cc nL own d) {x y : Int32} (hd : decode cc pc = .ok (.ishl, 1)) (hq : pc + 1 = q) (h : gk_K Z Y nL ρ q lv (.int (x <<< (y &&& 31)) :: st) M k) : gk_K Z Y nL ρ pc lv (.int y :: .int x :: st) M k := by
  subst hq; exact gk_go hC h fun p l e R s m args below meth c H locs cells slots Q ls hx hb _ _ _ => lv_ishl hx hb hd
theorem gk_ishr (hC : gk_C Z Y cc nL own d) {x y : Int32} (hd : decode cc pc = .ok (.ishr, 1)) (hq : pc + 1 = q) (h : gk_K Z Y nL ρ q lv (.int (x >>> (y &&& 31)) :: st) M k) : gk_K Z Y nL ρ pc lv (.int y :: .int x :: st) M k := by
  subst hq; exact gk_go hC h fun p l e R s m args below meth c H locs cells slots Q ls hx hb _ _ _ => lv_ishr hx hb hd
theorem gk_iushr (hC : gk_C Z Y cc nL own d) {x y : Int32} (hd : decode cc pc = .ok (.iushr, 1)) (hq : pc + 1 = q) (h : gk_K Z Y nL ρ q lv (.int (x.toUInt32 >>> (y.toUInt32 &&& Int32.toUInt32 31)).toInt32 :: st) M k) : gk_K Z Y nL ρ pc lv (.int y :: .int x :: st) M k := by
  subst hq; exact gk_go hC h fun p l e R s m args below meth c H locs cells slots Q ls hx hb _ _ _ => lv_iushr hx hb hd rfl
theorem gk_idiv (hC : gk_C Z Y cc nL own d) {x y : Int32} (hd : decode cc pc = .ok (.idiv, 1)) (hy : ¬ y = 0) (hq : pc + 1 = q) (h : gk_K Z Y nL ρ q lv (.int (x / y) :: st) M k) : gk_K Z Y nL ρ pc lv (.int y :: .int x :: st) M k := by
  subst hq; exact gk_go hC h fun p l e R s m args below meth c H locs cells slots Q ls hx hb _ _ _ => lv_idiv hx hb hd hy
theorem gk_irem (hC : gk_C Z Y cc nL own d) {x y : Int32} (hd : decode cc pc = .ok (.irem, 1)) (hy : ¬ y = 0) (hq : pc + 1 = q) (h : gk_K Z Y nL ρ q lv (.int (x - x / y * y) :: st) M k) : gk_K Z Y nL ρ pc lv (.int y :: .int x :: st) M k := by
  subst hq; exact gk_go hC h fun p l e R s m args below meth c H locs cells slots Q ls hx hb _ _ _ => lv_irem hx hb hd hy
/-- a guard on the divisor -/
theorem gk_nz {y : Int32} (h : ¬ y = 0 → gk_K Z Y nL ρ pc lv st M k) : gk_K Z Y nL ρ pc lv st M (if y = 0 then none else k) := by
  by_cases hy : y = 0
  · rw [if_pos hy]; exact gk_none
  · rw [if_neg hy]; exact h hy
theorem gk_ladd (hC : gk_C Z Y cc nL own d) {x y : Int64} (hd : decode cc pc = .ok (.ladd, 1)) (hq : pc + 1 = q) (h : gk_K Z Y nL ρ q lv (.long (x + y) :: st) M k) : gk_K Z Y nL ρ pc lv (.long y :: .long x :: st) M k := by
  subst hq; exact gk_go hC h fun p l e R s m args below meth c H locs cells slots Q ls hx hb _ _ _ => lv_ladd hx hb hd
theorem gk_land (hC : gk_C Z Y cc nL own d) {x y : Int64} (hd : decode cc pc = .ok (.land, 1)) (hq : pc + 1 = q) (h : gk_K Z Y nL ρ q lv (.long (x &&& y) :: st) M k) : gk_K Z Y nL ρ pc lv (.long y :: .long x :: st) M k := by
  subst hq; exact gk_go hC h fun p l e R s m args below meth c H locs cells slots Q ls hx hb _ _ _ => lv_land hx hb hd
theorem gk_lor (hC : gk_C Z Y cc nL own d) {x y : Int64} (hd : decode cc pc = .ok (.lor, 1)) (hq : pc + 1 = q) (h : gk_K Z Y nL ρ q lv (.long (x ||| y) :: st) M k) : gk_K Z Y nL ρ pc lv (.long y :: .long x :: st) M k := by
  subst hq; exact gk_go hC h fun p l e R s m args below meth c H locs cells slots Q ls hx hb _ _ _ => lv_lor hx hb hd
theorem gk_lshl (hC : gk_C Z Y cc nL own d) {x : Int64} {y : Int32} (hd : decode cc pc = .ok (.lshl, 1)) (hq : pc + 1 = q) (h : gk_K Z Y nL ρ q lv (.long (x <<< (y.toInt64 &&& 63)) :: st) M k) : gk_K Z Y nL ρ pc lv (.int y :: .long x :: st) M k := by
  subst hq; exact gk_go hC h fun p l e R s m args below meth c H locs cells slots Q ls hx hb _ _ _ => lv_lshl hx hb hd rfl
theorem gk_lushr (hC : gk_C Z Y cc nL own d) {x : Int64} {y : Int32} (hd : decode cc pc = .ok (.lushr, 1)) (hq : pc + 1 = q) (h : gk_K Z Y nL ρ q lv (.long (x.toUInt64 >>> (y.toInt64.toUInt64 &&& Int64.toUInt64 63)).toInt64 :: st) M k) : gk_K Z Y nL ρ pc lv (.int y :: .long x :: st) M k := by
  subst hq; exact gk_go hC h fun p l e R s m args below meth c H locs cells slots Q ls hx hb _ _ _ => lv_lushr hx hb hd rfl
theorem gk_i2l (hC : gk_C Z Y cc nL own d) {x : Int32} (hd : decode cc pc = .ok (.i2l, 1)) (hq : pc + 1 = q) (h : gk_K Z Y nL ρ q lv (.long x.toInt64 :: st) M k) : gk_K Z Y nL ρ pc lv (.int x :: st) M k := by
  subst hq; exact gk_go hC h fun p l e R s m args below meth c H locs cells slots Q ls hx hb _ _ _ => lv_i2l hx hb hd rfl
theorem gk_l2i (hC : gk_C Z Y cc nL own d) {x : Int64} (hd : decode cc pc = .ok (.l2i, 1)) (hq : pc + 1 = q) (h : gk_K Z Y nL ρ q lv (.int x.toInt32 :: st) M k) : gk_K Z Y nL ρ pc lv (.long x :: st) M k := by
  subst hq; exact gk_go hC h fun p l e R s m args below meth c H locs cells slots Q ls hx hb _ _ _ => lv_l2i hx hb hd rfl
theorem gk_i2b (hC : gk_C Z Y cc nL own d) {x : Int32} (hd : decode cc pc = .ok (.i2b, 1)) (hq : pc + 1 = q) (h : gk_K Z Y nL ρ q lv (.int x.toInt8.toInt32 :: st) M k) : gk_K Z Y nL ρ pc lv (.int x :: st) M k := by
  subst hq; exact gk_go hC h fun p l e R s m args below meth c H locs cells slots Q ls hx hb _ _ _ => lv_i2b hx hb hd rfl
theorem gk_lcmp (hC : gk_C Z Y cc nL own d) {x y : Int64} (hd : decode cc pc = .ok (.lcmp, 1)) (hq : pc + 1 = q) (h : gk_K Z Y nL ρ q lv (.int (lg_cmp x y) :: st) M k) : gk_K Z Y nL ρ pc lv (.long y :: .long x :: st) M k := by
  subst hq; exact gk_go hC h fun p l e R s m args below meth c H locs cells slots Q ls hx hb _ _ _ => W.lcmp hx hb hd
theorem gk_dup (hC : gk_C Z Y cc nL own d) {v : Value} (hd : decode cc pc = .ok (.dup, 1)) (hv : v.category = 1) (hq : pc + 1 = q) (h : gk_K Z Y nL ρ q lv (v :: v :: st) M k) : gk_K Z Y nL ρ pc lv (v :: st) M k := by
  subst hq; exact gk_go hC h fun p l e R s m args below meth c H locs cells slots Q ls hx hb _ _ _ => lv_dup hx hb hd hv
theorem gk_dup2 (hC : gk_C Z Y cc nL own d) {v w : Value} (hd : decode cc pc = .ok (.dup2, 1)) (hv : v.category = 1) (hw : w.category = 1) (hq : pc + 1 = q) (h : gk_K Z Y nL ρ q lv (v :: w :: v :: w :: st) M k) : gk_K Z Y nL ρ pc lv (v :: w :: st) M k := by
  subst hq; exact gk_go hC h fun p l e R s m args below meth c H locs cells slots Q ls hx hb _ _ _ => lv_dup2_11 hx hb hd hv hw
theorem gk_pop (hC : gk_C Z Y cc nL own d) {v : Value} (hd : decode cc pc = .ok (.pop, 1)) (hv : v.category = 1) (hq : pc + 1 = q) (h : gk_K Z Y nL ρ q lv st M k) : gk_K Z Y nL ρ pc lv (v :: st) M k := by
  subst hq; exact gk_go hC h fun p l e R s m args below meth c H locs cells slots Q ls hx hb _ _ _ => lv_pop hx hb hd hv
theorem gk_goto (hC : gk_C Z Y cc nL own d) {off : Int} (hd : decode cc pc = .ok (.goto off, 3)) (ht : (pc : Int) + off = (q : Int)) (h : gk_K Z Y nL ρ q lv st M k) : gk_K Z Y nL ρ pc lv st M k :=
  gk_go hC h fun p l e R s m args below meth c H locs cells slots Q ls hx hb _ _ _ => lv_goto hx hb hd ht
end GKR
end
section
/-! .. rules of branches, fields, rows, calls, ends; the words in which the methods' pure pictures are written -/
def gk_ald (ln : Nat → Nat) (M : gk_M) (a : Nat) (j : Int32) {α : Type} (k : Int32 → Option α) : Option α := if 0 ≤ j.toInt ∧ j.toInt < (ln a : Int) then k (M.1 a j.toNatClampNeg) else none
def gk_aldr (ln : Nat → Nat) (rf : Nat → Nat → Nat) (a : Nat) (j : Int32) {α : Type} (k : Nat → Option α) : Option α := if 0 ≤ j.toInt ∧ j.toInt < (ln a : Int) then k (rf a j.toNatClampNeg) else none
def gk_ast (ln : Nat → Nat) (M : gk_M) (a : Nat) (j v : Int32) {α : Type} (k : gk_M → Option α) : Option α := if 0 ≤ j.toInt ∧ j.toInt < (ln a : Int) then k (gk_wr M a j.toNatClampNeg v) else none
def gk_put (M : gk_M) (a f : Nat) (v : Int32) {α : Type} (k : gk_M → Option α) : Option α := k (gk_wr M a f v)
def gk_putz (M : gk_M) (a f : Nat) (v : Int32) {α : Type} (k : gk_M → Option α) : Option α := if v = 0 ∨ v = 1 then k (gk_wr M a f v) else none
def gk_putl (M : gk_M) (a : Nat) (v : Int64) {α : Type} (k : gk_M → Option α) : Option α := k (gk_wl M a v)
def gk_zz (v : Int32) {α : Type} (k : Option α) : Option α := if v = 0 ∨ v = 1 then k else none
def gk_jn {β α : Type} (k : β → α) (t : (β → α) → α) : α := t k
def gk_sw (x : Int32) {α : Type} : Int → List α → α → α
  | _, [], d => d
  | n, k :: ks, d => if x = Int32.ofInt n then k else gk_sw x (n + 1) ks d
def gk_lk (x : Int32) {α : Type} : List (Int × α) → α → α
  | [], d => d
  | (v, k) :: ks, d => if x = Int32.ofInt v then k else gk_lk x ks d
section GKB
variable {Z : gk_Z} {Y : gk_Y} {cc : ByteArray} {nL d pc q : Nat} {own : String} {α : Type} {ρ : α → Option Value × gk_M} {lv lv' : List (Nat × Value)} {st : List Value} {M : gk_M} {k k1 k2 : Option α}
theorem gk_jnR {β : Type} {kk : β → Option α} {t : (β → Option α) → Option α} (P : (β → Option α) → Prop) (h1 : P kk) (h2 : ∀ k' : β → Option α, P k' → gk_K Z Y nL ρ pc lv st M (t k')) : gk_K Z Y nL ρ pc lv st M (gk_jn kk t) := h2 kk h1
theorem gk_icmp_eq (hC : gk_C Z Y cc nL own d) {x y : Int32} {off : Int} {tg : Nat} {inst : Decidable (x = y)} (hd : decode cc pc = .ok (.if_icmp .eq off, 3)) (ht : (pc : Int) + off = (tg : Int)) (hq : pc + 3 = q) (h1 : gk_K Z Y nL ρ tg lv st M k1) (h2 : gk_K Z Y nL ρ q lv st M k2) : gk_K Z Y nL ρ pc lv (.int y :: .int x :: st) M (if x = y then k1 else k2) := by
  subst hq
  obtain ⟨p, l, e, R, s, m, args, below, meth, c, cells, slots, Qf⟩ := Z
  obtain ⟨hx, hb, -⟩ := hC
  intro z hk ls H locs hh hP hS
  exact lv_icmp_eq hx hb hd ht (fun g => h1 z (by rw [if_pos g] at hk; exact hk) ls H locs hh hP hS) (fun g => h2 z (by rw [if_neg g] at hk; exact hk) ls H locs hh hP hS)
theorem gk_icmp_ne (hC : gk_C Z Y cc nL own d) {x y : Int32} {off : Int} {tg : Nat} {inst : Decidable (x = y)} (hd : decode cc pc = .ok (.if_icmp .ne off, 3)) (ht : (pc : Int) + off = (tg : Int)) (hq : pc + 3 = q) (h1 : gk_K Z Y nL ρ q lv st M k1) (h2 : gk_K Z Y nL ρ tg lv st M k2) : gk_K Z Y nL ρ pc lv (.int y :: .int x :: st) M (if x = y then k1 else k2) := by
  subst hq
  obtain ⟨p, l, e, R, s, m, args, below, meth, c, cells, slots, Qf⟩ := Z
  obtain ⟨hx, hb, -⟩ := hC
  intro z hk ls H locs hh hP hS
  exact lv_icmp_ne hx hb hd ht (fun g => h2 z (by rw [if_neg g] at hk; exact hk) ls H locs hh hP hS) (fun g => h1 z (by rw [if_pos g] at hk; exact hk) ls H locs hh hP hS)
theorem gk_icmp_lt (hC : gk_C Z Y cc nL own d) {x y : Int32} {off : Int} {tg : Nat} {inst : Decidable (x < y)} (hd : decode cc pc = .ok (.if_icmp .lt off, 3)) (ht : (pc : Int) + off = (tg : Int)) (hq : pc + 3 = q) (h1 : gk_K Z Y nL ρ tg lv st M k1) (h2 : gk_K Z Y nL ρ q lv st M k2) : gk_K Z Y nL ρ pc lv (.int y :: .int x :: st) M (if x < y then k1 else k2) := by
  subst hq
  obtain ⟨p, l, e, R, s, m, args, below, meth, c, cells, slots, Qf⟩ := Z
  obtain ⟨hx, hb, -⟩ := hC
  intro z hk ls H locs hh hP hS
  exact lv_icmp_lt hx hb hd ht (fun g => h1 z (by rw [if_pos g] at hk; exact hk) ls H locs hh hP hS) (fun g => h2 z (by rw [if_neg g] at hk; exact hk) ls H locs hh hP hS)
theorem gk_icmp_ge (hC : gk_C Z Y cc nL own d) {x y : Int32} {off : Int} {tg : Nat} {inst : Decidable (y ≤ x)} (hd : decode cc pc = .ok (.if_icmp .ge off, 3)) (ht : (pc : Int) + off = (tg : Int)) (hq : pc + 3 = q) (h1 : gk_K Z Y nL ρ tg lv st M k1) (h2 : gk_K Z Y nL ρ q lv st M k2) : gk_K Z Y nL ρ pc lv (.int y :: .int x :: st) M (if y ≤ x then k1 else k2) := by
  subst hq
  obtain ⟨p, l, e, R, s, m, args, below, meth, c, cells, slots, Qf⟩ := Z
  obtain ⟨hx, hb, -⟩ := hC
  intro z hk ls H locs hh hP hS
  exact lv_icmp_ge hx hb hd ht (fun g => h1 z (by rw [if_pos g] at hk; exact hk) ls H locs hh hP hS) (fun g => h2 z (by rw [if_neg g] at hk; exact hk) ls H locs hh hP hS)
theorem gk_icmp_gt (hC : gk_C Z Y cc nL own d) {x y : Int32} {off : Int} {tg : Nat} {inst : Decidable (y < x)} (hd : decode cc pc = .ok (.if_icmp .gt off, 3)) (ht : (pc : Int) + off = (tg : Int)) (hq : pc + 3 = q) (h1 : gk_K Z Y nL ρ tg lv st M k1) (h2 : gk_K Z Y nL ρ q lv st M k2) : gk_K Z Y nL ρ pc lv (.int y :: .int x :: st) M (if y < x then k1 else k2) := by
  subst hq
  obtain ⟨p, l, e, R, s, m, args, below, meth, c, cells, slots, Qf⟩ := Z
  obtain ⟨hx, hb, -⟩ := hC
  intro z hk ls H locs hh hP hS
  exact lv_icmp_gt hx hb hd ht (fun g => h1 z (by rw [if_pos g] at hk; exact hk) ls H locs hh hP hS) (fun g => h2 z (by rw [if_neg g] at hk; exact hk) ls H locs hh hP hS)
theorem gk_icmp_le (hC : gk_C Z Y cc nL own d) {x y : Int32} {off : Int} {tg : Nat} {inst : Decidable (x ≤ y)} (hd : decode cc pc = .ok (.if_icmp .le off, 3)) (ht : (pc : Int) + off = (tg : Int)) (hq : pc + 3 = q) (h1 : gk_K Z Y nL ρ tg lv st M k1) (h2 : gk_K Z Y nL ρ q lv st M k2) : gk_K Z Y nL ρ pc lv (.int y :: .int x :: st) M (if x ≤ y then k1 else k2) := by
  subst hq
  obtain ⟨p, l, e, R, s, m, args, below, meth, c, cells, slots, Qf⟩ := Z
  obtain ⟨hx, hb, -⟩ := hC
  intro z hk ls H locs hh hP hS
  exact lv_icmp_le hx hb hd ht (fun g => h1 z (by rw [if_pos g] at hk; exact hk) ls H locs hh hP hS) (fun g => h2 z (by rw [if_neg g] at hk; exact hk) ls H locs hh hP hS)
theorem gk_if_eq (hC : gk_C Z Y cc nL own d) {x : Int32} {off : Int} {tg : Nat} {inst : Decidable (x = 0)} (hd : decode cc pc = .ok (.ifCond .eq off, 3)) (ht : (pc : Int) + off = (tg : Int)) (hq : pc + 3 = q) (h1 : gk_K Z Y nL ρ tg lv st M k1) (h2 : gk_K Z Y nL ρ q lv st M k2) : gk_K Z Y nL ρ pc lv (.int x :: st) M (if x = 0 then k1 else k2) := by
  subst hq
  obtain ⟨p, l, e, R, s, m, args, below, meth, c, cells, slots, Qf⟩ := Z
  obtain ⟨hx, hb, -⟩ := hC
  intro z hk ls H locs hh hP hS
  exact lv_if_eq hx hb hd ht (fun g => h1 z (by rw [if_pos g] at hk; exact hk) ls H locs hh hP hS) (fun g => h2 z (by rw [if_neg g] at hk; exact hk) ls H locs hh hP hS)
theorem gk_if_ne (hC : gk_C Z Y cc nL own d) {x : Int32} {off : Int} {tg : Nat} {inst : Decidable (x = 0)} (hd : decode cc pc = .ok (.ifCond .ne off, 3)) (ht : (pc : Int) + off = (tg : Int)) (hq : pc + 3 = q) (h1 : gk_K Z Y nL ρ q lv st M k1) (h2 : gk_K Z Y nL ρ tg lv st M k2) : gk_K Z Y nL ρ pc lv (.int x :: st) M (if x = 0 then k1 else k2) := by
  subst hq
  obtain ⟨p, l, e, R, s, m, args, below, meth, c, cells, slots, Qf⟩ := Z
  obtain ⟨hx, hb, -⟩ := hC
  intro z hk ls H locs hh hP hS
  exact lv_if_ne hx hb hd ht (fun g => h2 z (by rw [if_neg g] at hk; exact hk) ls H locs hh hP hS) (fun g => h1 z (by rw [if_pos g] at hk; exact hk) ls H locs hh hP hS)
theorem gk_if_lt (hC : gk_C Z Y cc nL own d) {x : Int32} {off : Int} {tg : Nat} {inst : Decidable (x < 0)} (hd : decode cc pc = .ok (.ifCond .lt off, 3)) (ht : (pc : Int) + off = (tg : Int)) (hq : pc + 3 = q) (h1 : gk_K Z Y nL ρ tg lv st M k1) (h2 : gk_K Z Y nL ρ q lv st M k2) : gk_K Z Y nL ρ pc lv (.int x :: st) M (if x < 0 then k1 else k2) := by
  subst hq
  obtain ⟨p, l, e, R, s, m, args, below, meth, c, cells, slots, Qf⟩ := Z
  obtain ⟨hx, hb, -⟩ := hC
  intro z hk ls H locs hh hP hS
  exact lv_if_lt hx hb hd ht (fun g => h1 z (by rw [if_pos g] at hk; exact hk) ls H locs hh hP hS) (fun g => h2 z (by rw [if_neg g] at hk; exact hk) ls H locs hh hP hS)
theorem gk_if_ge (hC : gk_C Z Y cc nL own d) {x : Int32} {off : Int} {tg : Nat} {inst : Decidable (0 ≤ x)} (hd : decode cc pc = .ok (.ifCond .ge off, 3)) (ht : (pc : Int) + off = (tg : Int)) (hq : pc + 3 = q) (h1 : gk_K Z Y nL ρ tg lv st M k1) (h2 : gk_K Z Y nL ρ q lv st M k2) : gk_K Z Y nL ρ pc lv (.int x :: st) M (if 0 ≤ x then k1 else k2) := by
  subst hq
  obtain ⟨p, l, e, R, s, m, args, below, meth, c, cells, slots, Qf⟩ := Z
  obtain ⟨hx, hb, -⟩ := hC
  intro z hk ls H locs hh hP hS
  exact lv_if_ge hx hb hd ht (fun g => h1 z (by rw [if_pos g] at hk; exact hk) ls H locs hh hP hS) (fun g => h2 z (by rw [if_neg g] at hk; exact hk) ls H locs hh hP hS)
theorem gk_if_gt (hC : gk_C Z Y cc nL own d) {x : Int32} {off : Int} {tg : Nat} {inst : Decidable (0 < x)} (hd : decode cc pc = .ok (.ifCond .gt off, 3)) (ht : (pc : Int) + off = (tg : Int)) (hq : pc + 3 = q) (h1 : gk_K Z Y nL ρ tg lv st M k1) (h2 : gk_K Z Y nL ρ q lv st M k2) : gk_K Z Y nL ρ pc lv (.int x :: st) M (if 0 < x then k1 else k2) := by
  subst hq
  obtain ⟨p, l, e, R, s, m, args, below, meth, c, cells, slots, Qf⟩ := Z
  obtain ⟨hx, hb, -⟩ := hC
  intro z hk ls H locs hh hP hS
  exact lv_if_gt hx hb hd ht (fun g => h1 z (by rw [if_pos g] at hk; exact hk) ls H locs hh hP hS) (fun g => h2 z (by rw [if_neg g] at hk; exact hk) ls H locs hh hP hS)
theorem gk_if_le (hC : gk_C Z Y cc nL own d) {x : Int32} {off : Int} {tg : Nat} {inst : Decidable (x ≤ 0)} (hd : decode cc pc = .ok (.ifCond .le off, 3)) (ht : (pc : Int) + off = (tg : Int)) (hq : pc + 3 = q) (h1 : gk_K Z Y nL ρ tg lv st M k1) (h2 : gk_K Z Y nL ρ q lv st M k2) : gk_K Z Y nL ρ pc lv (.int x :: st) M (if x ≤ 0 then k1 else k2) := by
  subst hq
  obtain ⟨p, l, e, R, s, m, args, below, meth, c, cells, slots, Qf⟩ := Z
  obtain ⟨hx, hb, -⟩ := hC
  intro z hk ls H locs hh hP hS
  exact lv_if_le hx hb hd ht (fun g => h1 z (by rw [if_pos g] at hk; exact hk) ls H locs hh hP hS) (fun g => h2 z (by rw [if_neg g] at hk; exact hk) ls H locs hh hP hS)
theorem gk_vp {j : Int32} {n : Nat} (h : 0 ≤ j.toInt ∧ j.toInt < (n : Int)) : vp_in j n := vp_in_iff.mpr h
theorem gk_clamp {j : Int32} {n : Nat} (h : 0 ≤ j.toInt ∧ j.toInt < (n : Int)) : j.toNatClampNeg < n := Nat.not_le.mp fun g => gk_vp h (Or.inr g)
/-- getfield of an int -/
theorem gk_getI (hC : gk_C Z Y cc nL own d) {idx t f a : Nat} (hd : decode cc pc = .ok (.getfield idx, 3)) (hf : gk_FL own idx t f 0) (ha : gk_T Y t a) (hq : pc + 3 = q) (h : gk_K Z Y nL ρ q lv (.int (M.1 a f) :: st) M k) : gk_K Z Y nL ρ pc lv (.ref a :: st) M k := by
  subst hq
  obtain ⟨p, l, e, R, s, m, args, below, meth, c, cells, slots, Qf⟩ := Z
  obtain ⟨hx, hb, hml, hown, hts, hK, hY, -⟩ := hC
  obtain ⟨C, T, N, hc, ht, hN, hk, hft, hw⟩ := hf
  obtain ⟨hin, -⟩ := gk_cls _ C T N hc
  obtain ⟨q0, hq0, hat⟩ := gk_ws_at (M := M) ha
  intro z hkz ls H locs hh hP hS
  refine va_get (v := .int (M.1 a f)) hx hb hts hin hown hK hP q0 (fs := gk_fs (gk_rf Y) M a t) (by rw [hat]; simp [gk_ce, ht]) hc f hk (hts _ hw) (fun _ g => g) ?_ hd (h z hkz ls H locs hh hP hS)
  rw [gk_fs_at (by omega), hft]; rfl
theorem gk_getZ (hC : gk_C Z Y cc nL own d) {idx t f a : Nat} (hd : decode cc pc = .ok (.getfield idx, 3)) (hf : gk_FL own idx t f 2) (ha : gk_T Y t a) (hq : pc + 3 = q) (h : gk_K Z Y nL ρ q lv (.int (M.1 a f) :: st) M k) : gk_K Z Y nL ρ pc lv (.ref a :: st) M k := by
  subst hq
  obtain ⟨p, l, e, R, s, m, args, below, meth, c, cells, slots, Qf⟩ := Z
  obtain ⟨hx, hb, hml, hown, hts, hK, hY, -⟩ := hC
  obtain ⟨C, T, N, hc, ht, hN, hk, hft, hw⟩ := hf
  obtain ⟨hin, -⟩ := gk_cls _ C T N hc
  obtain ⟨q0, hq0, hat⟩ := gk_ws_at (M := M) ha
  intro z hkz ls H locs hh hP hS
  refine va_get (v := .int (M.1 a f)) hx hb hts hin hown hK hP q0 (fs := gk_fs (gk_rf Y) M a t) (by rw [hat]; simp [gk_ce, ht]) hc f hk (hts _ hw) (fun _ g => g) ?_ hd (h z hkz ls H locs hh hP hS)
  rw [gk_fs_at (by omega), hft]; rfl
theorem gk_getL (hC : gk_C Z Y cc nL own d) {idx t f a : Nat} (hd : decode cc pc = .ok (.getfield idx, 3)) (hf : gk_FL own idx t f 1) (ha : gk_T Y t a) (hq : pc + 3 = q) (h : gk_K Z Y nL ρ q lv (.long (M.2 a) :: st) M k) : gk_K Z Y nL ρ pc lv (.ref a :: st) M k := by
  subst hq
  obtain ⟨p, l, e, R, s, m, args, below, meth, c, cells, slots, Qf⟩ := Z
  obtain ⟨hx, hb, hml, hown, hts, hK, hY, -⟩ := hC
  obtain ⟨C, T, N, hc, ht, hN, hk, hft, hw⟩ := hf
  obtain ⟨hin, -⟩ := gk_cls _ C T N hc
  obtain ⟨q0, hq0, hat⟩ := gk_ws_at (M := M) ha
  intro z hkz ls H locs hh hP hS
  refine va_get (v := .long (M.2 a)) hx hb hts hin hown hK hP q0 (fs := gk_fs (gk_rf Y) M a t) (by rw [hat]; simp [gk_ce, ht]) hc f hk (hts _ hw) (fun _ g => g) ?_ hd (h z hkz ls H locs hh hP hS)
  rw [gk_fs_at (by omega), hft]; rfl
theorem gk_getR (hC : gk_C Z Y cc nL own d) {idx t f a u : Nat} (hd : decode cc pc = .ok (.getfield idx, 3)) (hf : gk_FL own idx t f u) (hu : 10 ≤ u) (ha : gk_T Y t a) (hq : pc + 3 = q) (h : gk_T Y u (gk_rf Y a f) → gk_K Z Y nL ρ q lv (.ref (gk_rf Y a f) :: st) M k) : gk_K Z Y nL ρ pc lv (.ref a :: st) M k := by
  subst hq
  obtain ⟨p, l, e, R, s, m, args, below, meth, c, cells, slots, Qf⟩ := Z
  obtain ⟨hx, hb, hml, hown, hts, hK, hY, -⟩ := hC
  obtain ⟨C, T, N, hc, ht, hN, hk, hft, hw⟩ := hf
  obtain ⟨hin, -⟩ := gk_cls _ C T N hc
  obtain ⟨q0, hq0, hat⟩ := gk_ws_at (M := M) ha
  have hT : gk_T Y u (gk_rf Y a f) := by
    have := hY.2.2.1 a t f ha ht (by omega) (by omega)
    rwa [hft] at this
  intro z hkz ls H locs hh hP hS
  refine va_get (v := .ref (gk_rf Y a f)) hx hb hts hin hown hK hP q0 (fs := gk_fs (gk_rf Y) M a t) (by rw [hat]; simp [gk_ce, ht]) hc f hk (hts _ hw) (fun _ g => g) ?_ hd (h hT z hkz ls H locs hh hP hS)
  rw [gk_fs_at (by omega), hft]
  simp [gk_fv, show ¬ u = 1 by omega, show ¬ u < 10 by omega]
/-- putfield -/
theorem gk_putI (hC : gk_C Z Y cc nL own d) {idx t f a : Nat} {v : Int32} {kk : gk_M → Option α} (hd : decode cc pc = .ok (.putfield idx, 3)) (hf : gk_FP own idx t f 0 .int) (ha : gk_T Y t a) (hq : pc + 3 = q) (h : ∀ M', gk_K Z Y nL ρ q lv st M' (kk M')) : gk_K Z Y nL ρ pc lv (.int v :: .ref a :: st) M (gk_put M a f v kk) := by
  subst hq
  obtain ⟨p, l, e, R, s, m, args, below, meth, c, cells, slots, Qf⟩ := Z
  obtain ⟨hx, hb, hml, hown, hts, hK, hY, -⟩ := hC
  obtain ⟨C, T, N, hc, ht, hN, hk, hft, hw, hfin, hpd⟩ := hf
  obtain ⟨hin, ty, hty, hnm⟩ := gk_cls _ C T N hc
  obtain ⟨q0, hq0, hat⟩ := gk_ws_at (M := M) ha
  intro z hkz ls H locs hh hP hS
  refine va_put (v := .int v) (ty := .int) hx hb hts hin ty hty hnm hown hK hP (gk_WD hY) hS q0 (fs := gk_fs (gk_rf Y) M a t) (by rw [hat]; simp [gk_ce, ht]) hc f hk (hts _ hw) (fun _ g => g) hfin hpd rfl rfl (by simp only [gk_fs, List.length_map, List.length_range]; omega) hd fun H1 locs1 hP1 _ hS1 => ?_
  have hse : (gk_ws Y M).set q0 (a, .inr (t - 10, (gk_fs (gk_rf Y) M a t).set f (.int v))) = gk_ws Y (gk_wr M a f v) := gk_ws_set hY hq0 (by simp only [gk_ce, ht, if_true]; rw [gk_fs_wr (by rw [hft]; decide) (by rw [hft]; decide)]) (fun b u hb => gk_ce_wr hb)
  rw [hse] at hP1
  exact h _ z hkz ls H1 locs1 hh hP1 hS1
theorem gk_putZ (hC : gk_C Z Y cc nL own d) {idx t f a : Nat} {v : Int32} {kk : gk_M → Option α} (hd : decode cc pc = .ok (.putfield idx, 3)) (hf : gk_FP own idx t f 2 .boolean) (ha : gk_T Y t a) (hq : pc + 3 = q) (h : ∀ M', gk_K Z Y nL ρ q lv st M' (kk M')) : gk_K Z Y nL ρ pc lv (.int v :: .ref a :: st) M (gk_putz M a f v kk) := by
  subst hq
  obtain ⟨p, l, e, R, s, m, args, below, meth, c, cells, slots, Qf⟩ := Z
  obtain ⟨hx, hb, hml, hown, hts, hK, hY, -⟩ := hC
  obtain ⟨C, T, N, hc, ht, hN, hk, hft, hw, hfin, hpd⟩ := hf
  obtain ⟨hin, ty, hty, hnm⟩ := gk_cls _ C T N hc
  obtain ⟨q0, hq0, hat⟩ := gk_ws_at (M := M) ha
  intro z hkz ls H locs hh hP hS
  unfold gk_putz at hkz
  by_cases hv : v = 0 ∨ v = 1
  · rw [if_pos hv] at hkz
    refine va_put (v := .int v) (ty := .boolean) hx hb hts hin ty hty hnm hown hK hP (gk_WD hY) hS q0 (fs := gk_fs (gk_rf Y) M a t) (by rw [hat]; simp [gk_ce, ht]) hc f hk (hts _ hw) (fun _ g => g) hfin hpd (by rcases hv with rfl | rfl <;> rfl) (by rcases hv with rfl | rfl <;> rfl) (by simp only [gk_fs, List.length_map, List.length_range]; omega) hd fun H1 locs1 hP1 _ hS1 => ?_
    have hse : (gk_ws Y M).set q0 (a, .inr (t - 10, (gk_fs (gk_rf Y) M a t).set f (.int v))) = gk_ws Y (gk_wr M a f v) := gk_ws_set hY hq0 (by simp only [gk_ce, ht, if_true]; rw [gk_fs_wr (by rw [hft]; decide) (by rw [hft]; decide)]) (fun b u hb => gk_ce_wr hb)
    rw [hse] at hP1
    exact h _ z hkz ls H1 locs1 hh hP1 hS1
  · rw [if_neg hv] at hkz; cases hkz
theorem gk_putL (hC : gk_C Z Y cc nL own d) {idx a : Nat} {v : Int64} {kk : gk_M → Option α} (hd : decode cc pc = .ok (.putfield idx, 3)) (hf : gk_FP own idx 11 10 1 .long) (ha : gk_T Y 11 a) (hq : pc + 3 = q) (h : ∀ M', gk_K Z Y nL ρ q lv st M' (kk M')) : gk_K Z Y nL ρ pc lv (.long v :: .ref a :: st) M (gk_putl M a v kk) := by
  subst hq
  obtain ⟨p, l, e, R, s, m, args, below, meth, c, cells, slots, Qf⟩ := Z
  obtain ⟨hx, hb, hml, hown, hts, hK, hY, -⟩ := hC
  obtain ⟨C, T, N, hc, ht, hN, hk, hft, hw, hfin, hpd⟩ := hf
  obtain ⟨hin, ty, hty, hnm⟩ := gk_cls _ C T N hc
  obtain ⟨q0, hq0, hat⟩ := gk_ws_at (M := M) ha
  intro z hkz ls H locs hh hP hS
  refine va_put (v := .long v) (ty := .long) hx hb hts hin ty hty hnm hown hK hP (gk_WD hY) hS q0 (fs := gk_fs (gk_rf Y) M a 11) (by rw [hat]; simp [gk_ce]) hc 10 hk (hts _ hw) (fun _ g => g) hfin hpd rfl rfl (by simp only [gk_fs, List.length_map, List.length_range]; omega) hd fun H1 locs1 hP1 _ hS1 => ?_
  have hse : (gk_ws Y M).set q0 (a, .inr (11 - 10, (gk_fs (gk_rf Y) M a 11).set 10 (.long v))) = gk_ws Y (gk_wl M a v) := gk_ws_set hY hq0 (by simp only [gk_ce]; rw [gk_fs_wl]; rfl) (fun b u hb => gk_ce_wl hb)
  rw [hse] at hP1
  exact h _ z hkz ls H1 locs1 hh hP1 hS1
/-- rows of ints -/
theorem gk_iald (hC : gk_C Z Y cc nL own d) {a : Nat} {j : Int32} {kk : Int32 → Option α} (hd : decode cc pc = .ok (.iaload, 1)) (ha : gk_T Y 100 a) (hq : pc + 1 = q) (h : ∀ x, gk_K Z Y nL ρ q lv (.int x :: st) M (kk x)) : gk_K Z Y nL ρ pc lv (.int j :: .ref a :: st) M (gk_ald (gk_ln Y) M a j kk) := by
  subst hq
  obtain ⟨p, l, e, R, s, m, args, below, meth, c, cells, slots, Qf⟩ := Z
  obtain ⟨hx, hb, hml, hown, hts, hK, hY, -⟩ := hC
  obtain ⟨q0, hq0, hat⟩ := gk_ws_at (M := M) ha
  intro z hkz ls H locs hh hP hS
  unfold gk_ald at hkz
  by_cases hj : 0 ≤ j.toInt ∧ j.toInt < (gk_ln Y a : Int)
  · rw [if_pos hj] at hkz
    exact va_iald hx hb hK hP q0 0 (cA := gk_cA Y 100) (n := gk_ln Y a) (f := M.1 a) (by rw [hat]; simp [gk_ce]) rfl (gk_vp hj) hd (h _ z hkz ls H locs hh hP hS)
  · rw [if_neg hj] at hkz; cases hkz
theorem gk_iast (hC : gk_C Z Y cc nL own d) {a : Nat} {j v : Int32} {kk : gk_M → Option α} (hd : decode cc pc = .ok (.iastore, 1)) (ha : gk_T Y 100 a) (hq : pc + 1 = q) (h : ∀ M', gk_K Z Y nL ρ q lv st M' (kk M')) : gk_K Z Y nL ρ pc lv (.int v :: .int j :: .ref a :: st) M (gk_ast (gk_ln Y) M a j v kk) := by
  subst hq
  obtain ⟨p, l, e, R, s, m, args, below, meth, c, cells, slots, Qf⟩ := Z
  obtain ⟨hx, hb, hml, hown, hts, hK, hY, -⟩ := hC
  obtain ⟨q0, hq0, hat⟩ := gk_ws_at (M := M) ha
  intro z hkz ls H locs hh hP hS
  unfold gk_ast at hkz
  by_cases hj : 0 ≤ j.toInt ∧ j.toInt < (gk_ln Y a : Int)
  · rw [if_pos hj] at hkz
    refine va_iast hx hb hK hP (gk_WD hY) hS q0 0 (cA := gk_cA Y 100) (n := gk_ln Y a) (f := M.1 a) (by rw [hat]; simp [gk_ce]) rfl (gk_vp hj) hd fun H1 locs1 hP1 _ hS1 => ?_
    have hse : (gk_ws Y M).set q0 (a, .inl (gk_cA Y 100, gk_ln Y a, .inl (upd (M.1 a) j.toNatClampNeg v))) = gk_ws Y (gk_wr M a j.toNatClampNeg v) := by
      refine gk_ws_set hY hq0 ?_ (fun b u hb => gk_ce_wr hb)
      have hf : (gk_wr M a j.toNatClampNeg v).1 a = upd (M.1 a) j.toNatClampNeg v := by
        funext i
        simp [gk_wr, upd]
      simp [gk_ce, hf]
    rw [hse] at hP1
    exact h _ z hkz ls H1 locs1 hh hP1 hS1
  · rw [if_neg hj] at hkz; cases hkz
theorem gk_alen (hC : gk_C Z Y cc nL own d) {a : Nat} (hd : decode cc pc = .ok (.arraylength, 1)) (ha : gk_T Y 100 a) (hq : pc + 1 = q) (h : gk_K Z Y nL ρ q lv (.int (nI (gk_ln Y a)) :: st) M k) : gk_K Z Y nL ρ pc lv (.ref a :: st) M k := by
  subst hq
  obtain ⟨p, l, e, R, s, m, args, below, meth, c, cells, slots, Qf⟩ := Z
  obtain ⟨hx, hb, hml, hown, hts, hK, hY, -⟩ := hC
  obtain ⟨q0, hq0, hat⟩ := gk_ws_at (M := M) ha
  intro z hkz ls H locs hh hP hS
  exact va_alen hx hb hK hP q0 0 (cA := gk_cA Y 100) (x := (gk_ln Y a, .inl (M.1 a))) (by rw [hat]; simp [gk_ce]) rfl rfl hd (h z hkz ls H locs hh hP hS)
/-- rows of references: tag 100 + j -/
theorem gk_aald (hC : gk_C Z Y cc nL own d) {a t : Nat} {j : Int32} {kk : Nat → Option α} (hd : decode cc pc = .ok (.aaload, 1)) (ht : t = 101 ∨ t = 102 ∨ t = 103) (ha : gk_T Y t a) (hq : pc + 1 = q) (h : ∀ x, gk_T Y (gk_el t) x → gk_K Z Y nL ρ q lv (.ref x :: st) M (kk x)) : gk_K Z Y nL ρ pc lv (.int j :: .ref a :: st) M (gk_aldr (gk_ln Y) (gk_rf Y) a j kk) := by
  subst hq
  obtain ⟨p, l, e, R, s, m, args, below, meth, c, cells, slots, Qf⟩ := Z
  obtain ⟨hx, hb, hml, hown, hts, hK, hY, -⟩ := hC
  obtain ⟨q0, hq0, hat⟩ := gk_ws_at (M := M) ha
  intro z hkz ls H locs hh hP hS
  unfold gk_aldr at hkz
  by_cases hj : 0 ≤ j.toInt ∧ j.toInt < (gk_ln Y a : Int)
  · rw [if_pos hj] at hkz
    have hT := hY.2.2.2 a t j.toNatClampNeg ha (by omega) (gk_clamp hj)
    have hat' : (gk_ws Y M)[q0]? = some (a, .inl (gk_cA Y t, gk_ln Y a, .inr (.inr (.inr (.inr (fun i => some (gk_rf Y a i))))))) := by
      rw [hat]; simp [gk_ce, show ¬ t < 100 by omega, show ¬ t = 100 by omega]
    rcases ht with rfl | rfl | rfl
    · exact va_aldq hx hb hK hP q0 1 hat' rfl (gk_vp hj) hd (h _ hT z hkz ls H locs hh hP hS)
    · exact va_aldq hx hb hK hP q0 2 hat' rfl (gk_vp hj) hd (h _ hT z hkz ls H locs hh hP hS)
    · exact va_aldq hx hb hK hP q0 3 hat' rfl (gk_vp hj) hd (h _ hT z hkz ls H locs hh hP hS)
  · rw [if_neg hj] at hkz; cases hkz
theorem gk_alenR (hC : gk_C Z Y cc nL own d) {a t : Nat} (hd : decode cc pc = .ok (.arraylength, 1)) (ht : t = 101 ∨ t = 102 ∨ t = 103) (ha : gk_T Y t a) (hq : pc + 1 = q) (h : gk_K Z Y nL ρ q lv (.int (nI (gk_ln Y a)) :: st) M k) : gk_K Z Y nL ρ pc lv (.ref a :: st) M k := by
  subst hq
  obtain ⟨p, l, e, R, s, m, args, below, meth, c, cells, slots, Qf⟩ := Z
  obtain ⟨hx, hb, hml, hown, hts, hK, hY, -⟩ := hC
  obtain ⟨q0, hq0, hat⟩ := gk_ws_at (M := M) ha
  intro z hkz ls H locs hh hP hS
  have hat' : (gk_ws Y M)[q0]? = some (a, .inl (gk_cA Y t, gk_ln Y a, .inr (.inr (.inr (.inr (fun i => some (gk_rf Y a i))))))) := by
    rw [hat]; simp [gk_ce, show ¬ t < 100 by omega, show ¬ t = 100 by omega]
  rcases ht with rfl | rfl | rfl
  · exact va_alen hx hb hK hP q0 1 (x := (gk_ln Y a, _)) hat' rfl rfl hd (h z hkz ls H locs hh hP hS)
  · exact va_alen hx hb hK hP q0 2 (x := (gk_ln Y a, _)) hat' rfl rfl hd (h z hkz ls H locs hh hP hS)
  · exact va_alen hx hb hK hP q0 3 (x := (gk_ln Y a, _)) hat' rfl rfl hd (h z hkz ls H locs hh hP hS)
/-- ends -/
theorem gk_iret (hC : gk_C Z Y cc nL own d) (hR : gk_R Z Y (some .int)) {v : Int32} {x : α} (hd : decode cc pc = .ok (.ireturn, 1)) (hx : ρ x = (some (.int v), M)) : gk_K Z Y nL ρ pc lv [.int v] M (some x) := by
  obtain ⟨p, l, e, R, s, m, args, below, meth, c, cells, slots, Qf⟩ := Z
  obtain ⟨hxx, hb, hml, hown, hts, hK, hY, -⟩ := hC
  obtain ⟨rfl, rfl, rfl, hr, hlocks⟩ := hR
  intro z hkz ls H locs hh hP hS
  cases hkz
  rw [hx]
  exact W.iret hxx hb hr (fun t ht hW => ⟨rfl, by rw [ht]; exact hP, va_K.moved hW.alike hK, hS.F ht⟩) hS.2.2 hd
theorem gk_zret (hC : gk_C Z Y cc nL own d) (hR : gk_R Z Y (some .boolean)) {v : Int32} {x : α} (hd : decode cc pc = .ok (.ireturn, 1)) (hv : v = 0 ∨ v = 1) (hx : ρ x = (some (.int v), M)) : gk_K Z Y nL ρ pc lv [.int v] M (some x) := by
  obtain ⟨p, l, e, R, s, m, args, below, meth, c, cells, slots, Qf⟩ := Z
  obtain ⟨hxx, hb, hml, hown, hts, hK, hY, -⟩ := hC
  obtain ⟨rfl, rfl, rfl, hr, hlocks⟩ := hR
  intro z hkz ls H locs hh hP hS
  cases hkz
  rw [hx]
  exact W.zret hxx hb hr (by rcases hv with rfl | rfl <;> rfl) (fun t ht hW => ⟨rfl, by rw [ht]; exact hP, va_K.moved hW.alike hK, hS.F ht⟩) hS.2.2 hd
theorem gk_zzR {v : Int32} (h : (v = 0 ∨ v = 1) → gk_K Z Y nL ρ pc lv st M k) : gk_K Z Y nL ρ pc lv st M (gk_zz v k) := by
  unfold gk_zz
  by_cases hv : v = 0 ∨ v = 1
  · rw [if_pos hv]; exact h hv
  · rw [if_neg hv]; exact gk_none
theorem gk_vret (hC : gk_C Z Y cc nL own d) (hR : gk_R Z Y none) {x : α} (hd : decode cc pc = .ok (.return_, 1)) (hx : ρ x = (none, M)) : gk_K Z Y nL ρ pc lv [] M (some x) := by
  obtain ⟨p, l, e, R, s, m, args, below, meth, c, cells, slots, Qf⟩ := Z
  obtain ⟨hxx, hb, hml, hown, hts, hK, hY, -⟩ := hC
  obtain ⟨rfl, rfl, rfl, hr, hlocks⟩ := hR
  intro z hkz ls H locs hh hP hS
  cases hkz
  rw [hx]
  exact W.vret hxx hb hr (fun t ht hW => ⟨rfl, by rw [ht]; exact hP, va_K.moved hW.alike hK, hS.F ht⟩) hS.2.2 hd
end GKB
end
section
/-! calls and whole methods -/
def gk_rm (d : Nat) : Room := { frames := d, cells := 0, slots := 0, locals := 40 * d }
def gk_P (Y : gk_Y) (As : List Value) (M : gk_M) : Array Value → State → Prop := va_Pc As (fun U => va_P (gk_D Y) vwCl (gk_ws Y M) U.heap ∧ va_K (gk_D Y) vwCl (gk_ty Y) U)
abbrev gk_rI : Int32 × gk_M → Option Value × gk_M := fun x => (some (.int x.1), x.2)
abbrev gk_rV : gk_M → Option Value × gk_M := fun x => (none, x)
abbrev gk_rR (M : gk_M) : Int32 → Option Value × gk_M := fun x => (some (.int x), M)
/-- the contract of a method: where its picture kc tells an end, it comes to it -/
def gk_MF (l : Launch) (Y : gk_Y) (y : MethodName) (bytes : ByteArray) (maxL : Nat) (ret : Option FieldType) (d : Nat) (As : List Value) (M : gk_M) {β : Type} (ρc : β → Option Value × gk_M) (kc : Option β) : Prop := ∀ x, kc = some x → Met l y (.code y bytes maxL ret :: gk_U) (gk_rm d) (gk_P Y As M) (gk_Q Y (ρc x)) 0 0 (gk_A Y)
theorem gk_met {l : Launch} {Y : gk_Y} {y : MethodName} {bytes : ByteArray} {maxL : Nat} {ret : Option FieldType} {d : Nat} {As : List Value} {M : gk_M} {β : Type} {ρc : β → Option Value × gk_M} {kc : Option β} (hY : gk_WF Y) (hy : plainName y.cls = true) (hn : (lg_sl As).length ≤ maxL)
    (body : ∀ Z : gk_Z, gk_C Z Y bytes maxL y.cls d → gk_R Z Y ret → gk_K Z Y maxL ρc 0 (lv_args 0 As) [] M kc) : gk_MF l Y y bytes maxL ret d As M ρc kc := by
  intro x hx
  refine Met.ofW (cc := bytes) (maxL := maxL) (ret := ret) hy rfl ?_
  intro p e s m args below meth c s₁ B hml hv
  obtain ⟨rfl, hP, hK⟩ := hv
  have hts := atoms_spec (ws := Cond.code y bytes maxL ret :: gk_U) B.pre
  have h := body (p, l, e, (headSpec (Cond.code y bytes maxL ret :: gk_U) (gk_rm d)).room, s, m, As.toArray, below, meth, c, 0, 0, fun x => MQ below (gk_Q Y x) As.toArray s 0 0 (gk_A Y))
    ⟨B.exec, B.bytes, hml, findClass_of_methodNamed B.named, fun w hw => hts w (List.mem_cons_of_mem _ hw), hK, hY, Nat.le_refl _, Nat.le_refl _, Nat.le_refl _, Nat.le_refl _⟩ ⟨rfl, rfl, rfl, B.returns, B.notSynchronized⟩ x hx
  rw [lg_entry_eq]
  exact h _ s.heap [] (lv_entry As hn) hP va_S.rf
/-- a method that can be called: its words -/
def gk_OV (y : MethodName) (bytes : ByteArray) (maxL : Nat) (ret : Option FieldType) (n : Nat) : Prop := Cond.instanceMethod y ∈ gk_U ∧ Cond.selects y.cls y y ∈ gk_U ∧ Cond.initialized y.cls ∈ gk_U ∧ Cond.code y bytes maxL ret ∈ gk_U ∧ (y.cls ≠ "java/lang/invoke/MethodHandle" ∧ y.cls ≠ "java/lang/invoke/VarHandle" ∧ (parseMethodDescriptor y.desc).map (fun d => d.parameters.length) = some n) ∧ maxL ≤ 21
def gk_OS (y : MethodName) (bytes : ByteArray) (maxL : Nat) (ret : Option FieldType) (n : Nat) : Prop := Cond.static y ∈ gk_U ∧ Cond.initialized y.cls ∈ gk_U ∧ Cond.code y bytes maxL ret ∈ gk_U ∧ (y.cls ≠ "java/lang/invoke/MethodHandle" ∧ y.cls ≠ "java/lang/invoke/VarHandle" ∧ (parseMethodDescriptor y.desc).map (fun d => d.parameters.length) = some n) ∧ maxL ≤ 21
section GKC
variable {Z : gk_Z} {Y : gk_Y} {cc : ByteArray} {nL d pc q : Nat} {own : String} {α : Type} {ρ : α → Option Value × gk_M} {lv lv' : List (Nat × Value)} {st : List Value} {M : gk_M} {k k1 k2 : Option α}
theorem gk_blind {As : List Value} : FrameBlind (gk_P Y As M) := fun a U g mk h => by
  obtain ⟨h1, h2, h3⟩ := h
  exact ⟨h1, h2, va_K.moved (u := U) (U := U.calling g mk a) (Vm.Alike.refl U.vm) h3⟩
theorem gk_words {s : State} {args : Array Value} {y : MethodName} {bytes : ByteArray} {maxL : Nat} {ret : Option FieldType} (hts : ∀ w ∈ gk_U, w.before args s = true) (hc : Cond.code y bytes maxL ret ∈ gk_U) : ∀ w ∈ (Cond.code y bytes maxL ret :: gk_U), ∀ (a' : Array Value) (U : State), s.WarmedH U.vm → w.before a' U = true := by
  intro w hw a' U hW
  have hw' : w ∈ gk_U := by
    rcases List.mem_cons.mp hw with h | h
    · rw [h]; exact hc
    · exact h
  exact word_at hW (gk_good w hw') (hts w hw')
theorem gk_after {p : Program} {l : Launch} {e : Env} {R : Room} {s : State} {m : MethodId} {args : Array Value} {below : List Frame} {meth : Method} {c : Code} {H : Heap} {locs : List Loc} {cells slots : Nat} {Q : State → Prop} {ls : Array Slot} {rest : List Value} {x : Option Value × gk_M} {av : Array Value}
    (hr : va_Run p l e R s m args below meth c H locs cells slots 0 0 (F0 m pc ls st) rest (gk_Q Y x av) (gk_A Y)) (hS : va_S (gk_A Y) s.heap H locs)
    (kk : ∀ (H1 : Heap) (locs1 : List Loc), va_P (gk_D Y) vwCl (gk_ws Y x.2) H1 → va_S (gk_A Y) s.heap H1 locs1 → W p l e R s m args below meth c H1 locs1 cells slots Q (F0 m (pc + 3) ls (x.1.toList ++ rest))) : W p l e R s m args below meth c H locs cells slots Q (F0 m pc ls st) := by
  intro T hT X
  obtain ⟨v, st₀, t, T', L, h0, X', hL, e1, e2, ⟨hv, hP, hK, hz, hk⟩, stp⟩ := hr T hT X
  cases hv
  rw [h0] at hz hk
  obtain ⟨t2, a1, b1⟩ := kk T'.heap (locs ++ L) (by rw [e1]; exact hP)
    ⟨Nat.le_trans hS.1 (by rw [e1]; exact hz), fun q h1 h2 => by rw [e1, hk q (Nat.lt_of_lt_of_le h1 hS.1) h2]; exact hS.2.1 q h1 h2, fun q hq => by
      rcases List.mem_append.mp hq with h | h
      · exact hS.2.2 q h
      · exact hL q h⟩ T' rfl X'
  exact ⟨t2, stp t2 a1, b1⟩
theorem gk_callV {idx dc maxL a n t N : Nat} {T : u_T} {y : MethodName} {bytes : ByteArray} {ret : Option FieldType} {As rest : List Value} {β : Type} {ρc : β → Option Value × gk_M} {kc : Option β} {kk : β → Option α} (hC : gk_C Z Y cc nL own d) (hM : ∀ l, gk_MF l Y y bytes maxL ret dc (.ref a :: As) M ρc kc) (hw : Cond.methodLink own idx y ∈ gk_U) (hO : gk_OV y bytes maxL ret n) (hd : decode cc pc = .ok (.invokevirtual idx, 3))
    (ha : gk_T Y t a) (ht : t < 100 ∧ vwCl[t - 10]? = some (y.cls, T, N)) (hn : As.length = n) (hdc : dc + 1 ≤ d) (hr : (rest.map fun v => v.category).sum ≤ 8) (hst : st = As.reverse ++ .ref a :: rest) (hq : pc + 3 = q) (h : ∀ x, gk_K Z Y nL ρ q lv ((ρc x).1.toList ++ rest) (ρc x).2 (kk x)) : gk_K Z Y nL ρ pc lv st M (kc.bind kk) := by
  subst hq; subst hst
  obtain ⟨p, l, e, R, s, m, args, below, meth, c, cells, slots, Qf⟩ := Z
  obtain ⟨hx, hb, hml, hown, hts, hK, hY, hf1, hf2, hf3, hf4⟩ := hC
  obtain ⟨o1, o2, o3, o4, o5, o6⟩ := hO
  obtain ⟨q0, hq0, hat⟩ := gk_ws_at (M := M) ha
  intro z hkz ls H locs hh hP hS
  cases hkc : kc with
  | none => rw [hkc] at hkz; cases hkz
  | some x =>
    rw [hkc] at hkz
    have hrun := va_runV (p := p) (e := e) (below := below) (meth := meth) (locs := locs) (cells := cells) (slots := slots) (Ts := gk_U) (rest := rest) (g := F0 m pc ls (As.reverse ++ .ref a :: rest)) (R := R) (H := H) (C := y.cls) (b := a) (As := As) ⟨hx, hb, hml, hown, hts⟩ (hM l x hkc)
      ⟨⟨rfl, rfl, by show dc + 1 ≤ _; omega, by show 8 + (maxL + 11) + 40 * dc ≤ _; omega, gk_words hts o4, List.mem_cons_self, hts _ o4, hts _ o3, ⟨o5.1, o5.2.1⟩, fun sig hs => (by have h2 := o5.2.2; rw [hs] at h2; exact (Option.some.inj h2).symm), hts _ hw⟩, hts _ o1, hts _ o2⟩
      ⟨gk_blind, by
        obtain ⟨r, h1, cell, c1, c2, c3, -⟩ := hP q0 _ (show _ = some (a, .inr (t - 10, gk_fs (gk_rf Y) M a t)) by rw [hat]; simp [gk_ce, ht.1])
        cases ht.2.symm.trans h1
        exact ⟨cell, c1, by rw [c3]; rfl, by rw [c2]; exact (hK.1 _ _ ht.2).2.1⟩, fun U hU hW => ⟨rfl, by rw [hU]; exact hP, va_K.moved hW.alike hK⟩⟩
      rfl hn hh.1 rfl (by show 2 * 0 + _ ≤ 8; omega) hd ⟨by omega, by omega⟩
    exact gk_after hrun hS fun H1 locs1 hP1 hS1 => h x z hkz ls H1 locs1 hh hP1 hS1
theorem gk_callS {idx dc maxL n : Nat} {y : MethodName} {bytes : ByteArray} {ret : Option FieldType} {As rest : List Value} {β : Type} {ρc : β → Option Value × gk_M} {kc : Option β} {kk : β → Option α} (hC : gk_C Z Y cc nL own d) (hM : ∀ l, gk_MF l Y y bytes maxL ret dc As M ρc kc) (hw : Cond.methodLink own idx y ∈ gk_U) (hO : gk_OS y bytes maxL ret n) (hd : decode cc pc = .ok (.invokestatic idx, 3))
    (hn : As.length = n) (hdc : dc + 1 ≤ d) (hr : (rest.map fun v => v.category).sum ≤ 8) (hst : st = As.reverse ++ rest) (hq : pc + 3 = q) (h : ∀ x, gk_K Z Y nL ρ q lv ((ρc x).1.toList ++ rest) (ρc x).2 (kk x)) : gk_K Z Y nL ρ pc lv st M (kc.bind kk) := by
  subst hq; subst hst
  obtain ⟨p, l, e, R, s, m, args, below, meth, c, cells, slots, Qf⟩ := Z
  obtain ⟨hx, hb, hml, hown, hts, hK, hY, hf1, hf2, hf3, hf4⟩ := hC
  obtain ⟨o1, o3, o4, o5, o6⟩ := hO
  intro z hkz ls H locs hh hP hS
  cases hkc : kc with
  | none => rw [hkc] at hkz; cases hkz
  | some x =>
    rw [hkc] at hkz
    have hrun := va_runS (p := p) (e := e) (below := below) (meth := meth) (locs := locs) (cells := cells) (slots := slots) (Ts := gk_U) (rest := rest) (g := F0 m pc ls (As.reverse ++ rest)) (R := R) (H := H) (As := As) ⟨hx, hb, hml, hown, hts⟩ (hM l x hkc)
      ⟨⟨rfl, rfl, by show dc + 1 ≤ _; omega, by show 8 + (maxL + 11) + 40 * dc ≤ _; omega, gk_words hts o4, List.mem_cons_self, hts _ o4, hts _ o3, ⟨o5.1, o5.2.1⟩, fun sig hs => (by have h2 := o5.2.2; rw [hs] at h2; exact (Option.some.inj h2).symm), hts _ hw⟩, hts _ o1⟩
      ⟨gk_blind, fun U hU hW => ⟨rfl, by rw [hU]; exact hP, va_K.moved hW.alike hK⟩⟩
      rfl hn hh.1 rfl (by show 2 * 0 + _ ≤ 8; omega) hd ⟨by omega, by omega⟩
    exact gk_after hrun hS fun H1 locs1 hP1 hS1 => h x z hkz ls H1 locs1 hh hP1 hS1
/-- switches -/
def gk_all (P : Nat → Option α → Prop) : List Nat → List (Option α) → Prop
  | [], [] => True
  | t :: ts, k :: ks => P t k ∧ gk_all P ts ks
  | _, _ => False
theorem gk_sw_spec {P : Nat → Option α → Prop} {x : Int32} {kd : Option α} {z : α} : ∀ (ts : List Nat) (ks : List (Option α)) (n : Int), gk_all P ts ks → gk_sw x n ks kd = some z → (∀ i : Nat, i < ts.length → -2147483648 ≤ n + i ∧ n + i < 2147483648) → (∃ (i t : Nat), ts[i]? = some t ∧ x.toInt = n + i ∧ ∃ k, k = some z ∧ P t k) ∨ ((x.toInt < n ∨ n + ts.length ≤ x.toInt) ∧ kd = some z)
  | [], [], n, _, h, _ => Or.inr ⟨by simp only [List.length_nil]; omega, h⟩
  | t :: ts, k :: ks, n, hA, h, hb => by
    unfold gk_sw at h
    by_cases hx : x = Int32.ofInt n
    · rw [if_pos hx] at h
      have hn := hb 0 (by simp)
      refine Or.inl ⟨0, t, rfl, ?_, k, h, hA.1⟩
      rw [hx, Int32.toInt_ofInt_of_le (by simpa using hn.1) (by simpa using hn.2)]; simp
    · rw [if_neg hx] at h
      have hn := hb 0 (by simp)
      have hxn : x.toInt ≠ n := fun g => hx (by rw [← g, Int32.ofInt_toInt])
      rcases gk_sw_spec ts ks (n + 1) hA.2 h (fun i hi => by have := hb (i + 1) (by simp; omega); push_cast at this; omega) with ⟨i, t', h1, h2, h3⟩ | ⟨h1, h2⟩
      · exact Or.inl ⟨i + 1, t', by simpa using h1, by push_cast; omega, h3⟩
      · exact Or.inr ⟨by simp only [List.length_cons]; push_cast; omega, h2⟩
theorem gk_table (hC : gk_C Z Y cc nL own d) {dflt lo hi : Int} {offs : Array Int} {len tg : Nat} {x : Int32} {ts : List Nat} {ks : List (Option α)} {kd : Option α} (hd : decode cc pc = .ok (.tableswitch dflt lo hi offs, len)) (hb : -1000 ≤ lo ∧ lo + ts.length = hi + 1 ∧ hi ≤ 1000) (ho : offs.toList.map (fun o => (pc : Int) + o) = ts.map (fun t : Nat => (t : Int))) (htd : (pc : Int) + dflt = (tg : Int))
    (h1 : gk_all (fun t k => gk_K Z Y nL ρ t lv st M k) ts ks) (h2 : gk_K Z Y nL ρ tg lv st M kd) : gk_K Z Y nL ρ pc lv (.int x :: st) M (gk_sw x lo ks kd) := by
  obtain ⟨p, l, e, R, s, m, args, below, meth, c, cells, slots, Qf⟩ := Z
  obtain ⟨hx, hbb, -⟩ := hC
  intro z hkz ls H locs hh hP hS
  rcases gk_sw_spec ts ks lo h1 hkz (fun i hi => by omega) with ⟨i, t, g1, g2, k, g3, g4⟩ | ⟨g1, g2⟩
  · have hi : i < ts.length := (List.getElem?_eq_some_iff.mp g1).1
    have hoi : (offs.toList.map (fun o => (pc : Int) + o))[i]? = some (t : Int) := by rw [ho, List.getElem?_map, g1]; rfl
    rw [List.getElem?_map] at hoi
    obtain ⟨o, ho1, ho2⟩ := Option.map_eq_some_iff.mp hoi
    refine lv_tableIn hx hbb hd (by omega) (by omega) (off := o) ?_ ho2 (g4 z g3 ls H locs hh hP hS)
    rw [show (x.toInt - lo).toNat = i by omega, ← Array.getElem?_toList]; exact ho1
  · exact lv_tableOut hx hbb hd (by omega) htd (h2 z g2 ls H locs hh hP hS)
theorem gk_lk_spec {P : Nat → Option α → Prop} {x : Int32} {dflt : Int} {kd : Option α} {z : α} : ∀ (ps : List (Int × Int)) (ts : List Nat) (ks : List (Int × Option α)) (pc : Nat), ks.map (·.1) = ps.map (·.1) → ps.map (fun o => (pc : Int) + o.2) = ts.map (fun t : Nat => (t : Int)) → gk_all P ts (ks.map (·.2)) → (∀ o ∈ ps, -1000 ≤ o.1 ∧ o.1 ≤ 1000) → gk_lk x ks kd = some z → (∃ (off : Int) (t : Nat) (k : Option α), Op.lookupswitch.offset ps dflt x.toInt = off ∧ (pc : Int) + off = t ∧ k = some z ∧ P t k) ∨ (Op.lookupswitch.offset ps dflt x.toInt = dflt ∧ kd = some z)
  | [], _, [], _, _, _, _, _, h => Or.inr ⟨rfl, h⟩
  | [], _, _ :: _, _, h, _, _, _, _ => by simp at h
  | _ :: _, _, [], _, h, _, _, _, _ => by simp at h
  | _ :: _, [], _ :: _, _, _, h, _, _, _ => by simp at h
  | (v, o) :: ps, t :: ts, (v', k) :: ks, pc, e1, e2, hA, hb, h => by
    simp only [List.map_cons, List.cons.injEq] at e1 e2
    obtain ⟨rfl, e1⟩ := e1
    obtain ⟨e2a, e2⟩ := e2
    unfold gk_lk at h
    have hv := hb (v', o) List.mem_cons_self
    by_cases hx : x = Int32.ofInt v'
    · rw [if_pos hx] at h
      refine Or.inl ⟨o, t, k, ?_, e2a, h, hA.1⟩
      rw [Op.lookupswitch.offset_cons, if_pos]
      rw [hx, Int32.toInt_ofInt_of_le (by omega) (by omega)]
    · rw [if_neg hx] at h
      have hxn : ¬ x.toInt = v' := fun g => hx (by rw [← g, Int32.ofInt_toInt])
      rw [lv_osw (k := Int32.ofInt v') hx (Int32.toInt_ofInt_of_le (by omega) (by omega))]
      exact gk_lk_spec ps ts ks pc e1 e2 hA.2 (fun o ho => hb o (List.mem_cons_of_mem _ ho)) h
theorem gk_lookup (hC : gk_C Z Y cc nL own d) {dflt : Int} {ps : Array (Int × Int)} {len tg : Nat} {x : Int32} {ts : List Nat} {ks : List (Int × Option α)} {kd : Option α} (hd : decode cc pc = .ok (.lookupswitch dflt ps, len)) (hs : (ps.toList.zip (ps.toList.drop 1)).all (fun (a, next) => a.1 < next.1) = true) (hb : ∀ o ∈ ps.toList, -1000 ≤ o.1 ∧ o.1 ≤ 1000) (e1 : ks.map (·.1) = ps.toList.map (·.1)) (e2 : ps.toList.map (fun o => (pc : Int) + o.2) = ts.map (fun t : Nat => (t : Int))) (htd : (pc : Int) + dflt = (tg : Int))
    (h1 : gk_all (fun t k => gk_K Z Y nL ρ t lv st M k) ts (ks.map (·.2))) (h2 : gk_K Z Y nL ρ tg lv st M kd) : gk_K Z Y nL ρ pc lv (.int x :: st) M (gk_lk x ks kd) := by
  obtain ⟨p, l, e, R, s, m, args, below, meth, c, cells, slots, Qf⟩ := Z
  obtain ⟨hx, hbb, -⟩ := hC
  intro z hkz ls H locs hh hP hS
  rcases gk_lk_spec (dflt := dflt) ps.toList ts ks pc e1 e2 h1 hb hkz with ⟨o, t, k, g1, g2, g3, g4⟩ | ⟨g1, g2⟩
  · exact lv_lookup hx hbb hd hs g1 g2 (g4 z g3 ls H locs hh hP hS)
  · exact lv_lookup hx hbb hd hs g1 htd (h2 z g2 ls H locs hh hP hS)
end GKC
end
