section
-- ===== PART A: goes FIRST, ahead of the names: the tables' words, and 'selects' of the private methods out of them =====
/-- a private method of a class that the tables say can be made, by its rows of tables_1 -/
def lw_okq (q : MethodName × Nat) : Prop := (q.1.cls ≠ "java/lang/invoke/MethodHandle" ∧ q.1.cls ≠ "java/lang/invoke/VarHandle") ∧ Cond.instantiable q.1.cls q.2 ∈ tables_1 ∧ Cond.privateMethod q.1 ∈ tables_1 ∧ Cond.instanceMethod q.1 ∈ tables_1
theorem lw_p0 : lw_okq (⟨"JoinSetter", "lookAtText", "()V"⟩, 17) := ⟨⟨by decide +kernel, by decide +kernel⟩, List.mem_of_getElem? (i := 16) (by decide +kernel), List.mem_of_getElem? (i := 649) (by decide +kernel), List.mem_of_getElem? (i := 650) (by decide +kernel)⟩
theorem lw_p1 : lw_okq (⟨"JoinSetter$Units", "splitWords", "()V"⟩, 17) := ⟨⟨by decide +kernel, by decide +kernel⟩, List.mem_of_getElem? (i := 142) (by decide +kernel), List.mem_of_getElem? (i := 657) (by decide +kernel), List.mem_of_getElem? (i := 658) (by decide +kernel)⟩
theorem lw_p2 : lw_okq (⟨"JoinSetter$Units", "standOn", "(III)V"⟩, 17) := ⟨⟨by decide +kernel, by decide +kernel⟩, List.mem_of_getElem? (i := 142) (by decide +kernel), List.mem_of_getElem? (i := 662) (by decide +kernel), List.mem_of_getElem? (i := 663) (by decide +kernel)⟩
theorem lw_p3 : lw_okq (⟨"JoinSetter$Units", "addUnit", "(III)V"⟩, 17) := ⟨⟨by decide +kernel, by decide +kernel⟩, List.mem_of_getElem? (i := 142) (by decide +kernel), List.mem_of_getElem? (i := 675) (by decide +kernel), List.mem_of_getElem? (i := 676) (by decide +kernel)⟩
theorem lw_p4 : lw_okq (⟨"JoinSetter$Units", "findBases", "()V"⟩, 17) := ⟨⟨by decide +kernel, by decide +kernel⟩, List.mem_of_getElem? (i := 142) (by decide +kernel), List.mem_of_getElem? (i := 680) (by decide +kernel), List.mem_of_getElem? (i := 681) (by decide +kernel)⟩
theorem lw_p5 : lw_okq (⟨"JoinSetter$Units", "longestMust", "(I)I"⟩, 17) := ⟨⟨by decide +kernel, by decide +kernel⟩, List.mem_of_getElem? (i := 142) (by decide +kernel), List.mem_of_getElem? (i := 684) (by decide +kernel), List.mem_of_getElem? (i := 685) (by decide +kernel)⟩
theorem lw_p6 : lw_okq (⟨"JoinSetter$Units", "standsAt", "(II)Z"⟩, 17) := ⟨⟨by decide +kernel, by decide +kernel⟩, List.mem_of_getElem? (i := 142) (by decide +kernel), List.mem_of_getElem? (i := 688) (by decide +kernel), List.mem_of_getElem? (i := 689) (by decide +kernel)⟩
theorem lw_p7 : lw_okq (⟨"JoinSetter$Units", "findOthers", "()V"⟩, 17) := ⟨⟨by decide +kernel, by decide +kernel⟩, List.mem_of_getElem? (i := 142) (by decide +kernel), List.mem_of_getElem? (i := 692) (by decide +kernel), List.mem_of_getElem? (i := 693) (by decide +kernel)⟩
theorem lw_p8 : lw_okq (⟨"JoinSetter$Units", "areAlone", "(II)Z"⟩, 17) := ⟨⟨by decide +kernel, by decide +kernel⟩, List.mem_of_getElem? (i := 142) (by decide +kernel), List.mem_of_getElem? (i := 696) (by decide +kernel), List.mem_of_getElem? (i := 697) (by decide +kernel)⟩
theorem lw_p9 : lw_okq (⟨"JoinSetter$Filler", "clear", "(I)V"⟩, 12) := ⟨⟨by decide +kernel, by decide +kernel⟩, List.mem_of_getElem? (i := 219) (by decide +kernel), List.mem_of_getElem? (i := 730) (by decide +kernel), List.mem_of_getElem? (i := 731) (by decide +kernel)⟩
theorem lw_p10 : lw_okq (⟨"JoinSetter$Filler", "statesAt", "(I)I"⟩, 12) := ⟨⟨by decide +kernel, by decide +kernel⟩, List.mem_of_getElem? (i := 219) (by decide +kernel), List.mem_of_getElem? (i := 742) (by decide +kernel), List.mem_of_getElem? (i := 743) (by decide +kernel)⟩
theorem lw_p11 : lw_okq (⟨"JoinSetter$Filler", "offerKind", "(III)V"⟩, 12) := ⟨⟨by decide +kernel, by decide +kernel⟩, List.mem_of_getElem? (i := 219) (by decide +kernel), List.mem_of_getElem? (i := 750) (by decide +kernel), List.mem_of_getElem? (i := 751) (by decide +kernel)⟩
theorem lw_p12 : lw_okq (⟨"JoinSetter$Filler", "offerForm", "(IIII)V"⟩, 12) := ⟨⟨by decide +kernel, by decide +kernel⟩, List.mem_of_getElem? (i := 219) (by decide +kernel), List.mem_of_getElem? (i := 761) (by decide +kernel), List.mem_of_getElem? (i := 762) (by decide +kernel)⟩
theorem lw_p13 : lw_okq (⟨"JoinSetter$Filler", "mostAt", "(II)I"⟩, 12) := ⟨⟨by decide +kernel, by decide +kernel⟩, List.mem_of_getElem? (i := 219) (by decide +kernel), List.mem_of_getElem? (i := 765) (by decide +kernel), List.mem_of_getElem? (i := 766) (by decide +kernel)⟩
theorem lw_p14 : lw_okq (⟨"JoinSetter$Filler", "stateBehind", "(IIII)I"⟩, 12) := ⟨⟨by decide +kernel, by decide +kernel⟩, List.mem_of_getElem? (i := 219) (by decide +kernel), List.mem_of_getElem? (i := 769) (by decide +kernel), List.mem_of_getElem? (i := 770) (by decide +kernel)⟩
theorem lw_p15 : lw_okq (⟨"JoinSetter$Filler", "offer", "(IIII)V"⟩, 12) := ⟨⟨by decide +kernel, by decide +kernel⟩, List.mem_of_getElem? (i := 219) (by decide +kernel), List.mem_of_getElem? (i := 777) (by decide +kernel), List.mem_of_getElem? (i := 778) (by decide +kernel)⟩
def lw_privs_1 : List (MethodName × Nat) := [(⟨"JoinSetter", "lookAtText", "()V"⟩, 17), (⟨"JoinSetter$Units", "splitWords", "()V"⟩, 17), (⟨"JoinSetter$Units", "standOn", "(III)V"⟩, 17), (⟨"JoinSetter$Units", "addUnit", "(III)V"⟩, 17), (⟨"JoinSetter$Units", "findBases", "()V"⟩, 17), (⟨"JoinSetter$Units", "longestMust", "(I)I"⟩, 17), (⟨"JoinSetter$Units", "standsAt", "(II)Z"⟩, 17), (⟨"JoinSetter$Units", "findOthers", "()V"⟩, 17), (⟨"JoinSetter$Units", "areAlone", "(II)Z"⟩, 17), (⟨"JoinSetter$Filler", "clear", "(I)V"⟩, 12), (⟨"JoinSetter$Filler", "statesAt", "(I)I"⟩, 12), (⟨"JoinSetter$Filler", "offerKind", "(III)V"⟩, 12), (⟨"JoinSetter$Filler", "offerForm", "(IIII)V"⟩, 12), (⟨"JoinSetter$Filler", "mostAt", "(II)I"⟩, 12), (⟨"JoinSetter$Filler", "stateBehind", "(IIII)I"⟩, 12), (⟨"JoinSetter$Filler", "offer", "(IIII)V"⟩, 12)]
theorem lw_r1 : ∀ q ∈ lw_privs_1, lw_okq q := List.forall_mem_cons.mpr ⟨lw_p0, List.forall_mem_cons.mpr ⟨lw_p1, List.forall_mem_cons.mpr ⟨lw_p2, List.forall_mem_cons.mpr ⟨lw_p3, List.forall_mem_cons.mpr ⟨lw_p4, List.forall_mem_cons.mpr ⟨lw_p5, List.forall_mem_cons.mpr ⟨lw_p6, List.forall_mem_cons.mpr ⟨lw_p7, List.forall_mem_cons.mpr ⟨lw_p8, List.forall_mem_cons.mpr ⟨lw_p9, List.forall_mem_cons.mpr ⟨lw_p10, List.forall_mem_cons.mpr ⟨lw_p11, List.forall_mem_cons.mpr ⟨lw_p12, List.forall_mem_cons.mpr ⟨lw_p13, List.forall_mem_cons.mpr ⟨lw_p14, List.forall_mem_cons.mpr ⟨lw_p15, fun _ h => absurd h List.not_mem_nil⟩⟩⟩⟩⟩⟩⟩⟩⟩⟩⟩⟩⟩⟩⟩⟩
theorem lw_p16 : lw_okq (⟨"JoinSetter$Filler", "choose", "(III)Z"⟩, 12) := ⟨⟨by decide +kernel, by decide +kernel⟩, List.mem_of_getElem? (i := 219) (by decide +kernel), List.mem_of_getElem? (i := 802) (by decide +kernel), List.mem_of_getElem? (i := 803) (by decide +kernel)⟩
theorem lw_p17 : lw_okq (⟨"JoinSetter$Filler", "chooseStretch", "(IIIII)Z"⟩, 12) := ⟨⟨by decide +kernel, by decide +kernel⟩, List.mem_of_getElem? (i := 219) (by decide +kernel), List.mem_of_getElem? (i := 806) (by decide +kernel), List.mem_of_getElem? (i := 807) (by decide +kernel)⟩
theorem lw_p18 : lw_okq (⟨"JoinSetter", "takeSpare", "()V"⟩, 17) := ⟨⟨by decide +kernel, by decide +kernel⟩, List.mem_of_getElem? (i := 16) (by decide +kernel), List.mem_of_getElem? (i := 819) (by decide +kernel), List.mem_of_getElem? (i := 820) (by decide +kernel)⟩
theorem lw_p19 : lw_okq (⟨"JoinSetter$Line", "putMark", "(IIIZ)I"⟩, 12) := ⟨⟨by decide +kernel, by decide +kernel⟩, List.mem_of_getElem? (i := 346) (by decide +kernel), List.mem_of_getElem? (i := 827) (by decide +kernel), List.mem_of_getElem? (i := 828) (by decide +kernel)⟩
theorem lw_p20 : lw_okq (⟨"JoinSetter", "mirrored", "(I)I"⟩, 17) := ⟨⟨by decide +kernel, by decide +kernel⟩, List.mem_of_getElem? (i := 16) (by decide +kernel), List.mem_of_getElem? (i := 901) (by decide +kernel), List.mem_of_getElem? (i := 902) (by decide +kernel)⟩
theorem lw_p21 : lw_okq (⟨"JoinSetter", "isDigit", "(I)Z"⟩, 17) := ⟨⟨by decide +kernel, by decide +kernel⟩, List.mem_of_getElem? (i := 16) (by decide +kernel), List.mem_of_getElem? (i := 905) (by decide +kernel), List.mem_of_getElem? (i := 906) (by decide +kernel)⟩
theorem lw_p22 : lw_okq (⟨"JoinSetter$Claims", "closedBy", "(ILJoinSetter$Line;)I"⟩, 2) := ⟨⟨by decide +kernel, by decide +kernel⟩, List.mem_of_getElem? (i := 128) (by decide +kernel), List.mem_of_getElem? (i := 954) (by decide +kernel), List.mem_of_getElem? (i := 955) (by decide +kernel)⟩
theorem lw_p23 : lw_okq (⟨"JoinSetter$Paragraph", "offerLinesTo", "(II)V"⟩, 11) := ⟨⟨by decide +kernel, by decide +kernel⟩, List.mem_of_getElem? (i := 263) (by decide +kernel), List.mem_of_getElem? (i := 967) (by decide +kernel), List.mem_of_getElem? (i := 968) (by decide +kernel)⟩
theorem lw_p24 : lw_okq (⟨"JoinSetter$Paragraph", "isPlain", "(III)Z"⟩, 11) := ⟨⟨by decide +kernel, by decide +kernel⟩, List.mem_of_getElem? (i := 263) (by decide +kernel), List.mem_of_getElem? (i := 977) (by decide +kernel), List.mem_of_getElem? (i := 978) (by decide +kernel)⟩
theorem lw_p25 : lw_okq (⟨"JoinSetter$Pages", "offerPagesFrom", "(II)V"⟩, 7) := ⟨⟨by decide +kernel, by decide +kernel⟩, List.mem_of_getElem? (i := 313) (by decide +kernel), List.mem_of_getElem? (i := 1014) (by decide +kernel), List.mem_of_getElem? (i := 1015) (by decide +kernel)⟩
theorem lw_p26 : lw_okq (⟨"JoinSetterModel", "newLetter", "(I)I"⟩, 116) := ⟨⟨by decide +kernel, by decide +kernel⟩, List.mem_of_getElem? (i := 1030) (by decide +kernel), List.mem_of_getElem? (i := 1394) (by decide +kernel), List.mem_of_getElem? (i := 1395) (by decide +kernel)⟩
theorem lw_p27 : lw_okq (⟨"JoinSetterModel", "changed", "()V"⟩, 116) := ⟨⟨by decide +kernel, by decide +kernel⟩, List.mem_of_getElem? (i := 1030) (by decide +kernel), List.mem_of_getElem? (i := 1398) (by decide +kernel), List.mem_of_getElem? (i := 1399) (by decide +kernel)⟩
theorem lw_p28 : lw_okq (⟨"JoinSetterModel", "isLetter", "(I)Z"⟩, 116) := ⟨⟨by decide +kernel, by decide +kernel⟩, List.mem_of_getElem? (i := 1030) (by decide +kernel), List.mem_of_getElem? (i := 1406) (by decide +kernel), List.mem_of_getElem? (i := 1407) (by decide +kernel)⟩
theorem lw_p29 : lw_okq (⟨"JoinSetterModel", "joinsOn", "(I)Z"⟩, 116) := ⟨⟨by decide +kernel, by decide +kernel⟩, List.mem_of_getElem? (i := 1030) (by decide +kernel), List.mem_of_getElem? (i := 1410) (by decide +kernel), List.mem_of_getElem? (i := 1411) (by decide +kernel)⟩
theorem lw_p30 : lw_okq (⟨"JoinSetterModel", "canHave", "(II)Z"⟩, 116) := ⟨⟨by decide +kernel, by decide +kernel⟩, List.mem_of_getElem? (i := 1030) (by decide +kernel), List.mem_of_getElem? (i := 1424) (by decide +kernel), List.mem_of_getElem? (i := 1425) (by decide +kernel)⟩
theorem lw_p31 : lw_okq (⟨"JoinSetterModel", "isForm", "(I)Z"⟩, 116) := ⟨⟨by decide +kernel, by decide +kernel⟩, List.mem_of_getElem? (i := 1030) (by decide +kernel), List.mem_of_getElem? (i := 1434) (by decide +kernel), List.mem_of_getElem? (i := 1435) (by decide +kernel)⟩
def lw_privs_2 : List (MethodName × Nat) := [(⟨"JoinSetter$Filler", "choose", "(III)Z"⟩, 12), (⟨"JoinSetter$Filler", "chooseStretch", "(IIIII)Z"⟩, 12), (⟨"JoinSetter", "takeSpare", "()V"⟩, 17), (⟨"JoinSetter$Line", "putMark", "(IIIZ)I"⟩, 12), (⟨"JoinSetter", "mirrored", "(I)I"⟩, 17), (⟨"JoinSetter", "isDigit", "(I)Z"⟩, 17), (⟨"JoinSetter$Claims", "closedBy", "(ILJoinSetter$Line;)I"⟩, 2), (⟨"JoinSetter$Paragraph", "offerLinesTo", "(II)V"⟩, 11), (⟨"JoinSetter$Paragraph", "isPlain", "(III)Z"⟩, 11), (⟨"JoinSetter$Pages", "offerPagesFrom", "(II)V"⟩, 7), (⟨"JoinSetterModel", "newLetter", "(I)I"⟩, 116), (⟨"JoinSetterModel", "changed", "()V"⟩, 116), (⟨"JoinSetterModel", "isLetter", "(I)Z"⟩, 116), (⟨"JoinSetterModel", "joinsOn", "(I)Z"⟩, 116), (⟨"JoinSetterModel", "canHave", "(II)Z"⟩, 116), (⟨"JoinSetterModel", "isForm", "(I)Z"⟩, 116)]
theorem lw_r2 : ∀ q ∈ lw_privs_2, lw_okq q := List.forall_mem_cons.mpr ⟨lw_p16, List.forall_mem_cons.mpr ⟨lw_p17, List.forall_mem_cons.mpr ⟨lw_p18, List.forall_mem_cons.mpr ⟨lw_p19, List.forall_mem_cons.mpr ⟨lw_p20, List.forall_mem_cons.mpr ⟨lw_p21, List.forall_mem_cons.mpr ⟨lw_p22, List.forall_mem_cons.mpr ⟨lw_p23, List.forall_mem_cons.mpr ⟨lw_p24, List.forall_mem_cons.mpr ⟨lw_p25, List.forall_mem_cons.mpr ⟨lw_p26, List.forall_mem_cons.mpr ⟨lw_p27, List.forall_mem_cons.mpr ⟨lw_p28, List.forall_mem_cons.mpr ⟨lw_p29, List.forall_mem_cons.mpr ⟨lw_p30, List.forall_mem_cons.mpr ⟨lw_p31, fun _ h => absurd h List.not_mem_nil⟩⟩⟩⟩⟩⟩⟩⟩⟩⟩⟩⟩⟩⟩⟩⟩
theorem lw_p32 : lw_okq (⟨"JoinSetterModel", "isMark", "(I)Z"⟩, 116) := ⟨⟨by decide +kernel, by decide +kernel⟩, List.mem_of_getElem? (i := 1030) (by decide +kernel), List.mem_of_getElem? (i := 1440) (by decide +kernel), List.mem_of_getElem? (i := 1441) (by decide +kernel)⟩
theorem lw_p33 : lw_okq (⟨"JoinSetterModel", "put", "(II)V"⟩, 116) := ⟨⟨by decide +kernel, by decide +kernel⟩, List.mem_of_getElem? (i := 1030) (by decide +kernel), List.mem_of_getElem? (i := 1464) (by decide +kernel), List.mem_of_getElem? (i := 1465) (by decide +kernel)⟩
theorem lw_p34 : lw_okq (⟨"JoinSetterModel", "note", "(ZII)V"⟩, 116) := ⟨⟨by decide +kernel, by decide +kernel⟩, List.mem_of_getElem? (i := 1030) (by decide +kernel), List.mem_of_getElem? (i := 1468) (by decide +kernel), List.mem_of_getElem? (i := 1469) (by decide +kernel)⟩
theorem lw_p35 : lw_okq (⟨"JoinSetterModel", "takeOut", "(I)I"⟩, 116) := ⟨⟨by decide +kernel, by decide +kernel⟩, List.mem_of_getElem? (i := 1030) (by decide +kernel), List.mem_of_getElem? (i := 1477) (by decide +kernel), List.mem_of_getElem? (i := 1478) (by decide +kernel)⟩
theorem lw_p36 : lw_okq (⟨"JoinSetterModel", "cut", "()V"⟩, 116) := ⟨⟨by decide +kernel, by decide +kernel⟩, List.mem_of_getElem? (i := 1030) (by decide +kernel), List.mem_of_getElem? (i := 1493) (by decide +kernel), List.mem_of_getElem? (i := 1494) (by decide +kernel)⟩
theorem lw_p37 : lw_okq (⟨"JoinSetterModel", "base", "(IIII)V"⟩, 116) := ⟨⟨by decide +kernel, by decide +kernel⟩, List.mem_of_getElem? (i := 1030) (by decide +kernel), List.mem_of_getElem? (i := 1497) (by decide +kernel), List.mem_of_getElem? (i := 1498) (by decide +kernel)⟩
theorem lw_p38 : lw_okq (⟨"JoinSetterModel", "cutWord", "(II)V"⟩, 116) := ⟨⟨by decide +kernel, by decide +kernel⟩, List.mem_of_getElem? (i := 1030) (by decide +kernel), List.mem_of_getElem? (i := 1501) (by decide +kernel), List.mem_of_getElem? (i := 1502) (by decide +kernel)⟩
theorem lw_p39 : lw_okq (⟨"JoinSetterModel", "longest", "(II)I"⟩, 116) := ⟨⟨by decide +kernel, by decide +kernel⟩, List.mem_of_getElem? (i := 1030) (by decide +kernel), List.mem_of_getElem? (i := 1505) (by decide +kernel), List.mem_of_getElem? (i := 1506) (by decide +kernel)⟩
theorem lw_p40 : lw_okq (⟨"JoinSetterModel", "howManyOf", "(I)I"⟩, 116) := ⟨⟨by decide +kernel, by decide +kernel⟩, List.mem_of_getElem? (i := 1030) (by decide +kernel), List.mem_of_getElem? (i := 1509) (by decide +kernel), List.mem_of_getElem? (i := 1510) (by decide +kernel)⟩
theorem lw_p41 : lw_okq (⟨"JoinSetterModel", "joined", "(II)Z"⟩, 116) := ⟨⟨by decide +kernel, by decide +kernel⟩, List.mem_of_getElem? (i := 1030) (by decide +kernel), List.mem_of_getElem? (i := 1513) (by decide +kernel), List.mem_of_getElem? (i := 1514) (by decide +kernel)⟩
theorem lw_p42 : lw_okq (⟨"JoinSetterModel", "placeOf", "(II)I"⟩, 116) := ⟨⟨by decide +kernel, by decide +kernel⟩, List.mem_of_getElem? (i := 1030) (by decide +kernel), List.mem_of_getElem? (i := 1517) (by decide +kernel), List.mem_of_getElem? (i := 1518) (by decide +kernel)⟩
theorem lw_p43 : lw_okq (⟨"JoinSetterModel", "plainOf", "(II)I"⟩, 116) := ⟨⟨by decide +kernel, by decide +kernel⟩, List.mem_of_getElem? (i := 1030) (by decide +kernel), List.mem_of_getElem? (i := 1521) (by decide +kernel), List.mem_of_getElem? (i := 1522) (by decide +kernel)⟩
theorem lw_p44 : lw_okq (⟨"JoinSetterModel", "areWords", "(II)Z"⟩, 116) := ⟨⟨by decide +kernel, by decide +kernel⟩, List.mem_of_getElem? (i := 1030) (by decide +kernel), List.mem_of_getElem? (i := 1533) (by decide +kernel), List.mem_of_getElem? (i := 1534) (by decide +kernel)⟩
theorem lw_p45 : lw_okq (⟨"JoinSetterModel", "fill", "(III)Z"⟩, 116) := ⟨⟨by decide +kernel, by decide +kernel⟩, List.mem_of_getElem? (i := 1030) (by decide +kernel), List.mem_of_getElem? (i := 1538) (by decide +kernel), List.mem_of_getElem? (i := 1539) (by decide +kernel)⟩
theorem lw_p46 : lw_okq (⟨"JoinSetterModel", "haveForms", "(II)Z"⟩, 116) := ⟨⟨by decide +kernel, by decide +kernel⟩, List.mem_of_getElem? (i := 1030) (by decide +kernel), List.mem_of_getElem? (i := 1542) (by decide +kernel), List.mem_of_getElem? (i := 1543) (by decide +kernel)⟩
theorem lw_p47 : lw_okq (⟨"JoinSetterModel", "findLeast", "(II)V"⟩, 116) := ⟨⟨by decide +kernel, by decide +kernel⟩, List.mem_of_getElem? (i := 1030) (by decide +kernel), List.mem_of_getElem? (i := 1546) (by decide +kernel), List.mem_of_getElem? (i := 1547) (by decide +kernel)⟩
def lw_privs_3 : List (MethodName × Nat) := [(⟨"JoinSetterModel", "isMark", "(I)Z"⟩, 116), (⟨"JoinSetterModel", "put", "(II)V"⟩, 116), (⟨"JoinSetterModel", "note", "(ZII)V"⟩, 116), (⟨"JoinSetterModel", "takeOut", "(I)I"⟩, 116), (⟨"JoinSetterModel", "cut", "()V"⟩, 116), (⟨"JoinSetterModel", "base", "(IIII)V"⟩, 116), (⟨"JoinSetterModel", "cutWord", "(II)V"⟩, 116), (⟨"JoinSetterModel", "longest", "(II)I"⟩, 116), (⟨"JoinSetterModel", "howManyOf", "(I)I"⟩, 116), (⟨"JoinSetterModel", "joined", "(II)Z"⟩, 116), (⟨"JoinSetterModel", "placeOf", "(II)I"⟩, 116), (⟨"JoinSetterModel", "plainOf", "(II)I"⟩, 116), (⟨"JoinSetterModel", "areWords", "(II)Z"⟩, 116), (⟨"JoinSetterModel", "fill", "(III)Z"⟩, 116), (⟨"JoinSetterModel", "haveForms", "(II)Z"⟩, 116), (⟨"JoinSetterModel", "findLeast", "(II)V"⟩, 116)]
theorem lw_r3 : ∀ q ∈ lw_privs_3, lw_okq q := List.forall_mem_cons.mpr ⟨lw_p32, List.forall_mem_cons.mpr ⟨lw_p33, List.forall_mem_cons.mpr ⟨lw_p34, List.forall_mem_cons.mpr ⟨lw_p35, List.forall_mem_cons.mpr ⟨lw_p36, List.forall_mem_cons.mpr ⟨lw_p37, List.forall_mem_cons.mpr ⟨lw_p38, List.forall_mem_cons.mpr ⟨lw_p39, List.forall_mem_cons.mpr ⟨lw_p40, List.forall_mem_cons.mpr ⟨lw_p41, List.forall_mem_cons.mpr ⟨lw_p42, List.forall_mem_cons.mpr ⟨lw_p43, List.forall_mem_cons.mpr ⟨lw_p44, List.forall_mem_cons.mpr ⟨lw_p45, List.forall_mem_cons.mpr ⟨lw_p46, List.forall_mem_cons.mpr ⟨lw_p47, fun _ h => absurd h List.not_mem_nil⟩⟩⟩⟩⟩⟩⟩⟩⟩⟩⟩⟩⟩⟩⟩⟩
theorem lw_p48 : lw_okq (⟨"JoinSetterModel", "withPiece", "(III)V"⟩, 116) := ⟨⟨by decide +kernel, by decide +kernel⟩, List.mem_of_getElem? (i := 1030) (by decide +kernel), List.mem_of_getElem? (i := 1554) (by decide +kernel), List.mem_of_getElem? (i := 1555) (by decide +kernel)⟩
theorem lw_p49 : lw_okq (⟨"JoinSetterModel", "withStretch", "(IIII)V"⟩, 116) := ⟨⟨by decide +kernel, by decide +kernel⟩, List.mem_of_getElem? (i := 1030) (by decide +kernel), List.mem_of_getElem? (i := 1558) (by decide +kernel), List.mem_of_getElem? (i := 1559) (by decide +kernel)⟩
theorem lw_p50 : lw_okq (⟨"JoinSetterModel", "stateBehind", "(IIII)I"⟩, 116) := ⟨⟨by decide +kernel, by decide +kernel⟩, List.mem_of_getElem? (i := 1030) (by decide +kernel), List.mem_of_getElem? (i := 1565) (by decide +kernel), List.mem_of_getElem? (i := 1566) (by decide +kernel)⟩
theorem lw_p51 : lw_okq (⟨"JoinSetterModel", "mayBe", "(III)Z"⟩, 116) := ⟨⟨by decide +kernel, by decide +kernel⟩, List.mem_of_getElem? (i := 1030) (by decide +kernel), List.mem_of_getElem? (i := 1569) (by decide +kernel), List.mem_of_getElem? (i := 1570) (by decide +kernel)⟩
theorem lw_p52 : lw_okq (⟨"JoinSetterModel", "beginSet", "(II)V"⟩, 116) := ⟨⟨by decide +kernel, by decide +kernel⟩, List.mem_of_getElem? (i := 1030) (by decide +kernel), List.mem_of_getElem? (i := 1573) (by decide +kernel), List.mem_of_getElem? (i := 1574) (by decide +kernel)⟩
theorem lw_p53 : lw_okq (⟨"JoinSetterModel", "choose", "(IIII)V"⟩, 116) := ⟨⟨by decide +kernel, by decide +kernel⟩, List.mem_of_getElem? (i := 1030) (by decide +kernel), List.mem_of_getElem? (i := 1577) (by decide +kernel), List.mem_of_getElem? (i := 1578) (by decide +kernel)⟩
theorem lw_p54 : lw_okq (⟨"JoinSetterModel", "isChosen", "(IIIII)Z"⟩, 116) := ⟨⟨by decide +kernel, by decide +kernel⟩, List.mem_of_getElem? (i := 1030) (by decide +kernel), List.mem_of_getElem? (i := 1581) (by decide +kernel), List.mem_of_getElem? (i := 1582) (by decide +kernel)⟩
theorem lw_p55 : lw_okq (⟨"JoinSetterModel", "addPiece", "(IIIII)V"⟩, 116) := ⟨⟨by decide +kernel, by decide +kernel⟩, List.mem_of_getElem? (i := 1030) (by decide +kernel), List.mem_of_getElem? (i := 1585) (by decide +kernel), List.mem_of_getElem? (i := 1586) (by decide +kernel)⟩
theorem lw_p56 : lw_okq (⟨"JoinSetterModel", "layMarks", "()V"⟩, 116) := ⟨⟨by decide +kernel, by decide +kernel⟩, List.mem_of_getElem? (i := 1030) (by decide +kernel), List.mem_of_getElem? (i := 1589) (by decide +kernel), List.mem_of_getElem? (i := 1590) (by decide +kernel)⟩
theorem lw_p57 : lw_okq (⟨"JoinSetterModel", "layMark", "(II)V"⟩, 116) := ⟨⟨by decide +kernel, by decide +kernel⟩, List.mem_of_getElem? (i := 1030) (by decide +kernel), List.mem_of_getElem? (i := 1593) (by decide +kernel), List.mem_of_getElem? (i := 1594) (by decide +kernel)⟩
theorem lw_p58 : lw_okq (⟨"JoinSetterModel", "touches", "(IIII)Z"⟩, 116) := ⟨⟨by decide +kernel, by decide +kernel⟩, List.mem_of_getElem? (i := 1030) (by decide +kernel), List.mem_of_getElem? (i := 1597) (by decide +kernel), List.mem_of_getElem? (i := 1598) (by decide +kernel)⟩
theorem lw_p59 : lw_okq (⟨"JoinSetterModel", "toHand", "()V"⟩, 116) := ⟨⟨by decide +kernel, by decide +kernel⟩, List.mem_of_getElem? (i := 1030) (by decide +kernel), List.mem_of_getElem? (i := 1604) (by decide +kernel), List.mem_of_getElem? (i := 1605) (by decide +kernel)⟩
theorem lw_p60 : lw_okq (⟨"JoinSetterModel", "see", "()V"⟩, 116) := ⟨⟨by decide +kernel, by decide +kernel⟩, List.mem_of_getElem? (i := 1030) (by decide +kernel), List.mem_of_getElem? (i := 1608) (by decide +kernel), List.mem_of_getElem? (i := 1609) (by decide +kernel)⟩
theorem lw_p61 : lw_okq (⟨"JoinSetterModel", "isDigit", "(I)Z"⟩, 116) := ⟨⟨by decide +kernel, by decide +kernel⟩, List.mem_of_getElem? (i := 1030) (by decide +kernel), List.mem_of_getElem? (i := 1612) (by decide +kernel), List.mem_of_getElem? (i := 1613) (by decide +kernel)⟩
theorem lw_p62 : lw_okq (⟨"JoinSetterModel", "setPlain", "(II)Z"⟩, 116) := ⟨⟨by decide +kernel, by decide +kernel⟩, List.mem_of_getElem? (i := 1030) (by decide +kernel), List.mem_of_getElem? (i := 1624) (by decide +kernel), List.mem_of_getElem? (i := 1625) (by decide +kernel)⟩
theorem lw_p63 : lw_okq (⟨"JoinSetterModel", "canBePlain", "(II)Z"⟩, 116) := ⟨⟨by decide +kernel, by decide +kernel⟩, List.mem_of_getElem? (i := 1030) (by decide +kernel), List.mem_of_getElem? (i := 1628) (by decide +kernel), List.mem_of_getElem? (i := 1629) (by decide +kernel)⟩
def lw_privs_4 : List (MethodName × Nat) := [(⟨"JoinSetterModel", "withPiece", "(III)V"⟩, 116), (⟨"JoinSetterModel", "withStretch", "(IIII)V"⟩, 116), (⟨"JoinSetterModel", "stateBehind", "(IIII)I"⟩, 116), (⟨"JoinSetterModel", "mayBe", "(III)Z"⟩, 116), (⟨"JoinSetterModel", "beginSet", "(II)V"⟩, 116), (⟨"JoinSetterModel", "choose", "(IIII)V"⟩, 116), (⟨"JoinSetterModel", "isChosen", "(IIIII)Z"⟩, 116), (⟨"JoinSetterModel", "addPiece", "(IIIII)V"⟩, 116), (⟨"JoinSetterModel", "layMarks", "()V"⟩, 116), (⟨"JoinSetterModel", "layMark", "(II)V"⟩, 116), (⟨"JoinSetterModel", "touches", "(IIII)Z"⟩, 116), (⟨"JoinSetterModel", "toHand", "()V"⟩, 116), (⟨"JoinSetterModel", "see", "()V"⟩, 116), (⟨"JoinSetterModel", "isDigit", "(I)Z"⟩, 116), (⟨"JoinSetterModel", "setPlain", "(II)Z"⟩, 116), (⟨"JoinSetterModel", "canBePlain", "(II)Z"⟩, 116)]
theorem lw_r4 : ∀ q ∈ lw_privs_4, lw_okq q := List.forall_mem_cons.mpr ⟨lw_p48, List.forall_mem_cons.mpr ⟨lw_p49, List.forall_mem_cons.mpr ⟨lw_p50, List.forall_mem_cons.mpr ⟨lw_p51, List.forall_mem_cons.mpr ⟨lw_p52, List.forall_mem_cons.mpr ⟨lw_p53, List.forall_mem_cons.mpr ⟨lw_p54, List.forall_mem_cons.mpr ⟨lw_p55, List.forall_mem_cons.mpr ⟨lw_p56, List.forall_mem_cons.mpr ⟨lw_p57, List.forall_mem_cons.mpr ⟨lw_p58, List.forall_mem_cons.mpr ⟨lw_p59, List.forall_mem_cons.mpr ⟨lw_p60, List.forall_mem_cons.mpr ⟨lw_p61, List.forall_mem_cons.mpr ⟨lw_p62, List.forall_mem_cons.mpr ⟨lw_p63, fun _ h => absurd h List.not_mem_nil⟩⟩⟩⟩⟩⟩⟩⟩⟩⟩⟩⟩⟩⟩⟩⟩
theorem lw_p64 : lw_okq (⟨"JoinSetterModel", "setClaimed", "(II)I"⟩, 116) := ⟨⟨by decide +kernel, by decide +kernel⟩, List.mem_of_getElem? (i := 1030) (by decide +kernel), List.mem_of_getElem? (i := 1672) (by decide +kernel), List.mem_of_getElem? (i := 1673) (by decide +kernel)⟩
theorem lw_p65 : lw_okq (⟨"JoinSetterModel", "claimedAs", "(III)I"⟩, 116) := ⟨⟨by decide +kernel, by decide +kernel⟩, List.mem_of_getElem? (i := 1030) (by decide +kernel), List.mem_of_getElem? (i := 1676) (by decide +kernel), List.mem_of_getElem? (i := 1677) (by decide +kernel)⟩
theorem lw_p66 : lw_okq (⟨"JoinSetterModel", "isOf", "(III)Z"⟩, 116) := ⟨⟨by decide +kernel, by decide +kernel⟩, List.mem_of_getElem? (i := 1030) (by decide +kernel), List.mem_of_getElem? (i := 1680) (by decide +kernel), List.mem_of_getElem? (i := 1681) (by decide +kernel)⟩
theorem lw_p67 : lw_okq (⟨"JoinSetterModel", "isPlainEnd", "(II)Z"⟩, 116) := ⟨⟨by decide +kernel, by decide +kernel⟩, List.mem_of_getElem? (i := 1030) (by decide +kernel), List.mem_of_getElem? (i := 1688) (by decide +kernel), List.mem_of_getElem? (i := 1689) (by decide +kernel)⟩
theorem lw_p68 : lw_okq (⟨"JoinSetterModel", "noteLines", "(I)V"⟩, 116) := ⟨⟨by decide +kernel, by decide +kernel⟩, List.mem_of_getElem? (i := 1030) (by decide +kernel), List.mem_of_getElem? (i := 1692) (by decide +kernel), List.mem_of_getElem? (i := 1693) (by decide +kernel)⟩
theorem lw_p69 : lw_okq (⟨"JoinSetterModel", "setLine", "(I)Z"⟩, 116) := ⟨⟨by decide +kernel, by decide +kernel⟩, List.mem_of_getElem? (i := 1030) (by decide +kernel), List.mem_of_getElem? (i := 1696) (by decide +kernel), List.mem_of_getElem? (i := 1697) (by decide +kernel)⟩
def lw_privs_5 : List (MethodName × Nat) := [(⟨"JoinSetterModel", "setClaimed", "(II)I"⟩, 116), (⟨"JoinSetterModel", "claimedAs", "(III)I"⟩, 116), (⟨"JoinSetterModel", "isOf", "(III)Z"⟩, 116), (⟨"JoinSetterModel", "isPlainEnd", "(II)Z"⟩, 116), (⟨"JoinSetterModel", "noteLines", "(I)V"⟩, 116), (⟨"JoinSetterModel", "setLine", "(I)Z"⟩, 116)]
theorem lw_r5 : ∀ q ∈ lw_privs_5, lw_okq q := List.forall_mem_cons.mpr ⟨lw_p64, List.forall_mem_cons.mpr ⟨lw_p65, List.forall_mem_cons.mpr ⟨lw_p66, List.forall_mem_cons.mpr ⟨lw_p67, List.forall_mem_cons.mpr ⟨lw_p68, List.forall_mem_cons.mpr ⟨lw_p69, fun _ h => absurd h List.not_mem_nil⟩⟩⟩⟩⟩⟩
def lw_privs : List (MethodName × Nat) := lw_privs_1 ++ (lw_privs_2 ++ (lw_privs_3 ++ (lw_privs_4 ++ (lw_privs_5))))
def lw_tbl : List Cond := k2_sels lw_privs ++ tables_1
theorem lw_privs_ok : ∀ q ∈ lw_privs, lw_okq q := by
  show ∀ q ∈ lw_privs_1 ++ (lw_privs_2 ++ (lw_privs_3 ++ (lw_privs_4 ++ (lw_privs_5)))), lw_okq q
  exact List.forall_mem_append.mpr ⟨lw_r1, List.forall_mem_append.mpr ⟨lw_r2, List.forall_mem_append.mpr ⟨lw_r3, List.forall_mem_append.mpr ⟨lw_r4, lw_r5⟩⟩⟩⟩

/-- the words that hold at every later state too -/
def gt : List Cond := lw_tbl.filter goodWord
theorem gt_mem {w : Cond} (h : w ∈ lw_tbl) (g : goodWord w = true) : w ∈ gt := List.mem_filter.mpr ⟨h, g⟩
theorem gt_sub {w : Cond} (h : w ∈ gt) : w ∈ lw_tbl := (List.mem_filter.mp h).1
theorem gt_good : GoodIn gt gt := fun w h => ⟨h, good_of_word (List.mem_filter.mp h).2⟩
theorem gt_at {w : Cond} (i : Nat) (h : lw_tbl[i]? = some w) (g : goodWord w = true) : w ∈ gt := gt_mem (List.mem_of_getElem? h) g
end
section
/-- the words of a class's fields, by their places among the tables' words -/
theorem inlays {C : String} {T : u_T} {N : Nat} (ps : List Nat) (h : (List.range N).all (fun j => decide (lw_tbl[ps.getD j 0]? = some (u_lay C T j))) = true) : ∀ w ∈ u_ws C T N, w ∈ gt := by
  intro w hw
  unfold u_ws at hw
  obtain ⟨j, hj, rfl⟩ := List.mem_map.mp hw
  have h1 := List.all_eq_true.mp h j hj
  refine gt_at _ (of_decide_eq_true h1) ?_
  unfold u_lay
  split <;> rfl
def R_JS : String := "JoinSetter"
def T_JS : u_T := fun k => match k with
  | 0 => ("JoinSetter", "script", "LJoinSetter$Script;", true)
  | 1 => ("JoinSetter", "typed", "LJoinSetter$Typed;", true)
  | 2 => ("JoinSetter", "claims", "LJoinSetter$Claims;", true)
  | 3 => ("JoinSetter", "units", "LJoinSetter$Units;", true)
  | 4 => ("JoinSetter", "filler", "LJoinSetter$Filler;", true)
  | 5 => ("JoinSetter", "paragraph", "LJoinSetter$Paragraph;", true)
  | 6 => ("JoinSetter", "sheets", "LJoinSetter$Pages;", true)
  | 7 => ("JoinSetter", "hand", "LJoinSetter$Line;", false)
  | 8 => ("JoinSetter", "spare", "LJoinSetter$Line;", false)
  | 9 => ("JoinSetter", "changes", "I", false)
  | 10 => ("JoinSetter", "unitsAt", "I", false)
  | 11 => ("JoinSetter", "handAt", "I", false)
  | 12 => ("JoinSetter", "nearAt", "I", false)
  | 13 => ("JoinSetter", "bestAt", "I", false)
  | 14 => ("JoinSetter", "pagesAt", "I", false)
  | 15 => ("JoinSetter", "nearBelow", "I", false)
  | _ => ("JoinSetter", "nearAbove", "I", false)
def ty_JS : Nat → FieldType := fun k => match k with
  | 0 => .object "JoinSetter$Script"
  | 1 => .object "JoinSetter$Typed"
  | 2 => .object "JoinSetter$Claims"
  | 3 => .object "JoinSetter$Units"
  | 4 => .object "JoinSetter$Filler"
  | 5 => .object "JoinSetter$Paragraph"
  | 6 => .object "JoinSetter$Pages"
  | 7 => .object "JoinSetter$Line"
  | 8 => .object "JoinSetter$Line"
  | 9 => .int
  | 10 => .int
  | 11 => .int
  | 12 => .int
  | 13 => .int
  | 14 => .int
  | 15 => .int
  | _ => .int
theorem nm_JS : ∀ a, a < 17 → ∀ b, b < 17 → a ≠ b → (T_JS a).2.1 ≠ (T_JS b).2.1 := by decide +kernel
theorem to_JS : ∀ k, k < 17 → parseFieldDescriptor (T_JS k).2.2.1 = some (ty_JS k) := by decide +kernel
theorem in_JS : ∀ w ∈ u_ws R_JS T_JS 17, w ∈ gt := inlays [550, 552, 554, 556, 558, 560, 562, 564, 566, 568, 570, 572, 574, 576, 578, 580, 582] (by decide +kernel)
def R_SC : String := "JoinSetter$Script"
def T_SC : u_T := fun k => match k with
  | 0 => ("JoinSetter$Script", "letters", "I", false)
  | 1 => ("JoinSetter$Script", "ligatures", "I", false)
  | 2 => ("JoinSetter$Script", "forms", "I", false)
  | 3 => ("JoinSetter$Script", "sort", "[I", true)
  | 4 => ("JoinSetter$Script", "endSort", "[I", true)
  | 5 => ("JoinSetter$Script", "length", "[I", true)
  | 6 => ("JoinSetter$Script", "barred", "[Z", true)
  | 7 => ("JoinSetter$Script", "ligature", "[I", true)
  | 8 => ("JoinSetter$Script", "parts", "[[I", true)
  | 9 => ("JoinSetter$Script", "must", "[Z", true)
  | 10 => ("JoinSetter$Script", "facts", "[[I", true)
  | 11 => ("JoinSetter$Script", "formCount", "[I", true)
  | _ => ("JoinSetter$Script", "formAt", "[I", true)
def ty_SC : Nat → FieldType := fun k => match k with
  | 0 => .int
  | 1 => .int
  | 2 => .int
  | 3 => .array .int
  | 4 => .array .int
  | 5 => .array .int
  | 6 => .array .boolean
  | 7 => .array .int
  | 8 => .array (.array .int)
  | 9 => .array .boolean
  | 10 => .array (.array .int)
  | 11 => .array .int
  | _ => .array .int
theorem nm_SC : ∀ a, a < 13 → ∀ b, b < 13 → a ≠ b → (T_SC a).2.1 ≠ (T_SC b).2.1 := by decide +kernel
theorem to_SC : ∀ k, k < 13 → parseFieldDescriptor (T_SC k).2.2.1 = some (ty_SC k) := by decide +kernel
theorem in_SC : ∀ w ∈ u_ws R_SC T_SC 13, w ∈ gt := inlays [137, 139, 141, 143, 145, 147, 149, 151, 153, 155, 157, 159, 161] (by decide +kernel)
def R_TY : String := "JoinSetter$Typed"
def T_TY : u_T := fun k => match k with
  | 0 => ("JoinSetter$Typed", "count", "I", false)
  | 1 => ("JoinSetter$Typed", "edits", "I", false)
  | 2 => ("JoinSetter$Typed", "letters", "[I", true)
  | 3 => ("JoinSetter$Typed", "nextEdit", "I", false)
  | 4 => ("JoinSetter$Typed", "editAt", "[I", true)
  | _ => ("JoinSetter$Typed", "editGone", "[I", true)
def ty_TY : Nat → FieldType := fun k => match k with
  | 0 => .int
  | 1 => .int
  | 2 => .array .int
  | 3 => .int
  | 4 => .array .int
  | _ => .array .int
theorem nm_TY : ∀ a, a < 6 → ∀ b, b < 6 → a ≠ b → (T_TY a).2.1 ≠ (T_TY b).2.1 := by decide +kernel
theorem to_TY : ∀ k, k < 6 → parseFieldDescriptor (T_TY k).2.2.1 = some (ty_TY k) := by decide +kernel
theorem in_TY : ∀ w ∈ u_ws R_TY T_TY 6, w ∈ gt := inlays [184, 186, 188, 190, 192, 194] (by decide +kernel)
def R_CL : String := "JoinSetter$Claims"
def T_CL : u_T := fun k => match k with
  | 0 => ("JoinSetter$Claims", "count", "I", false)
  | _ => ("JoinSetter$Claims", "numbers", "[I", true)
def ty_CL : Nat → FieldType := fun k => match k with
  | 0 => .int
  | _ => .array .int
theorem nm_CL : ∀ a, a < 2 → ∀ b, b < 2 → a ≠ b → (T_CL a).2.1 ≠ (T_CL b).2.1 := by decide +kernel
theorem to_CL : ∀ k, k < 2 → parseFieldDescriptor (T_CL k).2.2.1 = some (ty_CL k) := by decide +kernel
theorem in_CL : ∀ w ∈ u_ws R_CL T_CL 2, w ∈ gt := inlays [206, 208] (by decide +kernel)
def R_UN : String := "JoinSetter$Units"
def T_UN : u_T := fun k => match k with
  | 0 => ("JoinSetter$Units", "script", "LJoinSetter$Script;", true)
  | 1 => ("JoinSetter$Units", "typed", "LJoinSetter$Typed;", true)
  | 2 => ("JoinSetter$Units", "count", "I", false)
  | 3 => ("JoinSetter$Units", "words", "I", false)
  | 4 => ("JoinSetter$Units", "at", "[I", true)
  | 5 => ("JoinSetter$Units", "lastAt", "[I", true)
  | 6 => ("JoinSetter$Units", "letter", "[I", true)
  | 7 => ("JoinSetter$Units", "word", "[I", true)
  | 8 => ("JoinSetter$Units", "blank", "[Z", true)
  | 9 => ("JoinSetter$Units", "wordFrom", "[I", true)
  | 10 => ("JoinSetter$Units", "wordTo", "[I", true)
  | 11 => ("JoinSetter$Units", "unitOf", "[I", true)
  | 12 => ("JoinSetter$Units", "joins", "[Z", true)
  | 13 => ("JoinSetter$Units", "lacksMark", "[Z", true)
  | 14 => ("JoinSetter$Units", "beginning", "[I", true)
  | 15 => ("JoinSetter$Units", "kindCount", "[I", true)
  | _ => ("JoinSetter$Units", "kinds", "[I", true)
def ty_UN : Nat → FieldType := fun k => match k with
  | 0 => .object "JoinSetter$Script"
  | 1 => .object "JoinSetter$Typed"
  | 2 => .int
  | 3 => .int
  | 4 => .array .int
  | 5 => .array .int
  | 6 => .array .int
  | 7 => .array .int
  | 8 => .array .boolean
  | 9 => .array .int
  | 10 => .array .int
  | 11 => .array .int
  | 12 => .array .boolean
  | 13 => .array .boolean
  | 14 => .array .int
  | 15 => .array .int
  | _ => .array .int
theorem nm_UN : ∀ a, a < 17 → ∀ b, b < 17 → a ≠ b → (T_UN a).2.1 ≠ (T_UN b).2.1 := by decide +kernel
theorem to_UN : ∀ k, k < 17 → parseFieldDescriptor (T_UN k).2.2.1 = some (ty_UN k) := by decide +kernel
theorem in_UN : ∀ w ∈ u_ws R_UN T_UN 17, w ∈ gt := inlays [253, 255, 257, 259, 261, 263, 265, 267, 269, 271, 273, 275, 277, 279, 281, 283, 285] (by decide +kernel)
def R_FI : String := "JoinSetter$Filler"
def T_FI : u_T := fun k => match k with
  | 0 => ("JoinSetter$Filler", "script", "LJoinSetter$Script;", true)
  | 1 => ("JoinSetter$Filler", "units", "LJoinSetter$Units;", true)
  | 2 => ("JoinSetter$Filler", "cost", "[[I", true)
  | 3 => ("JoinSetter$Filler", "narrowest", "[I", true)
  | 4 => ("JoinSetter$Filler", "widest", "[I", true)
  | 5 => ("JoinSetter$Filler", "end", "I", false)
  | 6 => ("JoinSetter$Filler", "limit", "I", false)
  | 7 => ("JoinSetter$Filler", "bars", "Z", false)
  | 8 => ("JoinSetter$Filler", "chosenLetter", "I", false)
  | 9 => ("JoinSetter$Filler", "chosenForm", "I", false)
  | 10 => ("JoinSetter$Filler", "chosenStretch", "I", false)
  | _ => ("JoinSetter$Filler", "chosenState", "I", false)
def ty_FI : Nat → FieldType := fun k => match k with
  | 0 => .object "JoinSetter$Script"
  | 1 => .object "JoinSetter$Units"
  | 2 => .array (.array .int)
  | 3 => .array .int
  | 4 => .array .int
  | 5 => .int
  | 6 => .int
  | 7 => .boolean
  | 8 => .int
  | 9 => .int
  | 10 => .int
  | _ => .int
theorem nm_FI : ∀ a, a < 12 → ∀ b, b < 12 → a ≠ b → (T_FI a).2.1 ≠ (T_FI b).2.1 := by decide +kernel
theorem to_FI : ∀ k, k < 12 → parseFieldDescriptor (T_FI k).2.2.1 = some (ty_FI k) := by decide +kernel
theorem in_FI : ∀ w ∈ u_ws R_FI T_FI 12, w ∈ gt := inlays [307, 309, 311, 313, 315, 317, 319, 321, 323, 325, 327, 329] (by decide +kernel)
def R_PA : String := "JoinSetter$Paragraph"
def T_PA : u_T := fun k => match k with
  | 0 => ("JoinSetter$Paragraph", "units", "LJoinSetter$Units;", true)
  | 1 => ("JoinSetter$Paragraph", "filler", "LJoinSetter$Filler;", true)
  | 2 => ("JoinSetter$Paragraph", "count", "I", false)
  | 3 => ("JoinSetter$Paragraph", "lineWidth", "I", false)
  | 4 => ("JoinSetter$Paragraph", "first", "[I", true)
  | 5 => ("JoinSetter$Paragraph", "wordsIn", "[I", true)
  | 6 => ("JoinSetter$Paragraph", "price", "[I", true)
  | 7 => ("JoinSetter$Paragraph", "height", "[I", true)
  | 8 => ("JoinSetter$Paragraph", "depth", "[I", true)
  | 9 => ("JoinSetter$Paragraph", "least", "[I", true)
  | _ => ("JoinSetter$Paragraph", "lastWord", "[I", true)
def ty_PA : Nat → FieldType := fun k => match k with
  | 0 => .object "JoinSetter$Units"
  | 1 => .object "JoinSetter$Filler"
  | 2 => .int
  | 3 => .int
  | 4 => .array .int
  | 5 => .array .int
  | 6 => .array .int
  | 7 => .array .int
  | 8 => .array .int
  | 9 => .array .int
  | _ => .array .int
theorem nm_PA : ∀ a, a < 11 → ∀ b, b < 11 → a ≠ b → (T_PA a).2.1 ≠ (T_PA b).2.1 := by decide +kernel
theorem to_PA : ∀ k, k < 11 → parseFieldDescriptor (T_PA k).2.2.1 = some (ty_PA k) := by decide +kernel
theorem in_PA : ∀ w ∈ u_ws R_PA T_PA 11, w ∈ gt := inlays [359, 361, 363, 365, 367, 369, 371, 373, 375, 377, 379] (by decide +kernel)
def R_PG : String := "JoinSetter$Pages"
def T_PG : u_T := fun k => match k with
  | 0 => ("JoinSetter$Pages", "paragraph", "LJoinSetter$Paragraph;", true)
  | 1 => ("JoinSetter$Pages", "count", "I", false)
  | 2 => ("JoinSetter$Pages", "first", "[I", true)
  | 3 => ("JoinSetter$Pages", "linesOn", "[I", true)
  | 4 => ("JoinSetter$Pages", "left", "[I", true)
  | 5 => ("JoinSetter$Pages", "least", "[I", true)
  | _ => ("JoinSetter$Pages", "lastLine", "[I", true)
def ty_PG : Nat → FieldType := fun k => match k with
  | 0 => .object "JoinSetter$Paragraph"
  | 1 => .int
  | 2 => .array .int
  | 3 => .array .int
  | 4 => .array .int
  | 5 => .array .int
  | _ => .array .int
theorem nm_PG : ∀ a, a < 7 → ∀ b, b < 7 → a ≠ b → (T_PG a).2.1 ≠ (T_PG b).2.1 := by decide +kernel
theorem to_PG : ∀ k, k < 7 → parseFieldDescriptor (T_PG k).2.2.1 = some (ty_PG k) := by decide +kernel
theorem in_PG : ∀ w ∈ u_ws R_PG T_PG 7, w ∈ gt := inlays [400, 402, 404, 406, 408, 410, 412] (by decide +kernel)
def R_MO : String := "JoinSetterModel"
def T_MO : u_T := fun k => match k with
  | 0 => ("JoinSetterModel", "sort", "[I", true)
  | 1 => ("JoinSetterModel", "partX", "[I", true)
  | 2 => ("JoinSetterModel", "partY", "[I", true)
  | 3 => ("JoinSetterModel", "partZ", "[I", true)
  | 4 => ("JoinSetterModel", "must", "[Z", true)
  | 5 => ("JoinSetterModel", "barred", "[Z", true)
  | 6 => ("JoinSetterModel", "letters", "I", false)
  | 7 => ("JoinSetterModel", "ligatures", "I", false)
  | 8 => ("JoinSetterModel", "formLetter", "[I", true)
  | 9 => ("JoinSetterModel", "formPlace", "[I", true)
  | 10 => ("JoinSetterModel", "wide", "[I", true)
  | 11 => ("JoinSetterModel", "high", "[I", true)
  | 12 => ("JoinSetterModel", "deep", "[I", true)
  | 13 => ("JoinSetterModel", "price", "[I", true)
  | 14 => ("JoinSetterModel", "point", "[I", true)
  | 15 => ("JoinSetterModel", "most", "[I", true)
  | 16 => ("JoinSetterModel", "factor", "[I", true)
  | 17 => ("JoinSetterModel", "forms", "I", false)
  | 18 => ("JoinSetterModel", "formOf", "[I", true)
  | 19 => ("JoinSetterModel", "formMany", "[I", true)
  | 20 => ("JoinSetterModel", "text", "[I", true)
  | 21 => ("JoinSetterModel", "typed", "I", false)
  | 22 => ("JoinSetterModel", "editRemoves", "[Z", true)
  | 23 => ("JoinSetterModel", "editAt", "[I", true)
  | 24 => ("JoinSetterModel", "editLetter", "[I", true)
  | 25 => ("JoinSetterModel", "edits", "I", false)
  | 26 => ("JoinSetterModel", "isCut", "Z", false)
  | 27 => ("JoinSetterModel", "words", "I", false)
  | 28 => ("JoinSetterModel", "wordFrom", "[I", true)
  | 29 => ("JoinSetterModel", "wordTo", "[I", true)
  | 30 => ("JoinSetterModel", "pieceFrom", "[I", true)
  | 31 => ("JoinSetterModel", "pieceTo", "[I", true)
  | 32 => ("JoinSetterModel", "wordOf", "[I", true)
  | 33 => ("JoinSetterModel", "baseOf", "[I", true)
  | 34 => ("JoinSetterModel", "standsOn", "[Z", true)
  | 35 => ("JoinSetterModel", "bases", "I", false)
  | 36 => ("JoinSetterModel", "baseKind", "[I", true)
  | 37 => ("JoinSetterModel", "baseLetter", "[I", true)
  | 38 => ("JoinSetterModel", "baseFirst", "[I", true)
  | 39 => ("JoinSetterModel", "baseCount", "[I", true)
  | 40 => ("JoinSetterModel", "isJoined", "[Z", true)
  | 41 => ("JoinSetterModel", "joins", "[Z", true)
  | 42 => ("JoinSetterModel", "row", "[I", true)
  | 43 => ("JoinSetterModel", "least", "[I", true)
  | 44 => ("JoinSetterModel", "setPieces", "I", false)
  | 45 => ("JoinSetterModel", "setLetter", "[I", true)
  | 46 => ("JoinSetterModel", "setFirst", "[I", true)
  | 47 => ("JoinSetterModel", "setPlace", "[I", true)
  | 48 => ("JoinSetterModel", "setForm", "[I", true)
  | 49 => ("JoinSetterModel", "setStretch", "[I", true)
  | 50 => ("JoinSetterModel", "setCount", "[I", true)
  | 51 => ("JoinSetterModel", "setX", "[I", true)
  | 52 => ("JoinSetterModel", "setOf", "[I", true)
  | 53 => ("JoinSetterModel", "setWidth", "I", false)
  | 54 => ("JoinSetterModel", "setPrice", "I", false)
  | 55 => ("JoinSetterModel", "setMarks", "I", false)
  | 56 => ("JoinSetterModel", "setMark", "[I", true)
  | 57 => ("JoinSetterModel", "setOn", "[I", true)
  | 58 => ("JoinSetterModel", "setLeft", "[I", true)
  | 59 => ("JoinSetterModel", "setBottom", "[I", true)
  | 60 => ("JoinSetterModel", "setTop", "[I", true)
  | 61 => ("JoinSetterModel", "setLifted", "[I", true)
  | 62 => ("JoinSetterModel", "setHeight", "I", false)
  | 63 => ("JoinSetterModel", "setDepth", "I", false)
  | 64 => ("JoinSetterModel", "setFrom", "I", false)
  | 65 => ("JoinSetterModel", "setTo", "I", false)
  | 66 => ("JoinSetterModel", "chosenEnd", "I", false)
  | 67 => ("JoinSetterModel", "chosenState", "I", false)
  | 68 => ("JoinSetterModel", "handIs", "Z", false)
  | 69 => ("JoinSetterModel", "handPieces", "I", false)
  | 70 => ("JoinSetterModel", "handLetter", "[I", true)
  | 71 => ("JoinSetterModel", "handFirst", "[I", true)
  | 72 => ("JoinSetterModel", "handPlace", "[I", true)
  | 73 => ("JoinSetterModel", "handForm", "[I", true)
  | 74 => ("JoinSetterModel", "handStretch", "[I", true)
  | 75 => ("JoinSetterModel", "handCount", "[I", true)
  | 76 => ("JoinSetterModel", "handX", "[I", true)
  | 77 => ("JoinSetterModel", "handWidth", "I", false)
  | 78 => ("JoinSetterModel", "handPrice", "I", false)
  | 79 => ("JoinSetterModel", "handMarks", "I", false)
  | 80 => ("JoinSetterModel", "handMark", "[I", true)
  | 81 => ("JoinSetterModel", "handOn", "[I", true)
  | 82 => ("JoinSetterModel", "handLeft", "[I", true)
  | 83 => ("JoinSetterModel", "handBottom", "[I", true)
  | 84 => ("JoinSetterModel", "handTop", "[I", true)
  | 85 => ("JoinSetterModel", "handLifted", "[I", true)
  | 86 => ("JoinSetterModel", "handHeight", "I", false)
  | 87 => ("JoinSetterModel", "handDepth", "I", false)
  | 88 => ("JoinSetterModel", "handFrom", "I", false)
  | 89 => ("JoinSetterModel", "handTo", "I", false)
  | 90 => ("JoinSetterModel", "seen", "[I", true)
  | 91 => ("JoinSetterModel", "nearIs", "Z", false)
  | 92 => ("JoinSetterModel", "nearI", "I", false)
  | 93 => ("JoinSetterModel", "nearJ", "I", false)
  | 94 => ("JoinSetterModel", "nearWidth", "I", false)
  | 95 => ("JoinSetterModel", "claimed", "[I", true)
  | 96 => ("JoinSetterModel", "claims", "I", false)
  | 97 => ("JoinSetterModel", "lineCost", "[I", true)
  | 98 => ("JoinSetterModel", "bestOf", "[I", true)
  | 99 => ("JoinSetterModel", "bestTo", "[I", true)
  | 100 => ("JoinSetterModel", "linesAre", "Z", false)
  | 101 => ("JoinSetterModel", "linesMany", "I", false)
  | 102 => ("JoinSetterModel", "lineFrom", "[I", true)
  | 103 => ("JoinSetterModel", "lineTo", "[I", true)
  | 104 => ("JoinSetterModel", "linePrice", "[I", true)
  | 105 => ("JoinSetterModel", "lineHeight", "[I", true)
  | 106 => ("JoinSetterModel", "lineDepth", "[I", true)
  | 107 => ("JoinSetterModel", "linePlain", "[Z", true)
  | 108 => ("JoinSetterModel", "linesWidth", "I", false)
  | 109 => ("JoinSetterModel", "pagesAre", "Z", false)
  | 110 => ("JoinSetterModel", "pagesMany", "I", false)
  | 111 => ("JoinSetterModel", "pageFrom", "[I", true)
  | 112 => ("JoinSetterModel", "pageTo", "[I", true)
  | 113 => ("JoinSetterModel", "pageLeft", "[I", true)
  | 114 => ("JoinSetterModel", "pageOf", "[I", true)
  | _ => ("JoinSetterModel", "pageEnd", "[I", true)
def ty_MO : Nat → FieldType := fun k => match k with
  | 0 => .array .int
  | 1 => .array .int
  | 2 => .array .int
  | 3 => .array .int
  | 4 => .array .boolean
  | 5 => .array .boolean
  | 6 => .int
  | 7 => .int
  | 8 => .array .int
  | 9 => .array .int
  | 10 => .array .int
  | 11 => .array .int
  | 12 => .array .int
  | 13 => .array .int
  | 14 => .array .int
  | 15 => .array .int
  | 16 => .array .int
  | 17 => .int
  | 18 => .array .int
  | 19 => .array .int
  | 20 => .array .int
  | 21 => .int
  | 22 => .array .boolean
  | 23 => .array .int
  | 24 => .array .int
  | 25 => .int
  | 26 => .boolean
  | 27 => .int
  | 28 => .array .int
  | 29 => .array .int
  | 30 => .array .int
  | 31 => .array .int
  | 32 => .array .int
  | 33 => .array .int
  | 34 => .array .boolean
  | 35 => .int
  | 36 => .array .int
  | 37 => .array .int
  | 38 => .array .int
  | 39 => .array .int
  | 40 => .array .boolean
  | 41 => .array .boolean
  | 42 => .array .int
  | 43 => .array .int
  | 44 => .int
  | 45 => .array .int
  | 46 => .array .int
  | 47 => .array .int
  | 48 => .array .int
  | 49 => .array .int
  | 50 => .array .int
  | 51 => .array .int
  | 52 => .array .int
  | 53 => .int
  | 54 => .int
  | 55 => .int
  | 56 => .array .int
  | 57 => .array .int
  | 58 => .array .int
  | 59 => .array .int
  | 60 => .array .int
  | 61 => .array .int
  | 62 => .int
  | 63 => .int
  | 64 => .int
  | 65 => .int
  | 66 => .int
  | 67 => .int
  | 68 => .boolean
  | 69 => .int
  | 70 => .array .int
  | 71 => .array .int
  | 72 => .array .int
  | 73 => .array .int
  | 74 => .array .int
  | 75 => .array .int
  | 76 => .array .int
  | 77 => .int
  | 78 => .int
  | 79 => .int
  | 80 => .array .int
  | 81 => .array .int
  | 82 => .array .int
  | 83 => .array .int
  | 84 => .array .int
  | 85 => .array .int
  | 86 => .int
  | 87 => .int
  | 88 => .int
  | 89 => .int
  | 90 => .array .int
  | 91 => .boolean
  | 92 => .int
  | 93 => .int
  | 94 => .int
  | 95 => .array .int
  | 96 => .int
  | 97 => .array .int
  | 98 => .array .int
  | 99 => .array .int
  | 100 => .boolean
  | 101 => .int
  | 102 => .array .int
  | 103 => .array .int
  | 104 => .array .int
  | 105 => .array .int
  | 106 => .array .int
  | 107 => .array .boolean
  | 108 => .int
  | 109 => .boolean
  | 110 => .int
  | 111 => .array .int
  | 112 => .array .int
  | 113 => .array .int
  | 114 => .array .int
  | _ => .array .int
theorem nm_MO : ∀ a, a < 116 → ∀ b, b < 116 → a ≠ b → (T_MO a).2.1 ≠ (T_MO b).2.1 := by decide +kernel
theorem to_MO : ∀ k, k < 116 → parseFieldDescriptor (T_MO k).2.2.1 = some (ty_MO k) := by decide +kernel
theorem in_MO : ∀ w ∈ u_ws R_MO T_MO 116, w ∈ gt := inlays [1222, 1224, 1226, 1228, 1230, 1232, 1234, 1236, 1238, 1240, 1242, 1244, 1246, 1248, 1250, 1252, 1254, 1256, 1258, 1260, 1262, 1264, 1266, 1268, 1270, 1272, 1274, 1276, 1278, 1280, 1282, 1284, 1286, 1288, 1290, 1292, 1294, 1296, 1298, 1300, 1302, 1304, 1306, 1308, 1310, 1312, 1314, 1316, 1318, 1320, 1322, 1324, 1326, 1328, 1330, 1332, 1334, 1336, 1338, 1340, 1342, 1344, 1346, 1348, 1350, 1352, 1354, 1356, 1358, 1360, 1362, 1364, 1366, 1368, 1370, 1372, 1374, 1376, 1378, 1380, 1382, 1384, 1386, 1388, 1390, 1392, 1394, 1396, 1398, 1400, 1402, 1404, 1406, 1408, 1410, 1412, 1414, 1416, 1418, 1420, 1422, 1424, 1426, 1428, 1430, 1432, 1434, 1436, 1438, 1440, 1442, 1444, 1446, 1448, 1450, 1452] (by decide +kernel)
def R_LN : String := "JoinSetter$Line"
def T_LN : u_T := fun k => match k with
  | 0 => ("JoinSetter$Line", "script", "LJoinSetter$Script;", true)
  | 1 => ("JoinSetter$Line", "units", "LJoinSetter$Units;", true)
  | 2 => ("JoinSetter$Line", "width", "I", false)
  | 3 => ("JoinSetter$Line", "price", "I", false)
  | 4 => ("JoinSetter$Line", "firstTyped", "I", false)
  | 5 => ("JoinSetter$Line", "lastTyped", "I", false)
  | 6 => ("JoinSetter$Line", "letter", "[I", true)
  | 7 => ("JoinSetter$Line", "unit", "[I", true)
  | 8 => ("JoinSetter$Line", "form", "[I", true)
  | 9 => ("JoinSetter$Line", "stretched", "[I", true)
  | 10 => ("JoinSetter$Line", "boxes", "LJoinSetter$Boxes;", true)
  | _ => ("JoinSetter$Line", "marks", "LJoinSetter$Marks;", true)
def ty_LN : Nat → FieldType := fun k => match k with
  | 0 => .object "JoinSetter$Script"
  | 1 => .object "JoinSetter$Units"
  | 2 => .int
  | 3 => .int
  | 4 => .int
  | 5 => .int
  | 6 => .array .int
  | 7 => .array .int
  | 8 => .array .int
  | 9 => .array .int
  | 10 => .object "JoinSetter$Boxes"
  | _ => .object "JoinSetter$Marks"
theorem nm_LN : ∀ a, a < 12 → ∀ b, b < 12 → a ≠ b → (T_LN a).2.1 ≠ (T_LN b).2.1 := by decide +kernel
theorem to_LN : ∀ k, k < 12 → parseFieldDescriptor (T_LN k).2.2.1 = some (ty_LN k) := by decide +kernel
theorem in_LN : ∀ w ∈ u_ws R_LN T_LN 12, w ∈ gt := inlays [508, 510, 512, 514, 516, 518, 520, 522, 524, 526, 528, 530] (by decide +kernel)
def R_BX : String := "JoinSetter$Boxes"
def T_BX : u_T := fun k => match k with
  | 0 => ("JoinSetter$Boxes", "count", "I", false)
  | 1 => ("JoinSetter$Boxes", "left", "[I", true)
  | 2 => ("JoinSetter$Boxes", "right", "[I", true)
  | 3 => ("JoinSetter$Boxes", "bottom", "[I", true)
  | _ => ("JoinSetter$Boxes", "top", "[I", true)
def ty_BX : Nat → FieldType := fun k => match k with
  | 0 => .int
  | 1 => .array .int
  | 2 => .array .int
  | 3 => .array .int
  | _ => .array .int
theorem nm_BX : ∀ a, a < 5 → ∀ b, b < 5 → a ≠ b → (T_BX a).2.1 ≠ (T_BX b).2.1 := by decide +kernel
theorem to_BX : ∀ k, k < 5 → parseFieldDescriptor (T_BX k).2.2.1 = some (ty_BX k) := by decide +kernel
theorem in_BX : ∀ w ∈ u_ws R_BX T_BX 5, w ∈ gt := inlays [442, 444, 446, 448, 450] (by decide +kernel)
def R_MK : String := "JoinSetter$Marks"
def T_MK : u_T := fun k => match k with
  | 0 => ("JoinSetter$Marks", "boxes", "LJoinSetter$Boxes;", true)
  | 1 => ("JoinSetter$Marks", "at", "[I", true)
  | 2 => ("JoinSetter$Marks", "on", "[I", true)
  | _ => ("JoinSetter$Marks", "lifted", "[I", true)
def ty_MK : Nat → FieldType := fun k => match k with
  | 0 => .object "JoinSetter$Boxes"
  | 1 => .array .int
  | 2 => .array .int
  | _ => .array .int
theorem nm_MK : ∀ a, a < 4 → ∀ b, b < 4 → a ≠ b → (T_MK a).2.1 ≠ (T_MK b).2.1 := by decide +kernel
theorem to_MK : ∀ k, k < 4 → parseFieldDescriptor (T_MK k).2.2.1 = some (ty_MK k) := by decide +kernel
theorem in_MK : ∀ w ∈ u_ws R_MK T_MK 4, w ∈ gt := inlays [472, 474, 476, 478] (by decide +kernel)
def R_MA : String := "java/lang/Math"
def R_AR : String := "java/util/Arrays"
def R_LW : String := "JoinSetterLaw"
abbrev classes : List vw_C := [(R_JS, T_JS, 17), (R_SC, T_SC, 13), (R_TY, T_TY, 6), (R_CL, T_CL, 2), (R_UN, T_UN, 17), (R_FI, T_FI, 12), (R_PA, T_PA, 11), (R_PG, T_PG, 7), (R_MO, T_MO, 116), (R_LN, T_LN, 12), (R_BX, T_BX, 5), (R_MK, T_MK, 4)]
def tyc (ci : Nat) : Nat → FieldType := match ci with
  | 0 => ty_JS
  | 1 => ty_SC
  | 2 => ty_TY
  | 3 => ty_CL
  | 4 => ty_UN
  | 5 => ty_FI
  | 6 => ty_PA
  | 7 => ty_PG
  | 8 => ty_MO
  | 9 => ty_LN
  | 10 => ty_BX
  | _ => ty_MK
theorem classes_ok : ∀ (ci : Nat) (q : vw_C), classes[ci]? = some q → (∀ w ∈ u_ws q.1 q.2.1 q.2.2, w ∈ gt) ∧ (∀ a, a < q.2.2 → ∀ b, b < q.2.2 → a ≠ b → (q.2.1 a).2.1 ≠ (q.2.1 b).2.1) ∧ (∀ k, k < q.2.2 → parseFieldDescriptor (q.2.1 k).2.2.1 = some (tyc ci k)) := by
  intro ci q h
  match ci, h with
  | 0, h => cases h; exact ⟨in_JS, nm_JS, to_JS⟩
  | 1, h => cases h; exact ⟨in_SC, nm_SC, to_SC⟩
  | 2, h => cases h; exact ⟨in_TY, nm_TY, to_TY⟩
  | 3, h => cases h; exact ⟨in_CL, nm_CL, to_CL⟩
  | 4, h => cases h; exact ⟨in_UN, nm_UN, to_UN⟩
  | 5, h => cases h; exact ⟨in_FI, nm_FI, to_FI⟩
  | 6, h => cases h; exact ⟨in_PA, nm_PA, to_PA⟩
  | 7, h => cases h; exact ⟨in_PG, nm_PG, to_PG⟩
  | 8, h => cases h; exact ⟨in_MO, nm_MO, to_MO⟩
  | 9, h => cases h; exact ⟨in_LN, nm_LN, to_LN⟩
  | 10, h => cases h; exact ⟨in_BX, nm_BX, to_BX⟩
  | 11, h => cases h; exact ⟨in_MK, nm_MK, to_MK⟩
  | k + 12, h => simp [classes] at h
def lowt : List (Nat × Nat) := [(0, 0), (0, 1), (0, 2), (0, 3), (0, 4), (0, 5), (0, 6), (0, 7), (0, 8), (0, 9), (0, 10), (1, 80), (1, 80), (1, 80), (1, 80), (0, 11), (0, 10), (1, 80), (1, 80), (1, 80), (1, 80), (1, 80), (1, 80), (1, 80), (1, 80), (1, 80), (1, 80), (1, 80), (0, 9), (0, 10), (1, 80), (1, 80), (1, 80), (1, 80), (0, 11), (0, 10), (1, 80), (1, 80), (1, 80), (1, 80), (1, 80), (1, 80), (1, 80), (1, 80), (1, 80), (1, 80), (1, 80), (1, 60), (1, 60), (1, 60), (2, 60), (1, 8), (3, 8), (2, 8), (3, 200), (1, 240), (1, 720), (1, 80), (1, 40), (1, 40), (1, 260), (1, 80), (1, 80), (1, 80), (1, 80), (2, 80), (1, 80), (1, 80), (1, 80), (2, 80), (2, 80), (1, 80), (1, 80), (1, 240), (3, 243), (1, 243), (1, 243), (1, 80), (1, 80), (1, 80), (1, 80), (1, 80), (1, 81), (1, 80), (1, 80), (1, 80), (1, 80), (1, 81), (1, 80), (1, 60), (1, 60), (1, 60), (1, 60), (2, 60), (2, 60), (1, 200), (1, 200), (1, 200), (1, 200), (1, 200), (1, 200), (1, 200), (1, 200), (1, 200), (1, 720), (1, 240), (1, 80), (2, 40), (1, 40), (1, 40), (1, 80), (1, 80), (1, 80), (1, 80), (1, 80), (1, 80), (2, 80), (1, 80), (1, 80), (1, 80), (1, 80), (2, 80), (2, 80), (1, 80), (1, 97524), (1, 80), (1, 80), (1, 80), (1, 80), (1, 80), (1, 80), (1, 80), (1, 80), (1, 80), (1, 80), (1, 80), (1, 80), (1, 80), (1, 80), (1, 80), (1, 80), (1, 80), (1, 80), (1, 80), (1, 80), (1, 80), (1, 80), (1, 80), (1, 80), (1, 80), (1, 80), (1, 80), (1, 80), (1, 260), (1, 6400), (1, 81), (1, 81), (1, 80), (1, 80), (1, 80), (1, 80), (1, 80), (2, 80), (1, 80), (1, 80), (1, 80), (1, 81), (1, 81)]
def lyt (k : Nat) : Nat × Nat := if k < 168 then lowt.getD k (9, 0) else if k < 176 then (1, 3) else if k < 376 then (1, 9) else if k < 619 then (1, 301) else (9, 0)
abbrev NP : Nat := 619
def rwb (k : Nat) : Nat := if k = 52 then 168 else if k = 54 then 176 else 376
abbrev St : Type := (Nat → Nat → Int) × (Nat → Nat → Int) × Nat × Nat
/-- the place that a field of references holds -/
def rfo (c k j : Nat) (σ : St) : Option Nat := match c, j with
  | 0, 0 => some (1)
  | 0, 1 => some (2)
  | 0, 2 => some (3)
  | 0, 3 => some (4)
  | 0, 4 => some (5)
  | 0, 5 => some (6)
  | 0, 6 => some (7)
  | 0, 7 => some (σ.2.2.1)
  | 0, 8 => some (σ.2.2.2)
  | 1, 3 => some (47)
  | 1, 4 => some (48)
  | 1, 5 => some (49)
  | 1, 6 => some (50)
  | 1, 7 => some (51)
  | 1, 8 => some (52)
  | 1, 9 => some (53)
  | 1, 10 => some (54)
  | 1, 11 => some (55)
  | 1, 12 => some (56)
  | 2, 2 => some (57)
  | 2, 4 => some (58)
  | 2, 5 => some (59)
  | 3, 1 => some (60)
  | 4, 0 => some (1)
  | 4, 1 => some (2)
  | 4, 4 => some (61)
  | 4, 5 => some (62)
  | 4, 6 => some (63)
  | 4, 7 => some (64)
  | 4, 8 => some (65)
  | 4, 9 => some (66)
  | 4, 10 => some (67)
  | 4, 11 => some (68)
  | 4, 12 => some (69)
  | 4, 13 => some (70)
  | 4, 14 => some (71)
  | 4, 15 => some (72)
  | 4, 16 => some (73)
  | 5, 0 => some (1)
  | 5, 1 => some (4)
  | 5, 2 => some (74)
  | 5, 3 => some (75)
  | 5, 4 => some (76)
  | 6, 0 => some (4)
  | 6, 1 => some (5)
  | 6, 4 => some (77)
  | 6, 5 => some (78)
  | 6, 6 => some (79)
  | 6, 7 => some (80)
  | 6, 8 => some (81)
  | 6, 9 => some (82)
  | 6, 10 => some (83)
  | 7, 0 => some (6)
  | 7, 2 => some (84)
  | 7, 3 => some (85)
  | 7, 4 => some (86)
  | 7, 5 => some (87)
  | 7, 6 => some (88)
  | 8, 0 => some (89)
  | 8, 1 => some (90)
  | 8, 2 => some (91)
  | 8, 3 => some (92)
  | 8, 4 => some (93)
  | 8, 5 => some (94)
  | 8, 8 => some (95)
  | 8, 9 => some (96)
  | 8, 10 => some (97)
  | 8, 11 => some (98)
  | 8, 12 => some (99)
  | 8, 13 => some (100)
  | 8, 14 => some (101)
  | 8, 15 => some (102)
  | 8, 16 => some (103)
  | 8, 18 => some (104)
  | 8, 19 => some (105)
  | 8, 20 => some (106)
  | 8, 22 => some (107)
  | 8, 23 => some (108)
  | 8, 24 => some (109)
  | 8, 28 => some (110)
  | 8, 29 => some (111)
  | 8, 30 => some (112)
  | 8, 31 => some (113)
  | 8, 32 => some (114)
  | 8, 33 => some (115)
  | 8, 34 => some (116)
  | 8, 36 => some (117)
  | 8, 37 => some (118)
  | 8, 38 => some (119)
  | 8, 39 => some (120)
  | 8, 40 => some (121)
  | 8, 41 => some (122)
  | 8, 42 => some (123)
  | 8, 43 => some (124)
  | 8, 45 => some (125)
  | 8, 46 => some (126)
  | 8, 47 => some (127)
  | 8, 48 => some (128)
  | 8, 49 => some (129)
  | 8, 50 => some (130)
  | 8, 51 => some (131)
  | 8, 52 => some (132)
  | 8, 56 => some (133)
  | 8, 57 => some (134)
  | 8, 58 => some (135)
  | 8, 59 => some (136)
  | 8, 60 => some (137)
  | 8, 61 => some (138)
  | 8, 70 => some (139)
  | 8, 71 => some (140)
  | 8, 72 => some (141)
  | 8, 73 => some (142)
  | 8, 74 => some (143)
  | 8, 75 => some (144)
  | 8, 76 => some (145)
  | 8, 80 => some (146)
  | 8, 81 => some (147)
  | 8, 82 => some (148)
  | 8, 83 => some (149)
  | 8, 84 => some (150)
  | 8, 85 => some (151)
  | 8, 90 => some (152)
  | 8, 95 => some (153)
  | 8, 97 => some (154)
  | 8, 98 => some (155)
  | 8, 99 => some (156)
  | 8, 102 => some (157)
  | 8, 103 => some (158)
  | 8, 104 => some (159)
  | 8, 105 => some (160)
  | 8, 106 => some (161)
  | 8, 107 => some (162)
  | 8, 111 => some (163)
  | 8, 112 => some (164)
  | 8, 113 => some (165)
  | 8, 114 => some (166)
  | 8, 115 => some (167)
  | 9, 0 => some (1)
  | 9, 1 => some (4)
  | 9, 6 => some (k + 15)
  | 9, 7 => some (k + 16)
  | 9, 8 => some (k + 17)
  | 9, 9 => some (k + 18)
  | 9, 10 => some (k + 1)
  | 9, 11 => some (k + 6)
  | 10, 1 => some (k + 1)
  | 10, 2 => some (k + 2)
  | 10, 3 => some (k + 3)
  | 10, 4 => some (k + 4)
  | 11, 0 => some (k + 1)
  | 11, 1 => some (k + 6)
  | 11, 2 => some (k + 7)
  | 11, 3 => some (k + 8)
  | _, _ => none
abbrev MI : Type := MethodName × ByteArray × Nat × Option FieldType × Nat × Nat
def m_JS_letter : MI := (⟨R_JS, "letter", "(I)I"⟩, prog_1_method_2_code, 2, some .int, 1, 24)
def m_JS_ligature : MI := (⟨R_JS, "ligature", "(IIIZ)I"⟩, prog_1_method_3_code, 6, some .int, 2, 50)
def m_JS_form : MI := (⟨R_JS, "form", "(IIIIII)I"⟩, prog_1_method_4_code, 10, some .int, 2, 49)
def m_JS_stretch : MI := (⟨R_JS, "stretch", "(III)I"⟩, prog_1_method_5_code, 4, some .int, 2, 43)
def m_JS_point : MI := (⟨R_JS, "point", "(II)I"⟩, prog_1_method_6_code, 3, some .int, 2, 43)
def m_JS_bar : MI := (⟨R_JS, "bar", "(IZ)I"⟩, prog_1_method_7_code, 4, some .int, 2, 43)
def m_JS_about : MI := (⟨R_JS, "about", "(II)I"⟩, prog_1_method_8_code, 3, some .int, 2, 43)
def m_JS_type : MI := (⟨R_JS, "type", "(I)I"⟩, prog_1_method_9_code, 2, some .int, 3, 65)
def m_JS_insert : MI := (⟨R_JS, "insert", "(II)I"⟩, prog_1_method_10_code, 3, some .int, 2, 43)
def m_JS_remove : MI := (⟨R_JS, "remove", "(I)I"⟩, prog_1_method_11_code, 3, some .int, 2, 43)
def m_JS_undo : MI := (⟨R_JS, "undo", "()I"⟩, prog_1_method_12_code, 1, some .int, 2, 43)
def m_JS_text : MI := (⟨R_JS, "text", "(I)I"⟩, prog_1_method_13_code, 2, some .int, 2, 43)
def m_JS_shape : MI := (⟨R_JS, "shape", "(II)I"⟩, prog_1_method_14_code, 5, some .int, 6, 135)
def m_JS_words : MI := (⟨R_JS, "words", "()I"⟩, prog_1_method_15_code, 1, some .int, 6, 135)
def m_JS_line : MI := (⟨R_JS, "line", "(III)I"⟩, prog_1_method_16_code, 6, some .int, 6, 135)
def m_JS_near : MI := (⟨R_JS, "near", "(I)I"⟩, prog_1_method_17_code, 2, some .int, 1, 22)
def m_JS_plain : MI := (⟨R_JS, "plain", "(II)I"⟩, prog_1_method_18_code, 3, some .int, 6, 135)
def m_JS_atHand : MI := (⟨R_JS, "atHand", "(I)I"⟩, prog_1_method_19_code, 2, some .int, 3, 63)
def m_JS_piece : MI := (⟨R_JS, "piece", "(II)I"⟩, prog_1_method_20_code, 3, some .int, 1, 24)
def m_JS_mark : MI := (⟨R_JS, "mark", "(II)I"⟩, prog_1_method_21_code, 4, some .int, 1, 22)
def m_JS_seen : MI := (⟨R_JS, "seen", "(I)I"⟩, prog_1_method_22_code, 2, some .int, 2, 44)
def m_JS_place : MI := (⟨R_JS, "place", "(I)I"⟩, prog_1_method_23_code, 2, some .int, 2, 44)
def m_JS_witness : MI := (⟨R_JS, "witness", "(I)I"⟩, prog_1_method_24_code, 4, some .int, 1, 22)
def m_JS_claim : MI := (⟨R_JS, "claim", "(I)I"⟩, prog_1_method_25_code, 2, some .int, 1, 21)
def m_JS_drop : MI := (⟨R_JS, "drop", "()I"⟩, prog_1_method_26_code, 2, some .int, 0, 0)
def m_JS_check : MI := (⟨R_JS, "check", "(II)I"⟩, prog_1_method_27_code, 6, some .int, 6, 135)
def m_JS_best : MI := (⟨R_JS, "best", "(I)I"⟩, prog_1_method_28_code, 2, some .int, 7, 182)
def m_JS_lines : MI := (⟨R_JS, "lines", "(II)I"⟩, prog_1_method_29_code, 3, some .int, 1, 22)
def m_JS_take : MI := (⟨R_JS, "take", "(I)I"⟩, prog_1_method_30_code, 2, some .int, 6, 157)
def m_JS_pages : MI := (⟨R_JS, "pages", "(I)I"⟩, prog_1_method_31_code, 2, some .int, 2, 51)
def m_JS_page : MI := (⟨R_JS, "page", "(II)I"⟩, prog_1_method_32_code, 3, some .int, 1, 22)
def m_JS_told : MI := (⟨R_JS, "told", "(I)I"⟩, prog_1_method_33_code, 2, some .int, 0, 0)
def m_JS_within : MI := (⟨R_JS, "within", "(III)Z"⟩, prog_1_method_34_code, 3, some .boolean, 0, 0)
def m_JS_wholeWidth : MI := (⟨R_JS, "wholeWidth", "(I)I"⟩, prog_1_method_35_code, 8, some .int, 1, 22)
def m_JS_lookAtText : MI := (⟨R_JS, "lookAtText", "()V"⟩, prog_1_method_36_code, 1, none, 5, 115)
def m_JS_takeSpare : MI := (⟨R_JS, "takeSpare", "()V"⟩, prog_1_method_37_code, 2, none, 4, 113)
def m_JS_mirrored : MI := (⟨R_JS, "mirrored", "(I)I"⟩, prog_1_method_38_code, 4, some .int, 1, 21)
def m_JS_isDigit : MI := (⟨R_JS, "isDigit", "(I)Z"⟩, prog_1_method_39_code, 2, some .boolean, 0, 0)
def m_MO_in : MI := (⟨R_MO, "in", "(JJJ)Z"⟩, prog_13_method_3_code, 6, some .boolean, 0, 0)
def m_MO_isLetter : MI := (⟨R_MO, "isLetter", "(I)Z"⟩, prog_13_method_4_code, 2, some .boolean, 1, 25)
def m_MO_isForm : MI := (⟨R_MO, "isForm", "(I)Z"⟩, prog_13_method_5_code, 2, some .boolean, 1, 25)
def m_MO_changed : MI := (⟨R_MO, "changed", "()V"⟩, prog_13_method_6_code, 1, none, 0, 0)
def m_MO_newLetter : MI := (⟨R_MO, "newLetter", "(I)I"⟩, prog_13_method_7_code, 3, some .int, 1, 20)
def m_MO_letter : MI := (⟨R_MO, "letter", "(I)I"⟩, prog_13_method_8_code, 2, some .int, 2, 42)
def m_MO_joinsOn : MI := (⟨R_MO, "joinsOn", "(I)Z"⟩, prog_13_method_9_code, 2, some .boolean, 0, 0)
def m_MO_ligature : MI := (⟨R_MO, "ligature", "(IIIZ)I"⟩, prog_13_method_10_code, 7, some .int, 2, 46)
def m_MO_howManyOf : MI := (⟨R_MO, "howManyOf", "(I)I"⟩, prog_13_method_11_code, 2, some .int, 0, 0)
def m_MO_canHave : MI := (⟨R_MO, "canHave", "(II)Z"⟩, prog_13_method_12_code, 4, some .boolean, 1, 25)
def m_MO_rounded : MI := (⟨R_MO, "rounded", "(I)I"⟩, prog_13_method_13_code, 7, some .int, 0, 0)
def m_MO_form : MI := (⟨R_MO, "form", "(IIIIII)I"⟩, prog_13_method_14_code, 9, some .int, 2, 48)
def m_MO_isMark : MI := (⟨R_MO, "isMark", "(I)Z"⟩, prog_13_method_15_code, 2, some .boolean, 0, 0)
def m_MO_stretch : MI := (⟨R_MO, "stretch", "(III)I"⟩, prog_13_method_16_code, 4, some .int, 2, 46)
def m_MO_point : MI := (⟨R_MO, "point", "(II)I"⟩, prog_13_method_17_code, 3, some .int, 2, 46)
def m_MO_bar : MI := (⟨R_MO, "bar", "(IZ)I"⟩, prog_13_method_18_code, 4, some .int, 2, 46)
def m_MO_about : MI := (⟨R_MO, "about", "(II)I"⟩, prog_13_method_19_code, 3, some .int, 2, 46)
def m_MO_plainOf : MI := (⟨R_MO, "plainOf", "(II)I"⟩, prog_13_method_20_code, 3, some .int, 0, 0)
def m_MO_put : MI := (⟨R_MO, "put", "(II)V"⟩, prog_13_method_21_code, 4, none, 0, 0)
def m_MO_takeOut : MI := (⟨R_MO, "takeOut", "(I)I"⟩, prog_13_method_22_code, 4, some .int, 0, 0)
def m_MO_note : MI := (⟨R_MO, "note", "(ZII)V"⟩, prog_13_method_23_code, 5, none, 1, 20)
def m_MO_type : MI := (⟨R_MO, "type", "(I)I"⟩, prog_13_method_24_code, 2, some .int, 3, 68)
def m_MO_insert : MI := (⟨R_MO, "insert", "(II)I"⟩, prog_13_method_25_code, 3, some .int, 2, 46)
def m_MO_remove : MI := (⟨R_MO, "remove", "(I)I"⟩, prog_13_method_26_code, 3, some .int, 2, 44)
def m_MO_undo : MI := (⟨R_MO, "undo", "()I"⟩, prog_13_method_27_code, 1, some .int, 1, 23)
def m_MO_text : MI := (⟨R_MO, "text", "(I)I"⟩, prog_13_method_28_code, 2, some .int, 1, 25)
def m_MO_base : MI := (⟨R_MO, "base", "(IIII)V"⟩, prog_13_method_29_code, 5, none, 0, 0)
def m_MO_cut : MI := (⟨R_MO, "cut", "()V"⟩, prog_13_method_30_code, 3, none, 3, 74)
def m_MO_cutWord : MI := (⟨R_MO, "cutWord", "(II)V"⟩, prog_13_method_31_code, 8, none, 2, 47)
def m_MO_joined : MI := (⟨R_MO, "joined", "(II)Z"⟩, prog_13_method_32_code, 3, some .boolean, 1, 21)
def m_MO_longest : MI := (⟨R_MO, "longest", "(II)I"⟩, prog_13_method_33_code, 7, some .int, 1, 21)
def m_MO_placeOf : MI := (⟨R_MO, "placeOf", "(II)I"⟩, prog_13_method_34_code, 3, some .int, 0, 0)
def m_MO_mayBe : MI := (⟨R_MO, "mayBe", "(III)Z"⟩, prog_13_method_35_code, 8, some .boolean, 1, 21)
def m_MO_shape : MI := (⟨R_MO, "shape", "(II)I"⟩, prog_13_method_36_code, 4, some .int, 4, 96)
def m_MO_words : MI := (⟨R_MO, "words", "()I"⟩, prog_13_method_37_code, 1, some .int, 4, 96)
def m_MO_at : MI := (⟨R_MO, "at", "(III)I"⟩, prog_13_method_38_code, 3, some .int, 0, 0)
def m_MO_haveForms : MI := (⟨R_MO, "haveForms", "(II)Z"⟩, prog_13_method_39_code, 5, some .boolean, 0, 0)
def m_MO_findLeast : MI := (⟨R_MO, "findLeast", "(II)V"⟩, prog_13_method_40_code, 6, none, 3, 81)
def m_MO_withPiece : MI := (⟨R_MO, "withPiece", "(III)V"⟩, prog_13_method_41_code, 8, none, 2, 54)
def m_MO_cost : MI := (⟨R_MO, "cost", "(III)I"⟩, prog_13_method_42_code, 3, some .int, 0, 0)
def m_MO_stateBehind : MI := (⟨R_MO, "stateBehind", "(IIII)I"⟩, prog_13_method_43_code, 5, some .int, 0, 0)
def m_MO_withStretch : MI := (⟨R_MO, "withStretch", "(IIII)V"⟩, prog_13_method_44_code, 11, none, 1, 24)
def m_MO_beginSet : MI := (⟨R_MO, "beginSet", "(II)V"⟩, prog_13_method_45_code, 3, none, 0, 0)
def m_MO_addPiece : MI := (⟨R_MO, "addPiece", "(IIIII)V"⟩, prog_13_method_46_code, 8, none, 1, 22)
def m_MO_choose : MI := (⟨R_MO, "choose", "(IIII)V"⟩, prog_13_method_47_code, 6, none, 3, 79)
def m_MO_isChosen : MI := (⟨R_MO, "isChosen", "(IIIII)Z"⟩, prog_13_method_48_code, 11, some .boolean, 2, 49)
def m_MO_fill : MI := (⟨R_MO, "fill", "(III)Z"⟩, prog_13_method_49_code, 10, some .boolean, 4, 106)
def m_MO_canBePlain : MI := (⟨R_MO, "canBePlain", "(II)Z"⟩, prog_13_method_50_code, 5, some .boolean, 1, 24)
def m_MO_setPlain : MI := (⟨R_MO, "setPlain", "(II)Z"⟩, prog_13_method_51_code, 4, some .boolean, 4, 99)
def m_MO_cross : MI := (⟨R_MO, "cross", "(IIII)Z"⟩, prog_13_method_52_code, 4, some .boolean, 0, 0)
def m_MO_touches : MI := (⟨R_MO, "touches", "(IIII)Z"⟩, prog_13_method_53_code, 8, some .boolean, 1, 23)
def m_MO_layMarks : MI := (⟨R_MO, "layMarks", "()V"⟩, prog_13_method_54_code, 2, none, 3, 78)
def m_MO_layMark : MI := (⟨R_MO, "layMark", "(II)V"⟩, prog_13_method_55_code, 9, none, 2, 50)
def m_MO_toHand : MI := (⟨R_MO, "toHand", "()V"⟩, prog_13_method_56_code, 2, none, 2, 45)
def m_MO_isDigit : MI := (⟨R_MO, "isDigit", "(I)Z"⟩, prog_13_method_57_code, 2, some .boolean, 0, 0)
def m_MO_see : MI := (⟨R_MO, "see", "()V"⟩, prog_13_method_58_code, 5, none, 1, 21)
def m_MO_areWords : MI := (⟨R_MO, "areWords", "(II)Z"⟩, prog_13_method_59_code, 3, some .boolean, 4, 96)
def m_MO_line : MI := (⟨R_MO, "line", "(III)I"⟩, prog_13_method_60_code, 4, some .int, 5, 135)
def m_MO_near : MI := (⟨R_MO, "near", "(I)I"⟩, prog_13_method_61_code, 5, some .int, 4, 106)
def m_MO_plain : MI := (⟨R_MO, "plain", "(II)I"⟩, prog_13_method_62_code, 3, some .int, 5, 122)
def m_MO_atHand : MI := (⟨R_MO, "atHand", "(I)I"⟩, prog_13_method_63_code, 2, some .int, 1, 25)
def m_MO_piece : MI := (⟨R_MO, "piece", "(II)I"⟩, prog_13_method_64_code, 3, some .int, 1, 25)
def m_MO_mark : MI := (⟨R_MO, "mark", "(II)I"⟩, prog_13_method_65_code, 3, some .int, 1, 25)
def m_MO_seen : MI := (⟨R_MO, "seen", "(I)I"⟩, prog_13_method_66_code, 2, some .int, 1, 25)
def m_MO_place : MI := (⟨R_MO, "place", "(I)I"⟩, prog_13_method_67_code, 3, some .int, 1, 25)
def m_MO_witness : MI := (⟨R_MO, "witness", "(I)I"⟩, prog_13_method_68_code, 3, some .int, 1, 25)
def m_MO_claim : MI := (⟨R_MO, "claim", "(I)I"⟩, prog_13_method_69_code, 2, some .int, 0, 0)
def m_MO_drop : MI := (⟨R_MO, "drop", "()I"⟩, prog_13_method_70_code, 2, some .int, 0, 0)
def m_MO_claimedAs : MI := (⟨R_MO, "claimedAs", "(III)I"⟩, prog_13_method_71_code, 6, some .int, 2, 48)
def m_MO_isOf : MI := (⟨R_MO, "isOf", "(III)Z"⟩, prog_13_method_72_code, 4, some .boolean, 2, 46)
def m_MO_setClaimed : MI := (⟨R_MO, "setClaimed", "(II)I"⟩, prog_13_method_73_code, 10, some .int, 3, 73)
def m_MO_check : MI := (⟨R_MO, "check", "(II)I"⟩, prog_13_method_74_code, 4, some .int, 5, 118)
def m_MO_isPlainEnd : MI := (⟨R_MO, "isPlainEnd", "(II)Z"⟩, prog_13_method_75_code, 5, some .boolean, 2, 48)
def m_MO_best : MI := (⟨R_MO, "best", "(I)I"⟩, prog_13_method_76_code, 5, some .int, 7, 180)
def m_MO_noteLines : MI := (⟨R_MO, "noteLines", "(I)V"⟩, prog_13_method_77_code, 5, none, 6, 156)
def m_MO_setLine : MI := (⟨R_MO, "setLine", "(I)Z"⟩, prog_13_method_78_code, 2, some .boolean, 5, 135)
def m_MO_lines : MI := (⟨R_MO, "lines", "(II)I"⟩, prog_13_method_79_code, 3, some .int, 1, 25)
def m_MO_take : MI := (⟨R_MO, "take", "(I)I"⟩, prog_13_method_80_code, 2, some .int, 6, 156)
def m_MO_pages : MI := (⟨R_MO, "pages", "(I)I"⟩, prog_13_method_81_code, 9, some .int, 1, 25)
def m_MO_page : MI := (⟨R_MO, "page", "(II)I"⟩, prog_13_method_82_code, 3, some .int, 1, 25)
def m_MO_told : MI := (⟨R_MO, "told", "(I)I"⟩, prog_13_method_83_code, 2, some .int, 0, 0)
def m_BX_addBox : MI := (⟨R_BX, "addBox", "(IIII)V"⟩, prog_2_method_2_code, 5, none, 0, 0)
def m_BX_wayOff : MI := (⟨R_BX, "wayOff", "(IIIIZ)I"⟩, prog_2_method_3_code, 9, some .int, 0, 0)
def m_BX_highest : MI := (⟨R_BX, "highest", "()I"⟩, prog_2_method_4_code, 3, some .int, 1, 21)
def m_BX_deepest : MI := (⟨R_BX, "deepest", "()I"⟩, prog_2_method_5_code, 3, some .int, 1, 21)
def m_CL_put : MI := (⟨R_CL, "put", "(I)I"⟩, prog_3_method_2_code, 2, some .int, 0, 0)
def m_CL_setBy : MI := (⟨R_CL, "setBy", "(IILJoinSetter$Units;LJoinSetter$Line;)I"⟩, prog_3_method_3_code, 14, some .int, 3, 66)
def m_CL_closedBy : MI := (⟨R_CL, "closedBy", "(ILJoinSetter$Line;)I"⟩, prog_3_method_4_code, 3, some .int, 0, 0)
def m_CL_isFormOf : MI := (⟨R_CL, "isFormOf", "(LJoinSetter$Script;III)Z"⟩, prog_3_method_5_code, 4, some .boolean, 2, 43)
def m_CL_isBehindBar : MI := (⟨R_CL, "isBehindBar", "(LJoinSetter$Units;LJoinSetter$Line;I)Z"⟩, prog_3_method_6_code, 4, some .boolean, 0, 0)
def m_FI_beginBehind : MI := (⟨R_FI, "beginBehind", "(II)V"⟩, prog_4_method_2_code, 4, none, 2, 44)
def m_FI_goBack : MI := (⟨R_FI, "goBack", "(II)V"⟩, prog_4_method_3_code, 6, none, 4, 107)
def m_FI_leastPrice : MI := (⟨R_FI, "leastPrice", "(II)I"⟩, prog_4_method_4_code, 3, some .int, 0, 0)
def m_FI_canBeSet : MI := (⟨R_FI, "canBeSet", "(I)Z"⟩, prog_4_method_5_code, 2, some .boolean, 0, 0)
def m_FI_nextWidth : MI := (⟨R_FI, "nextWidth", "(III)I"⟩, prog_4_method_6_code, 6, some .int, 0, 0)
def m_FI_clear : MI := (⟨R_FI, "clear", "(I)V"⟩, prog_4_method_7_code, 2, none, 1, 23)
def m_FI_statesAt : MI := (⟨R_FI, "statesAt", "(I)I"⟩, prog_4_method_8_code, 2, some .int, 0, 0)
def m_FI_offerKind : MI := (⟨R_FI, "offerKind", "(III)V"⟩, prog_4_method_9_code, 9, none, 3, 79)
def m_FI_offerForm : MI := (⟨R_FI, "offerForm", "(IIII)V"⟩, prog_4_method_10_code, 9, none, 2, 51)
def m_FI_mostAt : MI := (⟨R_FI, "mostAt", "(II)I"⟩, prog_4_method_11_code, 3, some .int, 0, 0)
def m_FI_stateBehind : MI := (⟨R_FI, "stateBehind", "(IIII)I"⟩, prog_4_method_12_code, 6, some .int, 0, 0)
def m_FI_offer : MI := (⟨R_FI, "offer", "(IIII)V"⟩, prog_4_method_13_code, 11, none, 1, 21)
def m_FI_trace : MI := (⟨R_FI, "trace", "(IILJoinSetter$Line;)V"⟩, prog_4_method_14_code, 8, none, 3, 83)
def m_FI_choose : MI := (⟨R_FI, "choose", "(III)Z"⟩, prog_4_method_15_code, 8, some .boolean, 2, 56)
def m_FI_chooseStretch : MI := (⟨R_FI, "chooseStretch", "(IIIII)Z"⟩, prog_4_method_16_code, 12, some .boolean, 1, 25)
def m_LN_begin : MI := (⟨R_LN, "begin", "(II)V"⟩, prog_5_method_2_code, 3, none, 0, 0)
def m_LN_addPiece : MI := (⟨R_LN, "addPiece", "(IIII)V"⟩, prog_5_method_3_code, 8, none, 1, 24)
def m_LN_setPlain : MI := (⟨R_LN, "setPlain", "(II)V"⟩, prog_5_method_4_code, 6, none, 2, 51)
def m_LN_putMarks : MI := (⟨R_LN, "putMarks", "()V"⟩, prog_5_method_5_code, 7, none, 3, 87)
def m_LN_putMark : MI := (⟨R_LN, "putMark", "(IIIZ)I"⟩, prog_5_method_6_code, 8, some .int, 2, 60)
def m_LN_height : MI := (⟨R_LN, "height", "()I"⟩, prog_5_method_7_code, 1, some .int, 2, 43)
def m_LN_depth : MI := (⟨R_LN, "depth", "()I"⟩, prog_5_method_8_code, 1, some .int, 2, 43)
def m_MK_lift : MI := (⟨R_MK, "lift", "(IIIIZLJoinSetter$Boxes;)I"⟩, prog_6_method_2_code, 13, some .int, 1, 28)
def m_PG_search : MI := (⟨R_PG, "search", "(I)Z"⟩, prog_7_method_2_code, 4, some .boolean, 1, 28)
def m_PG_offerPagesFrom : MI := (⟨R_PG, "offerPagesFrom", "(II)V"⟩, prog_7_method_3_code, 9, none, 0, 0)
def m_PG_keep : MI := (⟨R_PG, "keep", "(I)V"⟩, prog_7_method_4_code, 7, none, 0, 0)
def m_PA_search : MI := (⟨R_PA, "search", "(I)Z"⟩, prog_8_method_2_code, 3, some .boolean, 6, 159)
def m_PA_offerLinesTo : MI := (⟨R_PA, "offerLinesTo", "(II)V"⟩, prog_8_method_3_code, 8, none, 5, 132)
def m_PA_isPlain : MI := (⟨R_PA, "isPlain", "(III)Z"⟩, prog_8_method_4_code, 5, some .boolean, 3, 70)
def m_PA_keep : MI := (⟨R_PA, "keep", "(ILJoinSetter$Line;)V"⟩, prog_8_method_5_code, 6, none, 6, 157)
def m_PA_setLine : MI := (⟨R_PA, "setLine", "(ILJoinSetter$Line;)V"⟩, prog_8_method_6_code, 6, none, 5, 132)
def m_SC_knows : MI := (⟨R_SC, "knows", "(I)Z"⟩, prog_9_method_2_code, 2, some .boolean, 1, 22)
def m_SC_knowsForm : MI := (⟨R_SC, "knowsForm", "(I)Z"⟩, prog_9_method_3_code, 2, some .boolean, 1, 22)
def m_SC_isMark : MI := (⟨R_SC, "isMark", "(I)Z"⟩, prog_9_method_4_code, 2, some .boolean, 0, 0)
def m_SC_joinsBack : MI := (⟨R_SC, "joinsBack", "(I)Z"⟩, prog_9_method_5_code, 2, some .boolean, 0, 0)
def m_SC_addLetter : MI := (⟨R_SC, "addLetter", "(III)I"⟩, prog_9_method_6_code, 5, some .int, 0, 0)
def m_SC_canJoinUp : MI := (⟨R_SC, "canJoinUp", "(III)Z"⟩, prog_9_method_7_code, 4, some .boolean, 1, 21)
def m_SC_hasLigature : MI := (⟨R_SC, "hasLigature", "(III)Z"⟩, prog_9_method_8_code, 6, some .boolean, 0, 0)
def m_SC_addLigature : MI := (⟨R_SC, "addLigature", "(IIIZ)I"⟩, prog_9_method_9_code, 7, some .int, 1, 24)
def m_SC_canHave : MI := (⟨R_SC, "canHave", "(II)Z"⟩, prog_9_method_10_code, 3, some .boolean, 1, 22)
def m_SC_formsOf : MI := (⟨R_SC, "formsOf", "(II)I"⟩, prog_9_method_11_code, 3, some .int, 0, 0)
def m_SC_formNumber : MI := (⟨R_SC, "formNumber", "(III)I"⟩, prog_9_method_12_code, 4, some .int, 0, 0)
def m_SC_plainForm : MI := (⟨R_SC, "plainForm", "(II)I"⟩, prog_9_method_13_code, 3, some .int, 1, 23)
def m_SC_addForm : MI := (⟨R_SC, "addForm", "(II)I"⟩, prog_9_method_14_code, 5, some .int, 0, 0)
def m_SC_priceOf : MI := (⟨R_SC, "priceOf", "(II)I"⟩, prog_9_method_15_code, 4, some .int, 0, 0)
def m_SC_anyBarred : MI := (⟨R_SC, "anyBarred", "()Z"⟩, prog_9_method_16_code, 2, some .boolean, 0, 0)
def m_TY_has : MI := (⟨R_TY, "has", "(I)Z"⟩, prog_10_method_2_code, 2, some .boolean, 1, 22)
def m_TY_putIn : MI := (⟨R_TY, "putIn", "(II)V"⟩, prog_10_method_3_code, 4, none, 0, 0)
def m_TY_takeOut : MI := (⟨R_TY, "takeOut", "(I)I"⟩, prog_10_method_4_code, 4, some .int, 0, 0)
def m_TY_remember : MI := (⟨R_TY, "remember", "(II)V"⟩, prog_10_method_5_code, 3, none, 1, 21)
def m_TY_undoLatest : MI := (⟨R_TY, "undoLatest", "()V"⟩, prog_10_method_6_code, 1, none, 1, 23)
def m_UN_build : MI := (⟨R_UN, "build", "()V"⟩, prog_11_method_2_code, 2, none, 4, 94)
def m_UN_splitWords : MI := (⟨R_UN, "splitWords", "()V"⟩, prog_11_method_3_code, 7, none, 3, 68)
def m_UN_addUnit : MI := (⟨R_UN, "addUnit", "(III)V"⟩, prog_11_method_4_code, 4, none, 0, 0)
def m_UN_standOn : MI := (⟨R_UN, "standOn", "(III)V"⟩, prog_11_method_5_code, 4, none, 2, 45)
def m_UN_findBases : MI := (⟨R_UN, "findBases", "()V"⟩, prog_11_method_6_code, 6, none, 2, 48)
def m_UN_longestMust : MI := (⟨R_UN, "longestMust", "(I)I"⟩, prog_11_method_7_code, 5, some .int, 1, 24)
def m_UN_standsAt : MI := (⟨R_UN, "standsAt", "(II)Z"⟩, prog_11_method_8_code, 5, some .boolean, 0, 0)
def m_UN_findOthers : MI := (⟨R_UN, "findOthers", "()V"⟩, prog_11_method_9_code, 3, none, 2, 44)
def m_UN_areAlone : MI := (⟨R_UN, "areAlone", "(II)Z"⟩, prog_11_method_10_code, 4, some .boolean, 1, 21)
def m_UN_kind : MI := (⟨R_UN, "kind", "(II)I"⟩, prog_11_method_11_code, 3, some .int, 0, 0)
def m_UN_base : MI := (⟨R_UN, "base", "(I)I"⟩, prog_11_method_12_code, 2, some .int, 0, 0)
def m_UN_kindOfLength : MI := (⟨R_UN, "kindOfLength", "(II)I"⟩, prog_11_method_13_code, 4, some .int, 1, 22)
def m_UN_placeOf : MI := (⟨R_UN, "placeOf", "(II)I"⟩, prog_11_method_14_code, 5, some .int, 0, 0)
def m_UN_hasWords : MI := (⟨R_UN, "hasWords", "(II)Z"⟩, prog_11_method_15_code, 3, some .boolean, 0, 0)
def m_UN_lackMarks : MI := (⟨R_UN, "lackMarks", "(II)Z"⟩, prog_11_method_16_code, 4, some .boolean, 0, 0)
def m_UN_plainWidth : MI := (⟨R_UN, "plainWidth", "(II)I"⟩, prog_11_method_17_code, 6, some .int, 2, 45)
def m_MA_max : MI := (⟨R_MA, "max", "(II)I"⟩, prog_14_method_65_code, 2, some .int, 0, 0)
def m_MA_min : MI := (⟨R_MA, "min", "(II)I"⟩, prog_14_method_69_code, 2, some .int, 0, 0)
def m_AR_fill : MI := (⟨R_AR, "fill", "([II)V"⟩, prog_15_method_103_code, 4, none, 0, 0)
end
section
/-! THE ENGINE: methods as steps over a pure picture. A value is an int, a long or a place; the picture of the heap is two tables of Ints (arrays by place and index, fields by place and number) and the two places of the lines. -/
abbrev AV : Type := Int ⊕ (Int ⊕ Nat)
abbrev I (x : Int) : AV := .inl x
abbrev J (x : Int) : AV := .inr (.inl x)
abbrev O (k : Nat) : AV := .inr (.inr k)
/-- launch, class numbers and slots, the address of a place, the classes of int[], boolean[], int[][] -/
abbrev GT : Type := Launch × va_G × (Nat → Nat) × ClassId × ClassId × ClassId
abbrev yM (mi : MI) : MethodName := mi.1
abbrev cM (mi : MI) : ByteArray := mi.2.1
abbrev nM (mi : MI) : Nat := mi.2.2.1
abbrev tM (mi : MI) : Option FieldType := mi.2.2.2.1
abbrev fM (mi : MI) : Nat := mi.2.2.2.2.1
abbrev oM (mi : MI) : Nat := mi.2.2.2.2.2
abbrev aG (G : GT) : Nat → Nat := G.2.2.1
def cv (G : GT) (v : AV) : Value := match v with
  | .inl x => .int (Int32.ofInt x)
  | .inr (.inl x) => .long (Int64.ofInt x)
  | .inr (.inr k) => .ref (aG G k)
abbrev cvs (G : GT) (st : List AV) : List Value := st.map (cv G)
abbrev cvl (G : GT) (l : List (Nat × AV)) : List (Nat × Value) := l.map (fun q => (q.1, cv G q.2))
/-- a number that an int holds -/
def rng (x : Int) : Prop := -2147483648 ≤ x ∧ x < 2147483648
def Rg (σ : St) : Prop := (∀ k i, rng (σ.1 k i)) ∧ ∀ k j, rng (σ.2.1 k j)
/-- stores -/
def up2 (f : Nat → Nat → Int) (k i : Nat) (v : Int) : Nat → Nat → Int := fun k' i' => if k' = k ∧ i' = i then v else f k' i'
def sa (σ : St) (k i : Nat) (v : Int) : St := (up2 σ.1 k i v, σ.2)
def sf (σ : St) (k j : Nat) (v : Int) : St := (σ.1, up2 σ.2.1 k j v, σ.2.2)
def sh (σ : St) (k : Nat) : St := (σ.1, σ.2.1, k, σ.2.2.2)
def sp (σ : St) (k : Nat) : St := (σ.1, σ.2.1, σ.2.2.1, k)
def fv (G : GT) (σ : St) (c k j : Nat) : Value := match rfo c k j σ with
  | some q => .ref (aG G q)
  | none => .int (Int32.ofInt (σ.2.1 k j))
def nfc (c : Nat) : Nat := match classes[c]? with
  | some q => q.2.2
  | none => 0
def ent (G : GT) (σ : St) (k : Nat) : va_E := match (lyt k).1 with
  | 0 => .inr ((lyt k).2, (List.range (nfc (lyt k).2)).map (fv G σ (lyt k).2 k))
  | 1 => .inl (G.2.2.2.1, (lyt k).2, .inl (fun i => Int32.ofInt (σ.1 k i)))
  | 2 => .inl (G.2.2.2.2.1, (lyt k).2, .inl (fun i => Int32.ofInt (σ.1 k i)))
  | _ => .inl (G.2.2.2.2.2, (lyt k).2, .inr (.inr (.inr (.inr (fun i => if i < (lyt k).2 then some (aG G (rwb k + i)) else none)))))
def wG (G : GT) (σ : St) : va_W := (List.range NP).map (fun k => (aG G k, ent G σ k))
def PG (G : GT) (σ : St) (H : Heap) : Prop := va_P G.2.1 classes (wG G σ) H
def AG (G : GT) : Nat → Prop := fun q => ∃ k, k < NP ∧ q = aG G k
abbrev tysG (G : GT) : List (ClassId × FieldType) := [(G.2.2.2.1, .int), (G.2.2.2.2.1, .boolean), (G.2.2.2.2.2, .array .int)]
/-- the links among nest mates -/
def nestW : List Cond := [.methodLinkNest R_SC 55 (yM m_JS_within) "JoinSetter", .methodLinkNest R_TY 31 (yM m_JS_within) "JoinSetter", .methodLinkNest R_CL 56 (yM m_JS_within) "JoinSetter"]
def KG (G : GT) (s : State) : Prop := va_K G.2.1 classes (tysG G) s ∧ (∀ i j, i < NP → j < NP → aG G i = aG G j → i = j) ∧ ∀ w ∈ nestW, va_Nw w s
def Wd (G : GT) (σ : St) (U : State) : Prop := PG G σ U.heap ∧ Rg σ ∧ KG G U
abbrev WS (mi : MI) : List Cond := Cond.code (yM mi) (cM mi) (nM mi) (tM mi) :: gt
abbrev RM (mi : MI) : Room := { frames := fM mi, cells := 0, slots := 0, locals := oM mi }
def QJ (G : GT) (mi : MI) (P : Int → St → Prop) : Array Value → State → Outcome → State → Prop := match tM mi with
  | none => va_Qv (fun u => P 0 u) (Wd G) (AG G)
  | some _ => va_Qi (fun r u => ∃ x : Int, r = Int32.ofInt x ∧ rng x ∧ P x u) (Wd G) (AG G)
/-- from the picture σ the method, called with these values, returns, with an answer and a picture of which P holds -/
def CJ (G : GT) (mi : MI) (av : List AV) (σ : St) (P : Int → St → Prop) : Prop :=
  Met G.1 (yM mi) (WS mi) (RM mi) (va_Pc (cvs G av) (Wd G σ)) (QJ G mi P) 0 0 (AG G)
/-- inside the method: from this instruction, these locals, this stack and picture it comes to its end with P -/
def A (G : GT) (mi : MI) (pc : Nat) (l : List (Nat × AV)) (st : List AV) (σ : St) (P : Int → St → Prop) : Prop :=
  ∀ (p : Program) (e : Env) (s : State) (m : MethodId) (args : Array Value) (below : List Frame) (meth : Method) (c : Code) (s₁ : State), BodyLoose p G.1 (yM mi) (headSpec (WS mi) (RM mi)) (cM mi) (nM mi) (tM mi) e s m args below meth c s₁ → c.maxLocals = nM mi → KG G s → Rg σ →
    ∀ (H : Heap) (locs : List Loc) (la : Array Slot), PG G σ H → va_S (AG G) s.heap H locs → lv_has la (nM mi) (cvl G l) →
    W p G.1 e (headSpec (WS mi) (RM mi)).room s m args below meth c H locs 0 0 (MQ below (QJ G mi P) args s 0 0 (AG G)) (F0 m pc la (cvs G st))
theorem wG_at {G : GT} {σ : St} {k : Nat} (h : k < NP) : (wG G σ)[k]? = some (aG G k, ent G σ k) := by
  unfold wG
  rw [List.getElem?_map, List.getElem?_range h]
  rfl
theorem wG_inv {G : GT} {σ : St} {k : Nat} {q : Nat × va_E} (h : (wG G σ)[k]? = some q) : k < NP ∧ q = (aG G k, ent G σ k) := by
  have hk : k < NP := by
    have := (List.getElem?_eq_some_iff.mp h).1
    simpa [wG] using this
  refine ⟨hk, ?_⟩
  rw [wG_at hk] at h
  exact (Option.some.inj h).symm
theorem wG_D {G : GT} {σ : St} (h : ∀ i j, i < NP → j < NP → aG G i = aG G j → i = j) : va_D (AG G) (wG G σ) := by
  refine ⟨fun i j p q hi hj e => ?_, fun k q hk => ?_⟩
  · obtain ⟨h1, rfl⟩ := wG_inv hi
    obtain ⟨h2, rfl⟩ := wG_inv hj
    exact h i j h1 h2 e
  · obtain ⟨h1, rfl⟩ := wG_inv hk
    exact ⟨k, h1, rfl⟩
theorem wG_set {G : GT} {σ σ' : St} {k : Nat} {e : va_E} (hk : ent G σ' k = e) (ho : ∀ j, j ≠ k → ent G σ' j = ent G σ j) : (wG G σ).set k (aG G k, e) = wG G σ' := by
  apply List.ext_getElem?
  intro j
  by_cases hj : j < NP
  · rw [wG_at hj, List.getElem?_set]
    by_cases h : k = j
    · subst h
      rw [if_pos rfl, if_pos (by simpa [wG] using hj), hk]
    · rw [if_neg h, wG_at hj, ho j (fun q => h q.symm)]
  · rw [List.getElem?_eq_none (by simpa [wG] using hj), List.getElem?_eq_none (by simpa [wG] using hj)]
theorem lyt_lt {k a b : Nat} (h : lyt k = (a, b)) (ha : a ≠ 9) : k < NP := by
  rcases Nat.lt_or_ge k NP with q | q
  · exact q
  · exfalso
    apply ha
    have : lyt k = (9, 0) := by
      unfold lyt
      have : (619 : Nat) ≤ k := q
      rw [if_neg (by omega), if_neg (by omega), if_neg (by omega), if_neg (by omega)]
    rw [this] at h
    exact (congrArg Prod.fst h).symm
/-! numbers -/
theorem oi_toInt {x : Int} (h : rng x) : (Int32.ofInt x).toInt = x := Int32.toInt_ofInt_of_le h.1 h.2
theorem oi_lt {x y : Int} (hx : rng x) (hy : rng y) : Int32.ofInt x < Int32.ofInt y ↔ x < y := by rw [Int32.lt_iff_toInt_lt, oi_toInt hx, oi_toInt hy]
theorem oi_le {x y : Int} (hx : rng x) (hy : rng y) : Int32.ofInt x ≤ Int32.ofInt y ↔ x ≤ y := by rw [Int32.le_iff_toInt_le, oi_toInt hx, oi_toInt hy]
theorem oi_eq {x y : Int} (hx : rng x) (hy : rng y) : Int32.ofInt x = Int32.ofInt y ↔ x = y := by rw [← Int32.toInt_inj, oi_toInt hx, oi_toInt hy]
theorem rng_toInt (v : Int32) : rng v.toInt := ⟨Int32.le_toInt v, Int32.toInt_lt v⟩
theorem rng_ix {x : Int} {n : Nat} (h : 0 ≤ x ∧ x < n) (hn : n ≤ 100000) : rng x := ⟨by omega, by omega⟩
theorem oi_in {x : Int} {n : Nat} (h : 0 ≤ x ∧ x < n) (hn : n ≤ 100000) : vp_in (Int32.ofInt x) n ∧ (Int32.ofInt x).toNatClampNeg = x.toNat := by
  have hr := rng_ix h hn
  have h1 : (Int32.ofInt x).toNatClampNeg = x.toNat := by unfold Int32.toNatClampNeg; rw [oi_toInt hr]
  refine ⟨?_, h1⟩
  unfold vp_in
  rw [h1]
  intro q
  rcases q with q | q
  · have : Int32.ofInt x < Int32.ofInt 0 := q
    rw [oi_lt hr ⟨by decide, by decide⟩] at this
    omega
  · omega
end
section
theorem r_iconst {G : GT} {mi : MI} {pc q : Nat} {l : List (Nat × AV)} {st : List AV} {σ : St} {P : Int → St → Prop} {n v : Int} (hd : decode (cM mi) pc = .ok (.iconst n, 1)) (hq : pc + 1 = q) (hv : n = v) (kk : A G mi q l (I v :: st) σ P) : A G mi pc l (st) σ P := by
  intro p e s m args below meth c s₁ B hml hK hR H locs la hP hS hl
  subst hq
  subst hv
  exact lv_iconst B.exec B.bytes hd rfl (kk p e s m args below meth c s₁ B hml hK hR H locs la hP hS hl)
theorem r_bipush {G : GT} {mi : MI} {pc q : Nat} {l : List (Nat × AV)} {st : List AV} {σ : St} {P : Int → St → Prop} {n : Int} (hd : decode (cM mi) pc = .ok (.bipush n, 2)) (hq : pc + 2 = q) (hv : (Int8.ofInt n).toInt32 = Int32.ofInt n) (kk : A G mi q l (I n :: st) σ P) : A G mi pc l (st) σ P := by
  intro p e s m args below meth c s₁ B hml hK hR H locs la hP hS hl
  subst hq
  exact lv_bipush B.exec B.bytes hd hv (kk p e s m args below meth c s₁ B hml hK hR H locs la hP hS hl)
theorem r_sipush {G : GT} {mi : MI} {pc q : Nat} {l : List (Nat × AV)} {st : List AV} {σ : St} {P : Int → St → Prop} {n : Int} (hd : decode (cM mi) pc = .ok (.sipush n, 3)) (hq : pc + 3 = q) (hv : (Int16.ofInt n).toInt32 = Int32.ofInt n) (kk : A G mi q l (I n :: st) σ P) : A G mi pc l (st) σ P := by
  intro p e s m args below meth c s₁ B hml hK hR H locs la hP hS hl
  subst hq
  exact lv_sipush B.exec B.bytes hd hv (kk p e s m args below meth c s₁ B hml hK hR H locs la hP hS hl)
theorem r_ldc {G : GT} {mi : MI} {pc q : Nat} {l : List (Nat × AV)} {st : List AV} {σ : St} {P : Int → St → Prop} {n : Int} {ix : Nat} (hd : decode (cM mi) pc = .ok (.ldc ix, 2)) (hq : pc + 2 = q) (hc : Cond.constant (yM mi).cls ix (Int32.ofInt n) ∈ gt) (kk : A G mi q l (I n :: st) σ P) : A G mi pc l (st) σ P := by
  intro p e s m args below meth c s₁ B hml hK hR H locs la hP hS hl
  subst hq
  exact lv_ldc B.exec B.bytes (findClass_of_methodNamed B.named) ((fun w hw => atoms_spec (ws := WS mi) B.pre w (List.mem_cons_of_mem _ hw)) _ hc) hd (kk p e s m args below meth c s₁ B hml hK hR H locs la hP hS hl)
theorem r_ldcw {G : GT} {mi : MI} {pc q : Nat} {l : List (Nat × AV)} {st : List AV} {σ : St} {P : Int → St → Prop} {n : Int} {ix : Nat} (hd : decode (cM mi) pc = .ok (.ldc_w ix, 3)) (hq : pc + 3 = q) (hc : Cond.constant (yM mi).cls ix (Int32.ofInt n) ∈ gt) (kk : A G mi q l (I n :: st) σ P) : A G mi pc l (st) σ P := by
  intro p e s m args below meth c s₁ B hml hK hR H locs la hP hS hl
  subst hq
  exact lv_ldcw B.exec B.bytes (findClass_of_methodNamed B.named) ((fun w hw => atoms_spec (ws := WS mi) B.pre w (List.mem_cons_of_mem _ hw)) _ hc) hd (kk p e s m args below meth c s₁ B hml hK hR H locs la hP hS hl)
theorem r_ldc2 {G : GT} {mi : MI} {pc q : Nat} {l : List (Nat × AV)} {st : List AV} {σ : St} {P : Int → St → Prop} {n : Int} {ix : Nat} (hd : decode (cM mi) pc = .ok (.ldc2_w ix, 3)) (hq : pc + 3 = q) (hc : Cond.constantLong (yM mi).cls ix (Int64.ofInt n) ∈ gt) (kk : A G mi q l (J n :: st) σ P) : A G mi pc l (st) σ P := by
  intro p e s m args below meth c s₁ B hml hK hR H locs la hP hS hl
  subst hq
  exact lv_ldc2 B.exec B.bytes (findClass_of_methodNamed B.named) ((fun w hw => atoms_spec (ws := WS mi) B.pre w (List.mem_cons_of_mem _ hw)) _ hc) hd (kk p e s m args below meth c s₁ B hml hK hR H locs la hP hS hl)
theorem r_lconst {G : GT} {mi : MI} {pc q : Nat} {l : List (Nat × AV)} {st : List AV} {σ : St} {P : Int → St → Prop} {f : Fin 2} {n : Int} (hd : decode (cM mi) pc = .ok (.lconst f, 1)) (hq : pc + 1 = q) (hv : Int64.ofNat (f : Nat) = Int64.ofInt n) (kk : A G mi q l (J n :: st) σ P) : A G mi pc l (st) σ P := by
  intro p e s m args below meth c s₁ B hml hK hR H locs la hP hS hl
  subst hq
  exact lv_lconst B.exec B.bytes hd hv (kk p e s m args below meth c s₁ B hml hK hR H locs la hP hS hl)
theorem cvl_at {G : GT} {la : Array Slot} {n : Nat} {l : List (Nat × AV)} (h : lv_has la n (cvl G l)) (k : Nat) {i : Nat} {v : AV} (hk : l[k]? = some (i, v)) : la[i]? = some (.val (cv G v)) := lv_at h k (by rw [List.getElem?_map, hk]; rfl)
theorem r_iload_n {G : GT} {mi : MI} {pc q : Nat} {l : List (Nat × AV)} {st : List AV} {σ : St} {P : Int → St → Prop} {f : Fin 4} {i : Nat} {x : Int} (hd : decode (cM mi) pc = .ok (.iload_n f, 1)) (hq : pc + 1 = q) (hi : (f : Nat) = i) (k : Nat) (hk : l[k]? = some (i, I x)) (kk : A G mi q l (I x :: st) σ P) : A G mi pc l (st) σ P := by
  intro p e s m args below meth c s₁ B hml hK hR H locs la hP hS hl
  subst hq
  exact lv_iload_n B.exec B.bytes hd hi (cvl_at hl k hk) (kk p e s m args below meth c s₁ B hml hK hR H locs la hP hS hl)
theorem r_iload {G : GT} {mi : MI} {pc q : Nat} {l : List (Nat × AV)} {st : List AV} {σ : St} {P : Int → St → Prop} {i : Nat} {x : Int} (hd : decode (cM mi) pc = .ok (.iload i, 2)) (hq : pc + 2 = q) (k : Nat) (hk : l[k]? = some (i, I x)) (kk : A G mi q l (I x :: st) σ P) : A G mi pc l (st) σ P := by
  intro p e s m args below meth c s₁ B hml hK hR H locs la hP hS hl
  subst hq
  exact lv_iload B.exec B.bytes hd (cvl_at hl k hk) (kk p e s m args below meth c s₁ B hml hK hR H locs la hP hS hl)
theorem r_lload_n {G : GT} {mi : MI} {pc q : Nat} {l : List (Nat × AV)} {st : List AV} {σ : St} {P : Int → St → Prop} {f : Fin 4} {i : Nat} {x : Int} (hd : decode (cM mi) pc = .ok (.lload_n f, 1)) (hq : pc + 1 = q) (hi : (f : Nat) = i) (k : Nat) (hk : l[k]? = some (i, J x)) (kk : A G mi q l (J x :: st) σ P) : A G mi pc l (st) σ P := by
  intro p e s m args below meth c s₁ B hml hK hR H locs la hP hS hl
  subst hq
  exact lv_lload_n B.exec B.bytes hd hi (cvl_at hl k hk) (kk p e s m args below meth c s₁ B hml hK hR H locs la hP hS hl)
theorem r_lload {G : GT} {mi : MI} {pc q : Nat} {l : List (Nat × AV)} {st : List AV} {σ : St} {P : Int → St → Prop} {i : Nat} {x : Int} (hd : decode (cM mi) pc = .ok (.lload i, 2)) (hq : pc + 2 = q) (k : Nat) (hk : l[k]? = some (i, J x)) (kk : A G mi q l (J x :: st) σ P) : A G mi pc l (st) σ P := by
  intro p e s m args below meth c s₁ B hml hK hR H locs la hP hS hl
  subst hq
  exact lv_lload B.exec B.bytes hd (cvl_at hl k hk) (kk p e s m args below meth c s₁ B hml hK hR H locs la hP hS hl)
theorem r_aload_n {G : GT} {mi : MI} {pc q : Nat} {l : List (Nat × AV)} {st : List AV} {σ : St} {P : Int → St → Prop} {f : Fin 4} {i : Nat} {x : Nat} (hd : decode (cM mi) pc = .ok (.aload_n f, 1)) (hq : pc + 1 = q) (hi : (f : Nat) = i) (k : Nat) (hk : l[k]? = some (i, O x)) (kk : A G mi q l (O x :: st) σ P) : A G mi pc l (st) σ P := by
  intro p e s m args below meth c s₁ B hml hK hR H locs la hP hS hl
  subst hq
  exact lv_aload_n B.exec B.bytes hd hi (cvl_at hl k hk) (kk p e s m args below meth c s₁ B hml hK hR H locs la hP hS hl)
theorem r_aload {G : GT} {mi : MI} {pc q : Nat} {l : List (Nat × AV)} {st : List AV} {σ : St} {P : Int → St → Prop} {i : Nat} {x : Nat} (hd : decode (cM mi) pc = .ok (.aload i, 2)) (hq : pc + 2 = q) (k : Nat) (hk : l[k]? = some (i, O x)) (kk : A G mi q l (O x :: st) σ P) : A G mi pc l (st) σ P := by
  intro p e s m args below meth c s₁ B hml hK hR H locs la hP hS hl
  subst hq
  exact lv_aload B.exec B.bytes hd (cvl_at hl k hk) (kk p e s m args below meth c s₁ B hml hK hR H locs la hP hS hl)
def lfil (l : List (Nat × AV)) (i : Nat) : List (Nat × AV) := l.filter (fun q => !(q.1 == i) && !(q.1 + 1 == i && q.2.elim (fun _ => false) (fun z => z.isLeft)))
theorem cv_cat (G : GT) (v : AV) : (cv G v).category = if v.elim (fun _ => false) (fun z => z.isLeft) then 2 else 1 := by
  rcases v with x | x | k <;> rfl
theorem cvl_fil (G : GT) (l : List (Nat × AV)) (i : Nat) : cvl G (lfil l i) = (cvl G l).filter (fun q => !(q.1 == i) && !(q.1 + 1 == i && q.2.category == 2)) := by
  unfold lfil cvl
  rw [List.filter_map]
  congr 1
  apply List.filter_congr
  intro q _
  simp only [Function.comp, cv_cat]
  rcases q with ⟨a, x | x | k⟩ <;> simp
theorem r_istore_n {G : GT} {mi : MI} {pc q : Nat} {l : List (Nat × AV)} {st : List AV} {σ : St} {P : Int → St → Prop} {f : Fin 4} {i : Nat} {x : Int} {l' : List (Nat × AV)} (hd : decode (cM mi) pc = .ok (.istore_n f, 1)) (hq : pc + 1 = q) (hi : (f : Nat) = i) (hn : i < nM mi) (hl' : (i, I x) :: lfil l i = l') (kk : A G mi q l' st σ P) : A G mi pc l (I x :: st) σ P := by
  intro p e s m args below meth c s₁ B hml hK hR H locs la hP hS hl
  subst hq
  subst hl'
  refine lv_istore_n B.exec B.bytes hd hi hl hn rfl (fun ls' h' => ?_)
  refine kk p e s m args below meth c s₁ B hml hK hR H locs ls' hP hS ?_
  have e1 : cvl G ((i, I x) :: lfil l i) = (i, cv G (I x)) :: cvl G (lfil l i) := rfl
  rw [e1, cvl_fil]
  exact h'
theorem r_istore {G : GT} {mi : MI} {pc q : Nat} {l : List (Nat × AV)} {st : List AV} {σ : St} {P : Int → St → Prop} {i : Nat} {x : Int} {l' : List (Nat × AV)} (hd : decode (cM mi) pc = .ok (.istore i, 2)) (hq : pc + 2 = q) (hn : i < nM mi) (hl' : (i, I x) :: lfil l i = l') (kk : A G mi q l' st σ P) : A G mi pc l (I x :: st) σ P := by
  intro p e s m args below meth c s₁ B hml hK hR H locs la hP hS hl
  subst hq
  subst hl'
  refine lv_istore B.exec B.bytes hd hl hn rfl (fun ls' h' => ?_)
  refine kk p e s m args below meth c s₁ B hml hK hR H locs ls' hP hS ?_
  have e1 : cvl G ((i, I x) :: lfil l i) = (i, cv G (I x)) :: cvl G (lfil l i) := rfl
  rw [e1, cvl_fil]
  exact h'
theorem r_astore_n {G : GT} {mi : MI} {pc q : Nat} {l : List (Nat × AV)} {st : List AV} {σ : St} {P : Int → St → Prop} {f : Fin 4} {i : Nat} {x : Nat} {l' : List (Nat × AV)} (hd : decode (cM mi) pc = .ok (.astore_n f, 1)) (hq : pc + 1 = q) (hi : (f : Nat) = i) (hn : i < nM mi) (hl' : (i, O x) :: lfil l i = l') (kk : A G mi q l' st σ P) : A G mi pc l (O x :: st) σ P := by
  intro p e s m args below meth c s₁ B hml hK hR H locs la hP hS hl
  subst hq
  subst hl'
  refine lv_astore_n B.exec B.bytes hd hi hl hn rfl (fun ls' h' => ?_)
  refine kk p e s m args below meth c s₁ B hml hK hR H locs ls' hP hS ?_
  have e1 : cvl G ((i, O x) :: lfil l i) = (i, cv G (O x)) :: cvl G (lfil l i) := rfl
  rw [e1, cvl_fil]
  exact h'
theorem r_astore {G : GT} {mi : MI} {pc q : Nat} {l : List (Nat × AV)} {st : List AV} {σ : St} {P : Int → St → Prop} {i : Nat} {x : Nat} {l' : List (Nat × AV)} (hd : decode (cM mi) pc = .ok (.astore i, 2)) (hq : pc + 2 = q) (hn : i < nM mi) (hl' : (i, O x) :: lfil l i = l') (kk : A G mi q l' st σ P) : A G mi pc l (O x :: st) σ P := by
  intro p e s m args below meth c s₁ B hml hK hR H locs la hP hS hl
  subst hq
  subst hl'
  refine lv_astore B.exec B.bytes hd hl hn rfl (fun ls' h' => ?_)
  refine kk p e s m args below meth c s₁ B hml hK hR H locs ls' hP hS ?_
  have e1 : cvl G ((i, O x) :: lfil l i) = (i, cv G (O x)) :: cvl G (lfil l i) := rfl
  rw [e1, cvl_fil]
  exact h'
theorem r_iinc {G : GT} {mi : MI} {pc q : Nat} {l : List (Nat × AV)} {st : List AV} {σ : St} {P : Int → St → Prop} {i k : Nat} {n x : Int} {l' : List (Nat × AV)} (hd : decode (cM mi) pc = .ok (.iinc i n, 3)) (hq : pc + 3 = q) (hk : l[k]? = some (i, I x)) (hn : i < nM mi) (hl' : (i, I (x + n)) :: lfil l i = l') (kk : A G mi q l' st σ P) : A G mi pc l st σ P := by
  intro p e s m args below meth c s₁ B hml hK hR H locs la hP hS hl
  subst hq
  subst hl'
  refine lv_iinc B.exec B.bytes hd hl (k := k) (x := Int32.ofInt x) (v := Int32.ofInt (x + n)) (by rw [List.getElem?_map, hk]; rfl) (by rw [Int32.ofInt_add]) hn rfl (fun ls' h' => ?_)
  refine kk p e s m args below meth c s₁ B hml hK hR H locs ls' hP hS ?_
  have e1 : cvl G ((i, I (x + n)) :: lfil l i) = (i, cv G (I (x + n))) :: cvl G (lfil l i) := rfl
  rw [e1, cvl_fil]
  exact h'
theorem r_loc {G : GT} {mi : MI} {pc : Nat} {l : List (Nat × AV)} {st : List AV} {σ : St} {P : Int → St → Prop} {l' : List (Nat × AV)} (ks : List Nat) (h : ks.filterMap (fun k => l[k]?) = l') (kk : A G mi pc l' st σ P) : A G mi pc l st σ P := by
  intro p e s m args below meth c s₁ B hml hK hR H locs la hP hS hl
  refine kk p e s m args below meth c s₁ B hml hK hR H locs la hP hS (lv_sub hl ks ?_)
  subst h
  unfold lv_pick cvl
  rw [List.map_filterMap]
  congr 1
  funext k
  rw [List.getElem?_map]
theorem r_iadd {G : GT} {mi : MI} {pc q : Nat} {l : List (Nat × AV)} {st : List AV} {σ : St} {P : Int → St → Prop} {x y : Int} (hd : decode (cM mi) pc = .ok (.iadd, 1)) (hq : pc + 1 = q)  (kk : A G mi q l (I (x + y) :: st) σ P) : A G mi pc l (I y :: I x :: st) σ P := by
  intro p e s m args below meth c s₁ B hml hK hR H locs la hP hS hl
  subst hq
  refine lv_iadd B.exec B.bytes hd ?_
  rw [← Int32.ofInt_add]
  exact kk p e s m args below meth c s₁ B hml hK hR H locs la hP hS hl
theorem r_isub {G : GT} {mi : MI} {pc q : Nat} {l : List (Nat × AV)} {st : List AV} {σ : St} {P : Int → St → Prop} {x y : Int} (hd : decode (cM mi) pc = .ok (.isub, 1)) (hq : pc + 1 = q)  (kk : A G mi q l (I (x - y) :: st) σ P) : A G mi pc l (I y :: I x :: st) σ P := by
  intro p e s m args below meth c s₁ B hml hK hR H locs la hP hS hl
  subst hq
  refine lv_isub B.exec B.bytes hd ?_
  rw [← Int32.ofInt_sub]
  exact kk p e s m args below meth c s₁ B hml hK hR H locs la hP hS hl
theorem r_imul {G : GT} {mi : MI} {pc q : Nat} {l : List (Nat × AV)} {st : List AV} {σ : St} {P : Int → St → Prop} {x y : Int} (hd : decode (cM mi) pc = .ok (.imul, 1)) (hq : pc + 1 = q)  (kk : A G mi q l (I (x * y) :: st) σ P) : A G mi pc l (I y :: I x :: st) σ P := by
  intro p e s m args below meth c s₁ B hml hK hR H locs la hP hS hl
  subst hq
  refine lv_imul B.exec B.bytes hd ?_
  rw [← Int32.ofInt_mul]
  exact kk p e s m args below meth c s₁ B hml hK hR H locs la hP hS hl
theorem r_ineg {G : GT} {mi : MI} {pc q : Nat} {l : List (Nat × AV)} {st : List AV} {σ : St} {P : Int → St → Prop} {x : Int} (hd : decode (cM mi) pc = .ok (.ineg, 1)) (hq : pc + 1 = q)  (kk : A G mi q l (I (-x) :: st) σ P) : A G mi pc l (I x :: st) σ P := by
  intro p e s m args below meth c s₁ B hml hK hR H locs la hP hS hl
  subst hq
  refine lv_ineg B.exec B.bytes hd ?_
  rw [← Int32.ofInt_neg]
  exact kk p e s m args below meth c s₁ B hml hK hR H locs la hP hS hl
theorem r_iand {G : GT} {mi : MI} {pc q : Nat} {l : List (Nat × AV)} {st : List AV} {σ : St} {P : Int → St → Prop} {x y : Int} (hd : decode (cM mi) pc = .ok (.iand, 1)) (hq : pc + 1 = q)  (kk : A G mi q l (I ((Int32.ofInt x &&& Int32.ofInt y).toInt) :: st) σ P) : A G mi pc l (I y :: I x :: st) σ P := by
  intro p e s m args below meth c s₁ B hml hK hR H locs la hP hS hl
  subst hq
  refine lv_iand B.exec B.bytes hd ?_
  have h := kk p e s m args below meth c s₁ B hml hK hR H locs la hP hS hl
  have e1 : cvs G (I ((Int32.ofInt x &&& Int32.ofInt y).toInt) :: st) = Value.int (Int32.ofInt x &&& Int32.ofInt y) :: cvs G st := by show Value.int (Int32.ofInt _) :: _ = _; rw [Int32.ofInt_toInt]
  rw [e1] at h
  exact h
theorem r_ior {G : GT} {mi : MI} {pc q : Nat} {l : List (Nat × AV)} {st : List AV} {σ : St} {P : Int → St → Prop} {x y : Int} (hd : decode (cM mi) pc = .ok (.ior, 1)) (hq : pc + 1 = q)  (kk : A G mi q l (I ((Int32.ofInt x ||| Int32.ofInt y).toInt) :: st) σ P) : A G mi pc l (I y :: I x :: st) σ P := by
  intro p e s m args below meth c s₁ B hml hK hR H locs la hP hS hl
  subst hq
  refine lv_ior B.exec B.bytes hd ?_
  have h := kk p e s m args below meth c s₁ B hml hK hR H locs la hP hS hl
  have e1 : cvs G (I ((Int32.ofInt x ||| Int32.ofInt y).toInt) :: st) = Value.int (Int32.ofInt x ||| Int32.ofInt y) :: cvs G st := by show Value.int (Int32.ofInt _) :: _ = _; rw [Int32.ofInt_toInt]
  rw [e1] at h
  exact h
theorem r_ishl {G : GT} {mi : MI} {pc q : Nat} {l : List (Nat × AV)} {st : List AV} {σ : St} {P : Int → St → Prop} {x y : Int} (hd : decode (cM mi) pc = .ok (.ishl, 1)) (hq : pc + 1 = q)  (kk : A G mi q l (I ((Int32.ofInt x <<< (Int32.ofInt y &&& 31)).toInt) :: st) σ P) : A G mi pc l (I y :: I x :: st) σ P := by
  intro p e s m args below meth c s₁ B hml hK hR H locs la hP hS hl
  subst hq
  refine lv_ishl B.exec B.bytes hd ?_
  have h := kk p e s m args below meth c s₁ B hml hK hR H locs la hP hS hl
  have e1 : cvs G (I ((Int32.ofInt x <<< (Int32.ofInt y &&& 31)).toInt) :: st) = Value.int (Int32.ofInt x <<< (Int32.ofInt y &&& 31)) :: cvs G st := by show Value.int (Int32.ofInt _) :: _ = _; rw [Int32.ofInt_toInt]
  rw [e1] at h
  exact h
theorem r_ishr {G : GT} {mi : MI} {pc q : Nat} {l : List (Nat × AV)} {st : List AV} {σ : St} {P : Int → St → Prop} {x y : Int} (hd : decode (cM mi) pc = .ok (.ishr, 1)) (hq : pc + 1 = q)  (kk : A G mi q l (I ((Int32.ofInt x >>> (Int32.ofInt y &&& 31)).toInt) :: st) σ P) : A G mi pc l (I y :: I x :: st) σ P := by
  intro p e s m args below meth c s₁ B hml hK hR H locs la hP hS hl
  subst hq
  refine lv_ishr B.exec B.bytes hd ?_
  have h := kk p e s m args below meth c s₁ B hml hK hR H locs la hP hS hl
  have e1 : cvs G (I ((Int32.ofInt x >>> (Int32.ofInt y &&& 31)).toInt) :: st) = Value.int (Int32.ofInt x >>> (Int32.ofInt y &&& 31)) :: cvs G st := by show Value.int (Int32.ofInt _) :: _ = _; rw [Int32.ofInt_toInt]
  rw [e1] at h
  exact h
theorem oi_div {x y : Int} (hx : 0 ≤ x) (hx' : x < 2147483648) (hy : 0 < y) (hy' : y < 2147483648) : Int32.ofInt x / Int32.ofInt y = Int32.ofInt (x / y) := by
  have h1 : rng x := ⟨by omega, hx'⟩
  have h2 : rng y := ⟨by omega, hy'⟩
  have h4 : 0 ≤ x / y := Int.ediv_nonneg hx (Int.le_of_lt hy)
  have h5 : x / y ≤ x := Int.ediv_le_self y hx
  have h3 : rng (x / y) := ⟨by omega, by omega⟩
  apply Int32.toInt_inj.mp
  rw [Int32.toInt_div, oi_toInt h1, oi_toInt h2, oi_toInt h3, Int.tdiv_eq_ediv_of_nonneg hx]
  exact Int.bmod_eq_of_le (by have := h3.1; omega) (by have := h3.2; omega)
theorem oi_ne0 {y : Int} (hy : 0 < y) (hy' : y < 2147483648) : ¬ Int32.ofInt y = 0 := by
  intro h
  have : Int32.ofInt y = Int32.ofInt 0 := h
  rw [oi_eq ⟨by omega, hy'⟩ ⟨by decide, by decide⟩] at this
  omega
theorem r_idiv {G : GT} {mi : MI} {pc q : Nat} {l : List (Nat × AV)} {st : List AV} {σ : St} {P : Int → St → Prop} {x y : Int} (hd : decode (cM mi) pc = .ok (.idiv, 1)) (hq : pc + 1 = q) (h1 : 0 ≤ x) (h2 : rng x) (hy : 0 < y) (hy2 : y < 2147483648) (kk : A G mi q l (I (x / y) :: st) σ P) : A G mi pc l (I y :: I x :: st) σ P := by
  intro p e s m args below meth c s₁ B hml hK hR H locs la hP hS hl
  subst hq
  refine lv_idiv B.exec B.bytes hd (oi_ne0 hy hy2) ?_
  rw [oi_div h1 h2.2 hy hy2]
  exact kk p e s m args below meth c s₁ B hml hK hR H locs la hP hS hl
theorem r_irem {G : GT} {mi : MI} {pc q : Nat} {l : List (Nat × AV)} {st : List AV} {σ : St} {P : Int → St → Prop} {x y : Int} (hd : decode (cM mi) pc = .ok (.irem, 1)) (hq : pc + 1 = q) (h1 : 0 ≤ x) (h2 : rng x) (hy : 0 < y) (hy2 : y < 2147483648) (kk : A G mi q l (I (x % y) :: st) σ P) : A G mi pc l (I y :: I x :: st) σ P := by
  intro p e s m args below meth c s₁ B hml hK hR H locs la hP hS hl
  subst hq
  refine lv_irem B.exec B.bytes hd (oi_ne0 hy hy2) ?_
  rw [oi_div h1 h2.2 hy hy2, ← Int32.ofInt_mul, ← Int32.ofInt_sub, show x - x / y * y = x % y by rw [Int.emod_def, Int.mul_comm]]
  exact kk p e s m args below meth c s₁ B hml hK hR H locs la hP hS hl
theorem r_i2l {G : GT} {mi : MI} {pc q : Nat} {l : List (Nat × AV)} {st : List AV} {σ : St} {P : Int → St → Prop} {x : Int} (hd : decode (cM mi) pc = .ok (.i2l, 1)) (hq : pc + 1 = q) (hx : rng x) (kk : A G mi q l (J x :: st) σ P) : A G mi pc l (I x :: st) σ P := by
  intro p e s m args below meth c s₁ B hml hK hR H locs la hP hS hl
  subst hq
  exact lv_i2l B.exec B.bytes hd (by rw [← Int64.ofInt_int32ToInt, oi_toInt hx]) (kk p e s m args below meth c s₁ B hml hK hR H locs la hP hS hl)
theorem r_dup {G : GT} {mi : MI} {pc q : Nat} {l : List (Nat × AV)} {st : List AV} {σ : St} {P : Int → St → Prop} {x : Int} (hd : decode (cM mi) pc = .ok (.dup, 1)) (hq : pc + 1 = q)  (kk : A G mi q l (I x :: I x :: st) σ P) : A G mi pc l (I x :: st) σ P := by
  intro p e s m args below meth c s₁ B hml hK hR H locs la hP hS hl
  subst hq
  exact lv_dup B.exec B.bytes hd rfl (kk p e s m args below meth c s₁ B hml hK hR H locs la hP hS hl)
theorem r_dupo {G : GT} {mi : MI} {pc q : Nat} {l : List (Nat × AV)} {st : List AV} {σ : St} {P : Int → St → Prop} {x : Nat} (hd : decode (cM mi) pc = .ok (.dup, 1)) (hq : pc + 1 = q)  (kk : A G mi q l (O x :: O x :: st) σ P) : A G mi pc l (O x :: st) σ P := by
  intro p e s m args below meth c s₁ B hml hK hR H locs la hP hS hl
  subst hq
  exact lv_dup B.exec B.bytes hd rfl (kk p e s m args below meth c s₁ B hml hK hR H locs la hP hS hl)
theorem r_pop {G : GT} {mi : MI} {pc q : Nat} {l : List (Nat × AV)} {st : List AV} {σ : St} {P : Int → St → Prop} {x : Int} (hd : decode (cM mi) pc = .ok (.pop, 1)) (hq : pc + 1 = q)  (kk : A G mi q l (st) σ P) : A G mi pc l (I x :: st) σ P := by
  intro p e s m args below meth c s₁ B hml hK hR H locs la hP hS hl
  subst hq
  exact lv_pop B.exec B.bytes hd rfl (kk p e s m args below meth c s₁ B hml hK hR H locs la hP hS hl)
theorem r_dup2 {G : GT} {mi : MI} {pc q : Nat} {l : List (Nat × AV)} {st : List AV} {σ : St} {P : Int → St → Prop} {x : Int} {k : Nat} (hd : decode (cM mi) pc = .ok (.dup2, 1)) (hq : pc + 1 = q)  (kk : A G mi q l (I x :: O k :: I x :: O k :: st) σ P) : A G mi pc l (I x :: O k :: st) σ P := by
  intro p e s m args below meth c s₁ B hml hK hR H locs la hP hS hl
  subst hq
  exact lv_dup2_11 B.exec B.bytes hd rfl rfl (kk p e s m args below meth c s₁ B hml hK hR H locs la hP hS hl)
theorem r_goto {G : GT} {mi : MI} {pc q : Nat} {l : List (Nat × AV)} {st : List AV} {σ : St} {P : Int → St → Prop} {off : Int} (hd : decode (cM mi) pc = .ok (.goto off, 3)) (ht : (pc : Int) + off = (q : Int)) (kk : A G mi q l st σ P) : A G mi pc l st σ P := by
  intro p e s m args below meth c s₁ B hml hK hR H locs la hP hS hl
  exact lv_goto B.exec B.bytes hd ht (kk p e s m args below meth c s₁ B hml hK hR H locs la hP hS hl)
theorem r_icmp_eq {G : GT} {mi : MI} {pc q : Nat} {l : List (Nat × AV)} {st : List AV} {σ : St} {P : Int → St → Prop} {t : Nat} {off x y : Int} (hd : decode (cM mi) pc = .ok (.if_icmp .eq off, 3)) (hq : pc + 3 = q) (ht : (pc : Int) + off = (t : Int)) (hx : rng x) (hy : rng y) (kt : x = y → A G mi t l st σ P) (kf : x ≠ y → A G mi q l st σ P) : A G mi pc l (I y :: I x :: st) σ P := by
  intro p e s m args below meth c s₁ B hml hK hR H locs la hP hS hl
  subst hq
  exact lv_icmp_eq B.exec B.bytes hd ht (fun h => kt ((oi_eq hx hy).mp h) p e s m args below meth c s₁ B hml hK hR H locs la hP hS hl) (fun h => (fun h => kf (fun z => h ((oi_eq hx hy).mpr z))) h p e s m args below meth c s₁ B hml hK hR H locs la hP hS hl)
theorem r_if_eq {G : GT} {mi : MI} {pc q : Nat} {l : List (Nat × AV)} {st : List AV} {σ : St} {P : Int → St → Prop} {t : Nat} {off x : Int} (hd : decode (cM mi) pc = .ok (.ifCond .eq off, 3)) (hq : pc + 3 = q) (ht : (pc : Int) + off = (t : Int)) (hx : rng x) (kt : x = 0 → A G mi t l st σ P) (kf : x ≠ 0 → A G mi q l st σ P) : A G mi pc l (I x :: st) σ P := by
  intro p e s m args below meth c s₁ B hml hK hR H locs la hP hS hl
  subst hq
  exact lv_if_eq B.exec B.bytes hd ht (fun h => kt ((oi_eq hx (⟨by decide, by decide⟩ : rng 0)).mp h) p e s m args below meth c s₁ B hml hK hR H locs la hP hS hl) (fun h => (fun h => kf (fun z => h ((oi_eq hx (⟨by decide, by decide⟩ : rng 0)).mpr z))) h p e s m args below meth c s₁ B hml hK hR H locs la hP hS hl)
theorem r_icmp_ne {G : GT} {mi : MI} {pc q : Nat} {l : List (Nat × AV)} {st : List AV} {σ : St} {P : Int → St → Prop} {t : Nat} {off x y : Int} (hd : decode (cM mi) pc = .ok (.if_icmp .ne off, 3)) (hq : pc + 3 = q) (ht : (pc : Int) + off = (t : Int)) (hx : rng x) (hy : rng y) (kt : x ≠ y → A G mi t l st σ P) (kf : x = y → A G mi q l st σ P) : A G mi pc l (I y :: I x :: st) σ P := by
  intro p e s m args below meth c s₁ B hml hK hR H locs la hP hS hl
  subst hq
  exact lv_icmp_ne B.exec B.bytes hd ht (fun h => kt ((not_congr (oi_eq hx hy)).mp h) p e s m args below meth c s₁ B hml hK hR H locs la hP hS hl) (fun h => (fun h => kf ((oi_eq hx hy).mp h)) h p e s m args below meth c s₁ B hml hK hR H locs la hP hS hl)
theorem r_if_ne {G : GT} {mi : MI} {pc q : Nat} {l : List (Nat × AV)} {st : List AV} {σ : St} {P : Int → St → Prop} {t : Nat} {off x : Int} (hd : decode (cM mi) pc = .ok (.ifCond .ne off, 3)) (hq : pc + 3 = q) (ht : (pc : Int) + off = (t : Int)) (hx : rng x) (kt : x ≠ 0 → A G mi t l st σ P) (kf : x = 0 → A G mi q l st σ P) : A G mi pc l (I x :: st) σ P := by
  intro p e s m args below meth c s₁ B hml hK hR H locs la hP hS hl
  subst hq
  exact lv_if_ne B.exec B.bytes hd ht (fun h => kt ((not_congr (oi_eq hx (⟨by decide, by decide⟩ : rng 0))).mp h) p e s m args below meth c s₁ B hml hK hR H locs la hP hS hl) (fun h => (fun h => kf ((oi_eq hx (⟨by decide, by decide⟩ : rng 0)).mp h)) h p e s m args below meth c s₁ B hml hK hR H locs la hP hS hl)
theorem r_icmp_lt {G : GT} {mi : MI} {pc q : Nat} {l : List (Nat × AV)} {st : List AV} {σ : St} {P : Int → St → Prop} {t : Nat} {off x y : Int} (hd : decode (cM mi) pc = .ok (.if_icmp .lt off, 3)) (hq : pc + 3 = q) (ht : (pc : Int) + off = (t : Int)) (hx : rng x) (hy : rng y) (kt : x < y → A G mi t l st σ P) (kf : y ≤ x → A G mi q l st σ P) : A G mi pc l (I y :: I x :: st) σ P := by
  intro p e s m args below meth c s₁ B hml hK hR H locs la hP hS hl
  subst hq
  exact lv_icmp_lt B.exec B.bytes hd ht (fun h => kt ((oi_lt hx hy).mp h) p e s m args below meth c s₁ B hml hK hR H locs la hP hS hl) (fun h => (fun h => kf (Int.not_lt.mp (fun z => h ((oi_lt hx hy).mpr z)))) h p e s m args below meth c s₁ B hml hK hR H locs la hP hS hl)
theorem r_if_lt {G : GT} {mi : MI} {pc q : Nat} {l : List (Nat × AV)} {st : List AV} {σ : St} {P : Int → St → Prop} {t : Nat} {off x : Int} (hd : decode (cM mi) pc = .ok (.ifCond .lt off, 3)) (hq : pc + 3 = q) (ht : (pc : Int) + off = (t : Int)) (hx : rng x) (kt : x < 0 → A G mi t l st σ P) (kf : 0 ≤ x → A G mi q l st σ P) : A G mi pc l (I x :: st) σ P := by
  intro p e s m args below meth c s₁ B hml hK hR H locs la hP hS hl
  subst hq
  exact lv_if_lt B.exec B.bytes hd ht (fun h => kt ((oi_lt hx (⟨by decide, by decide⟩ : rng 0)).mp h) p e s m args below meth c s₁ B hml hK hR H locs la hP hS hl) (fun h => (fun h => kf (Int.not_lt.mp (fun z => h ((oi_lt hx (⟨by decide, by decide⟩ : rng 0)).mpr z)))) h p e s m args below meth c s₁ B hml hK hR H locs la hP hS hl)
theorem r_icmp_ge {G : GT} {mi : MI} {pc q : Nat} {l : List (Nat × AV)} {st : List AV} {σ : St} {P : Int → St → Prop} {t : Nat} {off x y : Int} (hd : decode (cM mi) pc = .ok (.if_icmp .ge off, 3)) (hq : pc + 3 = q) (ht : (pc : Int) + off = (t : Int)) (hx : rng x) (hy : rng y) (kt : y ≤ x → A G mi t l st σ P) (kf : x < y → A G mi q l st σ P) : A G mi pc l (I y :: I x :: st) σ P := by
  intro p e s m args below meth c s₁ B hml hK hR H locs la hP hS hl
  subst hq
  exact lv_icmp_ge B.exec B.bytes hd ht (fun h => kt ((oi_le hy hx).mp h) p e s m args below meth c s₁ B hml hK hR H locs la hP hS hl) (fun h => (fun h => kf (Int.not_le.mp (fun z => h ((oi_le hy hx).mpr z)))) h p e s m args below meth c s₁ B hml hK hR H locs la hP hS hl)
theorem r_if_ge {G : GT} {mi : MI} {pc q : Nat} {l : List (Nat × AV)} {st : List AV} {σ : St} {P : Int → St → Prop} {t : Nat} {off x : Int} (hd : decode (cM mi) pc = .ok (.ifCond .ge off, 3)) (hq : pc + 3 = q) (ht : (pc : Int) + off = (t : Int)) (hx : rng x) (kt : 0 ≤ x → A G mi t l st σ P) (kf : x < 0 → A G mi q l st σ P) : A G mi pc l (I x :: st) σ P := by
  intro p e s m args below meth c s₁ B hml hK hR H locs la hP hS hl
  subst hq
  exact lv_if_ge B.exec B.bytes hd ht (fun h => kt ((oi_le (⟨by decide, by decide⟩ : rng 0) hx).mp h) p e s m args below meth c s₁ B hml hK hR H locs la hP hS hl) (fun h => (fun h => kf (Int.not_le.mp (fun z => h ((oi_le (⟨by decide, by decide⟩ : rng 0) hx).mpr z)))) h p e s m args below meth c s₁ B hml hK hR H locs la hP hS hl)
theorem r_icmp_gt {G : GT} {mi : MI} {pc q : Nat} {l : List (Nat × AV)} {st : List AV} {σ : St} {P : Int → St → Prop} {t : Nat} {off x y : Int} (hd : decode (cM mi) pc = .ok (.if_icmp .gt off, 3)) (hq : pc + 3 = q) (ht : (pc : Int) + off = (t : Int)) (hx : rng x) (hy : rng y) (kt : y < x → A G mi t l st σ P) (kf : x ≤ y → A G mi q l st σ P) : A G mi pc l (I y :: I x :: st) σ P := by
  intro p e s m args below meth c s₁ B hml hK hR H locs la hP hS hl
  subst hq
  exact lv_icmp_gt B.exec B.bytes hd ht (fun h => kt ((oi_lt hy hx).mp h) p e s m args below meth c s₁ B hml hK hR H locs la hP hS hl) (fun h => (fun h => kf (Int.not_lt.mp (fun z => h ((oi_lt hy hx).mpr z)))) h p e s m args below meth c s₁ B hml hK hR H locs la hP hS hl)
theorem r_if_gt {G : GT} {mi : MI} {pc q : Nat} {l : List (Nat × AV)} {st : List AV} {σ : St} {P : Int → St → Prop} {t : Nat} {off x : Int} (hd : decode (cM mi) pc = .ok (.ifCond .gt off, 3)) (hq : pc + 3 = q) (ht : (pc : Int) + off = (t : Int)) (hx : rng x) (kt : 0 < x → A G mi t l st σ P) (kf : x ≤ 0 → A G mi q l st σ P) : A G mi pc l (I x :: st) σ P := by
  intro p e s m args below meth c s₁ B hml hK hR H locs la hP hS hl
  subst hq
  exact lv_if_gt B.exec B.bytes hd ht (fun h => kt ((oi_lt (⟨by decide, by decide⟩ : rng 0) hx).mp h) p e s m args below meth c s₁ B hml hK hR H locs la hP hS hl) (fun h => (fun h => kf (Int.not_lt.mp (fun z => h ((oi_lt (⟨by decide, by decide⟩ : rng 0) hx).mpr z)))) h p e s m args below meth c s₁ B hml hK hR H locs la hP hS hl)
theorem r_icmp_le {G : GT} {mi : MI} {pc q : Nat} {l : List (Nat × AV)} {st : List AV} {σ : St} {P : Int → St → Prop} {t : Nat} {off x y : Int} (hd : decode (cM mi) pc = .ok (.if_icmp .le off, 3)) (hq : pc + 3 = q) (ht : (pc : Int) + off = (t : Int)) (hx : rng x) (hy : rng y) (kt : x ≤ y → A G mi t l st σ P) (kf : y < x → A G mi q l st σ P) : A G mi pc l (I y :: I x :: st) σ P := by
  intro p e s m args below meth c s₁ B hml hK hR H locs la hP hS hl
  subst hq
  exact lv_icmp_le B.exec B.bytes hd ht (fun h => kt ((oi_le hx hy).mp h) p e s m args below meth c s₁ B hml hK hR H locs la hP hS hl) (fun h => (fun h => kf (Int.not_le.mp (fun z => h ((oi_le hx hy).mpr z)))) h p e s m args below meth c s₁ B hml hK hR H locs la hP hS hl)
theorem r_if_le {G : GT} {mi : MI} {pc q : Nat} {l : List (Nat × AV)} {st : List AV} {σ : St} {P : Int → St → Prop} {t : Nat} {off x : Int} (hd : decode (cM mi) pc = .ok (.ifCond .le off, 3)) (hq : pc + 3 = q) (ht : (pc : Int) + off = (t : Int)) (hx : rng x) (kt : x ≤ 0 → A G mi t l st σ P) (kf : 0 < x → A G mi q l st σ P) : A G mi pc l (I x :: st) σ P := by
  intro p e s m args below meth c s₁ B hml hK hR H locs la hP hS hl
  subst hq
  exact lv_if_le B.exec B.bytes hd ht (fun h => kt ((oi_le hx (⟨by decide, by decide⟩ : rng 0)).mp h) p e s m args below meth c s₁ B hml hK hR H locs la hP hS hl) (fun h => (fun h => kf (Int.not_le.mp (fun z => h ((oi_le hx (⟨by decide, by decide⟩ : rng 0)).mpr z)))) h p e s m args below meth c s₁ B hml hK hR H locs la hP hS hl)
theorem b01_rng {c : Prop} [Decidable c] : rng (if c then 1 else 0) := by split <;> exact ⟨by decide, by decide⟩
theorem r_ifb_eq {G : GT} {mi : MI} {pc q : Nat} {l : List (Nat × AV)} {st : List AV} {σ : St} {P : Int → St → Prop} {t : Nat} {off : Int} {c : Prop} [Decidable c] (hd : decode (cM mi) pc = .ok (.ifCond .eq off, 3)) (hq : pc + 3 = q) (ht : (pc : Int) + off = (t : Int)) (kt : (¬ c) → A G mi t l st σ P) (kf : (c) → A G mi q l st σ P) : A G mi pc l (I (if c then 1 else 0) :: st) σ P :=
  r_if_eq hd hq ht b01_rng (fun h => kt (fun z => by rw [if_pos z] at h; omega)) (fun h => kf (Decidable.byContradiction (fun z => by rw [if_neg z] at h; omega)))
theorem r_ifb_ne {G : GT} {mi : MI} {pc q : Nat} {l : List (Nat × AV)} {st : List AV} {σ : St} {P : Int → St → Prop} {t : Nat} {off : Int} {c : Prop} [Decidable c] (hd : decode (cM mi) pc = .ok (.ifCond .ne off, 3)) (hq : pc + 3 = q) (ht : (pc : Int) + off = (t : Int)) (kt : (c) → A G mi t l st σ P) (kf : (¬ c) → A G mi q l st σ P) : A G mi pc l (I (if c then 1 else 0) :: st) σ P :=
  r_if_ne hd hq ht b01_rng (fun h => kt (Decidable.byContradiction (fun z => by rw [if_neg z] at h; omega))) (fun h => kf (fun z => by rw [if_pos z] at h; omega))
theorem r_swOut {G : GT} {mi : MI} {pc : Nat} {l : List (Nat × AV)} {st : List AV} {σ : St} {P : Int → St → Prop} {df lo hi x : Int} {offs : Array Int} {len t : Nat} (hd : decode (cM mi) pc = .ok (.tableswitch df lo hi offs, len)) (ht : (pc : Int) + df = (t : Int)) (hx : rng x) (h : x < lo ∨ hi < x) (kk : A G mi t l st σ P) : A G mi pc l (I x :: st) σ P := by
  intro p e s m args below meth c s₁ B hml hK hR H locs la hP hS hl
  exact lv_tableOut B.exec B.bytes hd (by rw [oi_toInt hx]; exact h) ht (kk p e s m args below meth c s₁ B hml hK hR H locs la hP hS hl)
theorem r_swIn {G : GT} {mi : MI} {pc : Nat} {l : List (Nat × AV)} {st : List AV} {σ : St} {P : Int → St → Prop} {df lo hi x off : Int} {offs : Array Int} {len t : Nat} (hd : decode (cM mi) pc = .ok (.tableswitch df lo hi offs, len)) (hx : rng x) (h1 : ¬ x < lo) (h2 : ¬ hi < x) (ho : offs[(x - lo).toNat]? = some off) (ht : (pc : Int) + off = (t : Int)) (kk : A G mi t l st σ P) : A G mi pc l (I x :: st) σ P := by
  intro p e s m args below meth c s₁ B hml hK hR H locs la hP hS hl
  exact lv_tableIn B.exec B.bytes hd (by rw [oi_toInt hx]; exact h1) (by rw [oi_toInt hx]; exact h2) (by rw [oi_toInt hx]; exact ho) ht (kk p e s m args below meth c s₁ B hml hK hR H locs la hP hS hl)
theorem oj_cmp {x y : Int} (hx : rng x) (hy : rng y) : lg_cmp (Int64.ofInt x) (Int64.ofInt y) = Int32.ofInt (if x < y then -1 else if x = y then 0 else 1) := by
  have h1 : (Int64.ofInt x).toInt = x := Int64.toInt_ofInt_of_le (by have := hx.1; omega) (by have := hx.2; omega)
  have h2 : (Int64.ofInt y).toInt = y := Int64.toInt_ofInt_of_le (by have := hy.1; omega) (by have := hy.2; omega)
  have h3 : (Int64.ofInt x = Int64.ofInt y) = (x = y) := by rw [← Int64.toInt_inj, h1, h2]
  unfold lg_cmp
  simp only [gt_iff_lt, Int64.lt_iff_toInt_lt, h1, h2, h3]
  by_cases a : x < y
  · rw [if_neg (by omega), if_neg (by omega), if_pos a]; rfl
  · by_cases b : x = y
    · rw [if_neg (by omega), if_pos b, if_neg a, if_pos b]; rfl
    · rw [if_pos (by omega), if_neg a, if_neg b]; rfl
theorem r_lcmp {G : GT} {mi : MI} {pc q : Nat} {l : List (Nat × AV)} {st : List AV} {σ : St} {P : Int → St → Prop} {x y : Int} (hd : decode (cM mi) pc = .ok (.lcmp, 1)) (hq : pc + 1 = q) (hx : rng x) (hy : rng y) (kk : A G mi q l (I (if x < y then -1 else if x = y then 0 else 1) :: st) σ P) : A G mi pc l (J y :: J x :: st) σ P := by
  intro p e s m args below meth c s₁ B hml hK hR H locs la hP hS hl
  subst hq
  refine W.lcmp B.exec B.bytes hd ?_
  rw [oj_cmp hx hy]
  exact kk p e s m args below meth c s₁ B hml hK hR H locs la hP hS hl
end
section
/-! fields -/
/-- the link of a field: class ci, field j -/
def FL (own : String) (index ci j : Nat) : Prop := ∃ (C : String) (T : u_T) (N : Nat), classes[ci]? = some (C, T, N) ∧ j < N ∧ (T j).1 = C ∧ Cond.fieldLink own index C (T j).2.1 (T j).2.2.1 ∈ gt
theorem FL.of {own C : String} {T : u_T} {N index ci j : Nat} (hc : classes[ci]? = some (C, T, N)) (hj : j < N) (h1 : (T j).1 = C) (i : Nat) (h : lw_tbl[i]? = some (Cond.fieldLink own index C (T j).2.1 (T j).2.2.1)) : FL own index ci j := ⟨C, T, N, hc, hj, h1, gt_at i h rfl⟩
theorem ent_o {G : GT} {σ : St} {k ci : Nat} (h : lyt k = (0, ci)) : ent G σ k = .inr (ci, (List.range (nfc ci)).map (fv G σ ci k)) := by
  unfold ent
  rw [h]
  rfl
theorem ent_i {G : GT} {σ : St} {k n : Nat} (h : lyt k = (1, n)) : ent G σ k = .inl (G.2.2.2.1, n, .inl (fun i => Int32.ofInt (σ.1 k i))) := by
  unfold ent
  rw [h]
  rfl
theorem ent_z {G : GT} {σ : St} {k n : Nat} (h : lyt k = (2, n)) : ent G σ k = .inl (G.2.2.2.2.1, n, .inl (fun i => Int32.ofInt (σ.1 k i))) := by
  unfold ent
  rw [h]
  rfl
theorem ent_r {G : GT} {σ : St} {k n : Nat} (h : lyt k = (3, n)) : ent G σ k = .inl (G.2.2.2.2.2, n, .inr (.inr (.inr (.inr (fun i => if i < n then some (aG G (rwb k + i)) else none))))) := by
  unfold ent
  rw [h]
  rfl
theorem nfc_of {ci : Nat} {q : vw_C} (h : classes[ci]? = some q) : nfc ci = q.2.2 := by
  unfold nfc
  rw [h]
section
variable {G : GT} {mi : MI} {pc q : Nat} {l : List (Nat × AV)} {st : List AV} {σ : St} {P : Int → St → Prop}
theorem r_get {k ci j index : Nat} {v : AV} (hL : FL (yM mi).cls index ci j) (hk : lyt k = (0, ci)) (hv : fv G σ ci k j = cv G v) (hd : decode (cM mi) pc = .ok (.getfield index, 3)) (hq : pc + 3 = q) (kk : A G mi q l (v :: st) σ P) : A G mi pc l (O k :: st) σ P := by
  intro p e s m args below meth c s₁ B hml hK hR H locs la hP hS hl
  subst hq
  obtain ⟨C, T, N, hc, hj, h1, hw⟩ := hL
  have hts : ∀ w ∈ gt, w.before args s = true := fun w hw => atoms_spec (ws := WS mi) B.pre w (List.mem_cons_of_mem _ hw)
  have hlt := lyt_lt hk (by decide)
  refine va_get (C := C) (T := T) (N := N) (ci := ci) (v := cv G v) B.exec B.bytes hts (classes_ok ci _ hc).1 (findClass_of_methodNamed B.named) hK.1 hP k (by rw [wG_at hlt, ent_o hk]) hc j hj (hts _ hw) (fun x hx => by rw [h1] at hx; exact hx) ?_ hd (kk p e s m args below meth c s₁ B hml hK hR H locs la hP hS hl)
  rw [List.getElem?_map, List.getElem?_range (by rw [nfc_of hc]; exact hj)]
  exact congrArg some hv
theorem r_getI {k ci j index : Nat} {v : Int} (hL : FL (yM mi).cls index ci j) (hd : decode (cM mi) pc = .ok (.getfield index, 3)) (hq : pc + 3 = q) (hk : lyt k = (0, ci)) (hr : rfo ci k j σ = none) (hv : σ.2.1 k j = v) (kk : rng v → A G mi q l (I v :: st) σ P) : A G mi pc l (O k :: st) σ P :=
  r_get hL hk (by unfold fv; rw [hr, ← hv]; rfl) hd hq (fun p e s m args below meth c s₁ B hml hK hR => kk (hv ▸ hR.2 k j) p e s m args below meth c s₁ B hml hK hR)
theorem r_getO {k ci j index : Nat} {v : Nat} (hL : FL (yM mi).cls index ci j) (hd : decode (cM mi) pc = .ok (.getfield index, 3)) (hq : pc + 3 = q) (hk : lyt k = (0, ci)) (hr : rfo ci k j σ = some v) (kk : A G mi q l (O v :: st) σ P) : A G mi pc l (O k :: st) σ P :=
  r_get hL hk (by unfold fv; rw [hr]; rfl) hd hq kk
theorem ent_ne {G : GT} {σ σ' : St} {k : Nat} (h1 : σ'.1 k = σ.1 k) (h2 : σ'.2.1 k = σ.2.1 k) (h3 : ∀ j, rfo (lyt k).2 k j σ' = rfo (lyt k).2 k j σ) : ent G σ' k = ent G σ k := by
  have e : fv G σ' (lyt k).2 k = fv G σ (lyt k).2 k := by
    funext j
    unfold fv
    rw [h3, h2]
  unfold ent
  rw [h1, e]
theorem rfo_eq {c k j : Nat} {σ σ' : St} (h : σ'.2.2 = σ.2.2) : rfo c k j σ' = rfo c k j σ := by
  unfold rfo
  rw [h]
theorem up2_ne {f : Nat → Nat → Int} {k i k' : Nat} {v : Int} (h : k' ≠ k) : up2 f k i v k' = f k' := by
  funext j
  unfold up2
  rw [if_neg (fun z => h z.1)]
theorem sa_ent {G : GT} {σ : St} {k i : Nat} {v : Int} (j : Nat) (h : j ≠ k) : ent G (sa σ k i v) j = ent G σ j := ent_ne (up2_ne h) rfl (fun _ => rfo_eq rfl)
theorem sf_ent {G : GT} {σ : St} {k i : Nat} {v : Int} (j : Nat) (h : j ≠ k) : ent G (sf σ k i v) j = ent G σ j := ent_ne rfl (up2_ne h) (fun _ => rfo_eq rfl)
theorem Rg.sa {σ : St} {k i : Nat} {v : Int} (h : Rg σ) (hv : rng v) : Rg (sa σ k i v) := ⟨fun k' i' => by show rng (up2 _ _ _ _ _ _); unfold up2; split; exact hv; exact h.1 _ _, h.2⟩
theorem Rg.sf {σ : St} {k i : Nat} {v : Int} (h : Rg σ) (hv : rng v) : Rg (sf σ k i v) := ⟨h.1, fun k' i' => by show rng (up2 _ _ _ _ _ _); unfold up2; split; exact hv; exact h.2 _ _⟩
/-- a number into a field: of a boolean 0 or 1 -/
theorem r_put {k ci j index : Nat} {v : Int} (hL : FL (yM mi).cls index ci j) (hd : decode (cM mi) pc = .ok (.putfield index, 3)) (hq : pc + 3 = q) (hk : lyt k = (0, ci)) (hr : ∀ σ', rfo ci k j σ' = none) (ht : tyc ci j = .int ∨ (tyc ci j = .boolean ∧ (v = 0 ∨ v = 1))) (hf : ∀ C T N, classes[ci]? = some (C, T, N) → (T j).2.2.2 = false) (hv : rng v) (kk : ∀ τ, τ = sf σ k j v → A G mi q l st τ P) : A G mi pc l (I v :: O k :: st) σ P := by
  intro p e s m args below meth c s₁ B hml hK hR H locs la hP hS hl
  subst hq
  obtain ⟨C, T, N, hc, hj, h1, hw⟩ := hL
  have hts : ∀ w ∈ gt, w.before args s = true := fun w hw => atoms_spec (ws := WS mi) B.pre w (List.mem_cons_of_mem _ hw)
  have hlt := lyt_lt hk (by decide)
  obtain ⟨o1, o2, o3⟩ := classes_ok ci _ hc
  have hfit : narrow (tyc ci j) (cv G (I v)) = cv G (I v) ∧ fits (tyc ci j) (cv G (I v)) = true := by
    rcases ht with ht | ⟨ht, rfl | rfl⟩ <;> rw [ht] <;> exact ⟨rfl, rfl⟩
  refine va_put (C := C) (T := T) (N := N) (ci := ci) (v := cv G (I v)) B.exec B.bytes hts o1 (tyc ci) o3 o2 (findClass_of_methodNamed B.named) hK.1 hP (wG_D hK.2.1) hS k (by rw [wG_at hlt, ent_o hk]) hc j hj (hts _ hw) (fun x hx => by rw [h1] at hx; exact hx) (hf C T N hc) (o3 j hj) hfit.1 hfit.2 (by rw [List.length_map, List.length_range, nfc_of hc]; exact hj) hd (fun H1 locs1 hP1 hD1 hS1 => ?_)
  refine kk _ rfl p e s m args below meth c s₁ B hml hK (hR.sf hv) H1 locs1 la ?_ hS1 hl
  unfold PG
  rw [← wG_set (G := G) (σ := σ) (k := k) ?_ (fun j' h => sf_ent j' h)]
  · exact hP1
  · rw [ent_o hk]
    congr 2
    apply List.ext_getElem?
    intro i
    rw [List.getElem?_set, List.getElem?_map, List.getElem?_map, List.length_map, List.length_range]
    by_cases hi : i < nfc ci
    · rw [List.getElem?_range hi]
      by_cases e : j = i
      · subst e
        rw [if_pos rfl, if_pos hi]
        show some (fv G _ ci k j) = _
        unfold fv
        rw [hr]
        show some (Value.int (Int32.ofInt (up2 σ.2.1 k j v k j))) = _
        unfold up2
        rw [if_pos ⟨rfl, rfl⟩]
        rfl
      · rw [if_neg e]
        show some (fv G _ ci k i) = some (fv G _ ci k i)
        unfold fv
        rw [rfo_eq (σ' := sf σ k j v) (σ := σ) rfl]
        split
        · rfl
        · show some (Value.int (Int32.ofInt (up2 σ.2.1 k j v k i))) = _
          unfold up2
          rw [if_neg (fun z => e z.2.symm)]
    · rw [List.getElem?_eq_none (by simpa using hi)]
      by_cases e : j = i
      · rw [if_pos e, if_neg (by rw [e]; exact hi)]
        rfl
      · rw [if_neg e]
        rfl
theorem sh_ent {G : GT} {σ : St} {v : Nat} (j : Nat) (h : j ≠ 0) : ent G (sh σ v) j = ent G σ j := by
  by_cases h0 : (lyt j).1 = 0
  · refine ent_ne rfl rfl (fun i => ?_)
    have hc : (lyt j).2 ≠ 0 := by
      intro hz
      apply h
      have hj : j < 168 := by
        rcases Nat.lt_or_ge j 168 with q | q
        · exact q
        · exfalso
          unfold lyt at h0
          rw [if_neg (by omega)] at h0
          repeat' split at h0
          all_goals cases h0
      have hall : ∀ i, i < 168 → (lyt i).1 = 0 → (lyt i).2 = 0 → i = 0 := by decide +kernel
      exact hall j hj h0 hz
    unfold rfo
    split <;> first | rfl | exact absurd ‹_› hc | (simp_all)
  · unfold ent
    split <;> first | rfl | exact absurd ‹_› h0
theorem sp_ent {G : GT} {σ : St} {v : Nat} (j : Nat) (h : j ≠ 0) : ent G (sp σ v) j = ent G σ j := by
  by_cases h0 : (lyt j).1 = 0
  · refine ent_ne rfl rfl (fun i => ?_)
    have hc : (lyt j).2 ≠ 0 := by
      intro hz
      apply h
      have hj : j < 168 := by
        rcases Nat.lt_or_ge j 168 with q | q
        · exact q
        · exfalso
          unfold lyt at h0
          rw [if_neg (by omega)] at h0
          repeat' split at h0
          all_goals cases h0
      have hall : ∀ i, i < 168 → (lyt i).1 = 0 → (lyt i).2 = 0 → i = 0 := by decide +kernel
      exact hall j hj h0 hz
    unfold rfo
    split <;> first | rfl | exact absurd ‹_› hc | (simp_all)
  · unfold ent
    split <;> first | rfl | exact absurd ‹_› h0
/-! arrays -/
theorem lyt_len {k a n : Nat} (h : lyt k = (a, n)) (ha : a ≠ 0) (ha9 : a ≠ 9) : n ≤ 100000 := by
  have hlow : ∀ x ∈ lowt, x.2 ≤ 100000 := by decide +kernel
  unfold lyt at h
  by_cases h1 : k < 168
  · rw [if_pos h1] at h
    have hk : k < lowt.length := h1
    have := hlow (lowt[k]) (List.getElem_mem hk)
    rw [List.getD_eq_getElem?_getD, List.getElem?_eq_getElem hk] at h
    have e : lowt[k] = (a, n) := h
    rw [e] at this
    exact this
  · rw [if_neg h1] at h
    repeat' split at h
    all_goals (cases h; omega)
theorem r_iald {k n : Nat} {i v : Int} (hd : decode (cM mi) pc = .ok (.iaload, 1)) (hq : pc + 1 = q) (hk : lyt k = (1, n)) (hi : 0 ≤ i ∧ i < n) (hv : σ.1 k i.toNat = v) (kk : rng v → A G mi q l (I v :: st) σ P) : A G mi pc l (I i :: O k :: st) σ P := by
  intro p e s m args below meth c s₁ B hml hK hR H locs la hP hS hl
  subst hq
  subst hv
  have hlt := lyt_lt hk (by decide)
  obtain ⟨h1, h2⟩ := oi_in hi (lyt_len hk (by decide) (by decide))
  refine va_iald B.exec B.bytes hK.1 hP k 0 (by rw [wG_at hlt, ent_i hk]) rfl h1 hd ?_
  rw [h2]
  exact kk (hR.1 k _) p e s m args below meth c s₁ B hml hK hR H locs la hP hS hl
theorem r_zald {k n : Nat} {i v : Int} (hd : decode (cM mi) pc = .ok (.baload, 1)) (hq : pc + 1 = q) (hk : lyt k = (2, n)) (hi : 0 ≤ i ∧ i < n) (hv : σ.1 k i.toNat = v) (kk : rng v → A G mi q l (I v :: st) σ P) : A G mi pc l (I i :: O k :: st) σ P := by
  intro p e s m args below meth c s₁ B hml hK hR H locs la hP hS hl
  subst hq
  subst hv
  have hlt := lyt_lt hk (by decide)
  obtain ⟨h1, h2⟩ := oi_in hi (lyt_len hk (by decide) (by decide))
  refine va_zald B.exec B.bytes hK.1 hP k 1 (by rw [wG_at hlt, ent_z hk]) rfl h1 hd ?_
  rw [h2]
  exact kk (hR.1 k _) p e s m args below meth c s₁ B hml hK hR H locs la hP hS hl
theorem r_aald {k n : Nat} {i : Int} {v : Nat} (hd : decode (cM mi) pc = .ok (.aaload, 1)) (hq : pc + 1 = q) (hk : lyt k = (3, n)) (hi : 0 ≤ i ∧ i < n) (hv : rwb k + i.toNat = v) (kk : A G mi q l (O v :: st) σ P) : A G mi pc l (I i :: O k :: st) σ P := by
  intro p e s m args below meth c s₁ B hml hK hR H locs la hP hS hl
  subst hq
  subst hv
  have hlt := lyt_lt hk (by decide)
  obtain ⟨h1, h2⟩ := oi_in hi (lyt_len hk (by decide) (by decide))
  have ha : (wG G σ)[k]? = some (aG G k, .inl (G.2.2.2.2.2, n, .inr (.inr (.inr (.inr (fun i => if i < n then some (aG G (rwb k + i)) else none)))))) := by rw [wG_at hlt, ent_r hk]
  have hin : (Int32.ofInt i).toNatClampNeg < n := Nat.not_le.mp fun z => h1 (Or.inr z)
  refine W.aald (v := va_rf (if (Int32.ofInt i).toNatClampNeg < n then some (aG G (rwb k + (Int32.ofInt i).toNatClampNeg)) else none)) (ty := .array .int) B.exec B.bytes (hP k _ ha) ((hK.1.2 2 _ rfl).1 n (fun j => va_rf (if j < n then some (aG G (rwb k + j)) else none))) rfl (fun z => by cases z) (by show ¬ (_ ∨ (arrV _ _ _).slots.size ≤ _); rw [arrV_size]; exact h1) (by show (arrV _ _ _).slots[_]? = _; rw [arrV_read _ _ hin]) rfl rfl hd ?_
  rw [if_pos hin, h2]
  exact kk p e s m args below meth c s₁ B hml hK hR H locs la hP hS hl
theorem r_iast {k n : Nat} {i v : Int} (hd : decode (cM mi) pc = .ok (.iastore, 1)) (hq : pc + 1 = q) (hk : lyt k = (1, n)) (hi : 0 ≤ i ∧ i < n) (hv : rng v) (kk : ∀ τ, τ = sa σ k i.toNat v → A G mi q l st τ P) : A G mi pc l (I v :: I i :: O k :: st) σ P := by
  intro p e s m args below meth c s₁ B hml hK hR H locs la hP hS hl
  subst hq
  have hlt := lyt_lt hk (by decide)
  obtain ⟨h1, h2⟩ := oi_in hi (lyt_len hk (by decide) (by decide))
  refine va_iast B.exec B.bytes hK.1 hP (wG_D hK.2.1) hS k 0 (by rw [wG_at hlt, ent_i hk]) rfl h1 hd (fun H1 locs1 hP1 hD1 hS1 => ?_)
  refine kk _ rfl p e s m args below meth c s₁ B hml hK (hR.sa hv) H1 locs1 la ?_ hS1 hl
  unfold PG
  rw [← wG_set (G := G) (σ := σ) (k := k) ?_ (fun j' h => sa_ent j' h)]
  · exact hP1
  · rw [ent_i hk, h2]
    refine congrArg (fun f : Nat → Int32 => (Sum.inl (G.2.2.2.1, n, Sum.inl f) : va_E)) (funext fun j => ?_)
    show Int32.ofInt (up2 σ.1 k i.toNat v k j) = upd _ _ _ _
    unfold up2 upd
    by_cases e : j = i.toNat
    · rw [if_pos ⟨rfl, e⟩, if_pos e]
    · rw [if_neg (fun z => e z.2), if_neg e]
theorem r_zast {k n : Nat} {i v : Int} (hd : decode (cM mi) pc = .ok (.bastore, 1)) (hq : pc + 1 = q) (hk : lyt k = (2, n)) (hi : 0 ≤ i ∧ i < n) (hv : v = 0 ∨ v = 1) (kk : ∀ τ, τ = sa σ k i.toNat v → A G mi q l st τ P) : A G mi pc l (I v :: I i :: O k :: st) σ P := by
  intro p e s m args below meth c s₁ B hml hK hR H locs la hP hS hl
  subst hq
  have hlt := lyt_lt hk (by decide)
  obtain ⟨h1, h2⟩ := oi_in hi (lyt_len hk (by decide) (by decide))
  refine va_zast B.exec B.bytes hK.1 hP (wG_D hK.2.1) hS k 1 (by rw [wG_at hlt, ent_z hk]) rfl h1 hd (fun H1 locs1 hP1 hD1 hS1 => ?_)
  refine kk _ rfl p e s m args below meth c s₁ B hml hK (hR.sa (by rcases hv with rfl | rfl <;> exact ⟨by decide, by decide⟩)) H1 locs1 la ?_ hS1 hl
  unfold PG
  rw [← wG_set (G := G) (σ := σ) (k := k) ?_ (fun j' h => sa_ent j' h)]
  · exact hP1
  · rw [ent_z hk, h2]
    refine congrArg (fun f : Nat → Int32 => (Sum.inl (G.2.2.2.2.1, n, Sum.inl f) : va_E)) (funext fun j => ?_)
    show Int32.ofInt (up2 σ.1 k i.toNat v k j) = upd _ _ _ _
    unfold up2 upd
    by_cases e : j = i.toNat
    · rw [if_pos ⟨rfl, e⟩, if_pos e]
      rcases hv with rfl | rfl <;> rfl
    · rw [if_neg (fun z => e z.2), if_neg e]
theorem r_alen {k n : Nat} (hd : decode (cM mi) pc = .ok (.arraylength, 1)) (hq : pc + 1 = q) (hk : lyt k = (1, n)) (kk : A G mi q l (I n :: st) σ P) : A G mi pc l (O k :: st) σ P := by
  intro p e s m args below meth c s₁ B hml hK hR H locs la hP hS hl
  subst hq
  have hlt := lyt_lt hk (by decide)
  exact va_alen B.exec B.bytes hK.1 hP k 0 (by rw [wG_at hlt, ent_i hk]) rfl (by rfl) hd (kk p e s m args below meth c s₁ B hml hK hR H locs la hP hS hl)
/-! returns -/
theorem KG.moved {G : GT} {s t : State} (h : KG G s) (hW : s.WarmedH t.vm) : KG G t := by
  refine ⟨va_K.moved hW.alike h.1, h.2.1, fun w hw => ?_⟩
  have h3 := h.2.2 w hw
  simp only [nestW, List.mem_cons, List.not_mem_nil, or_false] at hw
  rcases hw with rfl | rfl | rfl <;> exact va_Nw.warmM hW h3
theorem r_iret {x : Int} (ht : tM mi = some .int) (hd : decode (cM mi) pc = .ok (.ireturn, 1)) (hx : rng x) (hp : P x σ) : A G mi pc l [I x] σ P := by
  intro p e s m args below meth c s₁ B hml hK hR H locs la hP hS hl
  have hlocks := B.notSynchronized
  refine W.iret B.exec B.bytes (B.returns.trans ht) (fun t h1 h2 => ?_) hS.2.2 hd
  unfold QJ
  rw [ht]
  exact ⟨⟨_, σ, rfl, ⟨x, rfl, hx, hp⟩, by rw [h1]; exact hP, hR, hK.moved h2⟩, hS.F h1⟩
theorem r_zret {x : Int} (ht : tM mi = some .boolean) (hd : decode (cM mi) pc = .ok (.ireturn, 1)) (hx : x = 0 ∨ x = 1) (hp : P x σ) : A G mi pc l [I x] σ P := by
  intro p e s m args below meth c s₁ B hml hK hR H locs la hP hS hl
  have hlocks := B.notSynchronized
  refine W.zret B.exec B.bytes (B.returns.trans ht) (by rcases hx with rfl | rfl <;> rfl) (fun t h1 h2 => ?_) hS.2.2 hd
  unfold QJ
  rw [ht]
  exact ⟨⟨_, σ, rfl, ⟨x, rfl, by rcases hx with rfl | rfl <;> exact ⟨by decide, by decide⟩, hp⟩, by rw [h1]; exact hP, hR, hK.moved h2⟩, hS.F h1⟩
theorem r_vret (ht : tM mi = none) (hd : decode (cM mi) pc = .ok (.return_, 1)) (hp : P 0 σ) : A G mi pc l [] σ P := by
  intro p e s m args below meth c s₁ B hml hK hR H locs la hP hS hl
  have hlocks := B.notSynchronized
  refine W.vret B.exec B.bytes (B.returns.trans ht) (fun t h1 h2 => ?_) hS.2.2 hd
  unfold QJ
  rw [ht]
  exact ⟨⟨σ, rfl, hp, by rw [h1]; exact hP, hR, hK.moved h2⟩, hS.F h1⟩
end
/-! entry -/
def catA (v : AV) : Nat := v.elim (fun _ => 1) (fun z => if z.isLeft then 2 else 1)
theorem cv_catA (G : GT) (v : AV) : (cv G v).category = catA v := by rcases v with x | x | k <;> rfl
theorem cvs_cat (G : GT) (st : List AV) : ((cvs G st).map fun v => v.category).sum = (st.map catA).sum := by
  induction st with
  | nil => rfl
  | cons v st ih => simp only [cvs, List.map_cons, List.sum_cons, cv_catA] at ih ⊢; rw [ih]
def largs : Nat → List AV → List (Nat × AV)
  | _, [] => []
  | i, v :: vs => (i, v) :: largs (i + catA v) vs
theorem largs_cv (G : GT) (vs : List AV) : ∀ i, lv_args i (cvs G vs) = cvl G (largs i vs) := by
  induction vs with
  | nil => intro i; rfl
  | cons v vs ih =>
    intro i
    show (i, cv G v) :: lv_args _ (cvs G vs) = (i, cv G v) :: cvl G (largs (i + catA v) vs)
    rw [ih, cv_catA]
    rcases v with x | x | k <;> rfl
theorem lg_len (G : GT) (vs : List AV) : (lg_sl (cvs G vs)).length = (vs.map catA).sum := by
  induction vs with
  | nil => rfl
  | cons v vs ih =>
    unfold lg_sl at ih ⊢
    simp only [cvs, List.map_cons, List.flatMap_cons, List.length_append, List.sum_cons, cv_catA] at ih ⊢
    rw [ih]
    rcases v with x | x | k <;> rfl
/-- a method is what its body does from its entry on -/
theorem CJ.intro {G : GT} {mi : MI} {av : List AV} {σ : St} {P : Int → St → Prop} (hy : plainName (yM mi).cls = true) (hn : (av.map catA).sum ≤ nM mi) (h : Rg σ → A G mi 0 (largs 0 av) [] σ P) : CJ G mi av σ P := by
  refine Met.ofW (cc := cM mi) (maxL := nM mi) (ret := tM mi) hy rfl ?_
  intro p e s m args below meth c s₁ B hml hv
  obtain ⟨rfl, hP, hR, hK⟩ := hv
  rw [lg_entry_eq]
  refine h hR p e s m _ below meth c s₁ B hml hK hR s.heap [] _ hP va_S.rf ?_
  rw [← largs_cv]
  exact lv_entry _ (by rw [lg_len]; exact hn)
/-- what holds behind a method may be weakened -/
theorem QJ.mono {G : GT} {mi : MI} {P P' : Int → St → Prop} (h : ∀ x u, Rg u → P x u → P' x u) {a : Array Value} {s t : State} {o : Outcome} (hq : QJ G mi P a s o t) : QJ G mi P' a s o t := by
  unfold QJ at hq ⊢
  cases ht : tM mi with
  | none =>
    simp only [ht] at hq ⊢
    obtain ⟨⟨u, h1, h2, h3⟩, h4⟩ := hq
    exact ⟨⟨u, h1, h _ _ h3.2.1 h2, h3⟩, h4⟩
  | some ty =>
    simp only [ht] at hq ⊢
    obtain ⟨⟨r, u, h1, ⟨x, h2, hr, h2'⟩, h3⟩, h4⟩ := hq
    exact ⟨⟨r, u, h1, ⟨x, h2, hr, h _ _ h3.2.1 h2'⟩, h3⟩, h4⟩
end
section
/-! calls -/
def MKB (cal : MI) (n : Nat) : Prop := Cond.code (yM cal) (cM cal) (nM cal) (tM cal) ∈ gt ∧ Cond.initialized (yM cal).cls ∈ gt ∧ ((yM cal).cls ≠ "java/lang/invoke/MethodHandle" ∧ (yM cal).cls ≠ "java/lang/invoke/VarHandle" ∧ (parseMethodDescriptor (yM cal).desc).map (fun d => d.parameters.length) = some n)
def MKV (cal : MI) (ci n : Nat) : Prop := MKB cal n ∧ Cond.instanceMethod (yM cal) ∈ gt ∧ Cond.selects (yM cal).cls (yM cal) (yM cal) ∈ gt ∧ ∃ T N, classes[ci]? = some ((yM cal).cls, T, N)
def MKS (cal : MI) (n : Nat) : Prop := MKB cal n ∧ Cond.static (yM cal) ∈ gt
def RMO (mi cal : MI) : Prop := fM cal + 1 ≤ fM mi ∧ 8 + (nM cal + 11) + oM cal ≤ oM mi
theorem RMO.of {mi cal : MI} (h : (Nat.ble (fM cal + 1) (fM mi) && Nat.ble (8 + (nM cal + 11) + oM cal) (oM mi)) = true) : RMO mi cal := by
  rw [Bool.and_eq_true] at h
  exact ⟨Nat.le_of_ble_eq_true h.1, Nat.le_of_ble_eq_true h.2⟩
theorem gt_ws (cal : MI) (n : Nat) (h : MKB cal n) : GoodIn gt (WS cal) := fun w hw => by
  rcases List.mem_cons.mp hw with rfl | hw
  · exact gt_good _ h.1
  · exact gt_good _ hw
theorem Wd_blind (G : GT) (σ : St) (av : List Value) : FrameBlind (va_Pc av (Wd G σ)) := fun a U g mk h => by
  obtain ⟨h0, hP, hR, hK⟩ := h
  exact ⟨h0, hP, hR, va_K.moved (u := U) (U := U.calling g mk a) (Vm.Alike.refl U.vm) hK.1, hK.2.1, fun w hw => va_Nw.same (by simp only [nestW, List.mem_cons, List.not_mem_nil, or_false] at hw; rcases hw with rfl | rfl | rfl <;> rfl) (u := U) (U := U.calling g mk a) rfl (hK.2.2 w hw)⟩
theorem QJ_i {G : GT} {cal : MI} {P : Int → St → Prop} {ty : FieldType} (ht : tM cal = some ty) : QJ G cal P = va_Qi (fun r u => ∃ x : Int, r = Int32.ofInt x ∧ rng x ∧ P x u) (Wd G) (AG G) := by
  unfold QJ
  rw [ht]
theorem QJ_v {G : GT} {cal : MI} {P : Int → St → Prop} (ht : tM cal = none) : QJ G cal P = va_Qv (fun u => P 0 u) (Wd G) (AG G) := by
  unfold QJ
  rw [ht]
section
variable {G : GT} {mi cal : MI} {pc q : Nat} {l : List (Nat × AV)} {stk av rest : List AV} {σ : St} {P P' : Int → St → Prop} {index k ci n : Nat}
theorem r_callVi {ty : FieldType} (hM : MKV cal ci n) (hlk : Cond.methodLink (yM mi).cls index (yM cal) ∈ gt) (hroom : RMO mi cal) (ht : tM cal = some ty) (hd : decode (cM mi) pc = .ok (.invokevirtual index, 3)) (hq : pc + 3 = q) (hk : lyt k = (0, ci)) (av : List AV) (rest : List AV) (hn : av.length = n) (hstk : stk = av.reverse ++ O k :: rest) (hcat : (rest.map catA).sum ≤ 8) (hC : CJ G cal (O k :: av) σ P') (kk : ∀ r u, rng r → P' r u → A G mi q l (I r :: rest) u P) : A G mi pc l stk σ P := by
  intro p e s m args below meth c s₁ B hml hK hR H locs la hP hS hl
  subst hq
  subst hstk
  have hts : ∀ w ∈ gt, w.before args s = true := fun w hw => atoms_spec (ws := WS mi) B.pre w (List.mem_cons_of_mem _ hw)
  have hown : s.vm.findClass (yM mi).cls = some m.cls := findClass_of_methodNamed B.named
  unfold CJ at hC
  rw [QJ_i ht] at hC
  obtain ⟨hb, hin, hse, T, N, hc⟩ := hM
  have hlt := lyt_lt hk (by decide)
  have hrun := va_runV (As := cvs G av) (rest := cvs G rest) (g := F0 m pc la (cvs G (av.reverse ++ O k :: rest))) (C := (yM cal).cls) (nL := nM mi) (R := (headSpec (WS mi) (RM mi)).room) (e := e) (below := below) (meth := meth) (cells := 0) (slots := 0) (locs := locs) ⟨B.exec, B.bytes, hml, hown, hts⟩ hC ⟨callB_of n hts (gt_ws cal n hb) rfl rfl rfl (hts _ hb.2.1) (hts _ hlk) hb.2.2 hroom, hts _ hin, hts _ hse⟩ ⟨Wd_blind G σ _, va_recv hK.1 hP hc (q0 := k) (by rw [wG_at hlt, ent_o hk]), fun U hU hW => ⟨rfl, by rw [hU]; exact hP, hR, hK.moved hW⟩⟩ rfl (by rw [List.length_map]; exact hn) hl.1 (by show cvs G (av.reverse ++ O k :: rest) = _; simp [cvs, cv, List.map_append, List.map_reverse]) (lv_room (by rw [cvs_cat]; exact hcat)) hd ⟨Nat.le_refl _, Nat.le_refl _⟩
  refine va_calli hrun hS (fun _ _ h => h) (fun _ h => h) (fun r u t H1 locs1 hth hvm hw hB _ _ hS1 => ?_)
  obtain ⟨x, rfl, hx, hp⟩ := hw
  exact kk x u hx hp p e s m args below meth c s₁ B hml hK hB.2.1 H1 locs1 la (by rw [← hth]; exact hB.1) hS1 hl
theorem r_callSi {ty : FieldType} (hM : MKS cal n) (hlk : Cond.methodLink (yM mi).cls index (yM cal) ∈ gt) (hroom : RMO mi cal) (ht : tM cal = some ty) (hd : decode (cM mi) pc = .ok (.invokestatic index, 3)) (hq : pc + 3 = q) (av : List AV) (rest : List AV) (hn : av.length = n) (hstk : stk = av.reverse ++ rest) (hcat : (rest.map catA).sum ≤ 8) (hC : CJ G cal (av) σ P') (kk : ∀ r u, rng r → P' r u → A G mi q l (I r :: rest) u P) : A G mi pc l stk σ P := by
  intro p e s m args below meth c s₁ B hml hK hR H locs la hP hS hl
  subst hq
  subst hstk
  have hts : ∀ w ∈ gt, w.before args s = true := fun w hw => atoms_spec (ws := WS mi) B.pre w (List.mem_cons_of_mem _ hw)
  have hown : s.vm.findClass (yM mi).cls = some m.cls := findClass_of_methodNamed B.named
  unfold CJ at hC
  rw [QJ_i ht] at hC
  obtain ⟨hb, hst⟩ := hM
  have hrun := va_runS (As := cvs G av) (rest := cvs G rest) (g := F0 m pc la (cvs G (av.reverse ++ rest))) (nL := nM mi) (R := (headSpec (WS mi) (RM mi)).room) (e := e) (below := below) (meth := meth) (cells := 0) (slots := 0) (H := H) (locs := locs) ⟨B.exec, B.bytes, hml, hown, hts⟩ hC ⟨callB_of n hts (gt_ws cal n hb) rfl rfl rfl (hts _ hb.2.1) (hts _ hlk) hb.2.2 hroom, hts _ hst⟩ ⟨Wd_blind G σ _, fun U hU hW => ⟨rfl, by rw [hU]; exact hP, hR, hK.moved hW⟩⟩ rfl (by rw [List.length_map]; exact hn) hl.1 (by show cvs G (av.reverse ++ rest) = _; simp [cvs, List.map_append, List.map_reverse]) (lv_room (by rw [cvs_cat]; exact hcat)) hd ⟨Nat.le_refl _, Nat.le_refl _⟩
  refine va_calli hrun hS (fun _ _ h => h) (fun _ h => h) (fun r u t H1 locs1 hth hvm hw hB _ _ hS1 => ?_)
  obtain ⟨x, rfl, hx, hp⟩ := hw
  exact kk x u hx hp p e s m args below meth c s₁ B hml hK hB.2.1 H1 locs1 la (by rw [← hth]; exact hB.1) hS1 hl
theorem r_callVv (hM : MKV cal ci n) (hlk : Cond.methodLink (yM mi).cls index (yM cal) ∈ gt) (hroom : RMO mi cal) (ht : tM cal = none) (hd : decode (cM mi) pc = .ok (.invokevirtual index, 3)) (hq : pc + 3 = q) (hk : lyt k = (0, ci)) (av : List AV) (rest : List AV) (hn : av.length = n) (hstk : stk = av.reverse ++ O k :: rest) (hcat : (rest.map catA).sum ≤ 8) (hC : CJ G cal (O k :: av) σ P') (kk : ∀ u, P' 0 u → A G mi q l rest u P) : A G mi pc l stk σ P := by
  intro p e s m args below meth c s₁ B hml hK hR H locs la hP hS hl
  subst hq
  subst hstk
  have hts : ∀ w ∈ gt, w.before args s = true := fun w hw => atoms_spec (ws := WS mi) B.pre w (List.mem_cons_of_mem _ hw)
  have hown : s.vm.findClass (yM mi).cls = some m.cls := findClass_of_methodNamed B.named
  unfold CJ at hC
  rw [QJ_v ht] at hC
  obtain ⟨hb, hin, hse, T, N, hc⟩ := hM
  have hlt := lyt_lt hk (by decide)
  have hrun := va_runV (As := cvs G av) (rest := cvs G rest) (g := F0 m pc la (cvs G (av.reverse ++ O k :: rest))) (C := (yM cal).cls) (nL := nM mi) (R := (headSpec (WS mi) (RM mi)).room) (e := e) (below := below) (meth := meth) (cells := 0) (slots := 0) (locs := locs) ⟨B.exec, B.bytes, hml, hown, hts⟩ hC ⟨callB_of n hts (gt_ws cal n hb) rfl rfl rfl (hts _ hb.2.1) (hts _ hlk) hb.2.2 hroom, hts _ hin, hts _ hse⟩ ⟨Wd_blind G σ _, va_recv hK.1 hP hc (q0 := k) (by rw [wG_at hlt, ent_o hk]), fun U hU hW => ⟨rfl, by rw [hU]; exact hP, hR, hK.moved hW⟩⟩ rfl (by rw [List.length_map]; exact hn) hl.1 (by show cvs G (av.reverse ++ O k :: rest) = _; simp [cvs, cv, List.map_append, List.map_reverse]) (lv_room (by rw [cvs_cat]; exact hcat)) hd ⟨Nat.le_refl _, Nat.le_refl _⟩
  refine va_callv hrun hS (fun _ _ h => h) (fun _ h => h) (fun u t H1 locs1 hth hvm hw hB _ _ hS1 => ?_)
  exact kk u hw p e s m args below meth c s₁ B hml hK hB.2.1 H1 locs1 la (by rw [← hth]; exact hB.1) hS1 hl
theorem r_callSv (hM : MKS cal n) (hlk : Cond.methodLink (yM mi).cls index (yM cal) ∈ gt) (hroom : RMO mi cal) (ht : tM cal = none) (hd : decode (cM mi) pc = .ok (.invokestatic index, 3)) (hq : pc + 3 = q) (av : List AV) (rest : List AV) (hn : av.length = n) (hstk : stk = av.reverse ++ rest) (hcat : (rest.map catA).sum ≤ 8) (hC : CJ G cal (av) σ P') (kk : ∀ u, P' 0 u → A G mi q l rest u P) : A G mi pc l stk σ P := by
  intro p e s m args below meth c s₁ B hml hK hR H locs la hP hS hl
  subst hq
  subst hstk
  have hts : ∀ w ∈ gt, w.before args s = true := fun w hw => atoms_spec (ws := WS mi) B.pre w (List.mem_cons_of_mem _ hw)
  have hown : s.vm.findClass (yM mi).cls = some m.cls := findClass_of_methodNamed B.named
  unfold CJ at hC
  rw [QJ_v ht] at hC
  obtain ⟨hb, hst⟩ := hM
  have hrun := va_runS (As := cvs G av) (rest := cvs G rest) (g := F0 m pc la (cvs G (av.reverse ++ rest))) (nL := nM mi) (R := (headSpec (WS mi) (RM mi)).room) (e := e) (below := below) (meth := meth) (cells := 0) (slots := 0) (H := H) (locs := locs) ⟨B.exec, B.bytes, hml, hown, hts⟩ hC ⟨callB_of n hts (gt_ws cal n hb) rfl rfl rfl (hts _ hb.2.1) (hts _ hlk) hb.2.2 hroom, hts _ hst⟩ ⟨Wd_blind G σ _, fun U hU hW => ⟨rfl, by rw [hU]; exact hP, hR, hK.moved hW⟩⟩ rfl (by rw [List.length_map]; exact hn) hl.1 (by show cvs G (av.reverse ++ rest) = _; simp [cvs, List.map_append, List.map_reverse]) (lv_room (by rw [cvs_cat]; exact hcat)) hd ⟨Nat.le_refl _, Nat.le_refl _⟩
  refine va_callv hrun hS (fun _ _ h => h) (fun _ h => h) (fun u t H1 locs1 hth hvm hw hB _ _ hS1 => ?_)
  exact kk u hw p e s m args below meth c s₁ B hml hK hB.2.1 H1 locs1 la (by rw [← hth]; exact hB.1) hS1 hl
theorem r_callNi {host : String} {ty : FieldType} (hM : MKS cal n) (hlk : Cond.methodLinkNest (yM mi).cls index (yM cal) host ∈ nestW) (hroom : RMO mi cal) (ht : tM cal = some ty) (hd : decode (cM mi) pc = .ok (.invokestatic index, 3)) (hq : pc + 3 = q) (av : List AV) (rest : List AV) (hn : av.length = n) (hstk : stk = av.reverse ++ rest) (hcat : (rest.map catA).sum ≤ 8) (hC : CJ G cal (av) σ P') (kk : ∀ r u, rng r → P' r u → A G mi q l (I r :: rest) u P) : A G mi pc l stk σ P := by
  intro p e s m args below meth c s₁ B hml hK hR H locs la hP hS hl
  subst hq
  subst hstk
  have hts : ∀ w ∈ gt, w.before args s = true := fun w hw => atoms_spec (ws := WS mi) B.pre w (List.mem_cons_of_mem _ hw)
  have hown : s.vm.findClass (yM mi).cls = some m.cls := findClass_of_methodNamed B.named
  unfold CJ at hC
  rw [QJ_i ht] at hC
  obtain ⟨hb, hst⟩ := hM
  have hrun := va_runSN (As := cvs G av) (rest := cvs G rest) (g := F0 m pc la (cvs G (av.reverse ++ rest))) (nL := nM mi) (R := (headSpec (WS mi) (RM mi)).room) (e := e) (below := below) (meth := meth) (cells := 0) (slots := 0) (H := H) (locs := locs) ⟨B.exec, B.bytes, hml, hown, hts⟩ hC ⟨va_cnB n hts (gt_ws cal n hb) rfl rfl rfl (hK.2.2 _ hlk) (hts _ hb.2.1) hb.2.2 hroom, hts _ hst, trivial⟩ ⟨Wd_blind G σ _, fun U hU hW => ⟨rfl, by rw [hU]; exact hP, hR, hK.moved hW⟩⟩ rfl (by rw [List.length_map]; exact hn) hl.1 (by show cvs G (av.reverse ++ rest) = _; simp [cvs, List.map_append, List.map_reverse]) (lv_room (by rw [cvs_cat]; exact hcat)) hd ⟨Nat.le_refl _, Nat.le_refl _⟩
  refine va_calli hrun hS (fun _ _ h => h) (fun _ h => h) (fun r u t H1 locs1 hth hvm hw hB _ _ hS1 => ?_)
  obtain ⟨x, rfl, hx, hp⟩ := hw
  exact kk x u hx hp p e s m args below meth c s₁ B hml hK hB.2.1 H1 locs1 la (by rw [← hth]; exact hB.1) hS1 hl
end
section
variable {G : GT} {mi : MI} {pc q : Nat} {l : List (Nat × AV)} {st : List AV} {σ : St} {P : Int → St → Prop} {index : Nat} {x y : Int}
theorem mmin_code : Cond.code Lib.Math.min.name Lib.Math.min.code 2 (some .int) ∈ gt := gt_at 685 (by decide +kernel) rfl
theorem mmax_code : Cond.code Lib.Math.max.name Lib.Math.max.code 2 (some .int) ∈ gt := gt_at 853 (by decide +kernel) rfl
theorem r_mmax (hlk : Cond.methodLink (yM mi).cls index Lib.Math.max.name ∈ gt) (hf : 1 ≤ fM mi) (hd : decode (cM mi) pc = .ok (.invokestatic index, 3)) (hq : pc + 3 = q) (hcat : (st.map catA).sum + 13 ≤ oM mi) (hx : rng x) (hy : rng y) (kk : A G mi q l (I (max x y) :: st) σ P) : A G mi pc l (I y :: I x :: st) σ P := by
  intro p e s m args below meth c s₁ B hml hK hR H locs la hP hS hl
  subst hq
  have hts : ∀ w ∈ gt, w.before args s = true := fun w hw => atoms_spec (ws := WS mi) B.pre w (List.mem_cons_of_mem _ hw)
  refine va_mmax B.exec B.bytes (hml.trans hl.1.symm) (findClass_of_methodNamed B.named) (hts _ hlk) (hts _ (gt_at 852 (by decide +kernel) rfl)) (hts _ (gt_at 83 (by decide +kernel) rfl)) (hts _ mmax_code) hf (by rw [cvs_cat]; exact hcat) (Nat.le_refl _) (Nat.le_refl _) hd ?_
  have e1 : (if Int32.ofInt x < Int32.ofInt y then Int32.ofInt y else Int32.ofInt x) = Int32.ofInt (max x y) := by
    by_cases h : x < y
    · rw [if_pos ((oi_lt hx hy).mpr h), show max x y = y by omega]
    · rw [if_neg (fun z => h ((oi_lt hx hy).mp z)), show max x y = x by omega]
  rw [e1]
  exact kk p e s m args below meth c s₁ B hml hK hR H locs la hP hS hl
theorem r_mmin (hlk : Cond.methodLink (yM mi).cls index Lib.Math.min.name ∈ gt) (hf : 1 ≤ fM mi) (hd : decode (cM mi) pc = .ok (.invokestatic index, 3)) (hq : pc + 3 = q) (hcat : (st.map catA).sum + 13 ≤ oM mi) (hx : rng x) (hy : rng y) (kk : A G mi q l (I (min x y) :: st) σ P) : A G mi pc l (I y :: I x :: st) σ P := by
  intro p e s m args below meth c s₁ B hml hK hR H locs la hP hS hl
  subst hq
  have hts : ∀ w ∈ gt, w.before args s = true := fun w hw => atoms_spec (ws := WS mi) B.pre w (List.mem_cons_of_mem _ hw)
  refine va_mmin B.exec B.bytes (hml.trans hl.1.symm) (findClass_of_methodNamed B.named) (hts _ hlk) (hts _ (gt_at 684 (by decide +kernel) rfl)) (hts _ (gt_at 83 (by decide +kernel) rfl)) (hts _ mmin_code) hf (by rw [cvs_cat]; exact hcat) (Nat.le_refl _) (Nat.le_refl _) hd ?_
  have e1 : (if Int32.ofInt y < Int32.ofInt x then Int32.ofInt y else Int32.ofInt x) = Int32.ofInt (min x y) := by
    by_cases h : y < x
    · rw [if_pos ((oi_lt hy hx).mpr h), show min x y = y by omega]
    · rw [if_neg (fun z => h ((oi_lt hy hx).mp z)), show min x y = x by omega]
  rw [e1]
  exact kk p e s m args below meth c s₁ B hml hK hR H locs la hP hS hl
theorem r_putsh {v : Nat} (hL : FL (yM mi).cls index 0 7) (hd : decode (cM mi) pc = .ok (.putfield index, 3)) (hq : pc + 3 = q) (kk : ∀ τ, τ = sh σ v → A G mi q l st τ P) : A G mi pc l (O v :: O 0 :: st) σ P := by
  intro p e s m args below meth c s₁ B hml hK hR H locs la hP hS hl
  subst hq
  obtain ⟨C, T, N, hc, hj, h1, hw⟩ := hL
  have hts : ∀ w ∈ gt, w.before args s = true := fun w hw => atoms_spec (ws := WS mi) B.pre w (List.mem_cons_of_mem _ hw)
  have hk : lyt 0 = (0, 0) := by decide +kernel
  have hlt := lyt_lt hk (by decide)
  obtain ⟨o1, o2, o3⟩ := classes_ok 0 _ hc
  have hf : (T 7).2.2.2 = false := by cases hc; rfl
  refine va_put (C := C) (T := T) (N := N) (ci := 0) (v := cv G (O v)) B.exec B.bytes hts o1 (tyc 0) o3 o2 (findClass_of_methodNamed B.named) hK.1 hP (wG_D hK.2.1) hS 0 (by rw [wG_at hlt, ent_o hk]) hc 7 hj (hts _ hw) (fun x hx => by rw [h1] at hx; exact hx) hf (o3 7 hj) rfl rfl (by rw [List.length_map, List.length_range, nfc_of hc]; exact hj) hd (fun H1 locs1 hP1 hD1 hS1 => ?_)
  refine kk _ rfl p e s m args below meth c s₁ B hml hK hR H1 locs1 la ?_ hS1 hl
  unfold PG
  rw [← wG_set (G := G) (σ := σ) (k := 0) ?_ (fun j' h => sh_ent j' h)]
  · exact hP1
  · rw [ent_o hk]
    congr 2
theorem r_putsp {v : Nat} (hL : FL (yM mi).cls index 0 8) (hd : decode (cM mi) pc = .ok (.putfield index, 3)) (hq : pc + 3 = q) (kk : ∀ τ, τ = sp σ v → A G mi q l st τ P) : A G mi pc l (O v :: O 0 :: st) σ P := by
  intro p e s m args below meth c s₁ B hml hK hR H locs la hP hS hl
  subst hq
  obtain ⟨C, T, N, hc, hj, h1, hw⟩ := hL
  have hts : ∀ w ∈ gt, w.before args s = true := fun w hw => atoms_spec (ws := WS mi) B.pre w (List.mem_cons_of_mem _ hw)
  have hk : lyt 0 = (0, 0) := by decide +kernel
  have hlt := lyt_lt hk (by decide)
  obtain ⟨o1, o2, o3⟩ := classes_ok 0 _ hc
  have hf : (T 8).2.2.2 = false := by cases hc; rfl
  refine va_put (C := C) (T := T) (N := N) (ci := 0) (v := cv G (O v)) B.exec B.bytes hts o1 (tyc 0) o3 o2 (findClass_of_methodNamed B.named) hK.1 hP (wG_D hK.2.1) hS 0 (by rw [wG_at hlt, ent_o hk]) hc 8 hj (hts _ hw) (fun x hx => by rw [h1] at hx; exact hx) hf (o3 8 hj) rfl rfl (by rw [List.length_map, List.length_range, nfc_of hc]; exact hj) hd (fun H1 locs1 hP1 hD1 hS1 => ?_)
  refine kk _ rfl p e s m args below meth c s₁ B hml hK hR H1 locs1 la ?_ hS1 hl
  unfold PG
  rw [← wG_set (G := G) (σ := σ) (k := 0) ?_ (fun j' h => sp_ent j' h)]
  · exact hP1
  · rw [ent_o hk]
    congr 2
end
/-- behind a method more may be said, less asked -/
theorem CJ.mono {G : GT} {mi : MI} {av : List AV} {σ : St} {P P' : Int → St → Prop} (hC : CJ G mi av σ P) (h : ∀ x u, Rg u → P x u → P' x u) : CJ G mi av σ P' := by
  intro p e ha hc hk s m args below hf hpre hP hT
  obtain ⟨t, o, h1, h2, h3, h4, h5⟩ := hC p e ha hc hk s m args below hf hpre hP hT
  exact ⟨t, o, h1, h2, h3, QJ.mono h h4, h5⟩
end
section
def DT (c : ByteArray) (tb : List (Nat × Instr × Nat)) : Prop := ∀ q ∈ tb, decode c q.1 = .ok (q.2.1, q.2.2)
theorem dc {c : ByteArray} {tb : List (Nat × Instr × Nat)} (h : DT c tb) (i : Nat) {pc n : Nat} {x : Instr} (hi : tb[i]? = some (pc, x, n)) : decode c pc = .ok (x, n) := h (pc, x, n) (List.mem_of_getElem? hi)
theorem up2_at {f : Nat → Nat → Int} {k i : Nat} {v : Int} : up2 f k i v k i = v := if_pos ⟨rfl, rfl⟩
theorem b01_or {c : Prop} [Decidable c] : (if c then (1 : Int) else 0) = 0 ∨ (if c then (1 : Int) else 0) = 1 := by split <;> simp
theorem rng_cmp {x y : Int} : rng (if x < y then -1 else if x = y then 0 else 1) := by split <;> (try split) <;> exact ⟨by decide, by decide⟩
theorem r_ifc_lt {G : GT} {mi : MI} {pc q t : Nat} {l : List (Nat × AV)} {st : List AV} {σ : St} {P : Int → St → Prop} {off x y : Int} (hd : decode (cM mi) pc = .ok (.ifCond .lt off, 3)) (hq : pc + 3 = q) (ht : (pc : Int) + off = (t : Int)) (kt : x < y → A G mi t l st σ P) (kf : y ≤ x → A G mi q l st σ P) : A G mi pc l (I (if x < y then -1 else if x = y then 0 else 1) :: st) σ P :=
  r_if_lt hd hq ht rng_cmp (fun h => kt (by split at h <;> (try split at h) <;> omega)) (fun h => kf (by split at h <;> (try split at h) <;> omega))
theorem r_ifc_gt {G : GT} {mi : MI} {pc q t : Nat} {l : List (Nat × AV)} {st : List AV} {σ : St} {P : Int → St → Prop} {off x y : Int} (hd : decode (cM mi) pc = .ok (.ifCond .gt off, 3)) (hq : pc + 3 = q) (ht : (pc : Int) + off = (t : Int)) (kt : y < x → A G mi t l st σ P) (kf : x ≤ y → A G mi q l st σ P) : A G mi pc l (I (if x < y then -1 else if x = y then 0 else 1) :: st) σ P :=
  r_if_gt hd hq ht rng_cmp (fun h => kt (by split at h <;> (try split at h) <;> omega)) (fun h => kf (by split at h <;> (try split at h) <;> omega))
def isL (k : Nat) : Prop := k = 9 ∨ k = 28
def isB (k : Nat) : Prop := k = 10 ∨ k = 16 ∨ k = 29 ∨ k = 35
def isM (k : Nat) : Prop := k = 15 ∨ k = 34
theorem ly0 : lyt 0 = (0, 0) := by decide +kernel
theorem ly1 : lyt 1 = (0, 1) := by decide +kernel
theorem ly2 : lyt 2 = (0, 2) := by decide +kernel
theorem ly3 : lyt 3 = (0, 3) := by decide +kernel
theorem ly4 : lyt 4 = (0, 4) := by decide +kernel
theorem ly5 : lyt 5 = (0, 5) := by decide +kernel
theorem ly6 : lyt 6 = (0, 6) := by decide +kernel
theorem ly7 : lyt 7 = (0, 7) := by decide +kernel
theorem ly8 : lyt 8 = (0, 8) := by decide +kernel
theorem ly9 : lyt 9 = (0, 9) := by decide +kernel
theorem ly10 : lyt 10 = (0, 10) := by decide +kernel
theorem ly11 : lyt 11 = (1, 80) := by decide +kernel
theorem ly12 : lyt 12 = (1, 80) := by decide +kernel
theorem ly13 : lyt 13 = (1, 80) := by decide +kernel
theorem ly14 : lyt 14 = (1, 80) := by decide +kernel
theorem ly15 : lyt 15 = (0, 11) := by decide +kernel
theorem ly16 : lyt 16 = (0, 10) := by decide +kernel
theorem ly17 : lyt 17 = (1, 80) := by decide +kernel
theorem ly18 : lyt 18 = (1, 80) := by decide +kernel
theorem ly19 : lyt 19 = (1, 80) := by decide +kernel
theorem ly20 : lyt 20 = (1, 80) := by decide +kernel
theorem ly21 : lyt 21 = (1, 80) := by decide +kernel
theorem ly22 : lyt 22 = (1, 80) := by decide +kernel
theorem ly23 : lyt 23 = (1, 80) := by decide +kernel
theorem ly24 : lyt 24 = (1, 80) := by decide +kernel
theorem ly25 : lyt 25 = (1, 80) := by decide +kernel
theorem ly26 : lyt 26 = (1, 80) := by decide +kernel
theorem ly27 : lyt 27 = (1, 80) := by decide +kernel
theorem ly28 : lyt 28 = (0, 9) := by decide +kernel
theorem ly29 : lyt 29 = (0, 10) := by decide +kernel
theorem ly30 : lyt 30 = (1, 80) := by decide +kernel
theorem ly31 : lyt 31 = (1, 80) := by decide +kernel
theorem ly32 : lyt 32 = (1, 80) := by decide +kernel
theorem ly33 : lyt 33 = (1, 80) := by decide +kernel
theorem ly34 : lyt 34 = (0, 11) := by decide +kernel
theorem ly35 : lyt 35 = (0, 10) := by decide +kernel
theorem ly36 : lyt 36 = (1, 80) := by decide +kernel
theorem ly37 : lyt 37 = (1, 80) := by decide +kernel
theorem ly38 : lyt 38 = (1, 80) := by decide +kernel
theorem ly39 : lyt 39 = (1, 80) := by decide +kernel
theorem ly40 : lyt 40 = (1, 80) := by decide +kernel
theorem ly41 : lyt 41 = (1, 80) := by decide +kernel
theorem ly42 : lyt 42 = (1, 80) := by decide +kernel
theorem ly43 : lyt 43 = (1, 80) := by decide +kernel
theorem ly44 : lyt 44 = (1, 80) := by decide +kernel
theorem ly45 : lyt 45 = (1, 80) := by decide +kernel
theorem ly46 : lyt 46 = (1, 80) := by decide +kernel
theorem ly47 : lyt 47 = (1, 60) := by decide +kernel
theorem ly48 : lyt 48 = (1, 60) := by decide +kernel
theorem ly49 : lyt 49 = (1, 60) := by decide +kernel
theorem ly50 : lyt 50 = (2, 60) := by decide +kernel
theorem ly51 : lyt 51 = (1, 8) := by decide +kernel
theorem ly52 : lyt 52 = (3, 8) := by decide +kernel
theorem ly53 : lyt 53 = (2, 8) := by decide +kernel
theorem ly54 : lyt 54 = (3, 200) := by decide +kernel
theorem ly55 : lyt 55 = (1, 240) := by decide +kernel
theorem ly56 : lyt 56 = (1, 720) := by decide +kernel
theorem ly57 : lyt 57 = (1, 80) := by decide +kernel
theorem ly58 : lyt 58 = (1, 40) := by decide +kernel
theorem ly59 : lyt 59 = (1, 40) := by decide +kernel
theorem ly60 : lyt 60 = (1, 260) := by decide +kernel
theorem ly61 : lyt 61 = (1, 80) := by decide +kernel
theorem ly62 : lyt 62 = (1, 80) := by decide +kernel
theorem ly63 : lyt 63 = (1, 80) := by decide +kernel
theorem ly64 : lyt 64 = (1, 80) := by decide +kernel
theorem ly65 : lyt 65 = (2, 80) := by decide +kernel
theorem ly66 : lyt 66 = (1, 80) := by decide +kernel
theorem ly67 : lyt 67 = (1, 80) := by decide +kernel
theorem ly68 : lyt 68 = (1, 80) := by decide +kernel
theorem ly69 : lyt 69 = (2, 80) := by decide +kernel
theorem ly70 : lyt 70 = (2, 80) := by decide +kernel
theorem ly71 : lyt 71 = (1, 80) := by decide +kernel
theorem ly72 : lyt 72 = (1, 80) := by decide +kernel
theorem ly73 : lyt 73 = (1, 240) := by decide +kernel
theorem ly74 : lyt 74 = (3, 243) := by decide +kernel
theorem ly75 : lyt 75 = (1, 243) := by decide +kernel
theorem ly76 : lyt 76 = (1, 243) := by decide +kernel
theorem ly77 : lyt 77 = (1, 80) := by decide +kernel
theorem ly78 : lyt 78 = (1, 80) := by decide +kernel
theorem ly79 : lyt 79 = (1, 80) := by decide +kernel
theorem ly80 : lyt 80 = (1, 80) := by decide +kernel
theorem ly81 : lyt 81 = (1, 80) := by decide +kernel
theorem ly82 : lyt 82 = (1, 81) := by decide +kernel
theorem ly83 : lyt 83 = (1, 80) := by decide +kernel
theorem ly84 : lyt 84 = (1, 80) := by decide +kernel
theorem ly85 : lyt 85 = (1, 80) := by decide +kernel
theorem ly86 : lyt 86 = (1, 80) := by decide +kernel
theorem ly87 : lyt 87 = (1, 81) := by decide +kernel
theorem ly88 : lyt 88 = (1, 80) := by decide +kernel
theorem ly89 : lyt 89 = (1, 60) := by decide +kernel
theorem ly90 : lyt 90 = (1, 60) := by decide +kernel
theorem ly91 : lyt 91 = (1, 60) := by decide +kernel
theorem ly92 : lyt 92 = (1, 60) := by decide +kernel
theorem ly93 : lyt 93 = (2, 60) := by decide +kernel
theorem ly94 : lyt 94 = (2, 60) := by decide +kernel
theorem ly95 : lyt 95 = (1, 200) := by decide +kernel
theorem ly96 : lyt 96 = (1, 200) := by decide +kernel
theorem ly97 : lyt 97 = (1, 200) := by decide +kernel
theorem ly98 : lyt 98 = (1, 200) := by decide +kernel
theorem ly99 : lyt 99 = (1, 200) := by decide +kernel
theorem ly100 : lyt 100 = (1, 200) := by decide +kernel
theorem ly101 : lyt 101 = (1, 200) := by decide +kernel
theorem ly102 : lyt 102 = (1, 200) := by decide +kernel
theorem ly103 : lyt 103 = (1, 200) := by decide +kernel
theorem ly104 : lyt 104 = (1, 720) := by decide +kernel
theorem ly105 : lyt 105 = (1, 240) := by decide +kernel
theorem ly106 : lyt 106 = (1, 80) := by decide +kernel
theorem ly107 : lyt 107 = (2, 40) := by decide +kernel
theorem ly108 : lyt 108 = (1, 40) := by decide +kernel
theorem ly109 : lyt 109 = (1, 40) := by decide +kernel
theorem ly110 : lyt 110 = (1, 80) := by decide +kernel
theorem ly111 : lyt 111 = (1, 80) := by decide +kernel
theorem ly112 : lyt 112 = (1, 80) := by decide +kernel
theorem ly113 : lyt 113 = (1, 80) := by decide +kernel
theorem ly114 : lyt 114 = (1, 80) := by decide +kernel
theorem ly115 : lyt 115 = (1, 80) := by decide +kernel
theorem ly116 : lyt 116 = (2, 80) := by decide +kernel
theorem ly117 : lyt 117 = (1, 80) := by decide +kernel
theorem ly118 : lyt 118 = (1, 80) := by decide +kernel
theorem ly119 : lyt 119 = (1, 80) := by decide +kernel
theorem ly120 : lyt 120 = (1, 80) := by decide +kernel
theorem ly121 : lyt 121 = (2, 80) := by decide +kernel
theorem ly122 : lyt 122 = (2, 80) := by decide +kernel
theorem ly123 : lyt 123 = (1, 80) := by decide +kernel
theorem ly124 : lyt 124 = (1, 97524) := by decide +kernel
theorem ly125 : lyt 125 = (1, 80) := by decide +kernel
theorem ly126 : lyt 126 = (1, 80) := by decide +kernel
theorem ly127 : lyt 127 = (1, 80) := by decide +kernel
theorem ly128 : lyt 128 = (1, 80) := by decide +kernel
theorem ly129 : lyt 129 = (1, 80) := by decide +kernel
theorem ly130 : lyt 130 = (1, 80) := by decide +kernel
theorem ly131 : lyt 131 = (1, 80) := by decide +kernel
theorem ly132 : lyt 132 = (1, 80) := by decide +kernel
theorem ly133 : lyt 133 = (1, 80) := by decide +kernel
theorem ly134 : lyt 134 = (1, 80) := by decide +kernel
theorem ly135 : lyt 135 = (1, 80) := by decide +kernel
theorem ly136 : lyt 136 = (1, 80) := by decide +kernel
theorem ly137 : lyt 137 = (1, 80) := by decide +kernel
theorem ly138 : lyt 138 = (1, 80) := by decide +kernel
theorem ly139 : lyt 139 = (1, 80) := by decide +kernel
theorem ly140 : lyt 140 = (1, 80) := by decide +kernel
theorem ly141 : lyt 141 = (1, 80) := by decide +kernel
theorem ly142 : lyt 142 = (1, 80) := by decide +kernel
theorem ly143 : lyt 143 = (1, 80) := by decide +kernel
theorem ly144 : lyt 144 = (1, 80) := by decide +kernel
theorem ly145 : lyt 145 = (1, 80) := by decide +kernel
theorem ly146 : lyt 146 = (1, 80) := by decide +kernel
theorem ly147 : lyt 147 = (1, 80) := by decide +kernel
theorem ly148 : lyt 148 = (1, 80) := by decide +kernel
theorem ly149 : lyt 149 = (1, 80) := by decide +kernel
theorem ly150 : lyt 150 = (1, 80) := by decide +kernel
theorem ly151 : lyt 151 = (1, 80) := by decide +kernel
theorem ly152 : lyt 152 = (1, 80) := by decide +kernel
theorem ly153 : lyt 153 = (1, 260) := by decide +kernel
theorem ly154 : lyt 154 = (1, 6400) := by decide +kernel
theorem ly155 : lyt 155 = (1, 81) := by decide +kernel
theorem ly156 : lyt 156 = (1, 81) := by decide +kernel
theorem ly157 : lyt 157 = (1, 80) := by decide +kernel
theorem ly158 : lyt 158 = (1, 80) := by decide +kernel
theorem ly159 : lyt 159 = (1, 80) := by decide +kernel
theorem ly160 : lyt 160 = (1, 80) := by decide +kernel
theorem ly161 : lyt 161 = (1, 80) := by decide +kernel
theorem ly162 : lyt 162 = (2, 80) := by decide +kernel
theorem ly163 : lyt 163 = (1, 80) := by decide +kernel
theorem ly164 : lyt 164 = (1, 80) := by decide +kernel
theorem ly165 : lyt 165 = (1, 80) := by decide +kernel
theorem ly166 : lyt 166 = (1, 81) := by decide +kernel
theorem ly167 : lyt 167 = (1, 81) := by decide +kernel
theorem lyL_0 {k : Nat} (h : isL k) : lyt (k) = (0, 9) := by rcases h with rfl | rfl <;> decide +kernel
theorem lyL_1 {k : Nat} (h : isL k) : lyt (k + 1) = (0, 10) := by rcases h with rfl | rfl <;> decide +kernel
theorem lyL_2 {k : Nat} (h : isL k) : lyt (k + 2) = (1, 80) := by rcases h with rfl | rfl <;> decide +kernel
theorem lyL_3 {k : Nat} (h : isL k) : lyt (k + 3) = (1, 80) := by rcases h with rfl | rfl <;> decide +kernel
theorem lyL_4 {k : Nat} (h : isL k) : lyt (k + 4) = (1, 80) := by rcases h with rfl | rfl <;> decide +kernel
theorem lyL_5 {k : Nat} (h : isL k) : lyt (k + 5) = (1, 80) := by rcases h with rfl | rfl <;> decide +kernel
theorem lyL_6 {k : Nat} (h : isL k) : lyt (k + 6) = (0, 11) := by rcases h with rfl | rfl <;> decide +kernel
theorem lyL_7 {k : Nat} (h : isL k) : lyt (k + 7) = (0, 10) := by rcases h with rfl | rfl <;> decide +kernel
theorem lyL_8 {k : Nat} (h : isL k) : lyt (k + 8) = (1, 80) := by rcases h with rfl | rfl <;> decide +kernel
theorem lyL_9 {k : Nat} (h : isL k) : lyt (k + 9) = (1, 80) := by rcases h with rfl | rfl <;> decide +kernel
theorem lyL_10 {k : Nat} (h : isL k) : lyt (k + 10) = (1, 80) := by rcases h with rfl | rfl <;> decide +kernel
theorem lyL_11 {k : Nat} (h : isL k) : lyt (k + 11) = (1, 80) := by rcases h with rfl | rfl <;> decide +kernel
theorem lyL_12 {k : Nat} (h : isL k) : lyt (k + 12) = (1, 80) := by rcases h with rfl | rfl <;> decide +kernel
theorem lyL_13 {k : Nat} (h : isL k) : lyt (k + 13) = (1, 80) := by rcases h with rfl | rfl <;> decide +kernel
theorem lyL_14 {k : Nat} (h : isL k) : lyt (k + 14) = (1, 80) := by rcases h with rfl | rfl <;> decide +kernel
theorem lyL_15 {k : Nat} (h : isL k) : lyt (k + 15) = (1, 80) := by rcases h with rfl | rfl <;> decide +kernel
theorem lyL_16 {k : Nat} (h : isL k) : lyt (k + 16) = (1, 80) := by rcases h with rfl | rfl <;> decide +kernel
theorem lyL_17 {k : Nat} (h : isL k) : lyt (k + 17) = (1, 80) := by rcases h with rfl | rfl <;> decide +kernel
theorem lyL_18 {k : Nat} (h : isL k) : lyt (k + 18) = (1, 80) := by rcases h with rfl | rfl <;> decide +kernel
theorem lyr_168 {i : Int} (h : 0 ≤ i ∧ i < 8) : lyt (168 + i.toNat) = (1, 3) := by
  unfold lyt
  rw [if_neg (by omega), if_pos (by omega)]
theorem lyr_176 {i : Int} (h : 0 ≤ i ∧ i < 200) : lyt (176 + i.toNat) = (1, 9) := by
  unfold lyt
  rw [if_neg (by omega), if_neg (by omega), if_pos (by omega)]
theorem lyr_376 {i : Int} (h : 0 ≤ i ∧ i < 243) : lyt (376 + i.toNat) = (1, 301) := by
  unfold lyt
  rw [if_neg (by omega), if_neg (by omega), if_neg (by omega), if_pos (by omega)]
end
section
theorem fl_SC_15 : FL R_SC 15 1 1 := FL.of rfl (by decide) rfl 103 (by decide +kernel)
theorem fl_SC_18 : FL R_SC 18 1 2 := FL.of rfl (by decide) rfl 106 (by decide +kernel)
theorem fl_SC_21 : FL R_SC 21 1 3 := FL.of rfl (by decide) rfl 108 (by decide +kernel)
theorem fl_SC_40 : FL R_SC 40 1 8 := FL.of rfl (by decide) rfl 125 (by decide +kernel)
theorem fl_SC_9 : FL R_SC 9 1 0 := FL.of rfl (by decide) rfl 101 (by decide +kernel)
theorem lm_SC_55 : Cond.methodLinkNest R_SC 55 (yM m_JS_within) "JoinSetter" ∈ nestW := by simp [nestW]
theorem mk_JS_within : MKS m_JS_within 3 := ⟨⟨gt_at 603 (by decide +kernel) rfl, gt_at 71 (by decide +kernel) rfl, by decide +kernel, by decide +kernel, by decide +kernel⟩, gt_at 602 (by decide +kernel) rfl⟩
def tb_JS_within : List (Nat × Instr × Nat) := [(0, .iload_n 0, 1), (1, .iload_n 1, 1), (2, .if_icmp .lt 12, 3), (5, .iload_n 0, 1), (6, .iload_n 2, 1), (7, .if_icmp .gt 7, 3), (10, .iconst 1, 1), (11, .goto 4, 3), (14, .iconst 0, 1), (15, .ireturn, 1)]
theorem dt_JS_within : DT (cM m_JS_within) tb_JS_within := by unfold DT; decide +kernel
abbrev a_JS_within_0 (G : GT)  (v0 : Int) (v1 : Int) (v2 : Int) (σ : St) (P : Int → St → Prop) : Prop := A G m_JS_within 0 [(0, I v0), (1, I v1), (2, I v2)] [] σ P
set_option maxRecDepth 20000 in
theorem k_JS_within_0 {G : GT} {σ : St} {P : Int → St → Prop}  {v0 : Int} {v1 : Int} {v2 : Int}  
    (h : rng v0 ∧ rng v1 ∧ ((v1 ≤ v0 → rng v2)) ∧ P (if v1 ≤ v0 ∧ v0 ≤ v2 then 1 else 0) σ) :
    a_JS_within_0 G v0 v1 v2 σ P := by
  refine r_iload_n (q := 1) (dc dt_JS_within 0 rfl) rfl rfl 0 rfl ?_
  refine r_iload_n (q := 2) (dc dt_JS_within 1 rfl) rfl rfl 1 rfl ?_
  obtain ⟨o1, h⟩ := h
  obtain ⟨o2, h⟩ := h
  obtain ⟨ho, h⟩ := h
  have hJ : A G m_JS_within 15 [(0, I v0), (1, I v1), (2, I v2)] [I (if v1 ≤ v0 ∧ v0 ≤ v2 then 1 else 0)] σ P := by
    exact r_zret rfl (dc dt_JS_within 9 rfl) b01_or h
  clear h
  refine r_icmp_lt (q := 5) (t := 14) (dc dt_JS_within 2 rfl) rfl (by decide) o1 o2 (fun q_ => ?_) (fun q_ => ?_)
  · have q4 := q_
    refine r_iconst (q := 15) (dc dt_JS_within 8 rfl) rfl rfl ?_
    rw [show (if v1 ≤ v0 ∧ v0 ≤ v2 then (1 : Int) else 0) = 0 from if_neg (by first | omega | grind)] at hJ
    exact hJ
  · have q4 := q_
    have ho := ho q_
    refine r_iload_n (q := 6) (dc dt_JS_within 3 rfl) rfl rfl 0 rfl ?_
    refine r_iload_n (q := 7) (dc dt_JS_within 4 rfl) rfl rfl 2 rfl ?_
    have o3 := ho
    refine r_icmp_gt (q := 10) (t := 14) (dc dt_JS_within 5 rfl) rfl (by decide) o1 o3 (fun q_ => ?_) (fun q_ => ?_)
    · have q5 := q_
      refine r_iconst (q := 15) (dc dt_JS_within 8 rfl) rfl rfl ?_
      rw [show (if v1 ≤ v0 ∧ v0 ≤ v2 then (1 : Int) else 0) = 0 from if_neg (by first | omega | grind)] at hJ
      exact hJ
    · have q5 := q_
      refine r_iconst (q := 11) (dc dt_JS_within 6 rfl) rfl rfl ?_
      refine r_goto (q := 15) (dc dt_JS_within 7 rfl) (by decide) ?_
      rw [show (if v1 ≤ v0 ∧ v0 ≤ v2 then (1 : Int) else 0) = 1 from if_pos (by first | omega | grind)] at hJ
      exact hJ
set_option maxRecDepth 20000 in
theorem sp_JS_within {G : GT} {σ : St} {v0 : Int} {v1 : Int} {v2 : Int}  (j0 : rng v0) (j1 : rng v1) (j2 : (v1 ≤ v0 → rng v2)) : CJ G m_JS_within [I v0, I v1, I v2] σ (fun r u => r = (if v1 ≤ v0 ∧ v0 ≤ v2 then 1 else 0) ∧ u = σ) := by
  refine CJ.intro (by decide) (by simp [catA]; decide) (fun _ => k_JS_within_0  ?_)
  refine ⟨by first | assumption | omega | grind, ?_⟩
  refine ⟨by first | assumption | omega | grind, ?_⟩
  refine ⟨by first | assumption | omega | grind, ?_⟩
  exact ⟨rfl, rfl⟩
def tb_MO_in : List (Nat × Instr × Nat) := [(0, .lload_n 0, 1), (1, .lload_n 2, 1), (2, .lcmp, 1), (3, .ifCond .lt 14, 3), (6, .lload_n 0, 1), (7, .lload 4, 2), (9, .lcmp, 1), (10, .ifCond .gt 7, 3), (13, .iconst 1, 1), (14, .goto 4, 3), (17, .iconst 0, 1), (18, .ireturn, 1)]
theorem dt_MO_in : DT (cM m_MO_in) tb_MO_in := by unfold DT; decide +kernel
abbrev a_MO_in_0 (G : GT)  (v0 : Int) (v2 : Int) (v4 : Int) (σ : St) (P : Int → St → Prop) : Prop := A G m_MO_in 0 [(0, J v0), (2, J v2), (4, J v4)] [] σ P
set_option maxRecDepth 20000 in
theorem k_MO_in_0 {G : GT} {σ : St} {P : Int → St → Prop}  {v0 : Int} {v2 : Int} {v4 : Int}  (h0 : rng v0) (h2 : rng v2) (h4 : rng v4)
    (h : P (if v2 ≤ v0 ∧ v0 ≤ v4 then 1 else 0) σ) :
    a_MO_in_0 G v0 v2 v4 σ P := by
  refine r_lload_n (q := 1) (dc dt_MO_in 0 rfl) rfl rfl 0 rfl ?_
  refine r_lload_n (q := 2) (dc dt_MO_in 1 rfl) rfl rfl 1 rfl ?_
  refine r_lcmp (q := 3) (dc dt_MO_in 2 rfl) rfl h0 h2 ?_
  have hJ : A G m_MO_in 18 [(0, J v0), (2, J v2), (4, J v4)] [I (if v2 ≤ v0 ∧ v0 ≤ v4 then 1 else 0)] σ P := by
    exact r_zret rfl (dc dt_MO_in 11 rfl) b01_or h
  clear h
  refine r_ifc_lt (q := 6) (t := 17) (dc dt_MO_in 3 rfl) rfl (by decide) (fun q_ => ?_) (fun q_ => ?_)
  · have q1 := q_
    refine r_iconst (q := 18) (dc dt_MO_in 10 rfl) rfl rfl ?_
    rw [show (if v2 ≤ v0 ∧ v0 ≤ v4 then (1 : Int) else 0) = 0 from if_neg (by first | omega | grind)] at hJ
    exact hJ
  · have q1 := q_
    refine r_lload_n (q := 7) (dc dt_MO_in 4 rfl) rfl rfl 0 rfl ?_
    refine r_lload (q := 9) (dc dt_MO_in 5 rfl) rfl 2 rfl ?_
    refine r_lcmp (q := 10) (dc dt_MO_in 6 rfl) rfl h0 h4 ?_
    refine r_ifc_gt (q := 13) (t := 17) (dc dt_MO_in 7 rfl) rfl (by decide) (fun q_ => ?_) (fun q_ => ?_)
    · have q2 := q_
      refine r_iconst (q := 18) (dc dt_MO_in 10 rfl) rfl rfl ?_
      rw [show (if v2 ≤ v0 ∧ v0 ≤ v4 then (1 : Int) else 0) = 0 from if_neg (by first | omega | grind)] at hJ
      exact hJ
    · have q2 := q_
      refine r_iconst (q := 14) (dc dt_MO_in 8 rfl) rfl rfl ?_
      refine r_goto (q := 18) (dc dt_MO_in 9 rfl) (by decide) ?_
      rw [show (if v2 ≤ v0 ∧ v0 ≤ v4 then (1 : Int) else 0) = 1 from if_pos (by first | omega | grind)] at hJ
      exact hJ
set_option maxRecDepth 20000 in
theorem sp_MO_in {G : GT} {σ : St} {v0 : Int} {v2 : Int} {v4 : Int} (h0 : rng v0) (h2 : rng v2) (h4 : rng v4)  : CJ G m_MO_in [J v0, J v2, J v4] σ (fun r u => r = (if v2 ≤ v0 ∧ v0 ≤ v4 then 1 else 0) ∧ u = σ) := by
  refine CJ.intro (by decide) (by simp [catA]; decide) (fun _ => k_MO_in_0 h0 h2 h4 ?_)
  exact ⟨rfl, rfl⟩
def tb_AR_fill : List (Nat × Instr × Nat) := [(0, .iconst 0, 1), (1, .istore_n 2, 1), (2, .aload_n 0, 1), (3, .arraylength, 1), (4, .istore_n 3, 1), (5, .iload_n 2, 1), (6, .iload_n 3, 1), (7, .if_icmp .ge 13, 3), (10, .aload_n 0, 1), (11, .iload_n 2, 1), (12, .iload_n 1, 1), (13, .iastore, 1), (14, .iinc 2 1, 3), (17, .goto (-12), 3), (20, .return_, 1)]
theorem dt_AR_fill : DT (cM m_AR_fill) tb_AR_fill := by unfold DT; decide +kernel
abbrev a_AR_fill_0 (G : GT)  (k0 : Nat) (n0 : Nat) (v1 : Int) (σ : St) (P : Int → St → Prop) : Prop := A G m_AR_fill 0 [(0, O k0), (1, I v1)] [] σ P
abbrev a_AR_fill_5 (G : GT)  (k0 : Nat) (n0 : Nat) (v1 : Int) (v2 : Int) (v3 : Int) (σ : St) (P : Int → St → Prop) : Prop := A G m_AR_fill 5 [(0, O k0), (1, I v1), (2, I v2), (3, I v3)] [] σ P
set_option maxRecDepth 20000 in
theorem k_AR_fill_0 {G : GT} {σ : St} {P : Int → St → Prop}  {k0 : Nat} {n0 : Nat} {v1 : Int}  (g0 : lyt k0 = (1, n0))
    (h : a_AR_fill_5 G k0 n0 v1 0 (n0 : Int) σ P) :
    a_AR_fill_0 G k0 n0 v1 σ P := by
  refine r_iconst (q := 1) (dc dt_AR_fill 0 rfl) rfl rfl ?_
  refine r_istore_n (q := 2) (dc dt_AR_fill 1 rfl) rfl rfl (by decide) rfl ?_
  refine r_aload_n (q := 3) (dc dt_AR_fill 2 rfl) rfl rfl 1 rfl ?_
  refine r_alen (q := 4) (dc dt_AR_fill 3 rfl) rfl g0 ?_
  refine r_istore_n (q := 5) (dc dt_AR_fill 4 rfl) rfl rfl (by decide) rfl ?_
  exact r_loc [2, 3, 1, 0] rfl h
set_option maxRecDepth 20000 in
theorem k_AR_fill_5 {G : GT} {σ : St} {P : Int → St → Prop}  {k0 : Nat} {n0 : Nat} {v1 : Int} {v2 : Int} {v3 : Int}  (g0 : lyt k0 = (1, n0))
    (h : rng v2 ∧ rng v3 ∧ (v3 ≤ v2 → P 0 σ) ∧ (v2 < v3 → (0 ≤ v2 ∧ v2 < (n0 : Int)) ∧ rng v1 ∧ (∀ σ5, σ5 = sa σ k0 v2.toNat v1 → a_AR_fill_5 G k0 n0 v1 (v2 + 1) v3 σ5 P))) :
    a_AR_fill_5 G k0 n0 v1 v2 v3 σ P := by
  refine r_iload_n (q := 6) (dc dt_AR_fill 5 rfl) rfl rfl 2 rfl ?_
  refine r_iload_n (q := 7) (dc dt_AR_fill 6 rfl) rfl rfl 3 rfl ?_
  obtain ⟨o1, h⟩ := h
  obtain ⟨o2, h⟩ := h
  refine r_icmp_ge (q := 10) (t := 20) (dc dt_AR_fill 7 rfl) rfl (by decide) o1 o2 (fun q_ => ?_) (fun q_ => ?_)
  · have h := h.1 q_
    exact r_vret rfl (dc dt_AR_fill 14 rfl) h
  · have h := h.2 q_
    refine r_aload_n (q := 11) (dc dt_AR_fill 8 rfl) rfl rfl 0 rfl ?_
    refine r_iload_n (q := 12) (dc dt_AR_fill 9 rfl) rfl rfl 2 rfl ?_
    refine r_iload_n (q := 13) (dc dt_AR_fill 10 rfl) rfl rfl 1 rfl ?_
    obtain ⟨o3, h⟩ := h
    obtain ⟨o4, h⟩ := h
    refine r_iast (q := 14) (dc dt_AR_fill 11 rfl) rfl g0 o3 o4 (fun σ5 e6 => ?_)
    have h := h σ5 e6
    refine r_iinc (q := 17) (k := 2) (dc dt_AR_fill 12 rfl) rfl rfl (by decide) rfl ?_
    refine r_goto (q := 5) (dc dt_AR_fill 13 rfl) (by decide) ?_
    exact r_loc [1, 2, 0, 3] rfl h
def tb_SC_knows : List (Nat × Instr × Nat) := [(0, .iload_n 1, 1), (1, .iconst 0, 1), (2, .aload_n 0, 1), (3, .getfield 9, 3), (6, .iconst 1, 1), (7, .isub, 1), (8, .invokestatic 55, 3), (11, .ireturn, 1)]
theorem dt_SC_knows : DT (cM m_SC_knows) tb_SC_knows := by unfold DT; decide +kernel
abbrev a_SC_knows_0 (G : GT)  (v1 : Int) (σ : St) (P : Int → St → Prop) : Prop := A G m_SC_knows 0 [(0, O 1), (1, I v1)] [] σ P
set_option maxRecDepth 20000 in
theorem k_SC_knows_0 {G : GT} {σ : St} {P : Int → St → Prop}  {v1 : Int}  
    (h : rng v1 ∧ (0 ≤ v1 → rng ((σ.2.1 1 0) - 1)) ∧ P (if 0 ≤ v1 ∧ v1 ≤ ((σ.2.1 1 0) - 1) then 1 else 0) σ) :
    a_SC_knows_0 G v1 σ P := by
  refine r_iload_n (q := 1) (dc dt_SC_knows 0 rfl) rfl rfl 1 rfl ?_
  refine r_iconst (q := 2) (dc dt_SC_knows 1 rfl) rfl rfl ?_
  refine r_aload_n (q := 3) (dc dt_SC_knows 2 rfl) rfl rfl 0 rfl ?_
  refine r_getI (q := 6) (v := σ.2.1 1 0) fl_SC_9 (dc dt_SC_knows 3 rfl) rfl ly1 rfl rfl (fun g1 => ?_)
  refine r_iconst (q := 7) (dc dt_SC_knows 4 rfl) rfl rfl ?_
  refine r_isub (q := 8) (dc dt_SC_knows 5 rfl) rfl ?_
  obtain ⟨o2, h⟩ := h
  obtain ⟨o3, h⟩ := h
  refine r_callNi (q := 11) mk_JS_within lm_SC_55 (RMO.of rfl) rfl (dc dt_SC_knows 6 rfl) rfl [I v1, I 0, I ((σ.2.1 1 0) - 1)] [] rfl rfl (Nat.le_of_ble_eq_true rfl) (sp_JS_within o2 (⟨by decide, by decide⟩ : rng 0) o3) (fun _ _ g4 z => ?_)
  obtain ⟨rfl, rfl⟩ := z
  exact r_zret rfl (dc dt_SC_knows 7 rfl) b01_or h
set_option maxRecDepth 20000 in
theorem sp_SC_knows {G : GT} {σ : St} {v1 : Int}  (j0 : rng v1) (j1 : (0 ≤ v1 → rng ((σ.2.1 1 0) - 1))) : CJ G m_SC_knows [O 1, I v1] σ (fun r u => r = (if 0 ≤ v1 ∧ v1 ≤ ((σ.2.1 1 0) - 1) then 1 else 0) ∧ u = σ) := by
  refine CJ.intro (by decide) (by simp [catA]; decide) (fun _ => k_SC_knows_0  ?_)
  refine ⟨by first | assumption | omega | grind, ?_⟩
  refine ⟨by first | assumption | omega | grind, ?_⟩
  exact ⟨rfl, rfl⟩
def tb_SC_knowsForm : List (Nat × Instr × Nat) := [(0, .iload_n 1, 1), (1, .iconst 0, 1), (2, .aload_n 0, 1), (3, .getfield 18, 3), (6, .iconst 1, 1), (7, .isub, 1), (8, .invokestatic 55, 3), (11, .ireturn, 1)]
theorem dt_SC_knowsForm : DT (cM m_SC_knowsForm) tb_SC_knowsForm := by unfold DT; decide +kernel
abbrev a_SC_knowsForm_0 (G : GT)  (v1 : Int) (σ : St) (P : Int → St → Prop) : Prop := A G m_SC_knowsForm 0 [(0, O 1), (1, I v1)] [] σ P
set_option maxRecDepth 20000 in
theorem k_SC_knowsForm_0 {G : GT} {σ : St} {P : Int → St → Prop}  {v1 : Int}  
    (h : rng v1 ∧ (0 ≤ v1 → rng ((σ.2.1 1 2) - 1)) ∧ P (if 0 ≤ v1 ∧ v1 ≤ ((σ.2.1 1 2) - 1) then 1 else 0) σ) :
    a_SC_knowsForm_0 G v1 σ P := by
  refine r_iload_n (q := 1) (dc dt_SC_knowsForm 0 rfl) rfl rfl 1 rfl ?_
  refine r_iconst (q := 2) (dc dt_SC_knowsForm 1 rfl) rfl rfl ?_
  refine r_aload_n (q := 3) (dc dt_SC_knowsForm 2 rfl) rfl rfl 0 rfl ?_
  refine r_getI (q := 6) (v := σ.2.1 1 2) fl_SC_18 (dc dt_SC_knowsForm 3 rfl) rfl ly1 rfl rfl (fun g1 => ?_)
  refine r_iconst (q := 7) (dc dt_SC_knowsForm 4 rfl) rfl rfl ?_
  refine r_isub (q := 8) (dc dt_SC_knowsForm 5 rfl) rfl ?_
  obtain ⟨o2, h⟩ := h
  obtain ⟨o3, h⟩ := h
  refine r_callNi (q := 11) mk_JS_within lm_SC_55 (RMO.of rfl) rfl (dc dt_SC_knowsForm 6 rfl) rfl [I v1, I 0, I ((σ.2.1 1 2) - 1)] [] rfl rfl (Nat.le_of_ble_eq_true rfl) (sp_JS_within o2 (⟨by decide, by decide⟩ : rng 0) o3) (fun _ _ g4 z => ?_)
  obtain ⟨rfl, rfl⟩ := z
  exact r_zret rfl (dc dt_SC_knowsForm 7 rfl) b01_or h
set_option maxRecDepth 20000 in
theorem sp_SC_knowsForm {G : GT} {σ : St} {v1 : Int}  (j0 : rng v1) (j1 : (0 ≤ v1 → rng ((σ.2.1 1 2) - 1))) : CJ G m_SC_knowsForm [O 1, I v1] σ (fun r u => r = (if 0 ≤ v1 ∧ v1 ≤ ((σ.2.1 1 2) - 1) then 1 else 0) ∧ u = σ) := by
  refine CJ.intro (by decide) (by simp [catA]; decide) (fun _ => k_SC_knowsForm_0  ?_)
  refine ⟨by first | assumption | omega | grind, ?_⟩
  refine ⟨by first | assumption | omega | grind, ?_⟩
  exact ⟨rfl, rfl⟩
def tb_SC_isMark : List (Nat × Instr × Nat) := [(0, .aload_n 0, 1), (1, .getfield 21, 3), (4, .iload_n 1, 1), (5, .iaload, 1), (6, .iconst 3, 1), (7, .if_icmp .eq 13, 3), (10, .aload_n 0, 1), (11, .getfield 21, 3), (14, .iload_n 1, 1), (15, .iaload, 1), (16, .iconst 4, 1), (17, .if_icmp .ne 7, 3), (20, .iconst 1, 1), (21, .goto 4, 3), (24, .iconst 0, 1), (25, .ireturn, 1)]
theorem dt_SC_isMark : DT (cM m_SC_isMark) tb_SC_isMark := by unfold DT; decide +kernel
abbrev a_SC_isMark_0 (G : GT)  (v1 : Int) (σ : St) (P : Int → St → Prop) : Prop := A G m_SC_isMark 0 [(0, O 1), (1, I v1)] [] σ P
set_option maxRecDepth 20000 in
theorem k_SC_isMark_0 {G : GT} {σ : St} {P : Int → St → Prop}  {v1 : Int}  
    (h : (0 ≤ v1 ∧ v1 < 60) ∧ P (if σ.1 47 v1.toNat = 3 ∨ σ.1 47 v1.toNat = 4 then 1 else 0) σ) :
    a_SC_isMark_0 G v1 σ P := by
  refine r_aload_n (q := 1) (dc dt_SC_isMark 0 rfl) rfl rfl 0 rfl ?_
  refine r_getO (q := 4) (v := 47) fl_SC_21 (dc dt_SC_isMark 1 rfl) rfl ly1 rfl ?_
  refine r_iload_n (q := 5) (dc dt_SC_isMark 2 rfl) rfl rfl 1 rfl ?_
  obtain ⟨o1, h⟩ := h
  refine r_iald (q := 6) (v := σ.1 47 v1.toNat) (dc dt_SC_isMark 3 rfl) rfl ly47 o1 rfl (fun g2 => ?_)
  refine r_iconst (q := 7) (dc dt_SC_isMark 4 rfl) rfl rfl ?_
  have hJ : A G m_SC_isMark 25 [(0, O 1), (1, I v1)] [I (if σ.1 47 v1.toNat = 3 ∨ σ.1 47 v1.toNat = 4 then 1 else 0)] σ P := by
    exact r_zret rfl (dc dt_SC_isMark 15 rfl) b01_or h
  clear h
  refine r_icmp_eq (q := 10) (t := 20) (dc dt_SC_isMark 5 rfl) rfl (by decide) g2 (⟨by decide, by decide⟩ : rng 3) (fun q_ => ?_) (fun q_ => ?_)
  · have q4 := q_
    refine r_iconst (q := 21) (dc dt_SC_isMark 12 rfl) rfl rfl ?_
    refine r_goto (q := 25) (dc dt_SC_isMark 13 rfl) (by decide) ?_
    rw [show (if σ.1 47 v1.toNat = 3 ∨ σ.1 47 v1.toNat = 4 then (1 : Int) else 0) = 1 from if_pos (by first | omega | grind)] at hJ
    exact hJ
  · have q4 := q_
    refine r_aload_n (q := 11) (dc dt_SC_isMark 6 rfl) rfl rfl 0 rfl ?_
    refine r_getO (q := 14) (v := 47) fl_SC_21 (dc dt_SC_isMark 7 rfl) rfl ly1 rfl ?_
    refine r_iload_n (q := 15) (dc dt_SC_isMark 8 rfl) rfl rfl 1 rfl ?_
    refine r_iald (q := 16) (v := σ.1 47 v1.toNat) (dc dt_SC_isMark 9 rfl) rfl ly47 o1 rfl (fun g3 => ?_)
    refine r_iconst (q := 17) (dc dt_SC_isMark 10 rfl) rfl rfl ?_
    refine r_icmp_ne (q := 20) (t := 24) (dc dt_SC_isMark 11 rfl) rfl (by decide) g3 (⟨by decide, by decide⟩ : rng 4) (fun q_ => ?_) (fun q_ => ?_)
    · have q5 := q_
      refine r_iconst (q := 25) (dc dt_SC_isMark 14 rfl) rfl rfl ?_
      rw [show (if σ.1 47 v1.toNat = 3 ∨ σ.1 47 v1.toNat = 4 then (1 : Int) else 0) = 0 from if_neg (by first | omega | grind)] at hJ
      exact hJ
    · have q5 := q_
      refine r_iconst (q := 21) (dc dt_SC_isMark 12 rfl) rfl rfl ?_
      refine r_goto (q := 25) (dc dt_SC_isMark 13 rfl) (by decide) ?_
      rw [show (if σ.1 47 v1.toNat = 3 ∨ σ.1 47 v1.toNat = 4 then (1 : Int) else 0) = 1 from if_pos (by first | omega | grind)] at hJ
      exact hJ
set_option maxRecDepth 20000 in
theorem sp_SC_isMark {G : GT} {σ : St} {v1 : Int}  (j0 : 0 ≤ v1 ∧ v1 < 60) : CJ G m_SC_isMark [O 1, I v1] σ (fun r u => r = (if σ.1 47 v1.toNat = 3 ∨ σ.1 47 v1.toNat = 4 then 1 else 0) ∧ u = σ) := by
  refine CJ.intro (by decide) (by simp [catA]; decide) (fun _ => k_SC_isMark_0  ?_)
  refine ⟨by first | assumption | omega | grind, ?_⟩
  exact ⟨rfl, rfl⟩
def tb_SC_joinsBack : List (Nat × Instr × Nat) := [(0, .aload_n 0, 1), (1, .getfield 21, 3), (4, .iload_n 1, 1), (5, .iaload, 1), (6, .ifCond .eq 13, 3), (9, .aload_n 0, 1), (10, .getfield 21, 3), (13, .iload_n 1, 1), (14, .iaload, 1), (15, .iconst 1, 1), (16, .if_icmp .ne 7, 3), (19, .iconst 1, 1), (20, .goto 4, 3), (23, .iconst 0, 1), (24, .ireturn, 1)]
theorem dt_SC_joinsBack : DT (cM m_SC_joinsBack) tb_SC_joinsBack := by unfold DT; decide +kernel
abbrev a_SC_joinsBack_0 (G : GT)  (v1 : Int) (σ : St) (P : Int → St → Prop) : Prop := A G m_SC_joinsBack 0 [(0, O 1), (1, I v1)] [] σ P
set_option maxRecDepth 20000 in
theorem k_SC_joinsBack_0 {G : GT} {σ : St} {P : Int → St → Prop}  {v1 : Int}  
    (h : (0 ≤ v1 ∧ v1 < 60) ∧ P (if σ.1 47 v1.toNat = 0 ∨ σ.1 47 v1.toNat = 1 then 1 else 0) σ) :
    a_SC_joinsBack_0 G v1 σ P := by
  refine r_aload_n (q := 1) (dc dt_SC_joinsBack 0 rfl) rfl rfl 0 rfl ?_
  refine r_getO (q := 4) (v := 47) fl_SC_21 (dc dt_SC_joinsBack 1 rfl) rfl ly1 rfl ?_
  refine r_iload_n (q := 5) (dc dt_SC_joinsBack 2 rfl) rfl rfl 1 rfl ?_
  obtain ⟨o1, h⟩ := h
  refine r_iald (q := 6) (v := σ.1 47 v1.toNat) (dc dt_SC_joinsBack 3 rfl) rfl ly47 o1 rfl (fun g2 => ?_)
  have hJ : A G m_SC_joinsBack 24 [(0, O 1), (1, I v1)] [I (if σ.1 47 v1.toNat = 0 ∨ σ.1 47 v1.toNat = 1 then 1 else 0)] σ P := by
    exact r_zret rfl (dc dt_SC_joinsBack 14 rfl) b01_or h
  clear h
  refine r_if_eq (q := 9) (t := 19) (dc dt_SC_joinsBack 4 rfl) rfl (by decide) g2 (fun q_ => ?_) (fun q_ => ?_)
  · have q4 := q_
    refine r_iconst (q := 20) (dc dt_SC_joinsBack 11 rfl) rfl rfl ?_
    refine r_goto (q := 24) (dc dt_SC_joinsBack 12 rfl) (by decide) ?_
    rw [show (if σ.1 47 v1.toNat = 0 ∨ σ.1 47 v1.toNat = 1 then (1 : Int) else 0) = 1 from if_pos (by first | omega | grind)] at hJ
    exact hJ
  · have q4 := q_
    refine r_aload_n (q := 10) (dc dt_SC_joinsBack 5 rfl) rfl rfl 0 rfl ?_
    refine r_getO (q := 13) (v := 47) fl_SC_21 (dc dt_SC_joinsBack 6 rfl) rfl ly1 rfl ?_
    refine r_iload_n (q := 14) (dc dt_SC_joinsBack 7 rfl) rfl rfl 1 rfl ?_
    refine r_iald (q := 15) (v := σ.1 47 v1.toNat) (dc dt_SC_joinsBack 8 rfl) rfl ly47 o1 rfl (fun g3 => ?_)
    refine r_iconst (q := 16) (dc dt_SC_joinsBack 9 rfl) rfl rfl ?_
    refine r_icmp_ne (q := 19) (t := 23) (dc dt_SC_joinsBack 10 rfl) rfl (by decide) g3 (⟨by decide, by decide⟩ : rng 1) (fun q_ => ?_) (fun q_ => ?_)
    · have q5 := q_
      refine r_iconst (q := 24) (dc dt_SC_joinsBack 13 rfl) rfl rfl ?_
      rw [show (if σ.1 47 v1.toNat = 0 ∨ σ.1 47 v1.toNat = 1 then (1 : Int) else 0) = 0 from if_neg (by first | omega | grind)] at hJ
      exact hJ
    · have q5 := q_
      refine r_iconst (q := 20) (dc dt_SC_joinsBack 11 rfl) rfl rfl ?_
      refine r_goto (q := 24) (dc dt_SC_joinsBack 12 rfl) (by decide) ?_
      rw [show (if σ.1 47 v1.toNat = 0 ∨ σ.1 47 v1.toNat = 1 then (1 : Int) else 0) = 1 from if_pos (by first | omega | grind)] at hJ
      exact hJ
set_option maxRecDepth 20000 in
theorem sp_SC_joinsBack {G : GT} {σ : St} {v1 : Int}  (j0 : 0 ≤ v1 ∧ v1 < 60) : CJ G m_SC_joinsBack [O 1, I v1] σ (fun r u => r = (if σ.1 47 v1.toNat = 0 ∨ σ.1 47 v1.toNat = 1 then 1 else 0) ∧ u = σ) := by
  refine CJ.intro (by decide) (by simp [catA]; decide) (fun _ => k_SC_joinsBack_0  ?_)
  refine ⟨by first | assumption | omega | grind, ?_⟩
  exact ⟨rfl, rfl⟩
def tb_SC_hasLigature : List (Nat × Instr × Nat) := [(0, .iconst 0, 1), (1, .istore 4, 2), (3, .iload 4, 2), (5, .aload_n 0, 1), (6, .getfield 15, 3), (9, .if_icmp .ge 44, 3), (12, .aload_n 0, 1), (13, .getfield 40, 3), (16, .iload 4, 2), (18, .aaload, 1), (19, .astore 5, 2), (21, .aload 5, 2), (23, .iconst 0, 1), (24, .iaload, 1), (25, .iload_n 1, 1), (26, .if_icmp .ne 21, 3), (29, .aload 5, 2), (31, .iconst 1, 1), (32, .iaload, 1), (33, .iload_n 2, 1), (34, .if_icmp .ne 13, 3), (37, .aload 5, 2), (39, .iconst 2, 1), (40, .iaload, 1), (41, .iload_n 3, 1), (42, .if_icmp .ne 5, 3), (45, .iconst 1, 1), (46, .ireturn, 1), (47, .iinc 4 1, 3), (50, .goto (-47), 3), (53, .iconst 0, 1), (54, .ireturn, 1)]
theorem dt_SC_hasLigature : DT (cM m_SC_hasLigature) tb_SC_hasLigature := by unfold DT; decide +kernel
abbrev a_SC_hasLigature_0 (G : GT)  (v1 : Int) (v2 : Int) (v3 : Int) (σ : St) (P : Int → St → Prop) : Prop := A G m_SC_hasLigature 0 [(0, O 1), (1, I v1), (2, I v2), (3, I v3)] [] σ P
abbrev a_SC_hasLigature_3 (G : GT)  (v1 : Int) (v2 : Int) (v3 : Int) (v4 : Int) (σ : St) (P : Int → St → Prop) : Prop := A G m_SC_hasLigature 3 [(0, O 1), (1, I v1), (2, I v2), (3, I v3), (4, I v4)] [] σ P
set_option maxRecDepth 20000 in
theorem k_SC_hasLigature_0 {G : GT} {σ : St} {P : Int → St → Prop}  {v1 : Int} {v2 : Int} {v3 : Int}  
    (h : a_SC_hasLigature_3 G v1 v2 v3 0 σ P) :
    a_SC_hasLigature_0 G v1 v2 v3 σ P := by
  refine r_iconst (q := 1) (dc dt_SC_hasLigature 0 rfl) rfl rfl ?_
  refine r_istore (q := 3) (dc dt_SC_hasLigature 1 rfl) rfl (by decide) rfl ?_
  exact r_loc [1, 2, 3, 4, 0] rfl h
set_option maxRecDepth 20000 in
theorem k_SC_hasLigature_3 {G : GT} {σ : St} {P : Int → St → Prop}  {v1 : Int} {v2 : Int} {v3 : Int} {v4 : Int}  
    (h : rng v4 ∧ (σ.2.1 1 1 ≤ v4 → P 0 σ) ∧ (v4 < σ.2.1 1 1 → (0 ≤ v4 ∧ v4 < 8) ∧ rng v1 ∧ (σ.1 (168 + v4.toNat) 0 ≠ v1 → a_SC_hasLigature_3 G v1 v2 v3 (v4 + 1) σ P) ∧ (σ.1 (168 + v4.toNat) 0 = v1 → rng v2 ∧ (σ.1 (168 + v4.toNat) 1 ≠ v2 → a_SC_hasLigature_3 G v1 v2 v3 (v4 + 1) σ P) ∧ (σ.1 (168 + v4.toNat) 1 = v2 → rng v3 ∧ (σ.1 (168 + v4.toNat) 2 ≠ v3 → a_SC_hasLigature_3 G v1 v2 v3 (v4 + 1) σ P) ∧ (σ.1 (168 + v4.toNat) 2 = v3 → P 1 σ))))) :
    a_SC_hasLigature_3 G v1 v2 v3 v4 σ P := by
  refine r_iload (q := 5) (dc dt_SC_hasLigature 2 rfl) rfl 4 rfl ?_
  refine r_aload_n (q := 6) (dc dt_SC_hasLigature 3 rfl) rfl rfl 0 rfl ?_
  refine r_getI (q := 9) (v := σ.2.1 1 1) fl_SC_15 (dc dt_SC_hasLigature 4 rfl) rfl ly1 rfl rfl (fun g1 => ?_)
  obtain ⟨o2, h⟩ := h
  refine r_icmp_ge (q := 12) (t := 53) (dc dt_SC_hasLigature 5 rfl) rfl (by decide) o2 g1 (fun q_ => ?_) (fun q_ => ?_)
  · have h := h.1 q_
    refine r_iconst (q := 54) (dc dt_SC_hasLigature 30 rfl) rfl rfl ?_
    exact r_zret rfl (dc dt_SC_hasLigature 31 rfl) (by decide) h
  · have h := h.2 q_
    refine r_aload_n (q := 13) (dc dt_SC_hasLigature 6 rfl) rfl rfl 0 rfl ?_
    refine r_getO (q := 16) (v := 52) fl_SC_40 (dc dt_SC_hasLigature 7 rfl) rfl ly1 rfl ?_
    refine r_iload (q := 18) (dc dt_SC_hasLigature 8 rfl) rfl 4 rfl ?_
    obtain ⟨o3, h⟩ := h
    refine r_aald (q := 19) (dc dt_SC_hasLigature 9 rfl) rfl ly52 o3 rfl ?_
    refine r_astore (q := 21) (dc dt_SC_hasLigature 10 rfl) rfl (by decide) rfl ?_
    refine r_aload (q := 23) (dc dt_SC_hasLigature 11 rfl) rfl 0 rfl ?_
    refine r_iconst (q := 24) (dc dt_SC_hasLigature 12 rfl) rfl rfl ?_
    refine r_iald (q := 25) (v := σ.1 (168 + v4.toNat) 0) (dc dt_SC_hasLigature 13 rfl) rfl (lyr_168 o3) ⟨by decide, by decide⟩ rfl (fun g4 => ?_)
    refine r_iload_n (q := 26) (dc dt_SC_hasLigature 14 rfl) rfl rfl 2 rfl ?_
    obtain ⟨o5, h⟩ := h
    refine r_icmp_ne (q := 29) (t := 47) (dc dt_SC_hasLigature 15 rfl) rfl (by decide) g4 o5 (fun q_ => ?_) (fun q_ => ?_)
    · have h := h.1 q_
      refine r_iinc (q := 50) (k := 5) (dc dt_SC_hasLigature 28 rfl) rfl rfl (by decide) rfl ?_
      refine r_goto (q := 3) (dc dt_SC_hasLigature 29 rfl) (by decide) ?_
      exact r_loc [2, 3, 4, 5, 0] rfl h
    · have h := h.2 q_
      refine r_aload (q := 31) (dc dt_SC_hasLigature 16 rfl) rfl 0 rfl ?_
      refine r_iconst (q := 32) (dc dt_SC_hasLigature 17 rfl) rfl rfl ?_
      refine r_iald (q := 33) (v := σ.1 (168 + v4.toNat) 1) (dc dt_SC_hasLigature 18 rfl) rfl (lyr_168 o3) ⟨by decide, by decide⟩ rfl (fun g6 => ?_)
      refine r_iload_n (q := 34) (dc dt_SC_hasLigature 19 rfl) rfl rfl 3 rfl ?_
      obtain ⟨o7, h⟩ := h
      refine r_icmp_ne (q := 37) (t := 47) (dc dt_SC_hasLigature 20 rfl) rfl (by decide) g6 o7 (fun q_ => ?_) (fun q_ => ?_)
      · have h := h.1 q_
        refine r_iinc (q := 50) (k := 5) (dc dt_SC_hasLigature 28 rfl) rfl rfl (by decide) rfl ?_
        refine r_goto (q := 3) (dc dt_SC_hasLigature 29 rfl) (by decide) ?_
        exact r_loc [2, 3, 4, 5, 0] rfl h
      · have h := h.2 q_
        refine r_aload (q := 39) (dc dt_SC_hasLigature 21 rfl) rfl 0 rfl ?_
        refine r_iconst (q := 40) (dc dt_SC_hasLigature 22 rfl) rfl rfl ?_
        refine r_iald (q := 41) (v := σ.1 (168 + v4.toNat) 2) (dc dt_SC_hasLigature 23 rfl) rfl (lyr_168 o3) ⟨by decide, by decide⟩ rfl (fun g8 => ?_)
        refine r_iload_n (q := 42) (dc dt_SC_hasLigature 24 rfl) rfl rfl 4 rfl ?_
        obtain ⟨o9, h⟩ := h
        refine r_icmp_ne (q := 45) (t := 47) (dc dt_SC_hasLigature 25 rfl) rfl (by decide) g8 o9 (fun q_ => ?_) (fun q_ => ?_)
        · have h := h.1 q_
          refine r_iinc (q := 50) (k := 5) (dc dt_SC_hasLigature 28 rfl) rfl rfl (by decide) rfl ?_
          refine r_goto (q := 3) (dc dt_SC_hasLigature 29 rfl) (by decide) ?_
          exact r_loc [2, 3, 4, 5, 0] rfl h
        · have h := h.2 q_
          refine r_iconst (q := 46) (dc dt_SC_hasLigature 26 rfl) rfl rfl ?_
          exact r_zret rfl (dc dt_SC_hasLigature 27 rfl) (by decide) h
end
