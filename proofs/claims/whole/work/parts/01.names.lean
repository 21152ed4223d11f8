-- ===== PART A: goes FIRST, ahead of the names: the tables' words, and 'selects' of the private methods out of them =====
/-- a private method of a class that the tables say can be made, by its rows of tables_1 -/
def lw_okq (q : MethodName × Nat) : Prop := (q.1.cls ≠ "java/lang/invoke/MethodHandle" ∧ q.1.cls ≠ "java/lang/invoke/VarHandle") ∧ Cond.instantiable q.1.cls q.2 ∈ tables_1 ∧ Cond.privateMethod q.1 ∈ tables_1 ∧ Cond.instanceMethod q.1 ∈ tables_1
theorem lw_p0 : lw_okq (⟨"WayBook", "blank", "(I)LWayBook$Ways;"⟩, 12) := ⟨⟨by decide +kernel, by decide +kernel⟩, List.mem_of_getElem? (i := 17) (by decide +kernel), List.mem_of_getElem? (i := 271) (by decide +kernel), List.mem_of_getElem? (i := 272) (by decide +kernel)⟩
theorem lw_p1 : lw_okq (⟨"WayBook", "keep", "()I"⟩, 12) := ⟨⟨by decide +kernel, by decide +kernel⟩, List.mem_of_getElem? (i := 17) (by decide +kernel), List.mem_of_getElem? (i := 289) (by decide +kernel), List.mem_of_getElem? (i := 290) (by decide +kernel)⟩
theorem lw_p2 : lw_okq (⟨"WayBook$Search", "walk", "(IIII)V"⟩, 8) := ⟨⟨by decide +kernel, by decide +kernel⟩, List.mem_of_getElem? (i := 315) (by decide +kernel), List.mem_of_getElem? (i := 350) (by decide +kernel), List.mem_of_getElem? (i := 351) (by decide +kernel)⟩
theorem lw_p3 : lw_okq (⟨"WayBook$Search", "gather", "(IIII)V"⟩, 8) := ⟨⟨by decide +kernel, by decide +kernel⟩, List.mem_of_getElem? (i := 315) (by decide +kernel), List.mem_of_getElem? (i := 387) (by decide +kernel), List.mem_of_getElem? (i := 388) (by decide +kernel)⟩
theorem lw_p4 : lw_okq (⟨"WayBook$Search", "isParting", "(II)Z"⟩, 8) := ⟨⟨by decide +kernel, by decide +kernel⟩, List.mem_of_getElem? (i := 315) (by decide +kernel), List.mem_of_getElem? (i := 392) (by decide +kernel), List.mem_of_getElem? (i := 393) (by decide +kernel)⟩
theorem lw_p5 : lw_okq (⟨"WayBook$Search", "loadOf", "(II)I"⟩, 8) := ⟨⟨by decide +kernel, by decide +kernel⟩, List.mem_of_getElem? (i := 315) (by decide +kernel), List.mem_of_getElem? (i := 399) (by decide +kernel), List.mem_of_getElem? (i := 400) (by decide +kernel)⟩
theorem lw_p6 : lw_okq (⟨"WayBook$Search", "isFitting", "(I)Z"⟩, 8) := ⟨⟨by decide +kernel, by decide +kernel⟩, List.mem_of_getElem? (i := 315) (by decide +kernel), List.mem_of_getElem? (i := 403) (by decide +kernel), List.mem_of_getElem? (i := 404) (by decide +kernel)⟩
theorem lw_p7 : lw_okq (⟨"WayBook$Search", "match", "(III)V"⟩, 8) := ⟨⟨by decide +kernel, by decide +kernel⟩, List.mem_of_getElem? (i := 315) (by decide +kernel), List.mem_of_getElem? (i := 418) (by decide +kernel), List.mem_of_getElem? (i := 419) (by decide +kernel)⟩
theorem lw_p8 : lw_okq (⟨"WayBook", "family", "(I)LWayBook$Ways;"⟩, 12) := ⟨⟨by decide +kernel, by decide +kernel⟩, List.mem_of_getElem? (i := 17) (by decide +kernel), List.mem_of_getElem? (i := 434) (by decide +kernel), List.mem_of_getElem? (i := 435) (by decide +kernel)⟩
theorem lw_p9 : lw_okq (⟨"WayBook", "fillJoined", "(LWayBook$Ways;ILWayBook$Ways;LWayBook$Ways;)V"⟩, 12) := ⟨⟨by decide +kernel, by decide +kernel⟩, List.mem_of_getElem? (i := 17) (by decide +kernel), List.mem_of_getElem? (i := 463) (by decide +kernel), List.mem_of_getElem? (i := 464) (by decide +kernel)⟩
theorem lw_p10 : lw_okq (⟨"WayBook$Sums", "learn", "()V"⟩, 4) := ⟨⟨by decide +kernel, by decide +kernel⟩, List.mem_of_getElem? (i := 83) (by decide +kernel), List.mem_of_getElem? (i := 578) (by decide +kernel), List.mem_of_getElem? (i := 579) (by decide +kernel)⟩
theorem lw_p11 : lw_okq (⟨"WayBook$Rows", "clear", "()V"⟩, 4) := ⟨⟨by decide +kernel, by decide +kernel⟩, List.mem_of_getElem? (i := 115) (by decide +kernel), List.mem_of_getElem? (i := 610) (by decide +kernel), List.mem_of_getElem? (i := 611) (by decide +kernel)⟩
theorem lw_p12 : lw_okq (⟨"WayBook$Rows", "over", "(LWayBook$Ways;II)I"⟩, 4) := ⟨⟨by decide +kernel, by decide +kernel⟩, List.mem_of_getElem? (i := 115) (by decide +kernel), List.mem_of_getElem? (i := 615) (by decide +kernel), List.mem_of_getElem? (i := 616) (by decide +kernel)⟩
theorem lw_p13 : lw_okq (⟨"WayBook$Rows", "under", "(JI)I"⟩, 4) := ⟨⟨by decide +kernel, by decide +kernel⟩, List.mem_of_getElem? (i := 115) (by decide +kernel), List.mem_of_getElem? (i := 619) (by decide +kernel), List.mem_of_getElem? (i := 620) (by decide +kernel)⟩
theorem lw_p14 : lw_okq (⟨"WayBook$Rows", "knot", "(III)I"⟩, 4) := ⟨⟨by decide +kernel, by decide +kernel⟩, List.mem_of_getElem? (i := 115) (by decide +kernel), List.mem_of_getElem? (i := 623) (by decide +kernel), List.mem_of_getElem? (i := 624) (by decide +kernel)⟩
theorem lw_p15 : lw_okq (⟨"WayBook$Rows", "find", "(III)I"⟩, 4) := ⟨⟨by decide +kernel, by decide +kernel⟩, List.mem_of_getElem? (i := 115) (by decide +kernel), List.mem_of_getElem? (i := 627) (by decide +kernel), List.mem_of_getElem? (i := 628) (by decide +kernel)⟩
def lw_privs_1 : List (MethodName × Nat) := [(⟨"WayBook", "blank", "(I)LWayBook$Ways;"⟩, 12), (⟨"WayBook", "keep", "()I"⟩, 12), (⟨"WayBook$Search", "walk", "(IIII)V"⟩, 8), (⟨"WayBook$Search", "gather", "(IIII)V"⟩, 8), (⟨"WayBook$Search", "isParting", "(II)Z"⟩, 8), (⟨"WayBook$Search", "loadOf", "(II)I"⟩, 8), (⟨"WayBook$Search", "isFitting", "(I)Z"⟩, 8), (⟨"WayBook$Search", "match", "(III)V"⟩, 8), (⟨"WayBook", "family", "(I)LWayBook$Ways;"⟩, 12), (⟨"WayBook", "fillJoined", "(LWayBook$Ways;ILWayBook$Ways;LWayBook$Ways;)V"⟩, 12), (⟨"WayBook$Sums", "learn", "()V"⟩, 4), (⟨"WayBook$Rows", "clear", "()V"⟩, 4), (⟨"WayBook$Rows", "over", "(LWayBook$Ways;II)I"⟩, 4), (⟨"WayBook$Rows", "under", "(JI)I"⟩, 4), (⟨"WayBook$Rows", "knot", "(III)I"⟩, 4), (⟨"WayBook$Rows", "find", "(III)I"⟩, 4)]
theorem lw_r1 : ∀ q ∈ lw_privs_1, lw_okq q := List.forall_mem_cons.mpr ⟨lw_p0, List.forall_mem_cons.mpr ⟨lw_p1, List.forall_mem_cons.mpr ⟨lw_p2, List.forall_mem_cons.mpr ⟨lw_p3, List.forall_mem_cons.mpr ⟨lw_p4, List.forall_mem_cons.mpr ⟨lw_p5, List.forall_mem_cons.mpr ⟨lw_p6, List.forall_mem_cons.mpr ⟨lw_p7, List.forall_mem_cons.mpr ⟨lw_p8, List.forall_mem_cons.mpr ⟨lw_p9, List.forall_mem_cons.mpr ⟨lw_p10, List.forall_mem_cons.mpr ⟨lw_p11, List.forall_mem_cons.mpr ⟨lw_p12, List.forall_mem_cons.mpr ⟨lw_p13, List.forall_mem_cons.mpr ⟨lw_p14, List.forall_mem_cons.mpr ⟨lw_p15, fun _ h => absurd h List.not_mem_nil⟩⟩⟩⟩⟩⟩⟩⟩⟩⟩⟩⟩⟩⟩⟩⟩
theorem lw_p16 : lw_okq (⟨"WayBook$Rows", "add", "(III)I"⟩, 4) := ⟨⟨by decide +kernel, by decide +kernel⟩, List.mem_of_getElem? (i := 115) (by decide +kernel), List.mem_of_getElem? (i := 638) (by decide +kernel), List.mem_of_getElem? (i := 639) (by decide +kernel)⟩
theorem lw_p17 : lw_okq (⟨"WayBook$Rows", "countOf", "(I)I"⟩, 4) := ⟨⟨by decide +kernel, by decide +kernel⟩, List.mem_of_getElem? (i := 115) (by decide +kernel), List.mem_of_getElem? (i := 642) (by decide +kernel), List.mem_of_getElem? (i := 643) (by decide +kernel)⟩
theorem lw_p18 : lw_okq (⟨"WayBook$Sums", "countSums", "([II)V"⟩, 4) := ⟨⟨by decide +kernel, by decide +kernel⟩, List.mem_of_getElem? (i := 83) (by decide +kernel), List.mem_of_getElem? (i := 691) (by decide +kernel), List.mem_of_getElem? (i := 692) (by decide +kernel)⟩
theorem lw_p19 : lw_okq (⟨"WayBook$Sums", "nthOfSum", "([IIII)I"⟩, 4) := ⟨⟨by decide +kernel, by decide +kernel⟩, List.mem_of_getElem? (i := 83) (by decide +kernel), List.mem_of_getElem? (i := 697) (by decide +kernel), List.mem_of_getElem? (i := 698) (by decide +kernel)⟩
theorem lw_p20 : lw_okq (⟨"WayBook", "chanceIf", "(LWayBook$Ways;II)J"⟩, 12) := ⟨⟨by decide +kernel, by decide +kernel⟩, List.mem_of_getElem? (i := 17) (by decide +kernel), List.mem_of_getElem? (i := 722) (by decide +kernel), List.mem_of_getElem? (i := 723) (by decide +kernel)⟩
theorem lw_p21 : lw_okq (⟨"WayBook$Rows", "wrongness", "(ILWayBook$Rows;)I"⟩, 4) := ⟨⟨by decide +kernel, by decide +kernel⟩, List.mem_of_getElem? (i := 115) (by decide +kernel), List.mem_of_getElem? (i := 768) (by decide +kernel), List.mem_of_getElem? (i := 769) (by decide +kernel)⟩
theorem lw_p22 : lw_okq (⟨"WayBook$Rows", "roadOfLead", "(I)I"⟩, 4) := ⟨⟨by decide +kernel, by decide +kernel⟩, List.mem_of_getElem? (i := 115) (by decide +kernel), List.mem_of_getElem? (i := 775) (by decide +kernel), List.mem_of_getElem? (i := 776) (by decide +kernel)⟩
theorem lw_p23 : lw_okq (⟨"WayBook$Host", "isItem", "(II)Z"⟩, 5) := ⟨⟨by decide +kernel, by decide +kernel⟩, List.mem_of_getElem? (i := 138) (by decide +kernel), List.mem_of_getElem? (i := 803) (by decide +kernel), List.mem_of_getElem? (i := 804) (by decide +kernel)⟩
theorem lw_p24 : lw_okq (⟨"WayBook$Acts", "run", "(IIII)I"⟩, 4) := ⟨⟨by decide +kernel, by decide +kernel⟩, List.mem_of_getElem? (i := 164) (by decide +kernel), List.mem_of_getElem? (i := 862) (by decide +kernel), List.mem_of_getElem? (i := 863) (by decide +kernel)⟩
theorem lw_p25 : lw_okq (⟨"WayBook$Acts", "note", "(I)V"⟩, 4) := ⟨⟨by decide +kernel, by decide +kernel⟩, List.mem_of_getElem? (i := 164) (by decide +kernel), List.mem_of_getElem? (i := 876) (by decide +kernel), List.mem_of_getElem? (i := 877) (by decide +kernel)⟩
theorem lw_p26 : lw_okq (⟨"WayBookModel", "net", "()I"⟩, 33) := ⟨⟨by decide +kernel, by decide +kernel⟩, List.mem_of_getElem? (i := 892) (by decide +kernel), List.mem_of_getElem? (i := 1023) (by decide +kernel), List.mem_of_getElem? (i := 1024) (by decide +kernel)⟩
theorem lw_p27 : lw_okq (⟨"WayBookModel", "put", "(IZ)V"⟩, 33) := ⟨⟨by decide +kernel, by decide +kernel⟩, List.mem_of_getElem? (i := 892) (by decide +kernel), List.mem_of_getElem? (i := 1027) (by decide +kernel), List.mem_of_getElem? (i := 1028) (by decide +kernel)⟩
theorem lw_p28 : lw_okq (⟨"WayBookModel", "made", "(I)I"⟩, 33) := ⟨⟨by decide +kernel, by decide +kernel⟩, List.mem_of_getElem? (i := 892) (by decide +kernel), List.mem_of_getElem? (i := 1031) (by decide +kernel), List.mem_of_getElem? (i := 1032) (by decide +kernel)⟩
theorem lw_p29 : lw_okq (⟨"WayBookModel", "isPath", "(IIIZ)Z"⟩, 33) := ⟨⟨by decide +kernel, by decide +kernel⟩, List.mem_of_getElem? (i := 892) (by decide +kernel), List.mem_of_getElem? (i := 1043) (by decide +kernel), List.mem_of_getElem? (i := 1044) (by decide +kernel)⟩
theorem lw_p30 : lw_okq (⟨"WayBookModel", "isOne", "(I)Z"⟩, 33) := ⟨⟨by decide +kernel, by decide +kernel⟩, List.mem_of_getElem? (i := 892) (by decide +kernel), List.mem_of_getElem? (i := 1047) (by decide +kernel), List.mem_of_getElem? (i := 1048) (by decide +kernel)⟩
theorem lw_p31 : lw_okq (⟨"WayBookModel", "at", "(II)I"⟩, 33) := ⟨⟨by decide +kernel, by decide +kernel⟩, List.mem_of_getElem? (i := 892) (by decide +kernel), List.mem_of_getElem? (i := 1051) (by decide +kernel), List.mem_of_getElem? (i := 1052) (by decide +kernel)⟩
def lw_privs_2 : List (MethodName × Nat) := [(⟨"WayBook$Rows", "add", "(III)I"⟩, 4), (⟨"WayBook$Rows", "countOf", "(I)I"⟩, 4), (⟨"WayBook$Sums", "countSums", "([II)V"⟩, 4), (⟨"WayBook$Sums", "nthOfSum", "([IIII)I"⟩, 4), (⟨"WayBook", "chanceIf", "(LWayBook$Ways;II)J"⟩, 12), (⟨"WayBook$Rows", "wrongness", "(ILWayBook$Rows;)I"⟩, 4), (⟨"WayBook$Rows", "roadOfLead", "(I)I"⟩, 4), (⟨"WayBook$Host", "isItem", "(II)Z"⟩, 5), (⟨"WayBook$Acts", "run", "(IIII)I"⟩, 4), (⟨"WayBook$Acts", "note", "(I)V"⟩, 4), (⟨"WayBookModel", "net", "()I"⟩, 33), (⟨"WayBookModel", "put", "(IZ)V"⟩, 33), (⟨"WayBookModel", "made", "(I)I"⟩, 33), (⟨"WayBookModel", "isPath", "(IIIZ)Z"⟩, 33), (⟨"WayBookModel", "isOne", "(I)Z"⟩, 33), (⟨"WayBookModel", "at", "(II)I"⟩, 33)]
theorem lw_r2 : ∀ q ∈ lw_privs_2, lw_okq q := List.forall_mem_cons.mpr ⟨lw_p16, List.forall_mem_cons.mpr ⟨lw_p17, List.forall_mem_cons.mpr ⟨lw_p18, List.forall_mem_cons.mpr ⟨lw_p19, List.forall_mem_cons.mpr ⟨lw_p20, List.forall_mem_cons.mpr ⟨lw_p21, List.forall_mem_cons.mpr ⟨lw_p22, List.forall_mem_cons.mpr ⟨lw_p23, List.forall_mem_cons.mpr ⟨lw_p24, List.forall_mem_cons.mpr ⟨lw_p25, List.forall_mem_cons.mpr ⟨lw_p26, List.forall_mem_cons.mpr ⟨lw_p27, List.forall_mem_cons.mpr ⟨lw_p28, List.forall_mem_cons.mpr ⟨lw_p29, List.forall_mem_cons.mpr ⟨lw_p30, List.forall_mem_cons.mpr ⟨lw_p31, fun _ h => absurd h List.not_mem_nil⟩⟩⟩⟩⟩⟩⟩⟩⟩⟩⟩⟩⟩⟩⟩⟩
theorem lw_p32 : lw_okq (⟨"WayBookModel", "heaps", "(I)I"⟩, 33) := ⟨⟨by decide +kernel, by decide +kernel⟩, List.mem_of_getElem? (i := 892) (by decide +kernel), List.mem_of_getElem? (i := 1058) (by decide +kernel), List.mem_of_getElem? (i := 1059) (by decide +kernel)⟩
theorem lw_p33 : lw_okq (⟨"WayBookModel", "hasRing", "(I)Z"⟩, 33) := ⟨⟨by decide +kernel, by decide +kernel⟩, List.mem_of_getElem? (i := 892) (by decide +kernel), List.mem_of_getElem? (i := 1070) (by decide +kernel), List.mem_of_getElem? (i := 1071) (by decide +kernel)⟩
theorem lw_p34 : lw_okq (⟨"WayBookModel", "isPart", "(IIII)Z"⟩, 33) := ⟨⟨by decide +kernel, by decide +kernel⟩, List.mem_of_getElem? (i := 892) (by decide +kernel), List.mem_of_getElem? (i := 1085) (by decide +kernel), List.mem_of_getElem? (i := 1086) (by decide +kernel)⟩
theorem lw_p35 : lw_okq (⟨"WayBookModel", "isFamily", "(I)Z"⟩, 33) := ⟨⟨by decide +kernel, by decide +kernel⟩, List.mem_of_getElem? (i := 892) (by decide +kernel), List.mem_of_getElem? (i := 1093) (by decide +kernel), List.mem_of_getElem? (i := 1094) (by decide +kernel)⟩
theorem lw_p36 : lw_okq (⟨"WayBookModel", "isWay", "(II)Z"⟩, 33) := ⟨⟨by decide +kernel, by decide +kernel⟩, List.mem_of_getElem? (i := 892) (by decide +kernel), List.mem_of_getElem? (i := 1097) (by decide +kernel), List.mem_of_getElem? (i := 1098) (by decide +kernel)⟩
theorem lw_p37 : lw_okq (⟨"WayBookModel", "count0", "(I)I"⟩, 33) := ⟨⟨by decide +kernel, by decide +kernel⟩, List.mem_of_getElem? (i := 892) (by decide +kernel), List.mem_of_getElem? (i := 1105) (by decide +kernel), List.mem_of_getElem? (i := 1106) (by decide +kernel)⟩
theorem lw_p38 : lw_okq (⟨"WayBookModel", "unions", "(II)V"⟩, 33) := ⟨⟨by decide +kernel, by decide +kernel⟩, List.mem_of_getElem? (i := 892) (by decide +kernel), List.mem_of_getElem? (i := 1109) (by decide +kernel), List.mem_of_getElem? (i := 1110) (by decide +kernel)⟩
theorem lw_p39 : lw_okq (⟨"WayBookModel", "rest", "(II)V"⟩, 33) := ⟨⟨by decide +kernel, by decide +kernel⟩, List.mem_of_getElem? (i := 892) (by decide +kernel), List.mem_of_getElem? (i := 1113) (by decide +kernel), List.mem_of_getElem? (i := 1114) (by decide +kernel)⟩
theorem lw_p40 : lw_okq (⟨"WayBookModel", "isOver", "(III)Z"⟩, 33) := ⟨⟨by decide +kernel, by decide +kernel⟩, List.mem_of_getElem? (i := 892) (by decide +kernel), List.mem_of_getElem? (i := 1117) (by decide +kernel), List.mem_of_getElem? (i := 1118) (by decide +kernel)⟩
theorem lw_p41 : lw_okq (⟨"WayBookModel", "joined", "(IIII)Z"⟩, 33) := ⟨⟨by decide +kernel, by decide +kernel⟩, List.mem_of_getElem? (i := 892) (by decide +kernel), List.mem_of_getElem? (i := 1121) (by decide +kernel), List.mem_of_getElem? (i := 1122) (by decide +kernel)⟩
theorem lw_p42 : lw_okq (⟨"WayBookModel", "handed", "()I"⟩, 33) := ⟨⟨by decide +kernel, by decide +kernel⟩, List.mem_of_getElem? (i := 892) (by decide +kernel), List.mem_of_getElem? (i := 1125) (by decide +kernel), List.mem_of_getElem? (i := 1126) (by decide +kernel)⟩
theorem lw_p43 : lw_okq (⟨"WayBookModel", "isLeastMeeting", "(II)Z"⟩, 33) := ⟨⟨by decide +kernel, by decide +kernel⟩, List.mem_of_getElem? (i := 892) (by decide +kernel), List.mem_of_getElem? (i := 1133) (by decide +kernel), List.mem_of_getElem? (i := 1134) (by decide +kernel)⟩
theorem lw_p44 : lw_okq (⟨"WayBookModel", "meets", "(II)Z"⟩, 33) := ⟨⟨by decide +kernel, by decide +kernel⟩, List.mem_of_getElem? (i := 892) (by decide +kernel), List.mem_of_getElem? (i := 1137) (by decide +kernel), List.mem_of_getElem? (i := 1138) (by decide +kernel)⟩
theorem lw_p45 : lw_okq (⟨"WayBookModel", "isThin", "(IIZ)Z"⟩, 33) := ⟨⟨by decide +kernel, by decide +kernel⟩, List.mem_of_getElem? (i := 892) (by decide +kernel), List.mem_of_getElem? (i := 1141) (by decide +kernel), List.mem_of_getElem? (i := 1142) (by decide +kernel)⟩
theorem lw_p46 : lw_okq (⟨"WayBookModel", "sumOf", "(I)I"⟩, 33) := ⟨⟨by decide +kernel, by decide +kernel⟩, List.mem_of_getElem? (i := 892) (by decide +kernel), List.mem_of_getElem? (i := 1153) (by decide +kernel), List.mem_of_getElem? (i := 1154) (by decide +kernel)⟩
theorem lw_p47 : lw_okq (⟨"WayBookModel", "bookOf", "(II)I"⟩, 33) := ⟨⟨by decide +kernel, by decide +kernel⟩, List.mem_of_getElem? (i := 892) (by decide +kernel), List.mem_of_getElem? (i := 1173) (by decide +kernel), List.mem_of_getElem? (i := 1174) (by decide +kernel)⟩
def lw_privs_3 : List (MethodName × Nat) := [(⟨"WayBookModel", "heaps", "(I)I"⟩, 33), (⟨"WayBookModel", "hasRing", "(I)Z"⟩, 33), (⟨"WayBookModel", "isPart", "(IIII)Z"⟩, 33), (⟨"WayBookModel", "isFamily", "(I)Z"⟩, 33), (⟨"WayBookModel", "isWay", "(II)Z"⟩, 33), (⟨"WayBookModel", "count0", "(I)I"⟩, 33), (⟨"WayBookModel", "unions", "(II)V"⟩, 33), (⟨"WayBookModel", "rest", "(II)V"⟩, 33), (⟨"WayBookModel", "isOver", "(III)Z"⟩, 33), (⟨"WayBookModel", "joined", "(IIII)Z"⟩, 33), (⟨"WayBookModel", "handed", "()I"⟩, 33), (⟨"WayBookModel", "isLeastMeeting", "(II)Z"⟩, 33), (⟨"WayBookModel", "meets", "(II)Z"⟩, 33), (⟨"WayBookModel", "isThin", "(IIZ)Z"⟩, 33), (⟨"WayBookModel", "sumOf", "(I)I"⟩, 33), (⟨"WayBookModel", "bookOf", "(II)I"⟩, 33)]
theorem lw_r3 : ∀ q ∈ lw_privs_3, lw_okq q := List.forall_mem_cons.mpr ⟨lw_p32, List.forall_mem_cons.mpr ⟨lw_p33, List.forall_mem_cons.mpr ⟨lw_p34, List.forall_mem_cons.mpr ⟨lw_p35, List.forall_mem_cons.mpr ⟨lw_p36, List.forall_mem_cons.mpr ⟨lw_p37, List.forall_mem_cons.mpr ⟨lw_p38, List.forall_mem_cons.mpr ⟨lw_p39, List.forall_mem_cons.mpr ⟨lw_p40, List.forall_mem_cons.mpr ⟨lw_p41, List.forall_mem_cons.mpr ⟨lw_p42, List.forall_mem_cons.mpr ⟨lw_p43, List.forall_mem_cons.mpr ⟨lw_p44, List.forall_mem_cons.mpr ⟨lw_p45, List.forall_mem_cons.mpr ⟨lw_p46, List.forall_mem_cons.mpr ⟨lw_p47, fun _ h => absurd h List.not_mem_nil⟩⟩⟩⟩⟩⟩⟩⟩⟩⟩⟩⟩⟩⟩⟩⟩
theorem lw_p48 : lw_okq (⟨"WayBookModel", "knot", "(III)I"⟩, 33) := ⟨⟨by decide +kernel, by decide +kernel⟩, List.mem_of_getElem? (i := 892) (by decide +kernel), List.mem_of_getElem? (i := 1180) (by decide +kernel), List.mem_of_getElem? (i := 1181) (by decide +kernel)⟩
theorem lw_p49 : lw_okq (⟨"WayBookModel", "way0", "(II)I"⟩, 33) := ⟨⟨by decide +kernel, by decide +kernel⟩, List.mem_of_getElem? (i := 892) (by decide +kernel), List.mem_of_getElem? (i := 1200) (by decide +kernel), List.mem_of_getElem? (i := 1201) (by decide +kernel)⟩
theorem lw_p50 : lw_okq (⟨"WayBookModel", "chance0", "(III)J"⟩, 33) := ⟨⟨by decide +kernel, by decide +kernel⟩, List.mem_of_getElem? (i := 892) (by decide +kernel), List.mem_of_getElem? (i := 1228) (by decide +kernel), List.mem_of_getElem? (i := 1229) (by decide +kernel)⟩
theorem lw_p51 : lw_okq (⟨"WayBookModel", "rowsOf", "(I)V"⟩, 33) := ⟨⟨by decide +kernel, by decide +kernel⟩, List.mem_of_getElem? (i := 892) (by decide +kernel), List.mem_of_getElem? (i := 1245) (by decide +kernel), List.mem_of_getElem? (i := 1246) (by decide +kernel)⟩
theorem lw_p52 : lw_okq (⟨"WayBookModel", "writeKnot", "(I)V"⟩, 33) := ⟨⟨by decide +kernel, by decide +kernel⟩, List.mem_of_getElem? (i := 892) (by decide +kernel), List.mem_of_getElem? (i := 1249) (by decide +kernel), List.mem_of_getElem? (i := 1250) (by decide +kernel)⟩
theorem lw_p53 : lw_okq (⟨"WayBookModel", "ref", "(I)I"⟩, 33) := ⟨⟨by decide +kernel, by decide +kernel⟩, List.mem_of_getElem? (i := 892) (by decide +kernel), List.mem_of_getElem? (i := 1253) (by decide +kernel), List.mem_of_getElem? (i := 1254) (by decide +kernel)⟩
theorem lw_p54 : lw_okq (⟨"WayBookModel", "countOf", "(I)I"⟩, 33) := ⟨⟨by decide +kernel, by decide +kernel⟩, List.mem_of_getElem? (i := 892) (by decide +kernel), List.mem_of_getElem? (i := 1257) (by decide +kernel), List.mem_of_getElem? (i := 1258) (by decide +kernel)⟩
theorem lw_p55 : lw_okq (⟨"WayBookModel", "wrong", "(I)I"⟩, 33) := ⟨⟨by decide +kernel, by decide +kernel⟩, List.mem_of_getElem? (i := 892) (by decide +kernel), List.mem_of_getElem? (i := 1273) (by decide +kernel), List.mem_of_getElem? (i := 1274) (by decide +kernel)⟩
theorem lw_p56 : lw_okq (⟨"WayBookModel", "isAbove", "(II)Z"⟩, 33) := ⟨⟨by decide +kernel, by decide +kernel⟩, List.mem_of_getElem? (i := 892) (by decide +kernel), List.mem_of_getElem? (i := 1277) (by decide +kernel), List.mem_of_getElem? (i := 1278) (by decide +kernel)⟩
theorem lw_p57 : lw_okq (⟨"WayBookModel", "rowCount", "(I)I"⟩, 33) := ⟨⟨by decide +kernel, by decide +kernel⟩, List.mem_of_getElem? (i := 892) (by decide +kernel), List.mem_of_getElem? (i := 1281) (by decide +kernel), List.mem_of_getElem? (i := 1282) (by decide +kernel)⟩
theorem lw_p58 : lw_okq (⟨"WayBookModel", "fits", "(II)I"⟩, 33) := ⟨⟨by decide +kernel, by decide +kernel⟩, List.mem_of_getElem? (i := 892) (by decide +kernel), List.mem_of_getElem? (i := 1313) (by decide +kernel), List.mem_of_getElem? (i := 1314) (by decide +kernel)⟩
theorem lw_p59 : lw_okq (⟨"WayBookModel", "ran", "(I)V"⟩, 33) := ⟨⟨by decide +kernel, by decide +kernel⟩, List.mem_of_getElem? (i := 892) (by decide +kernel), List.mem_of_getElem? (i := 1317) (by decide +kernel), List.mem_of_getElem? (i := 1318) (by decide +kernel)⟩
theorem lw_p60 : lw_okq (⟨"WayBookModel", "joins", "(II)I"⟩, 33) := ⟨⟨by decide +kernel, by decide +kernel⟩, List.mem_of_getElem? (i := 892) (by decide +kernel), List.mem_of_getElem? (i := 1321) (by decide +kernel), List.mem_of_getElem? (i := 1322) (by decide +kernel)⟩
theorem lw_p61 : lw_okq (⟨"WayBookModel", "familyJoins", "(II)I"⟩, 33) := ⟨⟨by decide +kernel, by decide +kernel⟩, List.mem_of_getElem? (i := 892) (by decide +kernel), List.mem_of_getElem? (i := 1325) (by decide +kernel), List.mem_of_getElem? (i := 1326) (by decide +kernel)⟩
theorem lw_p62 : lw_okq (⟨"WayBookModel", "weighs", "(II)I"⟩, 33) := ⟨⟨by decide +kernel, by decide +kernel⟩, List.mem_of_getElem? (i := 892) (by decide +kernel), List.mem_of_getElem? (i := 1329) (by decide +kernel), List.mem_of_getElem? (i := 1330) (by decide +kernel)⟩
theorem lw_p63 : lw_okq (⟨"WayBookModel", "familyWeighs", "(II)I"⟩, 33) := ⟨⟨by decide +kernel, by decide +kernel⟩, List.mem_of_getElem? (i := 892) (by decide +kernel), List.mem_of_getElem? (i := 1333) (by decide +kernel), List.mem_of_getElem? (i := 1334) (by decide +kernel)⟩
def lw_privs_4 : List (MethodName × Nat) := [(⟨"WayBookModel", "knot", "(III)I"⟩, 33), (⟨"WayBookModel", "way0", "(II)I"⟩, 33), (⟨"WayBookModel", "chance0", "(III)J"⟩, 33), (⟨"WayBookModel", "rowsOf", "(I)V"⟩, 33), (⟨"WayBookModel", "writeKnot", "(I)V"⟩, 33), (⟨"WayBookModel", "ref", "(I)I"⟩, 33), (⟨"WayBookModel", "countOf", "(I)I"⟩, 33), (⟨"WayBookModel", "wrong", "(I)I"⟩, 33), (⟨"WayBookModel", "isAbove", "(II)Z"⟩, 33), (⟨"WayBookModel", "rowCount", "(I)I"⟩, 33), (⟨"WayBookModel", "fits", "(II)I"⟩, 33), (⟨"WayBookModel", "ran", "(I)V"⟩, 33), (⟨"WayBookModel", "joins", "(II)I"⟩, 33), (⟨"WayBookModel", "familyJoins", "(II)I"⟩, 33), (⟨"WayBookModel", "weighs", "(II)I"⟩, 33), (⟨"WayBookModel", "familyWeighs", "(II)I"⟩, 33)]
theorem lw_r4 : ∀ q ∈ lw_privs_4, lw_okq q := List.forall_mem_cons.mpr ⟨lw_p48, List.forall_mem_cons.mpr ⟨lw_p49, List.forall_mem_cons.mpr ⟨lw_p50, List.forall_mem_cons.mpr ⟨lw_p51, List.forall_mem_cons.mpr ⟨lw_p52, List.forall_mem_cons.mpr ⟨lw_p53, List.forall_mem_cons.mpr ⟨lw_p54, List.forall_mem_cons.mpr ⟨lw_p55, List.forall_mem_cons.mpr ⟨lw_p56, List.forall_mem_cons.mpr ⟨lw_p57, List.forall_mem_cons.mpr ⟨lw_p58, List.forall_mem_cons.mpr ⟨lw_p59, List.forall_mem_cons.mpr ⟨lw_p60, List.forall_mem_cons.mpr ⟨lw_p61, List.forall_mem_cons.mpr ⟨lw_p62, List.forall_mem_cons.mpr ⟨lw_p63, fun _ h => absurd h List.not_mem_nil⟩⟩⟩⟩⟩⟩⟩⟩⟩⟩⟩⟩⟩⟩⟩⟩
def lw_privs : List (MethodName × Nat) := lw_privs_1 ++ (lw_privs_2 ++ (lw_privs_3 ++ (lw_privs_4)))
def lw_tbl : List Cond := k2_sels lw_privs ++ tables_1
theorem lw_privs_ok : ∀ q ∈ lw_privs, lw_okq q := by
  show ∀ q ∈ lw_privs_1 ++ (lw_privs_2 ++ (lw_privs_3 ++ (lw_privs_4))), lw_okq q
  exact List.forall_mem_append.mpr ⟨lw_r1, List.forall_mem_append.mpr ⟨lw_r2, List.forall_mem_append.mpr ⟨lw_r3, lw_r4⟩⟩⟩
-- ===== end of PART A; then your names; then what follows =====
/-! ===== BEGIN words of one list among another's, by their places ===== -/
theorem goodIn_r {big : List Cond} (ws : List Cond) (ps : List Nat) (hp : ws = ps.filterMap (fun i => big[i]?)) (h : ws.all goodWord = true) : GoodIn big ws := by
  intro w hw
  have h1 := List.all_eq_true.mp h w hw
  rw [hp] at hw
  obtain ⟨i, -, hi⟩ := List.mem_filterMap.mp hw
  have hm : w ∈ big := by first | exact List.mem_of_getElem? hi | exact List.getElem?_mem hi
  exact ⟨hm, good_of_word h1⟩
theorem goodIn_app {big a b : List Cond} (ha : GoodIn big a) (hb : GoodIn big b) : GoodIn big (a ++ b) := fun w h => (List.mem_append.mp h).elim (ha w) (hb w)
theorem goodIn_ca {big a b : List Cond} {c : Cond} (ha : GoodIn big (c :: a)) (hb : GoodIn big b) : GoodIn big (c :: (a ++ b)) := fun w h => (List.mem_cons.mp h).elim (fun e => ha w (List.mem_cons.mpr (Or.inl e))) (fun h => (List.mem_append.mp h).elim (fun h => ha w (List.mem_cons.mpr (Or.inr h))) (hb w))
theorem goodIn_sub {big ws : List Cond} (hm : ∀ w ∈ ws, w ∈ big) (h : ws.all goodWord = true) : GoodIn big ws := fun w hw => ⟨hm w hw, good_of_word (List.all_eq_true.mp h w hw)⟩
/-! ===== END ===== -/


/-! ===== BEGIN printed: names, fields, word lists, decode rows ===== -/
def RX0 : String := "WayBook$Acts"
def TX0 : u_T := fun k => match k with
  | 0 => ("WayBook$Acts", "ran", "I", false)
  | 1 => ("WayBook$Acts", "bodies", "[I", true)
  | 2 => ("WayBook$Acts", "kind", "I", false)
  | _ => ("WayBook$Acts", "ways", "I", false)
def tyX0 : Nat → FieldType := fun k => match k with
  | 0 => .int
  | 1 => .array .int
  | 2 => .int
  | _ => .int
abbrev wsX00 : List Cond := u_ws RX0 TX0 4
theorem nmX0 : ∀ a, a < 4 → ∀ b, b < 4 → a ≠ b → (TX0 a).2.1 ≠ (TX0 b).2.1 := by decide +kernel
theorem tyX0_ok : ∀ k, k < 4 → parseFieldDescriptor (TX0 k).2.2.1 = some (tyX0 k) := by decide +kernel
abbrev cX0_init : ByteArray := prog_2_method_1_code
def yX0_init : MethodName := ⟨RX0, "<init>", "()V"⟩
abbrev cX0_forget : ByteArray := prog_2_method_2_code
def yX0_forget : MethodName := ⟨RX0, "forget", "()V"⟩
abbrev cX0_begin : ByteArray := prog_2_method_3_code
def yX0_begin : MethodName := ⟨RX0, "begin", "(IIII)I"⟩
abbrev cX0_kept : ByteArray := prog_2_method_4_code
def yX0_kept : MethodName := ⟨RX0, "kept", "(I)I"⟩
abbrev cX0_note : ByteArray := prog_2_method_5_code
def yX0_note : MethodName := ⟨RX0, "note", "(I)V"⟩
abbrev cX0_bodyOf : ByteArray := prog_2_method_6_code
def yX0_bodyOf : MethodName := ⟨RX0, "bodyOf", "(II)I"⟩
abbrev cX0_run : ByteArray := prog_2_method_7_code
def yX0_run : MethodName := ⟨RX0, "run", "(IIII)I"⟩
def RX1 : String := "WayBook$Host"
def TX1 : u_T := fun k => match k with
  | 0 => ("WayBook$Host", "sorts", "[I", true)
  | 1 => ("WayBook$Host", "lengths", "[I", true)
  | 2 => ("WayBook$Host", "items", "[[I", true)
  | 3 => ("WayBook$Host", "heldSorts", "[I", true)
  | _ => ("WayBook$Host", "heldSizes", "[I", true)
def tyX1 : Nat → FieldType := fun k => match k with
  | 0 => .array .int
  | 1 => .array .int
  | 2 => .array (.array .int)
  | 3 => .array .int
  | _ => .array .int
abbrev wsX10 : List Cond := u_ws RX1 TX1 5
theorem nmX1 : ∀ a, a < 5 → ∀ b, b < 5 → a ≠ b → (TX1 a).2.1 ≠ (TX1 b).2.1 := by decide +kernel
theorem tyX1_ok : ∀ k, k < 5 → parseFieldDescriptor (TX1 k).2.2.1 = some (tyX1 k) := by decide +kernel
abbrev cX1_init : ByteArray := prog_3_method_1_code
def yX1_init : MethodName := ⟨RX1, "<init>", "()V"⟩
abbrev cX1_isNumber : ByteArray := prog_3_method_2_code
def yX1_isNumber : MethodName := ⟨RX1, "isNumber", "(I)Z"⟩
abbrev cX1_layOut : ByteArray := prog_3_method_3_code
def yX1_layOut : MethodName := ⟨RX1, "layOut", "(III)I"⟩
abbrev cX1_fill : ByteArray := prog_3_method_4_code
def yX1_fill : MethodName := ⟨RX1, "fill", "(III)I"⟩
abbrev cX1_isItem : ByteArray := prog_3_method_5_code
def yX1_isItem : MethodName := ⟨RX1, "isItem", "(II)Z"⟩
abbrev cX1_cut : ByteArray := prog_3_method_6_code
def yX1_cut : MethodName := ⟨RX1, "cut", "(II)I"⟩
abbrev cX1_refusalOfThree : ByteArray := prog_3_method_7_code
def yX1_refusalOfThree : MethodName := ⟨RX1, "refusalOfThree", "(III)I"⟩
abbrev cX1_item : ByteArray := prog_3_method_8_code
def yX1_item : MethodName := ⟨RX1, "item", "(II)I"⟩
abbrev cX1_hold : ByteArray := prog_3_method_9_code
def yX1_hold : MethodName := ⟨RX1, "hold", "(III)I"⟩
abbrev cX1_holdSheet : ByteArray := prog_3_method_10_code
def yX1_holdSheet : MethodName := ⟨RX1, "holdSheet", "(II)I"⟩
abbrev cX1_heldFor : ByteArray := prog_3_method_11_code
def yX1_heldFor : MethodName := ⟨RX1, "heldFor", "(II)I"⟩
abbrev cX1_isOne : ByteArray := prog_3_method_12_code
def yX1_isOne : MethodName := ⟨RX1, "isOne", "(II)Z"⟩
def RX2 : String := "WayBook$Net"
def TX2 : u_T := fun k => match k with
  | 0 => ("WayBook$Net", "posts", "I", false)
  | 1 => ("WayBook$Net", "roads", "I", false)
  | 2 => ("WayBook$Net", "loads", "[I", true)
  | 3 => ("WayBook$Net", "lesser", "[I", true)
  | 4 => ("WayBook$Net", "greater", "[I", true)
  | 5 => ("WayBook$Net", "weights", "[I", true)
  | _ => ("WayBook$Net", "eighths", "[I", true)
def tyX2 : Nat → FieldType := fun k => match k with
  | 0 => .int
  | 1 => .int
  | 2 => .array .int
  | 3 => .array .int
  | 4 => .array .int
  | 5 => .array .int
  | _ => .array .int
abbrev wsX20 : List Cond := u_ws RX2 TX2 7
theorem nmX2 : ∀ a, a < 7 → ∀ b, b < 7 → a ≠ b → (TX2 a).2.1 ≠ (TX2 b).2.1 := by decide +kernel
theorem tyX2_ok : ∀ k, k < 7 → parseFieldDescriptor (TX2 k).2.2.1 = some (tyX2 k) := by decide +kernel
abbrev cX2_init : ByteArray := prog_4_method_1_code
def yX2_init : MethodName := ⟨RX2, "<init>", "()V"⟩
abbrev cX2_isPost : ByteArray := prog_4_method_2_code
def yX2_isPost : MethodName := ⟨RX2, "isPost", "(I)Z"⟩
abbrev cX2_isRoad : ByteArray := prog_4_method_3_code
def yX2_isRoad : MethodName := ⟨RX2, "isRoad", "(I)Z"⟩
abbrev cX2_hasRoads : ByteArray := prog_4_method_4_code
def yX2_hasRoads : MethodName := ⟨RX2, "hasRoads", "(I)Z"⟩
abbrev cX2_addPost : ByteArray := prog_4_method_5_code
def yX2_addPost : MethodName := ⟨RX2, "addPost", "(I)I"⟩
abbrev cX2_areJoined : ByteArray := prog_4_method_6_code
def yX2_areJoined : MethodName := ⟨RX2, "areJoined", "(II)Z"⟩
abbrev cX2_addRoad : ByteArray := prog_4_method_7_code
def yX2_addRoad : MethodName := ⟨RX2, "addRoad", "(III)I"⟩
abbrev cX2_loseRoad : ByteArray := prog_4_method_8_code
def yX2_loseRoad : MethodName := ⟨RX2, "loseRoad", "()I"⟩
abbrev cX2_weightOf : ByteArray := prog_4_method_9_code
def yX2_weightOf : MethodName := ⟨RX2, "weightOf", "(I)I"⟩
abbrev cX2_eighthsOf : ByteArray := prog_4_method_10_code
def yX2_eighthsOf : MethodName := ⟨RX2, "eighthsOf", "(I)I"⟩
abbrev cX2_beyond : ByteArray := prog_4_method_11_code
def yX2_beyond : MethodName := ⟨RX2, "beyond", "(II)I"⟩
abbrev cX2_roadsAt : ByteArray := prog_4_method_12_code
def yX2_roadsAt : MethodName := ⟨RX2, "roadsAt", "(I)I"⟩
abbrev cX2_placeOf : ByteArray := prog_4_method_13_code
def yX2_placeOf : MethodName := ⟨RX2, "placeOf", "(I)I"⟩
def RX3 : String := "WayBook$Rows"
def TX3 : u_T := fun k => match k with
  | 0 => ("WayBook$Rows", "size", "I", false)
  | 1 => ("WayBook$Rows", "cells", "[[I", true)
  | 2 => ("WayBook$Rows", "latest", "[I", true)
  | _ => ("WayBook$Rows", "before", "[I", true)
def tyX3 : Nat → FieldType := fun k => match k with
  | 0 => .int
  | 1 => .array (.array .int)
  | 2 => .array .int
  | _ => .array .int
abbrev wsX30 : List Cond := u_ws RX3 TX3 4
theorem nmX3 : ∀ a, a < 4 → ∀ b, b < 4 → a ≠ b → (TX3 a).2.1 ≠ (TX3 b).2.1 := by decide +kernel
theorem tyX3_ok : ∀ k, k < 4 → parseFieldDescriptor (TX3 k).2.2.1 = some (tyX3 k) := by decide +kernel
abbrev cX3_init : ByteArray := prog_5_method_1_code
def yX3_init : MethodName := ⟨RX3, "<init>", "()V"⟩
abbrev cX3_isCell : ByteArray := prog_5_method_2_code
def yX3_isCell : MethodName := ⟨RX3, "isCell", "(II)Z"⟩
abbrev cX3_list : ByteArray := prog_5_method_3_code
def yX3_list : MethodName := ⟨RX3, "list", "(LWayBook$Ways;)I"⟩
abbrev cX3_clear : ByteArray := prog_5_method_4_code
def yX3_clear : MethodName := ⟨RX3, "clear", "()V"⟩
abbrev cX3_over : ByteArray := prog_5_method_5_code
def yX3_over : MethodName := ⟨RX3, "over", "(LWayBook$Ways;II)I"⟩
abbrev cX3_under : ByteArray := prog_5_method_6_code
def yX3_under : MethodName := ⟨RX3, "under", "(JI)I"⟩
abbrev cX3_knot : ByteArray := prog_5_method_7_code
def yX3_knot : MethodName := ⟨RX3, "knot", "(III)I"⟩
abbrev cX3_mark : ByteArray := prog_5_method_8_code
def yX3_mark : MethodName := ⟨RX3, "mark", "(III)I"⟩
abbrev cX3_find : ByteArray := prog_5_method_9_code
def yX3_find : MethodName := ⟨RX3, "find", "(III)I"⟩
abbrev cX3_add : ByteArray := prog_5_method_10_code
def yX3_add : MethodName := ⟨RX3, "add", "(III)I"⟩
abbrev cX3_countOf : ByteArray := prog_5_method_11_code
def yX3_countOf : MethodName := ⟨RX3, "countOf", "(I)I"⟩
abbrev cX3_firstWrong : ByteArray := prog_5_method_12_code
def yX3_firstWrong : MethodName := ⟨RX3, "firstWrong", "(LWayBook$Rows;)I"⟩
abbrev cX3_wrongness : ByteArray := prog_5_method_13_code
def yX3_wrongness : MethodName := ⟨RX3, "wrongness", "(ILWayBook$Rows;)I"⟩
abbrev cX3_isLead : ByteArray := prog_5_method_14_code
def yX3_isLead : MethodName := ⟨RX3, "isLead", "(II)Z"⟩
abbrev cX3_roadOfLead : ByteArray := prog_5_method_15_code
def yX3_roadOfLead : MethodName := ⟨RX3, "roadOfLead", "(I)I"⟩
abbrev cX3_isLike : ByteArray := prog_5_method_16_code
def yX3_isLike : MethodName := ⟨RX3, "isLike", "(LWayBook$Rows;)Z"⟩
def RX4 : String := "WayBook$Search"
def TX4 : u_T := fun k => match k with
  | 0 => ("WayBook$Search", "net", "LWayBook$Net;", true)
  | 1 => ("WayBook$Search", "found", "LWayBook$Ways;", true)
  | 2 => ("WayBook$Search", "goal", "I", false)
  | 3 => ("WayBook$Search", "least", "I", false)
  | 4 => ("WayBook$Search", "wanted", "I", false)
  | 5 => ("WayBook$Search", "whole", "Z", false)
  | 6 => ("WayBook$Search", "low", "I", false)
  | _ => ("WayBook$Search", "high", "I", false)
def tyX4 : Nat → FieldType := fun k => match k with
  | 0 => .object "WayBook$Net"
  | 1 => .object "WayBook$Ways"
  | 2 => .int
  | 3 => .int
  | 4 => .int
  | 5 => .boolean
  | 6 => .int
  | _ => .int
abbrev wsX40 : List Cond := u_ws RX4 TX4 8
theorem nmX4 : ∀ a, a < 8 → ∀ b, b < 8 → a ≠ b → (TX4 a).2.1 ≠ (TX4 b).2.1 := by decide +kernel
theorem tyX4_ok : ∀ k, k < 8 → parseFieldDescriptor (TX4 k).2.2.1 = some (tyX4 k) := by decide +kernel
abbrev cX4_init : ByteArray := prog_6_method_1_code
def yX4_init : MethodName := ⟨RX4, "<init>", "(LWayBook$Net;LWayBook$Ways;)V"⟩
abbrev cX4_findPaths : ByteArray := prog_6_method_2_code
def yX4_findPaths : MethodName := ⟨RX4, "findPaths", "(IIZ)V"⟩
abbrev cX4_findRounds : ByteArray := prog_6_method_3_code
def yX4_findRounds : MethodName := ⟨RX4, "findRounds", "(Z)V"⟩
abbrev cX4_walk : ByteArray := prog_6_method_4_code
def yX4_walk : MethodName := ⟨RX4, "walk", "(IIII)V"⟩
abbrev cX4_findTrees : ByteArray := prog_6_method_5_code
def yX4_findTrees : MethodName := ⟨RX4, "findTrees", "(I)V"⟩
abbrev cX4_findParts : ByteArray := prog_6_method_6_code
def yX4_findParts : MethodName := ⟨RX4, "findParts", "(III)V"⟩
abbrev cX4_gather : ByteArray := prog_6_method_7_code
def yX4_gather : MethodName := ⟨RX4, "gather", "(IIII)V"⟩
abbrev cX4_label : ByteArray := prog_6_method_8_code
def yX4_label : MethodName := ⟨RX4, "label", "(II)I"⟩
abbrev cX4_relabelled : ByteArray := prog_6_method_9_code
def yX4_relabelled : MethodName := ⟨RX4, "relabelled", "(III)I"⟩
abbrev cX4_isParting : ByteArray := prog_6_method_10_code
def yX4_isParting : MethodName := ⟨RX4, "isParting", "(II)Z"⟩
abbrev cX4_isFitting : ByteArray := prog_6_method_11_code
def yX4_isFitting : MethodName := ⟨RX4, "isFitting", "(I)Z"⟩
abbrev cX4_loadOf : ByteArray := prog_6_method_12_code
def yX4_loadOf : MethodName := ⟨RX4, "loadOf", "(II)I"⟩
abbrev cX4_findPairs : ByteArray := prog_6_method_13_code
def yX4_findPairs : MethodName := ⟨RX4, "findPairs", "(Z)V"⟩
abbrev cX4_match : ByteArray := prog_6_method_14_code
def yX4_match : MethodName := ⟨RX4, "match", "(III)V"⟩
def RX5 : String := "WayBook$Sums"
def TX5 : u_T := fun k => match k with
  | 0 => ("WayBook$Sums", "adds", "[I", true)
  | 1 => ("WayBook$Sums", "lowSums", "[I", true)
  | 2 => ("WayBook$Sums", "highSums", "[I", true)
  | _ => ("WayBook$Sums", "sizes", "[I", true)
def tyX5 : Nat → FieldType := fun k => match k with
  | 0 => .array .int
  | 1 => .array .int
  | 2 => .array .int
  | _ => .array .int
abbrev wsX50 : List Cond := u_ws RX5 TX5 4
theorem nmX5 : ∀ a, a < 4 → ∀ b, b < 4 → a ≠ b → (TX5 a).2.1 ≠ (TX5 b).2.1 := by decide +kernel
theorem tyX5_ok : ∀ k, k < 4 → parseFieldDescriptor (TX5 k).2.2.1 = some (tyX5 k) := by decide +kernel
abbrev cX5_init : ByteArray := prog_7_method_1_code
def yX5_init : MethodName := ⟨RX5, "<init>", "()V"⟩
abbrev cX5_learnWeights : ByteArray := prog_7_method_2_code
def yX5_learnWeights : MethodName := ⟨RX5, "learnWeights", "(LWayBook$Net;)V"⟩
abbrev cX5_learnTurn : ByteArray := prog_7_method_3_code
def yX5_learnTurn : MethodName := ⟨RX5, "learnTurn", "(I)V"⟩
abbrev cX5_learn : ByteArray := prog_7_method_4_code
def yX5_learn : MethodName := ⟨RX5, "learn", "()V"⟩
abbrev cX5_of : ByteArray := prog_7_method_5_code
def yX5_of : MethodName := ⟨RX5, "of", "(I)I"⟩
abbrev cX5_nthBest : ByteArray := prog_7_method_6_code
def yX5_nthBest : MethodName := ⟨RX5, "nthBest", "([IIZI)I"⟩
abbrev cX5_countSums : ByteArray := prog_7_method_7_code
def yX5_countSums : MethodName := ⟨RX5, "countSums", "([II)V"⟩
abbrev cX5_nthOfSum : ByteArray := prog_7_method_8_code
def yX5_nthOfSum : MethodName := ⟨RX5, "nthOfSum", "([IIII)I"⟩
def RX6 : String := "WayBook$Tally"
def TX6 : u_T := fun k => match k with
  | 0 => ("WayBook$Tally", "mine", "[J", true)
  | _ => ("WayBook$Tally", "yours", "[J", true)
def tyX6 : Nat → FieldType := fun k => match k with
  | 0 => .array .long
  | _ => .array .long
abbrev wsX60 : List Cond := u_ws RX6 TX6 2
theorem nmX6 : ∀ a, a < 2 → ∀ b, b < 2 → a ≠ b → (TX6 a).2.1 ≠ (TX6 b).2.1 := by decide +kernel
theorem tyX6_ok : ∀ k, k < 2 → parseFieldDescriptor (TX6 k).2.2.1 = some (tyX6 k) := by decide +kernel
abbrev cX6_init : ByteArray := prog_8_method_1_code
def yX6_init : MethodName := ⟨RX6, "<init>", "()V"⟩
abbrev cX6_unite : ByteArray := prog_8_method_2_code
def yX6_unite : MethodName := ⟨RX6, "unite", "(LWayBook$Ways;LWayBook$Ways;LWayBook$Ways;)V"⟩
abbrev cX6_addWithin : ByteArray := prog_8_method_3_code
def yX6_addWithin : MethodName := ⟨RX6, "addWithin", "([JII)V"⟩
abbrev cX6_chanceOf : ByteArray := prog_8_method_4_code
def yX6_chanceOf : MethodName := ⟨RX6, "chanceOf", "(LWayBook$Ways;LWayBook$Net;II)J"⟩
def RX7 : String := "WayBook$Ways"
def TX7 : u_T := fun k => match k with
  | 0 => ("WayBook$Ways", "kind", "I", false)
  | _ => ("WayBook$Ways", "words", "[J", true)
def tyX7 : Nat → FieldType := fun k => match k with
  | 0 => .int
  | _ => .array .long
abbrev wsX70 : List Cond := u_ws RX7 TX7 2
theorem nmX7 : ∀ a, a < 2 → ∀ b, b < 2 → a ≠ b → (TX7 a).2.1 ≠ (TX7 b).2.1 := by decide +kernel
theorem tyX7_ok : ∀ k, k < 2 → parseFieldDescriptor (TX7 k).2.2.1 = some (tyX7 k) := by decide +kernel
abbrev cX7_init : ByteArray := prog_9_method_1_code
def yX7_init : MethodName := ⟨RX7, "<init>", "()V"⟩
abbrev cX7_clear : ByteArray := prog_9_method_2_code
def yX7_clear : MethodName := ⟨RX7, "clear", "(I)V"⟩
abbrev cX7_put : ByteArray := prog_9_method_3_code
def yX7_put : MethodName := ⟨RX7, "put", "(I)V"⟩
abbrev cX7_take : ByteArray := prog_9_method_4_code
def yX7_take : MethodName := ⟨RX7, "take", "(I)V"⟩
abbrev cX7_holds : ByteArray := prog_9_method_5_code
def yX7_holds : MethodName := ⟨RX7, "holds", "(I)Z"⟩
abbrev cX7_list : ByteArray := prog_9_method_6_code
def yX7_list : MethodName := ⟨RX7, "list", "([I)I"⟩
abbrev cX7_size : ByteArray := prog_9_method_7_code
def yX7_size : MethodName := ⟨RX7, "size", "()I"⟩
abbrev cX7_sizeWith : ByteArray := prog_9_method_8_code
def yX7_sizeWith : MethodName := ⟨RX7, "sizeWith", "(I)I"⟩
abbrev cX7_sizeAhead : ByteArray := prog_9_method_9_code
def yX7_sizeAhead : MethodName := ⟨RX7, "sizeAhead", "(I)I"⟩
abbrev cX7_nth : ByteArray := prog_9_method_10_code
def yX7_nth : MethodName := ⟨RX7, "nth", "(I)I"⟩
abbrev cX7_nthBit : ByteArray := prog_9_method_11_code
def yX7_nthBit : MethodName := ⟨RX7, "nthBit", "(JI)I"⟩
abbrev cX7_used : ByteArray := prog_9_method_12_code
def yX7_used : MethodName := ⟨RX7, "used", "()I"⟩
abbrev cX7_levelsBelow : ByteArray := prog_9_method_13_code
def yX7_levelsBelow : MethodName := ⟨RX7, "levelsBelow", "(I)I"⟩
abbrev cX7_isLike : ByteArray := prog_9_method_14_code
def yX7_isLike : MethodName := ⟨RX7, "isLike", "(LWayBook$Ways;)Z"⟩
abbrev cX7_having : ByteArray := prog_9_method_15_code
def yX7_having : MethodName := ⟨RX7, "having", "(II)J"⟩
abbrev cX7_copy : ByteArray := prog_9_method_16_code
def yX7_copy : MethodName := ⟨RX7, "copy", "(LWayBook$Ways;)V"⟩
abbrev cX7_takeBoth : ByteArray := prog_9_method_17_code
def yX7_takeBoth : MethodName := ⟨RX7, "takeBoth", "(LWayBook$Ways;LWayBook$Ways;)V"⟩
abbrev cX7_takeEither : ByteArray := prog_9_method_18_code
def yX7_takeEither : MethodName := ⟨RX7, "takeEither", "(LWayBook$Ways;LWayBook$Ways;)V"⟩
abbrev cX7_takeFirstAlone : ByteArray := prog_9_method_19_code
def yX7_takeFirstAlone : MethodName := ⟨RX7, "takeFirstAlone", "(LWayBook$Ways;LWayBook$Ways;)V"⟩
abbrev cX7_takeBy : ByteArray := prog_9_method_20_code
def yX7_takeBy : MethodName := ⟨RX7, "takeBy", "(LWayBook$Ways;IZ)V"⟩
abbrev cX7_raise : ByteArray := prog_9_method_21_code
def yX7_raise : MethodName := ⟨RX7, "raise", "(LWayBook$Ways;I)V"⟩
abbrev cX7_lower : ByteArray := prog_9_method_22_code
def yX7_lower : MethodName := ⟨RX7, "lower", "(LWayBook$Ways;I)V"⟩
abbrev cX7_spreadUp : ByteArray := prog_9_method_23_code
def yX7_spreadUp : MethodName := ⟨RX7, "spreadUp", "()V"⟩
abbrev cX7_spreadDown : ByteArray := prog_9_method_24_code
def yX7_spreadDown : MethodName := ⟨RX7, "spreadDown", "()V"⟩
abbrev cX7_takeLeast : ByteArray := prog_9_method_25_code
def yX7_takeLeast : MethodName := ⟨RX7, "takeLeast", "(LWayBook$Ways;LWayBook$Ways;)V"⟩
abbrev cX7_takeGreatest : ByteArray := prog_9_method_26_code
def yX7_takeGreatest : MethodName := ⟨RX7, "takeGreatest", "(LWayBook$Ways;LWayBook$Ways;)V"⟩
abbrev cX7_takeHitting : ByteArray := prog_9_method_27_code
def yX7_takeHitting : MethodName := ⟨RX7, "takeHitting", "(LWayBook$Ways;LWayBook$Ways;)V"⟩
abbrev cX7_takeOver : ByteArray := prog_9_method_28_code
def yX7_takeOver : MethodName := ⟨RX7, "takeOver", "(LWayBook$Ways;LWayBook$Ways;[I)V"⟩
abbrev cX7_nextWithin : ByteArray := prog_9_method_29_code
def yX7_nextWithin : MethodName := ⟨RX7, "nextWithin", "(II)I"⟩
def RX8 : String := "WayBook"
def TX8 : u_T := fun k => match k with
  | 0 => ("WayBook", "net", "LWayBook$Net;", true)
  | 1 => ("WayBook", "made", "[LWayBook$Ways;", true)
  | 2 => ("WayBook", "families", "I", false)
  | 3 => ("WayBook", "spare", "LWayBook$Ways;", true)
  | 4 => ("WayBook", "other", "LWayBook$Ways;", true)
  | 5 => ("WayBook", "places", "[I", true)
  | 6 => ("WayBook", "sums", "LWayBook$Sums;", true)
  | 7 => ("WayBook", "tally", "LWayBook$Tally;", true)
  | 8 => ("WayBook", "written", "LWayBook$Rows;", true)
  | 9 => ("WayBook", "trial", "LWayBook$Rows;", true)
  | 10 => ("WayBook", "host", "LWayBook$Host;", true)
  | _ => ("WayBook", "acts", "LWayBook$Acts;", true)
def tyX8 : Nat → FieldType := fun k => match k with
  | 0 => .object "WayBook$Net"
  | 1 => .array (.object "WayBook$Ways")
  | 2 => .int
  | 3 => .object "WayBook$Ways"
  | 4 => .object "WayBook$Ways"
  | 5 => .array .int
  | 6 => .object "WayBook$Sums"
  | 7 => .object "WayBook$Tally"
  | 8 => .object "WayBook$Rows"
  | 9 => .object "WayBook$Rows"
  | 10 => .object "WayBook$Host"
  | _ => .object "WayBook$Acts"
abbrev wsX80 : List Cond := u_ws RX8 TX8 12
theorem nmX8 : ∀ a, a < 12 → ∀ b, b < 12 → a ≠ b → (TX8 a).2.1 ≠ (TX8 b).2.1 := by decide +kernel
theorem tyX8_ok : ∀ k, k < 12 → parseFieldDescriptor (TX8 k).2.2.1 = some (tyX8 k) := by decide +kernel
abbrev cX8_init : ByteArray := prog_1_method_1_code
def yX8_init : MethodName := ⟨RX8, "<init>", "()V"⟩
abbrev cX8_post : ByteArray := prog_1_method_2_code
def yX8_post : MethodName := ⟨RX8, "post", "(I)I"⟩
abbrev cX8_road : ByteArray := prog_1_method_3_code
def yX8_road : MethodName := ⟨RX8, "road", "(III)I"⟩
abbrev cX8_odds : ByteArray := prog_1_method_4_code
def yX8_odds : MethodName := ⟨RX8, "odds", "(II)I"⟩
abbrev cX8_roadOf : ByteArray := prog_1_method_5_code
def yX8_roadOf : MethodName := ⟨RX8, "roadOf", "(II)I"⟩
abbrev cX8_tell : ByteArray := prog_1_method_6_code
def yX8_tell : MethodName := ⟨RX8, "tell", "(I)I"⟩
abbrev cX8_all : ByteArray := prog_1_method_7_code
def yX8_all : MethodName := ⟨RX8, "all", "(I)I"⟩
abbrev cX8_paths : ByteArray := prog_1_method_8_code
def yX8_paths : MethodName := ⟨RX8, "paths", "(IIZ)I"⟩
abbrev cX8_rounds : ByteArray := prog_1_method_9_code
def yX8_rounds : MethodName := ⟨RX8, "rounds", "(Z)I"⟩
abbrev cX8_trees : ByteArray := prog_1_method_10_code
def yX8_trees : MethodName := ⟨RX8, "trees", "(I)I"⟩
abbrev cX8_pairs : ByteArray := prog_1_method_11_code
def yX8_pairs : MethodName := ⟨RX8, "pairs", "(Z)I"⟩
abbrev cX8_parts : ByteArray := prog_1_method_12_code
def yX8_parts : MethodName := ⟨RX8, "parts", "(III)I"⟩
abbrev cX8_degrees : ByteArray := prog_1_method_13_code
def yX8_degrees : MethodName := ⟨RX8, "degrees", "(IIII)I"⟩
abbrev cX8_join : ByteArray := prog_1_method_14_code
def yX8_join : MethodName := ⟨RX8, "join", "(III)I"⟩
abbrev cX8_thin : ByteArray := prog_1_method_15_code
def yX8_thin : MethodName := ⟨RX8, "thin", "(II)I"⟩
abbrev cX8_by : ByteArray := prog_1_method_16_code
def yX8_by : MethodName := ⟨RX8, "by", "(III)I"⟩
abbrev cX8_within : ByteArray := prog_1_method_17_code
def yX8_within : MethodName := ⟨RX8, "within", "(III)I"⟩
abbrev cX8_drop : ByteArray := prog_1_method_18_code
def yX8_drop : MethodName := ⟨RX8, "drop", "()I"⟩
abbrev cX8_close : ByteArray := prog_1_method_19_code
def yX8_close : MethodName := ⟨RX8, "close", "()I"⟩
abbrev cX8_count : ByteArray := prog_1_method_20_code
def yX8_count : MethodName := ⟨RX8, "count", "(I)I"⟩
abbrev cX8_told : ByteArray := prog_1_method_21_code
def yX8_told : MethodName := ⟨RX8, "told", "(II)I"⟩
abbrev cX8_total : ByteArray := prog_1_method_22_code
def yX8_total : MethodName := ⟨RX8, "total", "(I)J"⟩
abbrev cX8_often : ByteArray := prog_1_method_23_code
def yX8_often : MethodName := ⟨RX8, "often", "(II)I"⟩
abbrev cX8_has : ByteArray := prog_1_method_24_code
def yX8_has : MethodName := ⟨RX8, "has", "(II)I"⟩
abbrev cX8_way : ByteArray := prog_1_method_25_code
def yX8_way : MethodName := ⟨RX8, "way", "(II)I"⟩
abbrev cX8_rank : ByteArray := prog_1_method_26_code
def yX8_rank : MethodName := ⟨RX8, "rank", "(II)I"⟩
abbrev cX8_best : ByteArray := prog_1_method_27_code
def yX8_best : MethodName := ⟨RX8, "best", "(III)I"⟩
abbrev cX8_draw : ByteArray := prog_1_method_28_code
def yX8_draw : MethodName := ⟨RX8, "draw", "(II)I"⟩
abbrev cX8_same : ByteArray := prog_1_method_29_code
def yX8_same : MethodName := ⟨RX8, "same", "(II)I"⟩
abbrev cX8_chance : ByteArray := prog_1_method_30_code
def yX8_chance : MethodName := ⟨RX8, "chance", "(I)J"⟩
abbrev cX8_matters : ByteArray := prog_1_method_31_code
def yX8_matters : MethodName := ⟨RX8, "matters", "(II)J"⟩
abbrev cX8_turned : ByteArray := prog_1_method_32_code
def yX8_turned : MethodName := ⟨RX8, "turned", "(II)I"⟩
abbrev cX8_write : ByteArray := prog_1_method_33_code
def yX8_write : MethodName := ⟨RX8, "write", "(I)I"⟩
abbrev cX8_row : ByteArray := prog_1_method_34_code
def yX8_row : MethodName := ⟨RX8, "row", "(II)I"⟩
abbrev cX8_forge : ByteArray := prog_1_method_35_code
def yX8_forge : MethodName := ⟨RX8, "forge", "(III)I"⟩
abbrev cX8_check : ByteArray := prog_1_method_36_code
def yX8_check : MethodName := ⟨RX8, "check", "(I)I"⟩
abbrev cX8_sheet : ByteArray := prog_1_method_37_code
def yX8_sheet : MethodName := ⟨RX8, "sheet", "(III)I"⟩
abbrev cX8_cell : ByteArray := prog_1_method_38_code
def yX8_cell : MethodName := ⟨RX8, "cell", "(III)I"⟩
abbrev cX8_lay : ByteArray := prog_1_method_39_code
def yX8_lay : MethodName := ⟨RX8, "lay", "(III)I"⟩
abbrev cX8_shelf : ByteArray := prog_1_method_40_code
def yX8_shelf : MethodName := ⟨RX8, "shelf", "(III)I"⟩
abbrev cX8_taken : ByteArray := prog_1_method_41_code
def yX8_taken : MethodName := ⟨RX8, "taken", "(II)I"⟩
abbrev cX8_act : ByteArray := prog_1_method_42_code
def yX8_act : MethodName := ⟨RX8, "act", "(III)I"⟩
abbrev cX8_trace : ByteArray := prog_1_method_43_code
def yX8_trace : MethodName := ⟨RX8, "trace", "(I)I"⟩
abbrev cX8_there : ByteArray := prog_1_method_44_code
def yX8_there : MethodName := ⟨RX8, "there", "(I)I"⟩
abbrev cX8_family : ByteArray := prog_1_method_45_code
def yX8_family : MethodName := ⟨RX8, "family", "(I)LWayBook$Ways;"⟩
abbrev cX8_blank : ByteArray := prog_1_method_46_code
def yX8_blank : MethodName := ⟨RX8, "blank", "(I)LWayBook$Ways;"⟩
abbrev cX8_keep : ByteArray := prog_1_method_47_code
def yX8_keep : MethodName := ⟨RX8, "keep", "()I"⟩
abbrev cX8_fillJoined : ByteArray := prog_1_method_48_code
def yX8_fillJoined : MethodName := ⟨RX8, "fillJoined", "(LWayBook$Ways;ILWayBook$Ways;LWayBook$Ways;)V"⟩
abbrev cX8_chanceIf : ByteArray := prog_1_method_49_code
def yX8_chanceIf : MethodName := ⟨RX8, "chanceIf", "(LWayBook$Ways;II)J"⟩
abbrev cX8_drawn : ByteArray := prog_1_method_50_code
def yX8_drawn : MethodName := ⟨RX8, "drawn", "(II)I"⟩
abbrev cX8_mirrored : ByteArray := prog_1_method_51_code
def yX8_mirrored : MethodName := ⟨RX8, "mirrored", "(I)I"⟩
abbrev cX8_maskAt : ByteArray := prog_1_method_52_code
def yX8_maskAt : MethodName := ⟨RX8, "maskAt", "(I)I"⟩
def RX9 : String := "WayBookModel"
def TX9 : u_T := fun k => match k with
  | 0 => ("WayBookModel", "posts", "I", false)
  | 1 => ("WayBookModel", "load", "[I", true)
  | 2 => ("WayBookModel", "roads", "I", false)
  | 3 => ("WayBookModel", "end", "[I", true)
  | 4 => ("WayBookModel", "weight", "[I", true)
  | 5 => ("WayBookModel", "odds", "[I", true)
  | 6 => ("WayBookModel", "families", "I", false)
  | 7 => ("WayBookModel", "kind", "[I", true)
  | 8 => ("WayBookModel", "way", "[Z", true)
  | 9 => ("WayBookModel", "rows", "I", false)
  | 10 => ("WayBookModel", "row", "[I", true)
  | 11 => ("WayBookModel", "sort", "[I", true)
  | 12 => ("WayBookModel", "size", "[I", true)
  | 13 => ("WayBookModel", "cells", "[I", true)
  | 14 => ("WayBookModel", "shelf", "[I", true)
  | 15 => ("WayBookModel", "shelfKind", "[I", true)
  | 16 => ("WayBookModel", "shelfMany", "[I", true)
  | 17 => ("WayBookModel", "traced", "[I", true)
  | 18 => ("WayBookModel", "traces", "I", false)
  | 19 => ("WayBookModel", "heap", "[I", true)
  | 20 => ("WayBookModel", "hand", "[Z", true)
  | 21 => ("WayBookModel", "over", "[Z", true)
  | 22 => ("WayBookModel", "knots", "I", false)
  | 23 => ("WayBookModel", "asks", "[I", true)
  | 24 => ("WayBookModel", "no", "[I", true)
  | 25 => ("WayBookModel", "yes", "[I", true)
  | 26 => ("WayBookModel", "book", "[I", true)
  | 27 => ("WayBookModel", "numberOf", "[I", true)
  | 28 => ("WayBookModel", "stack", "[I", true)
  | 29 => ("WayBookModel", "stage", "[I", true)
  | 30 => ("WayBookModel", "wanted", "[I", true)
  | 31 => ("WayBookModel", "wants", "I", false)
  | _ => ("WayBookModel", "ways", "I", false)
def tyX9 : Nat → FieldType := fun k => match k with
  | 0 => .int
  | 1 => .array .int
  | 2 => .int
  | 3 => .array .int
  | 4 => .array .int
  | 5 => .array .int
  | 6 => .int
  | 7 => .array .int
  | 8 => .array .boolean
  | 9 => .int
  | 10 => .array .int
  | 11 => .array .int
  | 12 => .array .int
  | 13 => .array .int
  | 14 => .array .int
  | 15 => .array .int
  | 16 => .array .int
  | 17 => .array .int
  | 18 => .int
  | 19 => .array .int
  | 20 => .array .boolean
  | 21 => .array .boolean
  | 22 => .int
  | 23 => .array .int
  | 24 => .array .int
  | 25 => .array .int
  | 26 => .array .int
  | 27 => .array .int
  | 28 => .array .int
  | 29 => .array .int
  | 30 => .array .int
  | 31 => .int
  | _ => .int
abbrev wsX90 : List Cond := u_ws RX9 TX9 33
theorem nmX9 : ∀ a, a < 33 → ∀ b, b < 33 → a ≠ b → (TX9 a).2.1 ≠ (TX9 b).2.1 := by decide +kernel
theorem tyX9_ok : ∀ k, k < 33 → parseFieldDescriptor (TX9 k).2.2.1 = some (tyX9 k) := by decide +kernel
abbrev cX9_init : ByteArray := prog_11_method_1_code
def yX9_init : MethodName := ⟨RX9, "<init>", "()V"⟩
abbrev cX9_in : ByteArray := prog_11_method_2_code
def yX9_in : MethodName := ⟨RX9, "in", "(III)Z"⟩
abbrev cX9_holds : ByteArray := prog_11_method_3_code
def yX9_holds : MethodName := ⟨RX9, "holds", "(II)Z"⟩
abbrev cX9_bits : ByteArray := prog_11_method_4_code
def yX9_bits : MethodName := ⟨RX9, "bits", "(I)I"⟩
abbrev cX9_isFamily : ByteArray := prog_11_method_5_code
def yX9_isFamily : MethodName := ⟨RX9, "isFamily", "(I)Z"⟩
abbrev cX9_isWay : ByteArray := prog_11_method_6_code
def yX9_isWay : MethodName := ⟨RX9, "isWay", "(II)Z"⟩
abbrev cX9_post : ByteArray := prog_11_method_7_code
def yX9_post : MethodName := ⟨RX9, "post", "(I)I"⟩
abbrev cX9_road : ByteArray := prog_11_method_8_code
def yX9_road : MethodName := ⟨RX9, "road", "(III)I"⟩
abbrev cX9_odds : ByteArray := prog_11_method_9_code
def yX9_odds : MethodName := ⟨RX9, "odds", "(II)I"⟩
abbrev cX9_roadOf : ByteArray := prog_11_method_10_code
def yX9_roadOf : MethodName := ⟨RX9, "roadOf", "(II)I"⟩
abbrev cX9_at : ByteArray := prog_11_method_11_code
def yX9_at : MethodName := ⟨RX9, "at", "(II)I"⟩
abbrev cX9_heaps : ByteArray := prog_11_method_12_code
def yX9_heaps : MethodName := ⟨RX9, "heaps", "(I)I"⟩
abbrev cX9_hasRing : ByteArray := prog_11_method_13_code
def yX9_hasRing : MethodName := ⟨RX9, "hasRing", "(I)Z"⟩
abbrev cX9_sumOf : ByteArray := prog_11_method_14_code
def yX9_sumOf : MethodName := ⟨RX9, "sumOf", "(I)I"⟩
abbrev cX9_put : ByteArray := prog_11_method_15_code
def yX9_put : MethodName := ⟨RX9, "put", "(IZ)V"⟩
abbrev cX9_made : ByteArray := prog_11_method_16_code
def yX9_made : MethodName := ⟨RX9, "made", "(I)I"⟩
abbrev cX9_net : ByteArray := prog_11_method_17_code
def yX9_net : MethodName := ⟨RX9, "net", "()I"⟩
abbrev cX9_tell : ByteArray := prog_11_method_18_code
def yX9_tell : MethodName := ⟨RX9, "tell", "(I)I"⟩
abbrev cX9_all : ByteArray := prog_11_method_19_code
def yX9_all : MethodName := ⟨RX9, "all", "(I)I"⟩
abbrev cX9_isOne : ByteArray := prog_11_method_20_code
def yX9_isOne : MethodName := ⟨RX9, "isOne", "(I)Z"⟩
abbrev cX9_isPath : ByteArray := prog_11_method_21_code
def yX9_isPath : MethodName := ⟨RX9, "isPath", "(IIIZ)Z"⟩
abbrev cX9_paths : ByteArray := prog_11_method_22_code
def yX9_paths : MethodName := ⟨RX9, "paths", "(IIZ)I"⟩
abbrev cX9_rounds : ByteArray := prog_11_method_23_code
def yX9_rounds : MethodName := ⟨RX9, "rounds", "(Z)I"⟩
abbrev cX9_trees : ByteArray := prog_11_method_24_code
def yX9_trees : MethodName := ⟨RX9, "trees", "(I)I"⟩
abbrev cX9_pairs : ByteArray := prog_11_method_25_code
def yX9_pairs : MethodName := ⟨RX9, "pairs", "(Z)I"⟩
abbrev cX9_isPart : ByteArray := prog_11_method_26_code
def yX9_isPart : MethodName := ⟨RX9, "isPart", "(IIII)Z"⟩
abbrev cX9_parts : ByteArray := prog_11_method_27_code
def yX9_parts : MethodName := ⟨RX9, "parts", "(III)I"⟩
abbrev cX9_degrees : ByteArray := prog_11_method_28_code
def yX9_degrees : MethodName := ⟨RX9, "degrees", "(IIII)I"⟩
abbrev cX9_handed : ByteArray := prog_11_method_29_code
def yX9_handed : MethodName := ⟨RX9, "handed", "()I"⟩
abbrev cX9_isOver : ByteArray := prog_11_method_30_code
def yX9_isOver : MethodName := ⟨RX9, "isOver", "(III)Z"⟩
abbrev cX9_joined : ByteArray := prog_11_method_31_code
def yX9_joined : MethodName := ⟨RX9, "joined", "(IIII)Z"⟩
abbrev cX9_count0 : ByteArray := prog_11_method_32_code
def yX9_count0 : MethodName := ⟨RX9, "count0", "(I)I"⟩
abbrev cX9_rest : ByteArray := prog_11_method_33_code
def yX9_rest : MethodName := ⟨RX9, "rest", "(II)V"⟩
abbrev cX9_unions : ByteArray := prog_11_method_34_code
def yX9_unions : MethodName := ⟨RX9, "unions", "(II)V"⟩
abbrev cX9_join : ByteArray := prog_11_method_35_code
def yX9_join : MethodName := ⟨RX9, "join", "(III)I"⟩
abbrev cX9_isThin : ByteArray := prog_11_method_36_code
def yX9_isThin : MethodName := ⟨RX9, "isThin", "(IIZ)Z"⟩
abbrev cX9_meets : ByteArray := prog_11_method_37_code
def yX9_meets : MethodName := ⟨RX9, "meets", "(II)Z"⟩
abbrev cX9_isLeastMeeting : ByteArray := prog_11_method_38_code
def yX9_isLeastMeeting : MethodName := ⟨RX9, "isLeastMeeting", "(II)Z"⟩
abbrev cX9_thin : ByteArray := prog_11_method_39_code
def yX9_thin : MethodName := ⟨RX9, "thin", "(II)I"⟩
abbrev cX9_by : ByteArray := prog_11_method_40_code
def yX9_by : MethodName := ⟨RX9, "by", "(III)I"⟩
abbrev cX9_within : ByteArray := prog_11_method_41_code
def yX9_within : MethodName := ⟨RX9, "within", "(III)I"⟩
abbrev cX9_drop : ByteArray := prog_11_method_42_code
def yX9_drop : MethodName := ⟨RX9, "drop", "()I"⟩
abbrev cX9_close : ByteArray := prog_11_method_43_code
def yX9_close : MethodName := ⟨RX9, "close", "()I"⟩
abbrev cX9_knot : ByteArray := prog_11_method_44_code
def yX9_knot : MethodName := ⟨RX9, "knot", "(III)I"⟩
abbrev cX9_turnedMask : ByteArray := prog_11_method_45_code
def yX9_turnedMask : MethodName := ⟨RX9, "turnedMask", "(II)I"⟩
abbrev cX9_bookOf : ByteArray := prog_11_method_46_code
def yX9_bookOf : MethodName := ⟨RX9, "bookOf", "(II)I"⟩
abbrev cX9_count : ByteArray := prog_11_method_47_code
def yX9_count : MethodName := ⟨RX9, "count", "(I)I"⟩
abbrev cX9_told : ByteArray := prog_11_method_48_code
def yX9_told : MethodName := ⟨RX9, "told", "(II)I"⟩
abbrev cX9_total : ByteArray := prog_11_method_49_code
def yX9_total : MethodName := ⟨RX9, "total", "(I)J"⟩
abbrev cX9_often : ByteArray := prog_11_method_50_code
def yX9_often : MethodName := ⟨RX9, "often", "(II)I"⟩
abbrev cX9_has : ByteArray := prog_11_method_51_code
def yX9_has : MethodName := ⟨RX9, "has", "(II)I"⟩
abbrev cX9_ordered : ByteArray := prog_11_method_52_code
def yX9_ordered : MethodName := ⟨RX9, "ordered", "(I)I"⟩
abbrev cX9_way0 : ByteArray := prog_11_method_53_code
def yX9_way0 : MethodName := ⟨RX9, "way0", "(II)I"⟩
abbrev cX9_way : ByteArray := prog_11_method_54_code
def yX9_way : MethodName := ⟨RX9, "way", "(II)I"⟩
abbrev cX9_rank : ByteArray := prog_11_method_55_code
def yX9_rank : MethodName := ⟨RX9, "rank", "(II)I"⟩
abbrev cX9_best : ByteArray := prog_11_method_56_code
def yX9_best : MethodName := ⟨RX9, "best", "(III)I"⟩
abbrev cX9_draw : ByteArray := prog_11_method_57_code
def yX9_draw : MethodName := ⟨RX9, "draw", "(II)I"⟩
abbrev cX9_same : ByteArray := prog_11_method_58_code
def yX9_same : MethodName := ⟨RX9, "same", "(II)I"⟩
abbrev cX9_chance0 : ByteArray := prog_11_method_59_code
def yX9_chance0 : MethodName := ⟨RX9, "chance0", "(III)J"⟩
abbrev cX9_chance : ByteArray := prog_11_method_60_code
def yX9_chance : MethodName := ⟨RX9, "chance", "(I)J"⟩
abbrev cX9_matters : ByteArray := prog_11_method_61_code
def yX9_matters : MethodName := ⟨RX9, "matters", "(II)J"⟩
abbrev cX9_turned : ByteArray := prog_11_method_62_code
def yX9_turned : MethodName := ⟨RX9, "turned", "(II)I"⟩
abbrev cX9_ref : ByteArray := prog_11_method_63_code
def yX9_ref : MethodName := ⟨RX9, "ref", "(I)I"⟩
abbrev cX9_countOf : ByteArray := prog_11_method_64_code
def yX9_countOf : MethodName := ⟨RX9, "countOf", "(I)I"⟩
abbrev cX9_writeKnot : ByteArray := prog_11_method_65_code
def yX9_writeKnot : MethodName := ⟨RX9, "writeKnot", "(I)V"⟩
abbrev cX9_rowsOf : ByteArray := prog_11_method_66_code
def yX9_rowsOf : MethodName := ⟨RX9, "rowsOf", "(I)V"⟩
abbrev cX9_write : ByteArray := prog_11_method_67_code
def yX9_write : MethodName := ⟨RX9, "write", "(I)I"⟩
abbrev cX9_row : ByteArray := prog_11_method_68_code
def yX9_row : MethodName := ⟨RX9, "row", "(II)I"⟩
abbrev cX9_forge : ByteArray := prog_11_method_69_code
def yX9_forge : MethodName := ⟨RX9, "forge", "(III)I"⟩
abbrev cX9_isAbove : ByteArray := prog_11_method_70_code
def yX9_isAbove : MethodName := ⟨RX9, "isAbove", "(II)Z"⟩
abbrev cX9_rowCount : ByteArray := prog_11_method_71_code
def yX9_rowCount : MethodName := ⟨RX9, "rowCount", "(I)I"⟩
abbrev cX9_wrong : ByteArray := prog_11_method_72_code
def yX9_wrong : MethodName := ⟨RX9, "wrong", "(I)I"⟩
abbrev cX9_check : ByteArray := prog_11_method_73_code
def yX9_check : MethodName := ⟨RX9, "check", "(I)I"⟩
abbrev cX9_sheet : ByteArray := prog_11_method_74_code
def yX9_sheet : MethodName := ⟨RX9, "sheet", "(III)I"⟩
abbrev cX9_cell : ByteArray := prog_11_method_75_code
def yX9_cell : MethodName := ⟨RX9, "cell", "(III)I"⟩
abbrev cX9_lay : ByteArray := prog_11_method_76_code
def yX9_lay : MethodName := ⟨RX9, "lay", "(III)I"⟩
abbrev cX9_shelf : ByteArray := prog_11_method_77_code
def yX9_shelf : MethodName := ⟨RX9, "shelf", "(III)I"⟩
abbrev cX9_isOf : ByteArray := prog_11_method_78_code
def yX9_isOf : MethodName := ⟨RX9, "isOf", "(II)Z"⟩
abbrev cX9_taken : ByteArray := prog_11_method_79_code
def yX9_taken : MethodName := ⟨RX9, "taken", "(II)I"⟩
abbrev cX9_ran : ByteArray := prog_11_method_80_code
def yX9_ran : MethodName := ⟨RX9, "ran", "(I)V"⟩
abbrev cX9_fits : ByteArray := prog_11_method_81_code
def yX9_fits : MethodName := ⟨RX9, "fits", "(II)I"⟩
abbrev cX9_familyJoins : ByteArray := prog_11_method_82_code
def yX9_familyJoins : MethodName := ⟨RX9, "familyJoins", "(II)I"⟩
abbrev cX9_joins : ByteArray := prog_11_method_83_code
def yX9_joins : MethodName := ⟨RX9, "joins", "(II)I"⟩
abbrev cX9_familyWeighs : ByteArray := prog_11_method_84_code
def yX9_familyWeighs : MethodName := ⟨RX9, "familyWeighs", "(II)I"⟩
abbrev cX9_weighs : ByteArray := prog_11_method_85_code
def yX9_weighs : MethodName := ⟨RX9, "weighs", "(II)I"⟩
abbrev cX9_act : ByteArray := prog_11_method_86_code
def yX9_act : MethodName := ⟨RX9, "act", "(III)I"⟩
abbrev cX9_trace : ByteArray := prog_11_method_87_code
def yX9_trace : MethodName := ⟨RX9, "trace", "(I)I"⟩
abbrev cX9_there : ByteArray := prog_11_method_88_code
def yX9_there : MethodName := ⟨RX9, "there", "(I)I"⟩
def RJ6 : String := "java/lang/Integer"
def TJ6 : u_T := fun k => match k with
  | _ => ("", "", "", false)
def tyJ6 : Nat → FieldType := fun k => match k with
  | _ => .int
abbrev wsJ60 : List Cond := u_ws RJ6 TJ6 0
theorem nmJ6 : ∀ a, a < 0 → ∀ b, b < 0 → a ≠ b → (TJ6 a).2.1 ≠ (TJ6 b).2.1 := by decide +kernel
theorem tyJ6_ok : ∀ k, k < 0 → parseFieldDescriptor (TJ6 k).2.2.1 = some (tyJ6 k) := by decide +kernel
abbrev cJ6_bitCount_0f7a4 : ByteArray := prog_12_method_49_code
def yJ6_bitCount_0f7a4 : MethodName := ⟨RJ6, "bitCount", "(I)I"⟩
def RJ13 : String := "java/lang/Long"
def TJ13 : u_T := fun k => match k with
  | _ => ("", "", "", false)
def tyJ13 : Nat → FieldType := fun k => match k with
  | _ => .int
abbrev wsJ130 : List Cond := u_ws RJ13 TJ13 0
theorem nmJ13 : ∀ a, a < 0 → ∀ b, b < 0 → a ≠ b → (TJ13 a).2.1 ≠ (TJ13 b).2.1 := by decide +kernel
theorem tyJ13_ok : ∀ k, k < 0 → parseFieldDescriptor (TJ13 k).2.2.1 = some (tyJ13 k) := by decide +kernel
abbrev cJ13_bitCount_95d88 : ByteArray := prog_13_method_50_code
def yJ13_bitCount_95d88 : MethodName := ⟨RJ13, "bitCount", "(J)I"⟩
def RJ9 : String := "java/lang/Math"
def TJ9 : u_T := fun k => match k with
  | _ => ("", "", "", false)
def tyJ9 : Nat → FieldType := fun k => match k with
  | _ => .int
abbrev wsJ90 : List Cond := u_ws RJ9 TJ9 0
theorem nmJ9 : ∀ a, a < 0 → ∀ b, b < 0 → a ≠ b → (TJ9 a).2.1 ≠ (TJ9 b).2.1 := by decide +kernel
theorem tyJ9_ok : ∀ k, k < 0 → parseFieldDescriptor (TJ9 k).2.2.1 = some (tyJ9 k) := by decide +kernel
abbrev cJ9_max_7cf53 : ByteArray := prog_14_method_65_code
def yJ9_max_7cf53 : MethodName := ⟨RJ9, "max", "(II)I"⟩
abbrev cJ9_min_7cf53 : ByteArray := prog_14_method_69_code
def yJ9_min_7cf53 : MethodName := ⟨RJ9, "min", "(II)I"⟩
def RJ10 : String := "java/lang/System"
def TJ10 : u_T := fun k => match k with
  | _ => ("", "", "", false)
def tyJ10 : Nat → FieldType := fun k => match k with
  | _ => .int
abbrev wsJ100 : List Cond := u_ws RJ10 TJ10 0
theorem nmJ10 : ∀ a, a < 0 → ∀ b, b < 0 → a ≠ b → (TJ10 a).2.1 ≠ (TJ10 b).2.1 := by decide +kernel
theorem tyJ10_ok : ∀ k, k < 0 → parseFieldDescriptor (TJ10 k).2.2.1 = some (tyJ10 k) := by decide +kernel
def RJ7 : String := "java/util/Arrays"
def TJ7 : u_T := fun k => match k with
  | _ => ("", "", "", false)
def tyJ7 : Nat → FieldType := fun k => match k with
  | _ => .int
abbrev wsJ70 : List Cond := u_ws RJ7 TJ7 0
theorem nmJ7 : ∀ a, a < 0 → ∀ b, b < 0 → a ≠ b → (TJ7 a).2.1 ≠ (TJ7 b).2.1 := by decide +kernel
theorem tyJ7_ok : ∀ k, k < 0 → parseFieldDescriptor (TJ7 k).2.2.1 = some (tyJ7 k) := by decide +kernel
abbrev cJ7_fill_d0a16 : ByteArray := prog_16_method_101_code
def yJ7_fill_d0a16 : MethodName := ⟨RJ7, "fill", "([JJ)V"⟩
abbrev cJ7_fill_53178 : ByteArray := prog_16_method_103_code
def yJ7_fill_53178 : MethodName := ⟨RJ7, "fill", "([II)V"⟩
def RL : String := "WayBookLaw"
abbrev cL_law : ByteArray := code
def yL_law : MethodName := ⟨RL, "law", "([I)Z"⟩
def wsL_law_r1 : List Cond := [Cond.classLink RL 7 RX8, Cond.instantiable RX8 12, Cond.initialized RX8, Cond.classLink RL 10 RX9, Cond.instantiable RX9 33, Cond.initialized RX9, Cond.methodLink RL 9 yX8_init, Cond.instanceMethod yX8_init, Cond.code yX8_init cX8_init 2 none, Cond.methodLink RX8 1 objectInit, Cond.instanceMethod objectInit, Cond.code objectInit ⟨#[0xb1]⟩ 1 none, Cond.classLink RX8 7 RX2, Cond.instantiable RX2 7, Cond.initialized RX2, Cond.fieldLink RX8 10 "WayBook" "net" "LWayBook$Net;", Cond.classLink RX8 16 RX7, Cond.fieldLink RX8 18 "WayBook" "made" "[LWayBook$Ways;", Cond.instantiable RX7 2, Cond.initialized RX7, Cond.fieldLink RX8 23 "WayBook" "spare" "LWayBook$Ways;", Cond.fieldLink RX8 27 "WayBook" "other" "LWayBook$Ways;", Cond.arrayClass .int, Cond.fieldLink RX8 30 "WayBook" "places" "[I"]
def wsL_law_r2 : List Cond := [Cond.classLink RX8 34 RX5, Cond.instantiable RX5 4, Cond.initialized RX5, Cond.fieldLink RX8 37 "WayBook" "sums" "LWayBook$Sums;", Cond.classLink RX8 41 RX6, Cond.instantiable RX6 2, Cond.initialized RX6, Cond.fieldLink RX8 44 "WayBook" "tally" "LWayBook$Tally;", Cond.classLink RX8 48 RX3, Cond.instantiable RX3 4, Cond.initialized RX3, Cond.fieldLink RX8 51 "WayBook" "written" "LWayBook$Rows;", Cond.fieldLink RX8 55 "WayBook" "trial" "LWayBook$Rows;", Cond.classLink RX8 58 RX1, Cond.instantiable RX1 5, Cond.initialized RX1, Cond.fieldLink RX8 61 "WayBook" "host" "LWayBook$Host;", Cond.classLink RX8 65 RX0, Cond.instantiable RX0 4, Cond.initialized RX0, Cond.fieldLink RX8 68 "WayBook" "acts" "LWayBook$Acts;", Cond.instanceMethod yX2_init, Cond.code yX2_init cX2_init 1 none, Cond.methodLink RX2 3 objectInit]
def wsL_law_r3 : List Cond := [Cond.fieldLink RX2 9 "WayBook$Net" "loads" "[I", Cond.fieldLink RX2 15 "WayBook$Net" "lesser" "[I", Cond.fieldLink RX2 18 "WayBook$Net" "greater" "[I", Cond.fieldLink RX2 21 "WayBook$Net" "weights" "[I", Cond.fieldLink RX2 24 "WayBook$Net" "eighths" "[I", Cond.instanceMethod yX7_init, Cond.code yX7_init cX7_init 1 none, Cond.methodLink RX7 3 objectInit, Cond.arrayClass .long, Cond.fieldLink RX7 9 "WayBook$Ways" "words" "[J", Cond.instanceMethod yX5_init, Cond.code yX5_init cX5_init 1 none, Cond.methodLink RX5 3 objectInit, Cond.fieldLink RX5 9 "WayBook$Sums" "adds" "[I", Cond.fieldLink RX5 15 "WayBook$Sums" "lowSums" "[I", Cond.fieldLink RX5 18 "WayBook$Sums" "highSums" "[I", Cond.fieldLink RX5 21 "WayBook$Sums" "sizes" "[I", Cond.instanceMethod yX6_init, Cond.code yX6_init cX6_init 1 none, Cond.methodLink RX6 3 objectInit, Cond.fieldLink RX6 9 "WayBook$Tally" "mine" "[J", Cond.fieldLink RX6 15 "WayBook$Tally" "yours" "[J", Cond.instanceMethod yX3_init, Cond.code yX3_init cX3_init 1 none]
def wsL_law_r4 : List Cond := [Cond.methodLink RX3 3 objectInit, Cond.classLink RX3 11 "[[I", Cond.fieldLink RX3 13 "WayBook$Rows" "cells" "[[I", Cond.fieldLink RX3 16 "WayBook$Rows" "latest" "[I", Cond.fieldLink RX3 20 "WayBook$Rows" "before" "[I", Cond.methodLink RX8 60 yX1_init, Cond.instanceMethod yX1_init, Cond.code yX1_init cX1_init 1 none, Cond.methodLink RX1 3 objectInit, Cond.fieldLink RX1 11 "WayBook$Host" "sorts" "[I", Cond.fieldLink RX1 15 "WayBook$Host" "lengths" "[I", Cond.classLink RX1 18 "[[I", Cond.fieldLink RX1 20 "WayBook$Host" "items" "[[I", Cond.fieldLink RX1 23 "WayBook$Host" "heldSorts" "[I", Cond.fieldLink RX1 26 "WayBook$Host" "heldSizes" "[I", Cond.methodLink RX1 29 yJ7_fill_53178, Cond.static yJ7_fill_53178, Cond.initialized RJ7, Cond.code yJ7_fill_53178 cJ7_fill_53178 4 none, Cond.instanceMethod yX0_init, Cond.code yX0_init cX0_init 1 none, Cond.methodLink RX0 3 objectInit, Cond.fieldLink RX0 11 "WayBook$Acts" "bodies" "[I", Cond.methodLink RL 12 yX9_init]
def wsL_law_r5 : List Cond := [Cond.instanceMethod yX9_init, Cond.code yX9_init cX9_init 2 none, Cond.methodLink RX9 1 objectInit, Cond.fieldLink RX9 7 "WayBookModel" "load" "[I", Cond.fieldLink RX9 13 "WayBookModel" "end" "[I", Cond.fieldLink RX9 16 "WayBookModel" "weight" "[I", Cond.fieldLink RX9 19 "WayBookModel" "odds" "[I", Cond.fieldLink RX9 22 "WayBookModel" "kind" "[I", Cond.constant RX9 25 (122880), Cond.arrayClass .boolean, Cond.fieldLink RX9 26 "WayBookModel" "way" "[Z", Cond.fieldLink RX9 30 "WayBookModel" "row" "[I", Cond.fieldLink RX9 33 "WayBookModel" "sort" "[I", Cond.fieldLink RX9 36 "WayBookModel" "size" "[I", Cond.fieldLink RX9 39 "WayBookModel" "cells" "[I", Cond.fieldLink RX9 42 "WayBookModel" "shelf" "[I", Cond.fieldLink RX9 45 "WayBookModel" "shelfKind" "[I", Cond.fieldLink RX9 48 "WayBookModel" "shelfMany" "[I", Cond.fieldLink RX9 51 "WayBookModel" "traced" "[I", Cond.fieldLink RX9 54 "WayBookModel" "heap" "[I", Cond.fieldLink RX9 57 "WayBookModel" "hand" "[Z", Cond.fieldLink RX9 60 "WayBookModel" "over" "[Z", Cond.fieldLink RX9 63 "WayBookModel" "asks" "[I", Cond.fieldLink RX9 66 "WayBookModel" "no" "[I"]
def wsL_law_r6 : List Cond := [Cond.fieldLink RX9 69 "WayBookModel" "yes" "[I", Cond.fieldLink RX9 72 "WayBookModel" "book" "[I", Cond.fieldLink RX9 75 "WayBookModel" "numberOf" "[I", Cond.fieldLink RX9 78 "WayBookModel" "stack" "[I", Cond.fieldLink RX9 81 "WayBookModel" "stage" "[I", Cond.fieldLink RX9 84 "WayBookModel" "wanted" "[I", Cond.methodLink RL 13 yX8_post, Cond.instanceMethod yX8_post, Cond.selects RX8 yX8_post yX8_post, Cond.code yX8_post cX8_post 2 (some .int), Cond.methodLink RX8 72 yX2_addPost, Cond.instanceMethod yX2_addPost, Cond.selects RX2 yX2_addPost yX2_addPost, Cond.code yX2_addPost cX2_addPost 2 (some .int), Cond.fieldLink RX2 27 "WayBook$Net" "posts" "I", Cond.methodLink RL 17 yX9_post, Cond.instanceMethod yX9_post, Cond.selects RX9 yX9_post yX9_post, Cond.code yX9_post cX9_post 2 (some .int), Cond.fieldLink RX9 95 "WayBookModel" "posts" "I", Cond.methodLink RX9 91 yX9_in, Cond.static yX9_in, Cond.code yX9_in cX9_in 3 (some .boolean), Cond.methodLink RL 18 yX8_road]
def wsL_law_r7 : List Cond := [Cond.instanceMethod yX8_road, Cond.selects RX8 yX8_road yX8_road, Cond.code yX8_road cX8_road 4 (some .int), Cond.methodLink RX8 76 yX2_isPost, Cond.instanceMethod yX2_isPost, Cond.selects RX2 yX2_isPost yX2_isPost, Cond.code yX2_isPost cX2_isPost 2 (some .boolean), Cond.methodLink RX8 80 yX2_areJoined, Cond.instanceMethod yX2_areJoined, Cond.selects RX2 yX2_areJoined yX2_areJoined, Cond.code yX2_areJoined cX2_areJoined 4 (some .boolean), Cond.fieldLink RX2 31 "WayBook$Net" "roads" "I", Cond.methodLink RX2 34 Lib.Math.min.name, Cond.static Lib.Math.min.name, Cond.initialized "java/lang/Math", Cond.code Lib.Math.min.name Lib.Math.min.code 2 (some .int), Cond.methodLink RX2 40 Lib.Math.max.name, Cond.static Lib.Math.max.name, Cond.code Lib.Math.max.name Lib.Math.max.code 2 (some .int), Cond.methodLink RX8 84 yX2_addRoad, Cond.instanceMethod yX2_addRoad, Cond.selects RX2 yX2_addRoad yX2_addRoad, Cond.code yX2_addRoad cX2_addRoad 4 (some .int), Cond.methodLink RL 22 yX9_road]
def wsL_law_r8 : List Cond := [Cond.instanceMethod yX9_road, Cond.selects RX9 yX9_road yX9_road, Cond.code yX9_road cX9_road 7 (some .int), Cond.fieldLink RX9 98 "WayBookModel" "roads" "I", Cond.methodLink RL 23 yX8_odds, Cond.instanceMethod yX8_odds, Cond.selects RX8 yX8_odds yX8_odds, Cond.code yX8_odds cX8_odds 4 (some .int), Cond.fieldLink RX8 91 "WayBook$Net" "eighths" "[I", Cond.methodLink RX8 88 yX2_isRoad, Cond.instanceMethod yX2_isRoad, Cond.selects RX2 yX2_isRoad yX2_isRoad, Cond.code yX2_isRoad cX2_isRoad 2 (some .boolean), Cond.methodLink RL 27 yX9_odds, Cond.instanceMethod yX9_odds, Cond.selects RX9 yX9_odds yX9_odds, Cond.code yX9_odds cX9_odds 4 (some .int), Cond.methodLink RL 28 yX8_roadOf, Cond.instanceMethod yX8_roadOf, Cond.selects RX8 yX8_roadOf yX8_roadOf, Cond.code yX8_roadOf cX8_roadOf 3 (some .int), Cond.fieldLink RX8 94 "WayBook$Net" "lesser" "[I", Cond.fieldLink RX8 97 "WayBook$Net" "greater" "[I", Cond.fieldLink RX8 100 "WayBook$Net" "weights" "[I"]
def wsL_law_r9 : List Cond := [Cond.methodLink RL 31 yX9_roadOf, Cond.instanceMethod yX9_roadOf, Cond.selects RX9 yX9_roadOf yX9_roadOf, Cond.code yX9_roadOf cX9_roadOf 3 (some .int), Cond.methodLink RL 32 yX8_tell, Cond.instanceMethod yX8_tell, Cond.selects RX8 yX8_tell yX8_tell, Cond.code yX8_tell cX8_tell 3 (some .int), Cond.methodLink RX8 103 yX2_hasRoads, Cond.instanceMethod yX2_hasRoads, Cond.selects RX2 yX2_hasRoads yX2_hasRoads, Cond.code yX2_hasRoads cX2_hasRoads 2 (some .boolean), Cond.methodLink RX8 106 yX8_blank, Cond.instanceMethod yX8_blank, Cond.selects RX8 yX8_blank yX8_blank, Cond.code yX8_blank cX8_blank 3 (some (.object "WayBook$Ways")), Cond.fieldLink RX8 204 "WayBook" "families" "I", Cond.methodLink RX8 258 yX7_clear, Cond.instanceMethod yX7_clear, Cond.selects RX7 yX7_clear yX7_clear, Cond.code yX7_clear cX7_clear 2 none, Cond.fieldLink RX7 15 "WayBook$Ways" "kind" "I", Cond.methodLink RX7 19 yJ7_fill_d0a16, Cond.static yJ7_fill_d0a16]
def wsL_law_r10 : List Cond := [Cond.code yJ7_fill_d0a16 cJ7_fill_d0a16 5 none, Cond.methodLink RX8 110 yX8_mirrored, Cond.static yX8_mirrored, Cond.code yX8_mirrored cX8_mirrored 3 (some .int), Cond.methodLink RX8 113 yX7_put, Cond.instanceMethod yX7_put, Cond.selects RX7 yX7_put yX7_put, Cond.code yX7_put cX7_put 2 none, Cond.methodLink RX8 117 yX8_keep, Cond.instanceMethod yX8_keep, Cond.selects RX8 yX8_keep yX8_keep, Cond.code yX8_keep cX8_keep 1 (some .int), Cond.methodLink RL 35 yX9_tell, Cond.instanceMethod yX9_tell, Cond.selects RX9 yX9_tell yX9_tell, Cond.code yX9_tell cX9_tell 3 (some .int), Cond.fieldLink RX9 87 "WayBookModel" "families" "I", Cond.methodLink RX9 112 yX9_net, Cond.instanceMethod yX9_net, Cond.selects RX9 yX9_net yX9_net, Cond.code yX9_net cX9_net 1 (some .int), Cond.methodLink RX9 116 yX9_put, Cond.instanceMethod yX9_put, Cond.selects RX9 yX9_put yX9_put]
def wsL_law_r11 : List Cond := [Cond.code yX9_put cX9_put 3 none, Cond.methodLink RX9 120 yX9_made, Cond.instanceMethod yX9_made, Cond.selects RX9 yX9_made yX9_made, Cond.code yX9_made cX9_made 2 (some .int), Cond.methodLink RL 36 yX8_all, Cond.instanceMethod yX8_all, Cond.selects RX8 yX8_all yX8_all, Cond.code yX8_all cX8_all 3 (some .int), Cond.methodLink RX8 121 yX7_spreadDown, Cond.instanceMethod yX7_spreadDown, Cond.selects RX7 yX7_spreadDown yX7_spreadDown, Cond.code yX7_spreadDown cX7_spreadDown 2 none, Cond.methodLink RX7 58 yX7_lower, Cond.instanceMethod yX7_lower, Cond.selects RX7 yX7_lower yX7_lower, Cond.code yX7_lower cX7_lower 5 none, Cond.methodLink RX7 33 yX7_having, Cond.static yX7_having, Cond.code yX7_having cX7_having 2 (some .long), Cond.fieldLink RX7 45 "WayBook$Ways" "WITH" "[J", Cond.constantLong RX7 25 (-1), Cond.methodLink RL 39 yX9_all, Cond.instanceMethod yX9_all]
def wsL_law_r12 : List Cond := [Cond.selects RX9 yX9_all yX9_all, Cond.code yX9_all cX9_all 3 (some .int), Cond.methodLink RL 40 yX8_paths, Cond.instanceMethod yX8_paths, Cond.selects RX8 yX8_paths yX8_paths, Cond.code yX8_paths cX8_paths 5 (some .int), Cond.classLink RX8 124 RX4, Cond.instantiable RX4 8, Cond.initialized RX4, Cond.methodLink RX8 126 yX4_init, Cond.instanceMethod yX4_init, Cond.code yX4_init cX4_init 3 none, Cond.methodLink RX4 3 objectInit, Cond.fieldLink RX4 9 "WayBook$Search" "net" "LWayBook$Net;", Cond.fieldLink RX4 15 "WayBook$Search" "found" "LWayBook$Ways;", Cond.methodLink RX8 129 yX4_findPaths, Cond.instanceMethod yX4_findPaths, Cond.selects RX4 yX4_findPaths yX4_findPaths, Cond.code yX4_findPaths cX4_findPaths 4 none, Cond.fieldLink RX4 19 "WayBook$Search" "goal" "I", Cond.fieldLink RX4 23 "WayBook$Net" "posts" "I", Cond.fieldLink RX4 28 "WayBook$Search" "least" "I", Cond.methodLink RX4 31 yX4_walk, Cond.instanceMethod yX4_walk]
def wsL_law_r13 : List Cond := [Cond.selects RX4 yX4_walk yX4_walk, Cond.code yX4_walk cX4_walk 7 none, Cond.fieldLink RX4 53 "WayBook$Net" "roads" "I", Cond.methodLink RX4 41 yJ6_bitCount_0f7a4, Cond.static yJ6_bitCount_0f7a4, Cond.initialized RJ6, Cond.code yJ6_bitCount_0f7a4 cJ6_bitCount_0f7a4 1 (some .int), Cond.constant RJ6 265 (1431655765), Cond.constant RJ6 266 (858993459), Cond.constant RJ6 267 (252645135), Cond.methodLink RX4 47 yX7_put, Cond.methodLink RX4 56 yX2_beyond, Cond.instanceMethod yX2_beyond, Cond.selects RX2 yX2_beyond yX2_beyond, Cond.code yX2_beyond cX2_beyond 3 (some .int), Cond.methodLink RX2 43 yX2_isRoad, Cond.methodLink RX4 59 yX2_placeOf, Cond.static yX2_placeOf, Cond.code yX2_placeOf cX2_placeOf 1 (some .int), Cond.methodLink RL 44 yX9_paths, Cond.instanceMethod yX9_paths, Cond.selects RX9 yX9_paths yX9_paths, Cond.code yX9_paths cX9_paths 5 (some .int), Cond.methodLink RX9 131 yX9_isPath]
def wsL_law_r14 : List Cond := [Cond.instanceMethod yX9_isPath, Cond.selects RX9 yX9_isPath yX9_isPath, Cond.code yX9_isPath cX9_isPath 8 (some .boolean), Cond.methodLink RX9 127 yX9_isOne, Cond.instanceMethod yX9_isOne, Cond.selects RX9 yX9_isOne yX9_isOne, Cond.code yX9_isOne cX9_isOne 4 (some .boolean), Cond.methodLink RX9 123 yX9_at, Cond.instanceMethod yX9_at, Cond.selects RX9 yX9_at yX9_at, Cond.code yX9_at cX9_at 5 (some .int), Cond.methodLink RX9 101 yX9_holds, Cond.static yX9_holds, Cond.code yX9_holds cX9_holds 2 (some .boolean), Cond.methodLink RX9 105 yX9_heaps, Cond.instanceMethod yX9_heaps, Cond.selects RX9 yX9_heaps yX9_heaps, Cond.code yX9_heaps cX9_heaps 7 (some .int), Cond.methodLink RL 45 yX8_rounds, Cond.instanceMethod yX8_rounds, Cond.selects RX8 yX8_rounds yX8_rounds, Cond.code yX8_rounds cX8_rounds 3 (some .int), Cond.methodLink RX8 133 yX4_findRounds, Cond.instanceMethod yX4_findRounds]
def wsL_law_r15 : List Cond := [Cond.selects RX4 yX4_findRounds yX4_findRounds, Cond.code yX4_findRounds cX4_findRounds 3 none, Cond.methodLink RX4 35 Lib.Math.max.name, Cond.methodLink RL 49 yX9_rounds, Cond.instanceMethod yX9_rounds, Cond.selects RX9 yX9_rounds yX9_rounds, Cond.code yX9_rounds cX9_rounds 6 (some .int), Cond.methodLink RL 50 yX8_trees, Cond.instanceMethod yX8_trees, Cond.selects RX8 yX8_trees yX8_trees, Cond.code yX8_trees cX8_trees 3 (some .int), Cond.fieldLink RX8 137 "WayBook$Net" "posts" "I", Cond.methodLink RX8 141 yX4_findTrees, Cond.instanceMethod yX4_findTrees, Cond.selects RX4 yX4_findTrees yX4_findTrees, Cond.code yX4_findTrees cX4_findTrees 2 none, Cond.fieldLink RX4 62 "WayBook$Search" "wanted" "I", Cond.fieldLink RX4 65 "WayBook$Search" "whole" "Z", Cond.constant RX4 69 (1985229328), Cond.methodLink RX4 70 yX4_gather, Cond.instanceMethod yX4_gather, Cond.selects RX4 yX4_gather yX4_gather, Cond.code yX4_gather cX4_gather 7 none, Cond.fieldLink RX4 87 "WayBook$Net" "lesser" "[I"]
def wsL_law_r16 : List Cond := [Cond.fieldLink RX4 94 "WayBook$Net" "greater" "[I", Cond.methodLink RX4 79 yX2_isRoad, Cond.methodLink RX4 83 yX4_isParting, Cond.instanceMethod yX4_isParting, Cond.selects RX4 yX4_isParting yX4_isParting, Cond.code yX4_isParting cX4_isParting 5 (some .boolean), Cond.methodLink RX4 91 yX4_label, Cond.static yX4_label, Cond.code yX4_label cX4_label 2 (some .int), Cond.methodLink RX4 101 yX4_loadOf, Cond.instanceMethod yX4_loadOf, Cond.selects RX4 yX4_loadOf yX4_loadOf, Cond.code yX4_loadOf cX4_loadOf 5 (some .int), Cond.fieldLink RX4 107 "WayBook$Net" "loads" "[I", Cond.methodLink RX4 104 yX4_isFitting, Cond.instanceMethod yX4_isFitting, Cond.selects RX4 yX4_isFitting yX4_isFitting, Cond.code yX4_isFitting cX4_isFitting 2 (some .boolean), Cond.fieldLink RX4 73 "WayBook$Search" "low" "I", Cond.fieldLink RX4 76 "WayBook$Search" "high" "I", Cond.methodLink RX4 97 yX4_relabelled, Cond.static yX4_relabelled, Cond.code yX4_relabelled cX4_relabelled 5 (some .int), Cond.methodLink RL 53 yX9_trees]
def wsL_law_r17 : List Cond := [Cond.instanceMethod yX9_trees, Cond.selects RX9 yX9_trees yX9_trees, Cond.code yX9_trees cX9_trees 3 (some .int), Cond.methodLink RX9 135 yX9_hasRing, Cond.instanceMethod yX9_hasRing, Cond.selects RX9 yX9_hasRing yX9_hasRing, Cond.code yX9_hasRing cX9_hasRing 2 (some .boolean), Cond.methodLink RX9 109 yX9_bits, Cond.static yX9_bits, Cond.code yX9_bits cX9_bits 3 (some .int), Cond.methodLink RL 54 yX8_pairs, Cond.instanceMethod yX8_pairs, Cond.selects RX8 yX8_pairs yX8_pairs, Cond.code yX8_pairs cX8_pairs 3 (some .int), Cond.methodLink RX8 144 yX4_findPairs, Cond.instanceMethod yX4_findPairs, Cond.selects RX4 yX4_findPairs yX4_findPairs, Cond.code yX4_findPairs cX4_findPairs 2 none, Cond.methodLink RX4 110 yX4_match, Cond.instanceMethod yX4_match, Cond.selects RX4 yX4_match yX4_match, Cond.code yX4_match cX4_match 5 none, Cond.methodLink RL 57 yX9_pairs, Cond.instanceMethod yX9_pairs]
def wsL_law_r18 : List Cond := [Cond.selects RX9 yX9_pairs yX9_pairs, Cond.code yX9_pairs cX9_pairs 6 (some .int), Cond.methodLink RL 58 yX8_parts, Cond.instanceMethod yX8_parts, Cond.selects RX8 yX8_parts yX8_parts, Cond.code yX8_parts cX8_parts 5 (some .int), Cond.methodLink RX8 147 yX4_findParts, Cond.instanceMethod yX4_findParts, Cond.selects RX4 yX4_findParts yX4_findParts, Cond.code yX4_findParts cX4_findParts 4 none, Cond.methodLink RL 61 yX9_parts, Cond.instanceMethod yX9_parts, Cond.selects RX9 yX9_parts yX9_parts, Cond.code yX9_parts cX9_parts 5 (some .int), Cond.methodLink RX9 138 yX9_isPart, Cond.instanceMethod yX9_isPart, Cond.selects RX9 yX9_isPart yX9_isPart, Cond.code yX9_isPart cX9_isPart 9 (some .boolean), Cond.methodLink RL 62 yX8_degrees, Cond.instanceMethod yX8_degrees, Cond.selects RX8 yX8_degrees yX8_degrees, Cond.code yX8_degrees cX8_degrees 11 (some .int), Cond.methodLink RX8 151 yX8_family, Cond.instanceMethod yX8_family]
def wsL_law_r19 : List Cond := [Cond.selects RX8 yX8_family yX8_family, Cond.code yX8_family cX8_family 2 (some (.object "WayBook$Ways")), Cond.methodLink RX8 154 yX2_roadsAt, Cond.instanceMethod yX2_roadsAt, Cond.selects RX2 yX2_roadsAt yX2_roadsAt, Cond.code yX2_roadsAt cX2_roadsAt 4 (some .int), Cond.methodLink RX2 47 yX2_beyond, Cond.methodLink RX2 50 yX2_placeOf, Cond.methodLink RX8 157 yX7_list, Cond.instanceMethod yX7_list, Cond.selects RX7 yX7_list yX7_list, Cond.code yX7_list cX7_list 7 (some .int), Cond.methodLink RX8 161 yJ6_bitCount_0f7a4, Cond.methodLink RL 66 yX9_degrees, Cond.instanceMethod yX9_degrees, Cond.selects RX9 yX9_degrees yX9_degrees, Cond.code yX9_degrees cX9_degrees 6 (some .int), Cond.methodLink RX9 142 yX9_isFamily, Cond.instanceMethod yX9_isFamily, Cond.selects RX9 yX9_isFamily yX9_isFamily, Cond.code yX9_isFamily cX9_isFamily 2 (some .boolean), Cond.methodLink RX9 145 yX9_isWay, Cond.instanceMethod yX9_isWay, Cond.selects RX9 yX9_isWay yX9_isWay]
def wsL_law_r20 : List Cond := [Cond.code yX9_isWay cX9_isWay 3 (some .boolean), Cond.methodLink RL 67 yX8_join, Cond.instanceMethod yX8_join, Cond.selects RX8 yX8_join yX8_join, Cond.code yX8_join cX8_join 7 (some .int), Cond.methodLink RX8 166 yX7_size, Cond.instanceMethod yX7_size, Cond.selects RX7 yX7_size yX7_size, Cond.code yX7_size cX7_size 3 (some .int), Cond.methodLink RX7 27 yJ13_bitCount_95d88, Cond.static yJ13_bitCount_95d88, Cond.initialized RJ13, Cond.code yJ13_bitCount_95d88 cJ13_bitCount_95d88 2 (some .int), Cond.constantLong RJ13 314 (6148914691236517205), Cond.constantLong RJ13 316 (3689348814741910323), Cond.constantLong RJ13 318 (1085102592571150095), Cond.methodLink RX8 169 yX8_fillJoined, Cond.instanceMethod yX8_fillJoined, Cond.selects RX8 yX8_fillJoined yX8_fillJoined, Cond.code yX8_fillJoined cX8_fillJoined 5 none, Cond.methodLink RX8 317 yX7_takeBoth, Cond.instanceMethod yX7_takeBoth, Cond.selects RX7 yX7_takeBoth yX7_takeBoth, Cond.code yX7_takeBoth cX7_takeBoth 4 none]
def wsL_law_r21 : List Cond := [Cond.methodLink RX8 320 yX7_takeEither, Cond.instanceMethod yX7_takeEither, Cond.selects RX7 yX7_takeEither yX7_takeEither, Cond.code yX7_takeEither cX7_takeEither 4 none, Cond.methodLink RX8 323 yX7_takeFirstAlone, Cond.instanceMethod yX7_takeFirstAlone, Cond.selects RX7 yX7_takeFirstAlone yX7_takeFirstAlone, Cond.code yX7_takeFirstAlone cX7_takeFirstAlone 4 none, Cond.methodLink RX8 326 yX6_unite, Cond.instanceMethod yX6_unite, Cond.selects RX6 yX6_unite yX6_unite, Cond.code yX6_unite cX6_unite 7 none, Cond.methodLink RX6 18 yX7_used, Cond.instanceMethod yX7_used, Cond.selects RX7 yX7_used yX7_used, Cond.code yX7_used cX7_used 3 (some .int), Cond.methodLink RX7 41 yX7_sizeWith, Cond.instanceMethod yX7_sizeWith, Cond.selects RX7 yX7_sizeWith yX7_sizeWith, Cond.code yX7_sizeWith cX7_sizeWith 4 (some .int), Cond.methodLink RX6 24 yX7_levelsBelow, Cond.static yX7_levelsBelow, Cond.code yX7_levelsBelow cX7_levelsBelow 2 (some .int), Cond.methodLink RX6 28 yX7_holds]
def wsL_law_r22 : List Cond := [Cond.instanceMethod yX7_holds, Cond.selects RX7 yX7_holds yX7_holds, Cond.code yX7_holds cX7_holds 2 (some .boolean), Cond.methodLink RX6 32 yX6_addWithin, Cond.static yX6_addWithin, Cond.code yX6_addWithin cX6_addWithin 5 none, Cond.methodLink RX6 36 yX7_clear, Cond.methodLink RX6 40 yX7_put, Cond.methodLink RX8 330 yX7_takeOver, Cond.instanceMethod yX7_takeOver, Cond.selects RX7 yX7_takeOver yX7_takeOver, Cond.code yX7_takeOver cX7_takeOver 10 none, Cond.methodLink RX7 75 yX7_used, Cond.methodLink RX7 90 yJ6_bitCount_0f7a4, Cond.methodLink RX7 86 yX7_put, Cond.methodLink RX7 94 yX7_nextWithin, Cond.static yX7_nextWithin, Cond.code yX7_nextWithin cX7_nextWithin 2 (some .int), Cond.methodLink RX7 98 yX7_list, Cond.methodLink RX7 82 yX7_holds, Cond.methodLink RX7 102 yX7_take, Cond.instanceMethod yX7_take, Cond.selects RX7 yX7_take yX7_take, Cond.code yX7_take cX7_take 2 none]
def wsL_law_r23 : List Cond := [Cond.methodLink RX8 334 yX7_copy, Cond.instanceMethod yX7_copy, Cond.selects RX7 yX7_copy yX7_copy, Cond.code yX7_copy cX7_copy 2 none, Cond.methodLink RX7 48 arraycopyName, Cond.native arraycopyName, Cond.static arraycopyName, Cond.initialized "java/lang/System", Cond.methodLink RX8 338 yX7_spreadUp, Cond.instanceMethod yX7_spreadUp, Cond.selects RX7 yX7_spreadUp yX7_spreadUp, Cond.code yX7_spreadUp cX7_spreadUp 2 none, Cond.methodLink RX7 54 yX7_raise, Cond.instanceMethod yX7_raise, Cond.selects RX7 yX7_raise yX7_raise, Cond.code yX7_raise cX7_raise 5 none, Cond.methodLink RL 70 yX9_join, Cond.instanceMethod yX9_join, Cond.selects RX9 yX9_join yX9_join, Cond.code yX9_join cX9_join 5 (some .int), Cond.methodLink RX9 151 yX9_count0, Cond.instanceMethod yX9_count0, Cond.selects RX9 yX9_count0 yX9_count0, Cond.code yX9_count0 cX9_count0 4 (some .int)]
def wsL_law_r24 : List Cond := [Cond.methodLink RX9 154 yX9_unions, Cond.instanceMethod yX9_unions, Cond.selects RX9 yX9_unions yX9_unions, Cond.code yX9_unions cX9_unions 5 none, Cond.methodLink RX9 158 yX9_rest, Cond.instanceMethod yX9_rest, Cond.selects RX9 yX9_rest yX9_rest, Cond.code yX9_rest cX9_rest 5 none, Cond.methodLink RX9 148 yX9_isOver, Cond.instanceMethod yX9_isOver, Cond.selects RX9 yX9_isOver yX9_isOver, Cond.code yX9_isOver cX9_isOver 6 (some .boolean), Cond.methodLink RX9 161 yX9_joined, Cond.instanceMethod yX9_joined, Cond.selects RX9 yX9_joined yX9_joined, Cond.code yX9_joined cX9_joined 7 (some .boolean), Cond.methodLink RX9 164 yX9_handed, Cond.instanceMethod yX9_handed, Cond.selects RX9 yX9_handed yX9_handed, Cond.code yX9_handed cX9_handed 2 (some .int), Cond.methodLink RL 71 yX8_thin, Cond.instanceMethod yX8_thin, Cond.selects RX8 yX8_thin yX8_thin, Cond.code yX8_thin cX8_thin 5 (some .int)]
def wsL_law_r25 : List Cond := [Cond.methodLink RX8 173 yX7_used, Cond.methodLink RX8 176 yX7_takeLeast, Cond.instanceMethod yX7_takeLeast, Cond.selects RX7 yX7_takeLeast yX7_takeLeast, Cond.code yX7_takeLeast cX7_takeLeast 4 none, Cond.methodLink RX7 61 yX7_copy, Cond.methodLink RX7 65 yX7_spreadUp, Cond.methodLink RX7 68 yX7_takeFirstAlone, Cond.methodLink RX8 180 yX7_takeGreatest, Cond.instanceMethod yX7_takeGreatest, Cond.selects RX7 yX7_takeGreatest yX7_takeGreatest, Cond.code yX7_takeGreatest cX7_takeGreatest 4 none, Cond.methodLink RX7 72 yX7_spreadDown, Cond.methodLink RX8 183 yX7_takeHitting, Cond.instanceMethod yX7_takeHitting, Cond.selects RX7 yX7_takeHitting yX7_takeHitting, Cond.code yX7_takeHitting cX7_takeHitting 6 none, Cond.methodLink RX7 79 yX7_levelsBelow, Cond.methodLink RL 74 yX9_thin, Cond.instanceMethod yX9_thin, Cond.selects RX9 yX9_thin yX9_thin, Cond.code yX9_thin cX9_thin 4 (some .int), Cond.methodLink RX9 170 yX9_isLeastMeeting, Cond.instanceMethod yX9_isLeastMeeting]
def wsL_law_r26 : List Cond := [Cond.selects RX9 yX9_isLeastMeeting yX9_isLeastMeeting, Cond.code yX9_isLeastMeeting cX9_isLeastMeeting 5 (some .boolean), Cond.methodLink RX9 167 yX9_meets, Cond.instanceMethod yX9_meets, Cond.selects RX9 yX9_meets yX9_meets, Cond.code yX9_meets cX9_meets 5 (some .boolean), Cond.methodLink RX9 173 yX9_isThin, Cond.instanceMethod yX9_isThin, Cond.selects RX9 yX9_isThin yX9_isThin, Cond.code yX9_isThin cX9_isThin 6 (some .boolean), Cond.methodLink RL 75 yX8_by, Cond.instanceMethod yX8_by, Cond.selects RX8 yX8_by yX8_by, Cond.code yX8_by cX8_by 7 (some .int), Cond.methodLink RX8 186 yX7_raise, Cond.methodLink RX8 190 yX7_lower, Cond.methodLink RX8 193 yX7_takeBy, Cond.instanceMethod yX7_takeBy, Cond.selects RX7 yX7_takeBy yX7_takeBy, Cond.code yX7_takeBy cX7_takeBy 7 none, Cond.methodLink RL 78 yX9_by, Cond.instanceMethod yX9_by, Cond.selects RX9 yX9_by yX9_by, Cond.code yX9_by cX9_by 5 (some .int)]
def wsL_law_r27 : List Cond := [Cond.methodLink RL 79 yX8_within, Cond.instanceMethod yX8_within, Cond.selects RX8 yX8_within yX8_within, Cond.code yX8_within cX8_within 9 (some .int), Cond.methodLink RX8 197 yX5_learnWeights, Cond.instanceMethod yX5_learnWeights, Cond.selects RX5 yX5_learnWeights yX5_learnWeights, Cond.code yX5_learnWeights cX5_learnWeights 3 none, Cond.methodLink RX5 24 yX2_weightOf, Cond.instanceMethod yX2_weightOf, Cond.selects RX2 yX2_weightOf yX2_weightOf, Cond.code yX2_weightOf cX2_weightOf 2 (some .int), Cond.methodLink RX5 30 yX5_learn, Cond.instanceMethod yX5_learn, Cond.selects RX5 yX5_learn yX5_learn, Cond.code yX5_learn cX5_learn 3 none, Cond.methodLink RX8 201 yX5_of, Cond.instanceMethod yX5_of, Cond.selects RX5 yX5_of yX5_of, Cond.code yX5_of cX5_of 2 (some .int), Cond.methodLink RL 82 yX9_within, Cond.instanceMethod yX9_within, Cond.selects RX9 yX9_within yX9_within, Cond.code yX9_within cX9_within 5 (some .int)]
def wsL_law_r28 : List Cond := [Cond.methodLink RX9 177 yX9_sumOf, Cond.instanceMethod yX9_sumOf, Cond.selects RX9 yX9_sumOf yX9_sumOf, Cond.code yX9_sumOf cX9_sumOf 4 (some .int), Cond.methodLink RL 83 yX8_drop, Cond.instanceMethod yX8_drop, Cond.selects RX8 yX8_drop yX8_drop, Cond.code yX8_drop cX8_drop 1 (some .int), Cond.methodLink RL 87 yX9_drop, Cond.instanceMethod yX9_drop, Cond.selects RX9 yX9_drop yX9_drop, Cond.code yX9_drop cX9_drop 1 (some .int), Cond.methodLink RL 88 yX8_close, Cond.instanceMethod yX8_close, Cond.selects RX8 yX8_close yX8_close, Cond.code yX8_close cX8_close 1 (some .int), Cond.fieldLink RX8 207 "WayBook$Net" "roads" "I", Cond.methodLink RX8 210 yX2_loseRoad, Cond.instanceMethod yX2_loseRoad, Cond.selects RX2 yX2_loseRoad yX2_loseRoad, Cond.code yX2_loseRoad cX2_loseRoad 1 (some .int), Cond.methodLink RL 91 yX9_close, Cond.instanceMethod yX9_close, Cond.selects RX9 yX9_close yX9_close]
def wsL_law_r29 : List Cond := [Cond.code yX9_close cX9_close 1 (some .int), Cond.methodLink RL 92 yX8_count, Cond.instanceMethod yX8_count, Cond.selects RX8 yX8_count yX8_count, Cond.code yX8_count cX8_count 3 (some .int), Cond.methodLink RL 95 yX9_count, Cond.instanceMethod yX9_count, Cond.selects RX9 yX9_count yX9_count, Cond.code yX9_count cX9_count 2 (some .int), Cond.methodLink RL 96 yX8_told, Cond.instanceMethod yX8_told, Cond.selects RX8 yX8_told yX8_told, Cond.code yX8_told cX8_told 4 (some .int), Cond.fieldLink RX8 213 "WayBook$Ways" "kind" "I", Cond.methodLink RX8 216 yX3_list, Cond.instanceMethod yX3_list, Cond.selects RX3 yX3_list yX3_list, Cond.code yX3_list cX3_list 2 (some .int), Cond.fieldLink RX3 23 "WayBook$Rows" "size" "I", Cond.methodLink RX3 27 yX3_clear, Cond.instanceMethod yX3_clear, Cond.selects RX3 yX3_clear yX3_clear, Cond.code yX3_clear cX3_clear 1 none, Cond.methodLink RX3 34 yJ7_fill_53178]
def wsL_law_r30 : List Cond := [Cond.methodLink RX3 30 yX3_over, Cond.instanceMethod yX3_over, Cond.selects RX3 yX3_over yX3_over, Cond.code yX3_over cX3_over 6 (some .int), Cond.fieldLink RX3 40 "WayBook$Ways" "words" "[J", Cond.methodLink RX3 46 yX3_under, Cond.instanceMethod yX3_under, Cond.selects RX3 yX3_under yX3_under, Cond.code yX3_under cX3_under 7 (some .int), Cond.methodLink RX3 50 yX3_knot, Cond.instanceMethod yX3_knot, Cond.selects RX3 yX3_knot yX3_knot, Cond.code yX3_knot cX3_knot 5 (some .int), Cond.methodLink RX3 54 yX3_find, Cond.instanceMethod yX3_find, Cond.selects RX3 yX3_find yX3_find, Cond.code yX3_find cX3_find 6 (some .int), Cond.methodLink RX3 60 yX3_mark, Cond.static yX3_mark, Cond.code yX3_mark cX3_mark 4 (some .int), Cond.methodLink RX3 63 yX3_isCell, Cond.instanceMethod yX3_isCell, Cond.selects RX3 yX3_isCell yX3_isCell, Cond.code yX3_isCell cX3_isCell 3 (some .boolean)]
def wsL_law_r31 : List Cond := [Cond.methodLink RX3 57 yX3_add, Cond.instanceMethod yX3_add, Cond.selects RX3 yX3_add yX3_add, Cond.code yX3_add cX3_add 6 (some .int), Cond.methodLink RX3 67 yX3_countOf, Cond.instanceMethod yX3_countOf, Cond.selects RX3 yX3_countOf yX3_countOf, Cond.code yX3_countOf cX3_countOf 2 (some .int), Cond.methodLink RL 99 yX9_told, Cond.instanceMethod yX9_told, Cond.selects RX9 yX9_told yX9_told, Cond.code yX9_told cX9_told 5 (some .int), Cond.fieldLink RX9 180 "WayBookModel" "knots" "I", Cond.methodLink RX9 190 yX9_bookOf, Cond.instanceMethod yX9_bookOf, Cond.selects RX9 yX9_bookOf yX9_bookOf, Cond.code yX9_bookOf cX9_bookOf 5 (some .int), Cond.methodLink RX9 183 yX9_turnedMask, Cond.static yX9_turnedMask, Cond.code yX9_turnedMask cX9_turnedMask 4 (some .int), Cond.methodLink RX9 186 yX9_knot, Cond.instanceMethod yX9_knot, Cond.selects RX9 yX9_knot yX9_knot, Cond.code yX9_knot cX9_knot 5 (some .int)]
def wsL_law_r32 : List Cond := [Cond.methodLink RL 100 yX8_total, Cond.instanceMethod yX8_total, Cond.selects RX8 yX8_total yX8_total, Cond.code yX8_total cX8_total 6 (some .long), Cond.methodLink RX8 219 yX2_weightOf, Cond.methodLink RX8 222 yX7_sizeWith, Cond.methodLink RL 104 yX9_total, Cond.instanceMethod yX9_total, Cond.selects RX9 yX9_total yX9_total, Cond.code yX9_total cX9_total 5 (some .long), Cond.methodLink RL 105 yX8_often, Cond.instanceMethod yX8_often, Cond.selects RX8 yX8_often yX8_often, Cond.code yX8_often cX8_often 4 (some .int), Cond.methodLink RL 108 yX9_often, Cond.instanceMethod yX9_often, Cond.selects RX9 yX9_often yX9_often, Cond.code yX9_often cX9_often 5 (some .int), Cond.methodLink RL 109 yX8_has, Cond.instanceMethod yX8_has, Cond.selects RX8 yX8_has yX8_has, Cond.code yX8_has cX8_has 4 (some .int), Cond.methodLink RX8 225 yX7_holds, Cond.methodLink RL 112 yX9_has]
def wsL_law_r33 : List Cond := [Cond.instanceMethod yX9_has, Cond.selects RX9 yX9_has yX9_has, Cond.code yX9_has cX9_has 3 (some .int), Cond.methodLink RL 113 yX8_way, Cond.instanceMethod yX8_way, Cond.selects RX8 yX8_way yX8_way, Cond.code yX8_way cX8_way 4 (some .int), Cond.methodLink RX8 228 yX7_nth, Cond.instanceMethod yX7_nth, Cond.selects RX7 yX7_nth yX7_nth, Cond.code yX7_nth cX7_nth 5 (some .int), Cond.methodLink RX7 37 yX7_nthBit, Cond.static yX7_nthBit, Cond.code yX7_nthBit cX7_nthBit 5 (some .int), Cond.methodLink RX8 231 yX8_maskAt, Cond.static yX8_maskAt, Cond.code yX8_maskAt cX8_maskAt 1 (some .int), Cond.methodLink RL 116 yX9_way, Cond.instanceMethod yX9_way, Cond.selects RX9 yX9_way yX9_way, Cond.code yX9_way cX9_way 3 (some .int), Cond.methodLink RX9 196 yX9_way0, Cond.instanceMethod yX9_way0, Cond.selects RX9 yX9_way0 yX9_way0]
def wsL_law_r34 : List Cond := [Cond.code yX9_way0 cX9_way0 5 (some .int), Cond.methodLink RX9 193 yX9_ordered, Cond.static yX9_ordered, Cond.code yX9_ordered cX9_ordered 3 (some .int), Cond.methodLink RL 117 yX8_rank, Cond.instanceMethod yX8_rank, Cond.selects RX8 yX8_rank yX8_rank, Cond.code yX8_rank cX8_rank 4 (some .int), Cond.methodLink RX8 234 yX7_sizeAhead, Cond.instanceMethod yX7_sizeAhead, Cond.selects RX7 yX7_sizeAhead yX7_sizeAhead, Cond.code yX7_sizeAhead cX7_sizeAhead 6 (some .int), Cond.methodLink RL 120 yX9_rank, Cond.instanceMethod yX9_rank, Cond.selects RX9 yX9_rank yX9_rank, Cond.code yX9_rank cX9_rank 5 (some .int), Cond.methodLink RL 121 yX8_best, Cond.instanceMethod yX8_best, Cond.selects RX8 yX8_best yX8_best, Cond.code yX8_best cX8_best 5 (some .int), Cond.methodLink RX8 237 yX5_nthBest, Cond.instanceMethod yX5_nthBest, Cond.selects RX5 yX5_nthBest yX5_nthBest, Cond.code yX5_nthBest cX5_nthBest 8 (some .int)]
def wsL_law_r35 : List Cond := [Cond.methodLink RX5 36 yX5_countSums, Cond.instanceMethod yX5_countSums, Cond.selects RX5 yX5_countSums yX5_countSums, Cond.code yX5_countSums cX5_countSums 5 none, Cond.methodLink RX5 44 yJ7_fill_53178, Cond.methodLink RX5 49 yX5_of, Cond.methodLink RX5 40 yX5_nthOfSum, Cond.instanceMethod yX5_nthOfSum, Cond.selects RX5 yX5_nthOfSum yX5_nthOfSum, Cond.code yX5_nthOfSum cX5_nthOfSum 7 (some .int), Cond.methodLink RL 124 yX9_best, Cond.instanceMethod yX9_best, Cond.selects RX9 yX9_best yX9_best, Cond.code yX9_best cX9_best 8 (some .int), Cond.methodLink RL 125 yX8_draw, Cond.instanceMethod yX8_draw, Cond.selects RX8 yX8_draw yX8_draw, Cond.code yX8_draw cX8_draw 5 (some .int), Cond.methodLink RX8 241 yX8_drawn, Cond.static yX8_drawn, Cond.code yX8_drawn cX8_drawn 6 (some .int), Cond.constant RX8 345 (1103515245), Cond.methodLink RL 128 yX9_draw, Cond.instanceMethod yX9_draw]
def wsL_law_r36 : List Cond := [Cond.selects RX9 yX9_draw yX9_draw, Cond.code yX9_draw cX9_draw 8 (some .int), Cond.constant RX9 199 (1103515245), Cond.methodLink RL 129 yX8_same, Cond.instanceMethod yX8_same, Cond.selects RX8 yX8_same yX8_same, Cond.code yX8_same cX8_same 5 (some .int), Cond.methodLink RX8 245 yX7_isLike, Cond.instanceMethod yX7_isLike, Cond.selects RX7 yX7_isLike yX7_isLike, Cond.code yX7_isLike cX7_isLike 3 (some .boolean), Cond.methodLink RL 132 yX9_same, Cond.instanceMethod yX9_same, Cond.selects RX9 yX9_same yX9_same, Cond.code yX9_same cX9_same 5 (some .int), Cond.methodLink RL 133 yX8_chance, Cond.instanceMethod yX8_chance, Cond.selects RX8 yX8_chance yX8_chance, Cond.code yX8_chance cX8_chance 3 (some .long), Cond.constantLong RX8 249 (-1), Cond.methodLink RX8 251 yX8_chanceIf, Cond.instanceMethod yX8_chanceIf, Cond.selects RX8 yX8_chanceIf yX8_chanceIf, Cond.code yX8_chanceIf cX8_chanceIf 4 (some .long)]
def wsL_law_r37 : List Cond := [Cond.methodLink RX8 341 yX6_chanceOf, Cond.instanceMethod yX6_chanceOf, Cond.selects RX6 yX6_chanceOf yX6_chanceOf, Cond.code yX6_chanceOf cX6_chanceOf 10 (some .long), Cond.fieldLink RX6 43 "WayBook$Net" "roads" "I", Cond.methodLink RX6 49 yX2_eighthsOf, Cond.instanceMethod yX2_eighthsOf, Cond.selects RX2 yX2_eighthsOf yX2_eighthsOf, Cond.code yX2_eighthsOf cX2_eighthsOf 2 (some .int), Cond.methodLink RL 136 yX9_chance, Cond.instanceMethod yX9_chance, Cond.selects RX9 yX9_chance yX9_chance, Cond.code yX9_chance cX9_chance 2 (some .long), Cond.constantLong RX9 204 (-1), Cond.methodLink RX9 200 yX9_chance0, Cond.instanceMethod yX9_chance0, Cond.selects RX9 yX9_chance0 yX9_chance0, Cond.code yX9_chance0 cX9_chance0 11 (some .long), Cond.methodLink RL 137 yX8_matters, Cond.instanceMethod yX8_matters, Cond.selects RX8 yX8_matters yX8_matters, Cond.code yX8_matters cX8_matters 4 (some .long), Cond.methodLink RL 141 yX9_matters, Cond.instanceMethod yX9_matters]
def wsL_law_r38 : List Cond := [Cond.selects RX9 yX9_matters yX9_matters, Cond.code yX9_matters cX9_matters 3 (some .long), Cond.methodLink RL 142 yX8_turned, Cond.instanceMethod yX8_turned, Cond.selects RX8 yX8_turned yX8_turned, Cond.code yX8_turned cX8_turned 6 (some .int), Cond.methodLink RX8 255 yX5_learnTurn, Cond.instanceMethod yX5_learnTurn, Cond.selects RX5 yX5_learnTurn yX5_learnTurn, Cond.code yX5_learnTurn cX5_learnTurn 4 none, Cond.methodLink RX5 33 yX2_placeOf, Cond.methodLink RL 145 yX9_turned, Cond.instanceMethod yX9_turned, Cond.selects RX9 yX9_turned yX9_turned, Cond.code yX9_turned cX9_turned 3 (some .int), Cond.methodLink RL 146 yX8_write, Cond.instanceMethod yX8_write, Cond.selects RX8 yX8_write yX8_write, Cond.code yX8_write cX8_write 3 (some .int), Cond.methodLink RL 149 yX9_write, Cond.instanceMethod yX9_write, Cond.selects RX9 yX9_write yX9_write, Cond.code yX9_write cX9_write 3 (some .int), Cond.fieldLink RX9 206 "WayBookModel" "wants" "I"]
def wsL_law_r39 : List Cond := [Cond.fieldLink RX9 222 "WayBookModel" "rows" "I", Cond.methodLink RX9 219 yX9_rowsOf, Cond.instanceMethod yX9_rowsOf, Cond.selects RX9 yX9_rowsOf yX9_rowsOf, Cond.code yX9_rowsOf cX9_rowsOf 6 none, Cond.methodLink RX9 215 yX9_writeKnot, Cond.instanceMethod yX9_writeKnot, Cond.selects RX9 yX9_writeKnot yX9_writeKnot, Cond.code yX9_writeKnot cX9_writeKnot 2 none, Cond.methodLink RX9 209 yX9_ref, Cond.instanceMethod yX9_ref, Cond.selects RX9 yX9_ref yX9_ref, Cond.code yX9_ref cX9_ref 2 (some .int), Cond.methodLink RX9 212 yX9_countOf, Cond.instanceMethod yX9_countOf, Cond.selects RX9 yX9_countOf yX9_countOf, Cond.code yX9_countOf cX9_countOf 2 (some .int), Cond.methodLink RL 150 yX8_row, Cond.instanceMethod yX8_row, Cond.selects RX8 yX8_row yX8_row, Cond.code yX8_row cX8_row 3 (some .int), Cond.fieldLink RX8 264 "WayBook$Rows" "cells" "[[I", Cond.methodLink RX8 261 yX3_isCell, Cond.methodLink RL 153 yX9_row]
def wsL_law_r40 : List Cond := [Cond.instanceMethod yX9_row, Cond.selects RX9 yX9_row yX9_row, Cond.code yX9_row cX9_row 3 (some .int), Cond.methodLink RL 154 yX8_forge, Cond.instanceMethod yX8_forge, Cond.selects RX8 yX8_forge yX8_forge, Cond.code yX8_forge cX8_forge 4 (some .int), Cond.methodLink RL 157 yX9_forge, Cond.instanceMethod yX9_forge, Cond.selects RX9 yX9_forge yX9_forge, Cond.code yX9_forge cX9_forge 4 (some .int), Cond.methodLink RL 158 yX8_check, Cond.instanceMethod yX8_check, Cond.selects RX8 yX8_check yX8_check, Cond.code yX8_check cX8_check 4 (some .int), Cond.methodLink RX8 268 yX3_firstWrong, Cond.instanceMethod yX3_firstWrong, Cond.selects RX3 yX3_firstWrong yX3_firstWrong, Cond.code yX3_firstWrong cX3_firstWrong 4 (some .int), Cond.methodLink RX3 71 yX3_wrongness, Cond.instanceMethod yX3_wrongness, Cond.selects RX3 yX3_wrongness yX3_wrongness, Cond.code yX3_wrongness cX3_wrongness 6 (some .int), Cond.methodLink RX3 75 yX3_isLead]
def wsL_law_r41 : List Cond := [Cond.static yX3_isLead, Cond.code yX3_isLead cX3_isLead 2 (some .boolean), Cond.methodLink RX3 78 yX3_roadOfLead, Cond.instanceMethod yX3_roadOfLead, Cond.selects RX3 yX3_roadOfLead yX3_roadOfLead, Cond.code yX3_roadOfLead cX3_roadOfLead 2 (some .int), Cond.methodLink RX8 272 yX3_isLike, Cond.instanceMethod yX3_isLike, Cond.selects RX3 yX3_isLike yX3_isLike, Cond.code yX3_isLike cX3_isLike 4 (some .boolean), Cond.methodLink RL 161 yX9_check, Cond.instanceMethod yX9_check, Cond.selects RX9 yX9_check yX9_check, Cond.code yX9_check cX9_check 4 (some .int), Cond.methodLink RX9 231 yX9_wrong, Cond.instanceMethod yX9_wrong, Cond.selects RX9 yX9_wrong yX9_wrong, Cond.code yX9_wrong cX9_wrong 5 (some .int), Cond.methodLink RX9 225 yX9_isAbove, Cond.instanceMethod yX9_isAbove, Cond.selects RX9 yX9_isAbove yX9_isAbove, Cond.code yX9_isAbove cX9_isAbove 3 (some .boolean), Cond.methodLink RX9 228 yX9_rowCount, Cond.instanceMethod yX9_rowCount]
def wsL_law_r42 : List Cond := [Cond.selects RX9 yX9_rowCount yX9_rowCount, Cond.code yX9_rowCount cX9_rowCount 2 (some .int), Cond.methodLink RL 162 yX8_sheet, Cond.instanceMethod yX8_sheet, Cond.selects RX8 yX8_sheet yX8_sheet, Cond.code yX8_sheet cX8_sheet 4 (some .int), Cond.methodLink RX8 275 yX1_layOut, Cond.instanceMethod yX1_layOut, Cond.selects RX1 yX1_layOut yX1_layOut, Cond.code yX1_layOut cX1_layOut 4 (some .int), Cond.methodLink RX1 35 yX1_isNumber, Cond.instanceMethod yX1_isNumber, Cond.selects RX1 yX1_isNumber yX1_isNumber, Cond.code yX1_isNumber cX1_isNumber 2 (some .boolean), Cond.methodLink RL 165 yX9_sheet, Cond.instanceMethod yX9_sheet, Cond.selects RX9 yX9_sheet yX9_sheet, Cond.code yX9_sheet cX9_sheet 5 (some .int), Cond.methodLink RL 166 yX8_cell, Cond.instanceMethod yX8_cell, Cond.selects RX8 yX8_cell yX8_cell, Cond.code yX8_cell cX8_cell 4 (some .int), Cond.methodLink RX8 278 yX1_fill, Cond.instanceMethod yX1_fill]
def wsL_law_r43 : List Cond := [Cond.selects RX1 yX1_fill yX1_fill, Cond.code yX1_fill cX1_fill 4 (some .int), Cond.methodLink RX1 39 yX1_isItem, Cond.instanceMethod yX1_isItem, Cond.selects RX1 yX1_isItem yX1_isItem, Cond.code yX1_isItem cX1_isItem 3 (some .boolean), Cond.methodLink RX1 43 yX1_cut, Cond.static yX1_cut, Cond.code yX1_cut cX1_cut 2 (some .int), Cond.methodLink RL 169 yX9_cell, Cond.instanceMethod yX9_cell, Cond.selects RX9 yX9_cell yX9_cell, Cond.code yX9_cell cX9_cell 4 (some .int), Cond.methodLink RL 170 yX8_lay, Cond.instanceMethod yX8_lay, Cond.selects RX8 yX8_lay yX8_lay, Cond.code yX8_lay cX8_lay 5 (some .int), Cond.methodLink RX8 281 yX1_refusalOfThree, Cond.instanceMethod yX1_refusalOfThree, Cond.selects RX1 yX1_refusalOfThree yX1_refusalOfThree, Cond.code yX1_refusalOfThree cX1_refusalOfThree 4 (some .int), Cond.methodLink RX8 284 yX1_item, Cond.instanceMethod yX1_item, Cond.selects RX1 yX1_item yX1_item]
def wsL_law_r44 : List Cond := [Cond.code yX1_item cX1_item 3 (some .int), Cond.methodLink RX8 287 yX8_road, Cond.methodLink RL 173 yX9_lay, Cond.instanceMethod yX9_lay, Cond.selects RX9 yX9_lay yX9_lay, Cond.code yX9_lay cX9_lay 5 (some .int), Cond.methodLink RX9 234 yX9_road, Cond.methodLink RL 174 yX8_shelf, Cond.instanceMethod yX8_shelf, Cond.selects RX8 yX8_shelf yX8_shelf, Cond.code yX8_shelf cX8_shelf 5 (some .int), Cond.methodLink RX8 290 yX1_isNumber, Cond.methodLink RX8 293 yX1_hold, Cond.instanceMethod yX1_hold, Cond.selects RX1 yX1_hold yX1_hold, Cond.code yX1_hold cX1_hold 4 (some .int), Cond.methodLink RX8 296 yX1_holdSheet, Cond.instanceMethod yX1_holdSheet, Cond.selects RX1 yX1_holdSheet yX1_holdSheet, Cond.code yX1_holdSheet cX1_holdSheet 4 (some .int), Cond.methodLink RX1 47 yX1_hold, Cond.methodLink RL 177 yX9_shelf, Cond.instanceMethod yX9_shelf, Cond.selects RX9 yX9_shelf yX9_shelf]
def wsL_law_r45 : List Cond := [Cond.code yX9_shelf cX9_shelf 6 (some .int), Cond.methodLink RL 178 yX8_taken, Cond.instanceMethod yX8_taken, Cond.selects RX8 yX8_taken yX8_taken, Cond.code yX8_taken cX8_taken 3 (some .int), Cond.methodLink RX8 299 yX1_heldFor, Cond.instanceMethod yX1_heldFor, Cond.selects RX1 yX1_heldFor yX1_heldFor, Cond.code yX1_heldFor cX1_heldFor 4 (some .int), Cond.methodLink RX1 51 yX1_isOne, Cond.static yX1_isOne, Cond.code yX1_isOne cX1_isOne 4 (some .boolean), Cond.methodLink RL 181 yX9_taken, Cond.instanceMethod yX9_taken, Cond.selects RX9 yX9_taken yX9_taken, Cond.code yX9_taken cX9_taken 5 (some .int), Cond.methodLink RX9 237 yX9_isOf, Cond.static yX9_isOf, Cond.code yX9_isOf cX9_isOf 2 (some .boolean), Cond.methodLink RL 182 yX8_act, Cond.instanceMethod yX8_act, Cond.selects RX8 yX8_act yX8_act, Cond.code yX8_act cX8_act 5 (some .int), Cond.methodLink RX8 302 yX0_forget]
def wsL_law_r46 : List Cond := [Cond.instanceMethod yX0_forget, Cond.selects RX0 yX0_forget yX0_forget, Cond.code yX0_forget cX0_forget 1 none, Cond.fieldLink RX0 15 "WayBook$Acts" "ran" "I", Cond.methodLink RX8 305 yX0_begin, Cond.instanceMethod yX0_begin, Cond.selects RX0 yX0_begin yX0_begin, Cond.code yX0_begin cX0_begin 5 (some .int), Cond.fieldLink RX0 19 "WayBook$Acts" "kind" "I", Cond.fieldLink RX0 22 "WayBook$Acts" "ways" "I", Cond.methodLink RX0 25 yX0_run, Cond.instanceMethod yX0_run, Cond.selects RX0 yX0_run yX0_run, Cond.code yX0_run cX0_run 7 (some .int), Cond.methodLink RX0 41 yX0_bodyOf, Cond.static yX0_bodyOf, Cond.code yX0_bodyOf cX0_bodyOf 2 (some .int), Cond.fieldLink RX0 32 "WayBook$Acts" "FITTING" "[I", Cond.fieldLink RX0 35 "WayBook$Acts" "JOINING" "[I", Cond.fieldLink RX0 38 "WayBook$Acts" "WEIGHING" "[I", Cond.methodLink RX0 45 yX0_note, Cond.instanceMethod yX0_note, Cond.selects RX0 yX0_note yX0_note, Cond.code yX0_note cX0_note 2 none]
def wsL_law_r47 : List Cond := [Cond.methodLink RL 185 yX9_act, Cond.instanceMethod yX9_act, Cond.selects RX9 yX9_act yX9_act, Cond.code yX9_act cX9_act 4 (some .int), Cond.fieldLink RX9 240 "WayBookModel" "traces" "I", Cond.fieldLink RX9 246 "WayBookModel" "ways" "I", Cond.methodLink RX9 249 yX9_fits, Cond.instanceMethod yX9_fits, Cond.selects RX9 yX9_fits yX9_fits, Cond.code yX9_fits cX9_fits 5 (some .int), Cond.methodLink RX9 243 yX9_ran, Cond.instanceMethod yX9_ran, Cond.selects RX9 yX9_ran yX9_ran, Cond.code yX9_ran cX9_ran 2 none, Cond.methodLink RX9 255 yX9_joins, Cond.instanceMethod yX9_joins, Cond.selects RX9 yX9_joins yX9_joins, Cond.code yX9_joins cX9_joins 4 (some .int), Cond.methodLink RX9 252 yX9_familyJoins, Cond.instanceMethod yX9_familyJoins, Cond.selects RX9 yX9_familyJoins yX9_familyJoins, Cond.code yX9_familyJoins cX9_familyJoins 3 (some .int), Cond.methodLink RX9 261 yX9_weighs, Cond.instanceMethod yX9_weighs]
def wsL_law_r48 : List Cond := [Cond.selects RX9 yX9_weighs yX9_weighs, Cond.code yX9_weighs cX9_weighs 4 (some .int), Cond.methodLink RX9 258 yX9_familyWeighs, Cond.instanceMethod yX9_familyWeighs, Cond.selects RX9 yX9_familyWeighs yX9_familyWeighs, Cond.code yX9_familyWeighs cX9_familyWeighs 4 (some .int), Cond.methodLink RL 186 yX8_trace, Cond.instanceMethod yX8_trace, Cond.selects RX8 yX8_trace yX8_trace, Cond.code yX8_trace cX8_trace 2 (some .int), Cond.methodLink RX8 309 yX0_kept, Cond.instanceMethod yX0_kept, Cond.selects RX0 yX0_kept yX0_kept, Cond.code yX0_kept cX0_kept 2 (some .int), Cond.methodLink RL 189 yX9_trace, Cond.instanceMethod yX9_trace, Cond.selects RX9 yX9_trace yX9_trace, Cond.code yX9_trace cX9_trace 2 (some .int), Cond.methodLink RL 190 yX8_there, Cond.instanceMethod yX8_there, Cond.selects RX8 yX8_there yX8_there, Cond.code yX8_there cX8_there 2 (some .int), Cond.fieldLink RX8 312 "WayBook$Rows" "size" "I", Cond.fieldLink RX8 314 "WayBook$Acts" "ran" "I"]
def wsL_law_r49 : List Cond := [Cond.methodLink RL 193 yX9_there, Cond.instanceMethod yX9_there, Cond.selects RX9 yX9_there yX9_there, Cond.code yX9_there cX9_there 2 (some .int)]
def wsL_law : List Cond := (wsL_law_r1 ++ (wsL_law_r2 ++ (wsL_law_r3 ++ (wsL_law_r4 ++ (wsL_law_r5 ++ (wsL_law_r6 ++ (wsL_law_r7 ++ (wsL_law_r8 ++ (wsL_law_r9 ++ (wsL_law_r10 ++ (wsL_law_r11 ++ (wsL_law_r12 ++ (wsL_law_r13 ++ (wsL_law_r14 ++ (wsL_law_r15 ++ (wsL_law_r16 ++ (wsL_law_r17 ++ (wsL_law_r18 ++ (wsL_law_r19 ++ (wsL_law_r20 ++ (wsL_law_r21 ++ (wsL_law_r22 ++ (wsL_law_r23 ++ (wsL_law_r24 ++ (wsL_law_r25 ++ (wsL_law_r26 ++ (wsL_law_r27 ++ (wsL_law_r28 ++ (wsL_law_r29 ++ (wsL_law_r30 ++ (wsL_law_r31 ++ (wsL_law_r32 ++ (wsL_law_r33 ++ (wsL_law_r34 ++ (wsL_law_r35 ++ (wsL_law_r36 ++ (wsL_law_r37 ++ (wsL_law_r38 ++ (wsL_law_r39 ++ (wsL_law_r40 ++ (wsL_law_r41 ++ (wsL_law_r42 ++ (wsL_law_r43 ++ (wsL_law_r44 ++ (wsL_law_r45 ++ (wsL_law_r46 ++ (wsL_law_r47 ++ (wsL_law_r48 ++ wsL_law_r49)))))))))))))))))))))))))))))))))))))))))))))))) ++ wsX80 ++ wsX90 ++ wsX20 ++ wsX70 ++ wsX50 ++ wsX60 ++ wsX30 ++ wsX10 ++ wsX00 ++ wsX40 ++ ([] : List Cond)
set_option maxRecDepth 20000 in
theorem wsL_word : wsL_law.all goodWord = true := by decide +kernel
theorem wsL_good : ∀ w ∈ wsL_law, (w.onTables && w.keeps) = true ∨ ∃ ty, w = .arrayClass ty := fun w h => good_of_word (List.all_eq_true.mp wsL_word w h)
theorem inlX0 : ∀ w ∈ wsX00, w ∈ wsL_law := fun _ h => List.mem_append_left _ (List.mem_append_left _ (List.mem_append_right _ h))
theorem inlX1 : ∀ w ∈ wsX10, w ∈ wsL_law := fun _ h => List.mem_append_left _ (List.mem_append_left _ (List.mem_append_left _ (List.mem_append_right _ h)))
theorem inlX2 : ∀ w ∈ wsX20, w ∈ wsL_law := fun _ h => List.mem_append_left _ (List.mem_append_left _ (List.mem_append_left _ (List.mem_append_left _ (List.mem_append_left _ (List.mem_append_left _ (List.mem_append_left _ (List.mem_append_left _ (List.mem_append_right _ h))))))))
theorem inlX3 : ∀ w ∈ wsX30, w ∈ wsL_law := fun _ h => List.mem_append_left _ (List.mem_append_left _ (List.mem_append_left _ (List.mem_append_left _ (List.mem_append_right _ h))))
theorem inlX4 : ∀ w ∈ wsX40, w ∈ wsL_law := fun _ h => List.mem_append_left _ (List.mem_append_right _ h)
theorem inlX5 : ∀ w ∈ wsX50, w ∈ wsL_law := fun _ h => List.mem_append_left _ (List.mem_append_left _ (List.mem_append_left _ (List.mem_append_left _ (List.mem_append_left _ (List.mem_append_left _ (List.mem_append_right _ h))))))
theorem inlX6 : ∀ w ∈ wsX60, w ∈ wsL_law := fun _ h => List.mem_append_left _ (List.mem_append_left _ (List.mem_append_left _ (List.mem_append_left _ (List.mem_append_left _ (List.mem_append_right _ h)))))
theorem inlX7 : ∀ w ∈ wsX70, w ∈ wsL_law := fun _ h => List.mem_append_left _ (List.mem_append_left _ (List.mem_append_left _ (List.mem_append_left _ (List.mem_append_left _ (List.mem_append_left _ (List.mem_append_left _ (List.mem_append_right _ h)))))))
theorem inlX8 : ∀ w ∈ wsX80, w ∈ wsL_law := fun _ h => List.mem_append_left _ (List.mem_append_left _ (List.mem_append_left _ (List.mem_append_left _ (List.mem_append_left _ (List.mem_append_left _ (List.mem_append_left _ (List.mem_append_left _ (List.mem_append_left _ (List.mem_append_left _ (List.mem_append_right _ h))))))))))
theorem inlX9 : ∀ w ∈ wsX90, w ∈ wsL_law := fun _ h => List.mem_append_left _ (List.mem_append_left _ (List.mem_append_left _ (List.mem_append_left _ (List.mem_append_left _ (List.mem_append_left _ (List.mem_append_left _ (List.mem_append_left _ (List.mem_append_left _ (List.mem_append_right _ h)))))))))
abbrev vwCl : List vw_C := [(RX0, TX0, 4), (RX1, TX1, 5), (RX2, TX2, 7), (RX3, TX3, 4), (RX4, TX4, 8), (RX5, TX5, 4), (RX6, TX6, 2), (RX7, TX7, 2), (RX8, TX8, 12), (RX9, TX9, 33)]
