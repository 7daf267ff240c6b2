-- ===== PART A: goes FIRST, ahead of the names: the tables' words, and 'selects' of the private methods out of them =====
/-- a private method of a class that the tables say can be made, by its rows of tables_1 -/
def lw_okq (q : MethodName × Nat) : Prop := (q.1.cls ≠ "java/lang/invoke/MethodHandle" ∧ q.1.cls ≠ "java/lang/invoke/VarHandle") ∧ Cond.instantiable q.1.cls q.2 ∈ tables_1 ∧ Cond.privateMethod q.1 ∈ tables_1 ∧ Cond.instanceMethod q.1 ∈ tables_1
theorem lw_p0 : lw_okq (⟨"TreePeers", "feedNumber", "(I)V"⟩, 18) := ⟨⟨by decide +kernel, by decide +kernel⟩, List.mem_of_getElem? (i := 26) (by decide +kernel), List.mem_of_getElem? (i := 486) (by decide +kernel), List.mem_of_getElem? (i := 487) (by decide +kernel)⟩
theorem lw_p1 : lw_okq (⟨"TreePeers$Reader", "signAt", "(I)I"⟩, 13) := ⟨⟨by decide +kernel, by decide +kernel⟩, List.mem_of_getElem? (i := 307) (by decide +kernel), List.mem_of_getElem? (i := 509) (by decide +kernel), List.mem_of_getElem? (i := 510) (by decide +kernel)⟩
theorem lw_p2 : lw_okq (⟨"TreePeers$Reader", "readRun", "()V"⟩, 13) := ⟨⟨by decide +kernel, by decide +kernel⟩, List.mem_of_getElem? (i := 307) (by decide +kernel), List.mem_of_getElem? (i := 519) (by decide +kernel), List.mem_of_getElem? (i := 520) (by decide +kernel)⟩
theorem lw_p3 : lw_okq (⟨"TreePeers$ClusterText", "readLine", "()Z"⟩, 4) := ⟨⟨by decide +kernel, by decide +kernel⟩, List.mem_of_getElem? (i := 364) (by decide +kernel), List.mem_of_getElem? (i := 540) (by decide +kernel), List.mem_of_getElem? (i := 541) (by decide +kernel)⟩
theorem lw_p4 : lw_okq (⟨"TreePeers$ClusterText", "readSetting", "(I)Z"⟩, 4) := ⟨⟨by decide +kernel, by decide +kernel⟩, List.mem_of_getElem? (i := 364) (by decide +kernel), List.mem_of_getElem? (i := 544) (by decide +kernel), List.mem_of_getElem? (i := 545) (by decide +kernel)⟩
theorem lw_p5 : lw_okq (⟨"TreePeers$ClusterText", "readRule", "()Z"⟩, 4) := ⟨⟨by decide +kernel, by decide +kernel⟩, List.mem_of_getElem? (i := 364) (by decide +kernel), List.mem_of_getElem? (i := 553) (by decide +kernel), List.mem_of_getElem? (i := 554) (by decide +kernel)⟩
theorem lw_p6 : lw_okq (⟨"TreePeers$ClusterText", "readKey", "()Z"⟩, 4) := ⟨⟨by decide +kernel, by decide +kernel⟩, List.mem_of_getElem? (i := 364) (by decide +kernel), List.mem_of_getElem? (i := 566) (by decide +kernel), List.mem_of_getElem? (i := 567) (by decide +kernel)⟩
theorem lw_p7 : lw_okq (⟨"TreePeers$ClusterText", "isNewName", "()Z"⟩, 4) := ⟨⟨by decide +kernel, by decide +kernel⟩, List.mem_of_getElem? (i := 364) (by decide +kernel), List.mem_of_getElem? (i := 570) (by decide +kernel), List.mem_of_getElem? (i := 571) (by decide +kernel)⟩
theorem lw_p8 : lw_okq (⟨"TreePeers$ClusterText", "readPeer", "()Z"⟩, 4) := ⟨⟨by decide +kernel, by decide +kernel⟩, List.mem_of_getElem? (i := 364) (by decide +kernel), List.mem_of_getElem? (i := 581) (by decide +kernel), List.mem_of_getElem? (i := 582) (by decide +kernel)⟩
theorem lw_p9 : lw_okq (⟨"TreePeers$ClusterText", "readHas", "()Z"⟩, 4) := ⟨⟨by decide +kernel, by decide +kernel⟩, List.mem_of_getElem? (i := 364) (by decide +kernel), List.mem_of_getElem? (i := 585) (by decide +kernel), List.mem_of_getElem? (i := 586) (by decide +kernel)⟩
theorem lw_p10 : lw_okq (⟨"TreePeers$Reader", "seen", "(I)I"⟩, 13) := ⟨⟨by decide +kernel, by decide +kernel⟩, List.mem_of_getElem? (i := 307) (by decide +kernel), List.mem_of_getElem? (i := 597) (by decide +kernel), List.mem_of_getElem? (i := 598) (by decide +kernel)⟩
theorem lw_p11 : lw_okq (⟨"TreePeers$ClusterText", "readCut", "()Z"⟩, 4) := ⟨⟨by decide +kernel, by decide +kernel⟩, List.mem_of_getElem? (i := 364) (by decide +kernel), List.mem_of_getElem? (i := 617) (by decide +kernel), List.mem_of_getElem? (i := 618) (by decide +kernel)⟩
theorem lw_p12 : lw_okq (⟨"TreePeers$Plan", "levelOf", "(I)I"⟩, 11) := ⟨⟨by decide +kernel, by decide +kernel⟩, List.mem_of_getElem? (i := 40) (by decide +kernel), List.mem_of_getElem? (i := 644) (by decide +kernel), List.mem_of_getElem? (i := 645) (by decide +kernel)⟩
theorem lw_p13 : lw_okq (⟨"TreePeers", "closeText", "(I)V"⟩, 18) := ⟨⟨by decide +kernel, by decide +kernel⟩, List.mem_of_getElem? (i := 26) (by decide +kernel), List.mem_of_getElem? (i := 652) (by decide +kernel), List.mem_of_getElem? (i := 653) (by decide +kernel)⟩
theorem lw_p14 : lw_okq (⟨"TreePeers$Tree", "growNode", "(IIII)I"⟩, 13) := ⟨⟨by decide +kernel, by decide +kernel⟩, List.mem_of_getElem? (i := 191) (by decide +kernel), List.mem_of_getElem? (i := 703) (by decide +kernel), List.mem_of_getElem? (i := 704) (by decide +kernel)⟩
theorem lw_p15 : lw_okq (⟨"TreePeers$Tree", "topLevel", "(II)I"⟩, 13) := ⟨⟨by decide +kernel, by decide +kernel⟩, List.mem_of_getElem? (i := 191) (by decide +kernel), List.mem_of_getElem? (i := 707) (by decide +kernel), List.mem_of_getElem? (i := 708) (by decide +kernel)⟩
def lw_privs_1 : List (MethodName × Nat) := [(⟨"TreePeers", "feedNumber", "(I)V"⟩, 18), (⟨"TreePeers$Reader", "signAt", "(I)I"⟩, 13), (⟨"TreePeers$Reader", "readRun", "()V"⟩, 13), (⟨"TreePeers$ClusterText", "readLine", "()Z"⟩, 4), (⟨"TreePeers$ClusterText", "readSetting", "(I)Z"⟩, 4), (⟨"TreePeers$ClusterText", "readRule", "()Z"⟩, 4), (⟨"TreePeers$ClusterText", "readKey", "()Z"⟩, 4), (⟨"TreePeers$ClusterText", "isNewName", "()Z"⟩, 4), (⟨"TreePeers$ClusterText", "readPeer", "()Z"⟩, 4), (⟨"TreePeers$ClusterText", "readHas", "()Z"⟩, 4), (⟨"TreePeers$Reader", "seen", "(I)I"⟩, 13), (⟨"TreePeers$ClusterText", "readCut", "()Z"⟩, 4), (⟨"TreePeers$Plan", "levelOf", "(I)I"⟩, 11), (⟨"TreePeers", "closeText", "(I)V"⟩, 18), (⟨"TreePeers$Tree", "growNode", "(IIII)I"⟩, 13), (⟨"TreePeers$Tree", "topLevel", "(II)I"⟩, 13)]
theorem lw_r1 : ∀ q ∈ lw_privs_1, lw_okq q := List.forall_mem_cons.mpr ⟨lw_p0, List.forall_mem_cons.mpr ⟨lw_p1, List.forall_mem_cons.mpr ⟨lw_p2, List.forall_mem_cons.mpr ⟨lw_p3, List.forall_mem_cons.mpr ⟨lw_p4, List.forall_mem_cons.mpr ⟨lw_p5, List.forall_mem_cons.mpr ⟨lw_p6, List.forall_mem_cons.mpr ⟨lw_p7, List.forall_mem_cons.mpr ⟨lw_p8, List.forall_mem_cons.mpr ⟨lw_p9, List.forall_mem_cons.mpr ⟨lw_p10, List.forall_mem_cons.mpr ⟨lw_p11, List.forall_mem_cons.mpr ⟨lw_p12, List.forall_mem_cons.mpr ⟨lw_p13, List.forall_mem_cons.mpr ⟨lw_p14, List.forall_mem_cons.mpr ⟨lw_p15, fun _ h => absurd h List.not_mem_nil⟩⟩⟩⟩⟩⟩⟩⟩⟩⟩⟩⟩⟩⟩⟩⟩
theorem lw_p16 : lw_okq (⟨"TreePeers$Tree", "openNode", "(III)V"⟩, 13) := ⟨⟨by decide +kernel, by decide +kernel⟩, List.mem_of_getElem? (i := 191) (by decide +kernel), List.mem_of_getElem? (i := 711) (by decide +kernel), List.mem_of_getElem? (i := 712) (by decide +kernel)⟩
theorem lw_p17 : lw_okq (⟨"TreePeers$Tree", "fillNode", "(IIII)I"⟩, 13) := ⟨⟨by decide +kernel, by decide +kernel⟩, List.mem_of_getElem? (i := 191) (by decide +kernel), List.mem_of_getElem? (i := 715) (by decide +kernel), List.mem_of_getElem? (i := 716) (by decide +kernel)⟩
theorem lw_p18 : lw_okq (⟨"TreePeers$Tree", "addKey", "(II)V"⟩, 13) := ⟨⟨by decide +kernel, by decide +kernel⟩, List.mem_of_getElem? (i := 191) (by decide +kernel), List.mem_of_getElem? (i := 720) (by decide +kernel), List.mem_of_getElem? (i := 721) (by decide +kernel)⟩
theorem lw_p19 : lw_okq (⟨"TreePeers", "isKey", "(I)Z"⟩, 18) := ⟨⟨by decide +kernel, by decide +kernel⟩, List.mem_of_getElem? (i := 26) (by decide +kernel), List.mem_of_getElem? (i := 740) (by decide +kernel), List.mem_of_getElem? (i := 741) (by decide +kernel)⟩
theorem lw_p20 : lw_okq (⟨"TreePeers", "isPeer", "(I)Z"⟩, 18) := ⟨⟨by decide +kernel, by decide +kernel⟩, List.mem_of_getElem? (i := 26) (by decide +kernel), List.mem_of_getElem? (i := 753) (by decide +kernel), List.mem_of_getElem? (i := 754) (by decide +kernel)⟩
theorem lw_p21 : lw_okq (⟨"TreePeers", "keepIfDone", "(I)I"⟩, 18) := ⟨⟨by decide +kernel, by decide +kernel⟩, List.mem_of_getElem? (i := 26) (by decide +kernel), List.mem_of_getElem? (i := 810) (by decide +kernel), List.mem_of_getElem? (i := 811) (by decide +kernel)⟩
theorem lw_p22 : lw_okq (⟨"TreePeers", "areTwo", "(II)Z"⟩, 18) := ⟨⟨by decide +kernel, by decide +kernel⟩, List.mem_of_getElem? (i := 26) (by decide +kernel), List.mem_of_getElem? (i := 831) (by decide +kernel), List.mem_of_getElem? (i := 832) (by decide +kernel)⟩
theorem lw_p23 : lw_okq (⟨"TreePeers$Peers", "winsOver", "(III)Z"⟩, 4) := ⟨⟨by decide +kernel, by decide +kernel⟩, List.mem_of_getElem? (i := 184) (by decide +kernel), List.mem_of_getElem? (i := 852) (by decide +kernel), List.mem_of_getElem? (i := 853) (by decide +kernel)⟩
theorem lw_p24 : lw_okq (⟨"TreePeers", "addName", "(J)V"⟩, 18) := ⟨⟨by decide +kernel, by decide +kernel⟩, List.mem_of_getElem? (i := 26) (by decide +kernel), List.mem_of_getElem? (i := 951) (by decide +kernel), List.mem_of_getElem? (i := 952) (by decide +kernel)⟩
theorem lw_p25 : lw_okq (⟨"TreePeers", "addByte", "(I)V"⟩, 18) := ⟨⟨by decide +kernel, by decide +kernel⟩, List.mem_of_getElem? (i := 26) (by decide +kernel), List.mem_of_getElem? (i := 956) (by decide +kernel), List.mem_of_getElem? (i := 957) (by decide +kernel)⟩
theorem lw_p26 : lw_okq (⟨"TreePeers", "addText", "(Ljava/lang/String;)V"⟩, 18) := ⟨⟨by decide +kernel, by decide +kernel⟩, List.mem_of_getElem? (i := 26) (by decide +kernel), List.mem_of_getElem? (i := 961) (by decide +kernel), List.mem_of_getElem? (i := 962) (by decide +kernel)⟩
theorem lw_p27 : lw_okq (⟨"TreePeers", "addNumber", "(I)V"⟩, 18) := ⟨⟨by decide +kernel, by decide +kernel⟩, List.mem_of_getElem? (i := 26) (by decide +kernel), List.mem_of_getElem? (i := 1013) (by decide +kernel), List.mem_of_getElem? (i := 1014) (by decide +kernel)⟩
theorem lw_p28 : lw_okq (⟨"TreePeers$Draws", "runRound", "(LTreePeers$Peers;)V"⟩, 4) := ⟨⟨by decide +kernel, by decide +kernel⟩, List.mem_of_getElem? (i := 288) (by decide +kernel), List.mem_of_getElem? (i := 1044) (by decide +kernel), List.mem_of_getElem? (i := 1045) (by decide +kernel)⟩
theorem lw_p29 : lw_okq (⟨"TreePeers$Draws", "draw", "(I)I"⟩, 4) := ⟨⟨by decide +kernel, by decide +kernel⟩, List.mem_of_getElem? (i := 288) (by decide +kernel), List.mem_of_getElem? (i := 1048) (by decide +kernel), List.mem_of_getElem? (i := 1049) (by decide +kernel)⟩
theorem lw_p30 : lw_okq (⟨"TreePeers$Draws", "countRefusal", "(I)V"⟩, 4) := ⟨⟨by decide +kernel, by decide +kernel⟩, List.mem_of_getElem? (i := 288) (by decide +kernel), List.mem_of_getElem? (i := 1055) (by decide +kernel), List.mem_of_getElem? (i := 1056) (by decide +kernel)⟩
theorem lw_p31 : lw_okq (⟨"TreePeers$Book", "readLine", "()Z"⟩, 12) := ⟨⟨by decide +kernel, by decide +kernel⟩, List.mem_of_getElem? (i := 383) (by decide +kernel), List.mem_of_getElem? (i := 1086) (by decide +kernel), List.mem_of_getElem? (i := 1087) (by decide +kernel)⟩
def lw_privs_2 : List (MethodName × Nat) := [(⟨"TreePeers$Tree", "openNode", "(III)V"⟩, 13), (⟨"TreePeers$Tree", "fillNode", "(IIII)I"⟩, 13), (⟨"TreePeers$Tree", "addKey", "(II)V"⟩, 13), (⟨"TreePeers", "isKey", "(I)Z"⟩, 18), (⟨"TreePeers", "isPeer", "(I)Z"⟩, 18), (⟨"TreePeers", "keepIfDone", "(I)I"⟩, 18), (⟨"TreePeers", "areTwo", "(II)Z"⟩, 18), (⟨"TreePeers$Peers", "winsOver", "(III)Z"⟩, 4), (⟨"TreePeers", "addName", "(J)V"⟩, 18), (⟨"TreePeers", "addByte", "(I)V"⟩, 18), (⟨"TreePeers", "addText", "(Ljava/lang/String;)V"⟩, 18), (⟨"TreePeers", "addNumber", "(I)V"⟩, 18), (⟨"TreePeers$Draws", "runRound", "(LTreePeers$Peers;)V"⟩, 4), (⟨"TreePeers$Draws", "draw", "(I)I"⟩, 4), (⟨"TreePeers$Draws", "countRefusal", "(I)V"⟩, 4), (⟨"TreePeers$Book", "readLine", "()Z"⟩, 12)]
theorem lw_r2 : ∀ q ∈ lw_privs_2, lw_okq q := List.forall_mem_cons.mpr ⟨lw_p16, List.forall_mem_cons.mpr ⟨lw_p17, List.forall_mem_cons.mpr ⟨lw_p18, List.forall_mem_cons.mpr ⟨lw_p19, List.forall_mem_cons.mpr ⟨lw_p20, List.forall_mem_cons.mpr ⟨lw_p21, List.forall_mem_cons.mpr ⟨lw_p22, List.forall_mem_cons.mpr ⟨lw_p23, List.forall_mem_cons.mpr ⟨lw_p24, List.forall_mem_cons.mpr ⟨lw_p25, List.forall_mem_cons.mpr ⟨lw_p26, List.forall_mem_cons.mpr ⟨lw_p27, List.forall_mem_cons.mpr ⟨lw_p28, List.forall_mem_cons.mpr ⟨lw_p29, List.forall_mem_cons.mpr ⟨lw_p30, List.forall_mem_cons.mpr ⟨lw_p31, fun _ h => absurd h List.not_mem_nil⟩⟩⟩⟩⟩⟩⟩⟩⟩⟩⟩⟩⟩⟩⟩⟩
theorem lw_p32 : lw_okq (⟨"TreePeers$Book", "readKeyPart", "(I)Z"⟩, 12) := ⟨⟨by decide +kernel, by decide +kernel⟩, List.mem_of_getElem? (i := 383) (by decide +kernel), List.mem_of_getElem? (i := 1093) (by decide +kernel), List.mem_of_getElem? (i := 1094) (by decide +kernel)⟩
theorem lw_p33 : lw_okq (⟨"TreePeers$Book", "readOtherPeer", "(I)Z"⟩, 12) := ⟨⟨by decide +kernel, by decide +kernel⟩, List.mem_of_getElem? (i := 383) (by decide +kernel), List.mem_of_getElem? (i := 1099) (by decide +kernel), List.mem_of_getElem? (i := 1100) (by decide +kernel)⟩
theorem lw_p34 : lw_okq (⟨"TreePeers$Book", "liveLine", "(LTreePeers$Peers;I)I"⟩, 12) := ⟨⟨by decide +kernel, by decide +kernel⟩, List.mem_of_getElem? (i := 383) (by decide +kernel), List.mem_of_getElem? (i := 1109) (by decide +kernel), List.mem_of_getElem? (i := 1110) (by decide +kernel)⟩
theorem lw_p35 : lw_okq (⟨"TreePeers$Saying", "readCond", "(LTreePeers$Reader;LTreePeers$Plan;I)Z"⟩, 3) := ⟨⟨by decide +kernel, by decide +kernel⟩, List.mem_of_getElem? (i := 147) (by decide +kernel), List.mem_of_getElem? (i := 1139) (by decide +kernel), List.mem_of_getElem? (i := 1140) (by decide +kernel)⟩
theorem lw_p36 : lw_okq (⟨"TreePeers$Saying", "readAll", "(LTreePeers$Reader;LTreePeers$Plan;I)Z"⟩, 3) := ⟨⟨by decide +kernel, by decide +kernel⟩, List.mem_of_getElem? (i := 147) (by decide +kernel), List.mem_of_getElem? (i := 1143) (by decide +kernel), List.mem_of_getElem? (i := 1144) (by decide +kernel)⟩
theorem lw_p37 : lw_okq (⟨"TreePeers$Saying", "readOne", "(LTreePeers$Reader;LTreePeers$Plan;I)Z"⟩, 3) := ⟨⟨by decide +kernel, by decide +kernel⟩, List.mem_of_getElem? (i := 147) (by decide +kernel), List.mem_of_getElem? (i := 1147) (by decide +kernel), List.mem_of_getElem? (i := 1148) (by decide +kernel)⟩
theorem lw_p38 : lw_okq (⟨"TreePeers$Saying", "readDenied", "(LTreePeers$Reader;LTreePeers$Plan;I)Z"⟩, 3) := ⟨⟨by decide +kernel, by decide +kernel⟩, List.mem_of_getElem? (i := 147) (by decide +kernel), List.mem_of_getElem? (i := 1157) (by decide +kernel), List.mem_of_getElem? (i := 1158) (by decide +kernel)⟩
theorem lw_p39 : lw_okq (⟨"TreePeers$Saying", "add", "(III)V"⟩, 3) := ⟨⟨by decide +kernel, by decide +kernel⟩, List.mem_of_getElem? (i := 147) (by decide +kernel), List.mem_of_getElem? (i := 1161) (by decide +kernel), List.mem_of_getElem? (i := 1162) (by decide +kernel)⟩
theorem lw_p40 : lw_okq (⟨"TreePeers$Saying", "readPlainOne", "(LTreePeers$Reader;LTreePeers$Plan;I)Z"⟩, 3) := ⟨⟨by decide +kernel, by decide +kernel⟩, List.mem_of_getElem? (i := 147) (by decide +kernel), List.mem_of_getElem? (i := 1165) (by decide +kernel), List.mem_of_getElem? (i := 1166) (by decide +kernel)⟩
theorem lw_p41 : lw_okq (⟨"java/lang/Throwable", "fillInStackTrace", "(I)Ljava/lang/Throwable;"⟩, 6) := ⟨⟨by decide +kernel, by decide +kernel⟩, List.mem_of_getElem? (i := 1255) (by decide +kernel), List.mem_of_getElem? (i := 1253) (by decide +kernel), List.mem_of_getElem? (i := 1254) (by decide +kernel)⟩
theorem lw_p42 : lw_okq (⟨"TreePeersModel", "come", "(I)V"⟩, 60) := ⟨⟨by decide +kernel, by decide +kernel⟩, List.mem_of_getElem? (i := 1344) (by decide +kernel), List.mem_of_getElem? (i := 1342) (by decide +kernel), List.mem_of_getElem? (i := 1343) (by decide +kernel)⟩
theorem lw_p43 : lw_okq (⟨"TreePeersModel", "begin", "(I)V"⟩, 60) := ⟨⟨by decide +kernel, by decide +kernel⟩, List.mem_of_getElem? (i := 1344) (by decide +kernel), List.mem_of_getElem? (i := 1541) (by decide +kernel), List.mem_of_getElem? (i := 1542) (by decide +kernel)⟩
theorem lw_p44 : lw_okq (⟨"TreePeersModel", "take", "()I"⟩, 60) := ⟨⟨by decide +kernel, by decide +kernel⟩, List.mem_of_getElem? (i := 1344) (by decide +kernel), List.mem_of_getElem? (i := 1545) (by decide +kernel), List.mem_of_getElem? (i := 1546) (by decide +kernel)⟩
theorem lw_p45 : lw_okq (⟨"TreePeersModel", "go", "()V"⟩, 60) := ⟨⟨by decide +kernel, by decide +kernel⟩, List.mem_of_getElem? (i := 1344) (by decide +kernel), List.mem_of_getElem? (i := 1549) (by decide +kernel), List.mem_of_getElem? (i := 1550) (by decide +kernel)⟩
theorem lw_p46 : lw_okq (⟨"TreePeersModel", "tapeAt", "(I)I"⟩, 60) := ⟨⟨by decide +kernel, by decide +kernel⟩, List.mem_of_getElem? (i := 1344) (by decide +kernel), List.mem_of_getElem? (i := 1559) (by decide +kernel), List.mem_of_getElem? (i := 1560) (by decide +kernel)⟩
theorem lw_p47 : lw_okq (⟨"TreePeersModel", "readLine", "()Z"⟩, 60) := ⟨⟨by decide +kernel, by decide +kernel⟩, List.mem_of_getElem? (i := 1344) (by decide +kernel), List.mem_of_getElem? (i := 1565) (by decide +kernel), List.mem_of_getElem? (i := 1566) (by decide +kernel)⟩
def lw_privs_3 : List (MethodName × Nat) := [(⟨"TreePeers$Book", "readKeyPart", "(I)Z"⟩, 12), (⟨"TreePeers$Book", "readOtherPeer", "(I)Z"⟩, 12), (⟨"TreePeers$Book", "liveLine", "(LTreePeers$Peers;I)I"⟩, 12), (⟨"TreePeers$Saying", "readCond", "(LTreePeers$Reader;LTreePeers$Plan;I)Z"⟩, 3), (⟨"TreePeers$Saying", "readAll", "(LTreePeers$Reader;LTreePeers$Plan;I)Z"⟩, 3), (⟨"TreePeers$Saying", "readOne", "(LTreePeers$Reader;LTreePeers$Plan;I)Z"⟩, 3), (⟨"TreePeers$Saying", "readDenied", "(LTreePeers$Reader;LTreePeers$Plan;I)Z"⟩, 3), (⟨"TreePeers$Saying", "add", "(III)V"⟩, 3), (⟨"TreePeers$Saying", "readPlainOne", "(LTreePeers$Reader;LTreePeers$Plan;I)Z"⟩, 3), (⟨"java/lang/Throwable", "fillInStackTrace", "(I)Ljava/lang/Throwable;"⟩, 6), (⟨"TreePeersModel", "come", "(I)V"⟩, 60), (⟨"TreePeersModel", "begin", "(I)V"⟩, 60), (⟨"TreePeersModel", "take", "()I"⟩, 60), (⟨"TreePeersModel", "go", "()V"⟩, 60), (⟨"TreePeersModel", "tapeAt", "(I)I"⟩, 60), (⟨"TreePeersModel", "readLine", "()Z"⟩, 60)]
theorem lw_r3 : ∀ q ∈ lw_privs_3, lw_okq q := List.forall_mem_cons.mpr ⟨lw_p32, List.forall_mem_cons.mpr ⟨lw_p33, List.forall_mem_cons.mpr ⟨lw_p34, List.forall_mem_cons.mpr ⟨lw_p35, List.forall_mem_cons.mpr ⟨lw_p36, List.forall_mem_cons.mpr ⟨lw_p37, List.forall_mem_cons.mpr ⟨lw_p38, List.forall_mem_cons.mpr ⟨lw_p39, List.forall_mem_cons.mpr ⟨lw_p40, List.forall_mem_cons.mpr ⟨lw_p41, List.forall_mem_cons.mpr ⟨lw_p42, List.forall_mem_cons.mpr ⟨lw_p43, List.forall_mem_cons.mpr ⟨lw_p44, List.forall_mem_cons.mpr ⟨lw_p45, List.forall_mem_cons.mpr ⟨lw_p46, List.forall_mem_cons.mpr ⟨lw_p47, fun _ h => absurd h List.not_mem_nil⟩⟩⟩⟩⟩⟩⟩⟩⟩⟩⟩⟩⟩⟩⟩⟩
theorem lw_p48 : lw_okq (⟨"TreePeersModel", "isWord", "(I)Z"⟩, 60) := ⟨⟨by decide +kernel, by decide +kernel⟩, List.mem_of_getElem? (i := 1344) (by decide +kernel), List.mem_of_getElem? (i := 1569) (by decide +kernel), List.mem_of_getElem? (i := 1570) (by decide +kernel)⟩
theorem lw_p49 : lw_okq (⟨"TreePeersModel", "isFresh", "(I)Z"⟩, 60) := ⟨⟨by decide +kernel, by decide +kernel⟩, List.mem_of_getElem? (i := 1344) (by decide +kernel), List.mem_of_getElem? (i := 1579) (by decide +kernel), List.mem_of_getElem? (i := 1580) (by decide +kernel)⟩
theorem lw_p50 : lw_okq (⟨"TreePeersModel", "bad", "(I)Z"⟩, 60) := ⟨⟨by decide +kernel, by decide +kernel⟩, List.mem_of_getElem? (i := 1344) (by decide +kernel), List.mem_of_getElem? (i := 1583) (by decide +kernel), List.mem_of_getElem? (i := 1584) (by decide +kernel)⟩
theorem lw_p51 : lw_okq (⟨"TreePeersModel", "readNumber", "(II)Z"⟩, 60) := ⟨⟨by decide +kernel, by decide +kernel⟩, List.mem_of_getElem? (i := 1344) (by decide +kernel), List.mem_of_getElem? (i := 1587) (by decide +kernel), List.mem_of_getElem? (i := 1588) (by decide +kernel)⟩
theorem lw_p52 : lw_okq (⟨"TreePeersModel", "noted", "(IZ)Z"⟩, 60) := ⟨⟨by decide +kernel, by decide +kernel⟩, List.mem_of_getElem? (i := 1344) (by decide +kernel), List.mem_of_getElem? (i := 1594) (by decide +kernel), List.mem_of_getElem? (i := 1595) (by decide +kernel)⟩
theorem lw_p53 : lw_okq (⟨"TreePeersModel", "readRule", "()Z"⟩, 60) := ⟨⟨by decide +kernel, by decide +kernel⟩, List.mem_of_getElem? (i := 1344) (by decide +kernel), List.mem_of_getElem? (i := 1598) (by decide +kernel), List.mem_of_getElem? (i := 1599) (by decide +kernel)⟩
theorem lw_p54 : lw_okq (⟨"TreePeersModel", "readKey", "()Z"⟩, 60) := ⟨⟨by decide +kernel, by decide +kernel⟩, List.mem_of_getElem? (i := 1344) (by decide +kernel), List.mem_of_getElem? (i := 1602) (by decide +kernel), List.mem_of_getElem? (i := 1603) (by decide +kernel)⟩
theorem lw_p55 : lw_okq (⟨"TreePeersModel", "readFirst", "(II)Z"⟩, 60) := ⟨⟨by decide +kernel, by decide +kernel⟩, List.mem_of_getElem? (i := 1344) (by decide +kernel), List.mem_of_getElem? (i := 1606) (by decide +kernel), List.mem_of_getElem? (i := 1607) (by decide +kernel)⟩
theorem lw_p56 : lw_okq (⟨"TreePeersModel", "readNew", "(I)Z"⟩, 60) := ⟨⟨by decide +kernel, by decide +kernel⟩, List.mem_of_getElem? (i := 1344) (by decide +kernel), List.mem_of_getElem? (i := 1610) (by decide +kernel), List.mem_of_getElem? (i := 1611) (by decide +kernel)⟩
theorem lw_p57 : lw_okq (⟨"TreePeersModel", "isName", "()Z"⟩, 60) := ⟨⟨by decide +kernel, by decide +kernel⟩, List.mem_of_getElem? (i := 1344) (by decide +kernel), List.mem_of_getElem? (i := 1614) (by decide +kernel), List.mem_of_getElem? (i := 1615) (by decide +kernel)⟩
theorem lw_p58 : lw_okq (⟨"TreePeersModel", "readPeer", "()Z"⟩, 60) := ⟨⟨by decide +kernel, by decide +kernel⟩, List.mem_of_getElem? (i := 1344) (by decide +kernel), List.mem_of_getElem? (i := 1621) (by decide +kernel), List.mem_of_getElem? (i := 1622) (by decide +kernel)⟩
theorem lw_p59 : lw_okq (⟨"TreePeersModel", "readHas", "()Z"⟩, 60) := ⟨⟨by decide +kernel, by decide +kernel⟩, List.mem_of_getElem? (i := 1344) (by decide +kernel), List.mem_of_getElem? (i := 1625) (by decide +kernel), List.mem_of_getElem? (i := 1626) (by decide +kernel)⟩
theorem lw_p60 : lw_okq (⟨"TreePeersModel", "isHere", "(II)Z"⟩, 60) := ⟨⟨by decide +kernel, by decide +kernel⟩, List.mem_of_getElem? (i := 1344) (by decide +kernel), List.mem_of_getElem? (i := 1629) (by decide +kernel), List.mem_of_getElem? (i := 1630) (by decide +kernel)⟩
theorem lw_p61 : lw_okq (⟨"TreePeersModel", "readCut", "()Z"⟩, 60) := ⟨⟨by decide +kernel, by decide +kernel⟩, List.mem_of_getElem? (i := 1344) (by decide +kernel), List.mem_of_getElem? (i := 1633) (by decide +kernel), List.mem_of_getElem? (i := 1634) (by decide +kernel)⟩
theorem lw_p62 : lw_okq (⟨"TreePeersModel", "readEnd", "()Z"⟩, 60) := ⟨⟨by decide +kernel, by decide +kernel⟩, List.mem_of_getElem? (i := 1344) (by decide +kernel), List.mem_of_getElem? (i := 1640) (by decide +kernel), List.mem_of_getElem? (i := 1641) (by decide +kernel)⟩
theorem lw_p63 : lw_okq (⟨"TreePeersModel", "isSign", "(I)Z"⟩, 60) := ⟨⟨by decide +kernel, by decide +kernel⟩, List.mem_of_getElem? (i := 1344) (by decide +kernel), List.mem_of_getElem? (i := 1644) (by decide +kernel), List.mem_of_getElem? (i := 1645) (by decide +kernel)⟩
def lw_privs_4 : List (MethodName × Nat) := [(⟨"TreePeersModel", "isWord", "(I)Z"⟩, 60), (⟨"TreePeersModel", "isFresh", "(I)Z"⟩, 60), (⟨"TreePeersModel", "bad", "(I)Z"⟩, 60), (⟨"TreePeersModel", "readNumber", "(II)Z"⟩, 60), (⟨"TreePeersModel", "noted", "(IZ)Z"⟩, 60), (⟨"TreePeersModel", "readRule", "()Z"⟩, 60), (⟨"TreePeersModel", "readKey", "()Z"⟩, 60), (⟨"TreePeersModel", "readFirst", "(II)Z"⟩, 60), (⟨"TreePeersModel", "readNew", "(I)Z"⟩, 60), (⟨"TreePeersModel", "isName", "()Z"⟩, 60), (⟨"TreePeersModel", "readPeer", "()Z"⟩, 60), (⟨"TreePeersModel", "readHas", "()Z"⟩, 60), (⟨"TreePeersModel", "isHere", "(II)Z"⟩, 60), (⟨"TreePeersModel", "readCut", "()Z"⟩, 60), (⟨"TreePeersModel", "readEnd", "()Z"⟩, 60), (⟨"TreePeersModel", "isSign", "(I)Z"⟩, 60)]
theorem lw_r4 : ∀ q ∈ lw_privs_4, lw_okq q := List.forall_mem_cons.mpr ⟨lw_p48, List.forall_mem_cons.mpr ⟨lw_p49, List.forall_mem_cons.mpr ⟨lw_p50, List.forall_mem_cons.mpr ⟨lw_p51, List.forall_mem_cons.mpr ⟨lw_p52, List.forall_mem_cons.mpr ⟨lw_p53, List.forall_mem_cons.mpr ⟨lw_p54, List.forall_mem_cons.mpr ⟨lw_p55, List.forall_mem_cons.mpr ⟨lw_p56, List.forall_mem_cons.mpr ⟨lw_p57, List.forall_mem_cons.mpr ⟨lw_p58, List.forall_mem_cons.mpr ⟨lw_p59, List.forall_mem_cons.mpr ⟨lw_p60, List.forall_mem_cons.mpr ⟨lw_p61, List.forall_mem_cons.mpr ⟨lw_p62, List.forall_mem_cons.mpr ⟨lw_p63, fun _ h => absurd h List.not_mem_nil⟩⟩⟩⟩⟩⟩⟩⟩⟩⟩⟩⟩⟩⟩⟩⟩
theorem lw_p64 : lw_okq (⟨"TreePeersModel", "startSo", "()V"⟩, 60) := ⟨⟨by decide +kernel, by decide +kernel⟩, List.mem_of_getElem? (i := 1344) (by decide +kernel), List.mem_of_getElem? (i := 1648) (by decide +kernel), List.mem_of_getElem? (i := 1649) (by decide +kernel)⟩
theorem lw_p65 : lw_okq (⟨"TreePeersModel", "layKeys", "()V"⟩, 60) := ⟨⟨by decide +kernel, by decide +kernel⟩, List.mem_of_getElem? (i := 1344) (by decide +kernel), List.mem_of_getElem? (i := 1652) (by decide +kernel), List.mem_of_getElem? (i := 1653) (by decide +kernel)⟩
theorem lw_p66 : lw_okq (⟨"TreePeersModel", "isKey", "(I)Z"⟩, 60) := ⟨⟨by decide +kernel, by decide +kernel⟩, List.mem_of_getElem? (i := 1344) (by decide +kernel), List.mem_of_getElem? (i := 1686) (by decide +kernel), List.mem_of_getElem? (i := 1687) (by decide +kernel)⟩
theorem lw_p67 : lw_okq (⟨"TreePeersModel", "hasEntry", "(II)Z"⟩, 60) := ⟨⟨by decide +kernel, by decide +kernel⟩, List.mem_of_getElem? (i := 1344) (by decide +kernel), List.mem_of_getElem? (i := 1690) (by decide +kernel), List.mem_of_getElem? (i := 1691) (by decide +kernel)⟩
theorem lw_p68 : lw_okq (⟨"TreePeersModel", "refuse", "()I"⟩, 60) := ⟨⟨by decide +kernel, by decide +kernel⟩, List.mem_of_getElem? (i := 1344) (by decide +kernel), List.mem_of_getElem? (i := 1701) (by decide +kernel), List.mem_of_getElem? (i := 1702) (by decide +kernel)⟩
theorem lw_p69 : lw_okq (⟨"TreePeersModel", "isPeer", "(I)Z"⟩, 60) := ⟨⟨by decide +kernel, by decide +kernel⟩, List.mem_of_getElem? (i := 1344) (by decide +kernel), List.mem_of_getElem? (i := 1709) (by decide +kernel), List.mem_of_getElem? (i := 1710) (by decide +kernel)⟩
theorem lw_p70 : lw_okq (⟨"TreePeersModel", "layTree", "(II)I"⟩, 60) := ⟨⟨by decide +kernel, by decide +kernel⟩, List.mem_of_getElem? (i := 1344) (by decide +kernel), List.mem_of_getElem? (i := 1713) (by decide +kernel), List.mem_of_getElem? (i := 1714) (by decide +kernel)⟩
theorem lw_p71 : lw_okq (⟨"TreePeersModel", "layNodes", "(IIIIII)I"⟩, 60) := ⟨⟨by decide +kernel, by decide +kernel⟩, List.mem_of_getElem? (i := 1344) (by decide +kernel), List.mem_of_getElem? (i := 1717) (by decide +kernel), List.mem_of_getElem? (i := 1718) (by decide +kernel)⟩
theorem lw_p72 : lw_okq (⟨"TreePeersModel", "greatest", "(III)I"⟩, 60) := ⟨⟨by decide +kernel, by decide +kernel⟩, List.mem_of_getElem? (i := 1344) (by decide +kernel), List.mem_of_getElem? (i := 1721) (by decide +kernel), List.mem_of_getElem? (i := 1722) (by decide +kernel)⟩
theorem lw_p73 : lw_okq (⟨"TreePeersModel", "entryDigest", "(II)I"⟩, 60) := ⟨⟨by decide +kernel, by decide +kernel⟩, List.mem_of_getElem? (i := 1344) (by decide +kernel), List.mem_of_getElem? (i := 1725) (by decide +kernel), List.mem_of_getElem? (i := 1726) (by decide +kernel)⟩
theorem lw_p74 : lw_okq (⟨"TreePeersModel", "entriesOf", "(I)I"⟩, 60) := ⟨⟨by decide +kernel, by decide +kernel⟩, List.mem_of_getElem? (i := 1344) (by decide +kernel), List.mem_of_getElem? (i := 1729) (by decide +kernel), List.mem_of_getElem? (i := 1730) (by decide +kernel)⟩
theorem lw_p75 : lw_okq (⟨"TreePeersModel", "goneOf", "(I)I"⟩, 60) := ⟨⟨by decide +kernel, by decide +kernel⟩, List.mem_of_getElem? (i := 1344) (by decide +kernel), List.mem_of_getElem? (i := 1733) (by decide +kernel), List.mem_of_getElem? (i := 1734) (by decide +kernel)⟩
theorem lw_p76 : lw_okq (⟨"TreePeersModel", "rootsLike", "(I)I"⟩, 60) := ⟨⟨by decide +kernel, by decide +kernel⟩, List.mem_of_getElem? (i := 1344) (by decide +kernel), List.mem_of_getElem? (i := 1737) (by decide +kernel), List.mem_of_getElem? (i := 1738) (by decide +kernel)⟩
theorem lw_p77 : lw_okq (⟨"TreePeersModel", "rootOf", "(I)I"⟩, 60) := ⟨⟨by decide +kernel, by decide +kernel⟩, List.mem_of_getElem? (i := 1344) (by decide +kernel), List.mem_of_getElem? (i := 1741) (by decide +kernel), List.mem_of_getElem? (i := 1742) (by decide +kernel)⟩
theorem lw_p78 : lw_okq (⟨"TreePeersModel", "isTorn", "(I)Z"⟩, 60) := ⟨⟨by decide +kernel, by decide +kernel⟩, List.mem_of_getElem? (i := 1344) (by decide +kernel), List.mem_of_getElem? (i := 1764) (by decide +kernel), List.mem_of_getElem? (i := 1765) (by decide +kernel)⟩
theorem lw_p79 : lw_okq (⟨"TreePeersModel", "areSame", "(III)Z"⟩, 60) := ⟨⟨by decide +kernel, by decide +kernel⟩, List.mem_of_getElem? (i := 1344) (by decide +kernel), List.mem_of_getElem? (i := 1768) (by decide +kernel), List.mem_of_getElem? (i := 1769) (by decide +kernel)⟩
def lw_privs_5 : List (MethodName × Nat) := [(⟨"TreePeersModel", "startSo", "()V"⟩, 60), (⟨"TreePeersModel", "layKeys", "()V"⟩, 60), (⟨"TreePeersModel", "isKey", "(I)Z"⟩, 60), (⟨"TreePeersModel", "hasEntry", "(II)Z"⟩, 60), (⟨"TreePeersModel", "refuse", "()I"⟩, 60), (⟨"TreePeersModel", "isPeer", "(I)Z"⟩, 60), (⟨"TreePeersModel", "layTree", "(II)I"⟩, 60), (⟨"TreePeersModel", "layNodes", "(IIIIII)I"⟩, 60), (⟨"TreePeersModel", "greatest", "(III)I"⟩, 60), (⟨"TreePeersModel", "entryDigest", "(II)I"⟩, 60), (⟨"TreePeersModel", "entriesOf", "(I)I"⟩, 60), (⟨"TreePeersModel", "goneOf", "(I)I"⟩, 60), (⟨"TreePeersModel", "rootsLike", "(I)I"⟩, 60), (⟨"TreePeersModel", "rootOf", "(I)I"⟩, 60), (⟨"TreePeersModel", "isTorn", "(I)Z"⟩, 60), (⟨"TreePeersModel", "areSame", "(III)Z"⟩, 60)]
theorem lw_r5 : ∀ q ∈ lw_privs_5, lw_okq q := List.forall_mem_cons.mpr ⟨lw_p64, List.forall_mem_cons.mpr ⟨lw_p65, List.forall_mem_cons.mpr ⟨lw_p66, List.forall_mem_cons.mpr ⟨lw_p67, List.forall_mem_cons.mpr ⟨lw_p68, List.forall_mem_cons.mpr ⟨lw_p69, List.forall_mem_cons.mpr ⟨lw_p70, List.forall_mem_cons.mpr ⟨lw_p71, List.forall_mem_cons.mpr ⟨lw_p72, List.forall_mem_cons.mpr ⟨lw_p73, List.forall_mem_cons.mpr ⟨lw_p74, List.forall_mem_cons.mpr ⟨lw_p75, List.forall_mem_cons.mpr ⟨lw_p76, List.forall_mem_cons.mpr ⟨lw_p77, List.forall_mem_cons.mpr ⟨lw_p78, List.forall_mem_cons.mpr ⟨lw_p79, fun _ h => absurd h List.not_mem_nil⟩⟩⟩⟩⟩⟩⟩⟩⟩⟩⟩⟩⟩⟩⟩⟩
theorem lw_p80 : lw_okq (⟨"TreePeersModel", "rootMany", "()I"⟩, 60) := ⟨⟨by decide +kernel, by decide +kernel⟩, List.mem_of_getElem? (i := 1344) (by decide +kernel), List.mem_of_getElem? (i := 1772) (by decide +kernel), List.mem_of_getElem? (i := 1773) (by decide +kernel)⟩
theorem lw_p81 : lw_okq (⟨"TreePeersModel", "areTwo", "(II)Z"⟩, 60) := ⟨⟨by decide +kernel, by decide +kernel⟩, List.mem_of_getElem? (i := 1344) (by decide +kernel), List.mem_of_getElem? (i := 1780) (by decide +kernel), List.mem_of_getElem? (i := 1781) (by decide +kernel)⟩
theorem lw_p82 : lw_okq (⟨"TreePeersModel", "layOffers", "(II)V"⟩, 60) := ⟨⟨by decide +kernel, by decide +kernel⟩, List.mem_of_getElem? (i := 1344) (by decide +kernel), List.mem_of_getElem? (i := 1784) (by decide +kernel), List.mem_of_getElem? (i := 1785) (by decide +kernel)⟩
theorem lw_p83 : lw_okq (⟨"TreePeersModel", "visitedOf", "(II)I"⟩, 60) := ⟨⟨by decide +kernel, by decide +kernel⟩, List.mem_of_getElem? (i := 1344) (by decide +kernel), List.mem_of_getElem? (i := 1788) (by decide +kernel), List.mem_of_getElem? (i := 1789) (by decide +kernel)⟩
theorem lw_p84 : lw_okq (⟨"TreePeersModel", "visited", "()I"⟩, 60) := ⟨⟨by decide +kernel, by decide +kernel⟩, List.mem_of_getElem? (i := 1344) (by decide +kernel), List.mem_of_getElem? (i := 1792) (by decide +kernel), List.mem_of_getElem? (i := 1793) (by decide +kernel)⟩
theorem lw_p85 : lw_okq (⟨"TreePeersModel", "isDigest", "(II)Z"⟩, 60) := ⟨⟨by decide +kernel, by decide +kernel⟩, List.mem_of_getElem? (i := 1344) (by decide +kernel), List.mem_of_getElem? (i := 1796) (by decide +kernel), List.mem_of_getElem? (i := 1797) (by decide +kernel)⟩
theorem lw_p86 : lw_okq (⟨"TreePeersModel", "isOffer", "(III)Z"⟩, 60) := ⟨⟨by decide +kernel, by decide +kernel⟩, List.mem_of_getElem? (i := 1344) (by decide +kernel), List.mem_of_getElem? (i := 1800) (by decide +kernel), List.mem_of_getElem? (i := 1801) (by decide +kernel)⟩
theorem lw_p87 : lw_okq (⟨"TreePeersModel", "wins", "(IIII)Z"⟩, 60) := ⟨⟨by decide +kernel, by decide +kernel⟩, List.mem_of_getElem? (i := 1344) (by decide +kernel), List.mem_of_getElem? (i := 1804) (by decide +kernel), List.mem_of_getElem? (i := 1805) (by decide +kernel)⟩
theorem lw_p88 : lw_okq (⟨"TreePeersModel", "act", "(IIIIZ)I"⟩, 60) := ⟨⟨by decide +kernel, by decide +kernel⟩, List.mem_of_getElem? (i := 1344) (by decide +kernel), List.mem_of_getElem? (i := 1827) (by decide +kernel), List.mem_of_getElem? (i := 1828) (by decide +kernel)⟩
theorem lw_p89 : lw_okq (⟨"TreePeersModel", "why", "(IIII)I"⟩, 60) := ⟨⟨by decide +kernel, by decide +kernel⟩, List.mem_of_getElem? (i := 1344) (by decide +kernel), List.mem_of_getElem? (i := 1831) (by decide +kernel), List.mem_of_getElem? (i := 1832) (by decide +kernel)⟩
theorem lw_p90 : lw_okq (⟨"TreePeersModel", "whyPull", "(II)I"⟩, 60) := ⟨⟨by decide +kernel, by decide +kernel⟩, List.mem_of_getElem? (i := 1344) (by decide +kernel), List.mem_of_getElem? (i := 1835) (by decide +kernel), List.mem_of_getElem? (i := 1836) (by decide +kernel)⟩
theorem lw_p91 : lw_okq (⟨"TreePeersModel", "areCut", "(II)Z"⟩, 60) := ⟨⟨by decide +kernel, by decide +kernel⟩, List.mem_of_getElem? (i := 1344) (by decide +kernel), List.mem_of_getElem? (i := 1839) (by decide +kernel), List.mem_of_getElem? (i := 1840) (by decide +kernel)⟩
theorem lw_p92 : lw_okq (⟨"TreePeersModel", "snap", "()V"⟩, 60) := ⟨⟨by decide +kernel, by decide +kernel⟩, List.mem_of_getElem? (i := 1344) (by decide +kernel), List.mem_of_getElem? (i := 1843) (by decide +kernel), List.mem_of_getElem? (i := 1844) (by decide +kernel)⟩
theorem lw_p93 : lw_okq (⟨"TreePeersModel", "save", "([II)V"⟩, 60) := ⟨⟨by decide +kernel, by decide +kernel⟩, List.mem_of_getElem? (i := 1344) (by decide +kernel), List.mem_of_getElem? (i := 1847) (by decide +kernel), List.mem_of_getElem? (i := 1848) (by decide +kernel)⟩
theorem lw_p94 : lw_okq (⟨"TreePeersModel", "live", "(IIII)V"⟩, 60) := ⟨⟨by decide +kernel, by decide +kernel⟩, List.mem_of_getElem? (i := 1344) (by decide +kernel), List.mem_of_getElem? (i := 1851) (by decide +kernel), List.mem_of_getElem? (i := 1852) (by decide +kernel)⟩
theorem lw_p95 : lw_okq (⟨"TreePeersModel", "write", "(III)V"⟩, 60) := ⟨⟨by decide +kernel, by decide +kernel⟩, List.mem_of_getElem? (i := 1344) (by decide +kernel), List.mem_of_getElem? (i := 1855) (by decide +kernel), List.mem_of_getElem? (i := 1856) (by decide +kernel)⟩
def lw_privs_6 : List (MethodName × Nat) := [(⟨"TreePeersModel", "rootMany", "()I"⟩, 60), (⟨"TreePeersModel", "areTwo", "(II)Z"⟩, 60), (⟨"TreePeersModel", "layOffers", "(II)V"⟩, 60), (⟨"TreePeersModel", "visitedOf", "(II)I"⟩, 60), (⟨"TreePeersModel", "visited", "()I"⟩, 60), (⟨"TreePeersModel", "isDigest", "(II)Z"⟩, 60), (⟨"TreePeersModel", "isOffer", "(III)Z"⟩, 60), (⟨"TreePeersModel", "wins", "(IIII)Z"⟩, 60), (⟨"TreePeersModel", "act", "(IIIIZ)I"⟩, 60), (⟨"TreePeersModel", "why", "(IIII)I"⟩, 60), (⟨"TreePeersModel", "whyPull", "(II)I"⟩, 60), (⟨"TreePeersModel", "areCut", "(II)Z"⟩, 60), (⟨"TreePeersModel", "snap", "()V"⟩, 60), (⟨"TreePeersModel", "save", "([II)V"⟩, 60), (⟨"TreePeersModel", "live", "(IIII)V"⟩, 60), (⟨"TreePeersModel", "write", "(III)V"⟩, 60)]
theorem lw_r6 : ∀ q ∈ lw_privs_6, lw_okq q := List.forall_mem_cons.mpr ⟨lw_p80, List.forall_mem_cons.mpr ⟨lw_p81, List.forall_mem_cons.mpr ⟨lw_p82, List.forall_mem_cons.mpr ⟨lw_p83, List.forall_mem_cons.mpr ⟨lw_p84, List.forall_mem_cons.mpr ⟨lw_p85, List.forall_mem_cons.mpr ⟨lw_p86, List.forall_mem_cons.mpr ⟨lw_p87, List.forall_mem_cons.mpr ⟨lw_p88, List.forall_mem_cons.mpr ⟨lw_p89, List.forall_mem_cons.mpr ⟨lw_p90, List.forall_mem_cons.mpr ⟨lw_p91, List.forall_mem_cons.mpr ⟨lw_p92, List.forall_mem_cons.mpr ⟨lw_p93, List.forall_mem_cons.mpr ⟨lw_p94, List.forall_mem_cons.mpr ⟨lw_p95, fun _ h => absurd h List.not_mem_nil⟩⟩⟩⟩⟩⟩⟩⟩⟩⟩⟩⟩⟩⟩⟩⟩
theorem lw_p96 : lw_okq (⟨"TreePeersModel", "comesOver", "(II)V"⟩, 60) := ⟨⟨by decide +kernel, by decide +kernel⟩, List.mem_of_getElem? (i := 1344) (by decide +kernel), List.mem_of_getElem? (i := 1859) (by decide +kernel), List.mem_of_getElem? (i := 1860) (by decide +kernel)⟩
theorem lw_p97 : lw_okq (⟨"TreePeersModel", "comeBack", "([II)V"⟩, 60) := ⟨⟨by decide +kernel, by decide +kernel⟩, List.mem_of_getElem? (i := 1344) (by decide +kernel), List.mem_of_getElem? (i := 1886) (by decide +kernel), List.mem_of_getElem? (i := 1887) (by decide +kernel)⟩
theorem lw_p98 : lw_okq (⟨"TreePeersModel", "fraction", "(III)I"⟩, 60) := ⟨⟨by decide +kernel, by decide +kernel⟩, List.mem_of_getElem? (i := 1344) (by decide +kernel), List.mem_of_getElem? (i := 1906) (by decide +kernel), List.mem_of_getElem? (i := 1907) (by decide +kernel)⟩
theorem lw_p99 : lw_okq (⟨"TreePeersModel", "sayWord", "(J)V"⟩, 60) := ⟨⟨by decide +kernel, by decide +kernel⟩, List.mem_of_getElem? (i := 1344) (by decide +kernel), List.mem_of_getElem? (i := 1921) (by decide +kernel), List.mem_of_getElem? (i := 1922) (by decide +kernel)⟩
theorem lw_p100 : lw_okq (⟨"TreePeersModel", "say", "(I)V"⟩, 60) := ⟨⟨by decide +kernel, by decide +kernel⟩, List.mem_of_getElem? (i := 1344) (by decide +kernel), List.mem_of_getElem? (i := 1925) (by decide +kernel), List.mem_of_getElem? (i := 1926) (by decide +kernel)⟩
theorem lw_p101 : lw_okq (⟨"TreePeersModel", "sayNext", "(J)V"⟩, 60) := ⟨⟨by decide +kernel, by decide +kernel⟩, List.mem_of_getElem? (i := 1344) (by decide +kernel), List.mem_of_getElem? (i := 1929) (by decide +kernel), List.mem_of_getElem? (i := 1930) (by decide +kernel)⟩
theorem lw_p102 : lw_okq (⟨"TreePeersModel", "sayNumber", "(I)V"⟩, 60) := ⟨⟨by decide +kernel, by decide +kernel⟩, List.mem_of_getElem? (i := 1344) (by decide +kernel), List.mem_of_getElem? (i := 1933) (by decide +kernel), List.mem_of_getElem? (i := 1934) (by decide +kernel)⟩
theorem lw_p103 : lw_okq (⟨"TreePeersModel", "isBare", "()Z"⟩, 60) := ⟨⟨by decide +kernel, by decide +kernel⟩, List.mem_of_getElem? (i := 1344) (by decide +kernel), List.mem_of_getElem? (i := 1945) (by decide +kernel), List.mem_of_getElem? (i := 1946) (by decide +kernel)⟩
theorem lw_p104 : lw_okq (⟨"TreePeersModel", "drawRounds", "(II)V"⟩, 60) := ⟨⟨by decide +kernel, by decide +kernel⟩, List.mem_of_getElem? (i := 1344) (by decide +kernel), List.mem_of_getElem? (i := 1949) (by decide +kernel), List.mem_of_getElem? (i := 1950) (by decide +kernel)⟩
theorem lw_p105 : lw_okq (⟨"TreePeersModel", "drawsRound", "()V"⟩, 60) := ⟨⟨by decide +kernel, by decide +kernel⟩, List.mem_of_getElem? (i := 1344) (by decide +kernel), List.mem_of_getElem? (i := 1953) (by decide +kernel), List.mem_of_getElem? (i := 1954) (by decide +kernel)⟩
theorem lw_p106 : lw_okq (⟨"TreePeersModel", "draw", "(I)I"⟩, 60) := ⟨⟨by decide +kernel, by decide +kernel⟩, List.mem_of_getElem? (i := 1344) (by decide +kernel), List.mem_of_getElem? (i := 1957) (by decide +kernel), List.mem_of_getElem? (i := 1958) (by decide +kernel)⟩
theorem lw_p107 : lw_okq (⟨"TreePeersModel", "doIf", "(IIII)V"⟩, 60) := ⟨⟨by decide +kernel, by decide +kernel⟩, List.mem_of_getElem? (i := 1344) (by decide +kernel), List.mem_of_getElem? (i := 1962) (by decide +kernel), List.mem_of_getElem? (i := 1963) (by decide +kernel)⟩
theorem lw_p108 : lw_okq (⟨"TreePeersModel", "readBookLine", "()Z"⟩, 60) := ⟨⟨by decide +kernel, by decide +kernel⟩, List.mem_of_getElem? (i := 1344) (by decide +kernel), List.mem_of_getElem? (i := 1978) (by decide +kernel), List.mem_of_getElem? (i := 1979) (by decide +kernel)⟩
theorem lw_p109 : lw_okq (⟨"TreePeersModel", "readPeerName", "()Z"⟩, 60) := ⟨⟨by decide +kernel, by decide +kernel⟩, List.mem_of_getElem? (i := 1344) (by decide +kernel), List.mem_of_getElem? (i := 1982) (by decide +kernel), List.mem_of_getElem? (i := 1983) (by decide +kernel)⟩
theorem lw_p110 : lw_okq (⟨"TreePeersModel", "readNamed", "(II)Z"⟩, 60) := ⟨⟨by decide +kernel, by decide +kernel⟩, List.mem_of_getElem? (i := 1344) (by decide +kernel), List.mem_of_getElem? (i := 1986) (by decide +kernel), List.mem_of_getElem? (i := 1987) (by decide +kernel)⟩
theorem lw_p111 : lw_okq (⟨"TreePeersModel", "keep", "(IZ)Z"⟩, 60) := ⟨⟨by decide +kernel, by decide +kernel⟩, List.mem_of_getElem? (i := 1344) (by decide +kernel), List.mem_of_getElem? (i := 1990) (by decide +kernel), List.mem_of_getElem? (i := 1991) (by decide +kernel)⟩
def lw_privs_7 : List (MethodName × Nat) := [(⟨"TreePeersModel", "comesOver", "(II)V"⟩, 60), (⟨"TreePeersModel", "comeBack", "([II)V"⟩, 60), (⟨"TreePeersModel", "fraction", "(III)I"⟩, 60), (⟨"TreePeersModel", "sayWord", "(J)V"⟩, 60), (⟨"TreePeersModel", "say", "(I)V"⟩, 60), (⟨"TreePeersModel", "sayNext", "(J)V"⟩, 60), (⟨"TreePeersModel", "sayNumber", "(I)V"⟩, 60), (⟨"TreePeersModel", "isBare", "()Z"⟩, 60), (⟨"TreePeersModel", "drawRounds", "(II)V"⟩, 60), (⟨"TreePeersModel", "drawsRound", "()V"⟩, 60), (⟨"TreePeersModel", "draw", "(I)I"⟩, 60), (⟨"TreePeersModel", "doIf", "(IIII)V"⟩, 60), (⟨"TreePeersModel", "readBookLine", "()Z"⟩, 60), (⟨"TreePeersModel", "readPeerName", "()Z"⟩, 60), (⟨"TreePeersModel", "readNamed", "(II)Z"⟩, 60), (⟨"TreePeersModel", "keep", "(IZ)Z"⟩, 60)]
theorem lw_r7 : ∀ q ∈ lw_privs_7, lw_okq q := List.forall_mem_cons.mpr ⟨lw_p96, List.forall_mem_cons.mpr ⟨lw_p97, List.forall_mem_cons.mpr ⟨lw_p98, List.forall_mem_cons.mpr ⟨lw_p99, List.forall_mem_cons.mpr ⟨lw_p100, List.forall_mem_cons.mpr ⟨lw_p101, List.forall_mem_cons.mpr ⟨lw_p102, List.forall_mem_cons.mpr ⟨lw_p103, List.forall_mem_cons.mpr ⟨lw_p104, List.forall_mem_cons.mpr ⟨lw_p105, List.forall_mem_cons.mpr ⟨lw_p106, List.forall_mem_cons.mpr ⟨lw_p107, List.forall_mem_cons.mpr ⟨lw_p108, List.forall_mem_cons.mpr ⟨lw_p109, List.forall_mem_cons.mpr ⟨lw_p110, List.forall_mem_cons.mpr ⟨lw_p111, fun _ h => absurd h List.not_mem_nil⟩⟩⟩⟩⟩⟩⟩⟩⟩⟩⟩⟩⟩⟩⟩⟩
theorem lw_p112 : lw_okq (⟨"TreePeersModel", "readOther", "(I)Z"⟩, 60) := ⟨⟨by decide +kernel, by decide +kernel⟩, List.mem_of_getElem? (i := 1344) (by decide +kernel), List.mem_of_getElem? (i := 1994) (by decide +kernel), List.mem_of_getElem? (i := 1995) (by decide +kernel)⟩
theorem lw_p113 : lw_okq (⟨"TreePeersModel", "goBy", "(I)I"⟩, 60) := ⟨⟨by decide +kernel, by decide +kernel⟩, List.mem_of_getElem? (i := 1344) (by decide +kernel), List.mem_of_getElem? (i := 1998) (by decide +kernel), List.mem_of_getElem? (i := 1999) (by decide +kernel)⟩
theorem lw_p114 : lw_okq (⟨"TreePeersModel", "stay", "(Z)V"⟩, 60) := ⟨⟨by decide +kernel, by decide +kernel⟩, List.mem_of_getElem? (i := 1344) (by decide +kernel), List.mem_of_getElem? (i := 2002) (by decide +kernel), List.mem_of_getElem? (i := 2003) (by decide +kernel)⟩
theorem lw_p115 : lw_okq (⟨"TreePeersModel", "readOr", "()Z"⟩, 60) := ⟨⟨by decide +kernel, by decide +kernel⟩, List.mem_of_getElem? (i := 1344) (by decide +kernel), List.mem_of_getElem? (i := 2014) (by decide +kernel), List.mem_of_getElem? (i := 2015) (by decide +kernel)⟩
theorem lw_p116 : lw_okq (⟨"TreePeersModel", "readAnd", "()Z"⟩, 60) := ⟨⟨by decide +kernel, by decide +kernel⟩, List.mem_of_getElem? (i := 1344) (by decide +kernel), List.mem_of_getElem? (i := 2018) (by decide +kernel), List.mem_of_getElem? (i := 2019) (by decide +kernel)⟩
theorem lw_p117 : lw_okq (⟨"TreePeersModel", "readSaid", "()Z"⟩, 60) := ⟨⟨by decide +kernel, by decide +kernel⟩, List.mem_of_getElem? (i := 1344) (by decide +kernel), List.mem_of_getElem? (i := 2022) (by decide +kernel), List.mem_of_getElem? (i := 2023) (by decide +kernel)⟩
theorem lw_p118 : lw_okq (⟨"TreePeersModel", "readBracket", "()Z"⟩, 60) := ⟨⟨by decide +kernel, by decide +kernel⟩, List.mem_of_getElem? (i := 1344) (by decide +kernel), List.mem_of_getElem? (i := 2026) (by decide +kernel), List.mem_of_getElem? (i := 2027) (by decide +kernel)⟩
theorem lw_p119 : lw_okq (⟨"TreePeersModel", "readNot", "()Z"⟩, 60) := ⟨⟨by decide +kernel, by decide +kernel⟩, List.mem_of_getElem? (i := 1344) (by decide +kernel), List.mem_of_getElem? (i := 2030) (by decide +kernel), List.mem_of_getElem? (i := 2031) (by decide +kernel)⟩
theorem lw_p120 : lw_okq (⟨"TreePeersModel", "saysOne", "(IIII)I"⟩, 60) := ⟨⟨by decide +kernel, by decide +kernel⟩, List.mem_of_getElem? (i := 1344) (by decide +kernel), List.mem_of_getElem? (i := 2034) (by decide +kernel), List.mem_of_getElem? (i := 2035) (by decide +kernel)⟩
theorem lw_p121 : lw_okq (⟨"TreePeersModel", "readOf", "(I)Z"⟩, 60) := ⟨⟨by decide +kernel, by decide +kernel⟩, List.mem_of_getElem? (i := 1344) (by decide +kernel), List.mem_of_getElem? (i := 2038) (by decide +kernel), List.mem_of_getElem? (i := 2039) (by decide +kernel)⟩
theorem lw_p122 : lw_okq (⟨"TreePeersModel", "readCompare", "(I)Z"⟩, 60) := ⟨⟨by decide +kernel, by decide +kernel⟩, List.mem_of_getElem? (i := 1344) (by decide +kernel), List.mem_of_getElem? (i := 2042) (by decide +kernel), List.mem_of_getElem? (i := 2043) (by decide +kernel)⟩
theorem lw_p123 : lw_okq (⟨"TreePeersModel", "holds", "(II)Z"⟩, 60) := ⟨⟨by decide +kernel, by decide +kernel⟩, List.mem_of_getElem? (i := 1344) (by decide +kernel), List.mem_of_getElem? (i := 2050) (by decide +kernel), List.mem_of_getElem? (i := 2051) (by decide +kernel)⟩
theorem lw_p124 : lw_okq (⟨"TreePeersModel", "copiesOf", "(I)I"⟩, 60) := ⟨⟨by decide +kernel, by decide +kernel⟩, List.mem_of_getElem? (i := 1344) (by decide +kernel), List.mem_of_getElem? (i := 2054) (by decide +kernel), List.mem_of_getElem? (i := 2055) (by decide +kernel)⟩
theorem lw_p125 : lw_okq (⟨"TreePeersModel", "latestOf", "(I)I"⟩, 60) := ⟨⟨by decide +kernel, by decide +kernel⟩, List.mem_of_getElem? (i := 1344) (by decide +kernel), List.mem_of_getElem? (i := 2058) (by decide +kernel), List.mem_of_getElem? (i := 2059) (by decide +kernel)⟩
def lw_privs_8 : List (MethodName × Nat) := [(⟨"TreePeersModel", "readOther", "(I)Z"⟩, 60), (⟨"TreePeersModel", "goBy", "(I)I"⟩, 60), (⟨"TreePeersModel", "stay", "(Z)V"⟩, 60), (⟨"TreePeersModel", "readOr", "()Z"⟩, 60), (⟨"TreePeersModel", "readAnd", "()Z"⟩, 60), (⟨"TreePeersModel", "readSaid", "()Z"⟩, 60), (⟨"TreePeersModel", "readBracket", "()Z"⟩, 60), (⟨"TreePeersModel", "readNot", "()Z"⟩, 60), (⟨"TreePeersModel", "saysOne", "(IIII)I"⟩, 60), (⟨"TreePeersModel", "readOf", "(I)Z"⟩, 60), (⟨"TreePeersModel", "readCompare", "(I)Z"⟩, 60), (⟨"TreePeersModel", "holds", "(II)Z"⟩, 60), (⟨"TreePeersModel", "copiesOf", "(I)I"⟩, 60), (⟨"TreePeersModel", "latestOf", "(I)I"⟩, 60)]
theorem lw_r8 : ∀ q ∈ lw_privs_8, lw_okq q := List.forall_mem_cons.mpr ⟨lw_p112, List.forall_mem_cons.mpr ⟨lw_p113, List.forall_mem_cons.mpr ⟨lw_p114, List.forall_mem_cons.mpr ⟨lw_p115, List.forall_mem_cons.mpr ⟨lw_p116, List.forall_mem_cons.mpr ⟨lw_p117, List.forall_mem_cons.mpr ⟨lw_p118, List.forall_mem_cons.mpr ⟨lw_p119, List.forall_mem_cons.mpr ⟨lw_p120, List.forall_mem_cons.mpr ⟨lw_p121, List.forall_mem_cons.mpr ⟨lw_p122, List.forall_mem_cons.mpr ⟨lw_p123, List.forall_mem_cons.mpr ⟨lw_p124, List.forall_mem_cons.mpr ⟨lw_p125, fun _ h => absurd h List.not_mem_nil⟩⟩⟩⟩⟩⟩⟩⟩⟩⟩⟩⟩⟩⟩
def lw_privs : List (MethodName × Nat) := lw_privs_1 ++ (lw_privs_2 ++ (lw_privs_3 ++ (lw_privs_4 ++ (lw_privs_5 ++ (lw_privs_6 ++ (lw_privs_7 ++ (lw_privs_8)))))))
def lw_tbl : List Cond := k2_sels lw_privs ++ tables_1
theorem lw_privs_ok : ∀ q ∈ lw_privs, lw_okq q := by
  show ∀ q ∈ lw_privs_1 ++ (lw_privs_2 ++ (lw_privs_3 ++ (lw_privs_4 ++ (lw_privs_5 ++ (lw_privs_6 ++ (lw_privs_7 ++ (lw_privs_8))))))), lw_okq q
  exact List.forall_mem_append.mpr ⟨lw_r1, List.forall_mem_append.mpr ⟨lw_r2, List.forall_mem_append.mpr ⟨lw_r3, List.forall_mem_append.mpr ⟨lw_r4, List.forall_mem_append.mpr ⟨lw_r5, List.forall_mem_append.mpr ⟨lw_r6, List.forall_mem_append.mpr ⟨lw_r7, lw_r8⟩⟩⟩⟩⟩⟩⟩
-- ===== end of PART A; then your names; then what follows =====
def RX0 : String := "TreePeers$Book"
def TX0 : u_T := fun k => match k with
  | 0 => ("TreePeers$Book", "reader", "LTreePeers$Reader;", true)
  | 1 => ("TreePeers$Book", "plan", "LTreePeers$Plan;", true)
  | 2 => ("TreePeers$Book", "sorts", "[I", true)
  | 3 => ("TreePeers$Book", "firsts", "[I", true)
  | 4 => ("TreePeers$Book", "seconds", "[I", true)
  | 5 => ("TreePeers$Book", "values", "[I", true)
  | 6 => ("TreePeers$Book", "size", "I", false)
  | 7 => ("TreePeers$Book", "judged", "Z", false)
  | 8 => ("TreePeers$Book", "why", "I", false)
  | 9 => ("TreePeers$Book", "rightLines", "I", false)
  | 10 => ("TreePeers$Book", "givenThen", "I", false)
  | _ => ("TreePeers$Book", "rootsThen", "I", false)
def tyX0 : Nat → FieldType := fun k => match k with
  | 0 => .object "TreePeers$Reader"
  | 1 => .object "TreePeers$Plan"
  | 2 => .array .int
  | 3 => .array .int
  | 4 => .array .int
  | 5 => .array .int
  | 6 => .int
  | 7 => .boolean
  | 8 => .int
  | 9 => .int
  | 10 => .int
  | _ => .int
abbrev wsX00 : List Cond := u_ws RX0 TX0 12
theorem nmX0 : ∀ a, a < 12 → ∀ b, b < 12 → a ≠ b → (TX0 a).2.1 ≠ (TX0 b).2.1 := by decide +kernel
theorem tyX0_ok : ∀ k, k < 12 → parseFieldDescriptor (TX0 k).2.2.1 = some (tyX0 k) := by decide +kernel
abbrev cX0_init : ByteArray := prog_2_method_1_code
def yX0_init : MethodName := ⟨RX0, "<init>", "(LTreePeers$Reader;LTreePeers$Plan;)V"⟩
abbrev cX0_read : ByteArray := prog_2_method_2_code
def yX0_read : MethodName := ⟨RX0, "read", "()Z"⟩
abbrev cX0_readLine : ByteArray := prog_2_method_3_code
def yX0_readLine : MethodName := ⟨RX0, "readLine", "()Z"⟩
abbrev cX0_readKeyPart : ByteArray := prog_2_method_4_code
def yX0_readKeyPart : MethodName := ⟨RX0, "readKeyPart", "(I)Z"⟩
abbrev cX0_readOtherPeer : ByteArray := prog_2_method_5_code
def yX0_readOtherPeer : MethodName := ⟨RX0, "readOtherPeer", "(I)Z"⟩
abbrev cX0_judge : ByteArray := prog_2_method_6_code
def yX0_judge : MethodName := ⟨RX0, "judge", "(LTreePeers$Peers;)I"⟩
abbrev cX0_liveLine : ByteArray := prog_2_method_7_code
def yX0_liveLine : MethodName := ⟨RX0, "liveLine", "(LTreePeers$Peers;I)I"⟩
abbrev cX0_whyOf : ByteArray := prog_2_method_8_code
def yX0_whyOf : MethodName := ⟨RX0, "whyOf", "(II)I"⟩
abbrev cX0_tell : ByteArray := prog_2_method_9_code
def yX0_tell : MethodName := ⟨RX0, "tell", "(I)I"⟩
def RX1 : String := "TreePeers$ClusterText"
def TX1 : u_T := fun k => match k with
  | 0 => ("TreePeers$ClusterText", "reader", "LTreePeers$Reader;", true)
  | 1 => ("TreePeers$ClusterText", "plan", "LTreePeers$Plan;", true)
  | 2 => ("TreePeers$ClusterText", "facts", "LTreePeers$Facts;", true)
  | _ => ("TreePeers$ClusterText", "toldBits", "I", false)
def tyX1 : Nat → FieldType := fun k => match k with
  | 0 => .object "TreePeers$Reader"
  | 1 => .object "TreePeers$Plan"
  | 2 => .object "TreePeers$Facts"
  | _ => .int
abbrev wsX10 : List Cond := u_ws RX1 TX1 4
theorem nmX1 : ∀ a, a < 4 → ∀ b, b < 4 → a ≠ b → (TX1 a).2.1 ≠ (TX1 b).2.1 := by decide +kernel
theorem tyX1_ok : ∀ k, k < 4 → parseFieldDescriptor (TX1 k).2.2.1 = some (tyX1 k) := by decide +kernel
abbrev cX1_init : ByteArray := prog_3_method_1_code
def yX1_init : MethodName := ⟨RX1, "<init>", "(LTreePeers$Reader;LTreePeers$Scene;)V"⟩
abbrev cX1_read : ByteArray := prog_3_method_2_code
def yX1_read : MethodName := ⟨RX1, "read", "()Z"⟩
abbrev cX1_readLine : ByteArray := prog_3_method_3_code
def yX1_readLine : MethodName := ⟨RX1, "readLine", "()Z"⟩
abbrev cX1_readSetting : ByteArray := prog_3_method_4_code
def yX1_readSetting : MethodName := ⟨RX1, "readSetting", "(I)Z"⟩
abbrev cX1_readRule : ByteArray := prog_3_method_5_code
def yX1_readRule : MethodName := ⟨RX1, "readRule", "()Z"⟩
abbrev cX1_readKey : ByteArray := prog_3_method_6_code
def yX1_readKey : MethodName := ⟨RX1, "readKey", "()Z"⟩
abbrev cX1_readPeer : ByteArray := prog_3_method_7_code
def yX1_readPeer : MethodName := ⟨RX1, "readPeer", "()Z"⟩
abbrev cX1_isNewName : ByteArray := prog_3_method_8_code
def yX1_isNewName : MethodName := ⟨RX1, "isNewName", "()Z"⟩
abbrev cX1_readHas : ByteArray := prog_3_method_9_code
def yX1_readHas : MethodName := ⟨RX1, "readHas", "()Z"⟩
abbrev cX1_readCut : ByteArray := prog_3_method_10_code
def yX1_readCut : MethodName := ⟨RX1, "readCut", "()Z"⟩
def RX2 : String := "TreePeers$Draws"
def TX2 : u_T := fun k => match k with
  | 0 => ("TreePeers$Draws", "x", "I", false)
  | 1 => ("TreePeers$Draws", "refusals", "[I", true)
  | 2 => ("TreePeers$Draws", "keptRefusals", "[I", true)
  | _ => ("TreePeers$Draws", "anyKept", "Z", false)
def tyX2 : Nat → FieldType := fun k => match k with
  | 0 => .int
  | 1 => .array .int
  | 2 => .array .int
  | _ => .boolean
abbrev wsX20 : List Cond := u_ws RX2 TX2 4
theorem nmX2 : ∀ a, a < 4 → ∀ b, b < 4 → a ≠ b → (TX2 a).2.1 ≠ (TX2 b).2.1 := by decide +kernel
theorem tyX2_ok : ∀ k, k < 4 → parseFieldDescriptor (TX2 k).2.2.1 = some (tyX2 k) := by decide +kernel
abbrev cX2_init : ByteArray := prog_4_method_1_code
def yX2_init : MethodName := ⟨RX2, "<init>", "()V"⟩
abbrev cX2_begin : ByteArray := prog_4_method_2_code
def yX2_begin : MethodName := ⟨RX2, "begin", "(I)V"⟩
abbrev cX2_keepRefusals : ByteArray := prog_4_method_3_code
def yX2_keepRefusals : MethodName := ⟨RX2, "keepRefusals", "()V"⟩
abbrev cX2_refusedBy : ByteArray := prog_4_method_4_code
def yX2_refusedBy : MethodName := ⟨RX2, "refusedBy", "(I)I"⟩
abbrev cX2_draw : ByteArray := prog_4_method_5_code
def yX2_draw : MethodName := ⟨RX2, "draw", "(I)I"⟩
abbrev cX2_runRounds : ByteArray := prog_4_method_6_code
def yX2_runRounds : MethodName := ⟨RX2, "runRounds", "(LTreePeers$Peers;I)V"⟩
abbrev cX2_runRound : ByteArray := prog_4_method_7_code
def yX2_runRound : MethodName := ⟨RX2, "runRound", "(LTreePeers$Peers;)V"⟩
abbrev cX2_countRefusal : ByteArray := prog_4_method_8_code
def yX2_countRefusal : MethodName := ⟨RX2, "countRefusal", "(I)V"⟩
def RX3 : String := "TreePeers$Facts"
def TX3 : u_T := fun k => match k with
  | 0 => ("TreePeers$Facts", "values", "[I", true)
  | 1 => ("TreePeers$Facts", "stamps", "[I", true)
  | 2 => ("TreePeers$Facts", "cutBits", "[I", true)
  | 3 => ("TreePeers$Facts", "came", "[I", true)
  | 4 => ("TreePeers$Facts", "pullsDone", "I", false)
  | 5 => ("TreePeers$Facts", "offersDone", "I", false)
  | _ => ("TreePeers$Facts", "given", "I", false)
def tyX3 : Nat → FieldType := fun k => match k with
  | 0 => .array .int
  | 1 => .array .int
  | 2 => .array .int
  | 3 => .array .int
  | 4 => .int
  | 5 => .int
  | _ => .int
abbrev wsX30 : List Cond := u_ws RX3 TX3 7
theorem nmX3 : ∀ a, a < 7 → ∀ b, b < 7 → a ≠ b → (TX3 a).2.1 ≠ (TX3 b).2.1 := by decide +kernel
theorem tyX3_ok : ∀ k, k < 7 → parseFieldDescriptor (TX3 k).2.2.1 = some (tyX3 k) := by decide +kernel
abbrev cX3_init : ByteArray := prog_5_method_1_code
def yX3_init : MethodName := ⟨RX3, "<init>", "()V"⟩
abbrev cX3_clear : ByteArray := prog_5_method_2_code
def yX3_clear : MethodName := ⟨RX3, "clear", "()V"⟩
abbrev cX3_copyFrom : ByteArray := prog_5_method_3_code
def yX3_copyFrom : MethodName := ⟨RX3, "copyFrom", "(LTreePeers$Facts;)V"⟩
abbrev cX3_has : ByteArray := prog_5_method_4_code
def yX3_has : MethodName := ⟨RX3, "has", "(II)Z"⟩
abbrev cX3_valueOf : ByteArray := prog_5_method_5_code
def yX3_valueOf : MethodName := ⟨RX3, "valueOf", "(II)I"⟩
abbrev cX3_stampOf : ByteArray := prog_5_method_6_code
def yX3_stampOf : MethodName := ⟨RX3, "stampOf", "(II)I"⟩
abbrev cX3_isGone : ByteArray := prog_5_method_7_code
def yX3_isGone : MethodName := ⟨RX3, "isGone", "(II)Z"⟩
abbrev cX3_digestOf : ByteArray := prog_5_method_8_code
def yX3_digestOf : MethodName := ⟨RX3, "digestOf", "(LTreePeers$Plan;II)I"⟩
abbrev cX3_isSame : ByteArray := prog_5_method_9_code
def yX3_isSame : MethodName := ⟨RX3, "isSame", "(III)Z"⟩
abbrev cX3_write : ByteArray := prog_5_method_10_code
def yX3_write : MethodName := ⟨RX3, "write", "(III)V"⟩
abbrev cX3_take : ByteArray := prog_5_method_11_code
def yX3_take : MethodName := ⟨RX3, "take", "(III)V"⟩
abbrev cX3_areCut : ByteArray := prog_5_method_12_code
def yX3_areCut : MethodName := ⟨RX3, "areCut", "(II)Z"⟩
abbrev cX3_turnLink : ByteArray := prog_5_method_13_code
def yX3_turnLink : MethodName := ⟨RX3, "turnLink", "(II)V"⟩
abbrev cX3_firstCut : ByteArray := prog_5_method_14_code
def yX3_firstCut : MethodName := ⟨RX3, "firstCut", "(I)I"⟩
def RX4 : String := "TreePeers$Peers"
def TX4 : u_T := fun k => match k with
  | 0 => ("TreePeers$Peers", "plan", "LTreePeers$Plan;", true)
  | 1 => ("TreePeers$Peers", "facts", "LTreePeers$Facts;", true)
  | 2 => ("TreePeers$Peers", "trees", "[LTreePeers$Tree;", true)
  | _ => ("TreePeers$Peers", "found", "[I", true)
def tyX4 : Nat → FieldType := fun k => match k with
  | 0 => .object "TreePeers$Plan"
  | 1 => .object "TreePeers$Facts"
  | 2 => .array (.object "TreePeers$Tree")
  | _ => .array .int
abbrev wsX40 : List Cond := u_ws RX4 TX4 4
theorem nmX4 : ∀ a, a < 4 → ∀ b, b < 4 → a ≠ b → (TX4 a).2.1 ≠ (TX4 b).2.1 := by decide +kernel
theorem tyX4_ok : ∀ k, k < 4 → parseFieldDescriptor (TX4 k).2.2.1 = some (tyX4 k) := by decide +kernel
abbrev cX4_init : ByteArray := prog_6_method_1_code
def yX4_init : MethodName := ⟨RX4, "<init>", "(LTreePeers$Plan;LTreePeers$Facts;)V"⟩
abbrev cX4_copyFrom : ByteArray := prog_6_method_2_code
def yX4_copyFrom : MethodName := ⟨RX4, "copyFrom", "(LTreePeers$Peers;)V"⟩
abbrev cX4_growTrees : ByteArray := prog_6_method_3_code
def yX4_growTrees : MethodName := ⟨RX4, "growTrees", "()V"⟩
abbrev cX4_rootOf : ByteArray := prog_6_method_4_code
def yX4_rootOf : MethodName := ⟨RX4, "rootOf", "(I)I"⟩
abbrev cX4_holderBits : ByteArray := prog_6_method_5_code
def yX4_holderBits : MethodName := ⟨RX4, "holderBits", "(I)I"⟩
abbrev cX4_goneCount : ByteArray := prog_6_method_6_code
def yX4_goneCount : MethodName := ⟨RX4, "goneCount", "(I)I"⟩
abbrev cX4_sameRootBits : ByteArray := prog_6_method_7_code
def yX4_sameRootBits : MethodName := ⟨RX4, "sameRootBits", "(I)I"⟩
abbrev cX4_rootKinds : ByteArray := prog_6_method_8_code
def yX4_rootKinds : MethodName := ⟨RX4, "rootKinds", "()I"⟩
abbrev cX4_differBits : ByteArray := prog_6_method_9_code
def yX4_differBits : MethodName := ⟨RX4, "differBits", "(II)I"⟩
abbrev cX4_tornBits : ByteArray := prog_6_method_10_code
def yX4_tornBits : MethodName := ⟨RX4, "tornBits", "()I"⟩
abbrev cX4_greatestStamp : ByteArray := prog_6_method_11_code
def yX4_greatestStamp : MethodName := ⟨RX4, "greatestStamp", "(I)I"⟩
abbrev cX4_visitedBits : ByteArray := prog_6_method_12_code
def yX4_visitedBits : MethodName := ⟨RX4, "visitedBits", "(II)I"⟩
abbrev cX4_findOffers : ByteArray := prog_6_method_13_code
def yX4_findOffers : MethodName := ⟨RX4, "findOffers", "(II)I"⟩
abbrev cX4_winsOver : ByteArray := prog_6_method_14_code
def yX4_winsOver : MethodName := ⟨RX4, "winsOver", "(III)Z"⟩
abbrev cX4_tryPut : ByteArray := prog_6_method_15_code
def yX4_tryPut : MethodName := ⟨RX4, "tryPut", "(III)I"⟩
abbrev cX4_tryDrop : ByteArray := prog_6_method_16_code
def yX4_tryDrop : MethodName := ⟨RX4, "tryDrop", "(II)I"⟩
abbrev cX4_tryPull : ByteArray := prog_6_method_17_code
def yX4_tryPull : MethodName := ⟨RX4, "tryPull", "(II)I"⟩
abbrev cX4_tryCut : ByteArray := prog_6_method_18_code
def yX4_tryCut : MethodName := ⟨RX4, "tryCut", "(II)I"⟩
abbrev cX4_tryHeal : ByteArray := prog_6_method_19_code
def yX4_tryHeal : MethodName := ⟨RX4, "tryHeal", "(II)I"⟩
def RX5 : String := "TreePeers$Plan"
def TX5 : u_T := fun k => match k with
  | 0 => ("TreePeers$Plan", "bits", "I", false)
  | 1 => ("TreePeers$Plan", "page", "I", false)
  | 2 => ("TreePeers$Plan", "rule", "I", false)
  | 3 => ("TreePeers$Plan", "keyCount", "I", false)
  | 4 => ("TreePeers$Plan", "peerCount", "I", false)
  | 5 => ("TreePeers$Plan", "keyNames", "[J", true)
  | 6 => ("TreePeers$Plan", "peerNames", "[J", true)
  | 7 => ("TreePeers$Plan", "digests", "[I", true)
  | 8 => ("TreePeers$Plan", "levels", "[I", true)
  | 9 => ("TreePeers$Plan", "order", "[I", true)
  | _ => ("TreePeers$Plan", "places", "[I", true)
def tyX5 : Nat → FieldType := fun k => match k with
  | 0 => .int
  | 1 => .int
  | 2 => .int
  | 3 => .int
  | 4 => .int
  | 5 => .array .long
  | 6 => .array .long
  | 7 => .array .int
  | 8 => .array .int
  | 9 => .array .int
  | _ => .array .int
abbrev wsX50 : List Cond := u_ws RX5 TX5 11
theorem nmX5 : ∀ a, a < 11 → ∀ b, b < 11 → a ≠ b → (TX5 a).2.1 ≠ (TX5 b).2.1 := by decide +kernel
theorem tyX5_ok : ∀ k, k < 11 → parseFieldDescriptor (TX5 k).2.2.1 = some (tyX5 k) := by decide +kernel
abbrev cX5_init : ByteArray := prog_7_method_1_code
def yX5_init : MethodName := ⟨RX5, "<init>", "()V"⟩
abbrev cX5_clear : ByteArray := prog_7_method_2_code
def yX5_clear : MethodName := ⟨RX5, "clear", "()V"⟩
abbrev cX5_copyFrom : ByteArray := prog_7_method_3_code
def yX5_copyFrom : MethodName := ⟨RX5, "copyFrom", "(LTreePeers$Plan;)V"⟩
abbrev cX5_hasBoth : ByteArray := prog_7_method_4_code
def yX5_hasBoth : MethodName := ⟨RX5, "hasBoth", "()Z"⟩
abbrev cX5_signOf : ByteArray := prog_7_method_5_code
def yX5_signOf : MethodName := ⟨RX5, "signOf", "(JI)I"⟩
abbrev cX5_keyNamed : ByteArray := prog_7_method_6_code
def yX5_keyNamed : MethodName := ⟨RX5, "keyNamed", "(J)I"⟩
abbrev cX5_peerNamed : ByteArray := prog_7_method_7_code
def yX5_peerNamed : MethodName := ⟨RX5, "peerNamed", "(J)I"⟩
abbrev cX5_indexOf : ByteArray := prog_7_method_8_code
def yX5_indexOf : MethodName := ⟨RX5, "indexOf", "([JIJ)I"⟩
abbrev cX5_isTold : ByteArray := prog_7_method_9_code
def yX5_isTold : MethodName := ⟨RX5, "isTold", "(J)Z"⟩
abbrev cX5_settle : ByteArray := prog_7_method_10_code
def yX5_settle : MethodName := ⟨RX5, "settle", "()V"⟩
abbrev cX5_digestOf : ByteArray := prog_7_method_11_code
def yX5_digestOf : MethodName := ⟨RX5, "digestOf", "(J)I"⟩
abbrev cX5_levelOf : ByteArray := prog_7_method_12_code
def yX5_levelOf : MethodName := ⟨RX5, "levelOf", "(I)I"⟩
def RX6 : String := "TreePeers$Reader"
def TX6 : u_T := fun k => match k with
  | 0 => ("TreePeers$Reader", "bytes", "[B", true)
  | 1 => ("TreePeers$Reader", "length", "I", false)
  | 2 => ("TreePeers$Reader", "most", "I", false)
  | 3 => ("TreePeers$Reader", "at", "I", false)
  | 4 => ("TreePeers$Reader", "token", "I", false)
  | 5 => ("TreePeers$Reader", "begin", "I", false)
  | 6 => ("TreePeers$Reader", "word", "I", false)
  | 7 => ("TreePeers$Reader", "name", "J", false)
  | 8 => ("TreePeers$Reader", "number", "I", false)
  | 9 => ("TreePeers$Reader", "sign", "I", false)
  | 10 => ("TreePeers$Reader", "lineCount", "I", false)
  | 11 => ("TreePeers$Reader", "faultKind", "I", false)
  | _ => ("TreePeers$Reader", "faultPlace", "I", false)
def tyX6 : Nat → FieldType := fun k => match k with
  | 0 => .array .byte
  | 1 => .int
  | 2 => .int
  | 3 => .int
  | 4 => .int
  | 5 => .int
  | 6 => .int
  | 7 => .long
  | 8 => .int
  | 9 => .int
  | 10 => .int
  | 11 => .int
  | _ => .int
abbrev wsX60 : List Cond := u_ws RX6 TX6 13
theorem nmX6 : ∀ a, a < 13 → ∀ b, b < 13 → a ≠ b → (TX6 a).2.1 ≠ (TX6 b).2.1 := by decide +kernel
theorem tyX6_ok : ∀ k, k < 13 → parseFieldDescriptor (TX6 k).2.2.1 = some (tyX6 k) := by decide +kernel
abbrev cX6_init : ByteArray := prog_8_method_1_code
def yX6_init : MethodName := ⟨RX6, "<init>", "([B)V"⟩
abbrev cX6_open : ByteArray := prog_8_method_2_code
def yX6_open : MethodName := ⟨RX6, "open", "(II)V"⟩
abbrev cX6_signAt : ByteArray := prog_8_method_3_code
def yX6_signAt : MethodName := ⟨RX6, "signAt", "(I)I"⟩
abbrev cX6_isLetter : ByteArray := prog_8_method_4_code
def yX6_isLetter : MethodName := ⟨RX6, "isLetter", "(I)Z"⟩
abbrev cX6_isDigit : ByteArray := prog_8_method_5_code
def yX6_isDigit : MethodName := ⟨RX6, "isDigit", "(I)Z"⟩
abbrev cX6_next : ByteArray := prog_8_method_6_code
def yX6_next : MethodName := ⟨RX6, "next", "()V"⟩
abbrev cX6_readRun : ByteArray := prog_8_method_7_code
def yX6_readRun : MethodName := ⟨RX6, "readRun", "()V"⟩
abbrev cX6_findWord : ByteArray := prog_8_method_8_code
def yX6_findWord : MethodName := ⟨RX6, "findWord", "(J)I"⟩
abbrev cX6_fail : ByteArray := prog_8_method_9_code
def yX6_fail : MethodName := ⟨RX6, "fail", "(I)Z"⟩
abbrev cX6_isWhole : ByteArray := prog_8_method_10_code
def yX6_isWhole : MethodName := ⟨RX6, "isWhole", "()Z"⟩
abbrev cX6_passSign : ByteArray := prog_8_method_11_code
def yX6_passSign : MethodName := ⟨RX6, "passSign", "(I)Z"⟩
abbrev cX6_passLineEnd : ByteArray := prog_8_method_12_code
def yX6_passLineEnd : MethodName := ⟨RX6, "passLineEnd", "()Z"⟩
abbrev cX6_seeNumber : ByteArray := prog_8_method_13_code
def yX6_seeNumber : MethodName := ⟨RX6, "seeNumber", "(II)I"⟩
abbrev cX6_seePeer : ByteArray := prog_8_method_14_code
def yX6_seePeer : MethodName := ⟨RX6, "seePeer", "(LTreePeers$Plan;)I"⟩
abbrev cX6_seeKey : ByteArray := prog_8_method_15_code
def yX6_seeKey : MethodName := ⟨RX6, "seeKey", "(LTreePeers$Plan;)I"⟩
abbrev cX6_seen : ByteArray := prog_8_method_16_code
def yX6_seen : MethodName := ⟨RX6, "seen", "(I)I"⟩
def RX7 : String := "TreePeers$Saying"
def TX7 : u_T := fun k => match k with
  | 0 => ("TreePeers$Saying", "codes", "[I", true)
  | 1 => ("TreePeers$Saying", "size", "I", false)
  | _ => ("TreePeers$Saying", "ones", "I", false)
def tyX7 : Nat → FieldType := fun k => match k with
  | 0 => .array .int
  | 1 => .int
  | _ => .int
abbrev wsX70 : List Cond := u_ws RX7 TX7 3
theorem nmX7 : ∀ a, a < 3 → ∀ b, b < 3 → a ≠ b → (TX7 a).2.1 ≠ (TX7 b).2.1 := by decide +kernel
theorem tyX7_ok : ∀ k, k < 3 → parseFieldDescriptor (TX7 k).2.2.1 = some (tyX7 k) := by decide +kernel
abbrev cX7_init : ByteArray := prog_9_method_1_code
def yX7_init : MethodName := ⟨RX7, "<init>", "()V"⟩
abbrev cX7_clear : ByteArray := prog_9_method_2_code
def yX7_clear : MethodName := ⟨RX7, "clear", "()V"⟩
abbrev cX7_copyFrom : ByteArray := prog_9_method_3_code
def yX7_copyFrom : MethodName := ⟨RX7, "copyFrom", "(LTreePeers$Saying;)V"⟩
abbrev cX7_read : ByteArray := prog_9_method_4_code
def yX7_read : MethodName := ⟨RX7, "read", "(LTreePeers$Reader;LTreePeers$Plan;)Z"⟩
abbrev cX7_readCond : ByteArray := prog_9_method_5_code
def yX7_readCond : MethodName := ⟨RX7, "readCond", "(LTreePeers$Reader;LTreePeers$Plan;I)Z"⟩
abbrev cX7_readAll : ByteArray := prog_9_method_6_code
def yX7_readAll : MethodName := ⟨RX7, "readAll", "(LTreePeers$Reader;LTreePeers$Plan;I)Z"⟩
abbrev cX7_readOne : ByteArray := prog_9_method_7_code
def yX7_readOne : MethodName := ⟨RX7, "readOne", "(LTreePeers$Reader;LTreePeers$Plan;I)Z"⟩
abbrev cX7_readDenied : ByteArray := prog_9_method_8_code
def yX7_readDenied : MethodName := ⟨RX7, "readDenied", "(LTreePeers$Reader;LTreePeers$Plan;I)Z"⟩
abbrev cX7_readPlainOne : ByteArray := prog_9_method_9_code
def yX7_readPlainOne : MethodName := ⟨RX7, "readPlainOne", "(LTreePeers$Reader;LTreePeers$Plan;I)Z"⟩
abbrev cX7_add : ByteArray := prog_9_method_10_code
def yX7_add : MethodName := ⟨RX7, "add", "(III)V"⟩
abbrev cX7_holdsOf : ByteArray := prog_9_method_11_code
def yX7_holdsOf : MethodName := ⟨RX7, "holdsOf", "(LTreePeers$Peers;I)Z"⟩
abbrev cX7_oneHolds : ByteArray := prog_9_method_12_code
def yX7_oneHolds : MethodName := ⟨RX7, "oneHolds", "(LTreePeers$Peers;II)Z"⟩
abbrev cX7_compares : ByteArray := prog_9_method_13_code
def yX7_compares : MethodName := ⟨RX7, "compares", "(III)Z"⟩
def RX8 : String := "TreePeers$Scene"
def TX8 : u_T := fun k => match k with
  | 0 => ("TreePeers$Scene", "plan", "LTreePeers$Plan;", true)
  | 1 => ("TreePeers$Scene", "facts", "LTreePeers$Facts;", true)
  | 2 => ("TreePeers$Scene", "saying", "LTreePeers$Saying;", true)
  | _ => ("TreePeers$Scene", "filled", "Z", false)
def tyX8 : Nat → FieldType := fun k => match k with
  | 0 => .object "TreePeers$Plan"
  | 1 => .object "TreePeers$Facts"
  | 2 => .object "TreePeers$Saying"
  | _ => .boolean
abbrev wsX80 : List Cond := u_ws RX8 TX8 4
theorem nmX8 : ∀ a, a < 4 → ∀ b, b < 4 → a ≠ b → (TX8 a).2.1 ≠ (TX8 b).2.1 := by decide +kernel
theorem tyX8_ok : ∀ k, k < 4 → parseFieldDescriptor (TX8 k).2.2.1 = some (tyX8 k) := by decide +kernel
abbrev cX8_init : ByteArray := prog_10_method_1_code
def yX8_init : MethodName := ⟨RX8, "<init>", "()V"⟩
abbrev cX8_copyFrom : ByteArray := prog_10_method_2_code
def yX8_copyFrom : MethodName := ⟨RX8, "copyFrom", "(LTreePeers$Scene;)V"⟩
def RX9 : String := "TreePeers$Tree"
def TX9 : u_T := fun k => match k with
  | 0 => ("TreePeers$Tree", "row", "[I", true)
  | 1 => ("TreePeers$Tree", "rowLevels", "[I", true)
  | 2 => ("TreePeers$Tree", "rowDigests", "[I", true)
  | 3 => ("TreePeers$Tree", "rowSize", "I", false)
  | 4 => ("TreePeers$Tree", "level", "[I", true)
  | 5 => ("TreePeers$Tree", "size", "[I", true)
  | 6 => ("TreePeers$Tree", "first", "[I", true)
  | 7 => ("TreePeers$Tree", "last", "[I", true)
  | 8 => ("TreePeers$Tree", "below", "[I", true)
  | 9 => ("TreePeers$Tree", "above", "[I", true)
  | 10 => ("TreePeers$Tree", "digests", "[I", true)
  | 11 => ("TreePeers$Tree", "nodeOf", "[I", true)
  | _ => ("TreePeers$Tree", "nodes", "I", false)
def tyX9 : Nat → FieldType := fun k => match k with
  | 0 => .array .int
  | 1 => .array .int
  | 2 => .array .int
  | 3 => .int
  | 4 => .array .int
  | 5 => .array .int
  | 6 => .array .int
  | 7 => .array .int
  | 8 => .array .int
  | 9 => .array .int
  | 10 => .array .int
  | 11 => .array .int
  | _ => .int
abbrev wsX90 : List Cond := u_ws RX9 TX9 13
theorem nmX9 : ∀ a, a < 13 → ∀ b, b < 13 → a ≠ b → (TX9 a).2.1 ≠ (TX9 b).2.1 := by decide +kernel
theorem tyX9_ok : ∀ k, k < 13 → parseFieldDescriptor (TX9 k).2.2.1 = some (tyX9 k) := by decide +kernel
abbrev cX9_init : ByteArray := prog_11_method_1_code
def yX9_init : MethodName := ⟨RX9, "<init>", "()V"⟩
abbrev cX9_copyFrom : ByteArray := prog_11_method_2_code
def yX9_copyFrom : MethodName := ⟨RX9, "copyFrom", "(LTreePeers$Tree;)V"⟩
abbrev cX9_grow : ByteArray := prog_11_method_3_code
def yX9_grow : MethodName := ⟨RX9, "grow", "(LTreePeers$Plan;LTreePeers$Facts;I)V"⟩
abbrev cX9_growNode : ByteArray := prog_11_method_4_code
def yX9_growNode : MethodName := ⟨RX9, "growNode", "(IIII)I"⟩
abbrev cX9_fillNode : ByteArray := prog_11_method_5_code
def yX9_fillNode : MethodName := ⟨RX9, "fillNode", "(IIII)I"⟩
abbrev cX9_topLevel : ByteArray := prog_11_method_6_code
def yX9_topLevel : MethodName := ⟨RX9, "topLevel", "(II)I"⟩
abbrev cX9_openNode : ByteArray := prog_11_method_7_code
def yX9_openNode : MethodName := ⟨RX9, "openNode", "(III)V"⟩
abbrev cX9_addKey : ByteArray := prog_11_method_8_code
def yX9_addKey : MethodName := ⟨RX9, "addKey", "(II)V"⟩
abbrev cX9_hasDigest : ByteArray := prog_11_method_9_code
def yX9_hasDigest : MethodName := ⟨RX9, "hasDigest", "(I)Z"⟩
abbrev cX9_countMissing : ByteArray := prog_11_method_10_code
def yX9_countMissing : MethodName := ⟨RX9, "countMissing", "(LTreePeers$Tree;)I"⟩
abbrev cX9_depthOf : ByteArray := prog_11_method_11_code
def yX9_depthOf : MethodName := ⟨RX9, "depthOf", "(I)I"⟩
abbrev cX9_tell : ByteArray := prog_11_method_12_code
def yX9_tell : MethodName := ⟨RX9, "tell", "(II)I"⟩
def RX10 : String := "TreePeers$Undo"
def TX10 : u_T := fun k => match k with
  | 0 => ("TreePeers$Undo", "ring", "[LTreePeers$Facts;", true)
  | 1 => ("TreePeers$Undo", "top", "I", false)
  | _ => ("TreePeers$Undo", "size", "I", false)
def tyX10 : Nat → FieldType := fun k => match k with
  | 0 => .array (.object "TreePeers$Facts")
  | 1 => .int
  | _ => .int
abbrev wsX100 : List Cond := u_ws RX10 TX10 3
theorem nmX10 : ∀ a, a < 3 → ∀ b, b < 3 → a ≠ b → (TX10 a).2.1 ≠ (TX10 b).2.1 := by decide +kernel
theorem tyX10_ok : ∀ k, k < 3 → parseFieldDescriptor (TX10 k).2.2.1 = some (tyX10 k) := by decide +kernel
abbrev cX10_init : ByteArray := prog_12_method_1_code
def yX10_init : MethodName := ⟨RX10, "<init>", "()V"⟩
abbrev cX10_clear : ByteArray := prog_12_method_2_code
def yX10_clear : MethodName := ⟨RX10, "clear", "()V"⟩
abbrev cX10_note : ByteArray := prog_12_method_3_code
def yX10_note : MethodName := ⟨RX10, "note", "(LTreePeers$Facts;)V"⟩
abbrev cX10_keepNoted : ByteArray := prog_12_method_4_code
def yX10_keepNoted : MethodName := ⟨RX10, "keepNoted", "()V"⟩
abbrev cX10_takeBack : ByteArray := prog_12_method_5_code
def yX10_takeBack : MethodName := ⟨RX10, "takeBack", "(LTreePeers$Facts;)V"⟩
def RX11 : String := "TreePeers"
def TX11 : u_T := fun k => match k with
  | 0 => ("TreePeers", "tape", "[B", true)
  | 1 => ("TreePeers", "tapeLength", "I", false)
  | 2 => ("TreePeers", "live", "LTreePeers$Scene;", true)
  | 3 => ("TreePeers", "draft", "LTreePeers$Scene;", true)
  | 4 => ("TreePeers", "kept", "[LTreePeers$Scene;", true)
  | 5 => ("TreePeers", "peers", "LTreePeers$Peers;", true)
  | 6 => ("TreePeers", "trial", "LTreePeers$Peers;", true)
  | 7 => ("TreePeers", "deeds", "LTreePeers$Undo;", true)
  | 8 => ("TreePeers", "draws", "LTreePeers$Draws;", true)
  | 9 => ("TreePeers", "reader", "LTreePeers$Reader;", true)
  | 10 => ("TreePeers", "clusterText", "LTreePeers$ClusterText;", true)
  | 11 => ("TreePeers", "lines", "LTreePeers$Book;", true)
  | 12 => ("TreePeers", "offerKeys", "[I", true)
  | 13 => ("TreePeers", "offerCount", "I", false)
  | 14 => ("TreePeers", "tagBytes", "[B", true)
  | 15 => ("TreePeers", "tagLength", "I", false)
  | 16 => ("TreePeers", "faultKind", "I", false)
  | _ => ("TreePeers", "faultAt", "I", false)
def tyX11 : Nat → FieldType := fun k => match k with
  | 0 => .array .byte
  | 1 => .int
  | 2 => .object "TreePeers$Scene"
  | 3 => .object "TreePeers$Scene"
  | 4 => .array (.object "TreePeers$Scene")
  | 5 => .object "TreePeers$Peers"
  | 6 => .object "TreePeers$Peers"
  | 7 => .object "TreePeers$Undo"
  | 8 => .object "TreePeers$Draws"
  | 9 => .object "TreePeers$Reader"
  | 10 => .object "TreePeers$ClusterText"
  | 11 => .object "TreePeers$Book"
  | 12 => .array .int
  | 13 => .int
  | 14 => .array .byte
  | 15 => .int
  | 16 => .int
  | _ => .int
abbrev wsX110 : List Cond := u_ws RX11 TX11 18
theorem nmX11 : ∀ a, a < 18 → ∀ b, b < 18 → a ≠ b → (TX11 a).2.1 ≠ (TX11 b).2.1 := by decide +kernel
theorem tyX11_ok : ∀ k, k < 18 → parseFieldDescriptor (TX11 k).2.2.1 = some (tyX11 k) := by decide +kernel
abbrev cX11_init : ByteArray := prog_1_method_1_code
def yX11_init : MethodName := ⟨RX11, "<init>", "()V"⟩
abbrev cX11_feed : ByteArray := prog_1_method_2_code
def yX11_feed : MethodName := ⟨RX11, "feed", "(IIIII)I"⟩
abbrev cX11_feedNumber : ByteArray := prog_1_method_3_code
def yX11_feedNumber : MethodName := ⟨RX11, "feedNumber", "(I)V"⟩
abbrev cX11_end : ByteArray := prog_1_method_4_code
def yX11_end : MethodName := ⟨RX11, "end", "(I)Z"⟩
abbrev cX11_cluster : ByteArray := prog_1_method_5_code
def yX11_cluster : MethodName := ⟨RX11, "cluster", "()I"⟩
abbrev cX11_closeText : ByteArray := prog_1_method_6_code
def yX11_closeText : MethodName := ⟨RX11, "closeText", "(I)V"⟩
abbrev cX11_fault : ByteArray := prog_1_method_7_code
def yX11_fault : MethodName := ⟨RX11, "fault", "()I"⟩
abbrev cX11_faultLine : ByteArray := prog_1_method_8_code
def yX11_faultLine : MethodName := ⟨RX11, "faultLine", "()I"⟩
abbrev cX11_key : ByteArray := prog_1_method_9_code
def yX11_key : MethodName := ⟨RX11, "key", "(II)I"⟩
abbrev cX11_digest : ByteArray := prog_1_method_10_code
def yX11_digest : MethodName := ⟨RX11, "digest", "(I)I"⟩
abbrev cX11_peer : ByteArray := prog_1_method_11_code
def yX11_peer : MethodName := ⟨RX11, "peer", "(II)I"⟩
abbrev cX11_root : ByteArray := prog_1_method_12_code
def yX11_root : MethodName := ⟨RX11, "root", "(I)I"⟩
abbrev cX11_entry : ByteArray := prog_1_method_13_code
def yX11_entry : MethodName := ⟨RX11, "entry", "(III)I"⟩
abbrev cX11_node : ByteArray := prog_1_method_14_code
def yX11_node : MethodName := ⟨RX11, "node", "(III)I"⟩
abbrev cX11_now : ByteArray := prog_1_method_15_code
def yX11_now : MethodName := ⟨RX11, "now", "(I)I"⟩
abbrev cX11_put : ByteArray := prog_1_method_16_code
def yX11_put : MethodName := ⟨RX11, "put", "(III)I"⟩
abbrev cX11_drop : ByteArray := prog_1_method_17_code
def yX11_drop : MethodName := ⟨RX11, "drop", "(II)I"⟩
abbrev cX11_pull : ByteArray := prog_1_method_18_code
def yX11_pull : MethodName := ⟨RX11, "pull", "(II)I"⟩
abbrev cX11_cut : ByteArray := prog_1_method_19_code
def yX11_cut : MethodName := ⟨RX11, "cut", "(II)I"⟩
abbrev cX11_heal : ByteArray := prog_1_method_20_code
def yX11_heal : MethodName := ⟨RX11, "heal", "(II)I"⟩
abbrev cX11_keepIfDone : ByteArray := prog_1_method_21_code
def yX11_keepIfDone : MethodName := ⟨RX11, "keepIfDone", "(I)I"⟩
abbrev cX11_undo : ByteArray := prog_1_method_22_code
def yX11_undo : MethodName := ⟨RX11, "undo", "()I"⟩
abbrev cX11_visits : ByteArray := prog_1_method_23_code
def yX11_visits : MethodName := ⟨RX11, "visits", "(II)I"⟩
abbrev cX11_differs : ByteArray := prog_1_method_24_code
def yX11_differs : MethodName := ⟨RX11, "differs", "(II)I"⟩
abbrev cX11_offers : ByteArray := prog_1_method_25_code
def yX11_offers : MethodName := ⟨RX11, "offers", "(II)I"⟩
abbrev cX11_offerAt : ByteArray := prog_1_method_26_code
def yX11_offerAt : MethodName := ⟨RX11, "offerAt", "(I)I"⟩
abbrev cX11_fresh : ByteArray := prog_1_method_27_code
def yX11_fresh : MethodName := ⟨RX11, "fresh", "(III)I"⟩
abbrev cX11_pulls : ByteArray := prog_1_method_28_code
def yX11_pulls : MethodName := ⟨RX11, "pulls", "(II)I"⟩
abbrev cX11_path : ByteArray := prog_1_method_29_code
def yX11_path : MethodName := ⟨RX11, "path", "(II)I"⟩
abbrev cX11_mean : ByteArray := prog_1_method_30_code
def yX11_mean : MethodName := ⟨RX11, "mean", "(II)I"⟩
abbrev cX11_part : ByteArray := prog_1_method_31_code
def yX11_part : MethodName := ⟨RX11, "part", "(III)I"⟩
abbrev cX11_termOf : ByteArray := prog_1_method_32_code
def yX11_termOf : MethodName := ⟨RX11, "termOf", "(III)I"⟩
abbrev cX11_tag : ByteArray := prog_1_method_33_code
def yX11_tag : MethodName := ⟨RX11, "tag", "(I)I"⟩
abbrev cX11_byteAt : ByteArray := prog_1_method_34_code
def yX11_byteAt : MethodName := ⟨RX11, "byteAt", "(I)I"⟩
abbrev cX11_addByte : ByteArray := prog_1_method_35_code
def yX11_addByte : MethodName := ⟨RX11, "addByte", "(I)V"⟩
abbrev cX11_addName : ByteArray := prog_1_method_36_code
def yX11_addName : MethodName := ⟨RX11, "addName", "(J)V"⟩
abbrev cX11_addText : ByteArray := prog_1_method_37_code
def yX11_addText : MethodName := ⟨RX11, "addText", "(Ljava/lang/String;)V"⟩
abbrev cX11_addNumber : ByteArray := prog_1_method_38_code
def yX11_addNumber : MethodName := ⟨RX11, "addNumber", "(I)V"⟩
abbrev cX11_drawn : ByteArray := prog_1_method_39_code
def yX11_drawn : MethodName := ⟨RX11, "drawn", "(II)I"⟩
abbrev cX11_refused : ByteArray := prog_1_method_40_code
def yX11_refused : MethodName := ⟨RX11, "refused", "(I)I"⟩
abbrev cX11_odds : ByteArray := prog_1_method_41_code
def yX11_odds : MethodName := ⟨RX11, "odds", "(II)I"⟩
abbrev cX11_book : ByteArray := prog_1_method_42_code
def yX11_book : MethodName := ⟨RX11, "book", "(I)I"⟩
abbrev cX11_told : ByteArray := prog_1_method_43_code
def yX11_told : MethodName := ⟨RX11, "told", "(I)I"⟩
abbrev cX11_sentence : ByteArray := prog_1_method_44_code
def yX11_sentence : MethodName := ⟨RX11, "sentence", "()I"⟩
abbrev cX11_said : ByteArray := prog_1_method_45_code
def yX11_said : MethodName := ⟨RX11, "said", "(I)I"⟩
abbrev cX11_image : ByteArray := prog_1_method_46_code
def yX11_image : MethodName := ⟨RX11, "image", "(I)Z"⟩
abbrev cX11_restore : ByteArray := prog_1_method_47_code
def yX11_restore : MethodName := ⟨RX11, "restore", "(I)Z"⟩
abbrev cX11_count : ByteArray := prog_1_method_48_code
def yX11_count : MethodName := ⟨RX11, "count", "(I)I"⟩
abbrev cX11_isKey : ByteArray := prog_1_method_49_code
def yX11_isKey : MethodName := ⟨RX11, "isKey", "(I)Z"⟩
abbrev cX11_isPeer : ByteArray := prog_1_method_50_code
def yX11_isPeer : MethodName := ⟨RX11, "isPeer", "(I)Z"⟩
abbrev cX11_areTwo : ByteArray := prog_1_method_51_code
def yX11_areTwo : MethodName := ⟨RX11, "areTwo", "(II)Z"⟩
abbrev cX11_mix : ByteArray := prog_1_method_52_code
def yX11_mix : MethodName := ⟨RX11, "mix", "(II)I"⟩
def RX12 : String := "TreePeersModel"
def TX12 : u_T := fun k => match k with
  | 0 => ("TreePeersModel", "thrown", "I", false)
  | 1 => ("TreePeersModel", "tape", "[I", true)
  | 2 => ("TreePeersModel", "taped", "I", false)
  | 3 => ("TreePeersModel", "size", "I", false)
  | 4 => ("TreePeersModel", "limit", "I", false)
  | 5 => ("TreePeersModel", "to", "I", false)
  | 6 => ("TreePeersModel", "from", "I", false)
  | 7 => ("TreePeersModel", "kind", "I", false)
  | 8 => ("TreePeersModel", "number", "I", false)
  | 9 => ("TreePeersModel", "sign", "I", false)
  | 10 => ("TreePeersModel", "fault", "I", false)
  | 11 => ("TreePeersModel", "place", "I", false)
  | 12 => ("TreePeersModel", "word", "J", false)
  | 13 => ("TreePeersModel", "told", "I", false)
  | 14 => ("TreePeersModel", "now", "[I", true)
  | 15 => ("TreePeersModel", "read", "[I", true)
  | 16 => ("TreePeersModel", "kept", "[I", true)
  | 17 => ("TreePeersModel", "snaps", "[I", true)
  | 18 => ("TreePeersModel", "aside", "[I", true)
  | 19 => ("TreePeersModel", "then", "[I", true)
  | 20 => ("TreePeersModel", "name", "[J", true)
  | 21 => ("TreePeersModel", "readName", "[J", true)
  | 22 => ("TreePeersModel", "keptName", "[J", true)
  | 23 => ("TreePeersModel", "isKept", "[Z", true)
  | 24 => ("TreePeersModel", "once", "[Z", true)
  | 25 => ("TreePeersModel", "snapMany", "I", false)
  | 26 => ("TreePeersModel", "lineNow", "I", false)
  | 27 => ("TreePeersModel", "faultIn", "I", false)
  | 28 => ("TreePeersModel", "keyDigest", "[I", true)
  | 29 => ("TreePeersModel", "keyLevel", "[I", true)
  | 30 => ("TreePeersModel", "ordered", "[I", true)
  | 31 => ("TreePeersModel", "orderOf", "[I", true)
  | 32 => ("TreePeersModel", "nodesOf", "[I", true)
  | 33 => ("TreePeersModel", "nodeLevel", "[I", true)
  | 34 => ("TreePeersModel", "nodeKeys", "[I", true)
  | 35 => ("TreePeersModel", "nodeFirst", "[I", true)
  | 36 => ("TreePeersModel", "nodeLast", "[I", true)
  | 37 => ("TreePeersModel", "below", "[I", true)
  | 38 => ("TreePeersModel", "above", "[I", true)
  | 39 => ("TreePeersModel", "nodeDigest", "[I", true)
  | 40 => ("TreePeersModel", "pathOf", "[I", true)
  | 41 => ("TreePeersModel", "offered", "[I", true)
  | 42 => ("TreePeersModel", "toldOffers", "[I", true)
  | 43 => ("TreePeersModel", "offeredMany", "I", false)
  | 44 => ("TreePeersModel", "toldMany", "I", false)
  | 45 => ("TreePeersModel", "text", "[I", true)
  | 46 => ("TreePeersModel", "texts", "I", false)
  | 47 => ("TreePeersModel", "refusals", "[I", true)
  | 48 => ("TreePeersModel", "toldRefusals", "[I", true)
  | 49 => ("TreePeersModel", "hasRefused", "Z", false)
  | 50 => ("TreePeersModel", "seed", "I", false)
  | 51 => ("TreePeersModel", "line", "[I", true)
  | 52 => ("TreePeersModel", "written", "[I", true)
  | 53 => ("TreePeersModel", "lineMany", "I", false)
  | 54 => ("TreePeersModel", "hasWritten", "Z", false)
  | 55 => ("TreePeersModel", "node", "[I", true)
  | 56 => ("TreePeersModel", "nodes", "I", false)
  | 57 => ("TreePeersModel", "onesMany", "I", false)
  | 58 => ("TreePeersModel", "within", "I", false)
  | _ => ("TreePeersModel", "top", "I", false)
def tyX12 : Nat → FieldType := fun k => match k with
  | 0 => .int
  | 1 => .array .int
  | 2 => .int
  | 3 => .int
  | 4 => .int
  | 5 => .int
  | 6 => .int
  | 7 => .int
  | 8 => .int
  | 9 => .int
  | 10 => .int
  | 11 => .int
  | 12 => .long
  | 13 => .int
  | 14 => .array .int
  | 15 => .array .int
  | 16 => .array .int
  | 17 => .array .int
  | 18 => .array .int
  | 19 => .array .int
  | 20 => .array .long
  | 21 => .array .long
  | 22 => .array .long
  | 23 => .array .boolean
  | 24 => .array .boolean
  | 25 => .int
  | 26 => .int
  | 27 => .int
  | 28 => .array .int
  | 29 => .array .int
  | 30 => .array .int
  | 31 => .array .int
  | 32 => .array .int
  | 33 => .array .int
  | 34 => .array .int
  | 35 => .array .int
  | 36 => .array .int
  | 37 => .array .int
  | 38 => .array .int
  | 39 => .array .int
  | 40 => .array .int
  | 41 => .array .int
  | 42 => .array .int
  | 43 => .int
  | 44 => .int
  | 45 => .array .int
  | 46 => .int
  | 47 => .array .int
  | 48 => .array .int
  | 49 => .boolean
  | 50 => .int
  | 51 => .array .int
  | 52 => .array .int
  | 53 => .int
  | 54 => .boolean
  | 55 => .array .int
  | 56 => .int
  | 57 => .int
  | 58 => .int
  | _ => .int
abbrev wsX120 : List Cond := u_ws RX12 TX12 60
theorem nmX12 : ∀ a, a < 60 → ∀ b, b < 60 → a ≠ b → (TX12 a).2.1 ≠ (TX12 b).2.1 := by decide +kernel
theorem tyX12_ok : ∀ k, k < 60 → parseFieldDescriptor (TX12 k).2.2.1 = some (tyX12 k) := by decide +kernel
abbrev cX12_thrown : ByteArray := prog_14_method_1_code
def yX12_thrown : MethodName := ⟨RX12, "thrown", "()I"⟩
abbrev cX12_refuse : ByteArray := prog_14_method_2_code
def yX12_refuse : MethodName := ⟨RX12, "refuse", "()I"⟩
abbrev cX12_come : ByteArray := prog_14_method_3_code
def yX12_come : MethodName := ⟨RX12, "come", "(I)V"⟩
abbrev cX12_feed : ByteArray := prog_14_method_4_code
def yX12_feed : MethodName := ⟨RX12, "feed", "(IIIII)I"⟩
abbrev cX12_end : ByteArray := prog_14_method_5_code
def yX12_end : MethodName := ⟨RX12, "end", "(I)Z"⟩
abbrev cX12_take : ByteArray := prog_14_method_6_code
def yX12_take : MethodName := ⟨RX12, "take", "()I"⟩
abbrev cX12_isIn : ByteArray := prog_14_method_7_code
def yX12_isIn : MethodName := ⟨RX12, "isIn", "(III)Z"⟩
abbrev cX12_has : ByteArray := prog_14_method_8_code
def yX12_has : MethodName := ⟨RX12, "has", "(II)Z"⟩
abbrev cX12_bits : ByteArray := prog_14_method_9_code
def yX12_bits : MethodName := ⟨RX12, "bits", "(I)I"⟩
abbrev cX12_least : ByteArray := prog_14_method_10_code
def yX12_least : MethodName := ⟨RX12, "least", "(II)I"⟩
abbrev cX12_common : ByteArray := prog_14_method_12_code
def yX12_common : MethodName := ⟨RX12, "common", "(II)I"⟩
abbrev cX12_tapeAt : ByteArray := prog_14_method_13_code
def yX12_tapeAt : MethodName := ⟨RX12, "tapeAt", "(I)I"⟩
abbrev cX12_isDigit : ByteArray := prog_14_method_14_code
def yX12_isDigit : MethodName := ⟨RX12, "isDigit", "(I)Z"⟩
abbrev cX12_isLetter : ByteArray := prog_14_method_15_code
def yX12_isLetter : MethodName := ⟨RX12, "isLetter", "(I)Z"⟩
abbrev cX12_go : ByteArray := prog_14_method_16_code
def yX12_go : MethodName := ⟨RX12, "go", "()V"⟩
abbrev cX12_spelt : ByteArray := prog_14_method_17_code
def yX12_spelt : MethodName := ⟨RX12, "spelt", "(IIIIII)J"⟩
abbrev cX12_wordOf : ByteArray := prog_14_method_18_code
def yX12_wordOf : MethodName := ⟨RX12, "wordOf", "(I)J"⟩
abbrev cX12_isWord : ByteArray := prog_14_method_19_code
def yX12_isWord : MethodName := ⟨RX12, "isWord", "(I)Z"⟩
abbrev cX12_isSign : ByteArray := prog_14_method_20_code
def yX12_isSign : MethodName := ⟨RX12, "isSign", "(I)Z"⟩
abbrev cX12_isName : ByteArray := prog_14_method_21_code
def yX12_isName : MethodName := ⟨RX12, "isName", "()Z"⟩
abbrev cX12_bad : ByteArray := prog_14_method_22_code
def yX12_bad : MethodName := ⟨RX12, "bad", "(I)Z"⟩
abbrev cX12_readNumber : ByteArray := prog_14_method_23_code
def yX12_readNumber : MethodName := ⟨RX12, "readNumber", "(II)Z"⟩
abbrev cX12_readEnd : ByteArray := prog_14_method_24_code
def yX12_readEnd : MethodName := ⟨RX12, "readEnd", "()Z"⟩
abbrev cX12_begin : ByteArray := prog_14_method_25_code
def yX12_begin : MethodName := ⟨RX12, "begin", "(I)V"⟩
abbrev cX12_init : ByteArray := prog_14_method_26_code
def yX12_init : MethodName := ⟨RX12, "<init>", "()V"⟩
abbrev cX12_startSo : ByteArray := prog_14_method_27_code
def yX12_startSo : MethodName := ⟨RX12, "startSo", "()V"⟩
abbrev cX12_findIn : ByteArray := prog_14_method_28_code
def yX12_findIn : MethodName := ⟨RX12, "findIn", "([JIIJ)I"⟩
abbrev cX12_readNew : ByteArray := prog_14_method_29_code
def yX12_readNew : MethodName := ⟨RX12, "readNew", "(I)Z"⟩
abbrev cX12_readFirst : ByteArray := prog_14_method_30_code
def yX12_readFirst : MethodName := ⟨RX12, "readFirst", "(II)Z"⟩
abbrev cX12_noted : ByteArray := prog_14_method_31_code
def yX12_noted : MethodName := ⟨RX12, "noted", "(IZ)Z"⟩
abbrev cX12_isFresh : ByteArray := prog_14_method_32_code
def yX12_isFresh : MethodName := ⟨RX12, "isFresh", "(I)Z"⟩
abbrev cX12_readRule : ByteArray := prog_14_method_33_code
def yX12_readRule : MethodName := ⟨RX12, "readRule", "()Z"⟩
abbrev cX12_readKey : ByteArray := prog_14_method_34_code
def yX12_readKey : MethodName := ⟨RX12, "readKey", "()Z"⟩
abbrev cX12_readPeer : ByteArray := prog_14_method_35_code
def yX12_readPeer : MethodName := ⟨RX12, "readPeer", "()Z"⟩
abbrev cX12_isHere : ByteArray := prog_14_method_36_code
def yX12_isHere : MethodName := ⟨RX12, "isHere", "(II)Z"⟩
abbrev cX12_readHas : ByteArray := prog_14_method_37_code
def yX12_readHas : MethodName := ⟨RX12, "readHas", "()Z"⟩
abbrev cX12_readCut : ByteArray := prog_14_method_38_code
def yX12_readCut : MethodName := ⟨RX12, "readCut", "()Z"⟩
abbrev cX12_readLine : ByteArray := prog_14_method_39_code
def yX12_readLine : MethodName := ⟨RX12, "readLine", "()Z"⟩
abbrev cX12_cluster : ByteArray := prog_14_method_40_code
def yX12_cluster : MethodName := ⟨RX12, "cluster", "()I"⟩
abbrev cX12_fault : ByteArray := prog_14_method_41_code
def yX12_fault : MethodName := ⟨RX12, "fault", "()I"⟩
abbrev cX12_faultLine : ByteArray := prog_14_method_42_code
def yX12_faultLine : MethodName := ⟨RX12, "faultLine", "()I"⟩
abbrev cX12_mix : ByteArray := prog_14_method_43_code
def yX12_mix : MethodName := ⟨RX12, "mix", "(II)I"⟩
abbrev cX12_letters : ByteArray := prog_14_method_44_code
def yX12_letters : MethodName := ⟨RX12, "letters", "(J)I"⟩
abbrev cX12_long7 : ByteArray := prog_14_method_45_code
def yX12_long7 : MethodName := ⟨RX12, "long7", "(J)J"⟩
abbrev cX12_digestOf : ByteArray := prog_14_method_46_code
def yX12_digestOf : MethodName := ⟨RX12, "digestOf", "(J)I"⟩
abbrev cX12_zeros : ByteArray := prog_14_method_47_code
def yX12_zeros : MethodName := ⟨RX12, "zeros", "(I)I"⟩
abbrev cX12_layKeys : ByteArray := prog_14_method_48_code
def yX12_layKeys : MethodName := ⟨RX12, "layKeys", "()V"⟩
abbrev cX12_isKey : ByteArray := prog_14_method_49_code
def yX12_isKey : MethodName := ⟨RX12, "isKey", "(I)Z"⟩
abbrev cX12_isPeer : ByteArray := prog_14_method_50_code
def yX12_isPeer : MethodName := ⟨RX12, "isPeer", "(I)Z"⟩
abbrev cX12_areTwo : ByteArray := prog_14_method_51_code
def yX12_areTwo : MethodName := ⟨RX12, "areTwo", "(II)Z"⟩
abbrev cX12_at : ByteArray := prog_14_method_52_code
def yX12_at : MethodName := ⟨RX12, "at", "(II)I"⟩
abbrev cX12_hasEntry : ByteArray := prog_14_method_53_code
def yX12_hasEntry : MethodName := ⟨RX12, "hasEntry", "(II)Z"⟩
abbrev cX12_entryDigest : ByteArray := prog_14_method_54_code
def yX12_entryDigest : MethodName := ⟨RX12, "entryDigest", "(II)I"⟩
abbrev cX12_areSame : ByteArray := prog_14_method_55_code
def yX12_areSame : MethodName := ⟨RX12, "areSame", "(III)Z"⟩
abbrev cX12_greatest : ByteArray := prog_14_method_56_code
def yX12_greatest : MethodName := ⟨RX12, "greatest", "(III)I"⟩
abbrev cX12_layNodes : ByteArray := prog_14_method_57_code
def yX12_layNodes : MethodName := ⟨RX12, "layNodes", "(IIIIII)I"⟩
abbrev cX12_layTree : ByteArray := prog_14_method_58_code
def yX12_layTree : MethodName := ⟨RX12, "layTree", "(II)I"⟩
abbrev cX12_rootOf : ByteArray := prog_14_method_59_code
def yX12_rootOf : MethodName := ⟨RX12, "rootOf", "(I)I"⟩
abbrev cX12_isDigest : ByteArray := prog_14_method_60_code
def yX12_isDigest : MethodName := ⟨RX12, "isDigest", "(II)Z"⟩
abbrev cX12_visited : ByteArray := prog_14_method_61_code
def yX12_visited : MethodName := ⟨RX12, "visited", "()I"⟩
abbrev cX12_visitedOf : ByteArray := prog_14_method_62_code
def yX12_visitedOf : MethodName := ⟨RX12, "visitedOf", "(II)I"⟩
abbrev cX12_entriesOf : ByteArray := prog_14_method_63_code
def yX12_entriesOf : MethodName := ⟨RX12, "entriesOf", "(I)I"⟩
abbrev cX12_goneOf : ByteArray := prog_14_method_64_code
def yX12_goneOf : MethodName := ⟨RX12, "goneOf", "(I)I"⟩
abbrev cX12_rootsLike : ByteArray := prog_14_method_65_code
def yX12_rootsLike : MethodName := ⟨RX12, "rootsLike", "(I)I"⟩
abbrev cX12_rootMany : ByteArray := prog_14_method_66_code
def yX12_rootMany : MethodName := ⟨RX12, "rootMany", "()I"⟩
abbrev cX12_isTorn : ByteArray := prog_14_method_67_code
def yX12_isTorn : MethodName := ⟨RX12, "isTorn", "(I)Z"⟩
abbrev cX12_key : ByteArray := prog_14_method_68_code
def yX12_key : MethodName := ⟨RX12, "key", "(II)I"⟩
abbrev cX12_digest : ByteArray := prog_14_method_69_code
def yX12_digest : MethodName := ⟨RX12, "digest", "(I)I"⟩
abbrev cX12_peer : ByteArray := prog_14_method_70_code
def yX12_peer : MethodName := ⟨RX12, "peer", "(II)I"⟩
abbrev cX12_root : ByteArray := prog_14_method_71_code
def yX12_root : MethodName := ⟨RX12, "root", "(I)I"⟩
abbrev cX12_entry : ByteArray := prog_14_method_72_code
def yX12_entry : MethodName := ⟨RX12, "entry", "(III)I"⟩
abbrev cX12_node : ByteArray := prog_14_method_73_code
def yX12_node : MethodName := ⟨RX12, "node", "(III)I"⟩
abbrev cX12_now : ByteArray := prog_14_method_74_code
def yX12_now : MethodName := ⟨RX12, "now", "(I)I"⟩
abbrev cX12_wins : ByteArray := prog_14_method_75_code
def yX12_wins : MethodName := ⟨RX12, "wins", "(IIII)Z"⟩
abbrev cX12_worthLeast : ByteArray := prog_14_method_76_code
def yX12_worthLeast : MethodName := ⟨RX12, "worthLeast", "(I)I"⟩
abbrev cX12_isOffer : ByteArray := prog_14_method_77_code
def yX12_isOffer : MethodName := ⟨RX12, "isOffer", "(III)Z"⟩
abbrev cX12_layOffers : ByteArray := prog_14_method_78_code
def yX12_layOffers : MethodName := ⟨RX12, "layOffers", "(II)V"⟩
abbrev cX12_offers : ByteArray := prog_14_method_79_code
def yX12_offers : MethodName := ⟨RX12, "offers", "(II)I"⟩
abbrev cX12_offerAt : ByteArray := prog_14_method_80_code
def yX12_offerAt : MethodName := ⟨RX12, "offerAt", "(I)I"⟩
abbrev cX12_visits : ByteArray := prog_14_method_81_code
def yX12_visits : MethodName := ⟨RX12, "visits", "(II)I"⟩
abbrev cX12_differs : ByteArray := prog_14_method_82_code
def yX12_differs : MethodName := ⟨RX12, "differs", "(II)I"⟩
abbrev cX12_save : ByteArray := prog_14_method_83_code
def yX12_save : MethodName := ⟨RX12, "save", "([II)V"⟩
abbrev cX12_comeBack : ByteArray := prog_14_method_84_code
def yX12_comeBack : MethodName := ⟨RX12, "comeBack", "([II)V"⟩
abbrev cX12_snap : ByteArray := prog_14_method_85_code
def yX12_snap : MethodName := ⟨RX12, "snap", "()V"⟩
abbrev cX12_areCut : ByteArray := prog_14_method_86_code
def yX12_areCut : MethodName := ⟨RX12, "areCut", "(II)Z"⟩
abbrev cX12_whyPull : ByteArray := prog_14_method_87_code
def yX12_whyPull : MethodName := ⟨RX12, "whyPull", "(II)I"⟩
abbrev cX12_why : ByteArray := prog_14_method_88_code
def yX12_why : MethodName := ⟨RX12, "why", "(IIII)I"⟩
abbrev cX12_write : ByteArray := prog_14_method_89_code
def yX12_write : MethodName := ⟨RX12, "write", "(III)V"⟩
abbrev cX12_comesOver : ByteArray := prog_14_method_90_code
def yX12_comesOver : MethodName := ⟨RX12, "comesOver", "(II)V"⟩
abbrev cX12_live : ByteArray := prog_14_method_91_code
def yX12_live : MethodName := ⟨RX12, "live", "(IIII)V"⟩
abbrev cX12_act : ByteArray := prog_14_method_92_code
def yX12_act : MethodName := ⟨RX12, "act", "(IIIIZ)I"⟩
abbrev cX12_put : ByteArray := prog_14_method_93_code
def yX12_put : MethodName := ⟨RX12, "put", "(III)I"⟩
abbrev cX12_drop : ByteArray := prog_14_method_94_code
def yX12_drop : MethodName := ⟨RX12, "drop", "(II)I"⟩
abbrev cX12_pull : ByteArray := prog_14_method_95_code
def yX12_pull : MethodName := ⟨RX12, "pull", "(II)I"⟩
abbrev cX12_cut : ByteArray := prog_14_method_96_code
def yX12_cut : MethodName := ⟨RX12, "cut", "(II)I"⟩
abbrev cX12_heal : ByteArray := prog_14_method_97_code
def yX12_heal : MethodName := ⟨RX12, "heal", "(II)I"⟩
abbrev cX12_undo : ByteArray := prog_14_method_98_code
def yX12_undo : MethodName := ⟨RX12, "undo", "()I"⟩
abbrev cX12_fresh : ByteArray := prog_14_method_99_code
def yX12_fresh : MethodName := ⟨RX12, "fresh", "(III)I"⟩
abbrev cX12_pulls : ByteArray := prog_14_method_100_code
def yX12_pulls : MethodName := ⟨RX12, "pulls", "(II)I"⟩
abbrev cX12_path : ByteArray := prog_14_method_101_code
def yX12_path : MethodName := ⟨RX12, "path", "(II)I"⟩
abbrev cX12_fraction : ByteArray := prog_14_method_102_code
def yX12_fraction : MethodName := ⟨RX12, "fraction", "(III)I"⟩
abbrev cX12_mean : ByteArray := prog_14_method_103_code
def yX12_mean : MethodName := ⟨RX12, "mean", "(II)I"⟩
abbrev cX12_part : ByteArray := prog_14_method_104_code
def yX12_part : MethodName := ⟨RX12, "part", "(III)I"⟩
abbrev cX12_say : ByteArray := prog_14_method_105_code
def yX12_say : MethodName := ⟨RX12, "say", "(I)V"⟩
abbrev cX12_sayWord : ByteArray := prog_14_method_106_code
def yX12_sayWord : MethodName := ⟨RX12, "sayWord", "(J)V"⟩
abbrev cX12_sayNext : ByteArray := prog_14_method_107_code
def yX12_sayNext : MethodName := ⟨RX12, "sayNext", "(J)V"⟩
abbrev cX12_sayNumber : ByteArray := prog_14_method_108_code
def yX12_sayNumber : MethodName := ⟨RX12, "sayNumber", "(I)V"⟩
abbrev cX12_tag : ByteArray := prog_14_method_109_code
def yX12_tag : MethodName := ⟨RX12, "tag", "(I)I"⟩
abbrev cX12_byteAt : ByteArray := prog_14_method_110_code
def yX12_byteAt : MethodName := ⟨RX12, "byteAt", "(I)I"⟩
abbrev cX12_draw : ByteArray := prog_14_method_111_code
def yX12_draw : MethodName := ⟨RX12, "draw", "(I)I"⟩
abbrev cX12_doIf : ByteArray := prog_14_method_112_code
def yX12_doIf : MethodName := ⟨RX12, "doIf", "(IIII)V"⟩
abbrev cX12_drawsRound : ByteArray := prog_14_method_113_code
def yX12_drawsRound : MethodName := ⟨RX12, "drawsRound", "()V"⟩
abbrev cX12_isBare : ByteArray := prog_14_method_114_code
def yX12_isBare : MethodName := ⟨RX12, "isBare", "()Z"⟩
abbrev cX12_drawRounds : ByteArray := prog_14_method_115_code
def yX12_drawRounds : MethodName := ⟨RX12, "drawRounds", "(II)V"⟩
abbrev cX12_drawn : ByteArray := prog_14_method_116_code
def yX12_drawn : MethodName := ⟨RX12, "drawn", "(II)I"⟩
abbrev cX12_refused : ByteArray := prog_14_method_117_code
def yX12_refused : MethodName := ⟨RX12, "refused", "(I)I"⟩
abbrev cX12_odds : ByteArray := prog_14_method_118_code
def yX12_odds : MethodName := ⟨RX12, "odds", "(II)I"⟩
abbrev cX12_keep : ByteArray := prog_14_method_119_code
def yX12_keep : MethodName := ⟨RX12, "keep", "(IZ)Z"⟩
abbrev cX12_readNamed : ByteArray := prog_14_method_120_code
def yX12_readNamed : MethodName := ⟨RX12, "readNamed", "(II)Z"⟩
abbrev cX12_readPeerName : ByteArray := prog_14_method_121_code
def yX12_readPeerName : MethodName := ⟨RX12, "readPeerName", "()Z"⟩
abbrev cX12_readOther : ByteArray := prog_14_method_122_code
def yX12_readOther : MethodName := ⟨RX12, "readOther", "(I)Z"⟩
abbrev cX12_readBookLine : ByteArray := prog_14_method_123_code
def yX12_readBookLine : MethodName := ⟨RX12, "readBookLine", "()Z"⟩
abbrev cX12_goBy : ByteArray := prog_14_method_124_code
def yX12_goBy : MethodName := ⟨RX12, "goBy", "(I)I"⟩
abbrev cX12_book : ByteArray := prog_14_method_125_code
def yX12_book : MethodName := ⟨RX12, "book", "(I)I"⟩
abbrev cX12_stay : ByteArray := prog_14_method_126_code
def yX12_stay : MethodName := ⟨RX12, "stay", "(Z)V"⟩
abbrev cX12_told : ByteArray := prog_14_method_127_code
def yX12_told : MethodName := ⟨RX12, "told", "(I)I"⟩
abbrev cX12_copiesOf : ByteArray := prog_14_method_128_code
def yX12_copiesOf : MethodName := ⟨RX12, "copiesOf", "(I)I"⟩
abbrev cX12_latestOf : ByteArray := prog_14_method_129_code
def yX12_latestOf : MethodName := ⟨RX12, "latestOf", "(I)I"⟩
abbrev cX12_saysOne : ByteArray := prog_14_method_130_code
def yX12_saysOne : MethodName := ⟨RX12, "saysOne", "(IIII)I"⟩
abbrev cX12_readOr : ByteArray := prog_14_method_131_code
def yX12_readOr : MethodName := ⟨RX12, "readOr", "()Z"⟩
abbrev cX12_readAnd : ByteArray := prog_14_method_132_code
def yX12_readAnd : MethodName := ⟨RX12, "readAnd", "()Z"⟩
abbrev cX12_readSaid : ByteArray := prog_14_method_133_code
def yX12_readSaid : MethodName := ⟨RX12, "readSaid", "()Z"⟩
abbrev cX12_readNot : ByteArray := prog_14_method_134_code
def yX12_readNot : MethodName := ⟨RX12, "readNot", "()Z"⟩
abbrev cX12_readBracket : ByteArray := prog_14_method_135_code
def yX12_readBracket : MethodName := ⟨RX12, "readBracket", "()Z"⟩
abbrev cX12_readOf : ByteArray := prog_14_method_136_code
def yX12_readOf : MethodName := ⟨RX12, "readOf", "(I)Z"⟩
abbrev cX12_readCompare : ByteArray := prog_14_method_137_code
def yX12_readCompare : MethodName := ⟨RX12, "readCompare", "(I)Z"⟩
abbrev cX12_sentence : ByteArray := prog_14_method_138_code
def yX12_sentence : MethodName := ⟨RX12, "sentence", "()I"⟩
abbrev cX12_holds : ByteArray := prog_14_method_139_code
def yX12_holds : MethodName := ⟨RX12, "holds", "(II)Z"⟩
abbrev cX12_said : ByteArray := prog_14_method_140_code
def yX12_said : MethodName := ⟨RX12, "said", "(I)I"⟩
abbrev cX12_image : ByteArray := prog_14_method_141_code
def yX12_image : MethodName := ⟨RX12, "image", "(I)Z"⟩
abbrev cX12_restore : ByteArray := prog_14_method_142_code
def yX12_restore : MethodName := ⟨RX12, "restore", "(I)Z"⟩
abbrev cX12_count : ByteArray := prog_14_method_143_code
def yX12_count : MethodName := ⟨RX12, "count", "(I)I"⟩
def RJx145de : String := "java/io/Serializable"
def TJx145de : u_T := fun k => match k with
  | _ => ("", "", "", false)
def tyJx145de : Nat → FieldType := fun k => match k with
  | _ => .int
abbrev wsJx145de0 : List Cond := u_ws RJx145de TJx145de 0
theorem nmJx145de : ∀ a, a < 0 → ∀ b, b < 0 → a ≠ b → (TJx145de a).2.1 ≠ (TJx145de b).2.1 := by decide +kernel
theorem tyJx145de_ok : ∀ k, k < 0 → parseFieldDescriptor (TJx145de k).2.2.1 = some (tyJx145de k) := by decide +kernel
def RJx9f9b0 : String := "java/lang/CharSequence"
def TJx9f9b0 : u_T := fun k => match k with
  | _ => ("", "", "", false)
def tyJx9f9b0 : Nat → FieldType := fun k => match k with
  | _ => .int
abbrev wsJx9f9b00 : List Cond := u_ws RJx9f9b0 TJx9f9b0 0
theorem nmJx9f9b0 : ∀ a, a < 0 → ∀ b, b < 0 → a ≠ b → (TJx9f9b0 a).2.1 ≠ (TJx9f9b0 b).2.1 := by decide +kernel
theorem tyJx9f9b0_ok : ∀ k, k < 0 → parseFieldDescriptor (TJx9f9b0 k).2.2.1 = some (tyJx9f9b0 k) := by decide +kernel
def RJxb160c : String := "java/lang/Comparable"
def TJxb160c : u_T := fun k => match k with
  | _ => ("", "", "", false)
def tyJxb160c : Nat → FieldType := fun k => match k with
  | _ => .int
abbrev wsJxb160c0 : List Cond := u_ws RJxb160c TJxb160c 0
theorem nmJxb160c : ∀ a, a < 0 → ∀ b, b < 0 → a ≠ b → (TJxb160c a).2.1 ≠ (TJxb160c b).2.1 := by decide +kernel
theorem tyJxb160c_ok : ∀ k, k < 0 → parseFieldDescriptor (TJxb160c k).2.2.1 = some (tyJxb160c k) := by decide +kernel
def RJ6 : String := "java/lang/Integer"
def TJ6 : u_T := fun k => match k with
  | _ => ("", "", "", false)
def tyJ6 : Nat → FieldType := fun k => match k with
  | _ => .int
abbrev wsJ60 : List Cond := u_ws RJ6 TJ6 0
theorem nmJ6 : ∀ a, a < 0 → ∀ b, b < 0 → a ≠ b → (TJ6 a).2.1 ≠ (TJ6 b).2.1 := by decide +kernel
theorem tyJ6_ok : ∀ k, k < 0 → parseFieldDescriptor (TJ6 k).2.2.1 = some (tyJ6 k) := by decide +kernel
abbrev cJ6_bitCount_0f7a4 : ByteArray := prog_19_method_49_code
def yJ6_bitCount_0f7a4 : MethodName := ⟨RJ6, "bitCount", "(I)I"⟩
def RJ9 : String := "java/lang/Math"
def TJ9 : u_T := fun k => match k with
  | _ => ("", "", "", false)
def tyJ9 : Nat → FieldType := fun k => match k with
  | _ => .int
abbrev wsJ90 : List Cond := u_ws RJ9 TJ9 0
theorem nmJ9 : ∀ a, a < 0 → ∀ b, b < 0 → a ≠ b → (TJ9 a).2.1 ≠ (TJ9 b).2.1 := by decide +kernel
theorem tyJ9_ok : ∀ k, k < 0 → parseFieldDescriptor (TJ9 k).2.2.1 = some (tyJ9 k) := by decide +kernel
abbrev cJ9_max_7cf53 : ByteArray := prog_20_method_65_code
def yJ9_max_7cf53 : MethodName := ⟨RJ9, "max", "(II)I"⟩
abbrev cJ9_min_7cf53 : ByteArray := prog_20_method_69_code
def yJ9_min_7cf53 : MethodName := ⟨RJ9, "min", "(II)I"⟩
def RJ0 : String := "java/lang/String"
def TJ0 : u_T := fun k => match k with
  | _ => ("", "", "", false)
def tyJ0 : Nat → FieldType := fun k => match k with
  | _ => .int
abbrev wsJ00 : List Cond := u_ws RJ0 TJ0 0
theorem nmJ0 : ∀ a, a < 0 → ∀ b, b < 0 → a ≠ b → (TJ0 a).2.1 ≠ (TJ0 b).2.1 := by decide +kernel
theorem tyJ0_ok : ∀ k, k < 0 → parseFieldDescriptor (TJ0 k).2.2.1 = some (tyJ0 k) := by decide +kernel
abbrev cJ0_length_8abf5 : ByteArray := prog_22_method_54_code
def yJ0_length_8abf5 : MethodName := ⟨RJ0, "length", "()I"⟩
abbrev cJ0_charAt_5068e : ByteArray := prog_22_method_56_code
def yJ0_charAt_5068e : MethodName := ⟨RJ0, "charAt", "(I)C"⟩
abbrev cJ0_coder_7d493 : ByteArray := prog_22_method_152_code
def yJ0_coder_7d493 : MethodName := ⟨RJ0, "coder", "()B"⟩
abbrev cJ0_isLatin1_aae02 : ByteArray := prog_22_method_154_code
def yJ0_isLatin1_aae02 : MethodName := ⟨RJ0, "isLatin1", "()Z"⟩
abbrev cJ0_checkIndex_df160 : ByteArray := prog_22_method_155_code
def yJ0_checkIndex_df160 : MethodName := ⟨RJ0, "checkIndex", "(II)V"⟩
def RJ1 : String := "java/lang/StringLatin1"
def TJ1 : u_T := fun k => match k with
  | _ => ("", "", "", false)
def tyJ1 : Nat → FieldType := fun k => match k with
  | _ => .int
abbrev wsJ10 : List Cond := u_ws RJ1 TJ1 0
theorem nmJ1 : ∀ a, a < 0 → ∀ b, b < 0 → a ≠ b → (TJ1 a).2.1 ≠ (TJ1 b).2.1 := by decide +kernel
theorem tyJ1_ok : ∀ k, k < 0 → parseFieldDescriptor (TJ1 k).2.2.1 = some (tyJ1 k) := by decide +kernel
abbrev cJ1_charAt_3b067 : ByteArray := prog_23_method_2_code
def yJ1_charAt_3b067 : MethodName := ⟨RJ1, "charAt", "([BI)C"⟩
def RJ2 : String := "java/lang/StringUTF16"
def TJ2 : u_T := fun k => match k with
  | _ => ("", "", "", false)
def tyJ2 : Nat → FieldType := fun k => match k with
  | _ => .int
abbrev wsJ20 : List Cond := u_ws RJ2 TJ2 0
theorem nmJ2 : ∀ a, a < 0 → ∀ b, b < 0 → a ≠ b → (TJ2 a).2.1 ≠ (TJ2 b).2.1 := by decide +kernel
theorem tyJ2_ok : ∀ k, k < 0 → parseFieldDescriptor (TJ2 k).2.2.1 = some (tyJ2 k) := by decide +kernel
abbrev cJ2_getChar_3b067 : ByteArray := prog_24_method_5_code
def yJ2_getChar_3b067 : MethodName := ⟨RJ2, "getChar", "([BI)C"⟩
abbrev cJ2_length_9d52b : ByteArray := prog_24_method_6_code
def yJ2_length_9d52b : MethodName := ⟨RJ2, "length", "([B)I"⟩
abbrev cJ2_charAt_3b067 : ByteArray := prog_24_method_83_code
def yJ2_charAt_3b067 : MethodName := ⟨RJ2, "charAt", "([BI)C"⟩
abbrev cJ2_checkIndex_2214a : ByteArray := prog_24_method_91_code
def yJ2_checkIndex_2214a : MethodName := ⟨RJ2, "checkIndex", "(I[B)V"⟩
def RJ10 : String := "java/lang/System"
def TJ10 : u_T := fun k => match k with
  | _ => ("", "", "", false)
def tyJ10 : Nat → FieldType := fun k => match k with
  | _ => .int
abbrev wsJ100 : List Cond := u_ws RJ10 TJ10 0
theorem nmJ10 : ∀ a, a < 0 → ∀ b, b < 0 → a ≠ b → (TJ10 a).2.1 ≠ (TJ10 b).2.1 := by decide +kernel
theorem tyJ10_ok : ∀ k, k < 0 → parseFieldDescriptor (TJ10 k).2.2.1 = some (tyJ10 k) := by decide +kernel
def RJxfd54e : String := "java/lang/constant/Constable"
def TJxfd54e : u_T := fun k => match k with
  | _ => ("", "", "", false)
def tyJxfd54e : Nat → FieldType := fun k => match k with
  | _ => .int
abbrev wsJxfd54e0 : List Cond := u_ws RJxfd54e TJxfd54e 0
theorem nmJxfd54e : ∀ a, a < 0 → ∀ b, b < 0 → a ≠ b → (TJxfd54e a).2.1 ≠ (TJxfd54e b).2.1 := by decide +kernel
theorem tyJxfd54e_ok : ∀ k, k < 0 → parseFieldDescriptor (TJxfd54e k).2.2.1 = some (tyJxfd54e k) := by decide +kernel
def RJx3cf43 : String := "java/lang/constant/ConstantDesc"
def TJx3cf43 : u_T := fun k => match k with
  | _ => ("", "", "", false)
def tyJx3cf43 : Nat → FieldType := fun k => match k with
  | _ => .int
abbrev wsJx3cf430 : List Cond := u_ws RJx3cf43 TJx3cf43 0
theorem nmJx3cf43 : ∀ a, a < 0 → ∀ b, b < 0 → a ≠ b → (TJx3cf43 a).2.1 ≠ (TJx3cf43 b).2.1 := by decide +kernel
theorem tyJx3cf43_ok : ∀ k, k < 0 → parseFieldDescriptor (TJx3cf43 k).2.2.1 = some (tyJx3cf43 k) := by decide +kernel
def RJ3 : String := "jdk/internal/util/Preconditions"
def TJ3 : u_T := fun k => match k with
  | _ => ("", "", "", false)
def tyJ3 : Nat → FieldType := fun k => match k with
  | _ => .int
abbrev wsJ30 : List Cond := u_ws RJ3 TJ3 0
theorem nmJ3 : ∀ a, a < 0 → ∀ b, b < 0 → a ≠ b → (TJ3 a).2.1 ≠ (TJ3 b).2.1 := by decide +kernel
theorem tyJ3_ok : ∀ k, k < 0 → parseFieldDescriptor (TJ3 k).2.2.1 = some (tyJ3 k) := by decide +kernel
abbrev cJ3_checkIndex_8e157 : ByteArray := prog_30_method_11_code
def yJ3_checkIndex_8e157 : MethodName := ⟨RJ3, "checkIndex", "(IILjava/util/function/BiFunction;)I"⟩
def RL : String := "TreePeersLaw"
abbrev cL_digest : ByteArray := method_3_code
def yL_digest : MethodName := ⟨RL, "digest", "(LTreePeers;I[J)I"⟩
abbrev cL_root : ByteArray := method_4_code
def yL_root : MethodName := ⟨RL, "root", "(LTreePeers;I[J)I"⟩
abbrev cL_entry : ByteArray := method_5_code
def yL_entry : MethodName := ⟨RL, "entry", "(LTreePeers;III[J)I"⟩
abbrev cL_node : ByteArray := method_6_code
def yL_node : MethodName := ⟨RL, "node", "(LTreePeers;III[J)I"⟩
abbrev cL_mean : ByteArray := method_7_code
def yL_mean : MethodName := ⟨RL, "mean", "(LTreePeers;II[J)I"⟩
abbrev cL_part : ByteArray := method_8_code
def yL_part : MethodName := ⟨RL, "part", "(LTreePeers;III[J)I"⟩
abbrev cL_law : ByteArray := code
def yL_law : MethodName := ⟨RL, "law", "([I)Z"⟩
abbrev vwCl : List vw_C := [(RX0, TX0, 12), (RX1, TX1, 4), (RX2, TX2, 4), (RX3, TX3, 7), (RX4, TX4, 4), (RX5, TX5, 11), (RX6, TX6, 13), (RX7, TX7, 3), (RX8, TX8, 4), (RX9, TX9, 13), (RX10, TX10, 3), (RX11, TX11, 18), (RX12, TX12, 60)]
