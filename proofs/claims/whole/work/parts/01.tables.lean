-- ===== PART A: goes FIRST, ahead of the names: the tables' words, and 'selects' of the private methods out of them =====
/-- a private method of a class that the tables say can be made, by its rows of tables_1 -/
def lw_okq (q : MethodName × Nat) : Prop := (q.1.cls ≠ "java/lang/invoke/MethodHandle" ∧ q.1.cls ≠ "java/lang/invoke/VarHandle") ∧ Cond.instantiable q.1.cls q.2 ∈ tables_1 ∧ Cond.privateMethod q.1 ∈ tables_1 ∧ Cond.instanceMethod q.1 ∈ tables_1
theorem lw_p0 : lw_okq (⟨"NumberKeeper", "isLogFull", "()Z"⟩, 12) := ⟨⟨by decide +kernel, by decide +kernel⟩, List.mem_of_getElem? (i := 21) (by decide +kernel), List.mem_of_getElem? (i := 376) (by decide +kernel), List.mem_of_getElem? (i := 377) (by decide +kernel)⟩
theorem lw_p1 : lw_okq (⟨"NumberKeeper", "noteChange", "(LNumberKeeper$Change;)V"⟩, 12) := ⟨⟨by decide +kernel, by decide +kernel⟩, List.mem_of_getElem? (i := 21) (by decide +kernel), List.mem_of_getElem? (i := 414) (by decide +kernel), List.mem_of_getElem? (i := 415) (by decide +kernel)⟩
theorem lw_p2 : lw_okq (⟨"NumberKeeper$Numbering", "lineUp", "()V"⟩, 3) := ⟨⟨by decide +kernel, by decide +kernel⟩, List.mem_of_getElem? (i := 206) (by decide +kernel), List.mem_of_getElem? (i := 431) (by decide +kernel), List.mem_of_getElem? (i := 432) (by decide +kernel)⟩
theorem lw_p3 : lw_okq (⟨"NumberKeeper$Numbering", "tallyUp", "(I)I"⟩, 3) := ⟨⟨by decide +kernel, by decide +kernel⟩, List.mem_of_getElem? (i := 206) (by decide +kernel), List.mem_of_getElem? (i := 442) (by decide +kernel), List.mem_of_getElem? (i := 443) (by decide +kernel)⟩
theorem lw_p4 : lw_okq (⟨"NumberKeeper$Numbering", "rankKids", "(LNumberKeeper$Thing;)V"⟩, 3) := ⟨⟨by decide +kernel, by decide +kernel⟩, List.mem_of_getElem? (i := 206) (by decide +kernel), List.mem_of_getElem? (i := 447) (by decide +kernel), List.mem_of_getElem? (i := 448) (by decide +kernel)⟩
theorem lw_p5 : lw_okq (⟨"NumberKeeper$Numbering", "settle", "(LNumberKeeper$Thing;)V"⟩, 3) := ⟨⟨by decide +kernel, by decide +kernel⟩, List.mem_of_getElem? (i := 206) (by decide +kernel), List.mem_of_getElem? (i := 451) (by decide +kernel), List.mem_of_getElem? (i := 452) (by decide +kernel)⟩
theorem lw_p6 : lw_okq (⟨"NumberKeeper$Change", "takeApart", "()V"⟩, 5) := ⟨⟨by decide +kernel, by decide +kernel⟩, List.mem_of_getElem? (i := 392) (by decide +kernel), List.mem_of_getElem? (i := 583) (by decide +kernel), List.mem_of_getElem? (i := 584) (by decide +kernel)⟩
theorem lw_p7 : lw_okq (⟨"NumberKeeper", "keepMention", "(LNumberKeeper$Mention;)I"⟩, 12) := ⟨⟨by decide +kernel, by decide +kernel⟩, List.mem_of_getElem? (i := 21) (by decide +kernel), List.mem_of_getElem? (i := 667) (by decide +kernel), List.mem_of_getElem? (i := 668) (by decide +kernel)⟩
theorem lw_p8 : lw_okq (⟨"NumberKeeper", "editionOf", "(I)LNumberKeeper$Edition;"⟩, 12) := ⟨⟨by decide +kernel, by decide +kernel⟩, List.mem_of_getElem? (i := 21) (by decide +kernel), List.mem_of_getElem? (i := 679) (by decide +kernel), List.mem_of_getElem? (i := 680) (by decide +kernel)⟩
theorem lw_p9 : lw_okq (⟨"NumberKeeper", "mentionOf", "(I)LNumberKeeper$Mention;"⟩, 12) := ⟨⟨by decide +kernel, by decide +kernel⟩, List.mem_of_getElem? (i := 21) (by decide +kernel), List.mem_of_getElem? (i := 691) (by decide +kernel), List.mem_of_getElem? (i := 692) (by decide +kernel)⟩
theorem lw_p10 : lw_okq (⟨"NumberKeeper$Teller", "latestOfKind", "(LNumberKeeper$Thing;I)LNumberKeeper$Thing;"⟩, 2) := ⟨⟨by decide +kernel, by decide +kernel⟩, List.mem_of_getElem? (i := 227) (by decide +kernel), List.mem_of_getElem? (i := 711) (by decide +kernel), List.mem_of_getElem? (i := 712) (by decide +kernel)⟩
theorem lw_p11 : lw_okq (⟨"NumberKeeper$Teller", "pickMeant", "(LNumberKeeper$Mention;)V"⟩, 2) := ⟨⟨by decide +kernel, by decide +kernel⟩, List.mem_of_getElem? (i := 227) (by decide +kernel), List.mem_of_getElem? (i := 715) (by decide +kernel), List.mem_of_getElem? (i := 716) (by decide +kernel)⟩
theorem lw_p12 : lw_okq (⟨"NumberKeeper$Teller", "pickedBehind", "(LNumberKeeper$Thing;)LNumberKeeper$Thing;"⟩, 2) := ⟨⟨by decide +kernel, by decide +kernel⟩, List.mem_of_getElem? (i := 227) (by decide +kernel), List.mem_of_getElem? (i := 719) (by decide +kernel), List.mem_of_getElem? (i := 720) (by decide +kernel)⟩
theorem lw_p13 : lw_okq (⟨"NumberKeeper$Teller", "lastOfRun", "(LNumberKeeper$Thing;)LNumberKeeper$Thing;"⟩, 2) := ⟨⟨by decide +kernel, by decide +kernel⟩, List.mem_of_getElem? (i := 227) (by decide +kernel), List.mem_of_getElem? (i := 731) (by decide +kernel), List.mem_of_getElem? (i := 732) (by decide +kernel)⟩
theorem lw_p14 : lw_okq (⟨"NumberKeeper$Teller", "writeRange", "(LNumberKeeper$Thing;LNumberKeeper$Line;)V"⟩, 2) := ⟨⟨by decide +kernel, by decide +kernel⟩, List.mem_of_getElem? (i := 227) (by decide +kernel), List.mem_of_getElem? (i := 745) (by decide +kernel), List.mem_of_getElem? (i := 746) (by decide +kernel)⟩
theorem lw_p15 : lw_okq (⟨"NumberKeeper", "firstNamed", "(LNumberKeeper$Edition;I)I"⟩, 12) := ⟨⟨by decide +kernel, by decide +kernel⟩, List.mem_of_getElem? (i := 21) (by decide +kernel), List.mem_of_getElem? (i := 796) (by decide +kernel), List.mem_of_getElem? (i := 797) (by decide +kernel)⟩
def lw_privs_1 : List (MethodName × Nat) := [(⟨"NumberKeeper", "isLogFull", "()Z"⟩, 12), (⟨"NumberKeeper", "noteChange", "(LNumberKeeper$Change;)V"⟩, 12), (⟨"NumberKeeper$Numbering", "lineUp", "()V"⟩, 3), (⟨"NumberKeeper$Numbering", "tallyUp", "(I)I"⟩, 3), (⟨"NumberKeeper$Numbering", "rankKids", "(LNumberKeeper$Thing;)V"⟩, 3), (⟨"NumberKeeper$Numbering", "settle", "(LNumberKeeper$Thing;)V"⟩, 3), (⟨"NumberKeeper$Change", "takeApart", "()V"⟩, 5), (⟨"NumberKeeper", "keepMention", "(LNumberKeeper$Mention;)I"⟩, 12), (⟨"NumberKeeper", "editionOf", "(I)LNumberKeeper$Edition;"⟩, 12), (⟨"NumberKeeper", "mentionOf", "(I)LNumberKeeper$Mention;"⟩, 12), (⟨"NumberKeeper$Teller", "latestOfKind", "(LNumberKeeper$Thing;I)LNumberKeeper$Thing;"⟩, 2), (⟨"NumberKeeper$Teller", "pickMeant", "(LNumberKeeper$Mention;)V"⟩, 2), (⟨"NumberKeeper$Teller", "pickedBehind", "(LNumberKeeper$Thing;)LNumberKeeper$Thing;"⟩, 2), (⟨"NumberKeeper$Teller", "lastOfRun", "(LNumberKeeper$Thing;)LNumberKeeper$Thing;"⟩, 2), (⟨"NumberKeeper$Teller", "writeRange", "(LNumberKeeper$Thing;LNumberKeeper$Line;)V"⟩, 2), (⟨"NumberKeeper", "firstNamed", "(LNumberKeeper$Edition;I)I"⟩, 12)]
theorem lw_r1 : ∀ q ∈ lw_privs_1, lw_okq q := List.forall_mem_cons.mpr ⟨lw_p0, List.forall_mem_cons.mpr ⟨lw_p1, List.forall_mem_cons.mpr ⟨lw_p2, List.forall_mem_cons.mpr ⟨lw_p3, List.forall_mem_cons.mpr ⟨lw_p4, List.forall_mem_cons.mpr ⟨lw_p5, List.forall_mem_cons.mpr ⟨lw_p6, List.forall_mem_cons.mpr ⟨lw_p7, List.forall_mem_cons.mpr ⟨lw_p8, List.forall_mem_cons.mpr ⟨lw_p9, List.forall_mem_cons.mpr ⟨lw_p10, List.forall_mem_cons.mpr ⟨lw_p11, List.forall_mem_cons.mpr ⟨lw_p12, List.forall_mem_cons.mpr ⟨lw_p13, List.forall_mem_cons.mpr ⟨lw_p14, List.forall_mem_cons.mpr ⟨lw_p15, fun _ h => absurd h List.not_mem_nil⟩⟩⟩⟩⟩⟩⟩⟩⟩⟩⟩⟩⟩⟩⟩⟩
theorem lw_p16 : lw_okq (⟨"NumberKeeper", "isStillTold", "(LNumberKeeper$Thing;LNumberKeeper$Line;)Z"⟩, 12) := ⟨⟨by decide +kernel, by decide +kernel⟩, List.mem_of_getElem? (i := 21) (by decide +kernel), List.mem_of_getElem? (i := 812) (by decide +kernel), List.mem_of_getElem? (i := 813) (by decide +kernel)⟩
theorem lw_p17 : lw_okq (⟨"NumberKeeper$Reader", "endOfFinding", "(ILNumberKeeper$Thing;)I"⟩, 7) := ⟨⟨by decide +kernel, by decide +kernel⟩, List.mem_of_getElem? (i := 242) (by decide +kernel), List.mem_of_getElem? (i := 824) (by decide +kernel), List.mem_of_getElem? (i := 825) (by decide +kernel)⟩
theorem lw_p18 : lw_okq (⟨"NumberKeeper$Reader", "kindAt", "(I)I"⟩, 7) := ⟨⟨by decide +kernel, by decide +kernel⟩, List.mem_of_getElem? (i := 242) (by decide +kernel), List.mem_of_getElem? (i := 830) (by decide +kernel), List.mem_of_getElem? (i := 831) (by decide +kernel)⟩
theorem lw_p19 : lw_okq (⟨"NumberKeeper$Reader", "endOfRun", "(I)I"⟩, 7) := ⟨⟨by decide +kernel, by decide +kernel⟩, List.mem_of_getElem? (i := 242) (by decide +kernel), List.mem_of_getElem? (i := 836) (by decide +kernel), List.mem_of_getElem? (i := 837) (by decide +kernel)⟩
theorem lw_p20 : lw_okq (⟨"NumberKeeper$Reader", "findMeanings", "(IILNumberKeeper$Thing;)V"⟩, 7) := ⟨⟨by decide +kernel, by decide +kernel⟩, List.mem_of_getElem? (i := 242) (by decide +kernel), List.mem_of_getElem? (i := 843) (by decide +kernel), List.mem_of_getElem? (i := 844) (by decide +kernel)⟩
theorem lw_p21 : lw_okq (⟨"NumberKeeper$Reader", "partFor", "(LNumberKeeper$Thing;ILNumberKeeper$Thing;)I"⟩, 7) := ⟨⟨by decide +kernel, by decide +kernel⟩, List.mem_of_getElem? (i := 242) (by decide +kernel), List.mem_of_getElem? (i := 847) (by decide +kernel), List.mem_of_getElem? (i := 848) (by decide +kernel)⟩
theorem lw_p22 : lw_okq (⟨"NumberKeeper$Reader", "keepFinding", "(III)V"⟩, 7) := ⟨⟨by decide +kernel, by decide +kernel⟩, List.mem_of_getElem? (i := 242) (by decide +kernel), List.mem_of_getElem? (i := 852) (by decide +kernel), List.mem_of_getElem? (i := 853) (by decide +kernel)⟩
theorem lw_p23 : lw_okq (⟨"NumberKeeper", "countOfForm", "(I)I"⟩, 12) := ⟨⟨by decide +kernel, by decide +kernel⟩, List.mem_of_getElem? (i := 21) (by decide +kernel), List.mem_of_getElem? (i := 874) (by decide +kernel), List.mem_of_getElem? (i := 875) (by decide +kernel)⟩
theorem lw_p24 : lw_okq (⟨"NumberKeeperModel", "isThere", "(I)Z"⟩, 53) := ⟨⟨by decide +kernel, by decide +kernel⟩, List.mem_of_getElem? (i := 878) (by decide +kernel), List.mem_of_getElem? (i := 1075) (by decide +kernel), List.mem_of_getElem? (i := 1076) (by decide +kernel)⟩
theorem lw_p25 : lw_okq (⟨"NumberKeeperModel", "hanging", "(I)I"⟩, 53) := ⟨⟨by decide +kernel, by decide +kernel⟩, List.mem_of_getElem? (i := 878) (by decide +kernel), List.mem_of_getElem? (i := 1079) (by decide +kernel), List.mem_of_getElem? (i := 1080) (by decide +kernel)⟩
theorem lw_p26 : lw_okq (⟨"NumberKeeperModel", "change", "(IIII)I"⟩, 53) := ⟨⟨by decide +kernel, by decide +kernel⟩, List.mem_of_getElem? (i := 878) (by decide +kernel), List.mem_of_getElem? (i := 1083) (by decide +kernel), List.mem_of_getElem? (i := 1084) (by decide +kernel)⟩
theorem lw_p27 : lw_okq (⟨"NumberKeeperModel", "does", "(IIII)I"⟩, 53) := ⟨⟨by decide +kernel, by decide +kernel⟩, List.mem_of_getElem? (i := 878) (by decide +kernel), List.mem_of_getElem? (i := 1087) (by decide +kernel), List.mem_of_getElem? (i := 1088) (by decide +kernel)⟩
theorem lw_p28 : lw_okq (⟨"NumberKeeperModel", "putIn", "(III)V"⟩, 53) := ⟨⟨by decide +kernel, by decide +kernel⟩, List.mem_of_getElem? (i := 878) (by decide +kernel), List.mem_of_getElem? (i := 1091) (by decide +kernel), List.mem_of_getElem? (i := 1092) (by decide +kernel)⟩
theorem lw_p29 : lw_okq (⟨"NumberKeeperModel", "takeOut", "(I)V"⟩, 53) := ⟨⟨by decide +kernel, by decide +kernel⟩, List.mem_of_getElem? (i := 878) (by decide +kernel), List.mem_of_getElem? (i := 1095) (by decide +kernel), List.mem_of_getElem? (i := 1096) (by decide +kernel)⟩
theorem lw_p30 : lw_okq (⟨"NumberKeeperModel", "takeAll", "(I)I"⟩, 53) := ⟨⟨by decide +kernel, by decide +kernel⟩, List.mem_of_getElem? (i := 878) (by decide +kernel), List.mem_of_getElem? (i := 1099) (by decide +kernel), List.mem_of_getElem? (i := 1100) (by decide +kernel)⟩
theorem lw_p31 : lw_okq (⟨"NumberKeeperModel", "isBelow", "(II)Z"⟩, 53) := ⟨⟨by decide +kernel, by decide +kernel⟩, List.mem_of_getElem? (i := 878) (by decide +kernel), List.mem_of_getElem? (i := 1107) (by decide +kernel), List.mem_of_getElem? (i := 1108) (by decide +kernel)⟩
def lw_privs_2 : List (MethodName × Nat) := [(⟨"NumberKeeper", "isStillTold", "(LNumberKeeper$Thing;LNumberKeeper$Line;)Z"⟩, 12), (⟨"NumberKeeper$Reader", "endOfFinding", "(ILNumberKeeper$Thing;)I"⟩, 7), (⟨"NumberKeeper$Reader", "kindAt", "(I)I"⟩, 7), (⟨"NumberKeeper$Reader", "endOfRun", "(I)I"⟩, 7), (⟨"NumberKeeper$Reader", "findMeanings", "(IILNumberKeeper$Thing;)V"⟩, 7), (⟨"NumberKeeper$Reader", "partFor", "(LNumberKeeper$Thing;ILNumberKeeper$Thing;)I"⟩, 7), (⟨"NumberKeeper$Reader", "keepFinding", "(III)V"⟩, 7), (⟨"NumberKeeper", "countOfForm", "(I)I"⟩, 12), (⟨"NumberKeeperModel", "isThere", "(I)Z"⟩, 53), (⟨"NumberKeeperModel", "hanging", "(I)I"⟩, 53), (⟨"NumberKeeperModel", "change", "(IIII)I"⟩, 53), (⟨"NumberKeeperModel", "does", "(IIII)I"⟩, 53), (⟨"NumberKeeperModel", "putIn", "(III)V"⟩, 53), (⟨"NumberKeeperModel", "takeOut", "(I)V"⟩, 53), (⟨"NumberKeeperModel", "takeAll", "(I)I"⟩, 53), (⟨"NumberKeeperModel", "isBelow", "(II)Z"⟩, 53)]
theorem lw_r2 : ∀ q ∈ lw_privs_2, lw_okq q := List.forall_mem_cons.mpr ⟨lw_p16, List.forall_mem_cons.mpr ⟨lw_p17, List.forall_mem_cons.mpr ⟨lw_p18, List.forall_mem_cons.mpr ⟨lw_p19, List.forall_mem_cons.mpr ⟨lw_p20, List.forall_mem_cons.mpr ⟨lw_p21, List.forall_mem_cons.mpr ⟨lw_p22, List.forall_mem_cons.mpr ⟨lw_p23, List.forall_mem_cons.mpr ⟨lw_p24, List.forall_mem_cons.mpr ⟨lw_p25, List.forall_mem_cons.mpr ⟨lw_p26, List.forall_mem_cons.mpr ⟨lw_p27, List.forall_mem_cons.mpr ⟨lw_p28, List.forall_mem_cons.mpr ⟨lw_p29, List.forall_mem_cons.mpr ⟨lw_p30, List.forall_mem_cons.mpr ⟨lw_p31, fun _ h => absurd h List.not_mem_nil⟩⟩⟩⟩⟩⟩⟩⟩⟩⟩⟩⟩⟩⟩⟩⟩
theorem lw_p32 : lw_okq (⟨"NumberKeeperModel", "make", "()V"⟩, 53) := ⟨⟨by decide +kernel, by decide +kernel⟩, List.mem_of_getElem? (i := 878) (by decide +kernel), List.mem_of_getElem? (i := 1111) (by decide +kernel), List.mem_of_getElem? (i := 1112) (by decide +kernel)⟩
theorem lw_p33 : lw_okq (⟨"NumberKeeperModel", "order", "()V"⟩, 53) := ⟨⟨by decide +kernel, by decide +kernel⟩, List.mem_of_getElem? (i := 878) (by decide +kernel), List.mem_of_getElem? (i := 1115) (by decide +kernel), List.mem_of_getElem? (i := 1116) (by decide +kernel)⟩
theorem lw_p34 : lw_okq (⟨"NumberKeeperModel", "childAt", "(II)I"⟩, 53) := ⟨⟨by decide +kernel, by decide +kernel⟩, List.mem_of_getElem? (i := 878) (by decide +kernel), List.mem_of_getElem? (i := 1119) (by decide +kernel), List.mem_of_getElem? (i := 1120) (by decide +kernel)⟩
theorem lw_p35 : lw_okq (⟨"NumberKeeperModel", "sameScope", "(II)Z"⟩, 53) := ⟨⟨by decide +kernel, by decide +kernel⟩, List.mem_of_getElem? (i := 878) (by decide +kernel), List.mem_of_getElem? (i := 1123) (by decide +kernel), List.mem_of_getElem? (i := 1124) (by decide +kernel)⟩
theorem lw_p36 : lw_okq (⟨"NumberKeeperModel", "above", "(II)I"⟩, 53) := ⟨⟨by decide +kernel, by decide +kernel⟩, List.mem_of_getElem? (i := 878) (by decide +kernel), List.mem_of_getElem? (i := 1127) (by decide +kernel), List.mem_of_getElem? (i := 1128) (by decide +kernel)⟩
theorem lw_p37 : lw_okq (⟨"NumberKeeperModel", "makeSign", "(I)V"⟩, 53) := ⟨⟨by decide +kernel, by decide +kernel⟩, List.mem_of_getElem? (i := 878) (by decide +kernel), List.mem_of_getElem? (i := 1131) (by decide +kernel), List.mem_of_getElem? (i := 1132) (by decide +kernel)⟩
theorem lw_p38 : lw_okq (⟨"NumberKeeperModel", "signByte", "(II)V"⟩, 53) := ⟨⟨by decide +kernel, by decide +kernel⟩, List.mem_of_getElem? (i := 878) (by decide +kernel), List.mem_of_getElem? (i := 1135) (by decide +kernel), List.mem_of_getElem? (i := 1136) (by decide +kernel)⟩
theorem lw_p39 : lw_okq (⟨"NumberKeeperModel", "roman", "(IIIII)V"⟩, 53) := ⟨⟨by decide +kernel, by decide +kernel⟩, List.mem_of_getElem? (i := 878) (by decide +kernel), List.mem_of_getElem? (i := 1139) (by decide +kernel), List.mem_of_getElem? (i := 1140) (by decide +kernel)⟩
theorem lw_p40 : lw_okq (⟨"NumberKeeperModel", "makeNumber", "(I)V"⟩, 53) := ⟨⟨by decide +kernel, by decide +kernel⟩, List.mem_of_getElem? (i := 878) (by decide +kernel), List.mem_of_getElem? (i := 1143) (by decide +kernel), List.mem_of_getElem? (i := 1144) (by decide +kernel)⟩
theorem lw_p41 : lw_okq (⟨"NumberKeeperModel", "numberByte", "(II)V"⟩, 53) := ⟨⟨by decide +kernel, by decide +kernel⟩, List.mem_of_getElem? (i := 878) (by decide +kernel), List.mem_of_getElem? (i := 1147) (by decide +kernel), List.mem_of_getElem? (i := 1148) (by decide +kernel)⟩
theorem lw_p42 : lw_okq (⟨"NumberKeeperModel", "toldSize", "(I)I"⟩, 53) := ⟨⟨by decide +kernel, by decide +kernel⟩, List.mem_of_getElem? (i := 878) (by decide +kernel), List.mem_of_getElem? (i := 1175) (by decide +kernel), List.mem_of_getElem? (i := 1176) (by decide +kernel)⟩
theorem lw_p43 : lw_okq (⟨"NumberKeeperModel", "toldByte", "(II)I"⟩, 53) := ⟨⟨by decide +kernel, by decide +kernel⟩, List.mem_of_getElem? (i := 878) (by decide +kernel), List.mem_of_getElem? (i := 1179) (by decide +kernel), List.mem_of_getElem? (i := 1180) (by decide +kernel)⟩
theorem lw_p44 : lw_okq (⟨"NumberKeeperModel", "sameNumber", "(II)Z"⟩, 53) := ⟨⟨by decide +kernel, by decide +kernel⟩, List.mem_of_getElem? (i := 878) (by decide +kernel), List.mem_of_getElem? (i := 1187) (by decide +kernel), List.mem_of_getElem? (i := 1188) (by decide +kernel)⟩
theorem lw_p45 : lw_okq (⟨"NumberKeeperModel", "tell", "(IIII)I"⟩, 53) := ⟨⟨by decide +kernel, by decide +kernel⟩, List.mem_of_getElem? (i := 878) (by decide +kernel), List.mem_of_getElem? (i := 1195) (by decide +kernel), List.mem_of_getElem? (i := 1196) (by decide +kernel)⟩
theorem lw_p46 : lw_okq (⟨"NumberKeeperModel", "had", "(II)Z"⟩, 53) := ⟨⟨by decide +kernel, by decide +kernel⟩, List.mem_of_getElem? (i := 878) (by decide +kernel), List.mem_of_getElem? (i := 1207) (by decide +kernel), List.mem_of_getElem? (i := 1208) (by decide +kernel)⟩
theorem lw_p47 : lw_okq (⟨"NumberKeeperModel", "follow", "(I)I"⟩, 53) := ⟨⟨by decide +kernel, by decide +kernel⟩, List.mem_of_getElem? (i := 878) (by decide +kernel), List.mem_of_getElem? (i := 1215) (by decide +kernel), List.mem_of_getElem? (i := 1216) (by decide +kernel)⟩
def lw_privs_3 : List (MethodName × Nat) := [(⟨"NumberKeeperModel", "make", "()V"⟩, 53), (⟨"NumberKeeperModel", "order", "()V"⟩, 53), (⟨"NumberKeeperModel", "childAt", "(II)I"⟩, 53), (⟨"NumberKeeperModel", "sameScope", "(II)Z"⟩, 53), (⟨"NumberKeeperModel", "above", "(II)I"⟩, 53), (⟨"NumberKeeperModel", "makeSign", "(I)V"⟩, 53), (⟨"NumberKeeperModel", "signByte", "(II)V"⟩, 53), (⟨"NumberKeeperModel", "roman", "(IIIII)V"⟩, 53), (⟨"NumberKeeperModel", "makeNumber", "(I)V"⟩, 53), (⟨"NumberKeeperModel", "numberByte", "(II)V"⟩, 53), (⟨"NumberKeeperModel", "toldSize", "(I)I"⟩, 53), (⟨"NumberKeeperModel", "toldByte", "(II)I"⟩, 53), (⟨"NumberKeeperModel", "sameNumber", "(II)Z"⟩, 53), (⟨"NumberKeeperModel", "tell", "(IIII)I"⟩, 53), (⟨"NumberKeeperModel", "had", "(II)Z"⟩, 53), (⟨"NumberKeeperModel", "follow", "(I)I"⟩, 53)]
theorem lw_r3 : ∀ q ∈ lw_privs_3, lw_okq q := List.forall_mem_cons.mpr ⟨lw_p32, List.forall_mem_cons.mpr ⟨lw_p33, List.forall_mem_cons.mpr ⟨lw_p34, List.forall_mem_cons.mpr ⟨lw_p35, List.forall_mem_cons.mpr ⟨lw_p36, List.forall_mem_cons.mpr ⟨lw_p37, List.forall_mem_cons.mpr ⟨lw_p38, List.forall_mem_cons.mpr ⟨lw_p39, List.forall_mem_cons.mpr ⟨lw_p40, List.forall_mem_cons.mpr ⟨lw_p41, List.forall_mem_cons.mpr ⟨lw_p42, List.forall_mem_cons.mpr ⟨lw_p43, List.forall_mem_cons.mpr ⟨lw_p44, List.forall_mem_cons.mpr ⟨lw_p45, List.forall_mem_cons.mpr ⟨lw_p46, List.forall_mem_cons.mpr ⟨lw_p47, fun _ h => absurd h List.not_mem_nil⟩⟩⟩⟩⟩⟩⟩⟩⟩⟩⟩⟩⟩⟩⟩⟩
theorem lw_p48 : lw_okq (⟨"NumberKeeperModel", "leadsOf", "(I)I"⟩, 53) := ⟨⟨by decide +kernel, by decide +kernel⟩, List.mem_of_getElem? (i := 878) (by decide +kernel), List.mem_of_getElem? (i := 1219) (by decide +kernel), List.mem_of_getElem? (i := 1220) (by decide +kernel)⟩
theorem lw_p49 : lw_okq (⟨"NumberKeeperModel", "leadOf", "(I)I"⟩, 53) := ⟨⟨by decide +kernel, by decide +kernel⟩, List.mem_of_getElem? (i := 878) (by decide +kernel), List.mem_of_getElem? (i := 1223) (by decide +kernel), List.mem_of_getElem? (i := 1224) (by decide +kernel)⟩
theorem lw_p50 : lw_okq (⟨"NumberKeeperModel", "beside", "(III)I"⟩, 53) := ⟨⟨by decide +kernel, by decide +kernel⟩, List.mem_of_getElem? (i := 878) (by decide +kernel), List.mem_of_getElem? (i := 1227) (by decide +kernel), List.mem_of_getElem? (i := 1228) (by decide +kernel)⟩
theorem lw_p51 : lw_okq (⟨"NumberKeeperModel", "means", "(I)V"⟩, 53) := ⟨⟨by decide +kernel, by decide +kernel⟩, List.mem_of_getElem? (i := 878) (by decide +kernel), List.mem_of_getElem? (i := 1231) (by decide +kernel), List.mem_of_getElem? (i := 1232) (by decide +kernel)⟩
theorem lw_p52 : lw_okq (⟨"NumberKeeperModel", "makeLine", "(I)V"⟩, 53) := ⟨⟨by decide +kernel, by decide +kernel⟩, List.mem_of_getElem? (i := 878) (by decide +kernel), List.mem_of_getElem? (i := 1235) (by decide +kernel), List.mem_of_getElem? (i := 1236) (by decide +kernel)⟩
theorem lw_p53 : lw_okq (⟨"NumberKeeperModel", "lineByte", "(I)V"⟩, 53) := ⟨⟨by decide +kernel, by decide +kernel⟩, List.mem_of_getElem? (i := 878) (by decide +kernel), List.mem_of_getElem? (i := 1239) (by decide +kernel), List.mem_of_getElem? (i := 1240) (by decide +kernel)⟩
theorem lw_p54 : lw_okq (⟨"NumberKeeperModel", "lineRuns", "(I)V"⟩, 53) := ⟨⟨by decide +kernel, by decide +kernel⟩, List.mem_of_getElem? (i := 878) (by decide +kernel), List.mem_of_getElem? (i := 1243) (by decide +kernel), List.mem_of_getElem? (i := 1244) (by decide +kernel)⟩
theorem lw_p55 : lw_okq (⟨"NumberKeeperModel", "endRun", "(II)V"⟩, 53) := ⟨⟨by decide +kernel, by decide +kernel⟩, List.mem_of_getElem? (i := 878) (by decide +kernel), List.mem_of_getElem? (i := 1247) (by decide +kernel), List.mem_of_getElem? (i := 1248) (by decide +kernel)⟩
theorem lw_p56 : lw_okq (⟨"NumberKeeperModel", "lineNumber", "(I)V"⟩, 53) := ⟨⟨by decide +kernel, by decide +kernel⟩, List.mem_of_getElem? (i := 878) (by decide +kernel), List.mem_of_getElem? (i := 1251) (by decide +kernel), List.mem_of_getElem? (i := 1252) (by decide +kernel)⟩
theorem lw_p57 : lw_okq (⟨"NumberKeeperModel", "lineThing", "(I)V"⟩, 53) := ⟨⟨by decide +kernel, by decide +kernel⟩, List.mem_of_getElem? (i := 878) (by decide +kernel), List.mem_of_getElem? (i := 1255) (by decide +kernel), List.mem_of_getElem? (i := 1256) (by decide +kernel)⟩
theorem lw_p58 : lw_okq (⟨"NumberKeeperModel", "goneOf", "(I)I"⟩, 53) := ⟨⟨by decide +kernel, by decide +kernel⟩, List.mem_of_getElem? (i := 878) (by decide +kernel), List.mem_of_getElem? (i := 1259) (by decide +kernel), List.mem_of_getElem? (i := 1260) (by decide +kernel)⟩
theorem lw_p59 : lw_okq (⟨"NumberKeeperModel", "see", "(I)I"⟩, 53) := ⟨⟨by decide +kernel, by decide +kernel⟩, List.mem_of_getElem? (i := 878) (by decide +kernel), List.mem_of_getElem? (i := 1291) (by decide +kernel), List.mem_of_getElem? (i := 1292) (by decide +kernel)⟩
theorem lw_p60 : lw_okq (⟨"NumberKeeperModel", "stands", "(II)Z"⟩, 53) := ⟨⟨by decide +kernel, by decide +kernel⟩, List.mem_of_getElem? (i := 878) (by decide +kernel), List.mem_of_getElem? (i := 1295) (by decide +kernel), List.mem_of_getElem? (i := 1296) (by decide +kernel)⟩
theorem lw_p61 : lw_okq (⟨"NumberKeeperModel", "look", "(IIII)V"⟩, 53) := ⟨⟨by decide +kernel, by decide +kernel⟩, List.mem_of_getElem? (i := 878) (by decide +kernel), List.mem_of_getElem? (i := 1302) (by decide +kernel), List.mem_of_getElem? (i := 1303) (by decide +kernel)⟩
theorem lw_p62 : lw_okq (⟨"NumberKeeperModel", "isPart", "([BIIII)Z"⟩, 53) := ⟨⟨by decide +kernel, by decide +kernel⟩, List.mem_of_getElem? (i := 878) (by decide +kernel), List.mem_of_getElem? (i := 1306) (by decide +kernel), List.mem_of_getElem? (i := 1307) (by decide +kernel)⟩
theorem lw_p63 : lw_okq (⟨"NumberKeeperModel", "isSignPart", "(III)Z"⟩, 53) := ⟨⟨by decide +kernel, by decide +kernel⟩, List.mem_of_getElem? (i := 878) (by decide +kernel), List.mem_of_getElem? (i := 1310) (by decide +kernel), List.mem_of_getElem? (i := 1311) (by decide +kernel)⟩
def lw_privs_4 : List (MethodName × Nat) := [(⟨"NumberKeeperModel", "leadsOf", "(I)I"⟩, 53), (⟨"NumberKeeperModel", "leadOf", "(I)I"⟩, 53), (⟨"NumberKeeperModel", "beside", "(III)I"⟩, 53), (⟨"NumberKeeperModel", "means", "(I)V"⟩, 53), (⟨"NumberKeeperModel", "makeLine", "(I)V"⟩, 53), (⟨"NumberKeeperModel", "lineByte", "(I)V"⟩, 53), (⟨"NumberKeeperModel", "lineRuns", "(I)V"⟩, 53), (⟨"NumberKeeperModel", "endRun", "(II)V"⟩, 53), (⟨"NumberKeeperModel", "lineNumber", "(I)V"⟩, 53), (⟨"NumberKeeperModel", "lineThing", "(I)V"⟩, 53), (⟨"NumberKeeperModel", "goneOf", "(I)I"⟩, 53), (⟨"NumberKeeperModel", "see", "(I)I"⟩, 53), (⟨"NumberKeeperModel", "stands", "(II)Z"⟩, 53), (⟨"NumberKeeperModel", "look", "(IIII)V"⟩, 53), (⟨"NumberKeeperModel", "isPart", "([BIIII)Z"⟩, 53), (⟨"NumberKeeperModel", "isSignPart", "(III)Z"⟩, 53)]
theorem lw_r4 : ∀ q ∈ lw_privs_4, lw_okq q := List.forall_mem_cons.mpr ⟨lw_p48, List.forall_mem_cons.mpr ⟨lw_p49, List.forall_mem_cons.mpr ⟨lw_p50, List.forall_mem_cons.mpr ⟨lw_p51, List.forall_mem_cons.mpr ⟨lw_p52, List.forall_mem_cons.mpr ⟨lw_p53, List.forall_mem_cons.mpr ⟨lw_p54, List.forall_mem_cons.mpr ⟨lw_p55, List.forall_mem_cons.mpr ⟨lw_p56, List.forall_mem_cons.mpr ⟨lw_p57, List.forall_mem_cons.mpr ⟨lw_p58, List.forall_mem_cons.mpr ⟨lw_p59, List.forall_mem_cons.mpr ⟨lw_p60, List.forall_mem_cons.mpr ⟨lw_p61, List.forall_mem_cons.mpr ⟨lw_p62, List.forall_mem_cons.mpr ⟨lw_p63, fun _ h => absurd h List.not_mem_nil⟩⟩⟩⟩⟩⟩⟩⟩⟩⟩⟩⟩⟩⟩⟩⟩
def lw_privs : List (MethodName × Nat) := lw_privs_1 ++ (lw_privs_2 ++ (lw_privs_3 ++ (lw_privs_4)))
def lw_tbl : List Cond := k2_sels lw_privs ++ tables_1
theorem lw_privs_ok : ∀ q ∈ lw_privs, lw_okq q := by
  show ∀ q ∈ lw_privs_1 ++ (lw_privs_2 ++ (lw_privs_3 ++ (lw_privs_4))), lw_okq q
  exact List.forall_mem_append.mpr ⟨lw_r1, List.forall_mem_append.mpr ⟨lw_r2, List.forall_mem_append.mpr ⟨lw_r3, lw_r4⟩⟩⟩
-- ===== end of PART A =====
def RX0 : String := "NumberKeeper$Change"
def TX0 : u_T := fun k => match k with
  | 0 => ("NumberKeeper$Change", "deed", "I", true)
  | 1 => ("NumberKeeper$Change", "thing", "LNumberKeeper$Thing;", true)
  | 2 => ("NumberKeeper$Change", "up", "LNumberKeeper$Thing;", true)
  | 3 => ("NumberKeeper$Change", "index", "I", true)
  | _ => ("NumberKeeper$Change", "firstKid", "LNumberKeeper$Thing;", true)
def tyX0 : Nat → FieldType := fun k => match k with
  | 0 => .int
  | 1 => .object "NumberKeeper$Thing"
  | 2 => .object "NumberKeeper$Thing"
  | 3 => .int
  | _ => .object "NumberKeeper$Thing"
abbrev wsX00 : List Cond := u_ws RX0 TX0 5
theorem nmX0 : ∀ a, a < 5 → ∀ b, b < 5 → a ≠ b → (TX0 a).2.1 ≠ (TX0 b).2.1 := by decide +kernel
theorem tyX0_ok : ∀ k, k < 5 → parseFieldDescriptor (TX0 k).2.2.1 = some (tyX0 k) := by decide +kernel
def RX1 : String := "NumberKeeper$Edition"
def TX1 : u_T := fun k => match k with
  | 0 => ("NumberKeeper$Edition", "tolds", "[LNumberKeeper$Line;", true)
  | _ => ("NumberKeeper$Edition", "names", "[LNumberKeeper$Line;", true)
def tyX1 : Nat → FieldType := fun k => match k with
  | 0 => .array (.object "NumberKeeper$Line")
  | _ => .array (.object "NumberKeeper$Line")
abbrev wsX10 : List Cond := u_ws RX1 TX1 2
theorem nmX1 : ∀ a, a < 2 → ∀ b, b < 2 → a ≠ b → (TX1 a).2.1 ≠ (TX1 b).2.1 := by decide +kernel
theorem tyX1_ok : ∀ k, k < 2 → parseFieldDescriptor (TX1 k).2.2.1 = some (tyX1 k) := by decide +kernel
def RX2 : String := "NumberKeeper$Form"
def TX2 : u_T := fun k => match k with
  | 0 => ("NumberKeeper$Form", "word", "LNumberKeeper$Line;", true)
  | 1 => ("NumberKeeper$Form", "scope", "I", false)
  | 2 => ("NumberKeeper$Form", "style", "I", false)
  | _ => ("NumberKeeper$Form", "join", "I", false)
def tyX2 : Nat → FieldType := fun k => match k with
  | 0 => .object "NumberKeeper$Line"
  | 1 => .int
  | 2 => .int
  | _ => .int
abbrev wsX20 : List Cond := u_ws RX2 TX2 4
theorem nmX2 : ∀ a, a < 4 → ∀ b, b < 4 → a ≠ b → (TX2 a).2.1 ≠ (TX2 b).2.1 := by decide +kernel
theorem tyX2_ok : ∀ k, k < 4 → parseFieldDescriptor (TX2 k).2.2.1 = some (tyX2 k) := by decide +kernel
def RX3 : String := "NumberKeeper$Line"
def TX3 : u_T := fun k => match k with
  | 0 => ("NumberKeeper$Line", "bytes", "[B", true)
  | _ => ("NumberKeeper$Line", "size", "I", false)
def tyX3 : Nat → FieldType := fun k => match k with
  | 0 => .array .byte
  | _ => .int
abbrev wsX30 : List Cond := u_ws RX3 TX3 2
theorem nmX3 : ∀ a, a < 2 → ∀ b, b < 2 → a ≠ b → (TX3 a).2.1 ≠ (TX3 b).2.1 := by decide +kernel
theorem tyX3_ok : ∀ k, k < 2 → parseFieldDescriptor (TX3 k).2.2.1 = some (tyX3 k) := by decide +kernel
def RX4 : String := "NumberKeeper$Mention"
def TX4 : u_T := fun k => match k with
  | 0 => ("NumberKeeper$Mention", "kind", "I", true)
  | 1 => ("NumberKeeper$Mention", "in", "LNumberKeeper$Thing;", true)
  | 2 => ("NumberKeeper$Mention", "kindMeant", "I", true)
  | 3 => ("NumberKeeper$Mention", "frozenText", "LNumberKeeper$Line;", true)
  | 4 => ("NumberKeeper$Mention", "meant", "[LNumberKeeper$Thing;", true)
  | _ => ("NumberKeeper$Mention", "size", "I", false)
def tyX4 : Nat → FieldType := fun k => match k with
  | 0 => .int
  | 1 => .object "NumberKeeper$Thing"
  | 2 => .int
  | 3 => .object "NumberKeeper$Line"
  | 4 => .array (.object "NumberKeeper$Thing")
  | _ => .int
abbrev wsX40 : List Cond := u_ws RX4 TX4 6
theorem nmX4 : ∀ a, a < 6 → ∀ b, b < 6 → a ≠ b → (TX4 a).2.1 ≠ (TX4 b).2.1 := by decide +kernel
theorem tyX4_ok : ∀ k, k < 6 → parseFieldDescriptor (TX4 k).2.2.1 = some (tyX4 k) := by decide +kernel
def RX5 : String := "NumberKeeper$Numbering"
def TX5 : u_T := fun k => match k with
  | 0 => ("NumberKeeper$Numbering", "stale", "Z", false)
  | 1 => ("NumberKeeper$Numbering", "text", "LNumberKeeper$Thing;", true)
  | _ => ("NumberKeeper$Numbering", "tally", "[I", true)
def tyX5 : Nat → FieldType := fun k => match k with
  | 0 => .boolean
  | 1 => .object "NumberKeeper$Thing"
  | _ => .array .int
abbrev wsX50 : List Cond := u_ws RX5 TX5 3
theorem nmX5 : ∀ a, a < 3 → ∀ b, b < 3 → a ≠ b → (TX5 a).2.1 ≠ (TX5 b).2.1 := by decide +kernel
theorem tyX5_ok : ∀ k, k < 3 → parseFieldDescriptor (TX5 k).2.2.1 = some (tyX5 k) := by decide +kernel
def RX6 : String := "NumberKeeper$Reader"
def TX6 : u_T := fun k => match k with
  | 0 => ("NumberKeeper$Reader", "tape", "LNumberKeeper$Line;", true)
  | 1 => ("NumberKeeper$Reader", "tree", "LNumberKeeper$Tree;", true)
  | 2 => ("NumberKeeper$Reader", "cells", "[I", true)
  | 3 => ("NumberKeeper$Reader", "found", "I", false)
  | 4 => ("NumberKeeper$Reader", "part", "I", false)
  | 5 => ("NumberKeeper$Reader", "meanings", "I", false)
  | _ => ("NumberKeeper$Reader", "firstMeaning", "I", false)
def tyX6 : Nat → FieldType := fun k => match k with
  | 0 => .object "NumberKeeper$Line"
  | 1 => .object "NumberKeeper$Tree"
  | 2 => .array .int
  | 3 => .int
  | 4 => .int
  | 5 => .int
  | _ => .int
abbrev wsX60 : List Cond := u_ws RX6 TX6 7
theorem nmX6 : ∀ a, a < 7 → ∀ b, b < 7 → a ≠ b → (TX6 a).2.1 ≠ (TX6 b).2.1 := by decide +kernel
theorem tyX6_ok : ∀ k, k < 7 → parseFieldDescriptor (TX6 k).2.2.1 = some (tyX6 k) := by decide +kernel
def RX7 : String := "NumberKeeper$Teller"
def TX7 : u_T := fun k => match k with
  | 0 => ("NumberKeeper$Teller", "text", "LNumberKeeper$Thing;", true)
  | _ => ("NumberKeeper$Teller", "stamp", "I", false)
def tyX7 : Nat → FieldType := fun k => match k with
  | 0 => .object "NumberKeeper$Thing"
  | _ => .int
abbrev wsX70 : List Cond := u_ws RX7 TX7 2
theorem nmX7 : ∀ a, a < 2 → ∀ b, b < 2 → a ≠ b → (TX7 a).2.1 ≠ (TX7 b).2.1 := by decide +kernel
theorem tyX7_ok : ∀ k, k < 2 → parseFieldDescriptor (TX7 k).2.2.1 = some (tyX7 k) := by decide +kernel
def RX8 : String := "NumberKeeper$Thing"
def TX8 : u_T := fun k => match k with
  | 0 => ("NumberKeeper$Thing", "number", "I", true)
  | 1 => ("NumberKeeper$Thing", "kind", "I", true)
  | 2 => ("NumberKeeper$Thing", "form", "LNumberKeeper$Form;", true)
  | 3 => ("NumberKeeper$Thing", "up", "LNumberKeeper$Thing;", false)
  | 4 => ("NumberKeeper$Thing", "first", "LNumberKeeper$Thing;", false)
  | 5 => ("NumberKeeper$Thing", "next", "LNumberKeeper$Thing;", false)
  | 6 => ("NumberKeeper$Thing", "into", "LNumberKeeper$Thing;", false)
  | 7 => ("NumberKeeper$Thing", "there", "Z", false)
  | 8 => ("NumberKeeper$Thing", "behind", "LNumberKeeper$Thing;", false)
  | 9 => ("NumberKeeper$Thing", "place", "I", false)
  | 10 => ("NumberKeeper$Thing", "rank", "I", false)
  | 11 => ("NumberKeeper$Thing", "count", "I", false)
  | 12 => ("NumberKeeper$Thing", "base", "LNumberKeeper$Thing;", false)
  | 13 => ("NumberKeeper$Thing", "seen", "[I", true)
  | 14 => ("NumberKeeper$Thing", "mark", "LNumberKeeper$Line;", true)
  | 15 => ("NumberKeeper$Thing", "name", "LNumberKeeper$Line;", true)
  | 16 => ("NumberKeeper$Thing", "before", "LNumberKeeper$Line;", true)
  | _ => ("NumberKeeper$Thing", "picked", "I", false)
def tyX8 : Nat → FieldType := fun k => match k with
  | 0 => .int
  | 1 => .int
  | 2 => .object "NumberKeeper$Form"
  | 3 => .object "NumberKeeper$Thing"
  | 4 => .object "NumberKeeper$Thing"
  | 5 => .object "NumberKeeper$Thing"
  | 6 => .object "NumberKeeper$Thing"
  | 7 => .boolean
  | 8 => .object "NumberKeeper$Thing"
  | 9 => .int
  | 10 => .int
  | 11 => .int
  | 12 => .object "NumberKeeper$Thing"
  | 13 => .array .int
  | 14 => .object "NumberKeeper$Line"
  | 15 => .object "NumberKeeper$Line"
  | 16 => .object "NumberKeeper$Line"
  | _ => .int
abbrev wsX80 : List Cond := u_ws RX8 TX8 18
theorem nmX8 : ∀ a, a < 18 → ∀ b, b < 18 → a ≠ b → (TX8 a).2.1 ≠ (TX8 b).2.1 := by decide +kernel
theorem tyX8_ok : ∀ k, k < 18 → parseFieldDescriptor (TX8 k).2.2.1 = some (tyX8 k) := by decide +kernel
def RX9 : String := "NumberKeeper$Tree"
def TX9 : u_T := fun k => match k with
  | 0 => ("NumberKeeper$Tree", "text", "LNumberKeeper$Thing;", true)
  | 1 => ("NumberKeeper$Tree", "things", "[LNumberKeeper$Thing;", true)
  | 2 => ("NumberKeeper$Tree", "forms", "[LNumberKeeper$Form;", true)
  | _ => ("NumberKeeper$Tree", "size", "I", false)
def tyX9 : Nat → FieldType := fun k => match k with
  | 0 => .object "NumberKeeper$Thing"
  | 1 => .array (.object "NumberKeeper$Thing")
  | 2 => .array (.object "NumberKeeper$Form")
  | _ => .int
abbrev wsX90 : List Cond := u_ws RX9 TX9 4
theorem nmX9 : ∀ a, a < 4 → ∀ b, b < 4 → a ≠ b → (TX9 a).2.1 ≠ (TX9 b).2.1 := by decide +kernel
theorem tyX9_ok : ∀ k, k < 4 → parseFieldDescriptor (TX9 k).2.2.1 = some (tyX9 k) := by decide +kernel
def RX10 : String := "NumberKeeper"
def TX10 : u_T := fun k => match k with
  | 0 => ("NumberKeeper", "tape", "LNumberKeeper$Line;", true)
  | 1 => ("NumberKeeper", "tree", "LNumberKeeper$Tree;", true)
  | 2 => ("NumberKeeper", "numbering", "LNumberKeeper$Numbering;", true)
  | 3 => ("NumberKeeper", "log", "[LNumberKeeper$Change;", true)
  | 4 => ("NumberKeeper", "logged", "I", false)
  | 5 => ("NumberKeeper", "mentions", "[LNumberKeeper$Mention;", true)
  | 6 => ("NumberKeeper", "mentioned", "I", false)
  | 7 => ("NumberKeeper", "teller", "LNumberKeeper$Teller;", true)
  | 8 => ("NumberKeeper", "editions", "[LNumberKeeper$Edition;", true)
  | 9 => ("NumberKeeper", "edited", "I", false)
  | 10 => ("NumberKeeper", "reader", "LNumberKeeper$Reader;", true)
  | _ => ("NumberKeeper", "scratch", "LNumberKeeper$Line;", true)
def tyX10 : Nat → FieldType := fun k => match k with
  | 0 => .object "NumberKeeper$Line"
  | 1 => .object "NumberKeeper$Tree"
  | 2 => .object "NumberKeeper$Numbering"
  | 3 => .array (.object "NumberKeeper$Change")
  | 4 => .int
  | 5 => .array (.object "NumberKeeper$Mention")
  | 6 => .int
  | 7 => .object "NumberKeeper$Teller"
  | 8 => .array (.object "NumberKeeper$Edition")
  | 9 => .int
  | 10 => .object "NumberKeeper$Reader"
  | _ => .object "NumberKeeper$Line"
abbrev wsX100 : List Cond := u_ws RX10 TX10 12
theorem nmX10 : ∀ a, a < 12 → ∀ b, b < 12 → a ≠ b → (TX10 a).2.1 ≠ (TX10 b).2.1 := by decide +kernel
theorem tyX10_ok : ∀ k, k < 12 → parseFieldDescriptor (TX10 k).2.2.1 = some (tyX10 k) := by decide +kernel
def RX11 : String := "NumberKeeperModel"
def TX11 : u_T := fun k => match k with
  | 0 => ("NumberKeeperModel", "tape", "[B", true)
  | 1 => ("NumberKeeperModel", "taped", "I", false)
  | 2 => ("NumberKeeperModel", "wordText", "[B", true)
  | 3 => ("NumberKeeperModel", "wordSize", "[I", true)
  | 4 => ("NumberKeeperModel", "scope", "[I", true)
  | 5 => ("NumberKeeperModel", "style", "[I", true)
  | 6 => ("NumberKeeperModel", "join", "[I", true)
  | 7 => ("NumberKeeperModel", "things", "I", false)
  | 8 => ("NumberKeeperModel", "kind", "[I", true)
  | 9 => ("NumberKeeperModel", "on", "[I", true)
  | 10 => ("NumberKeeperModel", "place", "[I", true)
  | 11 => ("NumberKeeperModel", "into", "[I", true)
  | 12 => ("NumberKeeperModel", "entries", "I", false)
  | 13 => ("NumberKeeperModel", "eCode", "[I", true)
  | 14 => ("NumberKeeperModel", "eA", "[I", true)
  | 15 => ("NumberKeeperModel", "eB", "[I", true)
  | 16 => ("NumberKeeperModel", "eC", "[I", true)
  | 17 => ("NumberKeeperModel", "isMade", "Z", false)
  | 18 => ("NumberKeeperModel", "ordered", "[I", true)
  | 19 => ("NumberKeeperModel", "at", "[I", true)
  | 20 => ("NumberKeeperModel", "there", "I", false)
  | 21 => ("NumberKeeperModel", "count", "[I", true)
  | 22 => ("NumberKeeperModel", "base", "[I", true)
  | 23 => ("NumberKeeperModel", "numberText", "[B", true)
  | 24 => ("NumberKeeperModel", "numberSize", "[I", true)
  | 25 => ("NumberKeeperModel", "signText", "[B", true)
  | 26 => ("NumberKeeperModel", "signSize", "[I", true)
  | 27 => ("NumberKeeperModel", "oldText", "[B", true)
  | 28 => ("NumberKeeperModel", "oldSize", "[I", true)
  | 29 => ("NumberKeeperModel", "mentions", "I", false)
  | 30 => ("NumberKeeperModel", "mIn", "[I", true)
  | 31 => ("NumberKeeperModel", "mKind", "[I", true)
  | 32 => ("NumberKeeperModel", "mOf", "[I", true)
  | 33 => ("NumberKeeperModel", "mEdition", "[I", true)
  | 34 => ("NumberKeeperModel", "mMany", "[I", true)
  | 35 => ("NumberKeeperModel", "mThing", "[I", true)
  | 36 => ("NumberKeeperModel", "line", "[B", true)
  | 37 => ("NumberKeeperModel", "lineSize", "I", false)
  | 38 => ("NumberKeeperModel", "runs", "I", false)
  | 39 => ("NumberKeeperModel", "isMeant", "[Z", true)
  | 40 => ("NumberKeeperModel", "editions", "I", false)
  | 41 => ("NumberKeeperModel", "kText", "[B", true)
  | 42 => ("NumberKeeperModel", "kSize", "[I", true)
  | 43 => ("NumberKeeperModel", "kNumber", "[I", true)
  | 44 => ("NumberKeeperModel", "finds", "I", false)
  | 45 => ("NumberKeeperModel", "size", "I", false)
  | 46 => ("NumberKeeperModel", "fFrom", "[I", true)
  | 47 => ("NumberKeeperModel", "fTo", "[I", true)
  | 48 => ("NumberKeeperModel", "fKind", "[I", true)
  | 49 => ("NumberKeeperModel", "fMany", "[I", true)
  | 50 => ("NumberKeeperModel", "fFirst", "[I", true)
  | 51 => ("NumberKeeperModel", "meant", "I", false)
  | _ => ("NumberKeeperModel", "firstMeant", "I", false)
def tyX11 : Nat → FieldType := fun k => match k with
  | 0 => .array .byte
  | 1 => .int
  | 2 => .array .byte
  | 3 => .array .int
  | 4 => .array .int
  | 5 => .array .int
  | 6 => .array .int
  | 7 => .int
  | 8 => .array .int
  | 9 => .array .int
  | 10 => .array .int
  | 11 => .array .int
  | 12 => .int
  | 13 => .array .int
  | 14 => .array .int
  | 15 => .array .int
  | 16 => .array .int
  | 17 => .boolean
  | 18 => .array .int
  | 19 => .array .int
  | 20 => .int
  | 21 => .array .int
  | 22 => .array .int
  | 23 => .array .byte
  | 24 => .array .int
  | 25 => .array .byte
  | 26 => .array .int
  | 27 => .array .byte
  | 28 => .array .int
  | 29 => .int
  | 30 => .array .int
  | 31 => .array .int
  | 32 => .array .int
  | 33 => .array .int
  | 34 => .array .int
  | 35 => .array .int
  | 36 => .array .byte
  | 37 => .int
  | 38 => .int
  | 39 => .array .boolean
  | 40 => .int
  | 41 => .array .byte
  | 42 => .array .int
  | 43 => .array .int
  | 44 => .int
  | 45 => .int
  | 46 => .array .int
  | 47 => .array .int
  | 48 => .array .int
  | 49 => .array .int
  | 50 => .array .int
  | 51 => .int
  | _ => .int
abbrev wsX110 : List Cond := u_ws RX11 TX11 53
theorem nmX11 : ∀ a, a < 53 → ∀ b, b < 53 → a ≠ b → (TX11 a).2.1 ≠ (TX11 b).2.1 := by decide +kernel
theorem tyX11_ok : ∀ k, k < 53 → parseFieldDescriptor (TX11 k).2.2.1 = some (tyX11 k) := by decide +kernel
def TB : List Cond := lw_tbl.filter goodWord
def cnmL : List String := [RX0, RX1, RX2, RX3, RX4, RX5, RX6, RX7, RX8, RX9, RX10, RX11, "java/lang/Math", "java/util/Arrays", "NumberKeeperLaw"]
def cnm (c : Nat) : String := cnmL.getD c ""
def fT : Nat → u_T := fun c => match c with
  | 0 => TX0
  | 1 => TX1
  | 2 => TX2
  | 3 => TX3
  | 4 => TX4
  | 5 => TX5
  | 6 => TX6
  | 7 => TX7
  | 8 => TX8
  | 9 => TX9
  | 10 => TX10
  | _ => TX11
def fN : Nat → Nat := fun c => match c with
  | 0 => 5
  | 1 => 2
  | 2 => 4
  | 3 => 2
  | 4 => 6
  | 5 => 3
  | 6 => 7
  | 7 => 2
  | 8 => 18
  | 9 => 4
  | 10 => 12
  | _ => 53
def fTy : Nat → Nat → FieldType := fun c => match c with
  | 0 => tyX0
  | 1 => tyX1
  | 2 => tyX2
  | 3 => tyX3
  | 4 => tyX4
  | 5 => tyX5
  | 6 => tyX6
  | 7 => tyX7
  | 8 => tyX8
  | 9 => tyX9
  | 10 => tyX10
  | _ => tyX11
abbrev vwCl : List vw_C := [(RX0, TX0, 5), (RX1, TX1, 2), (RX2, TX2, 4), (RX3, TX3, 2), (RX4, TX4, 6), (RX5, TX5, 3), (RX6, TX6, 7), (RX7, TX7, 2), (RX8, TX8, 18), (RX9, TX9, 4), (RX10, TX10, 12), (RX11, TX11, 53)]
/-- field links: own class * 1024 + pool number, field number (64 * class + place) -/
def fLk : List (Nat × Nat) := [(9, 0), (15, 1), (19, 2), (22, 3), (25, 4), (33, 519), (48, 518), (1039, 64), (1045, 65), (2062, 128), (3087, 192), (3093, 193), (4103, 256), (4109, 257), (4113, 258), (4116, 259), (4128, 260), (4132, 261), (5129, 322), (5135, 321), (5139, 320), (5150, 520), (5164, 528), (5168, 527), (5191, 521), (5195, 513), (5202, 525), (5211, 516), (5214, 522), (5217, 517), (5223, 514), (5227, 129), (5232, 515), (5235, 193), (5238, 524), (5241, 523), (5247, 526), (5250, 131), (5257, 130), (6155, 386), (6159, 384), (6163, 385), (6167, 387), (6171, 193), (6203, 128), (6215, 388), (6229, 389), (6232, 390), (6235, 576), (6239, 520), (6244, 513), (6251, 512), (6254, 527), (6257, 524), (6264, 526), (7177, 448), (7183, 256), (7189, 257), (7198, 258), (7227, 193), (7232, 259), (7247, 514), (7251, 128), (7264, 527), (7267, 449), (7270, 260), (7274, 529), (7277, 520), (7280, 524), (7283, 523), (7286, 513), (8201, 521), (8207, 525), (8216, 526), (8220, 527), (8223, 528), (8226, 512), (8229, 513), (8232, 514), (8236, 516), (8240, 517), (8243, 515), (8257, 519), (8265, 518), (8272, 128), (8277, 193), (9233, 576), (9239, 577), (9243, 578), (9247, 579), (9255, 519), (9262, 520), (9265, 521), (10254, 640), (10261, 641), (10267, 576), (10274, 642), (10280, 643), (10286, 645), (10293, 647), (10299, 648), (10308, 650), (10312, 651), (10315, 193), (10330, 128), (10339, 129), (10342, 130), (10345, 131), (10348, 320), (10368, 519), (10382, 512), (10392, 515), (10414, 517), (10417, 513), (10420, 516), (10423, 518), (10429, 644), (10438, 523), (10441, 521), (10448, 524), (10461, 520), (10464, 527), (10493, 256), (10494, 257), (10515, 646), (10521, 649), (10524, 579), (11271, 704), (11277, 706), (11280, 707), (11284, 708), (11287, 709), (11290, 710), (11293, 712), (11296, 713), (11299, 714), (11302, 715), (11305, 717), (11308, 718), (11311, 719), (11314, 720), (11317, 722), (11320, 723), (11323, 725), (11326, 726), (11329, 727), (11332, 728), (11335, 729), (11338, 730), (11341, 731), (11344, 732), (11347, 734), (11350, 735), (11353, 736), (11356, 737), (11359, 738), (11362, 739), (11365, 740), (11368, 743), (11373, 745), (11376, 746), (11379, 747), (11382, 750), (11385, 751), (11388, 752), (11391, 753), (11394, 754), (11397, 705), (11412, 721), (11416, 711), (11434, 716), (11454, 724), (11499, 733), (11508, 741), (11524, 742), (11548, 744), (11551, 749), (11564, 755), (11567, 756), (11573, 748)]
def fLkI : List Nat := [461, 462, 463, 464, 465, 179, 176, 838, 839, 130, 101, 102, 700, 703, 706, 708, 710, 712, 278, 277, 275, 183, 211, 206, 189, 160, 201, 171, 192, 174, 166, 136, 169, 106, 196, 193, 204, 140, 138, 313, 311, 312, 314, 104, 132, 315, 316, 317, 255, 185, 161, 158, 208, 197, 203, 296, 701, 704, 707, 105, 709, 165, 133, 207, 297, 711, 212, 186, 198, 194, 163, 188, 200, 202, 205, 210, 156, 159, 164, 170, 173, 167, 182, 178, 134, 107, 253, 256, 257, 258, 180, 184, 190, 333, 334, 254, 335, 336, 338, 340, 341, 343, 344, 103, 131, 135, 137, 139, 276, 181, 157, 168, 175, 162, 172, 177, 337, 195, 191, 199, 187, 209, 702, 705, 339, 342, 259, 948, 950, 951, 952, 953, 954, 956, 957, 958, 959, 961, 962, 963, 964, 966, 967, 969, 970, 971, 972, 973, 974, 975, 976, 978, 979, 980, 981, 982, 983, 984, 987, 989, 990, 991, 994, 995, 996, 997, 998, 949, 965, 955, 960, 968, 977, 985, 986, 988, 993, 999, 1000, 992]
def fLkW (q : Nat × Nat) : Cond := .fieldLink (cnm (q.1 / 1024)) (q.1 % 1024) (fT (q.2 / 64) (q.2 % 64)).1 (fT (q.2 / 64) (q.2 % 64)).2.1 (fT (q.2 / 64) (q.2 % 64)).2.2.1
def mLk : List (Nat × Nat) := [(3, 900), (28, 64), (37, 63), (41, 69), (45, 2), (51, 66), (1025, 900), (1031, 190), (2051, 900), (2059, 8), (3075, 900), (3081, 190), (3097, 9), (3101, 191), (3104, 901), (3110, 11), (3114, 8), (3116, 16), (4097, 900), (4120, 190), (4135, 72), (5123, 900), (5143, 25), (5146, 26), (5155, 28), (5158, 30), (5161, 31), (5171, 12), (5177, 15), (5181, 192), (5187, 68), (5198, 27), (5205, 901), (5220, 29), (5244, 70), (5253, 9), (5260, 32), (5264, 11), (5267, 34), (5270, 35), (5273, 33), (5279, 36), (5287, 902), (6147, 900), (6176, 40), (6180, 190), (6186, 14), (6194, 41), (6197, 75), (6208, 42), (6211, 44), (6218, 46), (6222, 16), (6226, 43), (6247, 45), (6260, 67), (7171, 900), (7192, 72), (7201, 57), (7205, 58), (7208, 54), (7212, 55), (7216, 48), (7220, 51), (7224, 56), (7236, 11), (7240, 52), (7244, 73), (7256, 9), (7260, 53), (8195, 900), (8213, 8), (8246, 61), (8250, 62), (8254, 60), (8261, 68), (8268, 71), (8280, 11), (8284, 9), (9219, 900), (9230, 59), (9251, 76), (9259, 77), (9268, 75), (9272, 68), (10243, 900), (10251, 8), (10260, 74), (10271, 21), (10292, 47), (10305, 37), (10319, 10), (10322, 75), (10326, 17), (10335, 12), (10352, 78), (10356, 60), (10362, 111), (10365, 80), (10371, 63), (10375, 0), (10378, 112), (10385, 77), (10388, 67), (10395, 22), (10398, 23), (10401, 62), (10404, 64), (10407, 24), (10410, 69), (10426, 65), (10432, 1), (10435, 76), (10444, 110), (10451, 79), (10454, 73), (10457, 14), (10467, 15), (10471, 18), (10474, 19), (10477, 114), (10481, 115), (10485, 5), (10489, 113), (10497, 71), (10501, 48), (10505, 49), (10508, 20), (10511, 50), (10518, 72), (10525, 3), (10526, 13), (10530, 4), (10534, 116), (10538, 117), (10542, 38), (10545, 39), (10549, 81), (10552, 109), (10555, 6), (11265, 900), (11401, 120), (11405, 124), (11409, 123), (11419, 130), (11423, 129), (11427, 132), (11431, 128), (11437, 133), (11441, 127), (11444, 134), (11447, 131), (11451, 149), (11457, 140), (11461, 142), (11464, 144), (11468, 146), (11472, 147), (11475, 141), (11478, 143), (11481, 145), (11484, 148), (11487, 152), (11490, 153), (11493, 155), (11496, 157), (11502, 159), (11505, 176), (11511, 163), (11514, 158), (11517, 166), (11521, 168), (11527, 167), (11530, 171), (11533, 164), (11536, 172), (11539, 165), (11542, 170), (11545, 169), (11554, 181), (11557, 182), (11560, 184), (11570, 185), (11576, 183), (11579, 186), (14345, 82), (14348, 119), (14349, 83), (14353, 121), (14354, 84), (14358, 122), (14359, 85), (14362, 125), (14363, 86), (14367, 126), (14368, 87), (14372, 135), (14373, 88), (14376, 136), (14377, 89), (14380, 137), (14381, 90), (14385, 138), (14386, 91), (14390, 139), (14391, 92), (14394, 150), (14395, 93), (14398, 151), (14399, 94), (14402, 154), (14403, 95), (14406, 156), (14407, 96), (14410, 160), (14411, 97), (14414, 161), (14415, 98), (14418, 162), (14419, 99), (14422, 173), (14423, 100), (14426, 174), (14427, 101), (14430, 175), (14431, 102), (14434, 177), (14435, 103), (14438, 178), (14439, 104), (14442, 179), (14443, 105), (14446, 180), (14447, 106), (14450, 187), (14451, 107), (14454, 188), (14455, 108), (14458, 189)]
def mLkI : List Nat := [460, 643, 644, 645, 646, 650, 834, 835, 127, 129, 97, 98, 378, 409, 412, 405, 850, 613, 697, 698, 802, 274, 494, 510, 514, 525, 587, 595, 609, 498, 501, 505, 509, 518, 521, 528, 529, 590, 532, 535, 584, 539, 542, 310, 887, 919, 891, 893, 897, 899, 906, 915, 898, 903, 910, 914, 295, 766, 771, 774, 778, 782, 790, 791, 794, 807, 808, 816, 812, 813, 153, 155, 452, 604, 634, 625, 770, 678, 679, 119, 150, 431, 427, 447, 936, 89, 94, 116, 271, 292, 307, 374, 390, 394, 401, 423, 435, 439, 443, 448, 457, 477, 485, 486, 490, 591, 596, 600, 605, 621, 630, 639, 658, 659, 666, 674, 680, 688, 694, 726, 730, 742, 746, 754, 758, 762, 786, 798, 803, 825, 831, 845, 851, 859, 875, 883, 924, 932, 937, 863, 946, 1124, 1121, 1127, 1158, 1154, 1162, 1142, 1150, 1138, 1146, 1170, 1174, 1182, 1190, 1198, 1202, 1210, 1178, 1186, 1194, 1206, 1238, 1242, 1250, 1278, 1258, 1270, 1302, 1286, 1290, 1294, 1282, 1306, 1318, 1310, 1314, 1298, 1322, 1354, 1362, 1369, 1373, 1358, 1365, 86, 943, 370, 1109, 382, 1113, 386, 1117, 415, 1130, 419, 1134, 481, 1166, 617, 1214, 626, 1218, 635, 1222, 654, 1226, 662, 1230, 670, 1234, 684, 1246, 689, 1254, 734, 1262, 738, 1266, 750, 1274, 817, 1326, 821, 1330, 826, 1334, 855, 1338, 867, 1342, 871, 1346, 879, 1350, 920, 1377, 928, 1381]
def cLk : List (Nat × Nat) := [(1037, 3), (2057, 3), (3088, 3), (4126, 8), (8211, 3), (9225, 8), (9227, 2), (10249, 3), (10258, 9), (10265, 5), (10278, 0), (10284, 4), (10290, 7), (10297, 1), (10303, 6), (14343, 10), (14346, 11)]
def cLkI : List Nat := [836, 128, 849, 699, 154, 120, 122, 92, 114, 269, 286, 288, 290, 303, 305, 84, 941]
def nLk : List (Nat × Nat) := [(3120, 1118), (6190, 1118), (9229, 1007)]
