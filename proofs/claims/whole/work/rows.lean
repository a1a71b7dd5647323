section
-- ===== PART A: goes FIRST, ahead of the names: the tables' words, and 'selects' of the private methods out of them =====
/-- a private method of a class that the tables say can be made, by its rows of tables_1 -/
def lw_okq (q : MethodName × Nat) : Prop := (q.1.cls ≠ "java/lang/invoke/MethodHandle" ∧ q.1.cls ≠ "java/lang/invoke/VarHandle") ∧ Cond.instantiable q.1.cls q.2 ∈ tables_1 ∧ Cond.privateMethod q.1 ∈ tables_1 ∧ Cond.instanceMethod q.1 ∈ tables_1
theorem lw_p0 : lw_okq (⟨"NumberKeeper", "isLogFull", "()Z"⟩, 12) := ⟨⟨by decide +kernel, by decide +kernel⟩, List.mem_of_getElem? (i := 21) (by decide +kernel), List.mem_of_getElem? (i := 376) (by decide +kernel), List.mem_of_getElem? (i := 377) (by decide +kernel)⟩
theorem lw_p1 : lw_okq (⟨"NumberKeeper", "noteChange", "(LNumberKeeper$Change;)V"⟩, 12) := ⟨⟨by decide +kernel, by decide +kernel⟩, List.mem_of_getElem? (i := 21) (by decide +kernel), List.mem_of_getElem? (i := 414) (by decide +kernel), List.mem_of_getElem? (i := 415) (by decide +kernel)⟩
theorem lw_p2 : lw_okq (⟨"NumberKeeper$Numbering", "lineUp", "()V"⟩, 3) := ⟨⟨by decide +kernel, by decide +kernel⟩, List.mem_of_getElem? (i := 206) (by decide +kernel), List.mem_of_getElem? (i := 431) (by decide +kernel), List.mem_of_getElem? (i := 432) (by decide +kernel)⟩
theorem lw_p3 : lw_okq (⟨"NumberKeeper$Numbering", "rankKids", "(LNumberKeeper$Thing;)V"⟩, 3) := ⟨⟨by decide +kernel, by decide +kernel⟩, List.mem_of_getElem? (i := 206) (by decide +kernel), List.mem_of_getElem? (i := 443) (by decide +kernel), List.mem_of_getElem? (i := 444) (by decide +kernel)⟩
theorem lw_p4 : lw_okq (⟨"NumberKeeper$Numbering", "settle", "(LNumberKeeper$Thing;)V"⟩, 3) := ⟨⟨by decide +kernel, by decide +kernel⟩, List.mem_of_getElem? (i := 206) (by decide +kernel), List.mem_of_getElem? (i := 447) (by decide +kernel), List.mem_of_getElem? (i := 448) (by decide +kernel)⟩
theorem lw_p5 : lw_okq (⟨"NumberKeeper$Change", "takeApart", "()V"⟩, 5) := ⟨⟨by decide +kernel, by decide +kernel⟩, List.mem_of_getElem? (i := 392) (by decide +kernel), List.mem_of_getElem? (i := 575) (by decide +kernel), List.mem_of_getElem? (i := 576) (by decide +kernel)⟩
theorem lw_p6 : lw_okq (⟨"NumberKeeper", "keepMention", "(LNumberKeeper$Mention;)I"⟩, 12) := ⟨⟨by decide +kernel, by decide +kernel⟩, List.mem_of_getElem? (i := 21) (by decide +kernel), List.mem_of_getElem? (i := 659) (by decide +kernel), List.mem_of_getElem? (i := 660) (by decide +kernel)⟩
theorem lw_p7 : lw_okq (⟨"NumberKeeper", "editionOf", "(I)LNumberKeeper$Edition;"⟩, 12) := ⟨⟨by decide +kernel, by decide +kernel⟩, List.mem_of_getElem? (i := 21) (by decide +kernel), List.mem_of_getElem? (i := 671) (by decide +kernel), List.mem_of_getElem? (i := 672) (by decide +kernel)⟩
theorem lw_p8 : lw_okq (⟨"NumberKeeper", "mentionOf", "(I)LNumberKeeper$Mention;"⟩, 12) := ⟨⟨by decide +kernel, by decide +kernel⟩, List.mem_of_getElem? (i := 21) (by decide +kernel), List.mem_of_getElem? (i := 683) (by decide +kernel), List.mem_of_getElem? (i := 684) (by decide +kernel)⟩
theorem lw_p9 : lw_okq (⟨"NumberKeeper$Teller", "latestOfKind", "(LNumberKeeper$Thing;I)LNumberKeeper$Thing;"⟩, 2) := ⟨⟨by decide +kernel, by decide +kernel⟩, List.mem_of_getElem? (i := 227) (by decide +kernel), List.mem_of_getElem? (i := 703) (by decide +kernel), List.mem_of_getElem? (i := 704) (by decide +kernel)⟩
theorem lw_p10 : lw_okq (⟨"NumberKeeper$Teller", "pickMeant", "(LNumberKeeper$Mention;)V"⟩, 2) := ⟨⟨by decide +kernel, by decide +kernel⟩, List.mem_of_getElem? (i := 227) (by decide +kernel), List.mem_of_getElem? (i := 707) (by decide +kernel), List.mem_of_getElem? (i := 708) (by decide +kernel)⟩
theorem lw_p11 : lw_okq (⟨"NumberKeeper$Teller", "pickedBehind", "(LNumberKeeper$Thing;)LNumberKeeper$Thing;"⟩, 2) := ⟨⟨by decide +kernel, by decide +kernel⟩, List.mem_of_getElem? (i := 227) (by decide +kernel), List.mem_of_getElem? (i := 711) (by decide +kernel), List.mem_of_getElem? (i := 712) (by decide +kernel)⟩
theorem lw_p12 : lw_okq (⟨"NumberKeeper$Teller", "lastOfRun", "(LNumberKeeper$Thing;)LNumberKeeper$Thing;"⟩, 2) := ⟨⟨by decide +kernel, by decide +kernel⟩, List.mem_of_getElem? (i := 227) (by decide +kernel), List.mem_of_getElem? (i := 723) (by decide +kernel), List.mem_of_getElem? (i := 724) (by decide +kernel)⟩
theorem lw_p13 : lw_okq (⟨"NumberKeeper$Teller", "writeRange", "(LNumberKeeper$Thing;LNumberKeeper$Line;)V"⟩, 2) := ⟨⟨by decide +kernel, by decide +kernel⟩, List.mem_of_getElem? (i := 227) (by decide +kernel), List.mem_of_getElem? (i := 737) (by decide +kernel), List.mem_of_getElem? (i := 738) (by decide +kernel)⟩
theorem lw_p14 : lw_okq (⟨"NumberKeeper", "firstNamed", "(LNumberKeeper$Edition;I)I"⟩, 12) := ⟨⟨by decide +kernel, by decide +kernel⟩, List.mem_of_getElem? (i := 21) (by decide +kernel), List.mem_of_getElem? (i := 788) (by decide +kernel), List.mem_of_getElem? (i := 789) (by decide +kernel)⟩
theorem lw_p15 : lw_okq (⟨"NumberKeeper", "isStillTold", "(LNumberKeeper$Thing;LNumberKeeper$Line;)Z"⟩, 12) := ⟨⟨by decide +kernel, by decide +kernel⟩, List.mem_of_getElem? (i := 21) (by decide +kernel), List.mem_of_getElem? (i := 804) (by decide +kernel), List.mem_of_getElem? (i := 805) (by decide +kernel)⟩
def lw_privs_1 : List (MethodName × Nat) := [(⟨"NumberKeeper", "isLogFull", "()Z"⟩, 12), (⟨"NumberKeeper", "noteChange", "(LNumberKeeper$Change;)V"⟩, 12), (⟨"NumberKeeper$Numbering", "lineUp", "()V"⟩, 3), (⟨"NumberKeeper$Numbering", "rankKids", "(LNumberKeeper$Thing;)V"⟩, 3), (⟨"NumberKeeper$Numbering", "settle", "(LNumberKeeper$Thing;)V"⟩, 3), (⟨"NumberKeeper$Change", "takeApart", "()V"⟩, 5), (⟨"NumberKeeper", "keepMention", "(LNumberKeeper$Mention;)I"⟩, 12), (⟨"NumberKeeper", "editionOf", "(I)LNumberKeeper$Edition;"⟩, 12), (⟨"NumberKeeper", "mentionOf", "(I)LNumberKeeper$Mention;"⟩, 12), (⟨"NumberKeeper$Teller", "latestOfKind", "(LNumberKeeper$Thing;I)LNumberKeeper$Thing;"⟩, 2), (⟨"NumberKeeper$Teller", "pickMeant", "(LNumberKeeper$Mention;)V"⟩, 2), (⟨"NumberKeeper$Teller", "pickedBehind", "(LNumberKeeper$Thing;)LNumberKeeper$Thing;"⟩, 2), (⟨"NumberKeeper$Teller", "lastOfRun", "(LNumberKeeper$Thing;)LNumberKeeper$Thing;"⟩, 2), (⟨"NumberKeeper$Teller", "writeRange", "(LNumberKeeper$Thing;LNumberKeeper$Line;)V"⟩, 2), (⟨"NumberKeeper", "firstNamed", "(LNumberKeeper$Edition;I)I"⟩, 12), (⟨"NumberKeeper", "isStillTold", "(LNumberKeeper$Thing;LNumberKeeper$Line;)Z"⟩, 12)]
theorem lw_r1 : ∀ q ∈ lw_privs_1, lw_okq q := List.forall_mem_cons.mpr ⟨lw_p0, List.forall_mem_cons.mpr ⟨lw_p1, List.forall_mem_cons.mpr ⟨lw_p2, List.forall_mem_cons.mpr ⟨lw_p3, List.forall_mem_cons.mpr ⟨lw_p4, List.forall_mem_cons.mpr ⟨lw_p5, List.forall_mem_cons.mpr ⟨lw_p6, List.forall_mem_cons.mpr ⟨lw_p7, List.forall_mem_cons.mpr ⟨lw_p8, List.forall_mem_cons.mpr ⟨lw_p9, List.forall_mem_cons.mpr ⟨lw_p10, List.forall_mem_cons.mpr ⟨lw_p11, List.forall_mem_cons.mpr ⟨lw_p12, List.forall_mem_cons.mpr ⟨lw_p13, List.forall_mem_cons.mpr ⟨lw_p14, List.forall_mem_cons.mpr ⟨lw_p15, fun _ h => absurd h List.not_mem_nil⟩⟩⟩⟩⟩⟩⟩⟩⟩⟩⟩⟩⟩⟩⟩⟩
theorem lw_p16 : lw_okq (⟨"NumberKeeper$Reader", "endOfFinding", "(ILNumberKeeper$Thing;)I"⟩, 7) := ⟨⟨by decide +kernel, by decide +kernel⟩, List.mem_of_getElem? (i := 242) (by decide +kernel), List.mem_of_getElem? (i := 816) (by decide +kernel), List.mem_of_getElem? (i := 817) (by decide +kernel)⟩
theorem lw_p17 : lw_okq (⟨"NumberKeeper$Reader", "kindAt", "(I)I"⟩, 7) := ⟨⟨by decide +kernel, by decide +kernel⟩, List.mem_of_getElem? (i := 242) (by decide +kernel), List.mem_of_getElem? (i := 822) (by decide +kernel), List.mem_of_getElem? (i := 823) (by decide +kernel)⟩
theorem lw_p18 : lw_okq (⟨"NumberKeeper$Reader", "endOfRun", "(I)I"⟩, 7) := ⟨⟨by decide +kernel, by decide +kernel⟩, List.mem_of_getElem? (i := 242) (by decide +kernel), List.mem_of_getElem? (i := 828) (by decide +kernel), List.mem_of_getElem? (i := 829) (by decide +kernel)⟩
theorem lw_p19 : lw_okq (⟨"NumberKeeper$Reader", "findMeanings", "(IILNumberKeeper$Thing;)V"⟩, 7) := ⟨⟨by decide +kernel, by decide +kernel⟩, List.mem_of_getElem? (i := 242) (by decide +kernel), List.mem_of_getElem? (i := 835) (by decide +kernel), List.mem_of_getElem? (i := 836) (by decide +kernel)⟩
theorem lw_p20 : lw_okq (⟨"NumberKeeper$Reader", "partFor", "(LNumberKeeper$Thing;ILNumberKeeper$Thing;)I"⟩, 7) := ⟨⟨by decide +kernel, by decide +kernel⟩, List.mem_of_getElem? (i := 242) (by decide +kernel), List.mem_of_getElem? (i := 839) (by decide +kernel), List.mem_of_getElem? (i := 840) (by decide +kernel)⟩
theorem lw_p21 : lw_okq (⟨"NumberKeeper$Reader", "keepFinding", "(III)V"⟩, 7) := ⟨⟨by decide +kernel, by decide +kernel⟩, List.mem_of_getElem? (i := 242) (by decide +kernel), List.mem_of_getElem? (i := 844) (by decide +kernel), List.mem_of_getElem? (i := 845) (by decide +kernel)⟩
theorem lw_p22 : lw_okq (⟨"NumberKeeper", "countOfForm", "(I)I"⟩, 12) := ⟨⟨by decide +kernel, by decide +kernel⟩, List.mem_of_getElem? (i := 21) (by decide +kernel), List.mem_of_getElem? (i := 866) (by decide +kernel), List.mem_of_getElem? (i := 867) (by decide +kernel)⟩
theorem lw_p23 : lw_okq (⟨"NumberKeeperModel", "isThere", "(I)Z"⟩, 53) := ⟨⟨by decide +kernel, by decide +kernel⟩, List.mem_of_getElem? (i := 870) (by decide +kernel), List.mem_of_getElem? (i := 1067) (by decide +kernel), List.mem_of_getElem? (i := 1068) (by decide +kernel)⟩
theorem lw_p24 : lw_okq (⟨"NumberKeeperModel", "hanging", "(I)I"⟩, 53) := ⟨⟨by decide +kernel, by decide +kernel⟩, List.mem_of_getElem? (i := 870) (by decide +kernel), List.mem_of_getElem? (i := 1071) (by decide +kernel), List.mem_of_getElem? (i := 1072) (by decide +kernel)⟩
theorem lw_p25 : lw_okq (⟨"NumberKeeperModel", "change", "(IIII)I"⟩, 53) := ⟨⟨by decide +kernel, by decide +kernel⟩, List.mem_of_getElem? (i := 870) (by decide +kernel), List.mem_of_getElem? (i := 1075) (by decide +kernel), List.mem_of_getElem? (i := 1076) (by decide +kernel)⟩
theorem lw_p26 : lw_okq (⟨"NumberKeeperModel", "does", "(IIII)I"⟩, 53) := ⟨⟨by decide +kernel, by decide +kernel⟩, List.mem_of_getElem? (i := 870) (by decide +kernel), List.mem_of_getElem? (i := 1079) (by decide +kernel), List.mem_of_getElem? (i := 1080) (by decide +kernel)⟩
theorem lw_p27 : lw_okq (⟨"NumberKeeperModel", "putIn", "(III)V"⟩, 53) := ⟨⟨by decide +kernel, by decide +kernel⟩, List.mem_of_getElem? (i := 870) (by decide +kernel), List.mem_of_getElem? (i := 1083) (by decide +kernel), List.mem_of_getElem? (i := 1084) (by decide +kernel)⟩
theorem lw_p28 : lw_okq (⟨"NumberKeeperModel", "takeOut", "(I)V"⟩, 53) := ⟨⟨by decide +kernel, by decide +kernel⟩, List.mem_of_getElem? (i := 870) (by decide +kernel), List.mem_of_getElem? (i := 1087) (by decide +kernel), List.mem_of_getElem? (i := 1088) (by decide +kernel)⟩
theorem lw_p29 : lw_okq (⟨"NumberKeeperModel", "takeAll", "(I)I"⟩, 53) := ⟨⟨by decide +kernel, by decide +kernel⟩, List.mem_of_getElem? (i := 870) (by decide +kernel), List.mem_of_getElem? (i := 1091) (by decide +kernel), List.mem_of_getElem? (i := 1092) (by decide +kernel)⟩
theorem lw_p30 : lw_okq (⟨"NumberKeeperModel", "isBelow", "(II)Z"⟩, 53) := ⟨⟨by decide +kernel, by decide +kernel⟩, List.mem_of_getElem? (i := 870) (by decide +kernel), List.mem_of_getElem? (i := 1099) (by decide +kernel), List.mem_of_getElem? (i := 1100) (by decide +kernel)⟩
theorem lw_p31 : lw_okq (⟨"NumberKeeperModel", "make", "()V"⟩, 53) := ⟨⟨by decide +kernel, by decide +kernel⟩, List.mem_of_getElem? (i := 870) (by decide +kernel), List.mem_of_getElem? (i := 1103) (by decide +kernel), List.mem_of_getElem? (i := 1104) (by decide +kernel)⟩
def lw_privs_2 : List (MethodName × Nat) := [(⟨"NumberKeeper$Reader", "endOfFinding", "(ILNumberKeeper$Thing;)I"⟩, 7), (⟨"NumberKeeper$Reader", "kindAt", "(I)I"⟩, 7), (⟨"NumberKeeper$Reader", "endOfRun", "(I)I"⟩, 7), (⟨"NumberKeeper$Reader", "findMeanings", "(IILNumberKeeper$Thing;)V"⟩, 7), (⟨"NumberKeeper$Reader", "partFor", "(LNumberKeeper$Thing;ILNumberKeeper$Thing;)I"⟩, 7), (⟨"NumberKeeper$Reader", "keepFinding", "(III)V"⟩, 7), (⟨"NumberKeeper", "countOfForm", "(I)I"⟩, 12), (⟨"NumberKeeperModel", "isThere", "(I)Z"⟩, 53), (⟨"NumberKeeperModel", "hanging", "(I)I"⟩, 53), (⟨"NumberKeeperModel", "change", "(IIII)I"⟩, 53), (⟨"NumberKeeperModel", "does", "(IIII)I"⟩, 53), (⟨"NumberKeeperModel", "putIn", "(III)V"⟩, 53), (⟨"NumberKeeperModel", "takeOut", "(I)V"⟩, 53), (⟨"NumberKeeperModel", "takeAll", "(I)I"⟩, 53), (⟨"NumberKeeperModel", "isBelow", "(II)Z"⟩, 53), (⟨"NumberKeeperModel", "make", "()V"⟩, 53)]
theorem lw_r2 : ∀ q ∈ lw_privs_2, lw_okq q := List.forall_mem_cons.mpr ⟨lw_p16, List.forall_mem_cons.mpr ⟨lw_p17, List.forall_mem_cons.mpr ⟨lw_p18, List.forall_mem_cons.mpr ⟨lw_p19, List.forall_mem_cons.mpr ⟨lw_p20, List.forall_mem_cons.mpr ⟨lw_p21, List.forall_mem_cons.mpr ⟨lw_p22, List.forall_mem_cons.mpr ⟨lw_p23, List.forall_mem_cons.mpr ⟨lw_p24, List.forall_mem_cons.mpr ⟨lw_p25, List.forall_mem_cons.mpr ⟨lw_p26, List.forall_mem_cons.mpr ⟨lw_p27, List.forall_mem_cons.mpr ⟨lw_p28, List.forall_mem_cons.mpr ⟨lw_p29, List.forall_mem_cons.mpr ⟨lw_p30, List.forall_mem_cons.mpr ⟨lw_p31, fun _ h => absurd h List.not_mem_nil⟩⟩⟩⟩⟩⟩⟩⟩⟩⟩⟩⟩⟩⟩⟩⟩
theorem lw_p32 : lw_okq (⟨"NumberKeeperModel", "order", "()V"⟩, 53) := ⟨⟨by decide +kernel, by decide +kernel⟩, List.mem_of_getElem? (i := 870) (by decide +kernel), List.mem_of_getElem? (i := 1107) (by decide +kernel), List.mem_of_getElem? (i := 1108) (by decide +kernel)⟩
theorem lw_p33 : lw_okq (⟨"NumberKeeperModel", "childAt", "(II)I"⟩, 53) := ⟨⟨by decide +kernel, by decide +kernel⟩, List.mem_of_getElem? (i := 870) (by decide +kernel), List.mem_of_getElem? (i := 1111) (by decide +kernel), List.mem_of_getElem? (i := 1112) (by decide +kernel)⟩
theorem lw_p34 : lw_okq (⟨"NumberKeeperModel", "sameScope", "(II)Z"⟩, 53) := ⟨⟨by decide +kernel, by decide +kernel⟩, List.mem_of_getElem? (i := 870) (by decide +kernel), List.mem_of_getElem? (i := 1115) (by decide +kernel), List.mem_of_getElem? (i := 1116) (by decide +kernel)⟩
theorem lw_p35 : lw_okq (⟨"NumberKeeperModel", "above", "(II)I"⟩, 53) := ⟨⟨by decide +kernel, by decide +kernel⟩, List.mem_of_getElem? (i := 870) (by decide +kernel), List.mem_of_getElem? (i := 1119) (by decide +kernel), List.mem_of_getElem? (i := 1120) (by decide +kernel)⟩
theorem lw_p36 : lw_okq (⟨"NumberKeeperModel", "makeSign", "(I)V"⟩, 53) := ⟨⟨by decide +kernel, by decide +kernel⟩, List.mem_of_getElem? (i := 870) (by decide +kernel), List.mem_of_getElem? (i := 1123) (by decide +kernel), List.mem_of_getElem? (i := 1124) (by decide +kernel)⟩
theorem lw_p37 : lw_okq (⟨"NumberKeeperModel", "signByte", "(II)V"⟩, 53) := ⟨⟨by decide +kernel, by decide +kernel⟩, List.mem_of_getElem? (i := 870) (by decide +kernel), List.mem_of_getElem? (i := 1127) (by decide +kernel), List.mem_of_getElem? (i := 1128) (by decide +kernel)⟩
theorem lw_p38 : lw_okq (⟨"NumberKeeperModel", "roman", "(IIIII)V"⟩, 53) := ⟨⟨by decide +kernel, by decide +kernel⟩, List.mem_of_getElem? (i := 870) (by decide +kernel), List.mem_of_getElem? (i := 1131) (by decide +kernel), List.mem_of_getElem? (i := 1132) (by decide +kernel)⟩
theorem lw_p39 : lw_okq (⟨"NumberKeeperModel", "makeNumber", "(I)V"⟩, 53) := ⟨⟨by decide +kernel, by decide +kernel⟩, List.mem_of_getElem? (i := 870) (by decide +kernel), List.mem_of_getElem? (i := 1135) (by decide +kernel), List.mem_of_getElem? (i := 1136) (by decide +kernel)⟩
theorem lw_p40 : lw_okq (⟨"NumberKeeperModel", "numberByte", "(II)V"⟩, 53) := ⟨⟨by decide +kernel, by decide +kernel⟩, List.mem_of_getElem? (i := 870) (by decide +kernel), List.mem_of_getElem? (i := 1139) (by decide +kernel), List.mem_of_getElem? (i := 1140) (by decide +kernel)⟩
theorem lw_p41 : lw_okq (⟨"NumberKeeperModel", "toldSize", "(I)I"⟩, 53) := ⟨⟨by decide +kernel, by decide +kernel⟩, List.mem_of_getElem? (i := 870) (by decide +kernel), List.mem_of_getElem? (i := 1167) (by decide +kernel), List.mem_of_getElem? (i := 1168) (by decide +kernel)⟩
theorem lw_p42 : lw_okq (⟨"NumberKeeperModel", "toldByte", "(II)I"⟩, 53) := ⟨⟨by decide +kernel, by decide +kernel⟩, List.mem_of_getElem? (i := 870) (by decide +kernel), List.mem_of_getElem? (i := 1171) (by decide +kernel), List.mem_of_getElem? (i := 1172) (by decide +kernel)⟩
theorem lw_p43 : lw_okq (⟨"NumberKeeperModel", "sameNumber", "(II)Z"⟩, 53) := ⟨⟨by decide +kernel, by decide +kernel⟩, List.mem_of_getElem? (i := 870) (by decide +kernel), List.mem_of_getElem? (i := 1179) (by decide +kernel), List.mem_of_getElem? (i := 1180) (by decide +kernel)⟩
theorem lw_p44 : lw_okq (⟨"NumberKeeperModel", "tell", "(IIII)I"⟩, 53) := ⟨⟨by decide +kernel, by decide +kernel⟩, List.mem_of_getElem? (i := 870) (by decide +kernel), List.mem_of_getElem? (i := 1187) (by decide +kernel), List.mem_of_getElem? (i := 1188) (by decide +kernel)⟩
theorem lw_p45 : lw_okq (⟨"NumberKeeperModel", "had", "(II)Z"⟩, 53) := ⟨⟨by decide +kernel, by decide +kernel⟩, List.mem_of_getElem? (i := 870) (by decide +kernel), List.mem_of_getElem? (i := 1199) (by decide +kernel), List.mem_of_getElem? (i := 1200) (by decide +kernel)⟩
theorem lw_p46 : lw_okq (⟨"NumberKeeperModel", "follow", "(I)I"⟩, 53) := ⟨⟨by decide +kernel, by decide +kernel⟩, List.mem_of_getElem? (i := 870) (by decide +kernel), List.mem_of_getElem? (i := 1207) (by decide +kernel), List.mem_of_getElem? (i := 1208) (by decide +kernel)⟩
theorem lw_p47 : lw_okq (⟨"NumberKeeperModel", "leadsOf", "(I)I"⟩, 53) := ⟨⟨by decide +kernel, by decide +kernel⟩, List.mem_of_getElem? (i := 870) (by decide +kernel), List.mem_of_getElem? (i := 1211) (by decide +kernel), List.mem_of_getElem? (i := 1212) (by decide +kernel)⟩
def lw_privs_3 : List (MethodName × Nat) := [(⟨"NumberKeeperModel", "order", "()V"⟩, 53), (⟨"NumberKeeperModel", "childAt", "(II)I"⟩, 53), (⟨"NumberKeeperModel", "sameScope", "(II)Z"⟩, 53), (⟨"NumberKeeperModel", "above", "(II)I"⟩, 53), (⟨"NumberKeeperModel", "makeSign", "(I)V"⟩, 53), (⟨"NumberKeeperModel", "signByte", "(II)V"⟩, 53), (⟨"NumberKeeperModel", "roman", "(IIIII)V"⟩, 53), (⟨"NumberKeeperModel", "makeNumber", "(I)V"⟩, 53), (⟨"NumberKeeperModel", "numberByte", "(II)V"⟩, 53), (⟨"NumberKeeperModel", "toldSize", "(I)I"⟩, 53), (⟨"NumberKeeperModel", "toldByte", "(II)I"⟩, 53), (⟨"NumberKeeperModel", "sameNumber", "(II)Z"⟩, 53), (⟨"NumberKeeperModel", "tell", "(IIII)I"⟩, 53), (⟨"NumberKeeperModel", "had", "(II)Z"⟩, 53), (⟨"NumberKeeperModel", "follow", "(I)I"⟩, 53), (⟨"NumberKeeperModel", "leadsOf", "(I)I"⟩, 53)]
theorem lw_r3 : ∀ q ∈ lw_privs_3, lw_okq q := List.forall_mem_cons.mpr ⟨lw_p32, List.forall_mem_cons.mpr ⟨lw_p33, List.forall_mem_cons.mpr ⟨lw_p34, List.forall_mem_cons.mpr ⟨lw_p35, List.forall_mem_cons.mpr ⟨lw_p36, List.forall_mem_cons.mpr ⟨lw_p37, List.forall_mem_cons.mpr ⟨lw_p38, List.forall_mem_cons.mpr ⟨lw_p39, List.forall_mem_cons.mpr ⟨lw_p40, List.forall_mem_cons.mpr ⟨lw_p41, List.forall_mem_cons.mpr ⟨lw_p42, List.forall_mem_cons.mpr ⟨lw_p43, List.forall_mem_cons.mpr ⟨lw_p44, List.forall_mem_cons.mpr ⟨lw_p45, List.forall_mem_cons.mpr ⟨lw_p46, List.forall_mem_cons.mpr ⟨lw_p47, fun _ h => absurd h List.not_mem_nil⟩⟩⟩⟩⟩⟩⟩⟩⟩⟩⟩⟩⟩⟩⟩⟩
theorem lw_p48 : lw_okq (⟨"NumberKeeperModel", "leadOf", "(I)I"⟩, 53) := ⟨⟨by decide +kernel, by decide +kernel⟩, List.mem_of_getElem? (i := 870) (by decide +kernel), List.mem_of_getElem? (i := 1215) (by decide +kernel), List.mem_of_getElem? (i := 1216) (by decide +kernel)⟩
theorem lw_p49 : lw_okq (⟨"NumberKeeperModel", "beside", "(III)I"⟩, 53) := ⟨⟨by decide +kernel, by decide +kernel⟩, List.mem_of_getElem? (i := 870) (by decide +kernel), List.mem_of_getElem? (i := 1219) (by decide +kernel), List.mem_of_getElem? (i := 1220) (by decide +kernel)⟩
theorem lw_p50 : lw_okq (⟨"NumberKeeperModel", "means", "(I)V"⟩, 53) := ⟨⟨by decide +kernel, by decide +kernel⟩, List.mem_of_getElem? (i := 870) (by decide +kernel), List.mem_of_getElem? (i := 1223) (by decide +kernel), List.mem_of_getElem? (i := 1224) (by decide +kernel)⟩
theorem lw_p51 : lw_okq (⟨"NumberKeeperModel", "makeLine", "(I)V"⟩, 53) := ⟨⟨by decide +kernel, by decide +kernel⟩, List.mem_of_getElem? (i := 870) (by decide +kernel), List.mem_of_getElem? (i := 1227) (by decide +kernel), List.mem_of_getElem? (i := 1228) (by decide +kernel)⟩
theorem lw_p52 : lw_okq (⟨"NumberKeeperModel", "lineByte", "(I)V"⟩, 53) := ⟨⟨by decide +kernel, by decide +kernel⟩, List.mem_of_getElem? (i := 870) (by decide +kernel), List.mem_of_getElem? (i := 1231) (by decide +kernel), List.mem_of_getElem? (i := 1232) (by decide +kernel)⟩
theorem lw_p53 : lw_okq (⟨"NumberKeeperModel", "lineRuns", "(I)V"⟩, 53) := ⟨⟨by decide +kernel, by decide +kernel⟩, List.mem_of_getElem? (i := 870) (by decide +kernel), List.mem_of_getElem? (i := 1235) (by decide +kernel), List.mem_of_getElem? (i := 1236) (by decide +kernel)⟩
theorem lw_p54 : lw_okq (⟨"NumberKeeperModel", "endRun", "(II)V"⟩, 53) := ⟨⟨by decide +kernel, by decide +kernel⟩, List.mem_of_getElem? (i := 870) (by decide +kernel), List.mem_of_getElem? (i := 1239) (by decide +kernel), List.mem_of_getElem? (i := 1240) (by decide +kernel)⟩
theorem lw_p55 : lw_okq (⟨"NumberKeeperModel", "lineNumber", "(I)V"⟩, 53) := ⟨⟨by decide +kernel, by decide +kernel⟩, List.mem_of_getElem? (i := 870) (by decide +kernel), List.mem_of_getElem? (i := 1243) (by decide +kernel), List.mem_of_getElem? (i := 1244) (by decide +kernel)⟩
theorem lw_p56 : lw_okq (⟨"NumberKeeperModel", "lineThing", "(I)V"⟩, 53) := ⟨⟨by decide +kernel, by decide +kernel⟩, List.mem_of_getElem? (i := 870) (by decide +kernel), List.mem_of_getElem? (i := 1247) (by decide +kernel), List.mem_of_getElem? (i := 1248) (by decide +kernel)⟩
theorem lw_p57 : lw_okq (⟨"NumberKeeperModel", "goneOf", "(I)I"⟩, 53) := ⟨⟨by decide +kernel, by decide +kernel⟩, List.mem_of_getElem? (i := 870) (by decide +kernel), List.mem_of_getElem? (i := 1251) (by decide +kernel), List.mem_of_getElem? (i := 1252) (by decide +kernel)⟩
theorem lw_p58 : lw_okq (⟨"NumberKeeperModel", "see", "(I)I"⟩, 53) := ⟨⟨by decide +kernel, by decide +kernel⟩, List.mem_of_getElem? (i := 870) (by decide +kernel), List.mem_of_getElem? (i := 1283) (by decide +kernel), List.mem_of_getElem? (i := 1284) (by decide +kernel)⟩
theorem lw_p59 : lw_okq (⟨"NumberKeeperModel", "stands", "(II)Z"⟩, 53) := ⟨⟨by decide +kernel, by decide +kernel⟩, List.mem_of_getElem? (i := 870) (by decide +kernel), List.mem_of_getElem? (i := 1287) (by decide +kernel), List.mem_of_getElem? (i := 1288) (by decide +kernel)⟩
theorem lw_p60 : lw_okq (⟨"NumberKeeperModel", "look", "(IIII)V"⟩, 53) := ⟨⟨by decide +kernel, by decide +kernel⟩, List.mem_of_getElem? (i := 870) (by decide +kernel), List.mem_of_getElem? (i := 1294) (by decide +kernel), List.mem_of_getElem? (i := 1295) (by decide +kernel)⟩
theorem lw_p61 : lw_okq (⟨"NumberKeeperModel", "isPart", "([BIIII)Z"⟩, 53) := ⟨⟨by decide +kernel, by decide +kernel⟩, List.mem_of_getElem? (i := 870) (by decide +kernel), List.mem_of_getElem? (i := 1298) (by decide +kernel), List.mem_of_getElem? (i := 1299) (by decide +kernel)⟩
theorem lw_p62 : lw_okq (⟨"NumberKeeperModel", "isSignPart", "(III)Z"⟩, 53) := ⟨⟨by decide +kernel, by decide +kernel⟩, List.mem_of_getElem? (i := 870) (by decide +kernel), List.mem_of_getElem? (i := 1302) (by decide +kernel), List.mem_of_getElem? (i := 1303) (by decide +kernel)⟩
def lw_privs_4 : List (MethodName × Nat) := [(⟨"NumberKeeperModel", "leadOf", "(I)I"⟩, 53), (⟨"NumberKeeperModel", "beside", "(III)I"⟩, 53), (⟨"NumberKeeperModel", "means", "(I)V"⟩, 53), (⟨"NumberKeeperModel", "makeLine", "(I)V"⟩, 53), (⟨"NumberKeeperModel", "lineByte", "(I)V"⟩, 53), (⟨"NumberKeeperModel", "lineRuns", "(I)V"⟩, 53), (⟨"NumberKeeperModel", "endRun", "(II)V"⟩, 53), (⟨"NumberKeeperModel", "lineNumber", "(I)V"⟩, 53), (⟨"NumberKeeperModel", "lineThing", "(I)V"⟩, 53), (⟨"NumberKeeperModel", "goneOf", "(I)I"⟩, 53), (⟨"NumberKeeperModel", "see", "(I)I"⟩, 53), (⟨"NumberKeeperModel", "stands", "(II)Z"⟩, 53), (⟨"NumberKeeperModel", "look", "(IIII)V"⟩, 53), (⟨"NumberKeeperModel", "isPart", "([BIIII)Z"⟩, 53), (⟨"NumberKeeperModel", "isSignPart", "(III)Z"⟩, 53)]
theorem lw_r4 : ∀ q ∈ lw_privs_4, lw_okq q := List.forall_mem_cons.mpr ⟨lw_p48, List.forall_mem_cons.mpr ⟨lw_p49, List.forall_mem_cons.mpr ⟨lw_p50, List.forall_mem_cons.mpr ⟨lw_p51, List.forall_mem_cons.mpr ⟨lw_p52, List.forall_mem_cons.mpr ⟨lw_p53, List.forall_mem_cons.mpr ⟨lw_p54, List.forall_mem_cons.mpr ⟨lw_p55, List.forall_mem_cons.mpr ⟨lw_p56, List.forall_mem_cons.mpr ⟨lw_p57, List.forall_mem_cons.mpr ⟨lw_p58, List.forall_mem_cons.mpr ⟨lw_p59, List.forall_mem_cons.mpr ⟨lw_p60, List.forall_mem_cons.mpr ⟨lw_p61, List.forall_mem_cons.mpr ⟨lw_p62, fun _ h => absurd h List.not_mem_nil⟩⟩⟩⟩⟩⟩⟩⟩⟩⟩⟩⟩⟩⟩⟩
def lw_privs : List (MethodName × Nat) := lw_privs_1 ++ (lw_privs_2 ++ (lw_privs_3 ++ (lw_privs_4)))
def lw_tbl : List Cond := k2_sels lw_privs ++ tables_1
theorem lw_privs_ok : ∀ q ∈ lw_privs, lw_okq q := by
  show ∀ q ∈ lw_privs_1 ++ (lw_privs_2 ++ (lw_privs_3 ++ (lw_privs_4))), lw_okq q
  exact List.forall_mem_append.mpr ⟨lw_r1, List.forall_mem_append.mpr ⟨lw_r2, List.forall_mem_append.mpr ⟨lw_r3, lw_r4⟩⟩⟩
-- ===== end of PART A =====
def RX0 : String := "NumberKeeper$Change"
def TX0 : u_T := fun k => match k with
  | 0 => ("NumberKeeper$Change", "deed", "I", true)
  | 1 => ("NumberKeeper$Change", "thing", "LNumberKeeper$Thing;", true)
  | 2 => ("NumberKeeper$Change", "up", "LNumberKeeper$Thing;", true)
  | 3 => ("NumberKeeper$Change", "index", "I", true)
  | _ => ("NumberKeeper$Change", "firstKid", "LNumberKeeper$Thing;", true)
def tyX0 : Nat → FieldType := fun k => match k with
  | 0 => .int
  | 1 => .object "NumberKeeper$Thing"
  | 2 => .object "NumberKeeper$Thing"
  | 3 => .int
  | _ => .object "NumberKeeper$Thing"
abbrev wsX00 : List Cond := u_ws RX0 TX0 5
theorem nmX0 : ∀ a, a < 5 → ∀ b, b < 5 → a ≠ b → (TX0 a).2.1 ≠ (TX0 b).2.1 := by decide +kernel
theorem tyX0_ok : ∀ k, k < 5 → parseFieldDescriptor (TX0 k).2.2.1 = some (tyX0 k) := by decide +kernel
def RX1 : String := "NumberKeeper$Edition"
def TX1 : u_T := fun k => match k with
  | 0 => ("NumberKeeper$Edition", "tolds", "[LNumberKeeper$Line;", true)
  | _ => ("NumberKeeper$Edition", "names", "[LNumberKeeper$Line;", true)
def tyX1 : Nat → FieldType := fun k => match k with
  | 0 => .array (.object "NumberKeeper$Line")
  | _ => .array (.object "NumberKeeper$Line")
abbrev wsX10 : List Cond := u_ws RX1 TX1 2
theorem nmX1 : ∀ a, a < 2 → ∀ b, b < 2 → a ≠ b → (TX1 a).2.1 ≠ (TX1 b).2.1 := by decide +kernel
theorem tyX1_ok : ∀ k, k < 2 → parseFieldDescriptor (TX1 k).2.2.1 = some (tyX1 k) := by decide +kernel
def RX2 : String := "NumberKeeper$Form"
def TX2 : u_T := fun k => match k with
  | 0 => ("NumberKeeper$Form", "word", "LNumberKeeper$Line;", true)
  | 1 => ("NumberKeeper$Form", "scope", "I", false)
  | 2 => ("NumberKeeper$Form", "style", "I", false)
  | _ => ("NumberKeeper$Form", "join", "I", false)
def tyX2 : Nat → FieldType := fun k => match k with
  | 0 => .object "NumberKeeper$Line"
  | 1 => .int
  | 2 => .int
  | _ => .int
abbrev wsX20 : List Cond := u_ws RX2 TX2 4
theorem nmX2 : ∀ a, a < 4 → ∀ b, b < 4 → a ≠ b → (TX2 a).2.1 ≠ (TX2 b).2.1 := by decide +kernel
theorem tyX2_ok : ∀ k, k < 4 → parseFieldDescriptor (TX2 k).2.2.1 = some (tyX2 k) := by decide +kernel
def RX3 : String := "NumberKeeper$Line"
def TX3 : u_T := fun k => match k with
  | 0 => ("NumberKeeper$Line", "bytes", "[B", true)
  | _ => ("NumberKeeper$Line", "size", "I", false)
def tyX3 : Nat → FieldType := fun k => match k with
  | 0 => .array .byte
  | _ => .int
abbrev wsX30 : List Cond := u_ws RX3 TX3 2
theorem nmX3 : ∀ a, a < 2 → ∀ b, b < 2 → a ≠ b → (TX3 a).2.1 ≠ (TX3 b).2.1 := by decide +kernel
theorem tyX3_ok : ∀ k, k < 2 → parseFieldDescriptor (TX3 k).2.2.1 = some (tyX3 k) := by decide +kernel
def RX4 : String := "NumberKeeper$Mention"
def TX4 : u_T := fun k => match k with
  | 0 => ("NumberKeeper$Mention", "kind", "I", true)
  | 1 => ("NumberKeeper$Mention", "in", "LNumberKeeper$Thing;", true)
  | 2 => ("NumberKeeper$Mention", "kindMeant", "I", true)
  | 3 => ("NumberKeeper$Mention", "frozenText", "LNumberKeeper$Line;", true)
  | 4 => ("NumberKeeper$Mention", "meant", "[LNumberKeeper$Thing;", true)
  | _ => ("NumberKeeper$Mention", "size", "I", false)
def tyX4 : Nat → FieldType := fun k => match k with
  | 0 => .int
  | 1 => .object "NumberKeeper$Thing"
  | 2 => .int
  | 3 => .object "NumberKeeper$Line"
  | 4 => .array (.object "NumberKeeper$Thing")
  | _ => .int
abbrev wsX40 : List Cond := u_ws RX4 TX4 6
theorem nmX4 : ∀ a, a < 6 → ∀ b, b < 6 → a ≠ b → (TX4 a).2.1 ≠ (TX4 b).2.1 := by decide +kernel
theorem tyX4_ok : ∀ k, k < 6 → parseFieldDescriptor (TX4 k).2.2.1 = some (tyX4 k) := by decide +kernel
def RX5 : String := "NumberKeeper$Numbering"
def TX5 : u_T := fun k => match k with
  | 0 => ("NumberKeeper$Numbering", "stale", "Z", false)
  | 1 => ("NumberKeeper$Numbering", "text", "LNumberKeeper$Thing;", true)
  | _ => ("NumberKeeper$Numbering", "tally", "[I", true)
def tyX5 : Nat → FieldType := fun k => match k with
  | 0 => .boolean
  | 1 => .object "NumberKeeper$Thing"
  | _ => .array .int
abbrev wsX50 : List Cond := u_ws RX5 TX5 3
theorem nmX5 : ∀ a, a < 3 → ∀ b, b < 3 → a ≠ b → (TX5 a).2.1 ≠ (TX5 b).2.1 := by decide +kernel
theorem tyX5_ok : ∀ k, k < 3 → parseFieldDescriptor (TX5 k).2.2.1 = some (tyX5 k) := by decide +kernel
def RX6 : String := "NumberKeeper$Reader"
def TX6 : u_T := fun k => match k with
  | 0 => ("NumberKeeper$Reader", "tape", "LNumberKeeper$Line;", true)
  | 1 => ("NumberKeeper$Reader", "tree", "LNumberKeeper$Tree;", true)
  | 2 => ("NumberKeeper$Reader", "cells", "[I", true)
  | 3 => ("NumberKeeper$Reader", "found", "I", false)
  | 4 => ("NumberKeeper$Reader", "part", "I", false)
  | 5 => ("NumberKeeper$Reader", "meanings", "I", false)
  | _ => ("NumberKeeper$Reader", "firstMeaning", "I", false)
def tyX6 : Nat → FieldType := fun k => match k with
  | 0 => .object "NumberKeeper$Line"
  | 1 => .object "NumberKeeper$Tree"
  | 2 => .array .int
  | 3 => .int
  | 4 => .int
  | 5 => .int
  | _ => .int
abbrev wsX60 : List Cond := u_ws RX6 TX6 7
theorem nmX6 : ∀ a, a < 7 → ∀ b, b < 7 → a ≠ b → (TX6 a).2.1 ≠ (TX6 b).2.1 := by decide +kernel
theorem tyX6_ok : ∀ k, k < 7 → parseFieldDescriptor (TX6 k).2.2.1 = some (tyX6 k) := by decide +kernel
def RX7 : String := "NumberKeeper$Teller"
def TX7 : u_T := fun k => match k with
  | 0 => ("NumberKeeper$Teller", "text", "LNumberKeeper$Thing;", true)
  | _ => ("NumberKeeper$Teller", "stamp", "I", false)
def tyX7 : Nat → FieldType := fun k => match k with
  | 0 => .object "NumberKeeper$Thing"
  | _ => .int
abbrev wsX70 : List Cond := u_ws RX7 TX7 2
theorem nmX7 : ∀ a, a < 2 → ∀ b, b < 2 → a ≠ b → (TX7 a).2.1 ≠ (TX7 b).2.1 := by decide +kernel
theorem tyX7_ok : ∀ k, k < 2 → parseFieldDescriptor (TX7 k).2.2.1 = some (tyX7 k) := by decide +kernel
def RX8 : String := "NumberKeeper$Thing"
def TX8 : u_T := fun k => match k with
  | 0 => ("NumberKeeper$Thing", "number", "I", true)
  | 1 => ("NumberKeeper$Thing", "kind", "I", true)
  | 2 => ("NumberKeeper$Thing", "form", "LNumberKeeper$Form;", true)
  | 3 => ("NumberKeeper$Thing", "up", "LNumberKeeper$Thing;", false)
  | 4 => ("NumberKeeper$Thing", "first", "LNumberKeeper$Thing;", false)
  | 5 => ("NumberKeeper$Thing", "next", "LNumberKeeper$Thing;", false)
  | 6 => ("NumberKeeper$Thing", "into", "LNumberKeeper$Thing;", false)
  | 7 => ("NumberKeeper$Thing", "there", "Z", false)
  | 8 => ("NumberKeeper$Thing", "behind", "LNumberKeeper$Thing;", false)
  | 9 => ("NumberKeeper$Thing", "place", "I", false)
  | 10 => ("NumberKeeper$Thing", "rank", "I", false)
  | 11 => ("NumberKeeper$Thing", "count", "I", false)
  | 12 => ("NumberKeeper$Thing", "base", "LNumberKeeper$Thing;", false)
  | 13 => ("NumberKeeper$Thing", "seen", "[I", true)
  | 14 => ("NumberKeeper$Thing", "mark", "LNumberKeeper$Line;", true)
  | 15 => ("NumberKeeper$Thing", "name", "LNumberKeeper$Line;", true)
  | 16 => ("NumberKeeper$Thing", "before", "LNumberKeeper$Line;", true)
  | _ => ("NumberKeeper$Thing", "picked", "I", false)
def tyX8 : Nat → FieldType := fun k => match k with
  | 0 => .int
  | 1 => .int
  | 2 => .object "NumberKeeper$Form"
  | 3 => .object "NumberKeeper$Thing"
  | 4 => .object "NumberKeeper$Thing"
  | 5 => .object "NumberKeeper$Thing"
  | 6 => .object "NumberKeeper$Thing"
  | 7 => .boolean
  | 8 => .object "NumberKeeper$Thing"
  | 9 => .int
  | 10 => .int
  | 11 => .int
  | 12 => .object "NumberKeeper$Thing"
  | 13 => .array .int
  | 14 => .object "NumberKeeper$Line"
  | 15 => .object "NumberKeeper$Line"
  | 16 => .object "NumberKeeper$Line"
  | _ => .int
abbrev wsX80 : List Cond := u_ws RX8 TX8 18
theorem nmX8 : ∀ a, a < 18 → ∀ b, b < 18 → a ≠ b → (TX8 a).2.1 ≠ (TX8 b).2.1 := by decide +kernel
theorem tyX8_ok : ∀ k, k < 18 → parseFieldDescriptor (TX8 k).2.2.1 = some (tyX8 k) := by decide +kernel
def RX9 : String := "NumberKeeper$Tree"
def TX9 : u_T := fun k => match k with
  | 0 => ("NumberKeeper$Tree", "text", "LNumberKeeper$Thing;", true)
  | 1 => ("NumberKeeper$Tree", "things", "[LNumberKeeper$Thing;", true)
  | 2 => ("NumberKeeper$Tree", "forms", "[LNumberKeeper$Form;", true)
  | _ => ("NumberKeeper$Tree", "size", "I", false)
def tyX9 : Nat → FieldType := fun k => match k with
  | 0 => .object "NumberKeeper$Thing"
  | 1 => .array (.object "NumberKeeper$Thing")
  | 2 => .array (.object "NumberKeeper$Form")
  | _ => .int
abbrev wsX90 : List Cond := u_ws RX9 TX9 4
theorem nmX9 : ∀ a, a < 4 → ∀ b, b < 4 → a ≠ b → (TX9 a).2.1 ≠ (TX9 b).2.1 := by decide +kernel
theorem tyX9_ok : ∀ k, k < 4 → parseFieldDescriptor (TX9 k).2.2.1 = some (tyX9 k) := by decide +kernel
def RX10 : String := "NumberKeeper"
def TX10 : u_T := fun k => match k with
  | 0 => ("NumberKeeper", "tape", "LNumberKeeper$Line;", true)
  | 1 => ("NumberKeeper", "tree", "LNumberKeeper$Tree;", true)
  | 2 => ("NumberKeeper", "numbering", "LNumberKeeper$Numbering;", true)
  | 3 => ("NumberKeeper", "log", "[LNumberKeeper$Change;", true)
  | 4 => ("NumberKeeper", "logged", "I", false)
  | 5 => ("NumberKeeper", "mentions", "[LNumberKeeper$Mention;", true)
  | 6 => ("NumberKeeper", "mentioned", "I", false)
  | 7 => ("NumberKeeper", "teller", "LNumberKeeper$Teller;", true)
  | 8 => ("NumberKeeper", "editions", "[LNumberKeeper$Edition;", true)
  | 9 => ("NumberKeeper", "edited", "I", false)
  | 10 => ("NumberKeeper", "reader", "LNumberKeeper$Reader;", true)
  | _ => ("NumberKeeper", "scratch", "LNumberKeeper$Line;", true)
def tyX10 : Nat → FieldType := fun k => match k with
  | 0 => .object "NumberKeeper$Line"
  | 1 => .object "NumberKeeper$Tree"
  | 2 => .object "NumberKeeper$Numbering"
  | 3 => .array (.object "NumberKeeper$Change")
  | 4 => .int
  | 5 => .array (.object "NumberKeeper$Mention")
  | 6 => .int
  | 7 => .object "NumberKeeper$Teller"
  | 8 => .array (.object "NumberKeeper$Edition")
  | 9 => .int
  | 10 => .object "NumberKeeper$Reader"
  | _ => .object "NumberKeeper$Line"
abbrev wsX100 : List Cond := u_ws RX10 TX10 12
theorem nmX10 : ∀ a, a < 12 → ∀ b, b < 12 → a ≠ b → (TX10 a).2.1 ≠ (TX10 b).2.1 := by decide +kernel
theorem tyX10_ok : ∀ k, k < 12 → parseFieldDescriptor (TX10 k).2.2.1 = some (tyX10 k) := by decide +kernel
def RX11 : String := "NumberKeeperModel"
def TX11 : u_T := fun k => match k with
  | 0 => ("NumberKeeperModel", "tape", "[B", true)
  | 1 => ("NumberKeeperModel", "taped", "I", false)
  | 2 => ("NumberKeeperModel", "wordText", "[B", true)
  | 3 => ("NumberKeeperModel", "wordSize", "[I", true)
  | 4 => ("NumberKeeperModel", "scope", "[I", true)
  | 5 => ("NumberKeeperModel", "style", "[I", true)
  | 6 => ("NumberKeeperModel", "join", "[I", true)
  | 7 => ("NumberKeeperModel", "things", "I", false)
  | 8 => ("NumberKeeperModel", "kind", "[I", true)
  | 9 => ("NumberKeeperModel", "on", "[I", true)
  | 10 => ("NumberKeeperModel", "place", "[I", true)
  | 11 => ("NumberKeeperModel", "into", "[I", true)
  | 12 => ("NumberKeeperModel", "entries", "I", false)
  | 13 => ("NumberKeeperModel", "eCode", "[I", true)
  | 14 => ("NumberKeeperModel", "eA", "[I", true)
  | 15 => ("NumberKeeperModel", "eB", "[I", true)
  | 16 => ("NumberKeeperModel", "eC", "[I", true)
  | 17 => ("NumberKeeperModel", "isMade", "Z", false)
  | 18 => ("NumberKeeperModel", "ordered", "[I", true)
  | 19 => ("NumberKeeperModel", "at", "[I", true)
  | 20 => ("NumberKeeperModel", "there", "I", false)
  | 21 => ("NumberKeeperModel", "count", "[I", true)
  | 22 => ("NumberKeeperModel", "base", "[I", true)
  | 23 => ("NumberKeeperModel", "numberText", "[B", true)
  | 24 => ("NumberKeeperModel", "numberSize", "[I", true)
  | 25 => ("NumberKeeperModel", "signText", "[B", true)
  | 26 => ("NumberKeeperModel", "signSize", "[I", true)
  | 27 => ("NumberKeeperModel", "oldText", "[B", true)
  | 28 => ("NumberKeeperModel", "oldSize", "[I", true)
  | 29 => ("NumberKeeperModel", "mentions", "I", false)
  | 30 => ("NumberKeeperModel", "mIn", "[I", true)
  | 31 => ("NumberKeeperModel", "mKind", "[I", true)
  | 32 => ("NumberKeeperModel", "mOf", "[I", true)
  | 33 => ("NumberKeeperModel", "mEdition", "[I", true)
  | 34 => ("NumberKeeperModel", "mMany", "[I", true)
  | 35 => ("NumberKeeperModel", "mThing", "[I", true)
  | 36 => ("NumberKeeperModel", "line", "[B", true)
  | 37 => ("NumberKeeperModel", "lineSize", "I", false)
  | 38 => ("NumberKeeperModel", "runs", "I", false)
  | 39 => ("NumberKeeperModel", "isMeant", "[Z", true)
  | 40 => ("NumberKeeperModel", "editions", "I", false)
  | 41 => ("NumberKeeperModel", "kText", "[B", true)
  | 42 => ("NumberKeeperModel", "kSize", "[I", true)
  | 43 => ("NumberKeeperModel", "kNumber", "[I", true)
  | 44 => ("NumberKeeperModel", "finds", "I", false)
  | 45 => ("NumberKeeperModel", "size", "I", false)
  | 46 => ("NumberKeeperModel", "fFrom", "[I", true)
  | 47 => ("NumberKeeperModel", "fTo", "[I", true)
  | 48 => ("NumberKeeperModel", "fKind", "[I", true)
  | 49 => ("NumberKeeperModel", "fMany", "[I", true)
  | 50 => ("NumberKeeperModel", "fFirst", "[I", true)
  | 51 => ("NumberKeeperModel", "meant", "I", false)
  | _ => ("NumberKeeperModel", "firstMeant", "I", false)
def tyX11 : Nat → FieldType := fun k => match k with
  | 0 => .array .byte
  | 1 => .int
  | 2 => .array .byte
  | 3 => .array .int
  | 4 => .array .int
  | 5 => .array .int
  | 6 => .array .int
  | 7 => .int
  | 8 => .array .int
  | 9 => .array .int
  | 10 => .array .int
  | 11 => .array .int
  | 12 => .int
  | 13 => .array .int
  | 14 => .array .int
  | 15 => .array .int
  | 16 => .array .int
  | 17 => .boolean
  | 18 => .array .int
  | 19 => .array .int
  | 20 => .int
  | 21 => .array .int
  | 22 => .array .int
  | 23 => .array .byte
  | 24 => .array .int
  | 25 => .array .byte
  | 26 => .array .int
  | 27 => .array .byte
  | 28 => .array .int
  | 29 => .int
  | 30 => .array .int
  | 31 => .array .int
  | 32 => .array .int
  | 33 => .array .int
  | 34 => .array .int
  | 35 => .array .int
  | 36 => .array .byte
  | 37 => .int
  | 38 => .int
  | 39 => .array .boolean
  | 40 => .int
  | 41 => .array .byte
  | 42 => .array .int
  | 43 => .array .int
  | 44 => .int
  | 45 => .int
  | 46 => .array .int
  | 47 => .array .int
  | 48 => .array .int
  | 49 => .array .int
  | 50 => .array .int
  | 51 => .int
  | _ => .int
abbrev wsX110 : List Cond := u_ws RX11 TX11 53
theorem nmX11 : ∀ a, a < 53 → ∀ b, b < 53 → a ≠ b → (TX11 a).2.1 ≠ (TX11 b).2.1 := by decide +kernel
theorem tyX11_ok : ∀ k, k < 53 → parseFieldDescriptor (TX11 k).2.2.1 = some (tyX11 k) := by decide +kernel
def TB : List Cond := lw_tbl.filter goodWord
def cnmL : List String := [RX0, RX1, RX2, RX3, RX4, RX5, RX6, RX7, RX8, RX9, RX10, RX11, "java/lang/Math", "java/util/Arrays", "NumberKeeperLaw"]
def cnm (c : Nat) : String := cnmL.getD c ""
def fT : Nat → u_T := fun c => match c with
  | 0 => TX0
  | 1 => TX1
  | 2 => TX2
  | 3 => TX3
  | 4 => TX4
  | 5 => TX5
  | 6 => TX6
  | 7 => TX7
  | 8 => TX8
  | 9 => TX9
  | 10 => TX10
  | _ => TX11
def fN : Nat → Nat := fun c => match c with
  | 0 => 5
  | 1 => 2
  | 2 => 4
  | 3 => 2
  | 4 => 6
  | 5 => 3
  | 6 => 7
  | 7 => 2
  | 8 => 18
  | 9 => 4
  | 10 => 12
  | _ => 53
def fTy : Nat → Nat → FieldType := fun c => match c with
  | 0 => tyX0
  | 1 => tyX1
  | 2 => tyX2
  | 3 => tyX3
  | 4 => tyX4
  | 5 => tyX5
  | 6 => tyX6
  | 7 => tyX7
  | 8 => tyX8
  | 9 => tyX9
  | 10 => tyX10
  | _ => tyX11
abbrev vwCl : List vw_C := [(RX0, TX0, 5), (RX1, TX1, 2), (RX2, TX2, 4), (RX3, TX3, 2), (RX4, TX4, 6), (RX5, TX5, 3), (RX6, TX6, 7), (RX7, TX7, 2), (RX8, TX8, 18), (RX9, TX9, 4), (RX10, TX10, 12), (RX11, TX11, 53)]
/-- field links: own class * 1024 + pool number, field number (64 * class + place) -/
def fLk : List (Nat × Nat) := [(9, 0), (15, 1), (19, 2), (22, 3), (25, 4), (33, 519), (48, 518), (1039, 64), (1045, 65), (2062, 128), (3087, 192), (3093, 193), (4103, 256), (4109, 257), (4113, 258), (4116, 259), (4128, 260), (4132, 261), (5129, 322), (5135, 321), (5139, 320), (5150, 520), (5164, 528), (5168, 527), (5191, 521), (5195, 513), (5198, 525), (5207, 516), (5210, 522), (5213, 517), (5219, 514), (5223, 129), (5228, 515), (5231, 193), (5234, 524), (5237, 523), (5240, 526), (5243, 131), (5250, 130), (6155, 386), (6159, 384), (6163, 385), (6167, 387), (6171, 193), (6203, 128), (6215, 388), (6229, 389), (6232, 390), (6235, 576), (6239, 520), (6244, 513), (6251, 512), (6254, 527), (6257, 524), (6264, 526), (7177, 448), (7183, 256), (7189, 257), (7198, 258), (7227, 193), (7232, 259), (7247, 514), (7251, 128), (7264, 527), (7267, 449), (7270, 260), (7274, 529), (7277, 520), (7280, 524), (7283, 523), (7286, 513), (8201, 521), (8207, 525), (8216, 526), (8220, 527), (8223, 528), (8226, 512), (8229, 513), (8232, 514), (8236, 516), (8240, 517), (8243, 515), (8257, 519), (8265, 518), (8272, 128), (8277, 193), (9233, 576), (9239, 577), (9243, 578), (9247, 579), (9255, 519), (9262, 520), (9265, 521), (10254, 640), (10261, 641), (10267, 576), (10274, 642), (10280, 643), (10286, 645), (10293, 647), (10299, 648), (10308, 650), (10312, 651), (10315, 193), (10330, 128), (10339, 129), (10342, 130), (10345, 131), (10348, 320), (10368, 519), (10382, 512), (10392, 515), (10414, 517), (10417, 513), (10420, 516), (10423, 518), (10429, 644), (10438, 523), (10441, 521), (10448, 524), (10461, 520), (10464, 527), (10493, 256), (10494, 257), (10515, 646), (10521, 649), (10524, 579), (11271, 704), (11277, 706), (11280, 707), (11284, 708), (11287, 709), (11290, 710), (11293, 712), (11296, 713), (11299, 714), (11302, 715), (11305, 717), (11308, 718), (11311, 719), (11314, 720), (11317, 722), (11320, 723), (11323, 725), (11326, 726), (11329, 727), (11332, 728), (11335, 729), (11338, 730), (11341, 731), (11344, 732), (11347, 734), (11350, 735), (11353, 736), (11356, 737), (11359, 738), (11362, 739), (11365, 740), (11368, 743), (11373, 745), (11376, 746), (11379, 747), (11382, 750), (11385, 751), (11388, 752), (11391, 753), (11394, 754), (11397, 705), (11412, 721), (11416, 711), (11434, 716), (11454, 724), (11499, 733), (11508, 741), (11524, 742), (11548, 744), (11551, 749), (11564, 755), (11567, 756), (11573, 748)]
def fLkI : List Nat := [460, 461, 462, 463, 464, 178, 175, 829, 830, 129, 100, 101, 691, 694, 697, 699, 701, 703, 277, 276, 274, 182, 210, 205, 188, 159, 200, 170, 191, 173, 165, 135, 167, 105, 195, 192, 202, 139, 137, 312, 310, 311, 313, 103, 131, 314, 315, 316, 254, 184, 160, 157, 207, 196, 203, 295, 692, 695, 698, 104, 700, 164, 132, 206, 296, 702, 211, 185, 197, 193, 162, 187, 199, 201, 204, 209, 155, 158, 163, 169, 172, 166, 181, 177, 133, 106, 252, 255, 256, 257, 179, 183, 189, 332, 333, 253, 334, 335, 337, 339, 340, 342, 343, 102, 130, 134, 136, 138, 275, 180, 156, 168, 174, 161, 171, 176, 336, 194, 190, 198, 186, 208, 693, 696, 338, 341, 258, 939, 941, 942, 943, 944, 945, 947, 948, 949, 950, 952, 953, 954, 955, 957, 958, 960, 961, 962, 963, 964, 965, 966, 967, 969, 970, 971, 972, 973, 974, 975, 978, 980, 981, 982, 985, 986, 987, 988, 989, 940, 956, 946, 951, 959, 968, 976, 977, 979, 984, 990, 991, 983]
def fLkW (q : Nat × Nat) : Cond := .fieldLink (cnm (q.1 / 1024)) (q.1 % 1024) (fT (q.2 / 64) (q.2 % 64)).1 (fT (q.2 / 64) (q.2 % 64)).2.1 (fT (q.2 / 64) (q.2 % 64)).2.2.1
def mLk : List (Nat × Nat) := [(3, 900), (28, 63), (37, 62), (41, 68), (45, 2), (51, 65), (1025, 900), (1031, 188), (2051, 900), (2059, 8), (3075, 900), (3081, 188), (3097, 9), (3101, 189), (3104, 901), (3110, 11), (3114, 8), (3116, 16), (4097, 900), (4120, 188), (4135, 70), (5123, 900), (5143, 25), (5146, 26), (5155, 27), (5158, 29), (5161, 30), (5171, 12), (5177, 15), (5181, 190), (5187, 67), (5201, 901), (5216, 28), (5246, 9), (5253, 31), (5257, 11), (5260, 33), (5263, 34), (5266, 32), (5272, 35), (5280, 902), (6147, 900), (6176, 39), (6180, 188), (6186, 14), (6194, 40), (6197, 73), (6208, 41), (6211, 43), (6218, 45), (6222, 16), (6226, 42), (6247, 44), (6260, 66), (7171, 900), (7192, 70), (7201, 56), (7205, 57), (7208, 53), (7212, 54), (7216, 47), (7220, 50), (7224, 55), (7236, 11), (7240, 51), (7244, 71), (7256, 9), (7260, 52), (8195, 900), (8213, 8), (8246, 60), (8250, 61), (8254, 59), (8261, 67), (8268, 69), (8280, 11), (8284, 9), (9219, 900), (9230, 58), (9251, 74), (9259, 75), (9268, 73), (9272, 67), (10243, 900), (10251, 8), (10260, 72), (10271, 21), (10292, 46), (10305, 36), (10319, 10), (10322, 73), (10326, 17), (10335, 12), (10352, 76), (10356, 59), (10362, 109), (10365, 78), (10371, 62), (10375, 0), (10378, 110), (10385, 75), (10388, 66), (10395, 22), (10398, 23), (10401, 61), (10404, 63), (10407, 24), (10410, 68), (10426, 64), (10432, 1), (10435, 74), (10444, 108), (10451, 77), (10454, 71), (10457, 14), (10467, 15), (10471, 18), (10474, 19), (10477, 112), (10481, 113), (10485, 5), (10489, 111), (10497, 69), (10501, 47), (10505, 48), (10508, 20), (10511, 49), (10518, 70), (10525, 3), (10526, 13), (10530, 4), (10534, 114), (10538, 115), (10542, 37), (10545, 38), (10549, 79), (10552, 107), (10555, 6), (11265, 900), (11401, 118), (11405, 122), (11409, 121), (11419, 128), (11423, 127), (11427, 130), (11431, 126), (11437, 131), (11441, 125), (11444, 132), (11447, 129), (11451, 147), (11457, 138), (11461, 140), (11464, 142), (11468, 144), (11472, 145), (11475, 139), (11478, 141), (11481, 143), (11484, 146), (11487, 150), (11490, 151), (11493, 153), (11496, 155), (11502, 157), (11505, 174), (11511, 161), (11514, 156), (11517, 164), (11521, 166), (11527, 165), (11530, 169), (11533, 162), (11536, 170), (11539, 163), (11542, 168), (11545, 167), (11554, 179), (11557, 180), (11560, 182), (11570, 183), (11576, 181), (11579, 184), (14345, 80), (14348, 117), (14349, 81), (14353, 119), (14354, 82), (14358, 120), (14359, 83), (14362, 123), (14363, 84), (14367, 124), (14368, 85), (14372, 133), (14373, 86), (14376, 134), (14377, 87), (14380, 135), (14381, 88), (14385, 136), (14386, 89), (14390, 137), (14391, 90), (14394, 148), (14395, 91), (14398, 149), (14399, 92), (14402, 152), (14403, 93), (14406, 154), (14407, 94), (14410, 158), (14411, 95), (14414, 159), (14415, 96), (14418, 160), (14419, 97), (14422, 171), (14423, 98), (14426, 172), (14427, 99), (14430, 173), (14431, 100), (14434, 175), (14435, 101), (14438, 176), (14439, 102), (14442, 177), (14443, 103), (14446, 178), (14447, 104), (14450, 185), (14451, 105), (14454, 186), (14455, 106), (14458, 187)]
def mLkI : List Nat := [459, 634, 635, 636, 637, 641, 825, 826, 126, 128, 96, 97, 377, 408, 411, 404, 841, 604, 688, 689, 793, 273, 493, 505, 509, 516, 578, 586, 600, 497, 500, 504, 513, 519, 520, 581, 523, 526, 575, 530, 533, 309, 878, 910, 882, 884, 888, 890, 897, 906, 889, 894, 901, 905, 294, 757, 762, 765, 769, 773, 781, 782, 785, 798, 799, 807, 803, 804, 152, 154, 451, 595, 625, 616, 761, 669, 670, 118, 149, 430, 426, 446, 927, 88, 93, 115, 270, 291, 306, 373, 389, 393, 400, 422, 434, 438, 442, 447, 456, 476, 484, 485, 489, 582, 587, 591, 596, 612, 621, 630, 649, 650, 657, 665, 671, 679, 685, 717, 721, 733, 737, 745, 749, 753, 777, 789, 794, 816, 822, 836, 842, 850, 866, 874, 915, 923, 928, 854, 937, 1115, 1112, 1118, 1149, 1145, 1153, 1133, 1141, 1129, 1137, 1161, 1165, 1173, 1181, 1189, 1193, 1201, 1169, 1177, 1185, 1197, 1229, 1233, 1241, 1269, 1249, 1261, 1293, 1277, 1281, 1285, 1273, 1297, 1309, 1301, 1305, 1289, 1313, 1345, 1353, 1360, 1364, 1349, 1356, 85, 934, 369, 1100, 381, 1104, 385, 1108, 414, 1121, 418, 1125, 480, 1157, 608, 1205, 617, 1209, 626, 1213, 645, 1217, 653, 1221, 661, 1225, 675, 1237, 680, 1245, 725, 1253, 729, 1257, 741, 1265, 808, 1317, 812, 1321, 817, 1325, 846, 1329, 858, 1333, 862, 1337, 870, 1341, 911, 1368, 919, 1372]
def cLk : List (Nat × Nat) := [(1037, 3), (2057, 3), (3088, 3), (4126, 8), (8211, 3), (9225, 8), (9227, 2), (10249, 3), (10258, 9), (10265, 5), (10278, 0), (10284, 4), (10290, 7), (10297, 1), (10303, 6), (14343, 10), (14346, 11)]
def cLkI : List Nat := [827, 127, 840, 690, 153, 119, 121, 91, 113, 268, 285, 287, 289, 302, 304, 83, 932]
def nLk : List (Nat × Nat) := [(3120, 1116), (6190, 1116), (9229, 1007)]
end
section
abbrev Ins : Type := Nat × Instr × Nat × Nat

abbrev m_Change_init : Nat := 0
abbrev m_Change_takeBack : Nat := 1
abbrev m_Change_takeApart : Nat := 2
abbrev m_Edition_init : Nat := 3
abbrev m_Edition_keep : Nat := 4
abbrev m_Edition_toldOf : Nat := 5
abbrev m_Edition_nameOf : Nat := 6
abbrev m_Form_init : Nat := 7
abbrev m_Line_init : Nat := 8
abbrev m_Line_put : Nat := 9
abbrev m_Line_putFour : Nat := 10
abbrev m_Line_putLine : Nat := 11
abbrev m_Line_setTo : Nat := 12
abbrev m_Line_copy : Nat := 13
abbrev m_Line_byteAt : Nat := 14
abbrev m_Line_isSame : Nat := 15
abbrev m_Line_standsIn : Nat := 16
abbrev m_Line_isLettersAlone : Nat := 17
abbrev m_Mention_init : Nat := 18
abbrev m_Mention_addMeant : Nat := 19
abbrev m_Mention_countGone : Nat := 20
abbrev m_Numbering_init : Nat := 21
abbrev m_Numbering_renew : Nat := 22
abbrev m_Numbering_rememberNumbers : Nat := 23
abbrev m_Numbering_countOtherNumbers : Nat := 24
abbrev m_Numbering_lineUp : Nat := 25
abbrev m_Numbering_rankKids : Nat := 26
abbrev m_Numbering_settle : Nat := 27
abbrev m_Numbering_nearestAbove : Nat := 28
abbrev m_Numbering_writeMark : Nat := 29
abbrev m_Numbering_writeName : Nat := 30
abbrev m_Numbering_putSign : Nat := 31
abbrev m_Numbering_putFigures : Nat := 32
abbrev m_Numbering_putLetters : Nat := 33
abbrev m_Numbering_putRoman : Nat := 34
abbrev m_Numbering_putRomanDigit : Nat := 35
abbrev m_Reader_init : Nat := 36
abbrev m_Reader_readTape : Nat := 37
abbrev m_Reader_cell : Nat := 38
abbrev m_Reader_endOfFinding : Nat := 39
abbrev m_Reader_kindAt : Nat := 40
abbrev m_Reader_endOfRun : Nat := 41
abbrev m_Reader_isOfNumber : Nat := 42
abbrev m_Reader_findMeanings : Nat := 43
abbrev m_Reader_partFor : Nat := 44
abbrev m_Reader_keepFinding : Nat := 45
abbrev m_Teller_init : Nat := 46
abbrev m_Teller_firstMeant : Nat := 47
abbrev m_Teller_countRuns : Nat := 48
abbrev m_Teller_writeText : Nat := 49
abbrev m_Teller_hasText : Nat := 50
abbrev m_Teller_writeRange : Nat := 51
abbrev m_Teller_writeRun : Nat := 52
abbrev m_Teller_pickMeant : Nat := 53
abbrev m_Teller_pickedBehind : Nat := 54
abbrev m_Teller_lastOfRun : Nat := 55
abbrev m_Teller_nextOfKind : Nat := 56
abbrev m_Teller_latestOfKind : Nat := 57
abbrev m_Thing_init : Nat := 58
abbrev m_Thing_kidCount : Nat := 59
abbrev m_Thing_kidAt : Nat := 60
abbrev m_Thing_index : Nat := 61
abbrev m_Thing_hangOn : Nat := 62
abbrev m_Thing_leave : Nat := 63
abbrev m_Thing_takeKids : Nat := 64
abbrev m_Thing_giveKids : Nat := 65
abbrev m_Thing_isWithin : Nat := 66
abbrev m_Thing_nextWithin : Nat := 67
abbrev m_Thing_setAllThere : Nat := 68
abbrev m_Thing_lead : Nat := 69
abbrev m_Thing_leadThere : Nat := 70
abbrev m_Thing_tellTo : Nat := 71
abbrev m_Tree_init : Nat := 72
abbrev m_Tree_formOf : Nat := 73
abbrev m_Tree_numbered : Nat := 74
abbrev m_Tree_thereAs : Nat := 75
abbrev m_Tree_hostOf : Nat := 76
abbrev m_Tree_placedAt : Nat := 77
abbrev m_Tree_grow : Nat := 78
abbrev m_Tree_countThere : Nat := 79
abbrev m_NK_init : Nat := 80
abbrev m_NK_feed : Nat := 81
abbrev m_NK_end : Nat := 82
abbrev m_NK_word : Nat := 83
abbrev m_NK_form : Nat := 84
abbrev m_NK_add : Nat := 85
abbrev m_NK_move : Nat := 86
abbrev m_NK_cut : Nat := 87
abbrev m_NK_join : Nat := 88
abbrev m_NK_undo : Nat := 89
abbrev m_NK_thing : Nat := 90
abbrev m_NK_at : Nat := 91
abbrev m_NK_told : Nat := 92
abbrev m_NK_twins : Nat := 93
abbrev m_NK_mention : Nat := 94
abbrev m_NK_range : Nat := 95
abbrev m_NK_frozen : Nat := 96
abbrev m_NK_about : Nat := 97
abbrev m_NK_text : Nat := 98
abbrev m_NK_trouble : Nat := 99
abbrev m_NK_edition : Nat := 100
abbrev m_NK_old : Nat := 101
abbrev m_NK_leads : Nat := 102
abbrev m_NK_changed : Nat := 103
abbrev m_NK_read : Nat := 104
abbrev m_NK_finding : Nat := 105
abbrev m_NK_count : Nat := 106
abbrev m_NK_countOfForm : Nat := 107
abbrev m_NK_numberOf : Nat := 108
abbrev m_NK_isLogFull : Nat := 109
abbrev m_NK_noteChange : Nat := 110
abbrev m_NK_mentionOf : Nat := 111
abbrev m_NK_keepMention : Nat := 112
abbrev m_NK_editionOf : Nat := 113
abbrev m_NK_firstNamed : Nat := 114
abbrev m_NK_isStillTold : Nat := 115
abbrev m_NK_isLetter : Nat := 116
abbrev m_M_init : Nat := 117
abbrev m_M_in : Nat := 118
abbrev m_M_feed : Nat := 119
abbrev m_M_end : Nat := 120
abbrev m_M_isLetter : Nat := 121
abbrev m_M_isKind : Nat := 122
abbrev m_M_word : Nat := 123
abbrev m_M_form : Nat := 124
abbrev m_M_isThere : Nat := 125
abbrev m_M_hanging : Nat := 126
abbrev m_M_putIn : Nat := 127
abbrev m_M_takeOut : Nat := 128
abbrev m_M_isBelow : Nat := 129
abbrev m_M_takeAll : Nat := 130
abbrev m_M_does : Nat := 131
abbrev m_M_change : Nat := 132
abbrev m_M_add : Nat := 133
abbrev m_M_move : Nat := 134
abbrev m_M_cut : Nat := 135
abbrev m_M_join : Nat := 136
abbrev m_M_undo : Nat := 137
abbrev m_M_childAt : Nat := 138
abbrev m_M_order : Nat := 139
abbrev m_M_above : Nat := 140
abbrev m_M_sameScope : Nat := 141
abbrev m_M_signByte : Nat := 142
abbrev m_M_makeSign : Nat := 143
abbrev m_M_roman : Nat := 144
abbrev m_M_numberByte : Nat := 145
abbrev m_M_makeNumber : Nat := 146
abbrev m_M_make : Nat := 147
abbrev m_M_thing : Nat := 148
abbrev m_M_at : Nat := 149
abbrev m_M_toldSize : Nat := 150
abbrev m_M_toldByte : Nat := 151
abbrev m_M_told : Nat := 152
abbrev m_M_sameNumber : Nat := 153
abbrev m_M_twins : Nat := 154
abbrev m_M_follow : Nat := 155
abbrev m_M_leadOf : Nat := 156
abbrev m_M_tell : Nat := 157
abbrev m_M_mention : Nat := 158
abbrev m_M_range : Nat := 159
abbrev m_M_frozen : Nat := 160
abbrev m_M_lineByte : Nat := 161
abbrev m_M_lineThing : Nat := 162
abbrev m_M_lineNumber : Nat := 163
abbrev m_M_beside : Nat := 164
abbrev m_M_leadsOf : Nat := 165
abbrev m_M_means : Nat := 166
abbrev m_M_goneOf : Nat := 167
abbrev m_M_makeLine : Nat := 168
abbrev m_M_lineRuns : Nat := 169
abbrev m_M_endRun : Nat := 170
abbrev m_M_about : Nat := 171
abbrev m_M_text : Nat := 172
abbrev m_M_trouble : Nat := 173
abbrev m_M_had : Nat := 174
abbrev m_M_edition : Nat := 175
abbrev m_M_old : Nat := 176
abbrev m_M_leads : Nat := 177
abbrev m_M_changed : Nat := 178
abbrev m_M_see : Nat := 179
abbrev m_M_isOfRun : Nat := 180
abbrev m_M_stands : Nat := 181
abbrev m_M_isPart : Nat := 182
abbrev m_M_isSignPart : Nat := 183
abbrev m_M_look : Nat := 184
abbrev m_M_read : Nat := 185
abbrev m_M_finding : Nat := 186
abbrev m_M_count : Nat := 187
abbrev m_Math_max : Nat := 188
abbrev m_Math_min : Nat := 189
abbrev m_Arrays_fill : Nat := 190
abbrev m_law : Nat := 191
def cd0 : List Ins := [(0, .aload_n 0, 1, 0), (1, .invokespecial 3, 4, 900), (4, .aload_n 0, 5, 0), (5, .iload_n 1, 6, 0), (6, .putfield 9, 9, 0), (9, .aload_n 0, 10, 0), (10, .aload_n 2, 11, 0), (11, .putfield 15, 14, 1), (14, .aload_n 0, 15, 0), (15, .aload_n 3, 16, 0), (16, .putfield 19, 19, 2), (19, .aload_n 0, 20, 0), (20, .iload 4, 22, 0), (22, .putfield 22, 25, 3), (25, .aload_n 0, 26, 0), (26, .aload 5, 28, 0), (28, .putfield 25, 31, 4), (31, .return_, 32, 0)]
def cd1 : List Ins := [(0, .aload_n 0, 1, 0), (1, .getfield 9, 4, 0), (4, .tableswitch 98 0 2 #[28, 46, 71], 32, 0), (32, .aload_n 0, 33, 0), (33, .getfield 15, 36, 1), (36, .invokevirtual 28, 39, 63), (39, .aload_n 0, 40, 0), (40, .getfield 15, 43, 1), (43, .iconst 0, 44, 0), (44, .putfield 33, 47, 519), (47, .goto 74, 50, 121), (50, .aload_n 0, 51, 0), (51, .getfield 15, 54, 1), (54, .invokevirtual 28, 57, 63), (57, .aload_n 0, 58, 0), (58, .getfield 15, 61, 1), (61, .aload_n 0, 62, 0), (62, .getfield 19, 65, 2), (65, .aload_n 0, 66, 0), (66, .getfield 22, 69, 3), (69, .invokevirtual 37, 72, 62), (72, .goto 49, 75, 121), (75, .aload_n 0, 76, 0), (76, .getfield 15, 79, 1), (79, .iconst 1, 80, 0), (80, .invokevirtual 41, 83, 68), (83, .pop, 84, 0), (84, .aload_n 0, 85, 0), (85, .getfield 15, 88, 1), (88, .aload_n 0, 89, 0), (89, .getfield 19, 92, 2), (92, .aload_n 0, 93, 0), (93, .getfield 22, 96, 3), (96, .invokevirtual 37, 99, 62), (99, .goto 22, 102, 121), (102, .aload_n 0, 103, 0), (103, .invokevirtual 45, 106, 2), (106, .aload_n 0, 107, 0), (107, .getfield 15, 110, 1), (110, .aload_n 0, 111, 0), (111, .getfield 19, 114, 2), (114, .aload_n 0, 115, 0), (115, .getfield 22, 118, 3), (118, .invokevirtual 37, 121, 62), (121, .return_, 122, 0)]
def cd2 : List Ins := [(0, .aload_n 0, 1, 0), (1, .getfield 15, 4, 1), (4, .getfield 48, 7, 518), (7, .ifnull 21, 10, 28), (10, .aload_n 0, 11, 0), (11, .getfield 15, 14, 1), (14, .getfield 48, 17, 518), (17, .aload_n 0, 18, 0), (18, .getfield 25, 21, 4), (21, .aload_n 0, 22, 0), (22, .getfield 15, 25, 1), (25, .invokevirtual 51, 28, 65), (28, .aload_n 0, 29, 0), (29, .getfield 15, 32, 1), (32, .aconst_null, 33, 0), (33, .putfield 48, 36, 518), (36, .aload_n 0, 37, 0), (37, .getfield 15, 40, 1), (40, .iconst 1, 41, 0), (41, .putfield 33, 44, 519), (44, .return_, 45, 0)]
def cd3 : List Ins := [(0, .aload_n 0, 1, 0), (1, .invokespecial 1, 4, 900), (4, .aload_n 0, 5, 0), (5, .iload_n 1, 6, 0), (6, .iconst 0, 7, 0), (7, .invokestatic 7, 10, 188), (10, .anewarray 13, 13, 33), (13, .putfield 15, 16, 64), (16, .aload_n 0, 17, 0), (17, .iload_n 1, 18, 0), (18, .iconst 0, 19, 0), (19, .invokestatic 7, 22, 188), (22, .anewarray 13, 25, 33), (25, .putfield 21, 28, 65), (28, .return_, 29, 0)]
def cd4 : List Ins := [(0, .iload_n 1, 1, 0), (1, .ifCond .lt 35, 4, 36), (4, .iload_n 1, 5, 0), (5, .aload_n 0, 6, 0), (6, .getfield 15, 9, 64), (9, .arraylength, 10, 0), (10, .if_icmp .ge 26, 13, 36), (13, .iload_n 1, 14, 0), (14, .aload_n 0, 15, 0), (15, .getfield 21, 18, 65), (18, .arraylength, 19, 0), (19, .if_icmp .ge 17, 22, 36), (22, .aload_n 0, 23, 0), (23, .getfield 15, 26, 64), (26, .iload_n 1, 27, 0), (27, .aload_n 2, 28, 0), (28, .aastore, 29, 0), (29, .aload_n 0, 30, 0), (30, .getfield 21, 33, 65), (33, .iload_n 1, 34, 0), (34, .aload_n 3, 35, 0), (35, .aastore, 36, 0), (36, .return_, 37, 0)]
def cd5 : List Ins := [(0, .iload_n 1, 1, 0), (1, .ifCond .lt 21, 4, 22), (4, .iload_n 1, 5, 0), (5, .aload_n 0, 6, 0), (6, .getfield 15, 9, 64), (9, .arraylength, 10, 0), (10, .if_icmp .ge 12, 13, 22), (13, .aload_n 0, 14, 0), (14, .getfield 15, 17, 64), (17, .iload_n 1, 18, 0), (18, .aaload, 19, 0), (19, .goto 4, 22, 23), (22, .aconst_null, 23, 0), (23, .areturn, 24, 0)]
def cd6 : List Ins := [(0, .iload_n 1, 1, 0), (1, .ifCond .lt 21, 4, 22), (4, .iload_n 1, 5, 0), (5, .aload_n 0, 6, 0), (6, .getfield 21, 9, 65), (9, .arraylength, 10, 0), (10, .if_icmp .ge 12, 13, 22), (13, .aload_n 0, 14, 0), (14, .getfield 21, 17, 65), (17, .iload_n 1, 18, 0), (18, .aaload, 19, 0), (19, .goto 4, 22, 23), (22, .aconst_null, 23, 0), (23, .areturn, 24, 0)]
def cd7 : List Ins := [(0, .aload_n 0, 1, 0), (1, .invokespecial 3, 4, 900), (4, .aload_n 0, 5, 0), (5, .new 9, 8, 3), (8, .dup, 9, 0), (9, .bipush 10, 11, 0), (11, .invokespecial 11, 14, 8), (14, .putfield 14, 17, 128), (17, .return_, 18, 0)]
def cd8 : List Ins := [(0, .aload_n 0, 1, 0), (1, .invokespecial 3, 4, 900), (4, .aload_n 0, 5, 0), (5, .iload_n 1, 6, 0), (6, .iconst 0, 7, 0), (7, .invokestatic 9, 10, 188), (10, .newarray .byte, 12, 20), (12, .putfield 15, 15, 192), (15, .return_, 16, 0)]
def cd9 : List Ins := [(0, .aload_n 0, 1, 0), (1, .getfield 21, 4, 193), (4, .aload_n 0, 5, 0), (5, .getfield 15, 8, 192), (8, .arraylength, 9, 0), (9, .if_icmp .ge 24, 12, 33), (12, .aload_n 0, 13, 0), (13, .getfield 15, 16, 192), (16, .aload_n 0, 17, 0), (17, .getfield 21, 20, 193), (20, .iload_n 1, 21, 0), (21, .i2b, 22, 0), (22, .bastore, 23, 0), (23, .aload_n 0, 24, 0), (24, .dup, 25, 0), (25, .getfield 21, 28, 193), (28, .iconst 1, 29, 0), (29, .iadd, 30, 0), (30, .putfield 21, 33, 193), (33, .return_, 34, 0)]
def cd10 : List Ins := [(0, .aload_n 0, 1, 0), (1, .iload_n 1, 2, 0), (2, .bipush 24, 4, 0), (4, .iushr, 5, 0), (5, .invokevirtual 25, 8, 9), (8, .aload_n 0, 9, 0), (9, .iload_n 1, 10, 0), (10, .bipush 16, 12, 0), (12, .iushr, 13, 0), (13, .invokevirtual 25, 16, 9), (16, .aload_n 0, 17, 0), (17, .iload_n 1, 18, 0), (18, .bipush 8, 20, 0), (20, .iushr, 21, 0), (21, .invokevirtual 25, 24, 9), (24, .aload_n 0, 25, 0), (25, .iload_n 1, 26, 0), (26, .invokevirtual 25, 29, 9), (29, .return_, 30, 0)]
def cd11 : List Ins := [(0, .aload_n 1, 1, 0), (1, .getfield 21, 4, 193), (4, .aload_n 0, 5, 0), (5, .getfield 15, 8, 192), (8, .arraylength, 9, 0), (9, .aload_n 0, 10, 0), (10, .getfield 21, 13, 193), (13, .isub, 14, 0), (14, .invokestatic 29, 17, 189), (17, .istore_n 2, 18, 0), (18, .aload_n 1, 19, 0), (19, .getfield 15, 22, 192), (22, .iconst 0, 23, 0), (23, .aload_n 0, 24, 0), (24, .getfield 15, 27, 192), (27, .aload_n 0, 28, 0), (28, .getfield 21, 31, 193), (31, .iload_n 2, 32, 0), (32, .invokestatic 32, 35, 901), (35, .aload_n 0, 36, 0), (36, .dup, 37, 0), (37, .getfield 21, 40, 193), (40, .iload_n 2, 41, 0), (41, .iadd, 42, 0), (42, .putfield 21, 45, 193), (45, .return_, 46, 0)]
def cd12 : List Ins := [(0, .aload_n 0, 1, 0), (1, .iconst 0, 2, 0), (2, .putfield 21, 5, 193), (5, .aload_n 0, 6, 0), (6, .aload_n 1, 7, 0), (7, .invokevirtual 38, 10, 11), (10, .return_, 11, 0)]
def cd13 : List Ins := [(0, .new 16, 3, 3), (3, .dup, 4, 0), (4, .aload_n 0, 5, 0), (5, .getfield 21, 8, 193), (8, .invokespecial 42, 11, 8), (11, .astore_n 1, 12, 0), (12, .aload_n 1, 13, 0), (13, .aload_n 0, 14, 0), (14, .invokevirtual 38, 17, 11), (17, .aload_n 1, 18, 0), (18, .areturn, 19, 0)]
def cd14 : List Ins := [(0, .iload_n 1, 1, 0), (1, .ifCond .lt 24, 4, 25), (4, .iload_n 1, 5, 0), (5, .aload_n 0, 6, 0), (6, .getfield 21, 9, 193), (9, .if_icmp .ge 16, 12, 25), (12, .aload_n 0, 13, 0), (13, .getfield 15, 16, 192), (16, .iload_n 1, 17, 0), (17, .baload, 18, 0), (18, .sipush 255, 21, 0), (21, .iand, 22, 0), (22, .goto 4, 25, 26), (25, .iconst (-1), 26, 0), (26, .ireturn, 27, 0)]
def cd15 : List Ins := [(0, .aload_n 0, 1, 0), (1, .getfield 21, 4, 193), (4, .aload_n 1, 5, 0), (5, .getfield 21, 8, 193), (8, .if_icmp .ne 16, 11, 24), (11, .aload_n 0, 12, 0), (12, .aload_n 1, 13, 0), (13, .iconst 0, 14, 0), (14, .invokevirtual 44, 17, 16), (17, .ifCond .eq 7, 20, 24), (20, .iconst 1, 21, 0), (21, .goto 4, 24, 25), (24, .iconst 0, 25, 0), (25, .ireturn, 26, 0)]
def cd16 : List Ins := [(0, .iload_n 2, 1, 0), (1, .ifCond .lt 16, 4, 17), (4, .aload_n 0, 5, 0), (5, .getfield 21, 8, 193), (8, .aload_n 1, 9, 0), (9, .getfield 21, 12, 193), (12, .iload_n 2, 13, 0), (13, .isub, 14, 0), (14, .if_icmp .le 5, 17, 19), (17, .iconst 0, 18, 0), (18, .ireturn, 19, 0), (19, .iconst 0, 20, 0), (20, .istore_n 3, 21, 0), (21, .iload_n 3, 22, 0), (22, .aload_n 0, 23, 0), (23, .getfield 21, 26, 193), (26, .if_icmp .ge 28, 29, 54), (29, .aload_n 0, 30, 0), (30, .getfield 15, 33, 192), (33, .iload_n 3, 34, 0), (34, .baload, 35, 0), (35, .aload_n 1, 36, 0), (36, .getfield 15, 39, 192), (39, .iload_n 2, 40, 0), (40, .iload_n 3, 41, 0), (41, .iadd, 42, 0), (42, .baload, 43, 0), (43, .if_icmp .eq 5, 46, 48), (46, .iconst 0, 47, 0), (47, .ireturn, 48, 0), (48, .iinc 3 1, 51, 0), (51, .goto (-30), 54, 21), (54, .iconst 1, 55, 0), (55, .ireturn, 56, 0)]
def cd17 : List Ins := [(0, .iconst 0, 1, 0), (1, .istore_n 1, 2, 0), (2, .iload_n 1, 3, 0), (3, .aload_n 0, 4, 0), (4, .getfield 21, 7, 193), (7, .if_icmp .ge 23, 10, 30), (10, .aload_n 0, 11, 0), (11, .getfield 15, 14, 192), (14, .iload_n 1, 15, 0), (15, .baload, 16, 0), (16, .invokestatic 48, 19, 1116), (19, .ifCond .ne 5, 22, 24), (22, .iconst 0, 23, 0), (23, .ireturn, 24, 0), (24, .iinc 1 1, 27, 0), (27, .goto (-25), 30, 2), (30, .iconst 1, 31, 0), (31, .ireturn, 32, 0)]
def cd18 : List Ins := [(0, .aload_n 0, 1, 0), (1, .invokespecial 1, 4, 900), (4, .aload_n 0, 5, 0), (5, .iload_n 1, 6, 0), (6, .putfield 7, 9, 256), (9, .aload_n 0, 10, 0), (10, .aload_n 2, 11, 0), (11, .putfield 13, 14, 257), (14, .aload_n 0, 15, 0), (15, .iload_n 3, 16, 0), (16, .putfield 17, 19, 258), (19, .aload_n 0, 20, 0), (20, .aload 5, 22, 0), (22, .putfield 20, 25, 259), (25, .aload_n 0, 26, 0), (26, .iload 4, 28, 0), (28, .iconst 0, 29, 0), (29, .invokestatic 24, 32, 188), (32, .anewarray 30, 35, 35), (35, .putfield 32, 38, 260), (38, .return_, 39, 0)]
def cd19 : List Ins := [(0, .aload_n 0, 1, 0), (1, .getfield 36, 4, 261), (4, .aload_n 0, 5, 0), (5, .getfield 32, 8, 260), (8, .arraylength, 9, 0), (9, .if_icmp .ge 23, 12, 32), (12, .aload_n 0, 13, 0), (13, .getfield 32, 16, 260), (16, .aload_n 0, 17, 0), (17, .getfield 36, 20, 261), (20, .aload_n 1, 21, 0), (21, .aastore, 22, 0), (22, .aload_n 0, 23, 0), (23, .dup, 24, 0), (24, .getfield 36, 27, 261), (27, .iconst 1, 28, 0), (28, .iadd, 29, 0), (29, .putfield 36, 32, 261), (32, .return_, 33, 0)]
def cd20 : List Ins := [(0, .iconst 0, 1, 0), (1, .istore_n 1, 2, 0), (2, .aload_n 0, 3, 0), (3, .getfield 32, 6, 260), (6, .astore_n 2, 7, 0), (7, .aload_n 2, 8, 0), (8, .arraylength, 9, 0), (9, .istore_n 3, 10, 0), (10, .iconst 0, 11, 0), (11, .istore 4, 13, 0), (13, .iload 4, 15, 0), (15, .iload_n 3, 16, 0), (16, .if_icmp .ge 31, 19, 47), (19, .aload_n 2, 20, 0), (20, .iload 4, 22, 0), (22, .aaload, 23, 0), (23, .astore 5, 25, 0), (25, .aload 5, 27, 0), (27, .ifnull 14, 30, 41), (30, .aload 5, 32, 0), (32, .invokevirtual 39, 35, 70), (35, .ifnonnull 6, 38, 41), (38, .iinc 1 1, 41, 0), (41, .iinc 4 1, 44, 0), (44, .goto (-31), 47, 13), (47, .iload_n 1, 48, 0), (48, .ireturn, 49, 0)]
def cd21 : List Ins := [(0, .aload_n 0, 1, 0), (1, .invokespecial 3, 4, 900), (4, .aload_n 0, 5, 0), (5, .bipush 6, 7, 0), (7, .newarray .int, 9, 21), (9, .putfield 9, 12, 322), (12, .aload_n 0, 13, 0), (13, .aload_n 1, 14, 0), (14, .putfield 15, 17, 321), (17, .return_, 18, 0)]
def cd22 : List Ins := [(0, .aload_n 0, 1, 0), (1, .getfield 19, 4, 320), (4, .ifCond .ne 4, 7, 8), (7, .return_, 8, 0), (8, .aload_n 0, 9, 0), (9, .iconst 0, 10, 0), (10, .putfield 19, 13, 320), (13, .aload_n 0, 14, 0), (14, .invokevirtual 23, 17, 25), (17, .aload_n 0, 18, 0), (18, .aload_n 0, 19, 0), (19, .getfield 15, 22, 321), (22, .invokevirtual 26, 25, 26), (25, .aload_n 0, 26, 0), (26, .getfield 15, 29, 321), (29, .getfield 30, 32, 520), (32, .astore_n 1, 33, 0), (33, .aload_n 1, 34, 0), (34, .ifnull 29, 37, 63), (37, .aload_n 0, 38, 0), (38, .aload_n 1, 39, 0), (39, .invokevirtual 26, 42, 26), (42, .aload_n 0, 43, 0), (43, .aload_n 1, 44, 0), (44, .invokevirtual 35, 47, 27), (47, .aload_n 1, 48, 0), (48, .invokestatic 38, 51, 29), (51, .aload_n 1, 52, 0), (52, .invokestatic 41, 55, 30), (55, .aload_n 1, 56, 0), (56, .getfield 30, 59, 520), (59, .astore_n 1, 60, 0), (60, .goto (-27), 63, 33), (63, .return_, 64, 0)]
def cd23 : List Ins := [(0, .aload_n 0, 1, 0), (1, .getfield 15, 4, 321), (4, .getfield 30, 7, 520), (7, .astore_n 1, 8, 0), (8, .aload_n 1, 9, 0), (9, .ifnull 22, 12, 31), (12, .aload_n 1, 13, 0), (13, .getfield 44, 16, 528), (16, .aload_n 1, 17, 0), (17, .getfield 48, 20, 527), (20, .invokevirtual 51, 23, 12), (23, .aload_n 1, 24, 0), (24, .getfield 30, 27, 520), (27, .astore_n 1, 28, 0), (28, .goto (-20), 31, 8), (31, .return_, 32, 0)]
def cd24 : List Ins := [(0, .iconst 0, 1, 0), (1, .istore_n 1, 2, 0), (2, .aload_n 0, 3, 0), (3, .getfield 15, 6, 321), (6, .getfield 30, 9, 520), (9, .astore_n 2, 10, 0), (10, .aload_n 2, 11, 0), (11, .ifnull 28, 14, 39), (14, .aload_n 2, 15, 0), (15, .getfield 44, 18, 528), (18, .aload_n 2, 19, 0), (19, .getfield 48, 22, 527), (22, .invokevirtual 57, 25, 15), (25, .ifCond .ne 6, 28, 31), (28, .iinc 1 1, 31, 0), (31, .aload_n 2, 32, 0), (32, .getfield 30, 35, 520), (35, .astore_n 2, 36, 0), (36, .goto (-26), 39, 10), (39, .iload_n 1, 40, 0), (40, .ireturn, 41, 0)]
def cd25 : List Ins := [(0, .aload_n 0, 1, 0), (1, .getfield 9, 4, 322), (4, .iconst 0, 5, 0), (5, .invokestatic 61, 8, 190), (8, .aload_n 0, 9, 0), (9, .getfield 15, 12, 321), (12, .astore_n 1, 13, 0), (13, .iconst 0, 14, 0), (14, .istore_n 2, 15, 0), (15, .aload_n 0, 16, 0), (16, .getfield 15, 19, 321), (19, .aload_n 0, 20, 0), (20, .getfield 15, 23, 321), (23, .invokevirtual 67, 26, 67), (26, .astore_n 3, 27, 0), (27, .aload_n 3, 28, 0), (28, .ifnull 58, 31, 86), (31, .aload_n 1, 32, 0), (32, .aload_n 3, 33, 0), (33, .putfield 30, 36, 520), (36, .aload_n 3, 37, 0), (37, .astore_n 1, 38, 0), (38, .aload_n 3, 39, 0), (39, .iload_n 2, 40, 0), (40, .putfield 71, 43, 521), (43, .iinc 2 1, 46, 0), (46, .aload_n 0, 47, 0), (47, .getfield 9, 50, 322), (50, .aload_n 3, 51, 0), (51, .getfield 75, 54, 513), (54, .dup2, 55, 0), (55, .iaload, 56, 0), (56, .iconst 1, 57, 0), (57, .iadd, 58, 0), (58, .iastore, 59, 0), (59, .aload_n 0, 60, 0), (60, .getfield 9, 63, 322), (63, .iconst 0, 64, 0), (64, .aload_n 3, 65, 0), (65, .getfield 78, 68, 525), (68, .iconst 0, 69, 0), (69, .bipush 6, 71, 0), (71, .invokestatic 81, 74, 901), (74, .aload_n 3, 75, 0), (75, .aload_n 0, 76, 0), (76, .getfield 15, 79, 321), (79, .invokevirtual 67, 82, 67), (82, .astore_n 3, 83, 0), (83, .goto (-56), 86, 27), (86, .aload_n 1, 87, 0), (87, .aconst_null, 88, 0), (88, .putfield 30, 91, 520), (91, .return_, 92, 0)]
def cd26 : List Ins := [(0, .aload_n 1, 1, 0), (1, .getfield 87, 4, 516), (4, .ifnonnull 4, 7, 8), (7, .return_, 8, 0), (8, .aload_n 0, 9, 0), (9, .getfield 9, 12, 322), (12, .iconst 0, 13, 0), (13, .invokestatic 61, 16, 190), (16, .aload_n 1, 17, 0), (17, .getfield 87, 20, 516), (20, .astore_n 2, 21, 0), (21, .aload_n 2, 22, 0), (22, .ifnull 37, 25, 59), (25, .aload_n 0, 26, 0), (26, .getfield 9, 29, 322), (29, .aload_n 2, 30, 0), (30, .getfield 75, 33, 513), (33, .dup2, 34, 0), (34, .iaload, 35, 0), (35, .iconst 1, 36, 0), (36, .iadd, 37, 0), (37, .iastore, 38, 0), (38, .aload_n 2, 39, 0), (39, .aload_n 0, 40, 0), (40, .getfield 9, 43, 322), (43, .aload_n 2, 44, 0), (44, .getfield 75, 47, 513), (47, .iaload, 48, 0), (48, .putfield 90, 51, 522), (51, .aload_n 2, 52, 0), (52, .getfield 93, 55, 517), (55, .astore_n 2, 56, 0), (56, .goto (-35), 59, 21), (59, .return_, 60, 0)]
def cd27 : List Ins := [(0, .aload_n 1, 1, 0), (1, .invokestatic 96, 4, 28), (4, .astore_n 2, 5, 0), (5, .aload_n 2, 6, 0), (6, .astore_n 3, 7, 0), (7, .aload_n 1, 8, 0), (8, .getfield 99, 11, 514), (11, .getfield 103, 14, 129), (14, .iconst 2, 15, 0), (15, .if_icmp .ge 23, 18, 38), (18, .aload_n 1, 19, 0), (19, .getfield 108, 22, 515), (22, .aload_n 0, 23, 0), (23, .getfield 15, 26, 321), (26, .if_acmp .ne 7, 29, 33), (29, .aconst_null, 30, 0), (30, .goto 7, 33, 37), (33, .aload_n 1, 34, 0), (34, .getfield 108, 37, 515), (37, .astore_n 3, 38, 0), (38, .aload_n 1, 39, 0), (39, .aload_n 3, 40, 0), (40, .ifnull 19, 43, 59), (43, .aload_n 3, 44, 0), (44, .getfield 48, 47, 527), (47, .getfield 111, 50, 193), (50, .bipush 30, 52, 0), (52, .if_icmp .gt 7, 55, 59), (55, .aload_n 3, 56, 0), (56, .goto 4, 59, 60), (59, .aconst_null, 60, 0), (60, .putfield 114, 63, 524), (63, .aload_n 1, 64, 0), (64, .getfield 99, 67, 514), (67, .getfield 103, 70, 129), (70, .ifCond .ne 14, 73, 84), (73, .aload_n 1, 74, 0), (74, .aload_n 1, 75, 0), (75, .getfield 90, 78, 522), (78, .putfield 117, 81, 523), (81, .goto 41, 84, 122), (84, .aload_n 2, 85, 0), (85, .ifnonnull 10, 88, 95), (88, .aload_n 0, 89, 0), (89, .getfield 15, 92, 321), (92, .goto 4, 95, 96), (95, .aload_n 2, 96, 0), (96, .astore 4, 98, 0), (98, .aload_n 1, 99, 0), (99, .aload_n 1, 100, 0), (100, .getfield 78, 103, 525), (103, .aload_n 1, 104, 0), (104, .getfield 75, 107, 513), (107, .iaload, 108, 0), (108, .aload 4, 110, 0), (110, .getfield 78, 113, 525), (113, .aload_n 1, 114, 0), (114, .getfield 75, 117, 513), (117, .iaload, 118, 0), (118, .isub, 119, 0), (119, .putfield 117, 122, 523), (122, .return_, 123, 0)]
def cd28 : List Ins := [(0, .aload_n 0, 1, 0), (1, .getfield 99, 4, 514), (4, .getfield 103, 7, 129), (7, .iconst 2, 8, 0), (8, .isub, 9, 0), (9, .istore_n 1, 10, 0), (10, .iload_n 1, 11, 0), (11, .ifCond .ge 5, 14, 16), (14, .aconst_null, 15, 0), (15, .areturn, 16, 0), (16, .aload_n 0, 17, 0), (17, .getfield 108, 20, 515), (20, .astore_n 2, 21, 0), (21, .aload_n 2, 22, 0), (22, .ifnull 21, 25, 43), (25, .aload_n 2, 26, 0), (26, .getfield 75, 29, 513), (29, .iload_n 1, 30, 0), (30, .if_icmp .ne 5, 33, 35), (33, .aload_n 2, 34, 0), (34, .areturn, 35, 0), (35, .aload_n 2, 36, 0), (36, .getfield 108, 39, 515), (39, .astore_n 2, 40, 0), (40, .goto (-19), 43, 21), (43, .aconst_null, 44, 0), (44, .areturn, 45, 0)]
def cd29 : List Ins := [(0, .aload_n 0, 1, 0), (1, .getfield 120, 4, 526), (4, .iconst 0, 5, 0), (5, .putfield 111, 8, 193), (8, .aload_n 0, 9, 0), (9, .getfield 99, 12, 514), (12, .getfield 123, 15, 131), (15, .iconst 2, 16, 0), (16, .if_icmp .ne 42, 19, 58), (19, .aload_n 0, 20, 0), (20, .getfield 120, 23, 526), (23, .bipush 40, 25, 0), (25, .invokevirtual 126, 28, 9), (28, .aload_n 0, 29, 0), (29, .getfield 120, 32, 526), (32, .aload_n 0, 33, 0), (33, .getfield 117, 36, 523), (36, .aload_n 0, 37, 0), (37, .getfield 99, 40, 514), (40, .getfield 130, 43, 130), (43, .invokestatic 133, 46, 31), (46, .aload_n 0, 47, 0), (47, .getfield 120, 50, 526), (50, .bipush 41, 52, 0), (52, .invokevirtual 126, 55, 9), (55, .goto 21, 58, 76), (58, .aload_n 0, 59, 0), (59, .getfield 120, 62, 526), (62, .aload_n 0, 63, 0), (63, .getfield 117, 66, 523), (66, .aload_n 0, 67, 0), (67, .getfield 99, 70, 514), (70, .getfield 130, 73, 130), (73, .invokestatic 133, 76, 31), (76, .return_, 77, 0)]
def cd30 : List Ins := [(0, .aload_n 0, 1, 0), (1, .getfield 48, 4, 527), (4, .iconst 0, 5, 0), (5, .putfield 111, 8, 193), (8, .aload_n 0, 9, 0), (9, .getfield 114, 12, 524), (12, .ifnull 47, 15, 59), (15, .aload_n 0, 16, 0), (16, .getfield 99, 19, 514), (19, .getfield 123, 22, 131), (22, .ifCond .eq 37, 25, 59), (25, .aload_n 0, 26, 0), (26, .getfield 48, 29, 527), (29, .aload_n 0, 30, 0), (30, .getfield 114, 33, 524), (33, .getfield 48, 36, 527), (36, .invokevirtual 137, 39, 11), (39, .aload_n 0, 40, 0), (40, .getfield 99, 43, 514), (43, .getfield 123, 46, 131), (46, .iconst 1, 47, 0), (47, .if_icmp .ne 12, 50, 59), (50, .aload_n 0, 51, 0), (51, .getfield 48, 54, 527), (54, .bipush 46, 56, 0), (56, .invokevirtual 126, 59, 9), (59, .aload_n 0, 60, 0), (60, .getfield 48, 63, 527), (63, .aload_n 0, 64, 0), (64, .getfield 120, 67, 526), (67, .invokevirtual 137, 70, 11), (70, .return_, 71, 0)]
def cd31 : List Ins := [(0, .iload_n 2, 1, 0), (1, .tableswitch 70 1 4 #[31, 41, 51, 60], 32, 0), (32, .aload_n 0, 33, 0), (33, .iload_n 1, 34, 0), (34, .bipush 97, 36, 0), (36, .invokestatic 140, 39, 33), (39, .goto 37, 42, 76), (42, .aload_n 0, 43, 0), (43, .iload_n 1, 44, 0), (44, .bipush 65, 46, 0), (46, .invokestatic 140, 49, 33), (49, .goto 27, 52, 76), (52, .aload_n 0, 53, 0), (53, .iload_n 1, 54, 0), (54, .iconst 0, 55, 0), (55, .invokestatic 143, 58, 34), (58, .goto 18, 61, 76), (61, .aload_n 0, 62, 0), (62, .iload_n 1, 63, 0), (63, .bipush (-32), 65, 0), (65, .invokestatic 143, 68, 34), (68, .goto 8, 71, 76), (71, .aload_n 0, 72, 0), (72, .iload_n 1, 73, 0), (73, .invokestatic 146, 76, 32), (76, .return_, 77, 0)]
def cd32 : List Ins := [(0, .iload_n 1, 1, 0), (1, .bipush 100, 3, 0), (3, .if_icmp .lt 14, 6, 17), (6, .aload_n 0, 7, 0), (7, .bipush 48, 9, 0), (9, .iload_n 1, 10, 0), (10, .bipush 100, 12, 0), (12, .idiv, 13, 0), (13, .iadd, 14, 0), (14, .invokevirtual 126, 17, 9), (17, .iload_n 1, 18, 0), (18, .bipush 10, 20, 0), (20, .if_icmp .lt 17, 23, 37), (23, .aload_n 0, 24, 0), (24, .bipush 48, 26, 0), (26, .iload_n 1, 27, 0), (27, .bipush 10, 29, 0), (29, .idiv, 30, 0), (30, .bipush 10, 32, 0), (32, .irem, 33, 0), (33, .iadd, 34, 0), (34, .invokevirtual 126, 37, 9), (37, .aload_n 0, 38, 0), (38, .bipush 48, 40, 0), (40, .iload_n 1, 41, 0), (41, .bipush 10, 43, 0), (43, .irem, 44, 0), (44, .iadd, 45, 0), (45, .invokevirtual 126, 48, 9), (48, .return_, 49, 0)]
def cd33 : List Ins := [(0, .iload_n 1, 1, 0), (1, .iconst 1, 2, 0), (2, .isub, 3, 0), (3, .istore_n 3, 4, 0), (4, .iload_n 3, 5, 0), (5, .bipush 26, 7, 0), (7, .if_icmp .lt 15, 10, 22), (10, .aload_n 0, 11, 0), (11, .iload_n 2, 12, 0), (12, .iload_n 3, 13, 0), (13, .bipush 26, 15, 0), (15, .idiv, 16, 0), (16, .iadd, 17, 0), (17, .iconst 1, 18, 0), (18, .isub, 19, 0), (19, .invokevirtual 126, 22, 9), (22, .aload_n 0, 23, 0), (23, .iload_n 2, 24, 0), (24, .iload_n 3, 25, 0), (25, .bipush 26, 27, 0), (27, .irem, 28, 0), (28, .iadd, 29, 0), (29, .invokevirtual 126, 32, 9), (32, .return_, 33, 0)]
def cd34 : List Ins := [(0, .aload_n 0, 1, 0), (1, .iload_n 1, 2, 0), (2, .bipush 100, 4, 0), (4, .idiv, 5, 0), (5, .bipush 10, 7, 0), (7, .irem, 8, 0), (8, .ldc 150, 10, 0), (10, .iload_n 2, 11, 0), (11, .invokestatic 152, 14, 35), (14, .aload_n 0, 15, 0), (15, .iload_n 1, 16, 0), (16, .bipush 10, 18, 0), (18, .idiv, 19, 0), (19, .bipush 10, 21, 0), (21, .irem, 22, 0), (22, .ldc 156, 24, 1), (24, .iload_n 2, 25, 0), (25, .invokestatic 152, 28, 35), (28, .aload_n 0, 29, 0), (29, .iload_n 1, 30, 0), (30, .bipush 10, 32, 0), (32, .irem, 33, 0), (33, .ldc 158, 35, 2), (35, .iload_n 2, 36, 0), (36, .invokestatic 152, 39, 35), (39, .return_, 40, 0)]
def cd35 : List Ins := [(0, .iload_n 1, 1, 0), (1, .iconst 5, 2, 0), (2, .irem, 3, 0), (3, .istore 4, 5, 0), (5, .iload 4, 7, 0), (7, .iconst 4, 8, 0), (8, .if_icmp .ne 35, 11, 43), (11, .aload_n 0, 12, 0), (12, .aload_n 2, 13, 0), (13, .iconst 0, 14, 0), (14, .invokevirtual 160, 17, 902), (17, .iload_n 3, 18, 0), (18, .iadd, 19, 0), (19, .invokevirtual 126, 22, 9), (22, .aload_n 0, 23, 0), (23, .aload_n 2, 24, 0), (24, .iload_n 1, 25, 0), (25, .iconst 4, 26, 0), (26, .if_icmp .ne 7, 29, 33), (29, .iconst 1, 30, 0), (30, .goto 4, 33, 34), (33, .iconst 2, 34, 0), (34, .invokevirtual 160, 37, 902), (37, .iload_n 3, 38, 0), (38, .iadd, 39, 0), (39, .invokevirtual 126, 42, 9), (42, .return_, 43, 0), (43, .iload_n 1, 44, 0), (44, .iconst 5, 45, 0), (45, .if_icmp .lt 14, 48, 59), (48, .aload_n 0, 49, 0), (49, .aload_n 2, 50, 0), (50, .iconst 1, 51, 0), (51, .invokevirtual 160, 54, 902), (54, .iload_n 3, 55, 0), (55, .iadd, 56, 0), (56, .invokevirtual 126, 59, 9), (59, .iconst 0, 60, 0), (60, .istore 5, 62, 0), (62, .iload 5, 64, 0), (64, .iload 4, 66, 0), (66, .if_icmp .ge 20, 69, 86), (69, .aload_n 0, 70, 0), (70, .aload_n 2, 71, 0), (71, .iconst 0, 72, 0), (72, .invokevirtual 160, 75, 902), (75, .iload_n 3, 76, 0), (76, .iadd, 77, 0), (77, .invokevirtual 126, 80, 9), (80, .iinc 5 1, 83, 0), (83, .goto (-21), 86, 62), (86, .return_, 87, 0)]
def cd36 : List Ins := [(0, .aload_n 0, 1, 0), (1, .invokespecial 3, 4, 900), (4, .aload_n 0, 5, 0), (5, .sipush 200, 8, 0), (8, .newarray .int, 10, 21), (10, .putfield 11, 13, 386), (13, .aload_n 0, 14, 0), (14, .aload_n 1, 15, 0), (15, .putfield 15, 18, 384), (18, .aload_n 0, 19, 0), (19, .aload_n 2, 20, 0), (20, .putfield 19, 23, 385), (23, .return_, 24, 0)]
def cd37 : List Ins := [(0, .aload_n 0, 1, 0), (1, .iconst 0, 2, 0), (2, .putfield 23, 5, 387), (5, .iconst 0, 6, 0), (6, .istore_n 2, 7, 0), (7, .iload_n 2, 8, 0), (8, .aload_n 0, 9, 0), (9, .getfield 15, 12, 384), (12, .getfield 27, 15, 193), (15, .if_icmp .ge 19, 18, 34), (18, .iload_n 2, 19, 0), (19, .iconst 1, 20, 0), (20, .iadd, 21, 0), (21, .aload_n 0, 22, 0), (22, .iload_n 2, 23, 0), (23, .aload_n 1, 24, 0), (24, .invokevirtual 32, 27, 39), (27, .invokestatic 36, 30, 188), (30, .istore_n 2, 31, 0), (31, .goto (-24), 34, 7), (34, .aload_n 0, 35, 0), (35, .getfield 23, 38, 387), (38, .ireturn, 39, 0)]
def cd38 : List Ins := [(0, .iload_n 1, 1, 0), (1, .ifCond .lt 30, 4, 31), (4, .iload_n 1, 5, 0), (5, .aload_n 0, 6, 0), (6, .getfield 23, 9, 387), (9, .if_icmp .ge 22, 12, 31), (12, .iload_n 1, 13, 0), (13, .bipush 40, 15, 0), (15, .if_icmp .ge 16, 18, 31), (18, .iload_n 2, 19, 0), (19, .ifCond .lt 12, 22, 31), (22, .iload_n 2, 23, 0), (23, .iconst 5, 24, 0), (24, .if_icmp .ge 7, 27, 31), (27, .iconst 1, 28, 0), (28, .goto 4, 31, 32), (31, .iconst 0, 32, 0), (32, .istore_n 3, 33, 0), (33, .iload_n 3, 34, 0), (34, .ifCond .eq 16, 37, 50), (37, .aload_n 0, 38, 0), (38, .getfield 11, 41, 386), (41, .iload_n 1, 42, 0), (42, .iconst 5, 43, 0), (43, .imul, 44, 0), (44, .iload_n 2, 45, 0), (45, .iadd, 46, 0), (46, .iaload, 47, 0), (47, .goto 5, 50, 52), (50, .bipush (-10), 52, 0), (52, .ireturn, 53, 0)]
def cd39 : List Ins := [(0, .aload_n 0, 1, 0), (1, .getfield 15, 4, 384), (4, .iload_n 1, 5, 0), (5, .iconst 1, 6, 0), (6, .isub, 7, 0), (7, .invokevirtual 42, 10, 14), (10, .invokestatic 46, 13, 1116), (13, .ifCond .eq 5, 16, 18), (16, .iload_n 1, 17, 0), (17, .ireturn, 18, 0), (18, .aload_n 0, 19, 0), (19, .iload_n 1, 20, 0), (20, .invokevirtual 50, 23, 40), (23, .istore_n 3, 24, 0), (24, .aload_n 0, 25, 0), (25, .getfield 19, 28, 385), (28, .iload_n 3, 29, 0), (29, .invokevirtual 53, 32, 73), (32, .astore 4, 34, 0), (34, .aload 4, 36, 0), (36, .ifnonnull 5, 39, 41), (39, .iload_n 1, 40, 0), (40, .ireturn, 41, 0), (41, .iload_n 1, 42, 0), (42, .aload 4, 44, 0), (44, .getfield 59, 47, 128), (47, .getfield 27, 50, 193), (50, .iadd, 51, 0), (51, .iconst 1, 52, 0), (52, .iadd, 53, 0), (53, .istore 5, 55, 0), (55, .aload_n 0, 56, 0), (56, .iload 5, 58, 0), (58, .invokevirtual 64, 61, 41), (61, .istore 6, 63, 0), (63, .iload 6, 65, 0), (65, .iload 5, 67, 0), (67, .if_icmp .ne 5, 70, 72), (70, .iload_n 1, 71, 0), (71, .ireturn, 72, 0), (72, .aload_n 0, 73, 0), (73, .iload 5, 75, 0), (75, .iload_n 3, 76, 0), (76, .aload_n 2, 77, 0), (77, .invokevirtual 67, 80, 43), (80, .aload_n 0, 81, 0), (81, .getfield 71, 84, 388), (84, .ifCond .le 13, 87, 97), (87, .iload 5, 89, 0), (89, .aload_n 0, 90, 0), (90, .getfield 71, 93, 388), (93, .iadd, 94, 0), (94, .goto 5, 97, 99), (97, .iload 6, 99, 0), (99, .istore 7, 101, 0), (101, .aload_n 0, 102, 0), (102, .iload_n 1, 103, 0), (103, .iload 7, 105, 0), (105, .iload_n 3, 106, 0), (106, .invokevirtual 74, 109, 45), (109, .iload 7, 111, 0), (111, .ireturn, 112, 0)]
def cd40 : List Ins := [(0, .iconst (-1), 1, 0), (1, .istore_n 2, 2, 0), (2, .iconst 0, 3, 0), (3, .istore_n 3, 4, 0), (4, .iconst 0, 5, 0), (5, .istore 4, 7, 0), (7, .iload 4, 9, 0), (9, .bipush 6, 11, 0), (11, .if_icmp .ge 87, 14, 98), (14, .aload_n 0, 15, 0), (15, .getfield 19, 18, 385), (18, .iload 4, 20, 0), (20, .invokevirtual 53, 23, 73), (23, .astore 5, 25, 0), (25, .aload 5, 27, 0), (27, .ifnull 65, 30, 92), (30, .aload 5, 32, 0), (32, .getfield 59, 35, 128), (35, .getfield 27, 38, 193), (38, .iload_n 3, 39, 0), (39, .if_icmp .le 53, 42, 92), (42, .aload 5, 44, 0), (44, .getfield 59, 47, 128), (47, .aload_n 0, 48, 0), (48, .getfield 15, 51, 384), (51, .iload_n 1, 52, 0), (52, .invokevirtual 78, 55, 16), (55, .ifCond .eq 37, 58, 92), (58, .aload_n 0, 59, 0), (59, .getfield 15, 62, 384), (62, .iload_n 1, 63, 0), (63, .aload 5, 65, 0), (65, .getfield 59, 68, 128), (68, .getfield 27, 71, 193), (71, .iadd, 72, 0), (72, .invokevirtual 42, 75, 14), (75, .bipush 32, 77, 0), (77, .if_icmp .ne 15, 80, 92), (80, .iload 4, 82, 0), (82, .istore_n 2, 83, 0), (83, .aload 5, 85, 0), (85, .getfield 59, 88, 128), (88, .getfield 27, 91, 193), (91, .istore_n 3, 92, 0), (92, .iinc 4 1, 95, 0), (95, .goto (-88), 98, 7), (98, .iload_n 2, 99, 0), (99, .ireturn, 100, 0)]
def cd41 : List Ins := [(0, .iload_n 1, 1, 0), (1, .istore_n 2, 2, 0), (2, .iload_n 2, 3, 0), (3, .aload_n 0, 4, 0), (4, .getfield 15, 7, 384), (7, .getfield 27, 10, 193), (10, .if_icmp .ge 23, 13, 33), (13, .aload_n 0, 14, 0), (14, .getfield 15, 17, 384), (17, .iload_n 2, 18, 0), (18, .invokevirtual 42, 21, 14), (21, .invokestatic 82, 24, 42), (24, .ifCond .eq 9, 27, 33), (27, .iinc 2 1, 30, 0), (30, .goto (-28), 33, 2), (33, .iload_n 2, 34, 0), (34, .ireturn, 35, 0)]
def cd42 : List Ins := [(0, .iload_n 0, 1, 0), (1, .invokestatic 46, 4, 1116), (4, .ifCond .ne 33, 7, 37), (7, .iload_n 0, 8, 0), (8, .bipush 48, 10, 0), (10, .if_icmp .lt 9, 13, 19), (13, .iload_n 0, 14, 0), (14, .bipush 57, 16, 0), (16, .if_icmp .le 21, 19, 37), (19, .iload_n 0, 20, 0), (20, .bipush 46, 22, 0), (22, .if_icmp .eq 15, 25, 37), (25, .iload_n 0, 26, 0), (26, .bipush 40, 28, 0), (28, .if_icmp .eq 9, 31, 37), (31, .iload_n 0, 32, 0), (32, .bipush 41, 34, 0), (34, .if_icmp .ne 7, 37, 41), (37, .iconst 1, 38, 0), (38, .goto 4, 41, 42), (41, .iconst 0, 42, 0), (42, .ireturn, 43, 0)]
def cd43 : List Ins := [(0, .aload_n 0, 1, 0), (1, .iconst 0, 2, 0), (2, .putfield 71, 5, 388), (5, .aload_n 0, 6, 0), (6, .iconst 0, 7, 0), (7, .putfield 85, 10, 389), (10, .aload_n 0, 11, 0), (11, .iconst (-1), 12, 0), (12, .putfield 88, 15, 390), (15, .aload_n 0, 16, 0), (16, .getfield 19, 19, 385), (19, .getfield 91, 22, 576), (22, .getfield 95, 25, 520), (25, .astore 4, 27, 0), (27, .aload 4, 29, 0), (29, .ifnull 89, 32, 118), (32, .aload 4, 34, 0), (34, .getfield 100, 37, 513), (37, .iload_n 2, 38, 0), (38, .if_icmp .ne 14, 41, 52), (41, .aload_n 0, 42, 0), (42, .aload 4, 44, 0), (44, .iload_n 1, 45, 0), (45, .aload_n 3, 46, 0), (46, .invokevirtual 103, 49, 44), (49, .goto 4, 52, 53), (52, .iconst 0, 53, 0), (53, .istore 5, 55, 0), (55, .iload 5, 57, 0), (57, .aload_n 0, 58, 0), (58, .getfield 71, 61, 388), (61, .if_icmp .le 23, 64, 84), (64, .aload_n 0, 65, 0), (65, .iload 5, 67, 0), (67, .putfield 71, 70, 388), (70, .aload_n 0, 71, 0), (71, .iconst 0, 72, 0), (72, .putfield 85, 75, 389), (75, .aload_n 0, 76, 0), (76, .aload 4, 78, 0), (78, .getfield 107, 81, 512), (81, .putfield 88, 84, 390), (84, .iload 5, 86, 0), (86, .ifCond .le 22, 89, 108), (89, .iload 5, 91, 0), (91, .aload_n 0, 92, 0), (92, .getfield 71, 95, 388), (95, .if_icmp .ne 13, 98, 108), (98, .aload_n 0, 99, 0), (99, .dup, 100, 0), (100, .getfield 85, 103, 389), (103, .iconst 1, 104, 0), (104, .iadd, 105, 0), (105, .putfield 85, 108, 389), (108, .aload 4, 110, 0), (110, .getfield 95, 113, 520), (113, .astore 4, 115, 0), (115, .goto (-88), 118, 27), (118, .return_, 119, 0)]
def cd44 : List Ins := [(0, .aload_n 1, 1, 0), (1, .getfield 110, 4, 527), (4, .aload_n 0, 5, 0), (5, .getfield 15, 8, 384), (8, .iload_n 2, 9, 0), (9, .invokevirtual 78, 12, 16), (12, .ifCond .eq 11, 15, 23), (15, .aload_n 1, 16, 0), (16, .getfield 110, 19, 527), (19, .getfield 27, 22, 193), (22, .ireturn, 23, 0), (23, .aload_n 1, 24, 0), (24, .getfield 113, 27, 524), (27, .ifnull 18, 30, 45), (30, .aload_n 3, 31, 0), (31, .aload_n 1, 32, 0), (32, .getfield 113, 35, 524), (35, .invokevirtual 116, 38, 66), (38, .ifCond .eq 7, 41, 45), (41, .iconst 1, 42, 0), (42, .goto 4, 45, 46), (45, .iconst 0, 46, 0), (46, .istore 4, 48, 0), (48, .iload 4, 50, 0), (50, .ifCond .eq 28, 53, 78), (53, .aload_n 1, 54, 0), (54, .getfield 120, 57, 526), (57, .aload_n 0, 58, 0), (58, .getfield 15, 61, 384), (61, .iload_n 2, 62, 0), (62, .invokevirtual 78, 65, 16), (65, .ifCond .eq 13, 68, 78), (68, .aload_n 1, 69, 0), (69, .getfield 120, 72, 526), (72, .getfield 27, 75, 193), (75, .goto 4, 78, 79), (78, .iconst 0, 79, 0), (79, .ireturn, 80, 0)]
def cd45 : List Ins := [(0, .aload_n 0, 1, 0), (1, .getfield 23, 4, 387), (4, .iconst 5, 5, 0), (5, .imul, 6, 0), (6, .istore 4, 8, 0), (8, .aload_n 0, 9, 0), (9, .getfield 23, 12, 387), (12, .bipush 40, 14, 0), (14, .if_icmp .ge 69, 17, 83), (17, .iload 4, 19, 0), (19, .iconst 5, 20, 0), (20, .iadd, 21, 0), (21, .aload_n 0, 22, 0), (22, .getfield 11, 25, 386), (25, .arraylength, 26, 0), (26, .if_icmp .gt 57, 29, 83), (29, .aload_n 0, 30, 0), (30, .getfield 11, 33, 386), (33, .iload 4, 35, 0), (35, .iload_n 1, 36, 0), (36, .iastore, 37, 0), (37, .aload_n 0, 38, 0), (38, .getfield 11, 41, 386), (41, .iload 4, 43, 0), (43, .iconst 1, 44, 0), (44, .iadd, 45, 0), (45, .iload_n 2, 46, 0), (46, .iastore, 47, 0), (47, .aload_n 0, 48, 0), (48, .getfield 11, 51, 386), (51, .iload 4, 53, 0), (53, .iconst 2, 54, 0), (54, .iadd, 55, 0), (55, .iload_n 3, 56, 0), (56, .iastore, 57, 0), (57, .aload_n 0, 58, 0), (58, .getfield 11, 61, 386), (61, .iload 4, 63, 0), (63, .iconst 3, 64, 0), (64, .iadd, 65, 0), (65, .aload_n 0, 66, 0), (66, .getfield 85, 69, 389), (69, .iastore, 70, 0), (70, .aload_n 0, 71, 0), (71, .getfield 11, 74, 386), (74, .iload 4, 76, 0), (76, .iconst 4, 77, 0), (77, .iadd, 78, 0), (78, .aload_n 0, 79, 0), (79, .getfield 88, 82, 390), (82, .iastore, 83, 0), (83, .aload_n 0, 84, 0), (84, .dup, 85, 0), (85, .getfield 23, 88, 387), (88, .iconst 1, 89, 0), (89, .iadd, 90, 0), (90, .putfield 23, 93, 387), (93, .return_, 94, 0)]
def cd46 : List Ins := [(0, .aload_n 0, 1, 0), (1, .invokespecial 3, 4, 900), (4, .aload_n 0, 5, 0), (5, .aload_n 1, 6, 0), (6, .putfield 9, 9, 448), (9, .return_, 10, 0)]
def cd47 : List Ins := [(0, .aload_n 1, 1, 0), (1, .getfield 15, 4, 256), (4, .lookupswitch 59 #[(2, 28), (3, 43)], 32, 0), (32, .aload_n 1, 33, 0), (33, .getfield 21, 36, 257), (36, .invokevirtual 24, 39, 70), (39, .aload_n 1, 40, 0), (40, .getfield 30, 43, 258), (43, .invokestatic 33, 46, 56), (46, .areturn, 47, 0), (47, .aload_n 0, 48, 0), (48, .aload_n 1, 49, 0), (49, .getfield 21, 52, 257), (52, .invokevirtual 24, 55, 70), (55, .aload_n 1, 56, 0), (56, .getfield 30, 59, 258), (59, .invokevirtual 37, 62, 57), (62, .areturn, 63, 0), (63, .aload_n 0, 64, 0), (64, .aload_n 1, 65, 0), (65, .invokevirtual 40, 68, 53), (68, .aload_n 0, 69, 0), (69, .aload_n 0, 70, 0), (70, .getfield 9, 73, 448), (73, .invokevirtual 44, 76, 54), (76, .areturn, 77, 0)]
def cd48 : List Ins := [(0, .aload_n 0, 1, 0), (1, .aload_n 1, 2, 0), (2, .invokevirtual 48, 5, 47), (5, .astore_n 2, 6, 0), (6, .aload_n 1, 7, 0), (7, .aload_n 2, 8, 0), (8, .invokestatic 52, 11, 50), (11, .ifCond .ne 5, 14, 16), (14, .iconst 0, 15, 0), (15, .ireturn, 16, 0), (16, .aload_n 1, 17, 0), (17, .getfield 15, 20, 256), (20, .iconst 1, 21, 0), (21, .if_icmp .eq 5, 24, 26), (24, .iconst 1, 25, 0), (25, .ireturn, 26, 0), (26, .iconst 0, 27, 0), (27, .istore_n 3, 28, 0), (28, .aload_n 2, 29, 0), (29, .astore 4, 31, 0), (31, .aload 4, 33, 0), (33, .ifnull 21, 36, 54), (36, .iinc 3 1, 39, 0), (39, .aload_n 0, 40, 0), (40, .aload_n 0, 41, 0), (41, .aload 4, 43, 0), (43, .invokevirtual 56, 46, 55), (46, .invokevirtual 44, 49, 54), (49, .astore 4, 51, 0), (51, .goto (-20), 54, 31), (54, .iload_n 3, 55, 0), (55, .ireturn, 56, 0)]
def cd49 : List Ins := [(0, .aload_n 2, 1, 0), (1, .iconst 0, 2, 0), (2, .putfield 59, 5, 193), (5, .aload_n 0, 6, 0), (6, .aload_n 1, 7, 0), (7, .invokevirtual 48, 10, 47), (10, .astore_n 3, 11, 0), (11, .aload_n 1, 12, 0), (12, .aload_n 3, 13, 0), (13, .invokestatic 52, 16, 50), (16, .ifCond .ne 4, 19, 20), (19, .return_, 20, 0), (20, .aload_n 1, 21, 0), (21, .getfield 64, 24, 259), (24, .ifnull 14, 27, 38), (27, .aload_n 2, 28, 0), (28, .aload_n 1, 29, 0), (29, .getfield 64, 32, 259), (32, .invokevirtual 68, 35, 11), (35, .goto 33, 38, 68), (38, .aload_n 3, 39, 0), (39, .ifnull 20, 42, 59), (42, .aload_n 1, 43, 0), (43, .getfield 15, 46, 256), (46, .iconst 1, 47, 0), (47, .if_icmp .ne 12, 50, 59), (50, .aload_n 0, 51, 0), (51, .aload_n 3, 52, 0), (52, .aload_n 2, 53, 0), (53, .invokevirtual 72, 56, 51), (56, .goto 12, 59, 68), (59, .aload_n 3, 60, 0), (60, .ifnull 8, 63, 68), (63, .aload_n 3, 64, 0), (64, .aload_n 2, 65, 0), (65, .invokevirtual 76, 68, 71), (68, .return_, 69, 0)]
def cd50 : List Ins := [(0, .aload_n 0, 1, 0), (1, .getfield 21, 4, 257), (4, .invokevirtual 24, 7, 70), (7, .ifnull 18, 10, 25), (10, .aload_n 0, 11, 0), (11, .getfield 64, 14, 259), (14, .ifnonnull 7, 17, 21), (17, .aload_n 1, 18, 0), (18, .ifnull 7, 21, 25), (21, .iconst 1, 22, 0), (22, .goto 4, 25, 26), (25, .iconst 0, 26, 0), (26, .ireturn, 27, 0)]
def cd51 : List Ins := [(0, .aload_n 1, 1, 0), (1, .getfield 79, 4, 514), (4, .getfield 83, 7, 128), (7, .astore_n 3, 8, 0), (8, .aload_n 3, 9, 0), (9, .getfield 59, 12, 193), (12, .ifCond .le 14, 15, 26), (15, .aload_n 2, 16, 0), (16, .aload_n 3, 17, 0), (17, .invokevirtual 68, 20, 11), (20, .aload_n 2, 21, 0), (21, .bipush 32, 23, 0), (23, .invokevirtual 88, 26, 9), (26, .aload_n 1, 27, 0), (27, .astore 4, 29, 0), (29, .aload 4, 31, 0), (31, .ifnull 48, 34, 79), (34, .aload 4, 36, 0), (36, .aload_n 1, 37, 0), (37, .if_acmp .eq 15, 40, 52), (40, .aload_n 2, 41, 0), (41, .bipush 44, 43, 0), (43, .invokevirtual 88, 46, 9), (46, .aload_n 2, 47, 0), (47, .bipush 32, 49, 0), (49, .invokevirtual 88, 52, 9), (52, .aload 4, 54, 0), (54, .aload_n 0, 55, 0), (55, .aload 4, 57, 0), (57, .invokevirtual 56, 60, 55), (60, .aload_n 2, 61, 0), (61, .invokestatic 92, 64, 52), (64, .aload_n 0, 65, 0), (65, .aload_n 0, 66, 0), (66, .aload 4, 68, 0), (68, .invokevirtual 56, 71, 55), (71, .invokevirtual 44, 74, 54), (74, .astore 4, 76, 0), (76, .goto (-47), 79, 29), (79, .return_, 80, 0)]
def cd52 : List Ins := [(0, .aload_n 2, 1, 0), (1, .aload_n 0, 2, 0), (2, .getfield 96, 5, 527), (5, .invokevirtual 68, 8, 11), (8, .aload_n 1, 9, 0), (9, .aload_n 0, 10, 0), (10, .if_acmp .eq 35, 13, 45), (13, .aload_n 2, 14, 0), (14, .bipush 32, 16, 0), (16, .invokevirtual 88, 19, 9), (19, .aload_n 2, 20, 0), (20, .bipush 116, 22, 0), (22, .invokevirtual 88, 25, 9), (25, .aload_n 2, 26, 0), (26, .bipush 111, 28, 0), (28, .invokevirtual 88, 31, 9), (31, .aload_n 2, 32, 0), (32, .bipush 32, 34, 0), (34, .invokevirtual 88, 37, 9), (37, .aload_n 2, 38, 0), (38, .aload_n 1, 39, 0), (39, .getfield 96, 42, 527), (42, .invokevirtual 68, 45, 11), (45, .return_, 46, 0)]
def cd53 : List Ins := [(0, .aload_n 0, 1, 0), (1, .dup, 2, 0), (2, .getfield 99, 5, 449), (5, .iconst 1, 6, 0), (6, .iadd, 7, 0), (7, .putfield 99, 10, 449), (10, .aload_n 1, 11, 0), (11, .getfield 102, 14, 260), (14, .astore_n 2, 15, 0), (15, .aload_n 2, 16, 0), (16, .arraylength, 17, 0), (17, .istore_n 3, 18, 0), (18, .iconst 0, 19, 0), (19, .istore 4, 21, 0), (21, .iload 4, 23, 0), (23, .iload_n 3, 24, 0), (24, .if_icmp .ge 45, 27, 69), (27, .aload_n 2, 28, 0), (28, .iload 4, 30, 0), (30, .aaload, 31, 0), (31, .astore 5, 33, 0), (33, .aload 5, 35, 0), (35, .ifnonnull 7, 38, 42), (38, .aconst_null, 39, 0), (39, .goto 8, 42, 47), (42, .aload 5, 44, 0), (44, .invokevirtual 24, 47, 70), (47, .astore 6, 49, 0), (49, .aload 6, 51, 0), (51, .ifnull 12, 54, 63), (54, .aload 6, 56, 0), (56, .aload_n 0, 57, 0), (57, .getfield 99, 60, 449), (60, .putfield 106, 63, 529), (63, .iinc 4 1, 66, 0), (66, .goto (-45), 69, 21), (69, .return_, 70, 0)]
def cd54 : List Ins := [(0, .aload_n 1, 1, 0), (1, .getfield 109, 4, 520), (4, .astore_n 2, 5, 0), (5, .aload_n 2, 6, 0), (6, .ifnull 24, 9, 30), (9, .aload_n 2, 10, 0), (10, .getfield 106, 13, 529), (13, .aload_n 0, 14, 0), (14, .getfield 99, 17, 449), (17, .if_icmp .ne 5, 20, 22), (20, .aload_n 2, 21, 0), (21, .areturn, 22, 0), (22, .aload_n 2, 23, 0), (23, .getfield 109, 26, 520), (26, .astore_n 2, 27, 0), (27, .goto (-22), 30, 5), (30, .aconst_null, 31, 0), (31, .areturn, 32, 0)]
def cd55 : List Ins := [(0, .aload_n 1, 1, 0), (1, .astore_n 2, 2, 0), (2, .aload_n 0, 3, 0), (3, .aload_n 1, 4, 0), (4, .invokevirtual 44, 7, 54), (7, .astore_n 3, 8, 0), (8, .aload_n 3, 9, 0), (9, .ifnull 41, 12, 50), (12, .aload_n 3, 13, 0), (13, .getfield 112, 16, 524), (16, .aload_n 2, 17, 0), (17, .getfield 112, 20, 524), (20, .if_acmp .ne 30, 23, 50), (23, .aload_n 3, 24, 0), (24, .getfield 115, 27, 523), (27, .aload_n 2, 28, 0), (28, .getfield 115, 31, 523), (31, .iconst 1, 32, 0), (32, .iadd, 33, 0), (33, .if_icmp .eq 6, 36, 39), (36, .goto 14, 39, 50), (39, .aload_n 3, 40, 0), (40, .astore_n 2, 41, 0), (41, .aload_n 0, 42, 0), (42, .aload_n 3, 43, 0), (43, .invokevirtual 44, 46, 54), (46, .astore_n 3, 47, 0), (47, .goto (-39), 50, 8), (50, .aload_n 2, 51, 0), (51, .areturn, 52, 0)]
def cd56 : List Ins := [(0, .aload_n 0, 1, 0), (1, .ifnonnull 7, 4, 8), (4, .aconst_null, 5, 0), (5, .goto 7, 8, 12), (8, .aload_n 0, 9, 0), (9, .getfield 109, 12, 520), (12, .astore_n 2, 13, 0), (13, .aload_n 2, 14, 0), (14, .ifnull 21, 17, 35), (17, .aload_n 2, 18, 0), (18, .getfield 118, 21, 513), (21, .iload_n 1, 22, 0), (22, .if_icmp .ne 5, 25, 27), (25, .aload_n 2, 26, 0), (26, .areturn, 27, 0), (27, .aload_n 2, 28, 0), (28, .getfield 109, 31, 520), (31, .astore_n 2, 32, 0), (32, .goto (-19), 35, 13), (35, .aconst_null, 36, 0), (36, .areturn, 37, 0)]
def cd57 : List Ins := [(0, .aconst_null, 1, 0), (1, .astore_n 3, 2, 0), (2, .aload_n 1, 3, 0), (3, .ifnonnull 7, 6, 10), (6, .aconst_null, 7, 0), (7, .goto 10, 10, 17), (10, .aload_n 0, 11, 0), (11, .getfield 9, 14, 448), (14, .getfield 109, 17, 520), (17, .astore 4, 19, 0), (19, .aload 4, 21, 0), (21, .ifnull 31, 24, 52), (24, .aload 4, 26, 0), (26, .aload_n 1, 27, 0), (27, .if_acmp .eq 25, 30, 52), (30, .aload 4, 32, 0), (32, .getfield 118, 35, 513), (35, .iload_n 2, 36, 0), (36, .if_icmp .ne 6, 39, 42), (39, .aload 4, 41, 0), (41, .astore_n 3, 42, 0), (42, .aload 4, 44, 0), (44, .getfield 109, 47, 520), (47, .astore 4, 49, 0), (49, .goto (-30), 52, 19), (52, .aload_n 3, 53, 0), (53, .areturn, 54, 0)]
def cd58 : List Ins := [(0, .aload_n 0, 1, 0), (1, .invokespecial 3, 4, 900), (4, .aload_n 0, 5, 0), (5, .iconst (-1), 6, 0), (6, .putfield 9, 9, 521), (9, .aload_n 0, 10, 0), (10, .bipush 6, 12, 0), (12, .newarray .int, 14, 21), (14, .putfield 15, 17, 525), (17, .aload_n 0, 18, 0), (18, .new 19, 21, 3), (21, .dup, 22, 0), (22, .bipush 10, 24, 0), (24, .invokespecial 21, 27, 8), (27, .putfield 24, 30, 526), (30, .aload_n 0, 31, 0), (31, .new 19, 34, 3), (34, .dup, 35, 0), (35, .bipush 40, 37, 0), (37, .invokespecial 21, 40, 8), (40, .putfield 28, 43, 527), (43, .aload_n 0, 44, 0), (44, .new 19, 47, 3), (47, .dup, 48, 0), (48, .bipush 40, 50, 0), (50, .invokespecial 21, 53, 8), (53, .putfield 31, 56, 528), (56, .aload_n 0, 57, 0), (57, .iload_n 1, 58, 0), (58, .putfield 34, 61, 512), (61, .aload_n 0, 62, 0), (62, .iload_n 2, 63, 0), (63, .putfield 37, 66, 513), (66, .aload_n 0, 67, 0), (67, .aload_n 3, 68, 0), (68, .putfield 40, 71, 514), (71, .return_, 72, 0)]
def cd59 : List Ins := [(0, .iconst 0, 1, 0), (1, .istore_n 1, 2, 0), (2, .aload_n 0, 3, 0), (3, .getfield 44, 6, 516), (6, .astore_n 2, 7, 0), (7, .aload_n 2, 8, 0), (8, .ifnull 14, 11, 22), (11, .iinc 1 1, 14, 0), (14, .aload_n 2, 15, 0), (15, .getfield 48, 18, 517), (18, .astore_n 2, 19, 0), (19, .goto (-12), 22, 7), (22, .iload_n 1, 23, 0), (23, .ireturn, 24, 0)]
def cd60 : List Ins := [(0, .iconst 0, 1, 0), (1, .istore_n 2, 2, 0), (2, .aload_n 0, 3, 0), (3, .getfield 44, 6, 516), (6, .astore_n 3, 7, 0), (7, .aload_n 3, 8, 0), (8, .ifnull 21, 11, 29), (11, .iload_n 2, 12, 0), (12, .iload_n 1, 13, 0), (13, .if_icmp .ne 5, 16, 18), (16, .aload_n 3, 17, 0), (17, .areturn, 18, 0), (18, .iinc 2 1, 21, 0), (21, .aload_n 3, 22, 0), (22, .getfield 48, 25, 517), (25, .astore_n 3, 26, 0), (26, .goto (-19), 29, 7), (29, .aconst_null, 30, 0), (30, .areturn, 31, 0)]
def cd61 : List Ins := [(0, .iconst 0, 1, 0), (1, .istore_n 1, 2, 0), (2, .aload_n 0, 3, 0), (3, .getfield 51, 6, 515), (6, .ifnonnull 7, 9, 13), (9, .aload_n 0, 10, 0), (10, .goto 10, 13, 20), (13, .aload_n 0, 14, 0), (14, .getfield 51, 17, 515), (17, .getfield 44, 20, 516), (20, .astore_n 2, 21, 0), (21, .aload_n 2, 22, 0), (22, .ifnull 19, 25, 41), (25, .aload_n 2, 26, 0), (26, .aload_n 0, 27, 0), (27, .if_acmp .eq 14, 30, 41), (30, .iinc 1 1, 33, 0), (33, .aload_n 2, 34, 0), (34, .getfield 48, 37, 517), (37, .astore_n 2, 38, 0), (38, .goto (-17), 41, 21), (41, .iload_n 1, 42, 0), (42, .ireturn, 43, 0)]
def cd62 : List Ins := [(0, .aload_n 1, 1, 0), (1, .ifnonnull 4, 4, 5), (4, .return_, 5, 0), (5, .aload_n 0, 6, 0), (6, .aload_n 1, 7, 0), (7, .putfield 51, 10, 515), (10, .aload_n 1, 11, 0), (11, .iload_n 2, 12, 0), (12, .iconst 1, 13, 0), (13, .isub, 14, 0), (14, .invokevirtual 54, 17, 60), (17, .astore_n 3, 18, 0), (18, .aload_n 3, 19, 0), (19, .ifnonnull 19, 22, 38), (22, .aload_n 0, 23, 0), (23, .aload_n 1, 24, 0), (24, .getfield 44, 27, 516), (27, .putfield 48, 30, 517), (30, .aload_n 1, 31, 0), (31, .aload_n 0, 32, 0), (32, .putfield 44, 35, 516), (35, .goto 16, 38, 51), (38, .aload_n 0, 39, 0), (39, .aload_n 3, 40, 0), (40, .getfield 48, 43, 517), (43, .putfield 48, 46, 517), (46, .aload_n 3, 47, 0), (47, .aload_n 0, 48, 0), (48, .putfield 48, 51, 517), (51, .return_, 52, 0)]
def cd63 : List Ins := [(0, .aload_n 0, 1, 0), (1, .getfield 51, 4, 515), (4, .ifnonnull 4, 7, 8), (7, .return_, 8, 0), (8, .aload_n 0, 9, 0), (9, .getfield 51, 12, 515), (12, .aload_n 0, 13, 0), (13, .invokevirtual 58, 16, 61), (16, .iconst 1, 17, 0), (17, .isub, 18, 0), (18, .invokevirtual 54, 21, 60), (21, .astore_n 1, 22, 0), (22, .aload_n 1, 23, 0), (23, .ifnonnull 17, 26, 40), (26, .aload_n 0, 27, 0), (27, .getfield 51, 30, 515), (30, .aload_n 0, 31, 0), (31, .getfield 48, 34, 517), (34, .putfield 44, 37, 516), (37, .goto 11, 40, 48), (40, .aload_n 1, 41, 0), (41, .aload_n 0, 42, 0), (42, .getfield 48, 45, 517), (45, .putfield 48, 48, 517), (48, .aload_n 0, 49, 0), (49, .aconst_null, 50, 0), (50, .putfield 48, 53, 517), (53, .return_, 54, 0)]
def cd64 : List Ins := [(0, .aload_n 0, 1, 0), (1, .aload_n 0, 2, 0), (2, .invokevirtual 62, 5, 59), (5, .iconst 1, 6, 0), (6, .isub, 7, 0), (7, .invokevirtual 54, 10, 60), (10, .astore_n 2, 11, 0), (11, .aload_n 2, 12, 0), (12, .ifnonnull 14, 15, 26), (15, .aload_n 0, 16, 0), (16, .aload_n 1, 17, 0), (17, .getfield 44, 20, 516), (20, .putfield 44, 23, 516), (23, .goto 11, 26, 34), (26, .aload_n 2, 27, 0), (27, .aload_n 1, 28, 0), (28, .getfield 44, 31, 516), (31, .putfield 48, 34, 517), (34, .aload_n 1, 35, 0), (35, .getfield 44, 38, 516), (38, .astore_n 3, 39, 0), (39, .aload_n 3, 40, 0), (40, .ifnull 16, 43, 56), (43, .aload_n 3, 44, 0), (44, .aload_n 0, 45, 0), (45, .putfield 51, 48, 515), (48, .aload_n 3, 49, 0), (49, .getfield 48, 52, 517), (52, .astore_n 3, 53, 0), (53, .goto (-14), 56, 39), (56, .aload_n 1, 57, 0), (57, .aconst_null, 58, 0), (58, .putfield 44, 61, 516), (61, .return_, 62, 0)]
def cd65 : List Ins := [(0, .aload_n 1, 1, 0), (1, .ifnonnull 4, 4, 5), (4, .return_, 5, 0), (5, .aload_n 0, 6, 0), (6, .aload_n 1, 7, 0), (7, .invokevirtual 58, 10, 61), (10, .iconst 1, 11, 0), (11, .isub, 12, 0), (12, .invokevirtual 54, 15, 60), (15, .astore_n 3, 16, 0), (16, .aload_n 3, 17, 0), (17, .ifnonnull 11, 20, 28), (20, .aload_n 0, 21, 0), (21, .aconst_null, 22, 0), (22, .putfield 44, 25, 516), (25, .goto 8, 28, 33), (28, .aload_n 3, 29, 0), (29, .aconst_null, 30, 0), (30, .putfield 48, 33, 517), (33, .aload_n 2, 34, 0), (34, .aload_n 1, 35, 0), (35, .putfield 44, 38, 516), (38, .aload_n 1, 39, 0), (39, .astore 4, 41, 0), (41, .aload 4, 43, 0), (43, .ifnull 19, 46, 62), (46, .aload 4, 48, 0), (48, .aload_n 2, 49, 0), (49, .putfield 51, 52, 515), (52, .aload 4, 54, 0), (54, .getfield 48, 57, 517), (57, .astore 4, 59, 0), (59, .goto (-18), 62, 41), (62, .return_, 63, 0)]
def cd66 : List Ins := [(0, .aload_n 0, 1, 0), (1, .astore_n 2, 2, 0), (2, .aload_n 2, 3, 0), (3, .ifnull 18, 6, 21), (6, .aload_n 2, 7, 0), (7, .aload_n 1, 8, 0), (8, .if_acmp .ne 5, 11, 13), (11, .iconst 1, 12, 0), (12, .ireturn, 13, 0), (13, .aload_n 2, 14, 0), (14, .getfield 51, 17, 515), (17, .astore_n 2, 18, 0), (18, .goto (-16), 21, 2), (21, .iconst 0, 22, 0), (22, .ireturn, 23, 0)]
def cd67 : List Ins := [(0, .aload_n 0, 1, 0), (1, .getfield 44, 4, 516), (4, .ifnull 8, 7, 12), (7, .aload_n 0, 8, 0), (8, .getfield 44, 11, 516), (11, .areturn, 12, 0), (12, .aload_n 0, 13, 0), (13, .astore_n 2, 14, 0), (14, .aload_n 2, 15, 0), (15, .ifnull 28, 18, 43), (18, .aload_n 2, 19, 0), (19, .aload_n 1, 20, 0), (20, .if_acmp .eq 23, 23, 43), (23, .aload_n 2, 24, 0), (24, .getfield 48, 27, 517), (27, .ifnull 8, 30, 35), (30, .aload_n 2, 31, 0), (31, .getfield 48, 34, 517), (34, .areturn, 35, 0), (35, .aload_n 2, 36, 0), (36, .getfield 51, 39, 515), (39, .astore_n 2, 40, 0), (40, .goto (-26), 43, 14), (43, .aconst_null, 44, 0), (44, .areturn, 45, 0)]
def cd68 : List Ins := [(0, .iconst 0, 1, 0), (1, .istore_n 2, 2, 0), (2, .aload_n 0, 3, 0), (3, .astore_n 3, 4, 0), (4, .aload_n 3, 5, 0), (5, .ifnull 20, 8, 25), (8, .aload_n 3, 9, 0), (9, .iload_n 1, 10, 0), (10, .putfield 65, 13, 519), (13, .iinc 2 1, 16, 0), (16, .aload_n 3, 17, 0), (17, .aload_n 0, 18, 0), (18, .invokevirtual 69, 21, 67), (21, .astore_n 3, 22, 0), (22, .goto (-18), 25, 4), (25, .iload_n 2, 26, 0), (26, .ireturn, 27, 0)]
def cd69 : List Ins := [(0, .aload_n 0, 1, 0), (1, .astore_n 1, 2, 0), (2, .aload_n 0, 3, 0), (3, .getfield 73, 6, 518), (6, .astore_n 2, 7, 0), (7, .aload_n 2, 8, 0), (8, .ifnull 13, 11, 21), (11, .aload_n 2, 12, 0), (12, .astore_n 1, 13, 0), (13, .aload_n 2, 14, 0), (14, .getfield 73, 17, 518), (17, .astore_n 2, 18, 0), (18, .goto (-11), 21, 7), (21, .aload_n 1, 22, 0), (22, .areturn, 23, 0)]
def cd70 : List Ins := [(0, .aload_n 0, 1, 0), (1, .invokevirtual 76, 4, 69), (4, .astore_n 1, 5, 0), (5, .aload_n 1, 6, 0), (6, .getfield 65, 9, 519), (9, .ifCond .eq 7, 12, 16), (12, .aload_n 1, 13, 0), (13, .goto 4, 16, 17), (16, .aconst_null, 17, 0), (17, .areturn, 18, 0)]
def cd71 : List Ins := [(0, .aload_n 0, 1, 0), (1, .getfield 40, 4, 514), (4, .getfield 80, 7, 128), (7, .getfield 85, 10, 193), (10, .ifCond .le 20, 13, 30), (13, .aload_n 1, 14, 0), (14, .aload_n 0, 15, 0), (15, .getfield 40, 18, 514), (18, .getfield 80, 21, 128), (21, .invokevirtual 88, 24, 11), (24, .aload_n 1, 25, 0), (25, .bipush 32, 27, 0), (27, .invokevirtual 92, 30, 9), (30, .aload_n 1, 31, 0), (31, .aload_n 0, 32, 0), (32, .getfield 28, 35, 527), (35, .invokevirtual 88, 38, 11), (38, .return_, 39, 0)]
def cd72 : List Ins := [(0, .aload_n 0, 1, 0), (1, .invokespecial 3, 4, 900), (4, .aload_n 0, 5, 0), (5, .new 9, 8, 8), (8, .dup, 9, 0), (9, .iconst (-1), 10, 0), (10, .iconst (-1), 11, 0), (11, .new 11, 14, 2), (14, .dup, 15, 0), (15, .invokespecial 13, 18, 1007), (18, .invokespecial 14, 21, 58), (21, .putfield 17, 24, 576), (24, .aload_n 0, 25, 0), (25, .bipush 120, 27, 0), (27, .anewarray 9, 30, 35), (30, .putfield 23, 33, 577), (33, .aload_n 0, 34, 0), (34, .bipush 6, 36, 0), (36, .anewarray 11, 39, 32), (39, .putfield 27, 42, 578), (42, .iconst 0, 43, 0), (43, .istore_n 1, 44, 0), (44, .iload_n 1, 45, 0), (45, .aload_n 0, 46, 0), (46, .getfield 27, 49, 578), (49, .arraylength, 50, 0), (50, .if_icmp .ge 22, 53, 72), (53, .aload_n 0, 54, 0), (54, .getfield 27, 57, 578), (57, .iload_n 1, 58, 0), (58, .new 11, 61, 2), (61, .dup, 62, 0), (62, .invokespecial 13, 65, 1007), (65, .aastore, 66, 0), (66, .iinc 1 1, 69, 0), (69, .goto (-25), 72, 44), (72, .return_, 73, 0)]
def cd73 : List Ins := [(0, .iload_n 1, 1, 0), (1, .ifCond .lt 21, 4, 22), (4, .iload_n 1, 5, 0), (5, .aload_n 0, 6, 0), (6, .getfield 27, 9, 578), (9, .arraylength, 10, 0), (10, .if_icmp .ge 12, 13, 22), (13, .aload_n 0, 14, 0), (14, .getfield 27, 17, 578), (17, .iload_n 1, 18, 0), (18, .aaload, 19, 0), (19, .goto 4, 22, 23), (22, .aconst_null, 23, 0), (23, .areturn, 24, 0)]
def cd74 : List Ins := [(0, .iload_n 1, 1, 0), (1, .ifCond .lt 29, 4, 30), (4, .iload_n 1, 5, 0), (5, .aload_n 0, 6, 0), (6, .getfield 31, 9, 579), (9, .if_icmp .ge 21, 12, 30), (12, .iload_n 1, 13, 0), (13, .aload_n 0, 14, 0), (14, .getfield 23, 17, 577), (17, .arraylength, 18, 0), (18, .if_icmp .ge 12, 21, 30), (21, .aload_n 0, 22, 0), (22, .getfield 23, 25, 577), (25, .iload_n 1, 26, 0), (26, .aaload, 27, 0), (27, .goto 4, 30, 31), (30, .aconst_null, 31, 0), (31, .areturn, 32, 0)]
def cd75 : List Ins := [(0, .aload_n 0, 1, 0), (1, .iload_n 1, 2, 0), (2, .invokevirtual 35, 5, 74), (5, .astore_n 2, 6, 0), (6, .aload_n 2, 7, 0), (7, .ifnull 14, 10, 21), (10, .aload_n 2, 11, 0), (11, .getfield 39, 14, 519), (14, .ifCond .eq 7, 17, 21), (17, .aload_n 2, 18, 0), (18, .goto 4, 21, 22), (21, .aconst_null, 22, 0), (22, .areturn, 23, 0)]
def cd76 : List Ins := [(0, .iload_n 1, 1, 0), (1, .iconst (-1), 2, 0), (2, .if_icmp .ne 10, 5, 12), (5, .aload_n 0, 6, 0), (6, .getfield 17, 9, 576), (9, .goto 8, 12, 17), (12, .aload_n 0, 13, 0), (13, .iload_n 1, 14, 0), (14, .invokevirtual 43, 17, 75), (17, .areturn, 18, 0)]
def cd77 : List Ins := [(0, .aload_n 0, 1, 0), (1, .getfield 17, 4, 576), (4, .getfield 46, 7, 520), (7, .astore_n 2, 8, 0), (8, .aload_n 2, 9, 0), (9, .ifnull 21, 12, 30), (12, .aload_n 2, 13, 0), (13, .getfield 49, 16, 521), (16, .iload_n 1, 17, 0), (17, .if_icmp .ne 5, 20, 22), (20, .aload_n 2, 21, 0), (21, .areturn, 22, 0), (22, .aload_n 2, 23, 0), (23, .getfield 46, 26, 520), (26, .astore_n 2, 27, 0), (27, .goto (-19), 30, 8), (30, .aconst_null, 31, 0), (31, .areturn, 32, 0)]
def cd78 : List Ins := [(0, .aload_n 0, 1, 0), (1, .iload_n 1, 2, 0), (2, .invokevirtual 52, 5, 73), (5, .astore_n 2, 6, 0), (6, .aload_n 2, 7, 0), (7, .ifnull 15, 10, 22), (10, .aload_n 0, 11, 0), (11, .getfield 31, 14, 579), (14, .aload_n 0, 15, 0), (15, .getfield 23, 18, 577), (18, .arraylength, 19, 0), (19, .if_icmp .lt 5, 22, 24), (22, .aconst_null, 23, 0), (23, .areturn, 24, 0), (24, .new 9, 27, 8), (27, .dup, 28, 0), (28, .aload_n 0, 29, 0), (29, .getfield 31, 32, 579), (32, .iload_n 1, 33, 0), (33, .aload_n 2, 34, 0), (34, .invokespecial 14, 37, 58), (37, .astore_n 3, 38, 0), (38, .aload_n 0, 39, 0), (39, .getfield 23, 42, 577), (42, .aload_n 0, 43, 0), (43, .getfield 31, 46, 579), (46, .aload_n 3, 47, 0), (47, .aastore, 48, 0), (48, .aload_n 0, 49, 0), (49, .dup, 50, 0), (50, .getfield 31, 53, 579), (53, .iconst 1, 54, 0), (54, .iadd, 55, 0), (55, .putfield 31, 58, 579), (58, .aload_n 3, 59, 0), (59, .areturn, 60, 0)]
def cd79 : List Ins := [(0, .iconst 0, 1, 0), (1, .istore_n 1, 2, 0), (2, .aload_n 0, 3, 0), (3, .getfield 17, 6, 576), (6, .aload_n 0, 7, 0), (7, .getfield 17, 10, 576), (10, .invokevirtual 56, 13, 67), (13, .astore_n 2, 14, 0), (14, .aload_n 2, 15, 0), (15, .ifnull 18, 18, 33), (18, .iinc 1 1, 21, 0), (21, .aload_n 2, 22, 0), (22, .aload_n 0, 23, 0), (23, .getfield 17, 26, 576), (26, .invokevirtual 56, 29, 67), (29, .astore_n 2, 30, 0), (30, .goto (-16), 33, 14), (33, .iload_n 1, 34, 0), (34, .ireturn, 35, 0)]
def cd80 : List Ins := [(0, .aload_n 0, 1, 0), (1, .invokespecial 3, 4, 900), (4, .aload_n 0, 5, 0), (5, .new 9, 8, 3), (8, .dup, 9, 0), (9, .sipush 600, 12, 0), (12, .invokespecial 11, 15, 8), (15, .putfield 14, 18, 640), (18, .aload_n 0, 19, 0), (19, .new 18, 22, 9), (22, .dup, 23, 0), (23, .invokespecial 20, 26, 72), (26, .putfield 21, 29, 641), (29, .aload_n 0, 30, 0), (30, .new 25, 33, 5), (33, .dup, 34, 0), (34, .aload_n 0, 35, 0), (35, .getfield 21, 38, 641), (38, .getfield 27, 41, 576), (41, .invokespecial 31, 44, 21), (44, .putfield 34, 47, 642), (47, .aload_n 0, 48, 0), (48, .sipush 200, 51, 0), (51, .anewarray 38, 54, 30), (54, .putfield 40, 57, 643), (57, .aload_n 0, 58, 0), (58, .bipush 100, 60, 0), (60, .anewarray 44, 63, 34), (63, .putfield 46, 66, 645), (66, .aload_n 0, 67, 0), (67, .new 50, 70, 7), (70, .dup, 71, 0), (71, .aload_n 0, 72, 0), (72, .getfield 21, 75, 641), (75, .getfield 27, 78, 576), (78, .invokespecial 52, 81, 46), (81, .putfield 53, 84, 647), (84, .aload_n 0, 85, 0), (85, .bipush 8, 87, 0), (87, .anewarray 57, 90, 31), (90, .putfield 59, 93, 648), (93, .aload_n 0, 94, 0), (94, .new 63, 97, 6), (97, .dup, 98, 0), (98, .aload_n 0, 99, 0), (99, .getfield 14, 102, 640), (102, .aload_n 0, 103, 0), (103, .getfield 21, 106, 641), (106, .invokespecial 65, 109, 36), (109, .putfield 68, 112, 650), (112, .aload_n 0, 113, 0), (113, .new 9, 116, 3), (116, .dup, 117, 0), (117, .sipush 539, 120, 0), (120, .invokespecial 11, 123, 8), (123, .putfield 72, 126, 651), (126, .return_, 127, 0)]
def cd81 : List Ins := [(0, .aload_n 0, 1, 0), (1, .getfield 14, 4, 640), (4, .getfield 75, 7, 193), (7, .bipush 20, 9, 0), (9, .iadd, 10, 0), (10, .sipush 600, 13, 0), (13, .if_icmp .le 6, 16, 19), (16, .bipush (-3), 18, 0), (18, .ireturn, 19, 0), (19, .aload_n 0, 20, 0), (20, .getfield 14, 23, 640), (23, .iload_n 1, 24, 0), (24, .invokevirtual 79, 27, 10), (27, .aload_n 0, 28, 0), (28, .getfield 14, 31, 640), (31, .iload_n 2, 32, 0), (32, .invokevirtual 79, 35, 10), (35, .aload_n 0, 36, 0), (36, .getfield 14, 39, 640), (39, .iload_n 3, 40, 0), (40, .invokevirtual 79, 43, 10), (43, .aload_n 0, 44, 0), (44, .getfield 14, 47, 640), (47, .iload 4, 49, 0), (49, .invokevirtual 79, 52, 10), (52, .aload_n 0, 53, 0), (53, .getfield 14, 56, 640), (56, .iload 5, 58, 0), (58, .invokevirtual 79, 61, 10), (61, .aload_n 0, 62, 0), (62, .getfield 14, 65, 640), (65, .getfield 75, 68, 193), (68, .ireturn, 69, 0)]
def cd82 : List Ins := [(0, .iload_n 1, 1, 0), (1, .ifCond .lt 14, 4, 15), (4, .iload_n 1, 5, 0), (5, .aload_n 0, 6, 0), (6, .getfield 14, 9, 640), (9, .getfield 75, 12, 193), (12, .if_icmp .le 5, 15, 17), (15, .iconst (-1), 16, 0), (16, .ireturn, 17, 0), (17, .aload_n 0, 18, 0), (18, .getfield 14, 21, 640), (21, .iload_n 1, 22, 0), (22, .putfield 75, 25, 193), (25, .iload_n 1, 26, 0), (26, .ireturn, 27, 0)]
def cd83 : List Ins := [(0, .aload_n 0, 1, 0), (1, .getfield 21, 4, 641), (4, .iload_n 1, 5, 0), (5, .invokevirtual 82, 8, 73), (8, .astore_n 2, 9, 0), (9, .bipush (-2), 11, 0), (11, .istore_n 3, 12, 0), (12, .aload_n 2, 13, 0), (13, .ifnull 44, 16, 57), (16, .aload_n 0, 17, 0), (17, .getfield 14, 20, 640), (20, .getfield 75, 23, 193), (23, .bipush 10, 25, 0), (25, .if_icmp .gt 32, 28, 57), (28, .aload_n 0, 29, 0), (29, .getfield 14, 32, 640), (32, .invokevirtual 86, 35, 17), (35, .ifCond .eq 22, 38, 57), (38, .aload_n 2, 39, 0), (39, .getfield 90, 42, 128), (42, .aload_n 0, 43, 0), (43, .getfield 14, 46, 640), (46, .invokevirtual 95, 49, 12), (49, .aload_n 0, 50, 0), (50, .getfield 14, 53, 640), (53, .getfield 75, 56, 193), (56, .istore_n 3, 57, 0), (57, .aload_n 0, 58, 0), (58, .getfield 14, 61, 640), (61, .iconst 0, 62, 0), (62, .putfield 75, 65, 193), (65, .iload_n 3, 66, 0), (66, .ireturn, 67, 0)]
def cd84 : List Ins := [(0, .aload_n 0, 1, 0), (1, .getfield 21, 4, 641), (4, .iload_n 1, 5, 0), (5, .invokevirtual 82, 8, 73), (8, .astore 5, 10, 0), (10, .aload 5, 12, 0), (12, .ifnull 33, 15, 45), (15, .iload_n 2, 16, 0), (16, .ifCond .lt 29, 19, 45), (19, .iload_n 2, 20, 0), (20, .bipush 7, 22, 0), (22, .if_icmp .gt 23, 25, 45), (25, .iload_n 3, 26, 0), (26, .ifCond .lt 19, 29, 45), (29, .iload_n 3, 30, 0), (30, .iconst 4, 31, 0), (31, .if_icmp .gt 14, 34, 45), (34, .iload 4, 36, 0), (36, .ifCond .lt 9, 39, 45), (39, .iload 4, 41, 0), (41, .iconst 2, 42, 0), (42, .if_icmp .le 6, 45, 48), (45, .bipush (-2), 47, 0), (47, .ireturn, 48, 0), (48, .aload 5, 50, 0), (50, .iload_n 2, 51, 0), (51, .putfield 99, 54, 129), (54, .aload 5, 56, 0), (56, .iload_n 3, 57, 0), (57, .putfield 102, 60, 130), (60, .aload 5, 62, 0), (62, .iload 4, 64, 0), (64, .putfield 105, 67, 131), (67, .aload_n 0, 68, 0), (68, .getfield 34, 71, 642), (71, .iconst 1, 72, 0), (72, .putfield 108, 75, 320), (75, .iconst 1, 76, 0), (76, .ireturn, 77, 0)]
def cd85 : List Ins := [(0, .aload_n 0, 1, 0), (1, .getfield 21, 4, 641), (4, .iload_n 2, 5, 0), (5, .invokevirtual 112, 8, 76), (8, .astore 4, 10, 0), (10, .aload_n 0, 11, 0), (11, .getfield 21, 14, 641), (14, .iload_n 1, 15, 0), (15, .invokevirtual 82, 18, 73), (18, .ifnull 21, 21, 39), (21, .aload 4, 23, 0), (23, .ifnull 16, 26, 39), (26, .iload_n 3, 27, 0), (27, .ifCond .lt 12, 30, 39), (30, .iload_n 3, 31, 0), (31, .aload 4, 33, 0), (33, .invokevirtual 116, 36, 59), (36, .if_icmp .le 6, 39, 42), (39, .bipush (-2), 41, 0), (41, .ireturn, 42, 0), (42, .aload_n 0, 43, 0), (43, .invokevirtual 122, 46, 109), (46, .ifCond .eq 6, 49, 52), (49, .bipush (-3), 51, 0), (51, .ireturn, 52, 0), (52, .aload_n 0, 53, 0), (53, .getfield 21, 56, 641), (56, .iload_n 1, 57, 0), (57, .invokevirtual 125, 60, 78), (60, .astore 5, 62, 0), (62, .aload 5, 64, 0), (64, .ifnonnull 6, 67, 70), (67, .bipush (-3), 69, 0), (69, .ireturn, 70, 0), (70, .aload 5, 72, 0), (72, .iconst 1, 73, 0), (73, .putfield 128, 76, 519), (76, .aload 5, 78, 0), (78, .aload 4, 80, 0), (80, .iload_n 3, 81, 0), (81, .invokevirtual 131, 84, 62), (84, .aload_n 0, 85, 0), (85, .new 38, 88, 0), (88, .dup, 89, 0), (89, .iconst 0, 90, 0), (90, .aload 5, 92, 0), (92, .aload 4, 94, 0), (94, .iload_n 3, 95, 0), (95, .aconst_null, 96, 0), (96, .invokespecial 135, 99, 0), (99, .invokevirtual 138, 102, 110), (102, .aload 5, 104, 0), (104, .getfield 142, 107, 512), (107, .ireturn, 108, 0)]
def cd86 : List Ins := [(0, .aload_n 0, 1, 0), (1, .getfield 21, 4, 641), (4, .iload_n 1, 5, 0), (5, .invokevirtual 145, 8, 75), (8, .astore 4, 10, 0), (10, .aload_n 0, 11, 0), (11, .getfield 21, 14, 641), (14, .iload_n 2, 15, 0), (15, .invokevirtual 112, 18, 76), (18, .astore 5, 20, 0), (20, .aload 4, 22, 0), (22, .ifnull 18, 25, 40), (25, .aload 5, 27, 0), (27, .ifnull 13, 30, 40), (30, .aload 5, 32, 0), (32, .aload 4, 34, 0), (34, .invokevirtual 148, 37, 66), (37, .ifCond .eq 6, 40, 43), (40, .bipush (-2), 42, 0), (42, .ireturn, 43, 0), (43, .aload 4, 45, 0), (45, .getfield 152, 48, 515), (48, .aload 5, 50, 0), (50, .if_acmp .ne 13, 53, 63), (53, .aload 5, 55, 0), (55, .invokevirtual 116, 58, 59), (58, .iconst 1, 59, 0), (59, .isub, 60, 0), (60, .goto 8, 63, 68), (63, .aload 5, 65, 0), (65, .invokevirtual 116, 68, 59), (68, .istore 6, 70, 0), (70, .iload_n 3, 71, 0), (71, .ifCond .lt 9, 74, 80), (74, .iload_n 3, 75, 0), (75, .iload 6, 77, 0), (77, .if_icmp .le 6, 80, 83), (80, .bipush (-2), 82, 0), (82, .ireturn, 83, 0), (83, .aload_n 0, 84, 0), (84, .invokevirtual 122, 87, 109), (87, .ifCond .eq 6, 90, 93), (90, .bipush (-3), 92, 0), (92, .ireturn, 93, 0), (93, .aload_n 0, 94, 0), (94, .getfield 34, 97, 642), (97, .invokevirtual 155, 100, 22), (100, .aload_n 0, 101, 0), (101, .getfield 34, 104, 642), (104, .invokevirtual 158, 107, 23), (107, .new 38, 110, 0), (110, .dup, 111, 0), (111, .iconst 1, 112, 0), (112, .aload 4, 114, 0), (114, .aload 4, 116, 0), (116, .getfield 152, 119, 515), (119, .aload 4, 121, 0), (121, .invokevirtual 161, 124, 61), (124, .aconst_null, 125, 0), (125, .invokespecial 135, 128, 0), (128, .astore 7, 130, 0), (130, .aload 4, 132, 0), (132, .invokevirtual 164, 135, 63), (135, .aload 4, 137, 0), (137, .aload 5, 139, 0), (139, .iload_n 3, 140, 0), (140, .invokevirtual 131, 143, 62), (143, .aload_n 0, 144, 0), (144, .aload 7, 146, 0), (146, .invokevirtual 138, 149, 110), (149, .aload_n 0, 150, 0), (150, .getfield 34, 153, 642), (153, .invokevirtual 155, 156, 22), (156, .aload_n 0, 157, 0), (157, .getfield 34, 160, 642), (160, .invokevirtual 167, 163, 24), (163, .ireturn, 164, 0)]
def cd87 : List Ins := [(0, .aload_n 0, 1, 0), (1, .getfield 21, 4, 641), (4, .iload_n 1, 5, 0), (5, .invokevirtual 145, 8, 75), (8, .astore_n 2, 9, 0), (9, .aload_n 2, 10, 0), (10, .ifnonnull 6, 13, 16), (13, .bipush (-2), 15, 0), (15, .ireturn, 16, 0), (16, .aload_n 0, 17, 0), (17, .invokevirtual 122, 20, 109), (20, .ifCond .eq 6, 23, 26), (23, .bipush (-3), 25, 0), (25, .ireturn, 26, 0), (26, .new 38, 29, 0), (29, .dup, 30, 0), (30, .iconst 2, 31, 0), (31, .aload_n 2, 32, 0), (32, .aload_n 2, 33, 0), (33, .getfield 152, 36, 515), (36, .aload_n 2, 37, 0), (37, .invokevirtual 161, 40, 61), (40, .aconst_null, 41, 0), (41, .invokespecial 135, 44, 0), (44, .astore_n 3, 45, 0), (45, .aload_n 2, 46, 0), (46, .invokevirtual 164, 49, 63), (49, .aload_n 2, 50, 0), (50, .iconst 0, 51, 0), (51, .invokevirtual 170, 54, 68), (54, .istore 4, 56, 0), (56, .aload_n 0, 57, 0), (57, .aload_n 3, 58, 0), (58, .invokevirtual 138, 61, 110), (61, .iload 4, 63, 0), (63, .ireturn, 64, 0)]
def cd88 : List Ins := [(0, .aload_n 0, 1, 0), (1, .getfield 21, 4, 641), (4, .iload_n 1, 5, 0), (5, .invokevirtual 145, 8, 75), (8, .astore_n 3, 9, 0), (9, .aload_n 0, 10, 0), (10, .getfield 21, 13, 641), (13, .iload_n 2, 14, 0), (14, .invokevirtual 145, 17, 75), (17, .astore 4, 19, 0), (19, .aload_n 3, 20, 0), (20, .ifnull 29, 23, 49), (23, .aload 4, 25, 0), (25, .ifnull 24, 28, 49), (28, .aload_n 3, 29, 0), (29, .getfield 174, 32, 517), (32, .aload 4, 34, 0), (34, .if_acmp .ne 15, 37, 49), (37, .aload_n 3, 38, 0), (38, .getfield 177, 41, 513), (41, .aload 4, 43, 0), (43, .getfield 177, 46, 513), (46, .if_icmp .eq 6, 49, 52), (49, .bipush (-2), 51, 0), (51, .ireturn, 52, 0), (52, .aload_n 0, 53, 0), (53, .invokevirtual 122, 56, 109), (56, .ifCond .eq 6, 59, 62), (59, .bipush (-3), 61, 0), (61, .ireturn, 62, 0), (62, .new 38, 65, 0), (65, .dup, 66, 0), (66, .iconst 3, 67, 0), (67, .aload 4, 69, 0), (69, .aload 4, 71, 0), (71, .getfield 152, 74, 515), (74, .aload 4, 76, 0), (76, .invokevirtual 161, 79, 61), (79, .aload 4, 81, 0), (81, .getfield 180, 84, 516), (84, .invokespecial 135, 87, 0), (87, .astore 5, 89, 0), (89, .aload 4, 91, 0), (91, .invokevirtual 164, 94, 63), (94, .aload 4, 96, 0), (96, .iconst 0, 97, 0), (97, .putfield 128, 100, 519), (100, .aload 4, 102, 0), (102, .aload_n 3, 103, 0), (103, .putfield 183, 106, 518), (106, .aload_n 3, 107, 0), (107, .aload 4, 109, 0), (109, .invokevirtual 186, 112, 64), (112, .aload_n 0, 113, 0), (113, .aload 5, 115, 0), (115, .invokevirtual 138, 118, 110), (118, .aload_n 3, 119, 0), (119, .invokevirtual 116, 122, 59), (122, .ireturn, 123, 0)]
def cd89 : List Ins := [(0, .aload_n 0, 1, 0), (1, .getfield 189, 4, 644), (4, .ifCond .gt 5, 7, 9), (7, .iconst (-1), 8, 0), (8, .ireturn, 9, 0), (9, .aload_n 0, 10, 0), (10, .dup, 11, 0), (11, .getfield 189, 14, 644), (14, .iconst 1, 15, 0), (15, .isub, 16, 0), (16, .putfield 189, 19, 644), (19, .aload_n 0, 20, 0), (20, .getfield 40, 23, 643), (23, .aload_n 0, 24, 0), (24, .getfield 189, 27, 644), (27, .aaload, 28, 0), (28, .astore_n 1, 29, 0), (29, .aload_n 1, 30, 0), (30, .ifnull 7, 33, 37), (33, .aload_n 1, 34, 0), (34, .invokevirtual 192, 37, 1), (37, .aload_n 0, 38, 0), (38, .getfield 34, 41, 642), (41, .iconst 1, 42, 0), (42, .putfield 108, 45, 320), (45, .aload_n 0, 46, 0), (46, .getfield 189, 49, 644), (49, .ireturn, 50, 0)]
def cd90 : List Ins := [(0, .aload_n 0, 1, 0), (1, .getfield 21, 4, 641), (4, .iload_n 1, 5, 0), (5, .invokevirtual 195, 8, 74), (8, .astore_n 3, 9, 0), (9, .aload_n 3, 10, 0), (10, .ifnonnull 6, 13, 16), (13, .bipush (-10), 15, 0), (15, .ireturn, 16, 0), (16, .aload_n 0, 17, 0), (17, .getfield 34, 20, 642), (20, .invokevirtual 155, 23, 22), (23, .iload_n 2, 24, 0), (24, .tableswitch 189 0 8 #[52, 57, 84, 101, 117, 133, 149, 162, 170], 76, 0), (76, .aload_n 3, 77, 0), (77, .getfield 177, 80, 513), (80, .ireturn, 81, 0), (81, .aload_n 3, 82, 0), (82, .getfield 128, 85, 519), (85, .ifCond .eq 20, 88, 105), (88, .aload_n 3, 89, 0), (89, .getfield 152, 92, 515), (92, .ifnull 13, 95, 105), (95, .aload_n 3, 96, 0), (96, .getfield 152, 99, 515), (99, .getfield 142, 102, 512), (102, .goto 5, 105, 107), (105, .bipush (-9), 107, 0), (107, .ireturn, 108, 0), (108, .aload_n 3, 109, 0), (109, .getfield 128, 112, 519), (112, .ifCond .eq 10, 115, 122), (115, .aload_n 3, 116, 0), (116, .invokevirtual 161, 119, 61), (119, .goto 5, 122, 124), (122, .bipush (-9), 124, 0), (124, .ireturn, 125, 0), (125, .aload_n 3, 126, 0), (126, .getfield 128, 129, 519), (129, .ifCond .eq 10, 132, 139), (132, .aload_n 3, 133, 0), (133, .invokevirtual 116, 136, 59), (136, .goto 4, 139, 140), (139, .iconst 0, 140, 0), (140, .ireturn, 141, 0), (141, .aload_n 3, 142, 0), (142, .getfield 128, 145, 519), (145, .ifCond .eq 10, 148, 155), (148, .aload_n 3, 149, 0), (149, .getfield 198, 152, 523), (152, .goto 4, 155, 156), (155, .iconst 0, 156, 0), (156, .ireturn, 157, 0), (157, .aload_n 3, 158, 0), (158, .getfield 128, 161, 519), (161, .ifCond .eq 10, 164, 171), (164, .aload_n 3, 165, 0), (165, .getfield 201, 168, 521), (168, .goto 4, 171, 172), (171, .iconst (-1), 172, 0), (172, .ireturn, 173, 0), (173, .aload_n 3, 174, 0), (174, .getfield 128, 177, 519), (177, .ifCond .eq 7, 180, 184), (180, .iconst 1, 181, 0), (181, .goto 4, 184, 185), (184, .iconst 0, 185, 0), (185, .ireturn, 186, 0), (186, .aload_n 3, 187, 0), (187, .getfield 183, 190, 518), (190, .invokestatic 204, 193, 108), (193, .ireturn, 194, 0), (194, .aload_n 3, 195, 0), (195, .getfield 128, 198, 519), (198, .ifCond .eq 13, 201, 211), (201, .aload_n 3, 202, 0), (202, .getfield 208, 205, 524), (205, .invokestatic 204, 208, 108), (208, .goto 4, 211, 212), (211, .iconst (-1), 212, 0), (212, .ireturn, 213, 0), (213, .bipush (-10), 215, 0), (215, .ireturn, 216, 0)]
def cd91 : List Ins := [(0, .aload_n 0, 1, 0), (1, .getfield 34, 4, 642), (4, .invokevirtual 155, 7, 22), (7, .aload_n 0, 8, 0), (8, .getfield 21, 11, 641), (11, .iload_n 1, 12, 0), (12, .invokevirtual 211, 15, 77), (15, .invokestatic 204, 18, 108), (18, .ireturn, 19, 0)]
def cd92 : List Ins := [(0, .aload_n 0, 1, 0), (1, .getfield 21, 4, 641), (4, .iload_n 1, 5, 0), (5, .invokevirtual 145, 8, 75), (8, .astore_n 3, 9, 0), (9, .aload_n 3, 10, 0), (10, .ifnonnull 5, 13, 15), (13, .iconst (-1), 14, 0), (14, .ireturn, 15, 0), (15, .aload_n 0, 16, 0), (16, .getfield 34, 19, 642), (19, .invokevirtual 155, 22, 22), (22, .aload_n 0, 23, 0), (23, .getfield 72, 26, 651), (26, .iconst 0, 27, 0), (27, .putfield 75, 30, 193), (30, .aload_n 3, 31, 0), (31, .aload_n 0, 32, 0), (32, .getfield 72, 35, 651), (35, .invokevirtual 214, 38, 71), (38, .aload_n 0, 39, 0), (39, .getfield 72, 42, 651), (42, .iload_n 2, 43, 0), (43, .invokevirtual 217, 46, 14), (46, .ireturn, 47, 0)]
def cd93 : List Ins := [(0, .aload_n 0, 1, 0), (1, .getfield 34, 4, 642), (4, .invokevirtual 155, 7, 22), (7, .iconst 0, 8, 0), (8, .istore_n 1, 9, 0), (9, .aload_n 0, 10, 0), (10, .getfield 21, 13, 641), (13, .getfield 27, 16, 576), (16, .getfield 221, 19, 520), (19, .astore_n 2, 20, 0), (20, .aload_n 2, 21, 0), (21, .ifnull 56, 24, 77), (24, .aload_n 2, 25, 0), (25, .getfield 221, 28, 520), (28, .astore_n 3, 29, 0), (29, .aload_n 3, 30, 0), (30, .ifnull 39, 33, 69), (33, .aload_n 2, 34, 0), (34, .getfield 177, 37, 513), (37, .aload_n 3, 38, 0), (38, .getfield 177, 41, 513), (41, .if_icmp .ne 20, 44, 61), (44, .aload_n 2, 45, 0), (45, .getfield 224, 48, 527), (48, .aload_n 3, 49, 0), (49, .getfield 224, 52, 527), (52, .invokevirtual 227, 55, 15), (55, .ifCond .eq 6, 58, 61), (58, .iinc 1 1, 61, 0), (61, .aload_n 3, 62, 0), (62, .getfield 221, 65, 520), (65, .astore_n 3, 66, 0), (66, .goto (-37), 69, 29), (69, .aload_n 2, 70, 0), (70, .getfield 221, 73, 520), (73, .astore_n 2, 74, 0), (74, .goto (-54), 77, 20), (77, .iload_n 1, 78, 0), (78, .ireturn, 79, 0)]
def cd94 : List Ins := [(0, .aload_n 0, 1, 0), (1, .getfield 21, 4, 641), (4, .iload_n 1, 5, 0), (5, .invokevirtual 145, 8, 75), (8, .astore 4, 10, 0), (10, .iload_n 2, 11, 0), (11, .ifCond .ne 7, 14, 18), (14, .iconst 1, 15, 0), (15, .goto 4, 18, 19), (18, .iconst 0, 19, 0), (19, .istore 5, 21, 0), (21, .iload_n 2, 22, 0), (22, .iconst 2, 23, 0), (23, .if_icmp .eq 8, 26, 31), (26, .iload_n 2, 27, 0), (27, .iconst 3, 28, 0), (28, .if_icmp .ne 7, 31, 35), (31, .iconst 1, 32, 0), (32, .goto 4, 35, 36), (35, .iconst 0, 36, 0), (36, .istore 6, 38, 0), (38, .iload 5, 40, 0), (40, .ifCond .eq 14, 43, 54), (43, .aload_n 0, 44, 0), (44, .getfield 21, 47, 641), (47, .iload_n 3, 48, 0), (48, .invokevirtual 145, 51, 75), (51, .goto 4, 54, 55), (54, .aconst_null, 55, 0), (55, .astore 7, 57, 0), (57, .aload 4, 59, 0), (59, .ifnull 39, 62, 98), (62, .iload 5, 64, 0), (64, .ifCond .eq 8, 67, 72), (67, .aload 7, 69, 0), (69, .ifnull 29, 72, 98), (72, .iload 5, 74, 0), (74, .ifCond .ne 8, 77, 82), (77, .iload 6, 79, 0), (79, .ifCond .eq 19, 82, 98), (82, .iload 6, 84, 0), (84, .ifCond .eq 17, 87, 101), (87, .aload_n 0, 88, 0), (88, .getfield 21, 91, 641), (91, .iload_n 3, 92, 0), (92, .invokevirtual 82, 95, 73), (95, .ifnonnull 6, 98, 101), (98, .bipush (-2), 100, 0), (100, .ireturn, 101, 0), (101, .new 44, 104, 4), (104, .dup, 105, 0), (105, .iload_n 2, 106, 0), (106, .aload 4, 108, 0), (108, .iload 6, 110, 0), (110, .ifCond .eq 7, 113, 117), (113, .iload_n 3, 114, 0), (114, .goto 4, 117, 118), (117, .iconst (-1), 118, 0), (118, .iload 5, 120, 0), (120, .ifCond .eq 7, 123, 127), (123, .iconst 1, 124, 0), (124, .goto 4, 127, 128), (127, .iconst 0, 128, 0), (128, .aconst_null, 129, 0), (129, .invokespecial 231, 132, 18), (132, .astore 8, 134, 0), (134, .aload 8, 136, 0), (136, .aload 7, 138, 0), (138, .invokevirtual 234, 141, 19), (141, .aload_n 0, 142, 0), (142, .aload 8, 144, 0), (144, .invokevirtual 237, 147, 112), (147, .ireturn, 148, 0)]
def cd95 : List Ins := [(0, .aload_n 0, 1, 0), (1, .getfield 21, 4, 641), (4, .iload_n 1, 5, 0), (5, .invokevirtual 145, 8, 75), (8, .astore 5, 10, 0), (10, .aload_n 0, 11, 0), (11, .getfield 34, 14, 642), (14, .invokevirtual 155, 17, 22), (17, .aload_n 0, 18, 0), (18, .getfield 21, 21, 641), (21, .iload_n 3, 22, 0), (22, .invokevirtual 211, 25, 77), (25, .astore 6, 27, 0), (27, .aload 5, 29, 0), (29, .ifnull 31, 32, 60), (32, .aload_n 0, 33, 0), (33, .getfield 21, 36, 641), (36, .iload_n 2, 37, 0), (37, .invokevirtual 82, 40, 73), (40, .ifnull 20, 43, 60), (43, .aload 6, 45, 0), (45, .ifnull 15, 48, 60), (48, .aload_n 0, 49, 0), (49, .getfield 21, 52, 641), (52, .iload 4, 54, 0), (54, .invokevirtual 211, 57, 77), (57, .ifnonnull 6, 60, 63), (60, .bipush (-2), 62, 0), (62, .ireturn, 63, 0), (63, .new 44, 66, 4), (66, .dup, 67, 0), (67, .iconst 1, 68, 0), (68, .aload 5, 70, 0), (70, .iload_n 2, 71, 0), (71, .bipush 12, 73, 0), (73, .aconst_null, 74, 0), (74, .invokespecial 231, 77, 18), (77, .astore 7, 79, 0), (79, .iconst 0, 80, 0), (80, .istore 8, 82, 0), (82, .aload 6, 84, 0), (84, .astore 9, 86, 0), (86, .aload 9, 88, 0), (88, .ifnull 42, 91, 130), (91, .aload 9, 93, 0), (93, .getfield 201, 96, 521), (96, .iload 4, 98, 0), (98, .if_icmp .gt 32, 101, 130), (101, .aload 9, 103, 0), (103, .getfield 177, 106, 513), (106, .iload_n 2, 107, 0), (107, .if_icmp .ne 13, 110, 120), (110, .aload 7, 112, 0), (112, .aload 9, 114, 0), (114, .invokevirtual 234, 117, 19), (117, .iinc 8 1, 120, 0), (120, .aload 9, 122, 0), (122, .getfield 221, 125, 520), (125, .astore 9, 127, 0), (127, .goto (-41), 130, 86), (130, .iload 8, 132, 0), (132, .iconst 2, 133, 0), (133, .if_icmp .lt 10, 136, 143), (136, .iload 8, 138, 0), (138, .bipush 12, 140, 0), (140, .if_icmp .le 8, 143, 148), (143, .bipush (-2), 145, 0), (145, .goto 9, 148, 154), (148, .aload_n 0, 149, 0), (149, .aload 7, 151, 0), (151, .invokevirtual 237, 154, 112), (154, .ireturn, 155, 0)]
def cd96 : List Ins := [(0, .aload_n 0, 1, 0), (1, .getfield 21, 4, 641), (4, .iload_n 1, 5, 0), (5, .invokevirtual 145, 8, 75), (8, .astore 4, 10, 0), (10, .aload_n 0, 11, 0), (11, .getfield 21, 14, 641), (14, .iload_n 2, 15, 0), (15, .invokevirtual 195, 18, 74), (18, .astore 5, 20, 0), (20, .aload_n 0, 21, 0), (21, .iload_n 3, 22, 0), (22, .invokevirtual 241, 25, 113), (25, .astore 6, 27, 0), (27, .aload 6, 29, 0), (29, .ifnonnull 7, 32, 36), (32, .aconst_null, 33, 0), (33, .goto 9, 36, 42), (36, .aload 6, 38, 0), (38, .iload_n 2, 39, 0), (39, .invokevirtual 245, 42, 5), (42, .astore 7, 44, 0), (44, .aload 4, 46, 0), (46, .ifnull 13, 49, 59), (49, .aload 5, 51, 0), (51, .ifnull 8, 54, 59), (54, .aload 7, 56, 0), (56, .ifnonnull 6, 59, 62), (59, .bipush (-2), 61, 0), (61, .ireturn, 62, 0), (62, .new 44, 65, 4), (65, .dup, 66, 0), (66, .iconst 4, 67, 0), (67, .aload 4, 69, 0), (69, .iconst (-1), 70, 0), (70, .iconst 1, 71, 0), (71, .aload 7, 73, 0), (73, .invokespecial 231, 76, 18), (76, .astore 8, 78, 0), (78, .aload 8, 80, 0), (80, .aload 5, 82, 0), (82, .invokevirtual 234, 85, 19), (85, .aload_n 0, 86, 0), (86, .aload 8, 88, 0), (88, .invokevirtual 237, 91, 112), (91, .ireturn, 92, 0)]
def cd97 : List Ins := [(0, .aload_n 0, 1, 0), (1, .iload_n 1, 2, 0), (2, .invokevirtual 249, 5, 111), (5, .astore_n 3, 6, 0), (6, .aload_n 3, 7, 0), (7, .ifnonnull 6, 10, 13), (10, .bipush (-10), 12, 0), (12, .ireturn, 13, 0), (13, .aload_n 0, 14, 0), (14, .getfield 34, 17, 642), (17, .invokevirtual 155, 20, 22), (20, .iload_n 2, 21, 0), (21, .tableswitch 101 0 5 #[39, 44, 55, 67, 76, 81], 60, 0), (60, .aload_n 3, 61, 0), (61, .getfield 253, 64, 256), (64, .ireturn, 65, 0), (65, .aload_n 3, 66, 0), (66, .getfield 254, 69, 257), (69, .invokevirtual 257, 72, 69), (72, .invokestatic 204, 75, 108), (75, .ireturn, 76, 0), (76, .aload_n 0, 77, 0), (77, .getfield 53, 80, 647), (80, .aload_n 3, 81, 0), (81, .invokevirtual 261, 84, 47), (84, .invokestatic 204, 87, 108), (87, .ireturn, 88, 0), (88, .aload_n 0, 89, 0), (89, .getfield 53, 92, 647), (92, .aload_n 3, 93, 0), (93, .invokevirtual 265, 96, 48), (96, .ireturn, 97, 0), (97, .aload_n 3, 98, 0), (98, .invokevirtual 268, 101, 20), (101, .ireturn, 102, 0), (102, .aload_n 0, 103, 0), (103, .getfield 53, 106, 647), (106, .aload_n 3, 107, 0), (107, .aload_n 0, 108, 0), (108, .getfield 72, 111, 651), (111, .invokevirtual 271, 114, 49), (114, .aload_n 0, 115, 0), (115, .getfield 72, 118, 651), (118, .getfield 75, 121, 193), (121, .ireturn, 122, 0), (122, .bipush (-10), 124, 0), (124, .ireturn, 125, 0)]
def cd98 : List Ins := [(0, .aload_n 0, 1, 0), (1, .iload_n 1, 2, 0), (2, .invokevirtual 249, 5, 111), (5, .astore_n 3, 6, 0), (6, .aload_n 3, 7, 0), (7, .ifnonnull 5, 10, 12), (10, .iconst (-1), 11, 0), (11, .ireturn, 12, 0), (12, .aload_n 0, 13, 0), (13, .getfield 34, 16, 642), (16, .invokevirtual 155, 19, 22), (19, .aload_n 0, 20, 0), (20, .getfield 53, 23, 647), (23, .aload_n 3, 24, 0), (24, .aload_n 0, 25, 0), (25, .getfield 72, 28, 651), (28, .invokevirtual 271, 31, 49), (31, .aload_n 0, 32, 0), (32, .getfield 72, 35, 651), (35, .iload_n 2, 36, 0), (36, .invokevirtual 217, 39, 14), (39, .ireturn, 40, 0)]
def cd99 : List Ins := [(0, .aload_n 0, 1, 0), (1, .getfield 34, 4, 642), (4, .invokevirtual 155, 7, 22), (7, .iconst 0, 8, 0), (8, .istore_n 1, 9, 0), (9, .iconst 0, 10, 0), (10, .istore_n 2, 11, 0), (11, .iload_n 2, 12, 0), (12, .aload_n 0, 13, 0), (13, .getfield 275, 16, 646), (16, .if_icmp .ge 51, 19, 67), (19, .aload_n 0, 20, 0), (20, .iload_n 2, 21, 0), (21, .invokevirtual 249, 24, 111), (24, .astore_n 3, 25, 0), (25, .aload_n 3, 26, 0), (26, .ifnull 35, 29, 61), (29, .aload_n 3, 30, 0), (30, .getfield 254, 33, 257), (33, .invokevirtual 278, 36, 70), (36, .ifnull 25, 39, 61), (39, .aload_n 3, 40, 0), (40, .invokevirtual 268, 43, 20), (43, .ifCond .gt 15, 46, 58), (46, .aload_n 0, 47, 0), (47, .getfield 53, 50, 647), (50, .aload_n 3, 51, 0), (51, .invokevirtual 265, 54, 48), (54, .iconst 1, 55, 0), (55, .if_icmp .eq 6, 58, 61), (58, .iinc 1 1, 61, 0), (61, .iinc 2 1, 64, 0), (64, .goto (-53), 67, 11), (67, .iload_n 1, 68, 0), (68, .ireturn, 69, 0)]
def cd100 : List Ins := [(0, .aload_n 0, 1, 0), (1, .getfield 281, 4, 649), (4, .bipush 8, 6, 0), (6, .if_icmp .lt 6, 9, 12), (9, .bipush (-3), 11, 0), (11, .ireturn, 12, 0), (12, .aload_n 0, 13, 0), (13, .getfield 34, 16, 642), (16, .invokevirtual 155, 19, 22), (19, .new 57, 22, 1), (22, .dup, 23, 0), (23, .aload_n 0, 24, 0), (24, .getfield 21, 27, 641), (27, .getfield 284, 30, 579), (30, .invokespecial 285, 33, 3), (33, .astore_n 1, 34, 0), (34, .aload_n 0, 35, 0), (35, .getfield 21, 38, 641), (38, .getfield 27, 41, 576), (41, .getfield 221, 44, 520), (44, .astore_n 2, 45, 0), (45, .aload_n 2, 46, 0), (46, .ifnull 49, 49, 95), (49, .aload_n 0, 50, 0), (50, .getfield 72, 53, 651), (53, .iconst 0, 54, 0), (54, .putfield 75, 57, 193), (57, .aload_n 2, 58, 0), (58, .aload_n 0, 59, 0), (59, .getfield 72, 62, 651), (62, .invokevirtual 214, 65, 71), (65, .aload_n 1, 66, 0), (66, .aload_n 2, 67, 0), (67, .getfield 142, 70, 512), (70, .aload_n 0, 71, 0), (71, .getfield 72, 74, 651), (74, .invokevirtual 286, 77, 13), (77, .aload_n 2, 78, 0), (78, .getfield 224, 81, 527), (81, .invokevirtual 286, 84, 13), (84, .invokevirtual 290, 87, 4), (87, .aload_n 2, 88, 0), (88, .getfield 221, 91, 520), (91, .astore_n 2, 92, 0), (92, .goto (-47), 95, 45), (95, .aload_n 0, 96, 0), (96, .getfield 59, 99, 648), (99, .aload_n 0, 100, 0), (100, .getfield 281, 103, 649), (103, .aload_n 1, 104, 0), (104, .aastore, 105, 0), (105, .aload_n 0, 106, 0), (106, .dup, 107, 0), (107, .getfield 281, 110, 649), (110, .iconst 1, 111, 0), (111, .iadd, 112, 0), (112, .putfield 281, 115, 649), (115, .aload_n 0, 116, 0), (116, .getfield 281, 119, 649), (119, .iconst 1, 120, 0), (120, .isub, 121, 0), (121, .ireturn, 122, 0)]
def cd101 : List Ins := [(0, .aload_n 0, 1, 0), (1, .iload_n 1, 2, 0), (2, .invokevirtual 241, 5, 113), (5, .astore_n 3, 6, 0), (6, .aload_n 3, 7, 0), (7, .ifnull 14, 10, 21), (10, .aload_n 0, 11, 0), (11, .getfield 21, 14, 641), (14, .iload_n 2, 15, 0), (15, .invokevirtual 82, 18, 73), (18, .ifnonnull 8, 21, 26), (21, .bipush (-2), 23, 0), (23, .goto 9, 26, 32), (26, .aload_n 0, 27, 0), (27, .aload_n 3, 28, 0), (28, .iload_n 2, 29, 0), (29, .invokevirtual 294, 32, 114), (32, .istore 4, 34, 0), (34, .aload_n 0, 35, 0), (35, .getfield 14, 38, 640), (38, .iconst 0, 39, 0), (39, .putfield 75, 42, 193), (42, .iload 4, 44, 0), (44, .ireturn, 45, 0)]
def cd102 : List Ins := [(0, .aload_n 0, 1, 0), (1, .iload_n 1, 2, 0), (2, .invokevirtual 241, 5, 113), (5, .astore_n 3, 6, 0), (6, .aload_n 0, 7, 0), (7, .getfield 21, 10, 641), (10, .iload_n 2, 11, 0), (11, .invokevirtual 195, 14, 74), (14, .astore 4, 16, 0), (16, .aload_n 3, 17, 0), (17, .ifnull 16, 20, 33), (20, .aload 4, 22, 0), (22, .ifnull 11, 25, 33), (25, .aload_n 3, 26, 0), (26, .iload_n 2, 27, 0), (27, .invokevirtual 245, 30, 5), (30, .ifnonnull 6, 33, 36), (33, .bipush (-2), 35, 0), (35, .ireturn, 36, 0), (36, .aload 4, 38, 0), (38, .invokevirtual 278, 41, 70), (41, .invokestatic 204, 44, 108), (44, .ireturn, 45, 0)]
def cd103 : List Ins := [(0, .aload_n 0, 1, 0), (1, .iload_n 1, 2, 0), (2, .invokevirtual 241, 5, 113), (5, .astore_n 2, 6, 0), (6, .aload_n 2, 7, 0), (7, .ifnonnull 6, 10, 13), (10, .bipush (-2), 12, 0), (12, .ireturn, 13, 0), (13, .aload_n 0, 14, 0), (14, .getfield 34, 17, 642), (17, .invokevirtual 155, 20, 22), (20, .iconst 0, 21, 0), (21, .istore_n 3, 22, 0), (22, .iconst 0, 23, 0), (23, .istore 4, 25, 0), (25, .iload 4, 27, 0), (27, .aload_n 0, 28, 0), (28, .getfield 21, 31, 641), (31, .getfield 284, 34, 579), (34, .if_icmp .ge 52, 37, 86), (37, .aload_n 0, 38, 0), (38, .getfield 21, 41, 641), (41, .iload 4, 43, 0), (43, .invokevirtual 195, 46, 74), (46, .astore 5, 48, 0), (48, .aload_n 2, 49, 0), (49, .iload 4, 51, 0), (51, .invokevirtual 245, 54, 5), (54, .astore 6, 56, 0), (56, .aload 5, 58, 0), (58, .ifnull 22, 61, 80), (61, .aload 6, 63, 0), (63, .ifnull 17, 66, 80), (66, .aload_n 0, 67, 0), (67, .aload 5, 69, 0), (69, .aload 6, 71, 0), (71, .invokevirtual 298, 74, 115), (74, .ifCond .ne 6, 77, 80), (77, .iinc 3 1, 80, 0), (80, .iinc 4 1, 83, 0), (83, .goto (-58), 86, 25), (86, .iload_n 3, 87, 0), (87, .ireturn, 88, 0)]
def cd104 : List Ins := [(0, .aload_n 0, 1, 0), (1, .getfield 21, 4, 641), (4, .iload_n 1, 5, 0), (5, .invokevirtual 145, 8, 75), (8, .astore_n 2, 9, 0), (9, .bipush (-2), 11, 0), (11, .istore_n 3, 12, 0), (12, .aload_n 2, 13, 0), (13, .ifnull 19, 16, 32), (16, .aload_n 0, 17, 0), (17, .getfield 34, 20, 642), (20, .invokevirtual 155, 23, 22), (23, .aload_n 0, 24, 0), (24, .getfield 68, 27, 650), (27, .aload_n 2, 28, 0), (28, .invokevirtual 302, 31, 37), (31, .istore_n 3, 32, 0), (32, .aload_n 0, 33, 0), (33, .getfield 14, 36, 640), (36, .iconst 0, 37, 0), (37, .putfield 75, 40, 193), (40, .iload_n 3, 41, 0), (41, .ireturn, 42, 0)]
def cd105 : List Ins := [(0, .aload_n 0, 1, 0), (1, .getfield 68, 4, 650), (4, .iload_n 1, 5, 0), (5, .iload_n 2, 6, 0), (6, .invokevirtual 305, 9, 38), (9, .ireturn, 10, 0)]
def cd106 : List Ins := [(0, .iload_n 1, 1, 0), (1, .tableswitch 78 0 5 #[39, 47, 55, 60, 65, 70], 40, 0), (40, .aload_n 0, 41, 0), (41, .getfield 21, 44, 641), (44, .getfield 284, 47, 579), (47, .ireturn, 48, 0), (48, .aload_n 0, 49, 0), (49, .getfield 21, 52, 641), (52, .invokevirtual 309, 55, 79), (55, .ireturn, 56, 0), (56, .aload_n 0, 57, 0), (57, .getfield 275, 60, 646), (60, .ireturn, 61, 0), (61, .aload_n 0, 62, 0), (62, .getfield 281, 65, 649), (65, .ireturn, 66, 0), (66, .aload_n 0, 67, 0), (67, .getfield 189, 70, 644), (70, .ireturn, 71, 0), (71, .aload_n 0, 72, 0), (72, .getfield 14, 75, 640), (75, .getfield 75, 78, 193), (78, .ireturn, 79, 0), (79, .aload_n 0, 80, 0), (80, .iload_n 1, 81, 0), (81, .invokevirtual 312, 84, 107), (84, .ireturn, 85, 0)]
def cd107 : List Ins := [(0, .iload_n 1, 1, 0), (1, .ifCond .ge 7, 4, 8), (4, .aconst_null, 5, 0), (5, .goto 14, 8, 19), (8, .aload_n 0, 9, 0), (9, .getfield 21, 12, 641), (12, .iload_n 1, 13, 0), (13, .bipush 10, 15, 0), (15, .irem, 16, 0), (16, .invokevirtual 82, 19, 73), (19, .astore_n 2, 20, 0), (20, .aload_n 2, 21, 0), (21, .ifnonnull 5, 24, 26), (24, .iconst (-1), 25, 0), (25, .ireturn, 26, 0), (26, .iload_n 1, 27, 0), (27, .bipush 10, 29, 0), (29, .idiv, 30, 0), (30, .tableswitch 53 1 4 #[30, 35, 40, 45], 60, 0), (60, .aload_n 2, 61, 0), (61, .getfield 99, 64, 129), (64, .ireturn, 65, 0), (65, .aload_n 2, 66, 0), (66, .getfield 102, 69, 130), (69, .ireturn, 70, 0), (70, .aload_n 2, 71, 0), (71, .getfield 105, 74, 131), (74, .ireturn, 75, 0), (75, .aload_n 2, 76, 0), (76, .getfield 90, 79, 128), (79, .getfield 75, 82, 193), (82, .ireturn, 83, 0), (83, .iconst (-1), 84, 0), (84, .ireturn, 85, 0)]
def cd108 : List Ins := [(0, .aload_n 0, 1, 0), (1, .ifnonnull 7, 4, 8), (4, .iconst (-1), 5, 0), (5, .goto 7, 8, 12), (8, .aload_n 0, 9, 0), (9, .getfield 142, 12, 512), (12, .ireturn, 13, 0)]
def cd109 : List Ins := [(0, .aload_n 0, 1, 0), (1, .getfield 189, 4, 644), (4, .sipush 200, 7, 0), (7, .if_icmp .lt 7, 10, 14), (10, .iconst 1, 11, 0), (11, .goto 4, 14, 15), (14, .iconst 0, 15, 0), (15, .ireturn, 16, 0)]
def cd110 : List Ins := [(0, .aload_n 0, 1, 0), (1, .getfield 189, 4, 644), (4, .aload_n 0, 5, 0), (5, .getfield 40, 8, 643), (8, .arraylength, 9, 0), (9, .if_icmp .ge 23, 12, 32), (12, .aload_n 0, 13, 0), (13, .getfield 40, 16, 643), (16, .aload_n 0, 17, 0), (17, .getfield 189, 20, 644), (20, .aload_n 1, 21, 0), (21, .aastore, 22, 0), (22, .aload_n 0, 23, 0), (23, .dup, 24, 0), (24, .getfield 189, 27, 644), (27, .iconst 1, 28, 0), (28, .iadd, 29, 0), (29, .putfield 189, 32, 644), (32, .aload_n 0, 33, 0), (33, .getfield 34, 36, 642), (36, .iconst 1, 37, 0), (37, .putfield 108, 40, 320), (40, .return_, 41, 0)]
def cd111 : List Ins := [(0, .iload_n 1, 1, 0), (1, .ifCond .lt 29, 4, 30), (4, .iload_n 1, 5, 0), (5, .aload_n 0, 6, 0), (6, .getfield 275, 9, 646), (9, .if_icmp .ge 21, 12, 30), (12, .iload_n 1, 13, 0), (13, .aload_n 0, 14, 0), (14, .getfield 46, 17, 645), (17, .arraylength, 18, 0), (18, .if_icmp .ge 12, 21, 30), (21, .aload_n 0, 22, 0), (22, .getfield 46, 25, 645), (25, .iload_n 1, 26, 0), (26, .aaload, 27, 0), (27, .goto 4, 30, 31), (30, .aconst_null, 31, 0), (31, .areturn, 32, 0)]
def cd112 : List Ins := [(0, .aload_n 0, 1, 0), (1, .getfield 275, 4, 646), (4, .bipush 100, 6, 0), (6, .if_icmp .lt 6, 9, 12), (9, .bipush (-3), 11, 0), (11, .ireturn, 12, 0), (12, .aload_n 0, 13, 0), (13, .getfield 46, 16, 645), (16, .aload_n 0, 17, 0), (17, .getfield 275, 20, 646), (20, .aload_n 1, 21, 0), (21, .aastore, 22, 0), (22, .aload_n 0, 23, 0), (23, .dup, 24, 0), (24, .getfield 275, 27, 646), (27, .iconst 1, 28, 0), (28, .iadd, 29, 0), (29, .putfield 275, 32, 646), (32, .aload_n 0, 33, 0), (33, .getfield 275, 36, 646), (36, .iconst 1, 37, 0), (37, .isub, 38, 0), (38, .ireturn, 39, 0)]
def cd113 : List Ins := [(0, .iload_n 1, 1, 0), (1, .ifCond .lt 29, 4, 30), (4, .iload_n 1, 5, 0), (5, .aload_n 0, 6, 0), (6, .getfield 281, 9, 649), (9, .if_icmp .ge 21, 12, 30), (12, .iload_n 1, 13, 0), (13, .aload_n 0, 14, 0), (14, .getfield 59, 17, 648), (17, .arraylength, 18, 0), (18, .if_icmp .ge 12, 21, 30), (21, .aload_n 0, 22, 0), (22, .getfield 59, 25, 648), (25, .iload_n 1, 26, 0), (26, .aaload, 27, 0), (27, .goto 4, 30, 31), (30, .aconst_null, 31, 0), (31, .areturn, 32, 0)]
def cd114 : List Ins := [(0, .iconst 0, 1, 0), (1, .istore_n 3, 2, 0), (2, .iload_n 3, 3, 0), (3, .aload_n 0, 4, 0), (4, .getfield 21, 7, 641), (7, .getfield 284, 10, 579), (10, .if_icmp .ge 59, 13, 69), (13, .aload_n 0, 14, 0), (14, .getfield 21, 17, 641), (17, .iload_n 3, 18, 0), (18, .invokevirtual 195, 21, 74), (21, .astore 4, 23, 0), (23, .aload_n 1, 24, 0), (24, .iload_n 3, 25, 0), (25, .invokevirtual 315, 28, 6), (28, .astore 5, 30, 0), (30, .aload 4, 32, 0), (32, .ifnull 31, 35, 63), (35, .aload 5, 37, 0), (37, .ifnull 26, 40, 63), (40, .aload 4, 42, 0), (42, .getfield 177, 45, 513), (45, .iload_n 2, 46, 0), (46, .if_icmp .ne 17, 49, 63), (49, .aload 5, 51, 0), (51, .aload_n 0, 52, 0), (52, .getfield 14, 55, 640), (55, .invokevirtual 227, 58, 15), (58, .ifCond .eq 5, 61, 63), (61, .iload_n 3, 62, 0), (62, .ireturn, 63, 0), (63, .iinc 3 1, 66, 0), (66, .goto (-64), 69, 2), (69, .iconst (-1), 70, 0), (70, .ireturn, 71, 0)]
def cd115 : List Ins := [(0, .aload_n 1, 1, 0), (1, .invokevirtual 278, 4, 70), (4, .astore_n 3, 5, 0), (5, .aload_n 3, 6, 0), (6, .ifnonnull 5, 9, 11), (9, .iconst 0, 10, 0), (10, .ireturn, 11, 0), (11, .aload_n 0, 12, 0), (12, .getfield 72, 15, 651), (15, .iconst 0, 16, 0), (16, .putfield 75, 19, 193), (19, .aload_n 3, 20, 0), (20, .aload_n 0, 21, 0), (21, .getfield 72, 24, 651), (24, .invokevirtual 214, 27, 71), (27, .aload_n 0, 28, 0), (28, .getfield 72, 31, 651), (31, .aload_n 2, 32, 0), (32, .invokevirtual 227, 35, 15), (35, .ireturn, 36, 0)]
def cd116 : List Ins := [(0, .iload_n 0, 1, 0), (1, .bipush 97, 3, 0), (3, .if_icmp .lt 9, 6, 12), (6, .iload_n 0, 7, 0), (7, .bipush 122, 9, 0), (9, .if_icmp .le 15, 12, 24), (12, .iload_n 0, 13, 0), (13, .bipush 65, 15, 0), (15, .if_icmp .lt 13, 18, 28), (18, .iload_n 0, 19, 0), (19, .bipush 90, 21, 0), (21, .if_icmp .gt 7, 24, 28), (24, .iconst 1, 25, 0), (25, .goto 4, 28, 29), (28, .iconst 0, 29, 0), (29, .ireturn, 30, 0)]
def cd117 : List Ins := [(0, .aload_n 0, 1, 0), (1, .invokespecial 1, 4, 900), (4, .aload_n 0, 5, 0), (5, .sipush 600, 8, 0), (8, .newarray .byte, 10, 20), (10, .putfield 7, 13, 704), (13, .aload_n 0, 14, 0), (14, .bipush 60, 16, 0), (16, .newarray .byte, 18, 20), (18, .putfield 13, 21, 706), (21, .aload_n 0, 22, 0), (22, .bipush 6, 24, 0), (24, .newarray .int, 26, 21), (26, .putfield 16, 29, 707), (29, .aload_n 0, 30, 0), (30, .bipush 6, 32, 0), (32, .newarray .int, 34, 21), (34, .putfield 20, 37, 708), (37, .aload_n 0, 38, 0), (38, .bipush 6, 40, 0), (40, .newarray .int, 42, 21), (42, .putfield 23, 45, 709), (45, .aload_n 0, 46, 0), (46, .bipush 6, 48, 0), (48, .newarray .int, 50, 21), (50, .putfield 26, 53, 710), (53, .aload_n 0, 54, 0), (54, .bipush 120, 56, 0), (56, .newarray .int, 58, 21), (58, .putfield 29, 61, 712), (61, .aload_n 0, 62, 0), (62, .bipush 120, 64, 0), (64, .newarray .int, 66, 21), (66, .putfield 32, 69, 713), (69, .aload_n 0, 70, 0), (70, .bipush 120, 72, 0), (72, .newarray .int, 74, 21), (74, .putfield 35, 77, 714), (77, .aload_n 0, 78, 0), (78, .bipush 120, 80, 0), (80, .newarray .int, 82, 21), (82, .putfield 38, 85, 715), (85, .aload_n 0, 86, 0), (86, .sipush 200, 89, 0), (89, .newarray .int, 91, 21), (91, .putfield 41, 94, 717), (94, .aload_n 0, 95, 0), (95, .sipush 200, 98, 0), (98, .newarray .int, 100, 21), (100, .putfield 44, 103, 718), (103, .aload_n 0, 104, 0), (104, .sipush 200, 107, 0), (107, .newarray .int, 109, 21), (109, .putfield 47, 112, 719), (112, .aload_n 0, 113, 0), (113, .sipush 200, 116, 0), (116, .newarray .int, 118, 21), (118, .putfield 50, 121, 720), (121, .aload_n 0, 122, 0), (122, .bipush 120, 124, 0), (124, .newarray .int, 126, 21), (126, .putfield 53, 129, 722), (129, .aload_n 0, 130, 0), (130, .bipush 120, 132, 0), (132, .newarray .int, 134, 21), (134, .putfield 56, 137, 723), (137, .aload_n 0, 138, 0), (138, .bipush 120, 140, 0), (140, .newarray .int, 142, 21), (142, .putfield 59, 145, 725), (145, .aload_n 0, 146, 0), (146, .bipush 120, 148, 0), (148, .newarray .int, 150, 21), (150, .putfield 62, 153, 726), (153, .aload_n 0, 154, 0), (154, .sipush 7200, 157, 0), (157, .newarray .byte, 159, 20), (159, .putfield 65, 162, 727), (162, .aload_n 0, 163, 0), (163, .bipush 120, 165, 0), (165, .newarray .int, 167, 21), (167, .putfield 68, 170, 728), (170, .aload_n 0, 171, 0), (171, .sipush 7200, 174, 0), (174, .newarray .byte, 176, 20), (176, .putfield 71, 179, 729), (179, .aload_n 0, 180, 0), (180, .bipush 120, 182, 0), (182, .newarray .int, 184, 21), (184, .putfield 74, 187, 730), (187, .aload_n 0, 188, 0), (188, .sipush 7200, 191, 0), (191, .newarray .byte, 193, 20), (193, .putfield 77, 196, 731), (196, .aload_n 0, 197, 0), (197, .bipush 120, 199, 0), (199, .newarray .int, 201, 21), (201, .putfield 80, 204, 732), (204, .aload_n 0, 205, 0), (205, .bipush 100, 207, 0), (207, .newarray .int, 209, 21), (209, .putfield 83, 212, 734), (212, .aload_n 0, 213, 0), (213, .bipush 100, 215, 0), (215, .newarray .int, 217, 21), (217, .putfield 86, 220, 735), (220, .aload_n 0, 221, 0), (221, .bipush 100, 223, 0), (223, .newarray .int, 225, 21), (225, .putfield 89, 228, 736), (228, .aload_n 0, 229, 0), (229, .bipush 100, 231, 0), (231, .newarray .int, 233, 21), (233, .putfield 92, 236, 737), (236, .aload_n 0, 237, 0), (237, .bipush 100, 239, 0), (239, .newarray .int, 241, 21), (241, .putfield 95, 244, 738), (244, .aload_n 0, 245, 0), (245, .sipush 1200, 248, 0), (248, .newarray .int, 250, 21), (250, .putfield 98, 253, 739), (253, .aload_n 0, 254, 0), (254, .sipush 2000, 257, 0), (257, .newarray .byte, 259, 20), (259, .putfield 101, 262, 740), (262, .aload_n 0, 263, 0), (263, .bipush 120, 265, 0), (265, .newarray .boolean, 267, 22), (267, .putfield 104, 270, 743), (270, .aload_n 0, 271, 0), (271, .ldc 108, 273, 57600), (273, .newarray .byte, 275, 20), (275, .putfield 109, 278, 745), (278, .aload_n 0, 279, 0), (279, .sipush 960, 282, 0), (282, .newarray .int, 284, 21), (284, .putfield 112, 287, 746), (287, .aload_n 0, 288, 0), (288, .sipush 960, 291, 0), (291, .newarray .int, 293, 21), (293, .putfield 115, 296, 747), (296, .aload_n 0, 297, 0), (297, .bipush 40, 299, 0), (299, .newarray .int, 301, 21), (301, .putfield 118, 304, 750), (304, .aload_n 0, 305, 0), (305, .bipush 40, 307, 0), (307, .newarray .int, 309, 21), (309, .putfield 121, 312, 751), (312, .aload_n 0, 313, 0), (313, .bipush 40, 315, 0), (315, .newarray .int, 317, 21), (317, .putfield 124, 320, 752), (320, .aload_n 0, 321, 0), (321, .bipush 40, 323, 0), (323, .newarray .int, 325, 21), (325, .putfield 127, 328, 753), (328, .aload_n 0, 329, 0), (329, .bipush 40, 331, 0), (331, .newarray .int, 333, 21), (333, .putfield 130, 336, 754), (336, .return_, 337, 0)]
def cd118 : List Ins := [(0, .iload_n 0, 1, 0), (1, .iload_n 1, 2, 0), (2, .if_icmp .lt 12, 5, 14), (5, .iload_n 0, 6, 0), (6, .iload_n 2, 7, 0), (7, .if_icmp .gt 7, 10, 14), (10, .iconst 1, 11, 0), (11, .goto 4, 14, 15), (14, .iconst 0, 15, 0), (15, .ireturn, 16, 0)]
def cd119 : List Ins := [(0, .aload_n 0, 1, 0), (1, .getfield 133, 4, 705), (4, .bipush 20, 6, 0), (6, .iadd, 7, 0), (7, .sipush 600, 10, 0), (10, .if_icmp .le 6, 13, 16), (13, .bipush (-3), 15, 0), (15, .ireturn, 16, 0), (16, .iconst 0, 17, 0), (17, .istore 6, 19, 0), (19, .iload 6, 21, 0), (21, .iconst 5, 22, 0), (22, .if_icmp .ge 93, 25, 115), (25, .iload 6, 27, 0), (27, .ifCond .ne 7, 30, 34), (30, .iload_n 1, 31, 0), (31, .goto 36, 34, 67), (34, .iload 6, 36, 0), (36, .iconst 1, 37, 0), (37, .if_icmp .ne 7, 40, 44), (40, .iload_n 2, 41, 0), (41, .goto 26, 44, 67), (44, .iload 6, 46, 0), (46, .iconst 2, 47, 0), (47, .if_icmp .ne 7, 50, 54), (50, .iload_n 3, 51, 0), (51, .goto 16, 54, 67), (54, .iload 6, 56, 0), (56, .iconst 3, 57, 0), (57, .if_icmp .ne 8, 60, 65), (60, .iload 4, 62, 0), (62, .goto 5, 65, 67), (65, .iload 5, 67, 0), (67, .istore 7, 69, 0), (69, .bipush 24, 71, 0), (71, .istore 8, 73, 0), (73, .iload 8, 75, 0), (75, .ifCond .lt 34, 78, 109), (78, .aload_n 0, 79, 0), (79, .getfield 7, 82, 704), (82, .aload_n 0, 83, 0), (83, .getfield 133, 86, 705), (86, .iload 7, 88, 0), (88, .iload 8, 90, 0), (90, .ishr, 91, 0), (91, .i2b, 92, 0), (92, .bastore, 93, 0), (93, .aload_n 0, 94, 0), (94, .dup, 95, 0), (95, .getfield 133, 98, 705), (98, .iconst 1, 99, 0), (99, .iadd, 100, 0), (100, .putfield 133, 103, 705), (103, .iinc 8 (-8), 106, 0), (106, .goto (-33), 109, 73), (109, .iinc 6 1, 112, 0), (112, .goto (-93), 115, 19), (115, .aload_n 0, 116, 0), (116, .getfield 133, 119, 705), (119, .ireturn, 120, 0)]
def cd120 : List Ins := [(0, .iload_n 1, 1, 0), (1, .ifCond .lt 11, 4, 12), (4, .iload_n 1, 5, 0), (5, .aload_n 0, 6, 0), (6, .getfield 133, 9, 705), (9, .if_icmp .le 5, 12, 14), (12, .iconst (-1), 13, 0), (13, .ireturn, 14, 0), (14, .aload_n 0, 15, 0), (15, .iload_n 1, 16, 0), (16, .putfield 133, 19, 705), (19, .iload_n 1, 20, 0), (20, .ireturn, 21, 0)]
def cd121 : List Ins := [(0, .iload_n 0, 1, 0), (1, .bipush 65, 3, 0), (3, .if_icmp .lt 9, 6, 12), (6, .iload_n 0, 7, 0), (7, .bipush 90, 9, 0), (9, .if_icmp .le 15, 12, 24), (12, .iload_n 0, 13, 0), (13, .bipush 97, 15, 0), (15, .if_icmp .lt 13, 18, 28), (18, .iload_n 0, 19, 0), (19, .bipush 122, 21, 0), (21, .if_icmp .gt 7, 24, 28), (24, .iconst 1, 25, 0), (25, .goto 4, 28, 29), (28, .iconst 0, 29, 0), (29, .ireturn, 30, 0)]
def cd122 : List Ins := [(0, .iload_n 0, 1, 0), (1, .iconst 0, 2, 0), (2, .iconst 5, 3, 0), (3, .invokestatic 137, 6, 118), (6, .ireturn, 7, 0)]
def cd123 : List Ins := [(0, .aload_n 0, 1, 0), (1, .getfield 133, 4, 705), (4, .istore_n 2, 5, 0), (5, .aload_n 0, 6, 0), (6, .iconst 0, 7, 0), (7, .putfield 133, 10, 705), (10, .iload_n 1, 11, 0), (11, .invokestatic 141, 14, 122), (14, .ifCond .eq 9, 17, 23), (17, .iload_n 2, 18, 0), (18, .bipush 10, 20, 0), (20, .if_icmp .le 6, 23, 26), (23, .bipush (-2), 25, 0), (25, .ireturn, 26, 0), (26, .iconst 0, 27, 0), (27, .istore_n 3, 28, 0), (28, .iload_n 3, 29, 0), (29, .iload_n 2, 30, 0), (30, .if_icmp .ge 24, 33, 54), (33, .aload_n 0, 34, 0), (34, .getfield 7, 37, 704), (37, .iload_n 3, 38, 0), (38, .baload, 39, 0), (39, .invokestatic 145, 42, 121), (42, .ifCond .ne 6, 45, 48), (45, .bipush (-2), 47, 0), (47, .ireturn, 48, 0), (48, .iinc 3 1, 51, 0), (51, .goto (-23), 54, 28), (54, .iconst 0, 55, 0), (55, .istore_n 3, 56, 0), (56, .iload_n 3, 57, 0), (57, .iload_n 2, 58, 0), (58, .if_icmp .ge 26, 61, 84), (61, .aload_n 0, 62, 0), (62, .getfield 13, 65, 706), (65, .bipush 10, 67, 0), (67, .iload_n 1, 68, 0), (68, .imul, 69, 0), (69, .iload_n 3, 70, 0), (70, .iadd, 71, 0), (71, .aload_n 0, 72, 0), (72, .getfield 7, 75, 704), (75, .iload_n 3, 76, 0), (76, .baload, 77, 0), (77, .bastore, 78, 0), (78, .iinc 3 1, 81, 0), (81, .goto (-25), 84, 56), (84, .aload_n 0, 85, 0), (85, .getfield 16, 88, 707), (88, .iload_n 1, 89, 0), (89, .iload_n 2, 90, 0), (90, .iastore, 91, 0), (91, .aload_n 0, 92, 0), (92, .iconst 0, 93, 0), (93, .putfield 148, 96, 721), (96, .iload_n 2, 97, 0), (97, .ireturn, 98, 0)]
def cd124 : List Ins := [(0, .iload_n 1, 1, 0), (1, .invokestatic 141, 4, 122), (4, .ifCond .eq 32, 7, 36), (7, .iload_n 2, 8, 0), (8, .iconst 0, 9, 0), (9, .bipush 7, 11, 0), (11, .invokestatic 137, 14, 118), (14, .ifCond .eq 22, 17, 36), (17, .iload_n 3, 18, 0), (18, .iconst 0, 19, 0), (19, .iconst 4, 20, 0), (20, .invokestatic 137, 23, 118), (23, .ifCond .eq 13, 26, 36), (26, .iload 4, 28, 0), (28, .iconst 0, 29, 0), (29, .iconst 2, 30, 0), (30, .invokestatic 137, 33, 118), (33, .ifCond .ne 6, 36, 39), (36, .bipush (-2), 38, 0), (38, .ireturn, 39, 0), (39, .aload_n 0, 40, 0), (40, .getfield 20, 43, 708), (43, .iload_n 1, 44, 0), (44, .iload_n 2, 45, 0), (45, .iastore, 46, 0), (46, .aload_n 0, 47, 0), (47, .getfield 23, 50, 709), (50, .iload_n 1, 51, 0), (51, .iload_n 3, 52, 0), (52, .iastore, 53, 0), (53, .aload_n 0, 54, 0), (54, .getfield 26, 57, 710), (57, .iload_n 1, 58, 0), (58, .iload 4, 60, 0), (60, .iastore, 61, 0), (61, .aload_n 0, 62, 0), (62, .iconst 0, 63, 0), (63, .putfield 148, 66, 721), (66, .iconst 1, 67, 0), (67, .ireturn, 68, 0)]
def cd125 : List Ins := [(0, .iload_n 1, 1, 0), (1, .iconst 0, 2, 0), (2, .aload_n 0, 3, 0), (3, .getfield 152, 6, 711), (6, .iconst 1, 7, 0), (7, .isub, 8, 0), (8, .invokestatic 137, 11, 118), (11, .ifCond .eq 18, 14, 29), (14, .aload_n 0, 15, 0), (15, .getfield 32, 18, 713), (18, .iload_n 1, 19, 0), (19, .iaload, 20, 0), (20, .bipush (-9), 22, 0), (22, .if_icmp .eq 7, 25, 29), (25, .iconst 1, 26, 0), (26, .goto 4, 29, 30), (29, .iconst 0, 30, 0), (30, .ireturn, 31, 0)]
def cd126 : List Ins := [(0, .iconst 0, 1, 0), (1, .istore_n 2, 2, 0), (2, .iconst 0, 3, 0), (3, .istore_n 3, 4, 0), (4, .iload_n 3, 5, 0), (5, .aload_n 0, 6, 0), (6, .getfield 152, 9, 711), (9, .if_icmp .ge 27, 12, 36), (12, .iload_n 2, 13, 0), (13, .aload_n 0, 14, 0), (14, .getfield 32, 17, 713), (17, .iload_n 3, 18, 0), (18, .iaload, 19, 0), (19, .iload_n 1, 20, 0), (20, .if_icmp .ne 7, 23, 27), (23, .iconst 1, 24, 0), (24, .goto 4, 27, 28), (27, .iconst 0, 28, 0), (28, .iadd, 29, 0), (29, .istore_n 2, 30, 0), (30, .iinc 3 1, 33, 0), (33, .goto (-29), 36, 4), (36, .iload_n 2, 37, 0), (37, .ireturn, 38, 0)]
def cd127 : List Ins := [(0, .iconst 0, 1, 0), (1, .istore 4, 3, 0), (3, .iload 4, 5, 0), (5, .aload_n 0, 6, 0), (6, .getfield 152, 9, 711), (9, .if_icmp .ge 42, 12, 51), (12, .aload_n 0, 13, 0), (13, .getfield 32, 16, 713), (16, .iload 4, 18, 0), (18, .iaload, 19, 0), (19, .iload_n 2, 20, 0), (20, .if_icmp .ne 25, 23, 45), (23, .aload_n 0, 24, 0), (24, .getfield 35, 27, 714), (27, .iload 4, 29, 0), (29, .iaload, 30, 0), (30, .iload_n 3, 31, 0), (31, .if_icmp .lt 14, 34, 45), (34, .aload_n 0, 35, 0), (35, .getfield 35, 38, 714), (38, .iload 4, 40, 0), (40, .dup2, 41, 0), (41, .iaload, 42, 0), (42, .iconst 1, 43, 0), (43, .iadd, 44, 0), (44, .iastore, 45, 0), (45, .iinc 4 1, 48, 0), (48, .goto (-45), 51, 3), (51, .aload_n 0, 52, 0), (52, .getfield 32, 55, 713), (55, .iload_n 1, 56, 0), (56, .iload_n 2, 57, 0), (57, .iastore, 58, 0), (58, .aload_n 0, 59, 0), (59, .getfield 35, 62, 714), (62, .iload_n 1, 63, 0), (63, .iload_n 3, 64, 0), (64, .iastore, 65, 0), (65, .return_, 66, 0)]
def cd128 : List Ins := [(0, .iconst 0, 1, 0), (1, .istore_n 2, 2, 0), (2, .iload_n 2, 3, 0), (3, .aload_n 0, 4, 0), (4, .getfield 152, 7, 711), (7, .if_icmp .ge 49, 10, 56), (10, .aload_n 0, 11, 0), (11, .getfield 32, 14, 713), (14, .iload_n 2, 15, 0), (15, .iaload, 16, 0), (16, .aload_n 0, 17, 0), (17, .getfield 32, 20, 713), (20, .iload_n 1, 21, 0), (21, .iaload, 22, 0), (22, .if_icmp .ne 28, 25, 50), (25, .aload_n 0, 26, 0), (26, .getfield 35, 29, 714), (29, .iload_n 2, 30, 0), (30, .iaload, 31, 0), (31, .aload_n 0, 32, 0), (32, .getfield 35, 35, 714), (35, .iload_n 1, 36, 0), (36, .iaload, 37, 0), (37, .if_icmp .le 13, 40, 50), (40, .aload_n 0, 41, 0), (41, .getfield 35, 44, 714), (44, .iload_n 2, 45, 0), (45, .dup2, 46, 0), (46, .iaload, 47, 0), (47, .iconst 1, 48, 0), (48, .isub, 49, 0), (49, .iastore, 50, 0), (50, .iinc 2 1, 53, 0), (53, .goto (-51), 56, 2), (56, .aload_n 0, 57, 0), (57, .getfield 32, 60, 713), (60, .iload_n 1, 61, 0), (61, .bipush (-9), 63, 0), (63, .iastore, 64, 0), (64, .return_, 65, 0)]
def cd129 : List Ins := [(0, .iload_n 1, 1, 0), (1, .istore_n 3, 2, 0), (2, .iload_n 3, 3, 0), (3, .ifCond .lt 18, 6, 21), (6, .iload_n 3, 7, 0), (7, .iload_n 2, 8, 0), (8, .if_icmp .eq 13, 11, 21), (11, .aload_n 0, 12, 0), (12, .getfield 32, 15, 713), (15, .iload_n 3, 16, 0), (16, .iaload, 17, 0), (17, .istore_n 3, 18, 0), (18, .goto (-16), 21, 2), (21, .iload_n 3, 22, 0), (22, .iload_n 2, 23, 0), (23, .if_icmp .ne 7, 26, 30), (26, .iconst 1, 27, 0), (27, .goto 4, 30, 31), (30, .iconst 0, 31, 0), (31, .ireturn, 32, 0)]
def cd130 : List Ins := [(0, .aload_n 0, 1, 0), (1, .iload_n 1, 2, 0), (2, .invokevirtual 155, 5, 128), (5, .iconst 1, 6, 0), (6, .istore_n 2, 7, 0), (7, .iconst 1, 8, 0), (8, .istore_n 3, 9, 0), (9, .iload_n 3, 10, 0), (10, .ifCond .eq 70, 13, 80), (13, .iconst 0, 14, 0), (14, .istore_n 3, 15, 0), (15, .iconst 0, 16, 0), (16, .istore 4, 18, 0), (18, .iload 4, 20, 0), (20, .aload_n 0, 21, 0), (21, .getfield 152, 24, 711), (24, .if_icmp .ge 53, 27, 77), (27, .aload_n 0, 28, 0), (28, .getfield 32, 31, 713), (31, .iload 4, 33, 0), (33, .iaload, 34, 0), (34, .ifCond .lt 37, 37, 71), (37, .aload_n 0, 38, 0), (38, .getfield 32, 41, 713), (41, .aload_n 0, 42, 0), (42, .getfield 32, 45, 713), (45, .iload 4, 47, 0), (47, .iaload, 48, 0), (48, .iaload, 49, 0), (49, .bipush (-9), 51, 0), (51, .if_icmp .eq 6, 54, 57), (54, .goto 17, 57, 71), (57, .aload_n 0, 58, 0), (58, .getfield 32, 61, 713), (61, .iload 4, 63, 0), (63, .bipush (-9), 65, 0), (65, .iastore, 66, 0), (66, .iinc 2 1, 69, 0), (69, .iconst 1, 70, 0), (70, .istore_n 3, 71, 0), (71, .iinc 4 1, 74, 0), (74, .goto (-56), 77, 18), (77, .goto (-68), 80, 9), (80, .iload_n 2, 81, 0), (81, .ireturn, 82, 0)]
def cd131 : List Ins := [(0, .aload_n 0, 1, 0), (1, .iconst 0, 2, 0), (2, .putfield 148, 5, 721), (5, .iload_n 1, 6, 0), (6, .iconst 1, 7, 0), (7, .if_icmp .ne 13, 10, 20), (10, .aload_n 0, 11, 0), (11, .iload_n 2, 12, 0), (12, .iload_n 3, 13, 0), (13, .iload 4, 15, 0), (15, .invokevirtual 159, 18, 127), (18, .iload_n 2, 19, 0), (19, .ireturn, 20, 0), (20, .iload_n 1, 21, 0), (21, .iconst 2, 22, 0), (22, .if_icmp .ne 18, 25, 40), (25, .aload_n 0, 26, 0), (26, .iload_n 2, 27, 0), (27, .invokevirtual 155, 30, 128), (30, .aload_n 0, 31, 0), (31, .iload_n 2, 32, 0), (32, .iload_n 3, 33, 0), (33, .iload 4, 35, 0), (35, .invokevirtual 159, 38, 127), (38, .iconst 0, 39, 0), (39, .ireturn, 40, 0), (40, .iload_n 1, 41, 0), (41, .iconst 3, 42, 0), (42, .if_icmp .ne 9, 45, 51), (45, .aload_n 0, 46, 0), (46, .iload_n 2, 47, 0), (47, .invokevirtual 163, 50, 130), (50, .ireturn, 51, 0), (51, .aload_n 0, 52, 0), (52, .iload_n 2, 53, 0), (53, .invokevirtual 167, 56, 126), (56, .istore 5, 58, 0), (58, .aload_n 0, 59, 0), (59, .iload_n 3, 60, 0), (60, .invokevirtual 167, 63, 126), (63, .istore 6, 65, 0), (65, .iconst 0, 66, 0), (66, .istore 7, 68, 0), (68, .iload 7, 70, 0), (70, .aload_n 0, 71, 0), (71, .getfield 152, 74, 711), (74, .if_icmp .ge 43, 77, 117), (77, .aload_n 0, 78, 0), (78, .getfield 32, 81, 713), (81, .iload 7, 83, 0), (83, .iaload, 84, 0), (84, .iload_n 3, 85, 0), (85, .if_icmp .eq 6, 88, 91), (88, .goto 23, 91, 111), (91, .aload_n 0, 92, 0), (92, .getfield 32, 95, 713), (95, .iload 7, 97, 0), (97, .iload_n 2, 98, 0), (98, .iastore, 99, 0), (99, .aload_n 0, 100, 0), (100, .getfield 35, 103, 714), (103, .iload 7, 105, 0), (105, .dup2, 106, 0), (106, .iaload, 107, 0), (107, .iload 5, 109, 0), (109, .iadd, 110, 0), (110, .iastore, 111, 0), (111, .iinc 7 1, 114, 0), (114, .goto (-46), 117, 68), (117, .aload_n 0, 118, 0), (118, .iload_n 3, 119, 0), (119, .invokevirtual 155, 122, 128), (122, .aload_n 0, 123, 0), (123, .getfield 38, 126, 715), (126, .iload_n 3, 127, 0), (127, .iload_n 2, 128, 0), (128, .iastore, 129, 0), (129, .iload 5, 131, 0), (131, .iload 6, 133, 0), (133, .iadd, 134, 0), (134, .ireturn, 135, 0)]
def cd132 : List Ins := [(0, .aload_n 0, 1, 0), (1, .getfield 41, 4, 717), (4, .aload_n 0, 5, 0), (5, .getfield 170, 8, 716), (8, .iload_n 1, 9, 0), (9, .iastore, 10, 0), (10, .aload_n 0, 11, 0), (11, .getfield 44, 14, 718), (14, .aload_n 0, 15, 0), (15, .getfield 170, 18, 716), (18, .iload_n 2, 19, 0), (19, .iastore, 20, 0), (20, .aload_n 0, 21, 0), (21, .getfield 47, 24, 719), (24, .aload_n 0, 25, 0), (25, .getfield 170, 28, 716), (28, .iload_n 3, 29, 0), (29, .iastore, 30, 0), (30, .aload_n 0, 31, 0), (31, .getfield 50, 34, 720), (34, .aload_n 0, 35, 0), (35, .getfield 170, 38, 716), (38, .iload 4, 40, 0), (40, .iastore, 41, 0), (41, .aload_n 0, 42, 0), (42, .dup, 43, 0), (43, .getfield 170, 46, 716), (46, .iconst 1, 47, 0), (47, .iadd, 48, 0), (48, .putfield 170, 51, 716), (51, .aload_n 0, 52, 0), (52, .iload_n 1, 53, 0), (53, .iload_n 2, 54, 0), (54, .iload_n 3, 55, 0), (55, .iload 4, 57, 0), (57, .invokevirtual 173, 60, 131), (60, .ireturn, 61, 0)]
def cd133 : List Ins := [(0, .iload_n 1, 1, 0), (1, .invokestatic 141, 4, 122), (4, .ifCond .eq 29, 7, 33), (7, .iload_n 2, 8, 0), (8, .iconst (-1), 9, 0), (9, .if_icmp .eq 11, 12, 20), (12, .aload_n 0, 13, 0), (13, .iload_n 2, 14, 0), (14, .invokevirtual 177, 17, 125), (17, .ifCond .eq 16, 20, 33), (20, .iload_n 3, 21, 0), (21, .iconst 0, 22, 0), (22, .aload_n 0, 23, 0), (23, .iload_n 2, 24, 0), (24, .invokevirtual 167, 27, 126), (27, .invokestatic 137, 30, 118), (30, .ifCond .ne 6, 33, 36), (33, .bipush (-2), 35, 0), (35, .ireturn, 36, 0), (36, .aload_n 0, 37, 0), (37, .getfield 152, 40, 711), (40, .bipush 120, 42, 0), (42, .if_icmp .eq 13, 45, 55), (45, .aload_n 0, 46, 0), (46, .getfield 170, 49, 716), (49, .sipush 200, 52, 0), (52, .if_icmp .ne 6, 55, 58), (55, .bipush (-3), 57, 0), (57, .ireturn, 58, 0), (58, .aload_n 0, 59, 0), (59, .getfield 29, 62, 712), (62, .aload_n 0, 63, 0), (63, .getfield 152, 66, 711), (66, .iload_n 1, 67, 0), (67, .iastore, 68, 0), (68, .aload_n 0, 69, 0), (69, .getfield 32, 72, 713), (72, .aload_n 0, 73, 0), (73, .getfield 152, 76, 711), (76, .bipush (-9), 78, 0), (78, .iastore, 79, 0), (79, .aload_n 0, 80, 0), (80, .getfield 38, 83, 715), (83, .aload_n 0, 84, 0), (84, .getfield 152, 87, 711), (87, .iconst (-1), 88, 0), (88, .iastore, 89, 0), (89, .aload_n 0, 90, 0), (90, .dup, 91, 0), (91, .getfield 152, 94, 711), (94, .iconst 1, 95, 0), (95, .iadd, 96, 0), (96, .putfield 152, 99, 711), (99, .aload_n 0, 100, 0), (100, .iconst 1, 101, 0), (101, .aload_n 0, 102, 0), (102, .getfield 152, 105, 711), (105, .iconst 1, 106, 0), (106, .isub, 107, 0), (107, .iload_n 2, 108, 0), (108, .iload_n 3, 109, 0), (109, .invokevirtual 180, 112, 132), (112, .ireturn, 113, 0)]
def cd134 : List Ins := [(0, .aload_n 0, 1, 0), (1, .iload_n 1, 2, 0), (2, .invokevirtual 177, 5, 125), (5, .ifCond .eq 54, 8, 59), (8, .iload_n 2, 9, 0), (9, .iconst (-1), 10, 0), (10, .if_icmp .eq 20, 13, 30), (13, .aload_n 0, 14, 0), (14, .iload_n 2, 15, 0), (15, .invokevirtual 177, 18, 125), (18, .ifCond .eq 41, 21, 59), (21, .aload_n 0, 22, 0), (22, .iload_n 2, 23, 0), (23, .iload_n 1, 24, 0), (24, .invokevirtual 183, 27, 129), (27, .ifCond .ne 32, 30, 59), (30, .iload_n 3, 31, 0), (31, .iconst 0, 32, 0), (32, .aload_n 0, 33, 0), (33, .iload_n 2, 34, 0), (34, .invokevirtual 167, 37, 126), (37, .aload_n 0, 38, 0), (38, .getfield 32, 41, 713), (41, .iload_n 1, 42, 0), (42, .iaload, 43, 0), (43, .iload_n 2, 44, 0), (44, .if_icmp .ne 7, 47, 51), (47, .iconst 1, 48, 0), (48, .goto 4, 51, 52), (51, .iconst 0, 52, 0), (52, .isub, 53, 0), (53, .invokestatic 137, 56, 118), (56, .ifCond .ne 6, 59, 62), (59, .bipush (-2), 61, 0), (61, .ireturn, 62, 0), (62, .aload_n 0, 63, 0), (63, .getfield 170, 66, 716), (66, .sipush 200, 69, 0), (69, .if_icmp .ne 6, 72, 75), (72, .bipush (-3), 74, 0), (74, .ireturn, 75, 0), (75, .aload_n 0, 76, 0), (76, .invokevirtual 187, 79, 147), (79, .iconst 0, 80, 0), (80, .istore 4, 82, 0), (82, .iload 4, 84, 0), (84, .aload_n 0, 85, 0), (85, .getfield 152, 88, 711), (88, .if_icmp .ge 70, 91, 158), (91, .aload_n 0, 92, 0), (92, .getfield 80, 95, 732), (95, .iload 4, 97, 0), (97, .aload_n 0, 98, 0), (98, .getfield 68, 101, 728), (101, .iload 4, 103, 0), (103, .iaload, 104, 0), (104, .iastore, 105, 0), (105, .iconst 0, 106, 0), (106, .istore 5, 108, 0), (108, .iload 5, 110, 0), (110, .aload_n 0, 111, 0), (111, .getfield 68, 114, 728), (114, .iload 4, 116, 0), (116, .iaload, 117, 0), (117, .if_icmp .ge 35, 120, 152), (120, .aload_n 0, 121, 0), (121, .getfield 77, 124, 731), (124, .bipush 60, 126, 0), (126, .iload 4, 128, 0), (128, .imul, 129, 0), (129, .iload 5, 131, 0), (131, .iadd, 132, 0), (132, .aload_n 0, 133, 0), (133, .getfield 65, 136, 727), (136, .bipush 60, 138, 0), (138, .iload 4, 140, 0), (140, .imul, 141, 0), (141, .iload 5, 143, 0), (143, .iadd, 144, 0), (144, .baload, 145, 0), (145, .bastore, 146, 0), (146, .iinc 5 1, 149, 0), (149, .goto (-41), 152, 108), (152, .iinc 4 1, 155, 0), (155, .goto (-73), 158, 82), (158, .aload_n 0, 159, 0), (159, .iconst 2, 160, 0), (160, .iload_n 1, 161, 0), (161, .iload_n 2, 162, 0), (162, .iload_n 3, 163, 0), (163, .invokevirtual 180, 166, 132), (166, .istore 4, 168, 0), (168, .aload_n 0, 169, 0), (169, .invokevirtual 187, 172, 147), (172, .iconst 0, 173, 0), (173, .istore 5, 175, 0), (175, .iload 5, 177, 0), (177, .aload_n 0, 178, 0), (178, .getfield 152, 181, 711), (181, .if_icmp .ge 122, 184, 303), (184, .aload_n 0, 185, 0), (185, .iload 5, 187, 0), (187, .invokevirtual 177, 190, 125), (190, .ifCond .ne 6, 193, 196), (193, .goto 104, 196, 297), (196, .aload_n 0, 197, 0), (197, .getfield 80, 200, 732), (200, .iload 5, 202, 0), (202, .iaload, 203, 0), (203, .aload_n 0, 204, 0), (204, .getfield 68, 207, 728), (207, .iload 5, 209, 0), (209, .iaload, 210, 0), (210, .if_icmp .ne 7, 213, 217), (213, .iconst 1, 214, 0), (214, .goto 4, 217, 218), (217, .iconst 0, 218, 0), (218, .istore 6, 220, 0), (220, .iconst 0, 221, 0), (221, .istore 7, 223, 0), (223, .iload 7, 225, 0), (225, .aload_n 0, 226, 0), (226, .getfield 68, 229, 728), (229, .iload 5, 231, 0), (231, .iaload, 232, 0), (232, .if_icmp .ge 50, 235, 282), (235, .iload 6, 237, 0), (237, .ifCond .eq 45, 240, 282), (240, .aload_n 0, 241, 0), (241, .getfield 77, 244, 731), (244, .bipush 60, 246, 0), (246, .iload 5, 248, 0), (248, .imul, 249, 0), (249, .iload 7, 251, 0), (251, .iadd, 252, 0), (252, .baload, 253, 0), (253, .aload_n 0, 254, 0), (254, .getfield 65, 257, 727), (257, .bipush 60, 259, 0), (259, .iload 5, 261, 0), (261, .imul, 262, 0), (262, .iload 7, 264, 0), (264, .iadd, 265, 0), (265, .baload, 266, 0), (266, .if_icmp .ne 7, 269, 273), (269, .iconst 1, 270, 0), (270, .goto 4, 273, 274), (273, .iconst 0, 274, 0), (274, .istore 6, 276, 0), (276, .iinc 7 1, 279, 0), (279, .goto (-56), 282, 223), (282, .iload 4, 284, 0), (284, .iload 6, 286, 0), (286, .ifCond .eq 7, 289, 293), (289, .iconst 0, 290, 0), (290, .goto 4, 293, 294), (293, .iconst 1, 294, 0), (294, .iadd, 295, 0), (295, .istore 4, 297, 0), (297, .iinc 5 1, 300, 0), (300, .goto (-125), 303, 175), (303, .iload 4, 305, 0), (305, .ireturn, 306, 0)]
def cd135 : List Ins := [(0, .aload_n 0, 1, 0), (1, .iload_n 1, 2, 0), (2, .invokevirtual 177, 5, 125), (5, .ifCond .ne 6, 8, 11), (8, .bipush (-2), 10, 0), (10, .ireturn, 11, 0), (11, .aload_n 0, 12, 0), (12, .getfield 170, 15, 716), (15, .sipush 200, 18, 0), (18, .if_icmp .ne 8, 21, 26), (21, .bipush (-3), 23, 0), (23, .goto 11, 26, 34), (26, .aload_n 0, 27, 0), (27, .iconst 3, 28, 0), (28, .iload_n 1, 29, 0), (29, .iconst 0, 30, 0), (30, .iconst 0, 31, 0), (31, .invokevirtual 180, 34, 132), (34, .ireturn, 35, 0)]
def cd136 : List Ins := [(0, .aload_n 0, 1, 0), (1, .iload_n 1, 2, 0), (2, .invokevirtual 177, 5, 125), (5, .ifCond .eq 63, 8, 68), (8, .aload_n 0, 9, 0), (9, .iload_n 2, 10, 0), (10, .invokevirtual 177, 13, 125), (13, .ifCond .eq 55, 16, 68), (16, .iload_n 1, 17, 0), (17, .iload_n 2, 18, 0), (18, .if_icmp .eq 50, 21, 68), (21, .aload_n 0, 22, 0), (22, .getfield 29, 25, 712), (25, .iload_n 1, 26, 0), (26, .iaload, 27, 0), (27, .aload_n 0, 28, 0), (28, .getfield 29, 31, 712), (31, .iload_n 2, 32, 0), (32, .iaload, 33, 0), (33, .if_icmp .ne 35, 36, 68), (36, .aload_n 0, 37, 0), (37, .getfield 32, 40, 713), (40, .iload_n 1, 41, 0), (41, .iaload, 42, 0), (42, .aload_n 0, 43, 0), (43, .getfield 32, 46, 713), (46, .iload_n 2, 47, 0), (47, .iaload, 48, 0), (48, .if_icmp .ne 20, 51, 68), (51, .aload_n 0, 52, 0), (52, .getfield 35, 55, 714), (55, .iload_n 2, 56, 0), (56, .iaload, 57, 0), (57, .aload_n 0, 58, 0), (58, .getfield 35, 61, 714), (61, .iload_n 1, 62, 0), (62, .iaload, 63, 0), (63, .iconst 1, 64, 0), (64, .iadd, 65, 0), (65, .if_icmp .eq 6, 68, 71), (68, .bipush (-2), 70, 0), (70, .ireturn, 71, 0), (71, .aload_n 0, 72, 0), (72, .getfield 170, 75, 716), (75, .sipush 200, 78, 0), (78, .if_icmp .ne 8, 81, 86), (81, .bipush (-3), 83, 0), (83, .goto 11, 86, 94), (86, .aload_n 0, 87, 0), (87, .iconst 4, 88, 0), (88, .iload_n 1, 89, 0), (89, .iload_n 2, 90, 0), (90, .iconst 0, 91, 0), (91, .invokevirtual 180, 94, 132), (94, .ireturn, 95, 0)]
def cd137 : List Ins := [(0, .aload_n 0, 1, 0), (1, .getfield 170, 4, 716), (4, .ifCond .ne 5, 7, 9), (7, .iconst (-1), 8, 0), (8, .ireturn, 9, 0), (9, .aload_n 0, 10, 0), (10, .dup, 11, 0), (11, .getfield 170, 14, 716), (14, .iconst 1, 15, 0), (15, .isub, 16, 0), (16, .putfield 170, 19, 716), (19, .iconst 0, 20, 0), (20, .istore_n 1, 21, 0), (21, .iload_n 1, 22, 0), (22, .aload_n 0, 23, 0), (23, .getfield 152, 26, 711), (26, .if_icmp .ge 24, 29, 50), (29, .aload_n 0, 30, 0), (30, .getfield 32, 33, 713), (33, .iload_n 1, 34, 0), (34, .bipush (-9), 36, 0), (36, .iastore, 37, 0), (37, .aload_n 0, 38, 0), (38, .getfield 38, 41, 715), (41, .iload_n 1, 42, 0), (42, .iconst (-1), 43, 0), (43, .iastore, 44, 0), (44, .iinc 1 1, 47, 0), (47, .goto (-26), 50, 21), (50, .iconst 0, 51, 0), (51, .istore_n 1, 52, 0), (52, .iload_n 1, 53, 0), (53, .aload_n 0, 54, 0), (54, .getfield 170, 57, 716), (57, .if_icmp .ge 38, 60, 95), (60, .aload_n 0, 61, 0), (61, .aload_n 0, 62, 0), (62, .getfield 41, 65, 717), (65, .iload_n 1, 66, 0), (66, .iaload, 67, 0), (67, .aload_n 0, 68, 0), (68, .getfield 44, 71, 718), (71, .iload_n 1, 72, 0), (72, .iaload, 73, 0), (73, .aload_n 0, 74, 0), (74, .getfield 47, 77, 719), (77, .iload_n 1, 78, 0), (78, .iaload, 79, 0), (79, .aload_n 0, 80, 0), (80, .getfield 50, 83, 720), (83, .iload_n 1, 84, 0), (84, .iaload, 85, 0), (85, .invokevirtual 173, 88, 131), (88, .istore_n 2, 89, 0), (89, .iinc 1 1, 92, 0), (92, .goto (-40), 95, 52), (95, .aload_n 0, 96, 0), (96, .iconst 0, 97, 0), (97, .putfield 148, 100, 721), (100, .aload_n 0, 101, 0), (101, .getfield 170, 104, 716), (104, .ireturn, 105, 0)]
def cd138 : List Ins := [(0, .iconst 0, 1, 0), (1, .istore_n 3, 2, 0), (2, .iload_n 3, 3, 0), (3, .aload_n 0, 4, 0), (4, .getfield 152, 7, 711), (7, .if_icmp .ge 31, 10, 38), (10, .aload_n 0, 11, 0), (11, .getfield 32, 14, 713), (14, .iload_n 3, 15, 0), (15, .iaload, 16, 0), (16, .iload_n 1, 17, 0), (17, .if_icmp .ne 15, 20, 32), (20, .aload_n 0, 21, 0), (21, .getfield 35, 24, 714), (24, .iload_n 3, 25, 0), (25, .iaload, 26, 0), (26, .iload_n 2, 27, 0), (27, .if_icmp .ne 5, 30, 32), (30, .iload_n 3, 31, 0), (31, .ireturn, 32, 0), (32, .iinc 3 1, 35, 0), (35, .goto (-33), 38, 2), (38, .iconst (-1), 39, 0), (39, .ireturn, 40, 0)]
def cd139 : List Ins := [(0, .aload_n 0, 1, 0), (1, .iconst 0, 2, 0), (2, .putfield 190, 5, 724), (5, .iconst 0, 6, 0), (6, .istore_n 1, 7, 0), (7, .iload_n 1, 8, 0), (8, .aload_n 0, 9, 0), (9, .getfield 152, 12, 711), (12, .if_icmp .ge 16, 15, 28), (15, .aload_n 0, 16, 0), (16, .getfield 56, 19, 723), (19, .iload_n 1, 20, 0), (20, .iconst (-1), 21, 0), (21, .iastore, 22, 0), (22, .iinc 1 1, 25, 0), (25, .goto (-18), 28, 7), (28, .aload_n 0, 29, 0), (29, .iconst (-1), 30, 0), (30, .iconst 0, 31, 0), (31, .invokevirtual 193, 34, 138), (34, .istore_n 1, 35, 0), (35, .iload_n 1, 36, 0), (36, .iconst (-1), 37, 0), (37, .if_icmp .eq 89, 40, 126), (40, .aload_n 0, 41, 0), (41, .getfield 53, 44, 722), (44, .aload_n 0, 45, 0), (45, .getfield 190, 48, 724), (48, .iload_n 1, 49, 0), (49, .iastore, 50, 0), (50, .aload_n 0, 51, 0), (51, .getfield 56, 54, 723), (54, .iload_n 1, 55, 0), (55, .aload_n 0, 56, 0), (56, .getfield 190, 59, 724), (59, .iastore, 60, 0), (60, .aload_n 0, 61, 0), (61, .dup, 62, 0), (62, .getfield 190, 65, 724), (65, .iconst 1, 66, 0), (66, .iadd, 67, 0), (67, .putfield 190, 70, 724), (70, .aload_n 0, 71, 0), (71, .iload_n 1, 72, 0), (72, .iconst 0, 73, 0), (73, .invokevirtual 193, 76, 138), (76, .istore_n 2, 77, 0), (77, .iload_n 2, 78, 0), (78, .iconst (-1), 79, 0), (79, .if_icmp .ne 42, 82, 121), (82, .iload_n 1, 83, 0), (83, .iconst (-1), 84, 0), (84, .if_icmp .eq 37, 87, 121), (87, .aload_n 0, 88, 0), (88, .aload_n 0, 89, 0), (89, .getfield 32, 92, 713), (92, .iload_n 1, 93, 0), (93, .iaload, 94, 0), (94, .aload_n 0, 95, 0), (95, .getfield 35, 98, 714), (98, .iload_n 1, 99, 0), (99, .iaload, 100, 0), (100, .iconst 1, 101, 0), (101, .iadd, 102, 0), (102, .invokevirtual 193, 105, 138), (105, .istore_n 2, 106, 0), (106, .iload_n 2, 107, 0), (107, .iconst (-1), 108, 0), (108, .if_icmp .ne (-31), 111, 77), (111, .aload_n 0, 112, 0), (112, .getfield 32, 115, 713), (115, .iload_n 1, 116, 0), (116, .iaload, 117, 0), (117, .istore_n 1, 118, 0), (118, .goto (-41), 121, 77), (121, .iload_n 2, 122, 0), (122, .istore_n 1, 123, 0), (123, .goto (-88), 126, 35), (126, .return_, 127, 0)]
def cd140 : List Ins := [(0, .aload_n 0, 1, 0), (1, .getfield 32, 4, 713), (4, .iload_n 1, 5, 0), (5, .iaload, 6, 0), (6, .istore_n 3, 7, 0), (7, .iload_n 3, 8, 0), (8, .ifCond .lt 23, 11, 31), (11, .aload_n 0, 12, 0), (12, .getfield 29, 15, 712), (15, .iload_n 3, 16, 0), (16, .iaload, 17, 0), (17, .iload_n 2, 18, 0), (18, .if_icmp .eq 13, 21, 31), (21, .aload_n 0, 22, 0), (22, .getfield 32, 25, 713), (25, .iload_n 3, 26, 0), (26, .iaload, 27, 0), (27, .istore_n 3, 28, 0), (28, .goto (-21), 31, 7), (31, .iload_n 3, 32, 0), (32, .ireturn, 33, 0)]
def cd141 : List Ins := [(0, .aload_n 0, 1, 0), (1, .getfield 20, 4, 708), (4, .aload_n 0, 5, 0), (5, .getfield 29, 8, 712), (8, .iload_n 1, 9, 0), (9, .iaload, 10, 0), (10, .iaload, 11, 0), (11, .istore_n 3, 12, 0), (12, .iload_n 3, 13, 0), (13, .ifCond .ne 24, 16, 37), (16, .aload_n 0, 17, 0), (17, .getfield 32, 20, 713), (20, .iload_n 1, 21, 0), (21, .iaload, 22, 0), (22, .aload_n 0, 23, 0), (23, .getfield 32, 26, 713), (26, .iload_n 2, 27, 0), (27, .iaload, 28, 0), (28, .if_icmp .ne 7, 31, 35), (31, .iconst 1, 32, 0), (32, .goto 4, 35, 36), (35, .iconst 0, 36, 0), (36, .ireturn, 37, 0), (37, .iload_n 3, 38, 0), (38, .iconst 1, 39, 0), (39, .if_icmp .ne 5, 42, 44), (42, .iconst 1, 43, 0), (43, .ireturn, 44, 0), (44, .aload_n 0, 45, 0), (45, .iload_n 1, 46, 0), (46, .iload_n 3, 47, 0), (47, .iconst 2, 48, 0), (48, .isub, 49, 0), (49, .invokevirtual 197, 52, 140), (52, .istore 4, 54, 0), (54, .iload 4, 56, 0), (56, .iconst (-1), 57, 0), (57, .if_icmp .eq 19, 60, 76), (60, .iload_n 2, 61, 0), (61, .iload 4, 63, 0), (63, .if_icmp .eq 17, 66, 80), (66, .aload_n 0, 67, 0), (67, .iload_n 2, 68, 0), (68, .iload 4, 70, 0), (70, .invokevirtual 183, 73, 129), (73, .ifCond .eq 7, 76, 80), (76, .iconst 1, 77, 0), (77, .goto 4, 80, 81), (80, .iconst 0, 81, 0), (81, .ireturn, 82, 0)]
def cd142 : List Ins := [(0, .aload_n 0, 1, 0), (1, .getfield 71, 4, 729), (4, .bipush 60, 6, 0), (6, .iload_n 1, 7, 0), (7, .imul, 8, 0), (8, .aload_n 0, 9, 0), (9, .getfield 74, 12, 730), (12, .iload_n 1, 13, 0), (13, .iaload, 14, 0), (14, .iadd, 15, 0), (15, .iload_n 2, 16, 0), (16, .i2b, 17, 0), (17, .bastore, 18, 0), (18, .aload_n 0, 19, 0), (19, .getfield 74, 22, 730), (22, .iload_n 1, 23, 0), (23, .dup2, 24, 0), (24, .iaload, 25, 0), (25, .iconst 1, 26, 0), (26, .iadd, 27, 0), (27, .iastore, 28, 0), (28, .return_, 29, 0)]
def cd143 : List Ins := [(0, .aload_n 0, 1, 0), (1, .getfield 74, 4, 730), (4, .iload_n 1, 5, 0), (5, .iconst 0, 6, 0), (6, .iastore, 7, 0), (7, .aload_n 0, 8, 0), (8, .getfield 59, 11, 725), (11, .iload_n 1, 12, 0), (12, .iaload, 13, 0), (13, .istore_n 2, 14, 0), (14, .aload_n 0, 15, 0), (15, .getfield 23, 18, 709), (18, .aload_n 0, 19, 0), (19, .getfield 29, 22, 712), (22, .iload_n 1, 23, 0), (23, .iaload, 24, 0), (24, .iaload, 25, 0), (25, .istore_n 3, 26, 0), (26, .iload_n 3, 27, 0), (27, .ifCond .ne 59, 30, 86), (30, .iload_n 2, 31, 0), (31, .bipush 99, 33, 0), (33, .if_icmp .le 8, 36, 41), (36, .bipush 100, 38, 0), (38, .goto 15, 41, 53), (41, .iload_n 2, 42, 0), (42, .bipush 9, 44, 0), (44, .if_icmp .le 8, 47, 52), (47, .bipush 10, 49, 0), (49, .goto 4, 52, 53), (52, .iconst 1, 53, 0), (53, .istore 4, 55, 0), (55, .iload 4, 57, 0), (57, .ifCond .le 28, 60, 85), (60, .aload_n 0, 61, 0), (61, .iload_n 1, 62, 0), (62, .bipush 48, 64, 0), (64, .iload_n 2, 65, 0), (65, .iload 4, 67, 0), (67, .idiv, 68, 0), (68, .bipush 10, 70, 0), (70, .irem, 71, 0), (71, .iadd, 72, 0), (72, .invokevirtual 200, 75, 142), (75, .iload 4, 77, 0), (77, .bipush 10, 79, 0), (79, .idiv, 80, 0), (80, .istore 4, 82, 0), (82, .goto (-27), 85, 55), (85, .return_, 86, 0), (86, .iload_n 3, 87, 0), (87, .iconst 3, 88, 0), (88, .if_icmp .ge 54, 91, 142), (91, .iload_n 3, 92, 0), (92, .iconst 1, 93, 0), (93, .if_icmp .ne 8, 96, 101), (96, .bipush 97, 98, 0), (98, .goto 5, 101, 103), (101, .bipush 65, 103, 0), (103, .istore 4, 105, 0), (105, .iload_n 2, 106, 0), (106, .bipush 26, 108, 0), (108, .if_icmp .le 19, 111, 127), (111, .aload_n 0, 112, 0), (112, .iload_n 1, 113, 0), (113, .iload 4, 115, 0), (115, .iload_n 2, 116, 0), (116, .iconst 1, 117, 0), (117, .isub, 118, 0), (118, .bipush 26, 120, 0), (120, .idiv, 121, 0), (121, .iadd, 122, 0), (122, .iconst 1, 123, 0), (123, .isub, 124, 0), (124, .invokevirtual 200, 127, 142), (127, .aload_n 0, 128, 0), (128, .iload_n 1, 129, 0), (129, .iload 4, 131, 0), (131, .iload_n 2, 132, 0), (132, .iconst 1, 133, 0), (133, .isub, 134, 0), (134, .bipush 26, 136, 0), (136, .irem, 137, 0), (137, .iadd, 138, 0), (138, .invokevirtual 200, 141, 142), (141, .return_, 142, 0), (142, .iload_n 3, 143, 0), (143, .iconst 3, 144, 0), (144, .if_icmp .ne 8, 147, 152), (147, .bipush 32, 149, 0), (149, .goto 4, 152, 153), (152, .iconst 0, 153, 0), (153, .istore 4, 155, 0), (155, .aload_n 0, 156, 0), (156, .iload_n 1, 157, 0), (157, .iload_n 2, 158, 0), (158, .bipush 100, 160, 0), (160, .idiv, 161, 0), (161, .bipush 10, 163, 0), (163, .irem, 164, 0), (164, .bipush 67, 166, 0), (166, .iload 4, 168, 0), (168, .iadd, 169, 0), (169, .bipush 68, 171, 0), (171, .iload 4, 173, 0), (173, .iadd, 174, 0), (174, .bipush 77, 176, 0), (176, .iload 4, 178, 0), (178, .iadd, 179, 0), (179, .invokevirtual 204, 182, 144), (182, .aload_n 0, 183, 0), (183, .iload_n 1, 184, 0), (184, .iload_n 2, 185, 0), (185, .bipush 10, 187, 0), (187, .idiv, 188, 0), (188, .bipush 10, 190, 0), (190, .irem, 191, 0), (191, .bipush 88, 193, 0), (193, .iload 4, 195, 0), (195, .iadd, 196, 0), (196, .bipush 76, 198, 0), (198, .iload 4, 200, 0), (200, .iadd, 201, 0), (201, .bipush 67, 203, 0), (203, .iload 4, 205, 0), (205, .iadd, 206, 0), (206, .invokevirtual 204, 209, 144), (209, .aload_n 0, 210, 0), (210, .iload_n 1, 211, 0), (211, .iload_n 2, 212, 0), (212, .bipush 10, 214, 0), (214, .irem, 215, 0), (215, .bipush 73, 217, 0), (217, .iload 4, 219, 0), (219, .iadd, 220, 0), (220, .bipush 86, 222, 0), (222, .iload 4, 224, 0), (224, .iadd, 225, 0), (225, .bipush 88, 227, 0), (227, .iload 4, 229, 0), (229, .iadd, 230, 0), (230, .invokevirtual 204, 233, 144), (233, .return_, 234, 0)]
def cd144 : List Ins := [(0, .iload_n 2, 1, 0), (1, .bipush 9, 3, 0), (3, .if_icmp .ne 19, 6, 22), (6, .aload_n 0, 7, 0), (7, .iload_n 1, 8, 0), (8, .iload_n 3, 9, 0), (9, .invokevirtual 200, 12, 142), (12, .aload_n 0, 13, 0), (13, .iload_n 1, 14, 0), (14, .iload 5, 16, 0), (16, .invokevirtual 200, 19, 142), (19, .goto 59, 22, 78), (22, .iload_n 2, 23, 0), (23, .iconst 4, 24, 0), (24, .if_icmp .ne 19, 27, 43), (27, .aload_n 0, 28, 0), (28, .iload_n 1, 29, 0), (29, .iload_n 3, 30, 0), (30, .invokevirtual 200, 33, 142), (33, .aload_n 0, 34, 0), (34, .iload_n 1, 35, 0), (35, .iload 4, 37, 0), (37, .invokevirtual 200, 40, 142), (40, .goto 38, 43, 78), (43, .iload_n 2, 44, 0), (44, .iconst 5, 45, 0), (45, .if_icmp .lt 10, 48, 55), (48, .aload_n 0, 49, 0), (49, .iload_n 1, 50, 0), (50, .iload 4, 52, 0), (52, .invokevirtual 200, 55, 142), (55, .iconst 0, 56, 0), (56, .istore 6, 58, 0), (58, .iload 6, 60, 0), (60, .iload_n 2, 61, 0), (61, .iconst 5, 62, 0), (62, .irem, 63, 0), (63, .if_icmp .ge 15, 66, 78), (66, .aload_n 0, 67, 0), (67, .iload_n 1, 68, 0), (68, .iload_n 3, 69, 0), (69, .invokevirtual 200, 72, 142), (72, .iinc 6 1, 75, 0), (75, .goto (-17), 78, 58), (78, .return_, 79, 0)]
def cd145 : List Ins := [(0, .aload_n 0, 1, 0), (1, .getfield 65, 4, 727), (4, .bipush 60, 6, 0), (6, .iload_n 1, 7, 0), (7, .imul, 8, 0), (8, .aload_n 0, 9, 0), (9, .getfield 68, 12, 728), (12, .iload_n 1, 13, 0), (13, .iaload, 14, 0), (14, .iadd, 15, 0), (15, .iload_n 2, 16, 0), (16, .i2b, 17, 0), (17, .bastore, 18, 0), (18, .aload_n 0, 19, 0), (19, .getfield 68, 22, 728), (22, .iload_n 1, 23, 0), (23, .dup2, 24, 0), (24, .iaload, 25, 0), (25, .iconst 1, 26, 0), (26, .iadd, 27, 0), (27, .iastore, 28, 0), (28, .return_, 29, 0)]
def cd146 : List Ins := [(0, .aload_n 0, 1, 0), (1, .getfield 20, 4, 708), (4, .aload_n 0, 5, 0), (5, .getfield 29, 8, 712), (8, .iload_n 1, 9, 0), (9, .iaload, 10, 0), (10, .iaload, 11, 0), (11, .istore_n 2, 12, 0), (12, .iload_n 2, 13, 0), (13, .iconst 1, 14, 0), (14, .if_icmp .le 14, 17, 28), (17, .aload_n 0, 18, 0), (18, .iload_n 1, 19, 0), (19, .iload_n 2, 20, 0), (20, .iconst 2, 21, 0), (21, .isub, 22, 0), (22, .invokevirtual 197, 25, 140), (25, .goto 9, 28, 34), (28, .aload_n 0, 29, 0), (29, .getfield 32, 32, 713), (32, .iload_n 1, 33, 0), (33, .iaload, 34, 0), (34, .istore_n 3, 35, 0), (35, .iload_n 3, 36, 0), (36, .ifCond .lt 16, 39, 52), (39, .aload_n 0, 40, 0), (40, .getfield 68, 43, 728), (43, .iload_n 3, 44, 0), (44, .iaload, 45, 0), (45, .bipush 30, 47, 0), (47, .if_icmp .le 5, 50, 52), (50, .iconst (-1), 51, 0), (51, .istore_n 3, 52, 0), (52, .aload_n 0, 53, 0), (53, .getfield 62, 56, 726), (56, .iload_n 1, 57, 0), (57, .iload_n 3, 58, 0), (58, .iastore, 59, 0), (59, .aload_n 0, 60, 0), (60, .getfield 68, 63, 728), (63, .iload_n 1, 64, 0), (64, .iconst 0, 65, 0), (65, .iastore, 66, 0), (66, .aload_n 0, 67, 0), (67, .getfield 26, 70, 710), (70, .aload_n 0, 71, 0), (71, .getfield 29, 74, 712), (74, .iload_n 1, 75, 0), (75, .iaload, 76, 0), (76, .iaload, 77, 0), (77, .istore 4, 79, 0), (79, .iload 4, 81, 0), (81, .ifCond .le 57, 84, 138), (84, .iload_n 3, 85, 0), (85, .ifCond .lt 53, 88, 138), (88, .iconst 0, 89, 0), (89, .istore 5, 91, 0), (91, .iload 5, 93, 0), (93, .aload_n 0, 94, 0), (94, .getfield 68, 97, 728), (97, .iload_n 3, 98, 0), (98, .iaload, 99, 0), (99, .if_icmp .ge 26, 102, 125), (102, .aload_n 0, 103, 0), (103, .iload_n 1, 104, 0), (104, .aload_n 0, 105, 0), (105, .getfield 65, 108, 727), (108, .bipush 60, 110, 0), (110, .iload_n 3, 111, 0), (111, .imul, 112, 0), (112, .iload 5, 114, 0), (114, .iadd, 115, 0), (115, .baload, 116, 0), (116, .invokevirtual 208, 119, 145), (119, .iinc 5 1, 122, 0), (122, .goto (-31), 125, 91), (125, .iload 4, 127, 0), (127, .iconst 1, 128, 0), (128, .if_icmp .ne 10, 131, 138), (131, .aload_n 0, 132, 0), (132, .iload_n 1, 133, 0), (133, .bipush 46, 135, 0), (135, .invokevirtual 208, 138, 145), (138, .iload 4, 140, 0), (140, .iconst 2, 141, 0), (141, .if_icmp .ne 10, 144, 151), (144, .aload_n 0, 145, 0), (145, .iload_n 1, 146, 0), (146, .bipush 40, 148, 0), (148, .invokevirtual 208, 151, 145), (151, .iconst 0, 152, 0), (152, .istore 5, 154, 0), (154, .iload 5, 156, 0), (156, .aload_n 0, 157, 0), (157, .getfield 74, 160, 730), (160, .iload_n 1, 161, 0), (161, .iaload, 162, 0), (162, .if_icmp .ge 26, 165, 188), (165, .aload_n 0, 166, 0), (166, .iload_n 1, 167, 0), (167, .aload_n 0, 168, 0), (168, .getfield 71, 171, 729), (171, .bipush 60, 173, 0), (173, .iload_n 1, 174, 0), (174, .imul, 175, 0), (175, .iload 5, 177, 0), (177, .iadd, 178, 0), (178, .baload, 179, 0), (179, .invokevirtual 208, 182, 145), (182, .iinc 5 1, 185, 0), (185, .goto (-31), 188, 154), (188, .iload 4, 190, 0), (190, .iconst 2, 191, 0), (191, .if_icmp .ne 10, 194, 201), (194, .aload_n 0, 195, 0), (195, .iload_n 1, 196, 0), (196, .bipush 41, 198, 0), (198, .invokevirtual 208, 201, 145), (201, .return_, 202, 0)]
def cd147 : List Ins := [(0, .aload_n 0, 1, 0), (1, .getfield 148, 4, 721), (4, .ifCond .eq 4, 7, 8), (7, .return_, 8, 0), (8, .aload_n 0, 9, 0), (9, .iconst 1, 10, 0), (10, .putfield 148, 13, 721), (13, .aload_n 0, 14, 0), (14, .invokevirtual 211, 17, 139), (17, .iconst 0, 18, 0), (18, .istore_n 1, 19, 0), (19, .iload_n 1, 20, 0), (20, .aload_n 0, 21, 0), (21, .getfield 152, 24, 711), (24, .if_icmp .ge 30, 27, 54), (27, .aload_n 0, 28, 0), (28, .getfield 68, 31, 728), (31, .iload_n 1, 32, 0), (32, .iconst 0, 33, 0), (33, .iastore, 34, 0), (34, .aload_n 0, 35, 0), (35, .getfield 59, 38, 725), (38, .iload_n 1, 39, 0), (39, .iconst 0, 40, 0), (40, .iastore, 41, 0), (41, .aload_n 0, 42, 0), (42, .getfield 62, 45, 726), (45, .iload_n 1, 46, 0), (46, .iconst (-1), 47, 0), (47, .iastore, 48, 0), (48, .iinc 1 1, 51, 0), (51, .goto (-32), 54, 19), (54, .iconst 0, 55, 0), (55, .istore_n 1, 56, 0), (56, .iload_n 1, 57, 0), (57, .aload_n 0, 58, 0), (58, .getfield 190, 61, 724), (61, .if_icmp .ge 94, 64, 155), (64, .aload_n 0, 65, 0), (65, .getfield 53, 68, 722), (68, .iload_n 1, 69, 0), (69, .iaload, 70, 0), (70, .istore_n 2, 71, 0), (71, .aload_n 0, 72, 0), (72, .getfield 59, 75, 725), (75, .iload_n 2, 76, 0), (76, .iconst 1, 77, 0), (77, .iastore, 78, 0), (78, .iconst 0, 79, 0), (79, .istore_n 3, 80, 0), (80, .iload_n 3, 81, 0), (81, .iload_n 1, 82, 0), (82, .if_icmp .ge 57, 85, 139), (85, .aload_n 0, 86, 0), (86, .getfield 59, 89, 725), (89, .iload_n 2, 90, 0), (90, .dup2, 91, 0), (91, .iaload, 92, 0), (92, .aload_n 0, 93, 0), (93, .getfield 29, 96, 712), (96, .aload_n 0, 97, 0), (97, .getfield 53, 100, 722), (100, .iload_n 3, 101, 0), (101, .iaload, 102, 0), (102, .iaload, 103, 0), (103, .aload_n 0, 104, 0), (104, .getfield 29, 107, 712), (107, .iload_n 2, 108, 0), (108, .iaload, 109, 0), (109, .if_icmp .ne 21, 112, 130), (112, .aload_n 0, 113, 0), (113, .iload_n 2, 114, 0), (114, .aload_n 0, 115, 0), (115, .getfield 53, 118, 722), (118, .iload_n 3, 119, 0), (119, .iaload, 120, 0), (120, .invokevirtual 214, 123, 141), (123, .ifCond .eq 7, 126, 130), (126, .iconst 1, 127, 0), (127, .goto 4, 130, 131), (130, .iconst 0, 131, 0), (131, .iadd, 132, 0), (132, .iastore, 133, 0), (133, .iinc 3 1, 136, 0), (136, .goto (-56), 139, 80), (139, .aload_n 0, 140, 0), (140, .iload_n 2, 141, 0), (141, .invokevirtual 217, 144, 143), (144, .aload_n 0, 145, 0), (145, .iload_n 2, 146, 0), (146, .invokevirtual 220, 149, 146), (149, .iinc 1 1, 152, 0), (152, .goto (-96), 155, 56), (155, .return_, 156, 0)]
def cd148 : List Ins := [(0, .iload_n 1, 1, 0), (1, .iconst 0, 2, 0), (2, .aload_n 0, 3, 0), (3, .getfield 152, 6, 711), (6, .iconst 1, 7, 0), (7, .isub, 8, 0), (8, .invokestatic 137, 11, 118), (11, .ifCond .ne 6, 14, 17), (14, .bipush (-10), 16, 0), (16, .ireturn, 17, 0), (17, .aload_n 0, 18, 0), (18, .invokevirtual 187, 21, 147), (21, .iload_n 2, 22, 0), (22, .tableswitch 153 0 8 #[50, 57, 64, 87, 108, 115, 122, 139, 146], 72, 0), (72, .aload_n 0, 73, 0), (73, .getfield 29, 76, 712), (76, .iload_n 1, 77, 0), (77, .iaload, 78, 0), (78, .ireturn, 79, 0), (79, .aload_n 0, 80, 0), (80, .getfield 32, 83, 713), (83, .iload_n 1, 84, 0), (84, .iaload, 85, 0), (85, .ireturn, 86, 0), (86, .aload_n 0, 87, 0), (87, .getfield 32, 90, 713), (90, .iload_n 1, 91, 0), (91, .iaload, 92, 0), (92, .bipush (-9), 94, 0), (94, .if_icmp .ne 8, 97, 102), (97, .bipush (-9), 99, 0), (99, .goto 9, 102, 108), (102, .aload_n 0, 103, 0), (103, .getfield 35, 106, 714), (106, .iload_n 1, 107, 0), (107, .iaload, 108, 0), (108, .ireturn, 109, 0), (109, .aload_n 0, 110, 0), (110, .getfield 32, 113, 713), (113, .iload_n 1, 114, 0), (114, .iaload, 115, 0), (115, .bipush (-9), 117, 0), (117, .if_icmp .ne 7, 120, 124), (120, .iconst 0, 121, 0), (121, .goto 8, 124, 129), (124, .aload_n 0, 125, 0), (125, .iload_n 1, 126, 0), (126, .invokevirtual 167, 129, 126), (129, .ireturn, 130, 0), (130, .aload_n 0, 131, 0), (131, .getfield 59, 134, 725), (134, .iload_n 1, 135, 0), (135, .iaload, 136, 0), (136, .ireturn, 137, 0), (137, .aload_n 0, 138, 0), (138, .getfield 56, 141, 723), (141, .iload_n 1, 142, 0), (142, .iaload, 143, 0), (143, .ireturn, 144, 0), (144, .aload_n 0, 145, 0), (145, .getfield 32, 148, 713), (148, .iload_n 1, 149, 0), (149, .iaload, 150, 0), (150, .bipush (-9), 152, 0), (152, .if_icmp .ne 7, 155, 159), (155, .iconst 0, 156, 0), (156, .goto 4, 159, 160), (159, .iconst 1, 160, 0), (160, .ireturn, 161, 0), (161, .aload_n 0, 162, 0), (162, .getfield 38, 165, 715), (165, .iload_n 1, 166, 0), (166, .iaload, 167, 0), (167, .ireturn, 168, 0), (168, .aload_n 0, 169, 0), (169, .getfield 62, 172, 726), (172, .iload_n 1, 173, 0), (173, .iaload, 174, 0), (174, .ireturn, 175, 0), (175, .bipush (-10), 177, 0), (177, .ireturn, 178, 0)]
def cd149 : List Ins := [(0, .aload_n 0, 1, 0), (1, .invokevirtual 187, 4, 147), (4, .iload_n 1, 5, 0), (5, .iconst 0, 6, 0), (6, .aload_n 0, 7, 0), (7, .getfield 190, 10, 724), (10, .iconst 1, 11, 0), (11, .isub, 12, 0), (12, .invokestatic 137, 15, 118), (15, .ifCond .eq 12, 18, 27), (18, .aload_n 0, 19, 0), (19, .getfield 53, 22, 722), (22, .iload_n 1, 23, 0), (23, .iaload, 24, 0), (24, .goto 4, 27, 28), (27, .iconst (-1), 28, 0), (28, .ireturn, 29, 0)]
def cd150 : List Ins := [(0, .aload_n 0, 1, 0), (1, .getfield 16, 4, 707), (4, .aload_n 0, 5, 0), (5, .getfield 29, 8, 712), (8, .iload_n 1, 9, 0), (9, .iaload, 10, 0), (10, .iaload, 11, 0), (11, .ifCond .le 19, 14, 30), (14, .aload_n 0, 15, 0), (15, .getfield 16, 18, 707), (18, .aload_n 0, 19, 0), (19, .getfield 29, 22, 712), (22, .iload_n 1, 23, 0), (23, .iaload, 24, 0), (24, .iaload, 25, 0), (25, .iconst 1, 26, 0), (26, .iadd, 27, 0), (27, .goto 4, 30, 31), (30, .iconst 0, 31, 0), (31, .aload_n 0, 32, 0), (32, .getfield 68, 35, 728), (35, .iload_n 1, 36, 0), (36, .iaload, 37, 0), (37, .iadd, 38, 0), (38, .ireturn, 39, 0)]
def cd151 : List Ins := [(0, .aload_n 0, 1, 0), (1, .getfield 16, 4, 707), (4, .aload_n 0, 5, 0), (5, .getfield 29, 8, 712), (8, .iload_n 1, 9, 0), (9, .iaload, 10, 0), (10, .iaload, 11, 0), (11, .istore_n 3, 12, 0), (12, .iload_n 2, 13, 0), (13, .iload_n 3, 14, 0), (14, .if_icmp .ge 20, 17, 34), (17, .aload_n 0, 18, 0), (18, .getfield 13, 21, 706), (21, .bipush 10, 23, 0), (23, .aload_n 0, 24, 0), (24, .getfield 29, 27, 712), (27, .iload_n 1, 28, 0), (28, .iaload, 29, 0), (29, .imul, 30, 0), (30, .iload_n 2, 31, 0), (31, .iadd, 32, 0), (32, .baload, 33, 0), (33, .ireturn, 34, 0), (34, .iload_n 3, 35, 0), (35, .ifCond .le 11, 38, 46), (38, .iload_n 2, 39, 0), (39, .iload_n 3, 40, 0), (40, .if_icmp .ne 6, 43, 46), (43, .bipush 32, 45, 0), (45, .ireturn, 46, 0), (46, .aload_n 0, 47, 0), (47, .getfield 65, 50, 727), (50, .bipush 60, 52, 0), (52, .iload_n 1, 53, 0), (53, .imul, 54, 0), (54, .iload_n 2, 55, 0), (55, .iadd, 56, 0), (56, .iload_n 3, 57, 0), (57, .ifCond .le 9, 60, 66), (60, .iload_n 3, 61, 0), (61, .iconst 1, 62, 0), (62, .iadd, 63, 0), (63, .goto 4, 66, 67), (66, .iconst 0, 67, 0), (67, .isub, 68, 0), (68, .baload, 69, 0), (69, .ireturn, 70, 0)]
def cd152 : List Ins := [(0, .aload_n 0, 1, 0), (1, .iload_n 1, 2, 0), (2, .invokevirtual 177, 5, 125), (5, .ifCond .ne 5, 8, 10), (8, .iconst (-1), 9, 0), (9, .ireturn, 10, 0), (10, .aload_n 0, 11, 0), (11, .invokevirtual 187, 14, 147), (14, .iload_n 2, 15, 0), (15, .iconst 0, 16, 0), (16, .aload_n 0, 17, 0), (17, .iload_n 1, 18, 0), (18, .invokevirtual 223, 21, 150), (21, .iconst 1, 22, 0), (22, .isub, 23, 0), (23, .invokestatic 137, 26, 118), (26, .ifCond .eq 12, 29, 38), (29, .aload_n 0, 30, 0), (30, .iload_n 1, 31, 0), (31, .iload_n 2, 32, 0), (32, .invokevirtual 226, 35, 151), (35, .goto 4, 38, 39), (38, .iconst (-1), 39, 0), (39, .ireturn, 40, 0)]
def cd153 : List Ins := [(0, .aload_n 0, 1, 0), (1, .getfield 68, 4, 728), (4, .iload_n 1, 5, 0), (5, .iaload, 6, 0), (6, .aload_n 0, 7, 0), (7, .getfield 68, 10, 728), (10, .iload_n 2, 11, 0), (11, .iaload, 12, 0), (12, .if_icmp .eq 5, 15, 17), (15, .iconst 0, 16, 0), (16, .ireturn, 17, 0), (17, .iconst 0, 18, 0), (18, .istore_n 3, 19, 0), (19, .iload_n 3, 20, 0), (20, .aload_n 0, 21, 0), (21, .getfield 68, 24, 728), (24, .iload_n 1, 25, 0), (25, .iaload, 26, 0), (26, .if_icmp .ge 36, 29, 62), (29, .aload_n 0, 30, 0), (30, .getfield 65, 33, 727), (33, .bipush 60, 35, 0), (35, .iload_n 1, 36, 0), (36, .imul, 37, 0), (37, .iload_n 3, 38, 0), (38, .iadd, 39, 0), (39, .baload, 40, 0), (40, .aload_n 0, 41, 0), (41, .getfield 65, 44, 727), (44, .bipush 60, 46, 0), (46, .iload_n 2, 47, 0), (47, .imul, 48, 0), (48, .iload_n 3, 49, 0), (49, .iadd, 50, 0), (50, .baload, 51, 0), (51, .if_icmp .eq 5, 54, 56), (54, .iconst 0, 55, 0), (55, .ireturn, 56, 0), (56, .iinc 3 1, 59, 0), (59, .goto (-40), 62, 19), (62, .iconst 1, 63, 0), (63, .ireturn, 64, 0)]
def cd154 : List Ins := [(0, .aload_n 0, 1, 0), (1, .invokevirtual 187, 4, 147), (4, .iconst 0, 5, 0), (5, .istore_n 1, 6, 0), (6, .iconst 0, 7, 0), (7, .istore_n 2, 8, 0), (8, .iload_n 2, 9, 0), (9, .aload_n 0, 10, 0), (10, .getfield 152, 13, 711), (13, .if_icmp .ge 75, 16, 88), (16, .iload_n 2, 17, 0), (17, .iconst 1, 18, 0), (18, .iadd, 19, 0), (19, .istore_n 3, 20, 0), (20, .iload_n 3, 21, 0), (21, .aload_n 0, 22, 0), (22, .getfield 152, 25, 711), (25, .if_icmp .ge 57, 28, 82), (28, .iload_n 1, 29, 0), (29, .aload_n 0, 30, 0), (30, .iload_n 2, 31, 0), (31, .invokevirtual 177, 34, 125), (34, .ifCond .eq 39, 37, 73), (37, .aload_n 0, 38, 0), (38, .iload_n 3, 39, 0), (39, .invokevirtual 177, 42, 125), (42, .ifCond .eq 31, 45, 73), (45, .aload_n 0, 46, 0), (46, .getfield 29, 49, 712), (49, .iload_n 2, 50, 0), (50, .iaload, 51, 0), (51, .aload_n 0, 52, 0), (52, .getfield 29, 55, 712), (55, .iload_n 3, 56, 0), (56, .iaload, 57, 0), (57, .if_icmp .ne 16, 60, 73), (60, .aload_n 0, 61, 0), (61, .iload_n 2, 62, 0), (62, .iload_n 3, 63, 0), (63, .invokevirtual 229, 66, 153), (66, .ifCond .eq 7, 69, 73), (69, .iconst 1, 70, 0), (70, .goto 4, 73, 74), (73, .iconst 0, 74, 0), (74, .iadd, 75, 0), (75, .istore_n 1, 76, 0), (76, .iinc 3 1, 79, 0), (79, .goto (-59), 82, 20), (82, .iinc 2 1, 85, 0), (85, .goto (-77), 88, 8), (88, .iload_n 1, 89, 0), (89, .ireturn, 90, 0)]
def cd155 : List Ins := [(0, .iload_n 1, 1, 0), (1, .istore_n 2, 2, 0), (2, .aload_n 0, 3, 0), (3, .getfield 32, 6, 713), (6, .iload_n 2, 7, 0), (7, .iaload, 8, 0), (8, .bipush (-9), 10, 0), (10, .if_icmp .ne 23, 13, 33), (13, .aload_n 0, 14, 0), (14, .getfield 38, 17, 715), (17, .iload_n 2, 18, 0), (18, .iaload, 19, 0), (19, .iconst (-1), 20, 0), (20, .if_icmp .eq 13, 23, 33), (23, .aload_n 0, 24, 0), (24, .getfield 38, 27, 715), (27, .iload_n 2, 28, 0), (28, .iaload, 29, 0), (29, .istore_n 2, 30, 0), (30, .goto (-28), 33, 2), (33, .iload_n 2, 34, 0), (34, .ireturn, 35, 0)]
def cd156 : List Ins := [(0, .aload_n 0, 1, 0), (1, .iload_n 1, 2, 0), (2, .invokevirtual 232, 5, 155), (5, .istore_n 2, 6, 0), (6, .aload_n 0, 7, 0), (7, .iload_n 2, 8, 0), (8, .invokevirtual 177, 11, 125), (11, .ifCond .eq 7, 14, 18), (14, .iload_n 2, 15, 0), (15, .goto 4, 18, 19), (18, .iconst (-1), 19, 0), (19, .ireturn, 20, 0)]
def cd157 : List Ins := [(0, .aload_n 0, 1, 0), (1, .getfield 83, 4, 734), (4, .aload_n 0, 5, 0), (5, .getfield 235, 8, 733), (8, .iload_n 1, 9, 0), (9, .iastore, 10, 0), (10, .aload_n 0, 11, 0), (11, .getfield 86, 14, 735), (14, .aload_n 0, 15, 0), (15, .getfield 235, 18, 733), (18, .iload_n 2, 19, 0), (19, .iastore, 20, 0), (20, .aload_n 0, 21, 0), (21, .getfield 89, 24, 736), (24, .aload_n 0, 25, 0), (25, .getfield 235, 28, 733), (28, .iload_n 3, 29, 0), (29, .iastore, 30, 0), (30, .aload_n 0, 31, 0), (31, .getfield 92, 34, 737), (34, .aload_n 0, 35, 0), (35, .getfield 235, 38, 733), (38, .iload 4, 40, 0), (40, .iastore, 41, 0), (41, .aload_n 0, 42, 0), (42, .getfield 95, 45, 738), (45, .aload_n 0, 46, 0), (46, .getfield 235, 49, 733), (49, .iconst 0, 50, 0), (50, .iastore, 51, 0), (51, .aload_n 0, 52, 0), (52, .dup, 53, 0), (53, .getfield 235, 56, 733), (56, .iconst 1, 57, 0), (57, .iadd, 58, 0), (58, .putfield 235, 61, 733), (61, .aload_n 0, 62, 0), (62, .getfield 235, 65, 733), (65, .iconst 1, 66, 0), (66, .isub, 67, 0), (67, .ireturn, 68, 0)]
def cd158 : List Ins := [(0, .aload_n 0, 1, 0), (1, .iload_n 1, 2, 0), (2, .invokevirtual 177, 5, 125), (5, .ifCond .eq 38, 8, 43), (8, .iload_n 2, 9, 0), (9, .ifCond .ne 14, 12, 23), (12, .aload_n 0, 13, 0), (13, .iload_n 3, 14, 0), (14, .invokevirtual 177, 17, 125), (17, .ifCond .eq 26, 20, 43), (20, .goto 19, 23, 39), (23, .iload_n 2, 24, 0), (24, .iconst 2, 25, 0), (25, .iconst 3, 26, 0), (26, .invokestatic 137, 29, 118), (29, .ifCond .eq 14, 32, 43), (32, .iload_n 3, 33, 0), (33, .invokestatic 141, 36, 122), (36, .ifCond .eq 7, 39, 43), (39, .iconst 1, 40, 0), (40, .goto 4, 43, 44), (43, .iconst 0, 44, 0), (44, .istore 4, 46, 0), (46, .iload 4, 48, 0), (48, .ifCond .ne 6, 51, 54), (51, .bipush (-2), 53, 0), (53, .ireturn, 54, 0), (54, .aload_n 0, 55, 0), (55, .getfield 235, 58, 733), (58, .bipush 100, 60, 0), (60, .if_icmp .ne 8, 63, 68), (63, .bipush (-3), 65, 0), (65, .goto 11, 68, 76), (68, .aload_n 0, 69, 0), (69, .iload_n 1, 70, 0), (70, .iload_n 2, 71, 0), (71, .iload_n 3, 72, 0), (72, .iconst (-1), 73, 0), (73, .invokevirtual 238, 76, 157), (76, .ireturn, 77, 0)]
def cd159 : List Ins := [(0, .aload_n 0, 1, 0), (1, .invokevirtual 187, 4, 147), (4, .aload_n 0, 5, 0), (5, .iload_n 1, 6, 0), (6, .invokevirtual 177, 9, 125), (9, .ifCond .eq 39, 12, 48), (12, .iload_n 2, 13, 0), (13, .invokestatic 141, 16, 122), (16, .ifCond .eq 32, 19, 48), (19, .iload_n 3, 20, 0), (20, .iconst 0, 21, 0), (21, .aload_n 0, 22, 0), (22, .getfield 190, 25, 724), (25, .iconst 1, 26, 0), (26, .isub, 27, 0), (27, .invokestatic 137, 30, 118), (30, .ifCond .eq 18, 33, 48), (33, .iload 4, 35, 0), (35, .iload_n 3, 36, 0), (36, .aload_n 0, 37, 0), (37, .getfield 190, 40, 724), (40, .iconst 1, 41, 0), (41, .isub, 42, 0), (42, .invokestatic 137, 45, 118), (45, .ifCond .ne 6, 48, 51), (48, .bipush (-2), 50, 0), (50, .ireturn, 51, 0), (51, .iconst 0, 52, 0), (52, .istore 5, 54, 0), (54, .iload_n 3, 55, 0), (55, .istore 6, 57, 0), (57, .iload 6, 59, 0), (59, .iload 4, 61, 0), (61, .if_icmp .gt 35, 64, 96), (64, .iload 5, 66, 0), (66, .aload_n 0, 67, 0), (67, .getfield 29, 70, 712), (70, .aload_n 0, 71, 0), (71, .getfield 53, 74, 722), (74, .iload 6, 76, 0), (76, .iaload, 77, 0), (77, .iaload, 78, 0), (78, .iload_n 2, 79, 0), (79, .if_icmp .ne 7, 82, 86), (82, .iconst 1, 83, 0), (83, .goto 4, 86, 87), (86, .iconst 0, 87, 0), (87, .iadd, 88, 0), (88, .istore 5, 90, 0), (90, .iinc 6 1, 93, 0), (93, .goto (-36), 96, 57), (96, .iload 5, 98, 0), (98, .iconst 2, 99, 0), (99, .bipush 12, 101, 0), (101, .invokestatic 137, 104, 118), (104, .ifCond .ne 6, 107, 110), (107, .bipush (-2), 109, 0), (109, .ireturn, 110, 0), (110, .aload_n 0, 111, 0), (111, .getfield 235, 114, 733), (114, .bipush 100, 116, 0), (116, .if_icmp .ne 6, 119, 122), (119, .bipush (-3), 121, 0), (121, .ireturn, 122, 0), (122, .aload_n 0, 123, 0), (123, .iload_n 1, 124, 0), (124, .iconst 1, 125, 0), (125, .iload_n 2, 126, 0), (126, .iconst (-1), 127, 0), (127, .invokevirtual 238, 130, 157), (130, .istore 6, 132, 0), (132, .iload_n 3, 133, 0), (133, .istore 7, 135, 0), (135, .iload 7, 137, 0), (137, .iload 4, 139, 0), (139, .if_icmp .gt 64, 142, 203), (142, .aload_n 0, 143, 0), (143, .getfield 29, 146, 712), (146, .aload_n 0, 147, 0), (147, .getfield 53, 150, 722), (150, .iload 7, 152, 0), (152, .iaload, 153, 0), (153, .iaload, 154, 0), (154, .iload_n 2, 155, 0), (155, .if_icmp .eq 6, 158, 161), (158, .goto 39, 161, 197), (161, .aload_n 0, 162, 0), (162, .getfield 98, 165, 739), (165, .bipush 12, 167, 0), (167, .iload 6, 169, 0), (169, .imul, 170, 0), (170, .aload_n 0, 171, 0), (171, .getfield 95, 174, 738), (174, .iload 6, 176, 0), (176, .iaload, 177, 0), (177, .iadd, 178, 0), (178, .aload_n 0, 179, 0), (179, .getfield 53, 182, 722), (182, .iload 7, 184, 0), (184, .iaload, 185, 0), (185, .iastore, 186, 0), (186, .aload_n 0, 187, 0), (187, .getfield 95, 190, 738), (190, .iload 6, 192, 0), (192, .dup2, 193, 0), (193, .iaload, 194, 0), (194, .iconst 1, 195, 0), (195, .iadd, 196, 0), (196, .iastore, 197, 0), (197, .iinc 7 1, 200, 0), (200, .goto (-65), 203, 135), (203, .iload 6, 205, 0), (205, .ireturn, 206, 0)]
def cd160 : List Ins := [(0, .aload_n 0, 1, 0), (1, .iload_n 1, 2, 0), (2, .invokevirtual 177, 5, 125), (5, .ifCond .eq 12, 8, 17), (8, .aload_n 0, 9, 0), (9, .iload_n 3, 10, 0), (10, .iload_n 2, 11, 0), (11, .invokevirtual 241, 14, 174), (14, .ifCond .ne 6, 17, 20), (17, .bipush (-2), 19, 0), (19, .ireturn, 20, 0), (20, .aload_n 0, 21, 0), (21, .getfield 235, 24, 733), (24, .bipush 100, 26, 0), (26, .if_icmp .ne 8, 29, 34), (29, .bipush (-3), 31, 0), (31, .goto 11, 34, 42), (34, .aload_n 0, 35, 0), (35, .iload_n 1, 36, 0), (36, .iconst 4, 37, 0), (37, .iload_n 2, 38, 0), (38, .iload_n 3, 39, 0), (39, .invokevirtual 238, 42, 157), (42, .ireturn, 43, 0)]
def cd161 : List Ins := [(0, .aload_n 0, 1, 0), (1, .getfield 101, 4, 740), (4, .aload_n 0, 5, 0), (5, .getfield 244, 8, 741), (8, .iload_n 1, 9, 0), (9, .i2b, 10, 0), (10, .bastore, 11, 0), (11, .aload_n 0, 12, 0), (12, .dup, 13, 0), (13, .getfield 244, 16, 741), (16, .iconst 1, 17, 0), (17, .iadd, 18, 0), (18, .putfield 244, 21, 741), (21, .return_, 22, 0)]
def cd162 : List Ins := [(0, .iconst 0, 1, 0), (1, .istore_n 2, 2, 0), (2, .iload_n 2, 3, 0), (3, .aload_n 0, 4, 0), (4, .iload_n 1, 5, 0), (5, .invokevirtual 223, 8, 150), (8, .if_icmp .ge 19, 11, 27), (11, .aload_n 0, 12, 0), (12, .aload_n 0, 13, 0), (13, .iload_n 1, 14, 0), (14, .iload_n 2, 15, 0), (15, .invokevirtual 226, 18, 151), (18, .invokevirtual 247, 21, 161), (21, .iinc 2 1, 24, 0), (24, .goto (-22), 27, 2), (27, .return_, 28, 0)]
def cd163 : List Ins := [(0, .iconst 0, 1, 0), (1, .istore_n 2, 2, 0), (2, .iload_n 2, 3, 0), (3, .aload_n 0, 4, 0), (4, .getfield 68, 7, 728), (7, .iload_n 1, 8, 0), (8, .iaload, 9, 0), (9, .if_icmp .ge 24, 12, 33), (12, .aload_n 0, 13, 0), (13, .aload_n 0, 14, 0), (14, .getfield 65, 17, 727), (17, .bipush 60, 19, 0), (19, .iload_n 1, 20, 0), (20, .imul, 21, 0), (21, .iload_n 2, 22, 0), (22, .iadd, 23, 0), (23, .baload, 24, 0), (24, .invokevirtual 247, 27, 161), (27, .iinc 2 1, 30, 0), (30, .goto (-28), 33, 2), (33, .return_, 34, 0)]
def cd164 : List Ins := [(0, .iload_n 3, 1, 0), (1, .iconst 2, 2, 0), (2, .if_icmp .ne 55, 5, 57), (5, .aload_n 0, 6, 0), (6, .getfield 56, 9, 723), (9, .iload_n 1, 10, 0), (10, .iaload, 11, 0), (11, .iconst 1, 12, 0), (12, .iadd, 13, 0), (13, .istore 4, 15, 0), (15, .iload 4, 17, 0), (17, .aload_n 0, 18, 0), (18, .getfield 190, 21, 724), (21, .if_icmp .ge 33, 24, 54), (24, .aload_n 0, 25, 0), (25, .getfield 29, 28, 712), (28, .aload_n 0, 29, 0), (29, .getfield 53, 32, 722), (32, .iload 4, 34, 0), (34, .iaload, 35, 0), (35, .iaload, 36, 0), (36, .iload_n 2, 37, 0), (37, .if_icmp .ne 11, 40, 48), (40, .aload_n 0, 41, 0), (41, .getfield 53, 44, 722), (44, .iload 4, 46, 0), (46, .iaload, 47, 0), (47, .ireturn, 48, 0), (48, .iinc 4 1, 51, 0), (51, .goto (-36), 54, 15), (54, .goto 48, 57, 102), (57, .aload_n 0, 58, 0), (58, .getfield 56, 61, 723), (61, .iload_n 1, 62, 0), (62, .iaload, 63, 0), (63, .iconst 1, 64, 0), (64, .isub, 65, 0), (65, .istore 4, 67, 0), (67, .iload 4, 69, 0), (69, .ifCond .lt 33, 72, 102), (72, .aload_n 0, 73, 0), (73, .getfield 29, 76, 712), (76, .aload_n 0, 77, 0), (77, .getfield 53, 80, 722), (80, .iload 4, 82, 0), (82, .iaload, 83, 0), (83, .iaload, 84, 0), (84, .iload_n 2, 85, 0), (85, .if_icmp .ne 11, 88, 96), (88, .aload_n 0, 89, 0), (89, .getfield 53, 92, 722), (92, .iload 4, 94, 0), (94, .iaload, 95, 0), (95, .ireturn, 96, 0), (96, .iinc 4 (-1), 99, 0), (99, .goto (-32), 102, 67), (102, .iconst (-1), 103, 0), (103, .ireturn, 104, 0)]
def cd165 : List Ins := [(0, .aload_n 0, 1, 0), (1, .invokevirtual 187, 4, 147), (4, .aload_n 0, 5, 0), (5, .getfield 86, 8, 735), (8, .iload_n 1, 9, 0), (9, .iaload, 10, 0), (10, .ifCond .eq 13, 13, 23), (13, .aload_n 0, 14, 0), (14, .getfield 86, 17, 735), (17, .iload_n 1, 18, 0), (18, .iaload, 19, 0), (19, .iconst 4, 20, 0), (20, .if_icmp .ne 14, 23, 34), (23, .aload_n 0, 24, 0), (24, .aload_n 0, 25, 0), (25, .getfield 89, 28, 736), (28, .iload_n 1, 29, 0), (29, .iaload, 30, 0), (30, .invokevirtual 250, 33, 156), (33, .ireturn, 34, 0), (34, .aload_n 0, 35, 0), (35, .aload_n 0, 36, 0), (36, .getfield 83, 39, 734), (39, .iload_n 1, 40, 0), (40, .iaload, 41, 0), (41, .invokevirtual 232, 44, 155), (44, .istore_n 2, 45, 0), (45, .aload_n 0, 46, 0), (46, .getfield 86, 49, 735), (49, .iload_n 1, 50, 0), (50, .iaload, 51, 0), (51, .iconst 1, 52, 0), (52, .if_icmp .le 33, 55, 85), (55, .aload_n 0, 56, 0), (56, .iload_n 2, 57, 0), (57, .invokevirtual 177, 60, 125), (60, .ifCond .eq 23, 63, 83), (63, .aload_n 0, 64, 0), (64, .iload_n 2, 65, 0), (65, .aload_n 0, 66, 0), (66, .getfield 89, 69, 736), (69, .iload_n 1, 70, 0), (70, .iaload, 71, 0), (71, .aload_n 0, 72, 0), (72, .getfield 86, 75, 735), (75, .iload_n 1, 76, 0), (76, .iaload, 77, 0), (77, .invokevirtual 253, 80, 164), (80, .goto 4, 83, 84), (83, .iconst (-1), 84, 0), (84, .ireturn, 85, 0), (85, .aload_n 0, 86, 0), (86, .iload_n 1, 87, 0), (87, .invokevirtual 257, 90, 166), (90, .iconst 0, 91, 0), (91, .istore_n 3, 92, 0), (92, .iload_n 3, 93, 0), (93, .aload_n 0, 94, 0), (94, .getfield 190, 97, 724), (97, .if_icmp .ge 30, 100, 127), (100, .aload_n 0, 101, 0), (101, .getfield 104, 104, 743), (104, .aload_n 0, 105, 0), (105, .getfield 53, 108, 722), (108, .iload_n 3, 109, 0), (109, .iaload, 110, 0), (110, .baload, 111, 0), (111, .ifCond .eq 10, 114, 121), (114, .aload_n 0, 115, 0), (115, .getfield 53, 118, 722), (118, .iload_n 3, 119, 0), (119, .iaload, 120, 0), (120, .ireturn, 121, 0), (121, .iinc 3 1, 124, 0), (124, .goto (-32), 127, 92), (127, .iconst (-1), 128, 0), (128, .ireturn, 129, 0)]
def cd166 : List Ins := [(0, .iconst 0, 1, 0), (1, .istore_n 2, 2, 0), (2, .iload_n 2, 3, 0), (3, .aload_n 0, 4, 0), (4, .getfield 152, 7, 711), (7, .if_icmp .ge 16, 10, 23), (10, .aload_n 0, 11, 0), (11, .getfield 104, 14, 743), (14, .iload_n 2, 15, 0), (15, .iconst 0, 16, 0), (16, .bastore, 17, 0), (17, .iinc 2 1, 20, 0), (20, .goto (-18), 23, 2), (23, .iconst 0, 24, 0), (24, .istore_n 2, 25, 0), (25, .iload_n 2, 26, 0), (26, .aload_n 0, 27, 0), (27, .getfield 95, 30, 738), (30, .iload_n 1, 31, 0), (31, .iaload, 32, 0), (32, .if_icmp .ge 37, 35, 69), (35, .aload_n 0, 36, 0), (36, .aload_n 0, 37, 0), (37, .getfield 98, 40, 739), (40, .bipush 12, 42, 0), (42, .iload_n 1, 43, 0), (43, .imul, 44, 0), (44, .iload_n 2, 45, 0), (45, .iadd, 46, 0), (46, .iaload, 47, 0), (47, .invokevirtual 250, 50, 156), (50, .istore_n 3, 51, 0), (51, .iload_n 3, 52, 0), (52, .iconst (-1), 53, 0), (53, .if_icmp .eq 10, 56, 63), (56, .aload_n 0, 57, 0), (57, .getfield 104, 60, 743), (60, .iload_n 3, 61, 0), (61, .iconst 1, 62, 0), (62, .bastore, 63, 0), (63, .iinc 2 1, 66, 0), (66, .goto (-41), 69, 25), (69, .return_, 70, 0)]
def cd167 : List Ins := [(0, .aload_n 0, 1, 0), (1, .getfield 86, 4, 735), (4, .iload_n 1, 5, 0), (5, .iaload, 6, 0), (6, .ifCond .eq 13, 9, 19), (9, .aload_n 0, 10, 0), (10, .getfield 86, 13, 735), (13, .iload_n 1, 14, 0), (14, .iaload, 15, 0), (15, .iconst 4, 16, 0), (16, .if_icmp .ne 23, 19, 39), (19, .aload_n 0, 20, 0), (20, .aload_n 0, 21, 0), (21, .getfield 89, 24, 736), (24, .iload_n 1, 25, 0), (25, .iaload, 26, 0), (26, .invokevirtual 250, 29, 156), (29, .iconst (-1), 30, 0), (30, .if_icmp .ne 7, 33, 37), (33, .iconst 1, 34, 0), (34, .goto 4, 37, 38), (37, .iconst 0, 38, 0), (38, .ireturn, 39, 0), (39, .iconst 0, 40, 0), (40, .istore_n 2, 41, 0), (41, .iconst 0, 42, 0), (42, .istore_n 3, 43, 0), (43, .iload_n 3, 44, 0), (44, .aload_n 0, 45, 0), (45, .getfield 95, 48, 738), (48, .iload_n 1, 49, 0), (49, .iaload, 50, 0), (50, .if_icmp .ge 36, 53, 86), (53, .iload_n 2, 54, 0), (54, .aload_n 0, 55, 0), (55, .aload_n 0, 56, 0), (56, .getfield 98, 59, 739), (59, .bipush 12, 61, 0), (61, .iload_n 1, 62, 0), (62, .imul, 63, 0), (63, .iload_n 3, 64, 0), (64, .iadd, 65, 0), (65, .iaload, 66, 0), (66, .invokevirtual 250, 69, 156), (69, .iconst (-1), 70, 0), (70, .if_icmp .ne 7, 73, 77), (73, .iconst 1, 74, 0), (74, .goto 4, 77, 78), (77, .iconst 0, 78, 0), (78, .iadd, 79, 0), (79, .istore_n 2, 80, 0), (80, .iinc 3 1, 83, 0), (83, .goto (-40), 86, 43), (86, .iload_n 2, 87, 0), (87, .ireturn, 88, 0)]
def cd168 : List Ins := [(0, .aload_n 0, 1, 0), (1, .invokevirtual 187, 4, 147), (4, .aload_n 0, 5, 0), (5, .iconst 0, 6, 0), (6, .putfield 244, 9, 741), (9, .aload_n 0, 10, 0), (10, .iconst 0, 11, 0), (11, .putfield 260, 14, 742), (14, .aload_n 0, 15, 0), (15, .aload_n 0, 16, 0), (16, .aload_n 0, 17, 0), (17, .getfield 83, 20, 734), (20, .iload_n 1, 21, 0), (21, .iaload, 22, 0), (22, .invokevirtual 232, 25, 155), (25, .invokevirtual 177, 28, 125), (28, .ifCond .ne 4, 31, 32), (31, .return_, 32, 0), (32, .aload_n 0, 33, 0), (33, .getfield 86, 36, 735), (36, .iload_n 1, 37, 0), (37, .iaload, 38, 0), (38, .iconst 4, 39, 0), (39, .if_icmp .ne 59, 42, 98), (42, .bipush 120, 44, 0), (44, .aload_n 0, 45, 0), (45, .getfield 92, 48, 737), (48, .iload_n 1, 49, 0), (49, .iaload, 50, 0), (50, .imul, 51, 0), (51, .aload_n 0, 52, 0), (52, .getfield 89, 55, 736), (55, .iload_n 1, 56, 0), (56, .iaload, 57, 0), (57, .iadd, 58, 0), (58, .istore_n 2, 59, 0), (59, .iconst 0, 60, 0), (60, .istore_n 3, 61, 0), (61, .iload_n 3, 62, 0), (62, .aload_n 0, 63, 0), (63, .getfield 112, 66, 746), (66, .iload_n 2, 67, 0), (67, .iaload, 68, 0), (68, .if_icmp .ge 24, 71, 92), (71, .aload_n 0, 72, 0), (72, .aload_n 0, 73, 0), (73, .getfield 109, 76, 745), (76, .bipush 60, 78, 0), (78, .iload_n 2, 79, 0), (79, .imul, 80, 0), (80, .iload_n 3, 81, 0), (81, .iadd, 82, 0), (82, .baload, 83, 0), (83, .invokevirtual 247, 86, 161), (86, .iinc 3 1, 89, 0), (89, .goto (-28), 92, 61), (92, .aload_n 0, 93, 0), (93, .iconst 1, 94, 0), (94, .putfield 260, 97, 742), (97, .return_, 98, 0), (98, .aload_n 0, 99, 0), (99, .iload_n 1, 100, 0), (100, .invokevirtual 263, 103, 165), (103, .istore_n 2, 104, 0), (104, .iload_n 2, 105, 0), (105, .iconst (-1), 106, 0), (106, .if_icmp .ne 4, 109, 110), (109, .return_, 110, 0), (110, .aload_n 0, 111, 0), (111, .getfield 86, 114, 735), (114, .iload_n 1, 115, 0), (115, .iaload, 116, 0), (116, .iconst 1, 117, 0), (117, .if_icmp .ne 9, 120, 126), (120, .aload_n 0, 121, 0), (121, .iload_n 1, 122, 0), (122, .invokevirtual 266, 125, 169), (125, .return_, 126, 0), (126, .aload_n 0, 127, 0), (127, .iload_n 2, 128, 0), (128, .invokevirtual 269, 131, 162), (131, .aload_n 0, 132, 0), (132, .iconst 1, 133, 0), (133, .putfield 260, 136, 742), (136, .return_, 137, 0)]
def cd169 : List Ins := [(0, .aload_n 0, 1, 0), (1, .getfield 89, 4, 736), (4, .iload_n 1, 5, 0), (5, .iaload, 6, 0), (6, .istore_n 2, 7, 0), (7, .iconst 0, 8, 0), (8, .istore_n 3, 9, 0), (9, .iload_n 3, 10, 0), (10, .aload_n 0, 11, 0), (11, .getfield 16, 14, 707), (14, .iload_n 2, 15, 0), (15, .iaload, 16, 0), (16, .if_icmp .ge 24, 19, 40), (19, .aload_n 0, 20, 0), (20, .aload_n 0, 21, 0), (21, .getfield 13, 24, 706), (24, .bipush 10, 26, 0), (26, .iload_n 2, 27, 0), (27, .imul, 28, 0), (28, .iload_n 3, 29, 0), (29, .iadd, 30, 0), (30, .baload, 31, 0), (31, .invokevirtual 247, 34, 161), (34, .iinc 3 1, 37, 0), (37, .goto (-28), 40, 9), (40, .aload_n 0, 41, 0), (41, .getfield 16, 44, 707), (44, .iload_n 2, 45, 0), (45, .iaload, 46, 0), (46, .ifCond .le 9, 49, 55), (49, .aload_n 0, 50, 0), (50, .bipush 32, 52, 0), (52, .invokevirtual 247, 55, 161), (55, .iconst (-1), 56, 0), (56, .istore_n 3, 57, 0), (57, .iconst (-1), 58, 0), (58, .istore 4, 60, 0), (60, .iconst 0, 61, 0), (61, .istore 5, 63, 0), (63, .iload 5, 65, 0), (65, .aload_n 0, 66, 0), (66, .getfield 190, 69, 724), (69, .if_icmp .gt 139, 72, 208), (72, .iload 5, 74, 0), (74, .aload_n 0, 75, 0), (75, .getfield 190, 78, 724), (78, .if_icmp .ge 28, 81, 106), (81, .aload_n 0, 82, 0), (82, .getfield 104, 85, 743), (85, .aload_n 0, 86, 0), (86, .getfield 53, 89, 722), (89, .iload 5, 91, 0), (91, .iaload, 92, 0), (92, .baload, 93, 0), (93, .ifCond .eq 13, 96, 106), (96, .aload_n 0, 97, 0), (97, .getfield 53, 100, 722), (100, .iload 5, 102, 0), (102, .iaload, 103, 0), (103, .goto 4, 106, 107), (106, .iconst (-1), 107, 0), (107, .istore 6, 109, 0), (109, .iload 5, 111, 0), (111, .aload_n 0, 112, 0), (112, .getfield 190, 115, 724), (115, .if_icmp .ge 12, 118, 127), (118, .iload 6, 120, 0), (120, .iconst (-1), 121, 0), (121, .if_icmp .ne 6, 124, 127), (124, .goto 78, 127, 202), (127, .iload 6, 129, 0), (129, .iconst (-1), 130, 0), (130, .if_icmp .eq 52, 133, 182), (133, .iload 4, 135, 0), (135, .iconst (-1), 136, 0), (136, .if_icmp .eq 46, 139, 182), (139, .aload_n 0, 140, 0), (140, .getfield 62, 143, 726), (143, .iload 6, 145, 0), (145, .iaload, 146, 0), (146, .aload_n 0, 147, 0), (147, .getfield 62, 150, 726), (150, .iload 4, 152, 0), (152, .iaload, 153, 0), (153, .if_icmp .ne 29, 156, 182), (156, .aload_n 0, 157, 0), (157, .getfield 59, 160, 725), (160, .iload 6, 162, 0), (162, .iaload, 163, 0), (163, .aload_n 0, 164, 0), (164, .getfield 59, 167, 725), (167, .iload 4, 169, 0), (169, .iaload, 170, 0), (170, .iconst 1, 171, 0), (171, .iadd, 172, 0), (172, .if_icmp .ne 10, 175, 182), (175, .iload 6, 177, 0), (177, .istore 4, 179, 0), (179, .goto 23, 182, 202), (182, .iload 4, 184, 0), (184, .iconst (-1), 185, 0), (185, .if_icmp .eq 10, 188, 195), (188, .aload_n 0, 189, 0), (189, .iload_n 3, 190, 0), (190, .iload 4, 192, 0), (192, .invokevirtual 272, 195, 170), (195, .iload 6, 197, 0), (197, .istore_n 3, 198, 0), (198, .iload 6, 200, 0), (200, .istore 4, 202, 0), (202, .iinc 5 1, 205, 0), (205, .goto (-142), 208, 63), (208, .return_, 209, 0)]
def cd170 : List Ins := [(0, .aload_n 0, 1, 0), (1, .getfield 260, 4, 742), (4, .ifCond .le 15, 7, 19), (7, .aload_n 0, 8, 0), (8, .bipush 44, 10, 0), (10, .invokevirtual 247, 13, 161), (13, .aload_n 0, 14, 0), (14, .bipush 32, 16, 0), (16, .invokevirtual 247, 19, 161), (19, .aload_n 0, 20, 0), (20, .dup, 21, 0), (21, .getfield 260, 24, 742), (24, .iconst 1, 25, 0), (25, .iadd, 26, 0), (26, .putfield 260, 29, 742), (29, .aload_n 0, 30, 0), (30, .iload_n 1, 31, 0), (31, .invokevirtual 275, 34, 163), (34, .iload_n 1, 35, 0), (35, .iload_n 2, 36, 0), (36, .if_icmp .ne 4, 39, 40), (39, .return_, 40, 0), (40, .aload_n 0, 41, 0), (41, .bipush 32, 43, 0), (43, .invokevirtual 247, 46, 161), (46, .aload_n 0, 47, 0), (47, .bipush 116, 49, 0), (49, .invokevirtual 247, 52, 161), (52, .aload_n 0, 53, 0), (53, .bipush 111, 55, 0), (55, .invokevirtual 247, 58, 161), (58, .aload_n 0, 59, 0), (59, .bipush 32, 61, 0), (61, .invokevirtual 247, 64, 161), (64, .aload_n 0, 65, 0), (65, .iload_n 2, 66, 0), (66, .invokevirtual 275, 69, 163), (69, .return_, 70, 0)]
def cd171 : List Ins := [(0, .iload_n 1, 1, 0), (1, .iconst 0, 2, 0), (2, .aload_n 0, 3, 0), (3, .getfield 235, 6, 733), (6, .iconst 1, 7, 0), (7, .isub, 8, 0), (8, .invokestatic 137, 11, 118), (11, .ifCond .ne 6, 14, 17), (14, .bipush (-10), 16, 0), (16, .ireturn, 17, 0), (17, .iload_n 2, 18, 0), (18, .tableswitch 88 0 5 #[38, 45, 56, 62, 72, 78], 56, 0), (56, .aload_n 0, 57, 0), (57, .getfield 86, 60, 735), (60, .iload_n 1, 61, 0), (61, .iaload, 62, 0), (62, .ireturn, 63, 0), (63, .aload_n 0, 64, 0), (64, .aload_n 0, 65, 0), (65, .getfield 83, 68, 734), (68, .iload_n 1, 69, 0), (69, .iaload, 70, 0), (70, .invokevirtual 232, 73, 155), (73, .ireturn, 74, 0), (74, .aload_n 0, 75, 0), (75, .iload_n 1, 76, 0), (76, .invokevirtual 263, 79, 165), (79, .ireturn, 80, 0), (80, .aload_n 0, 81, 0), (81, .iload_n 1, 82, 0), (82, .invokevirtual 278, 85, 168), (85, .aload_n 0, 86, 0), (86, .getfield 260, 89, 742), (89, .ireturn, 90, 0), (90, .aload_n 0, 91, 0), (91, .iload_n 1, 92, 0), (92, .invokevirtual 281, 95, 167), (95, .ireturn, 96, 0), (96, .aload_n 0, 97, 0), (97, .iload_n 1, 98, 0), (98, .invokevirtual 278, 101, 168), (101, .aload_n 0, 102, 0), (102, .getfield 244, 105, 741), (105, .ireturn, 106, 0), (106, .bipush (-10), 108, 0), (108, .ireturn, 109, 0)]
def cd172 : List Ins := [(0, .iload_n 1, 1, 0), (1, .iconst 0, 2, 0), (2, .aload_n 0, 3, 0), (3, .getfield 235, 6, 733), (6, .iconst 1, 7, 0), (7, .isub, 8, 0), (8, .invokestatic 137, 11, 118), (11, .ifCond .ne 5, 14, 16), (14, .iconst (-1), 15, 0), (15, .ireturn, 16, 0), (16, .aload_n 0, 17, 0), (17, .iload_n 1, 18, 0), (18, .invokevirtual 278, 21, 168), (21, .iload_n 2, 22, 0), (22, .iconst 0, 23, 0), (23, .aload_n 0, 24, 0), (24, .getfield 244, 27, 741), (27, .iconst 1, 28, 0), (28, .isub, 29, 0), (29, .invokestatic 137, 32, 118), (32, .ifCond .eq 12, 35, 44), (35, .aload_n 0, 36, 0), (36, .getfield 101, 39, 740), (39, .iload_n 2, 40, 0), (40, .baload, 41, 0), (41, .goto 4, 44, 45), (44, .iconst (-1), 45, 0), (45, .ireturn, 46, 0)]
def cd173 : List Ins := [(0, .iconst 0, 1, 0), (1, .istore_n 1, 2, 0), (2, .iconst 0, 3, 0), (3, .istore_n 2, 4, 0), (4, .iload_n 2, 5, 0), (5, .aload_n 0, 6, 0), (6, .getfield 235, 9, 733), (9, .if_icmp .ge 75, 12, 84), (12, .aload_n 0, 13, 0), (13, .aload_n 0, 14, 0), (14, .aload_n 0, 15, 0), (15, .getfield 83, 18, 734), (18, .iload_n 2, 19, 0), (19, .iaload, 20, 0), (20, .invokevirtual 232, 23, 155), (23, .invokevirtual 177, 26, 125), (26, .ifCond .ne 6, 29, 32), (29, .goto 49, 32, 78), (32, .aload_n 0, 33, 0), (33, .iload_n 2, 34, 0), (34, .invokevirtual 278, 37, 168), (37, .iload_n 1, 38, 0), (38, .aload_n 0, 39, 0), (39, .getfield 260, 42, 742), (42, .ifCond .eq 29, 45, 71), (45, .aload_n 0, 46, 0), (46, .iload_n 2, 47, 0), (47, .invokevirtual 281, 50, 167), (50, .ifCond .gt 21, 53, 71), (53, .aload_n 0, 54, 0), (54, .getfield 86, 57, 735), (57, .iload_n 2, 58, 0), (58, .iaload, 59, 0), (59, .iconst 1, 60, 0), (60, .if_icmp .ne 15, 63, 75), (63, .aload_n 0, 64, 0), (64, .getfield 260, 67, 742), (67, .iconst 1, 68, 0), (68, .if_icmp .le 7, 71, 75), (71, .iconst 1, 72, 0), (72, .goto 4, 75, 76), (75, .iconst 0, 76, 0), (76, .iadd, 77, 0), (77, .istore_n 1, 78, 0), (78, .iinc 2 1, 81, 0), (81, .goto (-77), 84, 4), (84, .iload_n 1, 85, 0), (85, .ireturn, 86, 0)]
def cd174 : List Ins := [(0, .iload_n 1, 1, 0), (1, .iconst 0, 2, 0), (2, .aload_n 0, 3, 0), (3, .getfield 284, 6, 744), (6, .iconst 1, 7, 0), (7, .isub, 8, 0), (8, .invokestatic 137, 11, 118), (11, .ifCond .eq 32, 14, 43), (14, .iload_n 2, 15, 0), (15, .iconst 0, 16, 0), (16, .bipush 119, 18, 0), (18, .invokestatic 137, 21, 118), (21, .ifCond .eq 22, 24, 43), (24, .aload_n 0, 25, 0), (25, .getfield 115, 28, 747), (28, .bipush 120, 30, 0), (30, .iload_n 1, 31, 0), (31, .imul, 32, 0), (32, .iload_n 2, 33, 0), (33, .iadd, 34, 0), (34, .iaload, 35, 0), (35, .iconst (-1), 36, 0), (36, .if_icmp .eq 7, 39, 43), (39, .iconst 1, 40, 0), (40, .goto 4, 43, 44), (43, .iconst 0, 44, 0), (44, .ireturn, 45, 0)]
def cd175 : List Ins := [(0, .aload_n 0, 1, 0), (1, .getfield 284, 4, 744), (4, .bipush 8, 6, 0), (6, .if_icmp .ne 6, 9, 12), (9, .bipush (-3), 11, 0), (11, .ireturn, 12, 0), (12, .aload_n 0, 13, 0), (13, .invokevirtual 187, 16, 147), (16, .iconst 0, 17, 0), (17, .istore_n 1, 18, 0), (18, .iload_n 1, 19, 0), (19, .bipush 120, 21, 0), (21, .if_icmp .ge 109, 24, 130), (24, .bipush 120, 26, 0), (26, .aload_n 0, 27, 0), (27, .getfield 284, 30, 744), (30, .imul, 31, 0), (31, .iload_n 1, 32, 0), (32, .iadd, 33, 0), (33, .istore_n 2, 34, 0), (34, .aload_n 0, 35, 0), (35, .getfield 115, 38, 747), (38, .iload_n 2, 39, 0), (39, .iconst (-1), 40, 0), (40, .iastore, 41, 0), (41, .aload_n 0, 42, 0), (42, .getfield 112, 45, 746), (45, .iload_n 2, 46, 0), (46, .iconst 0, 47, 0), (47, .iastore, 48, 0), (48, .aload_n 0, 49, 0), (49, .iload_n 1, 50, 0), (50, .invokevirtual 177, 53, 125), (53, .ifCond .ne 6, 56, 59), (56, .goto 68, 59, 124), (59, .aload_n 0, 60, 0), (60, .getfield 112, 63, 746), (63, .iload_n 2, 64, 0), (64, .aload_n 0, 65, 0), (65, .iload_n 1, 66, 0), (66, .invokevirtual 223, 69, 150), (69, .iastore, 70, 0), (70, .aload_n 0, 71, 0), (71, .getfield 115, 74, 747), (74, .iload_n 2, 75, 0), (75, .aload_n 0, 76, 0), (76, .iload_n 1, 77, 0), (77, .invokevirtual 223, 80, 150), (80, .aload_n 0, 81, 0), (81, .getfield 68, 84, 728), (84, .iload_n 1, 85, 0), (85, .iaload, 86, 0), (86, .isub, 87, 0), (87, .iastore, 88, 0), (88, .iconst 0, 89, 0), (89, .istore_n 3, 90, 0), (90, .iload_n 3, 91, 0), (91, .aload_n 0, 92, 0), (92, .getfield 112, 95, 746), (95, .iload_n 2, 96, 0), (96, .iaload, 97, 0), (97, .if_icmp .ge 27, 100, 124), (100, .aload_n 0, 101, 0), (101, .getfield 109, 104, 745), (104, .bipush 60, 106, 0), (106, .iload_n 2, 107, 0), (107, .imul, 108, 0), (108, .iload_n 3, 109, 0), (109, .iadd, 110, 0), (110, .aload_n 0, 111, 0), (111, .iload_n 1, 112, 0), (112, .iload_n 3, 113, 0), (113, .invokevirtual 226, 116, 151), (116, .i2b, 117, 0), (117, .bastore, 118, 0), (118, .iinc 3 1, 121, 0), (121, .goto (-31), 124, 90), (124, .iinc 1 1, 127, 0), (127, .goto (-109), 130, 18), (130, .aload_n 0, 131, 0), (131, .dup, 132, 0), (132, .getfield 284, 135, 744), (135, .iconst 1, 136, 0), (136, .iadd, 137, 0), (137, .putfield 284, 140, 744), (140, .aload_n 0, 141, 0), (141, .getfield 284, 144, 744), (144, .iconst 1, 145, 0), (145, .isub, 146, 0), (146, .ireturn, 147, 0)]
def cd176 : List Ins := [(0, .aload_n 0, 1, 0), (1, .getfield 133, 4, 705), (4, .istore_n 3, 5, 0), (5, .aload_n 0, 6, 0), (6, .iconst 0, 7, 0), (7, .putfield 133, 10, 705), (10, .iload_n 1, 11, 0), (11, .iconst 0, 12, 0), (12, .aload_n 0, 13, 0), (13, .getfield 284, 16, 744), (16, .iconst 1, 17, 0), (17, .isub, 18, 0), (18, .invokestatic 137, 21, 118), (21, .ifCond .eq 10, 24, 31), (24, .iload_n 2, 25, 0), (25, .invokestatic 141, 28, 122), (28, .ifCond .ne 6, 31, 34), (31, .bipush (-2), 33, 0), (33, .ireturn, 34, 0), (34, .iconst 0, 35, 0), (35, .istore 4, 37, 0), (37, .iload 4, 39, 0), (39, .bipush 120, 41, 0), (41, .if_icmp .ge 134, 44, 175), (44, .aload_n 0, 45, 0), (45, .iload_n 1, 46, 0), (46, .iload 4, 48, 0), (48, .invokevirtual 241, 51, 174), (51, .ifCond .eq 118, 54, 169), (54, .aload_n 0, 55, 0), (55, .getfield 29, 58, 712), (58, .iload 4, 60, 0), (60, .iaload, 61, 0), (61, .iload_n 2, 62, 0), (62, .if_icmp .eq 6, 65, 68), (65, .goto 104, 68, 169), (68, .bipush 120, 70, 0), (70, .iload_n 1, 71, 0), (71, .imul, 72, 0), (72, .iload 4, 74, 0), (74, .iadd, 75, 0), (75, .istore 5, 77, 0), (77, .aload_n 0, 78, 0), (78, .getfield 112, 81, 746), (81, .iload 5, 83, 0), (83, .iaload, 84, 0), (84, .aload_n 0, 85, 0), (85, .getfield 115, 88, 747), (88, .iload 5, 90, 0), (90, .iaload, 91, 0), (91, .isub, 92, 0), (92, .iload_n 3, 93, 0), (93, .if_icmp .ne 7, 96, 100), (96, .iconst 1, 97, 0), (97, .goto 4, 100, 101), (100, .iconst 0, 101, 0), (101, .istore 6, 103, 0), (103, .iconst 0, 104, 0), (104, .istore 7, 106, 0), (106, .iload 7, 108, 0), (108, .iload_n 3, 109, 0), (109, .if_icmp .ge 52, 112, 161), (112, .iload 6, 114, 0), (114, .ifCond .eq 47, 117, 161), (117, .aload_n 0, 118, 0), (118, .getfield 109, 121, 745), (121, .bipush 60, 123, 0), (123, .iload 5, 125, 0), (125, .imul, 126, 0), (126, .aload_n 0, 127, 0), (127, .getfield 115, 130, 747), (130, .iload 5, 132, 0), (132, .iaload, 133, 0), (133, .iadd, 134, 0), (134, .iload 7, 136, 0), (136, .iadd, 137, 0), (137, .baload, 138, 0), (138, .aload_n 0, 139, 0), (139, .getfield 7, 142, 704), (142, .iload 7, 144, 0), (144, .baload, 145, 0), (145, .if_icmp .ne 7, 148, 152), (148, .iconst 1, 149, 0), (149, .goto 4, 152, 153), (152, .iconst 0, 153, 0), (153, .istore 6, 155, 0), (155, .iinc 7 1, 158, 0), (158, .goto (-52), 161, 106), (161, .iload 6, 163, 0), (163, .ifCond .eq 6, 166, 169), (166, .iload 4, 168, 0), (168, .ireturn, 169, 0), (169, .iinc 4 1, 172, 0), (172, .goto (-135), 175, 37), (175, .iconst (-1), 176, 0), (176, .ireturn, 177, 0)]
def cd177 : List Ins := [(0, .aload_n 0, 1, 0), (1, .iload_n 1, 2, 0), (2, .iload_n 2, 3, 0), (3, .invokevirtual 241, 6, 174), (6, .ifCond .eq 11, 9, 17), (9, .aload_n 0, 10, 0), (10, .iload_n 2, 11, 0), (11, .invokevirtual 250, 14, 156), (14, .goto 5, 17, 19), (17, .bipush (-2), 19, 0), (19, .ireturn, 20, 0)]
def cd178 : List Ins := [(0, .iload_n 1, 1, 0), (1, .iconst 0, 2, 0), (2, .aload_n 0, 3, 0), (3, .getfield 284, 6, 744), (6, .iconst 1, 7, 0), (7, .isub, 8, 0), (8, .invokestatic 137, 11, 118), (11, .ifCond .ne 6, 14, 17), (14, .bipush (-2), 16, 0), (16, .ireturn, 17, 0), (17, .aload_n 0, 18, 0), (18, .invokevirtual 187, 21, 147), (21, .iconst 0, 22, 0), (22, .istore_n 2, 23, 0), (23, .iconst 0, 24, 0), (24, .istore_n 3, 25, 0), (25, .iload_n 3, 26, 0), (26, .bipush 120, 28, 0), (28, .if_icmp .ge 135, 31, 163), (31, .aload_n 0, 32, 0), (32, .iload_n 1, 33, 0), (33, .iload_n 3, 34, 0), (34, .invokevirtual 241, 37, 174), (37, .ifCond .ne 6, 40, 43), (40, .goto 117, 43, 157), (43, .aload_n 0, 44, 0), (44, .iload_n 3, 45, 0), (45, .invokevirtual 250, 48, 156), (48, .istore 4, 50, 0), (50, .bipush 120, 52, 0), (52, .iload_n 1, 53, 0), (53, .imul, 54, 0), (54, .iload_n 3, 55, 0), (55, .iadd, 56, 0), (56, .istore 5, 58, 0), (58, .iload 4, 60, 0), (60, .iconst (-1), 61, 0), (61, .if_icmp .eq 23, 64, 84), (64, .aload_n 0, 65, 0), (65, .getfield 112, 68, 746), (68, .iload 5, 70, 0), (70, .iaload, 71, 0), (71, .aload_n 0, 72, 0), (72, .iload 4, 74, 0), (74, .invokevirtual 223, 77, 150), (77, .if_icmp .ne 7, 80, 84), (80, .iconst 1, 81, 0), (81, .goto 4, 84, 85), (84, .iconst 0, 85, 0), (85, .istore 6, 87, 0), (87, .iconst 0, 88, 0), (88, .istore 7, 90, 0), (90, .iload 7, 92, 0), (92, .aload_n 0, 93, 0), (93, .getfield 112, 96, 746), (96, .iload 5, 98, 0), (98, .iaload, 99, 0), (99, .if_icmp .ge 45, 102, 144), (102, .iload 6, 104, 0), (104, .ifCond .eq 40, 107, 144), (107, .aload_n 0, 108, 0), (108, .getfield 109, 111, 745), (111, .bipush 60, 113, 0), (113, .iload 5, 115, 0), (115, .imul, 116, 0), (116, .iload 7, 118, 0), (118, .iadd, 119, 0), (119, .baload, 120, 0), (120, .aload_n 0, 121, 0), (121, .iload 4, 123, 0), (123, .iload 7, 125, 0), (125, .invokevirtual 226, 128, 151), (128, .if_icmp .ne 7, 131, 135), (131, .iconst 1, 132, 0), (132, .goto 4, 135, 136), (135, .iconst 0, 136, 0), (136, .istore 6, 138, 0), (138, .iinc 7 1, 141, 0), (141, .goto (-51), 144, 90), (144, .iload_n 2, 145, 0), (145, .iload 6, 147, 0), (147, .ifCond .eq 7, 150, 154), (150, .iconst 0, 151, 0), (151, .goto 4, 154, 155), (154, .iconst 1, 155, 0), (155, .iadd, 156, 0), (156, .istore_n 2, 157, 0), (157, .iinc 3 1, 160, 0), (160, .goto (-135), 163, 25), (163, .iload_n 2, 164, 0), (164, .ireturn, 165, 0)]
def cd179 : List Ins := [(0, .iload_n 1, 1, 0), (1, .aload_n 0, 2, 0), (2, .getfield 287, 5, 749), (5, .if_icmp .ge 16, 8, 21), (8, .aload_n 0, 9, 0), (9, .getfield 7, 12, 704), (12, .iload_n 1, 13, 0), (13, .baload, 14, 0), (14, .sipush 255, 17, 0), (17, .iand, 18, 0), (18, .goto 4, 21, 22), (21, .iconst 0, 22, 0), (22, .ireturn, 23, 0)]
def cd180 : List Ins := [(0, .iload_n 0, 1, 0), (1, .invokestatic 145, 4, 121), (4, .ifCond .ne 33, 7, 37), (7, .iload_n 0, 8, 0), (8, .bipush 48, 10, 0), (10, .if_icmp .lt 9, 13, 19), (13, .iload_n 0, 14, 0), (14, .bipush 57, 16, 0), (16, .if_icmp .le 21, 19, 37), (19, .iload_n 0, 20, 0), (20, .bipush 46, 22, 0), (22, .if_icmp .eq 15, 25, 37), (25, .iload_n 0, 26, 0), (26, .bipush 40, 28, 0), (28, .if_icmp .eq 9, 31, 37), (31, .iload_n 0, 32, 0), (32, .bipush 41, 34, 0), (34, .if_icmp .ne 7, 37, 41), (37, .iconst 1, 38, 0), (38, .goto 4, 41, 42), (41, .iconst 0, 42, 0), (42, .ireturn, 43, 0)]
def cd181 : List Ins := [(0, .aload_n 0, 1, 0), (1, .getfield 16, 4, 707), (4, .iload_n 2, 5, 0), (5, .iaload, 6, 0), (6, .ifCond .ne 5, 9, 11), (9, .iconst 0, 10, 0), (10, .ireturn, 11, 0), (11, .iconst 0, 12, 0), (12, .istore_n 3, 13, 0), (13, .iload_n 3, 14, 0), (14, .aload_n 0, 15, 0), (15, .getfield 16, 18, 707), (18, .iload_n 2, 19, 0), (19, .iaload, 20, 0), (20, .if_icmp .ge 32, 23, 52), (23, .aload_n 0, 24, 0), (24, .iload_n 1, 25, 0), (25, .iload_n 3, 26, 0), (26, .iadd, 27, 0), (27, .invokevirtual 290, 30, 179), (30, .aload_n 0, 31, 0), (31, .getfield 13, 34, 706), (34, .bipush 10, 36, 0), (36, .iload_n 2, 37, 0), (37, .imul, 38, 0), (38, .iload_n 3, 39, 0), (39, .iadd, 40, 0), (40, .baload, 41, 0), (41, .if_icmp .eq 5, 44, 46), (44, .iconst 0, 45, 0), (45, .ireturn, 46, 0), (46, .iinc 3 1, 49, 0), (49, .goto (-36), 52, 13), (52, .aload_n 0, 53, 0), (53, .iload_n 1, 54, 0), (54, .aload_n 0, 55, 0), (55, .getfield 16, 58, 707), (58, .iload_n 2, 59, 0), (59, .iaload, 60, 0), (60, .iadd, 61, 0), (61, .invokevirtual 290, 64, 179), (64, .bipush 32, 66, 0), (66, .if_icmp .ne 27, 69, 93), (69, .aload_n 0, 70, 0), (70, .iload_n 1, 71, 0), (71, .aload_n 0, 72, 0), (72, .getfield 16, 75, 707), (75, .iload_n 2, 76, 0), (76, .iaload, 77, 0), (77, .iadd, 78, 0), (78, .iconst 1, 79, 0), (79, .iadd, 80, 0), (80, .invokevirtual 290, 83, 179), (83, .invokestatic 293, 86, 180), (86, .ifCond .eq 7, 89, 93), (89, .iconst 1, 90, 0), (90, .goto 4, 93, 94), (93, .iconst 0, 94, 0), (94, .ireturn, 95, 0)]
def cd182 : List Ins := [(0, .iload_n 3, 1, 0), (1, .iload 5, 3, 0), (3, .iload 4, 5, 0), (5, .isub, 6, 0), (6, .if_icmp .eq 5, 9, 11), (9, .iconst 0, 10, 0), (10, .ireturn, 11, 0), (11, .iconst 0, 12, 0), (12, .istore 6, 14, 0), (14, .iload 6, 16, 0), (16, .iload_n 3, 17, 0), (17, .if_icmp .ge 30, 20, 47), (20, .aload_n 1, 21, 0), (21, .iload_n 2, 22, 0), (22, .iload 6, 24, 0), (24, .iadd, 25, 0), (25, .baload, 26, 0), (26, .aload_n 0, 27, 0), (27, .getfield 7, 30, 704), (30, .iload 4, 32, 0), (32, .iload 6, 34, 0), (34, .iadd, 35, 0), (35, .baload, 36, 0), (36, .if_icmp .eq 5, 39, 41), (39, .iconst 0, 40, 0), (40, .ireturn, 41, 0), (41, .iinc 6 1, 44, 0), (44, .goto (-30), 47, 14), (47, .iconst 1, 48, 0), (48, .ireturn, 49, 0)]
def cd183 : List Ins := [(0, .aload_n 0, 1, 0), (1, .getfield 26, 4, 710), (4, .aload_n 0, 5, 0), (5, .getfield 29, 8, 712), (8, .iload_n 1, 9, 0), (9, .iaload, 10, 0), (10, .iaload, 11, 0), (11, .iconst 2, 12, 0), (12, .if_icmp .ge 24, 15, 36), (15, .aload_n 0, 16, 0), (16, .aload_n 0, 17, 0), (17, .getfield 71, 20, 729), (20, .bipush 60, 22, 0), (22, .iload_n 1, 23, 0), (23, .imul, 24, 0), (24, .aload_n 0, 25, 0), (25, .getfield 74, 28, 730), (28, .iload_n 1, 29, 0), (29, .iaload, 30, 0), (30, .iload_n 2, 31, 0), (31, .iload_n 3, 32, 0), (32, .invokevirtual 296, 35, 182), (35, .ireturn, 36, 0), (36, .iload_n 3, 37, 0), (37, .iload_n 2, 38, 0), (38, .isub, 39, 0), (39, .iconst 2, 40, 0), (40, .if_icmp .le 56, 43, 96), (43, .aload_n 0, 44, 0), (44, .iload_n 2, 45, 0), (45, .invokevirtual 290, 48, 179), (48, .bipush 40, 50, 0), (50, .if_icmp .ne 46, 53, 96), (53, .aload_n 0, 54, 0), (54, .iload_n 3, 55, 0), (55, .iconst 1, 56, 0), (56, .isub, 57, 0), (57, .invokevirtual 290, 60, 179), (60, .bipush 41, 62, 0), (62, .if_icmp .ne 34, 65, 96), (65, .aload_n 0, 66, 0), (66, .aload_n 0, 67, 0), (67, .getfield 71, 70, 729), (70, .bipush 60, 72, 0), (72, .iload_n 1, 73, 0), (73, .imul, 74, 0), (74, .aload_n 0, 75, 0), (75, .getfield 74, 78, 730), (78, .iload_n 1, 79, 0), (79, .iaload, 80, 0), (80, .iload_n 2, 81, 0), (81, .iconst 1, 82, 0), (82, .iadd, 83, 0), (83, .iload_n 3, 84, 0), (84, .iconst 1, 85, 0), (85, .isub, 86, 0), (86, .invokevirtual 296, 89, 182), (89, .ifCond .eq 7, 92, 96), (92, .iconst 1, 93, 0), (93, .goto 4, 96, 97), (96, .iconst 0, 97, 0), (97, .ireturn, 98, 0)]
def cd184 : List Ins := [(0, .aload_n 0, 1, 0), (1, .iconst 0, 2, 0), (2, .putfield 300, 5, 755), (5, .aload_n 0, 6, 0), (6, .iconst (-1), 7, 0), (7, .putfield 303, 10, 756), (10, .iconst 0, 11, 0), (11, .istore 5, 13, 0), (13, .iload 5, 15, 0), (15, .aload_n 0, 16, 0), (16, .getfield 190, 19, 724), (19, .if_icmp .ge 133, 22, 152), (22, .aload_n 0, 23, 0), (23, .getfield 53, 26, 722), (26, .iload 5, 28, 0), (28, .iaload, 29, 0), (29, .istore 6, 31, 0), (31, .aload_n 0, 32, 0), (32, .getfield 29, 35, 712), (35, .iload 6, 37, 0), (37, .iaload, 38, 0), (38, .iload_n 2, 39, 0), (39, .if_icmp .eq 6, 42, 45), (42, .goto 104, 45, 146), (45, .aload_n 0, 46, 0), (46, .aload_n 0, 47, 0), (47, .getfield 65, 50, 727), (50, .bipush 60, 52, 0), (52, .iload 6, 54, 0), (54, .imul, 55, 0), (55, .aload_n 0, 56, 0), (56, .getfield 68, 59, 728), (59, .iload 6, 61, 0), (61, .iaload, 62, 0), (62, .iload_n 3, 63, 0), (63, .iload 4, 65, 0), (65, .invokevirtual 296, 68, 182), (68, .ifCond .ne 40, 71, 108), (71, .aload_n 0, 72, 0), (72, .getfield 62, 75, 726), (75, .iload 6, 77, 0), (77, .iaload, 78, 0), (78, .ifCond .lt 34, 81, 112), (81, .aload_n 0, 82, 0), (82, .iload_n 1, 83, 0), (83, .aload_n 0, 84, 0), (84, .getfield 62, 87, 726), (87, .iload 6, 89, 0), (89, .iaload, 90, 0), (90, .invokevirtual 183, 93, 129), (93, .ifCond .eq 19, 96, 112), (96, .aload_n 0, 97, 0), (97, .iload 6, 99, 0), (99, .iload_n 3, 100, 0), (100, .iload 4, 102, 0), (102, .invokevirtual 306, 105, 183), (105, .ifCond .eq 7, 108, 112), (108, .iconst 1, 109, 0), (109, .goto 4, 112, 113), (112, .iconst 0, 113, 0), (113, .istore 7, 115, 0), (115, .iload 7, 117, 0), (117, .ifCond .ne 6, 120, 123), (120, .goto 26, 123, 146), (123, .aload_n 0, 124, 0), (124, .getfield 300, 127, 755), (127, .ifCond .ne 9, 130, 136), (130, .aload_n 0, 131, 0), (131, .iload 6, 133, 0), (133, .putfield 303, 136, 756), (136, .aload_n 0, 137, 0), (137, .dup, 138, 0), (138, .getfield 300, 141, 755), (141, .iconst 1, 142, 0), (142, .iadd, 143, 0), (143, .putfield 300, 146, 755), (146, .iinc 5 1, 149, 0), (149, .goto (-136), 152, 13), (152, .return_, 153, 0)]
def cd185 : List Ins := [(0, .aload_n 0, 1, 0), (1, .aload_n 0, 2, 0), (2, .getfield 133, 5, 705), (5, .putfield 287, 8, 749), (8, .aload_n 0, 9, 0), (9, .iconst 0, 10, 0), (10, .putfield 133, 13, 705), (13, .aload_n 0, 14, 0), (14, .iload_n 1, 15, 0), (15, .invokevirtual 177, 18, 125), (18, .ifCond .ne 6, 21, 24), (21, .bipush (-2), 23, 0), (23, .ireturn, 24, 0), (24, .aload_n 0, 25, 0), (25, .invokevirtual 187, 28, 147), (28, .aload_n 0, 29, 0), (29, .iconst 0, 30, 0), (30, .putfield 309, 33, 748), (33, .iconst 0, 34, 0), (34, .istore_n 2, 35, 0), (35, .iconst 0, 36, 0), (36, .istore_n 3, 37, 0), (37, .iload_n 3, 38, 0), (38, .aload_n 0, 39, 0), (39, .getfield 287, 42, 749), (42, .if_icmp .ge 268, 45, 310), (45, .iconst (-1), 46, 0), (46, .istore 4, 48, 0), (48, .iload_n 3, 49, 0), (49, .ifCond .eq 16, 52, 65), (52, .aload_n 0, 53, 0), (53, .iload_n 3, 54, 0), (54, .iconst 1, 55, 0), (55, .isub, 56, 0), (56, .invokevirtual 290, 59, 179), (59, .invokestatic 145, 62, 121), (62, .ifCond .ne 56, 65, 118), (65, .iconst 0, 66, 0), (66, .istore 5, 68, 0), (68, .iload 5, 70, 0), (70, .bipush 6, 72, 0), (72, .if_icmp .ge 46, 75, 118), (75, .aload_n 0, 76, 0), (76, .iload_n 3, 77, 0), (77, .iload 5, 79, 0), (79, .invokevirtual 312, 82, 181), (82, .ifCond .eq 30, 85, 112), (85, .iload 4, 87, 0), (87, .iconst (-1), 88, 0), (88, .if_icmp .eq 20, 91, 108), (91, .aload_n 0, 92, 0), (92, .getfield 16, 95, 707), (95, .iload 5, 97, 0), (97, .iaload, 98, 0), (98, .aload_n 0, 99, 0), (99, .getfield 16, 102, 707), (102, .iload 4, 104, 0), (104, .iaload, 105, 0), (105, .if_icmp .le 7, 108, 112), (108, .iload 5, 110, 0), (110, .istore 4, 112, 0), (112, .iinc 5 1, 115, 0), (115, .goto (-47), 118, 68), (118, .iload 4, 120, 0), (120, .iconst (-1), 121, 0), (121, .if_icmp .ne 9, 124, 130), (124, .iinc 3 1, 127, 0), (127, .goto (-90), 130, 37), (130, .iload_n 3, 131, 0), (131, .aload_n 0, 132, 0), (132, .getfield 16, 135, 707), (135, .iload 4, 137, 0), (137, .iaload, 138, 0), (138, .iadd, 139, 0), (139, .iconst 1, 140, 0), (140, .iadd, 141, 0), (141, .istore 5, 143, 0), (143, .iload 5, 145, 0), (145, .istore 6, 147, 0), (147, .aload_n 0, 148, 0), (148, .iload 6, 150, 0), (150, .invokevirtual 290, 153, 179), (153, .invokestatic 293, 156, 180), (156, .ifCond .eq 9, 159, 165), (159, .iinc 6 1, 162, 0), (162, .goto (-15), 165, 147), (165, .iload 6, 167, 0), (167, .istore 7, 169, 0), (169, .aload_n 0, 170, 0), (170, .iload_n 1, 171, 0), (171, .iload 4, 173, 0), (173, .iload 5, 175, 0), (175, .iload 7, 177, 0), (177, .invokevirtual 315, 180, 184), (180, .aload_n 0, 181, 0), (181, .getfield 300, 184, 755), (184, .ifCond .ne 29, 187, 213), (187, .iload 7, 189, 0), (189, .iload 5, 191, 0), (191, .iconst 1, 192, 0), (192, .iadd, 193, 0), (193, .if_icmp .le 20, 196, 213), (196, .iinc 7 (-1), 199, 0), (199, .aload_n 0, 200, 0), (200, .iload_n 1, 201, 0), (201, .iload 4, 203, 0), (203, .iload 5, 205, 0), (205, .iload 7, 207, 0), (207, .invokevirtual 315, 210, 184), (210, .goto (-30), 213, 180), (213, .aload_n 0, 214, 0), (214, .getfield 300, 217, 755), (217, .ifCond .ne 7, 220, 224), (220, .iload 6, 222, 0), (222, .istore 7, 224, 0), (224, .aload_n 0, 225, 0), (225, .getfield 309, 228, 748), (228, .bipush 40, 230, 0), (230, .if_icmp .ge 71, 233, 301), (233, .aload_n 0, 234, 0), (234, .getfield 118, 237, 750), (237, .aload_n 0, 238, 0), (238, .getfield 309, 241, 748), (241, .iload_n 3, 242, 0), (242, .iastore, 243, 0), (243, .aload_n 0, 244, 0), (244, .getfield 121, 247, 751), (247, .aload_n 0, 248, 0), (248, .getfield 309, 251, 748), (251, .iload 7, 253, 0), (253, .iastore, 254, 0), (254, .aload_n 0, 255, 0), (255, .getfield 124, 258, 752), (258, .aload_n 0, 259, 0), (259, .getfield 309, 262, 748), (262, .iload 4, 264, 0), (264, .iastore, 265, 0), (265, .aload_n 0, 266, 0), (266, .getfield 127, 269, 753), (269, .aload_n 0, 270, 0), (270, .getfield 309, 273, 748), (273, .aload_n 0, 274, 0), (274, .getfield 300, 277, 755), (277, .iastore, 278, 0), (278, .aload_n 0, 279, 0), (279, .getfield 130, 282, 754), (282, .aload_n 0, 283, 0), (283, .getfield 309, 286, 748), (286, .aload_n 0, 287, 0), (287, .getfield 303, 290, 756), (290, .iastore, 291, 0), (291, .aload_n 0, 292, 0), (292, .dup, 293, 0), (293, .getfield 309, 296, 748), (296, .iconst 1, 297, 0), (297, .iadd, 298, 0), (298, .putfield 309, 301, 748), (301, .iinc 2 1, 304, 0), (304, .iload 7, 306, 0), (306, .istore_n 3, 307, 0), (307, .goto (-270), 310, 37), (310, .iload_n 2, 311, 0), (311, .ireturn, 312, 0)]
def cd186 : List Ins := [(0, .iload_n 1, 1, 0), (1, .iconst 0, 2, 0), (2, .aload_n 0, 3, 0), (3, .getfield 309, 6, 748), (6, .iconst 1, 7, 0), (7, .isub, 8, 0), (8, .invokestatic 137, 11, 118), (11, .ifCond .ne 6, 14, 17), (14, .bipush (-10), 16, 0), (16, .ireturn, 17, 0), (17, .iload_n 2, 18, 0), (18, .ifCond .ne 12, 21, 30), (21, .aload_n 0, 22, 0), (22, .getfield 118, 25, 750), (25, .iload_n 1, 26, 0), (26, .iaload, 27, 0), (27, .goto 61, 30, 88), (30, .iload_n 2, 31, 0), (31, .iconst 1, 32, 0), (32, .if_icmp .ne 12, 35, 44), (35, .aload_n 0, 36, 0), (36, .getfield 121, 39, 751), (39, .iload_n 1, 40, 0), (40, .iaload, 41, 0), (41, .goto 47, 44, 88), (44, .iload_n 2, 45, 0), (45, .iconst 2, 46, 0), (46, .if_icmp .ne 12, 49, 58), (49, .aload_n 0, 50, 0), (50, .getfield 124, 53, 752), (53, .iload_n 1, 54, 0), (54, .iaload, 55, 0), (55, .goto 33, 58, 88), (58, .iload_n 2, 59, 0), (59, .iconst 3, 60, 0), (60, .if_icmp .ne 12, 63, 72), (63, .aload_n 0, 64, 0), (64, .getfield 127, 67, 753), (67, .iload_n 1, 68, 0), (68, .iaload, 69, 0), (69, .goto 19, 72, 88), (72, .iload_n 2, 73, 0), (73, .iconst 4, 74, 0), (74, .if_icmp .ne 12, 77, 86), (77, .aload_n 0, 78, 0), (78, .getfield 130, 81, 754), (81, .iload_n 1, 82, 0), (82, .iaload, 83, 0), (83, .goto 5, 86, 88), (86, .bipush (-10), 88, 0), (88, .ireturn, 89, 0)]
def cd187 : List Ins := [(0, .iload_n 1, 1, 0), (1, .tableswitch 73 0 5 #[39, 44, 53, 58, 63, 68], 40, 0), (40, .aload_n 0, 41, 0), (41, .getfield 152, 44, 711), (44, .ireturn, 45, 0), (45, .aload_n 0, 46, 0), (46, .invokevirtual 187, 49, 147), (49, .aload_n 0, 50, 0), (50, .getfield 190, 53, 724), (53, .ireturn, 54, 0), (54, .aload_n 0, 55, 0), (55, .getfield 235, 58, 733), (58, .ireturn, 59, 0), (59, .aload_n 0, 60, 0), (60, .getfield 284, 63, 744), (63, .ireturn, 64, 0), (64, .aload_n 0, 65, 0), (65, .getfield 170, 68, 716), (68, .ireturn, 69, 0), (69, .aload_n 0, 70, 0), (70, .getfield 133, 73, 705), (73, .ireturn, 74, 0), (74, .iload_n 1, 75, 0), (75, .bipush 10, 77, 0), (77, .bipush 15, 79, 0), (79, .invokestatic 137, 82, 118), (82, .ifCond .eq 13, 85, 95), (85, .aload_n 0, 86, 0), (86, .getfield 20, 89, 708), (89, .iload_n 1, 90, 0), (90, .bipush 10, 92, 0), (92, .isub, 93, 0), (93, .iaload, 94, 0), (94, .ireturn, 95, 0), (95, .iload_n 1, 96, 0), (96, .bipush 20, 98, 0), (98, .bipush 25, 100, 0), (100, .invokestatic 137, 103, 118), (103, .ifCond .eq 13, 106, 116), (106, .aload_n 0, 107, 0), (107, .getfield 23, 110, 709), (110, .iload_n 1, 111, 0), (111, .bipush 20, 113, 0), (113, .isub, 114, 0), (114, .iaload, 115, 0), (115, .ireturn, 116, 0), (116, .iload_n 1, 117, 0), (117, .bipush 30, 119, 0), (119, .bipush 35, 121, 0), (121, .invokestatic 137, 124, 118), (124, .ifCond .eq 13, 127, 137), (127, .aload_n 0, 128, 0), (128, .getfield 26, 131, 710), (131, .iload_n 1, 132, 0), (132, .bipush 30, 134, 0), (134, .isub, 135, 0), (135, .iaload, 136, 0), (136, .ireturn, 137, 0), (137, .iload_n 1, 138, 0), (138, .bipush 40, 140, 0), (140, .bipush 45, 142, 0), (142, .invokestatic 137, 145, 118), (145, .ifCond .eq 15, 148, 160), (148, .aload_n 0, 149, 0), (149, .getfield 16, 152, 707), (152, .iload_n 1, 153, 0), (153, .bipush 40, 155, 0), (155, .isub, 156, 0), (156, .iaload, 157, 0), (157, .goto 4, 160, 161), (160, .iconst (-1), 161, 0), (161, .ireturn, 162, 0)]
def cd188 : List Ins := [(0, .iload_n 0, 1, 0), (1, .iload_n 1, 2, 0), (2, .if_icmp .lt 7, 5, 9), (5, .iload_n 0, 6, 0), (6, .goto 4, 9, 10), (9, .iload_n 1, 10, 0), (10, .ireturn, 11, 0)]
def cd189 : List Ins := [(0, .iload_n 0, 1, 0), (1, .iload_n 1, 2, 0), (2, .if_icmp .gt 7, 5, 9), (5, .iload_n 0, 6, 0), (6, .goto 4, 9, 10), (9, .iload_n 1, 10, 0), (10, .ireturn, 11, 0)]
def cd190 : List Ins := [(0, .iconst 0, 1, 0), (1, .istore_n 2, 2, 0), (2, .aload_n 0, 3, 0), (3, .arraylength, 4, 0), (4, .istore_n 3, 5, 0), (5, .iload_n 2, 6, 0), (6, .iload_n 3, 7, 0), (7, .if_icmp .ge 13, 10, 20), (10, .aload_n 0, 11, 0), (11, .iload_n 2, 12, 0), (12, .iload_n 1, 13, 0), (13, .iastore, 14, 0), (14, .iinc 2 1, 17, 0), (17, .goto (-12), 20, 5), (20, .return_, 21, 0)]
def cd191 : List Ins := [(0, .new 7, 3, 10), (3, .dup, 4, 0), (4, .invokespecial 9, 7, 80), (7, .astore_n 1, 8, 0), (8, .new 10, 11, 11), (11, .dup, 12, 0), (12, .invokespecial 12, 15, 117), (15, .astore_n 2, 16, 0), (16, .iconst 0, 17, 0), (17, .istore_n 3, 18, 0), (18, .iload_n 3, 19, 0), (19, .aload_n 0, 20, 0), (20, .arraylength, 21, 0), (21, .bipush 6, 23, 0), (23, .isub, 24, 0), (24, .if_icmp .gt 952, 27, 976), (27, .aload_n 0, 28, 0), (28, .iload_n 3, 29, 0), (29, .iaload, 30, 0), (30, .bipush 31, 32, 0), (32, .iand, 33, 0), (33, .tableswitch 937 0 25 #[119, 182, 205, 228, 281, 324, 367, 390, 423, 436, 469, 492, 525, 538, 581, 634, 677, 710, 743, 756, 769, 802, 835, 858, 881, 914], 152, 0), (152, .aload_n 1, 153, 0), (153, .aload_n 0, 154, 0), (154, .iload_n 3, 155, 0), (155, .iconst 1, 156, 0), (156, .iadd, 157, 0), (157, .iaload, 158, 0), (158, .aload_n 0, 159, 0), (159, .iload_n 3, 160, 0), (160, .iconst 2, 161, 0), (161, .iadd, 162, 0), (162, .iaload, 163, 0), (163, .aload_n 0, 164, 0), (164, .iload_n 3, 165, 0), (165, .iconst 3, 166, 0), (166, .iadd, 167, 0), (167, .iaload, 168, 0), (168, .aload_n 0, 169, 0), (169, .iload_n 3, 170, 0), (170, .iconst 4, 171, 0), (171, .iadd, 172, 0), (172, .iaload, 173, 0), (173, .aload_n 0, 174, 0), (174, .iload_n 3, 175, 0), (175, .iconst 5, 176, 0), (176, .iadd, 177, 0), (177, .iaload, 178, 0), (178, .invokevirtual 13, 181, 81), (181, .aload_n 2, 182, 0), (182, .aload_n 0, 183, 0), (183, .iload_n 3, 184, 0), (184, .iconst 1, 185, 0), (185, .iadd, 186, 0), (186, .iaload, 187, 0), (187, .aload_n 0, 188, 0), (188, .iload_n 3, 189, 0), (189, .iconst 2, 190, 0), (190, .iadd, 191, 0), (191, .iaload, 192, 0), (192, .aload_n 0, 193, 0), (193, .iload_n 3, 194, 0), (194, .iconst 3, 195, 0), (195, .iadd, 196, 0), (196, .iaload, 197, 0), (197, .aload_n 0, 198, 0), (198, .iload_n 3, 199, 0), (199, .iconst 4, 200, 0), (200, .iadd, 201, 0), (201, .iaload, 202, 0), (202, .aload_n 0, 203, 0), (203, .iload_n 3, 204, 0), (204, .iconst 5, 205, 0), (205, .iadd, 206, 0), (206, .iaload, 207, 0), (207, .invokevirtual 17, 210, 119), (210, .if_icmp .eq 760, 213, 970), (213, .iconst 0, 214, 0), (214, .ireturn, 215, 0), (215, .aload_n 1, 216, 0), (216, .aload_n 0, 217, 0), (217, .iload_n 3, 218, 0), (218, .iconst 1, 219, 0), (219, .iadd, 220, 0), (220, .iaload, 221, 0), (221, .invokevirtual 18, 224, 82), (224, .aload_n 2, 225, 0), (225, .aload_n 0, 226, 0), (226, .iload_n 3, 227, 0), (227, .iconst 1, 228, 0), (228, .iadd, 229, 0), (229, .iaload, 230, 0), (230, .invokevirtual 22, 233, 120), (233, .if_icmp .eq 737, 236, 970), (236, .iconst 0, 237, 0), (237, .ireturn, 238, 0), (238, .aload_n 1, 239, 0), (239, .aload_n 0, 240, 0), (240, .iload_n 3, 241, 0), (241, .iconst 1, 242, 0), (242, .iadd, 243, 0), (243, .iaload, 244, 0), (244, .invokevirtual 23, 247, 83), (247, .aload_n 2, 248, 0), (248, .aload_n 0, 249, 0), (249, .iload_n 3, 250, 0), (250, .iconst 1, 251, 0), (251, .iadd, 252, 0), (252, .iaload, 253, 0), (253, .invokevirtual 26, 256, 123), (256, .if_icmp .eq 714, 259, 970), (259, .iconst 0, 260, 0), (260, .ireturn, 261, 0), (261, .aload_n 1, 262, 0), (262, .aload_n 0, 263, 0), (263, .iload_n 3, 264, 0), (264, .iconst 1, 265, 0), (265, .iadd, 266, 0), (266, .iaload, 267, 0), (267, .aload_n 0, 268, 0), (268, .iload_n 3, 269, 0), (269, .iconst 2, 270, 0), (270, .iadd, 271, 0), (271, .iaload, 272, 0), (272, .aload_n 0, 273, 0), (273, .iload_n 3, 274, 0), (274, .iconst 3, 275, 0), (275, .iadd, 276, 0), (276, .iaload, 277, 0), (277, .aload_n 0, 278, 0), (278, .iload_n 3, 279, 0), (279, .iconst 4, 280, 0), (280, .iadd, 281, 0), (281, .iaload, 282, 0), (282, .invokevirtual 27, 285, 84), (285, .aload_n 2, 286, 0), (286, .aload_n 0, 287, 0), (287, .iload_n 3, 288, 0), (288, .iconst 1, 289, 0), (289, .iadd, 290, 0), (290, .iaload, 291, 0), (291, .aload_n 0, 292, 0), (292, .iload_n 3, 293, 0), (293, .iconst 2, 294, 0), (294, .iadd, 295, 0), (295, .iaload, 296, 0), (296, .aload_n 0, 297, 0), (297, .iload_n 3, 298, 0), (298, .iconst 3, 299, 0), (299, .iadd, 300, 0), (300, .iaload, 301, 0), (301, .aload_n 0, 302, 0), (302, .iload_n 3, 303, 0), (303, .iconst 4, 304, 0), (304, .iadd, 305, 0), (305, .iaload, 306, 0), (306, .invokevirtual 31, 309, 124), (309, .if_icmp .eq 661, 312, 970), (312, .iconst 0, 313, 0), (313, .ireturn, 314, 0), (314, .aload_n 1, 315, 0), (315, .aload_n 0, 316, 0), (316, .iload_n 3, 317, 0), (317, .iconst 1, 318, 0), (318, .iadd, 319, 0), (319, .iaload, 320, 0), (320, .aload_n 0, 321, 0), (321, .iload_n 3, 322, 0), (322, .iconst 2, 323, 0), (323, .iadd, 324, 0), (324, .iaload, 325, 0), (325, .aload_n 0, 326, 0), (326, .iload_n 3, 327, 0), (327, .iconst 3, 328, 0), (328, .iadd, 329, 0), (329, .iaload, 330, 0), (330, .invokevirtual 32, 333, 85), (333, .aload_n 2, 334, 0), (334, .aload_n 0, 335, 0), (335, .iload_n 3, 336, 0), (336, .iconst 1, 337, 0), (337, .iadd, 338, 0), (338, .iaload, 339, 0), (339, .aload_n 0, 340, 0), (340, .iload_n 3, 341, 0), (341, .iconst 2, 342, 0), (342, .iadd, 343, 0), (343, .iaload, 344, 0), (344, .aload_n 0, 345, 0), (345, .iload_n 3, 346, 0), (346, .iconst 3, 347, 0), (347, .iadd, 348, 0), (348, .iaload, 349, 0), (349, .invokevirtual 36, 352, 133), (352, .if_icmp .eq 618, 355, 970), (355, .iconst 0, 356, 0), (356, .ireturn, 357, 0), (357, .aload_n 1, 358, 0), (358, .aload_n 0, 359, 0), (359, .iload_n 3, 360, 0), (360, .iconst 1, 361, 0), (361, .iadd, 362, 0), (362, .iaload, 363, 0), (363, .aload_n 0, 364, 0), (364, .iload_n 3, 365, 0), (365, .iconst 2, 366, 0), (366, .iadd, 367, 0), (367, .iaload, 368, 0), (368, .aload_n 0, 369, 0), (369, .iload_n 3, 370, 0), (370, .iconst 3, 371, 0), (371, .iadd, 372, 0), (372, .iaload, 373, 0), (373, .invokevirtual 37, 376, 86), (376, .aload_n 2, 377, 0), (377, .aload_n 0, 378, 0), (378, .iload_n 3, 379, 0), (379, .iconst 1, 380, 0), (380, .iadd, 381, 0), (381, .iaload, 382, 0), (382, .aload_n 0, 383, 0), (383, .iload_n 3, 384, 0), (384, .iconst 2, 385, 0), (385, .iadd, 386, 0), (386, .iaload, 387, 0), (387, .aload_n 0, 388, 0), (388, .iload_n 3, 389, 0), (389, .iconst 3, 390, 0), (390, .iadd, 391, 0), (391, .iaload, 392, 0), (392, .invokevirtual 40, 395, 134), (395, .if_icmp .eq 575, 398, 970), (398, .iconst 0, 399, 0), (399, .ireturn, 400, 0), (400, .aload_n 1, 401, 0), (401, .aload_n 0, 402, 0), (402, .iload_n 3, 403, 0), (403, .iconst 1, 404, 0), (404, .iadd, 405, 0), (405, .iaload, 406, 0), (406, .invokevirtual 41, 409, 87), (409, .aload_n 2, 410, 0), (410, .aload_n 0, 411, 0), (411, .iload_n 3, 412, 0), (412, .iconst 1, 413, 0), (413, .iadd, 414, 0), (414, .iaload, 415, 0), (415, .invokevirtual 44, 418, 135), (418, .if_icmp .eq 552, 421, 970), (421, .iconst 0, 422, 0), (422, .ireturn, 423, 0), (423, .aload_n 1, 424, 0), (424, .aload_n 0, 425, 0), (425, .iload_n 3, 426, 0), (426, .iconst 1, 427, 0), (427, .iadd, 428, 0), (428, .iaload, 429, 0), (429, .aload_n 0, 430, 0), (430, .iload_n 3, 431, 0), (431, .iconst 2, 432, 0), (432, .iadd, 433, 0), (433, .iaload, 434, 0), (434, .invokevirtual 45, 437, 88), (437, .aload_n 2, 438, 0), (438, .aload_n 0, 439, 0), (439, .iload_n 3, 440, 0), (440, .iconst 1, 441, 0), (441, .iadd, 442, 0), (442, .iaload, 443, 0), (443, .aload_n 0, 444, 0), (444, .iload_n 3, 445, 0), (445, .iconst 2, 446, 0), (446, .iadd, 447, 0), (447, .iaload, 448, 0), (448, .invokevirtual 49, 451, 136), (451, .if_icmp .eq 519, 454, 970), (454, .iconst 0, 455, 0), (455, .ireturn, 456, 0), (456, .aload_n 1, 457, 0), (457, .invokevirtual 50, 460, 89), (460, .aload_n 2, 461, 0), (461, .invokevirtual 54, 464, 137), (464, .if_icmp .eq 506, 467, 970), (467, .iconst 0, 468, 0), (468, .ireturn, 469, 0), (469, .aload_n 1, 470, 0), (470, .aload_n 0, 471, 0), (471, .iload_n 3, 472, 0), (472, .iconst 1, 473, 0), (473, .iadd, 474, 0), (474, .iaload, 475, 0), (475, .aload_n 0, 476, 0), (476, .iload_n 3, 477, 0), (477, .iconst 2, 478, 0), (478, .iadd, 479, 0), (479, .iaload, 480, 0), (480, .invokevirtual 55, 483, 90), (483, .aload_n 2, 484, 0), (484, .aload_n 0, 485, 0), (485, .iload_n 3, 486, 0), (486, .iconst 1, 487, 0), (487, .iadd, 488, 0), (488, .iaload, 489, 0), (489, .aload_n 0, 490, 0), (490, .iload_n 3, 491, 0), (491, .iconst 2, 492, 0), (492, .iadd, 493, 0), (493, .iaload, 494, 0), (494, .invokevirtual 58, 497, 148), (497, .if_icmp .eq 473, 500, 970), (500, .iconst 0, 501, 0), (501, .ireturn, 502, 0), (502, .aload_n 1, 503, 0), (503, .aload_n 0, 504, 0), (504, .iload_n 3, 505, 0), (505, .iconst 1, 506, 0), (506, .iadd, 507, 0), (507, .iaload, 508, 0), (508, .invokevirtual 59, 511, 91), (511, .aload_n 2, 512, 0), (512, .aload_n 0, 513, 0), (513, .iload_n 3, 514, 0), (514, .iconst 1, 515, 0), (515, .iadd, 516, 0), (516, .iaload, 517, 0), (517, .invokevirtual 62, 520, 149), (520, .if_icmp .eq 450, 523, 970), (523, .iconst 0, 524, 0), (524, .ireturn, 525, 0), (525, .aload_n 1, 526, 0), (526, .aload_n 0, 527, 0), (527, .iload_n 3, 528, 0), (528, .iconst 1, 529, 0), (529, .iadd, 530, 0), (530, .iaload, 531, 0), (531, .aload_n 0, 532, 0), (532, .iload_n 3, 533, 0), (533, .iconst 2, 534, 0), (534, .iadd, 535, 0), (535, .iaload, 536, 0), (536, .invokevirtual 63, 539, 92), (539, .aload_n 2, 540, 0), (540, .aload_n 0, 541, 0), (541, .iload_n 3, 542, 0), (542, .iconst 1, 543, 0), (543, .iadd, 544, 0), (544, .iaload, 545, 0), (545, .aload_n 0, 546, 0), (546, .iload_n 3, 547, 0), (547, .iconst 2, 548, 0), (548, .iadd, 549, 0), (549, .iaload, 550, 0), (550, .invokevirtual 66, 553, 152), (553, .if_icmp .eq 417, 556, 970), (556, .iconst 0, 557, 0), (557, .ireturn, 558, 0), (558, .aload_n 1, 559, 0), (559, .invokevirtual 67, 562, 93), (562, .aload_n 2, 563, 0), (563, .invokevirtual 70, 566, 154), (566, .if_icmp .eq 404, 569, 970), (569, .iconst 0, 570, 0), (570, .ireturn, 571, 0), (571, .aload_n 1, 572, 0), (572, .aload_n 0, 573, 0), (573, .iload_n 3, 574, 0), (574, .iconst 1, 575, 0), (575, .iadd, 576, 0), (576, .iaload, 577, 0), (577, .aload_n 0, 578, 0), (578, .iload_n 3, 579, 0), (579, .iconst 2, 580, 0), (580, .iadd, 581, 0), (581, .iaload, 582, 0), (582, .aload_n 0, 583, 0), (583, .iload_n 3, 584, 0), (584, .iconst 3, 585, 0), (585, .iadd, 586, 0), (586, .iaload, 587, 0), (587, .invokevirtual 71, 590, 94), (590, .aload_n 2, 591, 0), (591, .aload_n 0, 592, 0), (592, .iload_n 3, 593, 0), (593, .iconst 1, 594, 0), (594, .iadd, 595, 0), (595, .iaload, 596, 0), (596, .aload_n 0, 597, 0), (597, .iload_n 3, 598, 0), (598, .iconst 2, 599, 0), (599, .iadd, 600, 0), (600, .iaload, 601, 0), (601, .aload_n 0, 602, 0), (602, .iload_n 3, 603, 0), (603, .iconst 3, 604, 0), (604, .iadd, 605, 0), (605, .iaload, 606, 0), (606, .invokevirtual 74, 609, 158), (609, .if_icmp .eq 361, 612, 970), (612, .iconst 0, 613, 0), (613, .ireturn, 614, 0), (614, .aload_n 1, 615, 0), (615, .aload_n 0, 616, 0), (616, .iload_n 3, 617, 0), (617, .iconst 1, 618, 0), (618, .iadd, 619, 0), (619, .iaload, 620, 0), (620, .aload_n 0, 621, 0), (621, .iload_n 3, 622, 0), (622, .iconst 2, 623, 0), (623, .iadd, 624, 0), (624, .iaload, 625, 0), (625, .aload_n 0, 626, 0), (626, .iload_n 3, 627, 0), (627, .iconst 3, 628, 0), (628, .iadd, 629, 0), (629, .iaload, 630, 0), (630, .aload_n 0, 631, 0), (631, .iload_n 3, 632, 0), (632, .iconst 4, 633, 0), (633, .iadd, 634, 0), (634, .iaload, 635, 0), (635, .invokevirtual 75, 638, 95), (638, .aload_n 2, 639, 0), (639, .aload_n 0, 640, 0), (640, .iload_n 3, 641, 0), (641, .iconst 1, 642, 0), (642, .iadd, 643, 0), (643, .iaload, 644, 0), (644, .aload_n 0, 645, 0), (645, .iload_n 3, 646, 0), (646, .iconst 2, 647, 0), (647, .iadd, 648, 0), (648, .iaload, 649, 0), (649, .aload_n 0, 650, 0), (650, .iload_n 3, 651, 0), (651, .iconst 3, 652, 0), (652, .iadd, 653, 0), (653, .iaload, 654, 0), (654, .aload_n 0, 655, 0), (655, .iload_n 3, 656, 0), (656, .iconst 4, 657, 0), (657, .iadd, 658, 0), (658, .iaload, 659, 0), (659, .invokevirtual 78, 662, 159), (662, .if_icmp .eq 308, 665, 970), (665, .iconst 0, 666, 0), (666, .ireturn, 667, 0), (667, .aload_n 1, 668, 0), (668, .aload_n 0, 669, 0), (669, .iload_n 3, 670, 0), (670, .iconst 1, 671, 0), (671, .iadd, 672, 0), (672, .iaload, 673, 0), (673, .aload_n 0, 674, 0), (674, .iload_n 3, 675, 0), (675, .iconst 2, 676, 0), (676, .iadd, 677, 0), (677, .iaload, 678, 0), (678, .aload_n 0, 679, 0), (679, .iload_n 3, 680, 0), (680, .iconst 3, 681, 0), (681, .iadd, 682, 0), (682, .iaload, 683, 0), (683, .invokevirtual 79, 686, 96), (686, .aload_n 2, 687, 0), (687, .aload_n 0, 688, 0), (688, .iload_n 3, 689, 0), (689, .iconst 1, 690, 0), (690, .iadd, 691, 0), (691, .iaload, 692, 0), (692, .aload_n 0, 693, 0), (693, .iload_n 3, 694, 0), (694, .iconst 2, 695, 0), (695, .iadd, 696, 0), (696, .iaload, 697, 0), (697, .aload_n 0, 698, 0), (698, .iload_n 3, 699, 0), (699, .iconst 3, 700, 0), (700, .iadd, 701, 0), (701, .iaload, 702, 0), (702, .invokevirtual 82, 705, 160), (705, .if_icmp .eq 265, 708, 970), (708, .iconst 0, 709, 0), (709, .ireturn, 710, 0), (710, .aload_n 1, 711, 0), (711, .aload_n 0, 712, 0), (712, .iload_n 3, 713, 0), (713, .iconst 1, 714, 0), (714, .iadd, 715, 0), (715, .iaload, 716, 0), (716, .aload_n 0, 717, 0), (717, .iload_n 3, 718, 0), (718, .iconst 2, 719, 0), (719, .iadd, 720, 0), (720, .iaload, 721, 0), (721, .invokevirtual 83, 724, 97), (724, .aload_n 2, 725, 0), (725, .aload_n 0, 726, 0), (726, .iload_n 3, 727, 0), (727, .iconst 1, 728, 0), (728, .iadd, 729, 0), (729, .iaload, 730, 0), (730, .aload_n 0, 731, 0), (731, .iload_n 3, 732, 0), (732, .iconst 2, 733, 0), (733, .iadd, 734, 0), (734, .iaload, 735, 0), (735, .invokevirtual 86, 738, 171), (738, .if_icmp .eq 232, 741, 970), (741, .iconst 0, 742, 0), (742, .ireturn, 743, 0), (743, .aload_n 1, 744, 0), (744, .aload_n 0, 745, 0), (745, .iload_n 3, 746, 0), (746, .iconst 1, 747, 0), (747, .iadd, 748, 0), (748, .iaload, 749, 0), (749, .aload_n 0, 750, 0), (750, .iload_n 3, 751, 0), (751, .iconst 2, 752, 0), (752, .iadd, 753, 0), (753, .iaload, 754, 0), (754, .invokevirtual 87, 757, 98), (757, .aload_n 2, 758, 0), (758, .aload_n 0, 759, 0), (759, .iload_n 3, 760, 0), (760, .iconst 1, 761, 0), (761, .iadd, 762, 0), (762, .iaload, 763, 0), (763, .aload_n 0, 764, 0), (764, .iload_n 3, 765, 0), (765, .iconst 2, 766, 0), (766, .iadd, 767, 0), (767, .iaload, 768, 0), (768, .invokevirtual 90, 771, 172), (771, .if_icmp .eq 199, 774, 970), (774, .iconst 0, 775, 0), (775, .ireturn, 776, 0), (776, .aload_n 1, 777, 0), (777, .invokevirtual 91, 780, 99), (780, .aload_n 2, 781, 0), (781, .invokevirtual 94, 784, 173), (784, .if_icmp .eq 186, 787, 970), (787, .iconst 0, 788, 0), (788, .ireturn, 789, 0), (789, .aload_n 1, 790, 0), (790, .invokevirtual 95, 793, 100), (793, .aload_n 2, 794, 0), (794, .invokevirtual 98, 797, 175), (797, .if_icmp .eq 173, 800, 970), (800, .iconst 0, 801, 0), (801, .ireturn, 802, 0), (802, .aload_n 1, 803, 0), (803, .aload_n 0, 804, 0), (804, .iload_n 3, 805, 0), (805, .iconst 1, 806, 0), (806, .iadd, 807, 0), (807, .iaload, 808, 0), (808, .aload_n 0, 809, 0), (809, .iload_n 3, 810, 0), (810, .iconst 2, 811, 0), (811, .iadd, 812, 0), (812, .iaload, 813, 0), (813, .invokevirtual 99, 816, 101), (816, .aload_n 2, 817, 0), (817, .aload_n 0, 818, 0), (818, .iload_n 3, 819, 0), (819, .iconst 1, 820, 0), (820, .iadd, 821, 0), (821, .iaload, 822, 0), (822, .aload_n 0, 823, 0), (823, .iload_n 3, 824, 0), (824, .iconst 2, 825, 0), (825, .iadd, 826, 0), (826, .iaload, 827, 0), (827, .invokevirtual 102, 830, 176), (830, .if_icmp .eq 140, 833, 970), (833, .iconst 0, 834, 0), (834, .ireturn, 835, 0), (835, .aload_n 1, 836, 0), (836, .aload_n 0, 837, 0), (837, .iload_n 3, 838, 0), (838, .iconst 1, 839, 0), (839, .iadd, 840, 0), (840, .iaload, 841, 0), (841, .aload_n 0, 842, 0), (842, .iload_n 3, 843, 0), (843, .iconst 2, 844, 0), (844, .iadd, 845, 0), (845, .iaload, 846, 0), (846, .invokevirtual 103, 849, 102), (849, .aload_n 2, 850, 0), (850, .aload_n 0, 851, 0), (851, .iload_n 3, 852, 0), (852, .iconst 1, 853, 0), (853, .iadd, 854, 0), (854, .iaload, 855, 0), (855, .aload_n 0, 856, 0), (856, .iload_n 3, 857, 0), (857, .iconst 2, 858, 0), (858, .iadd, 859, 0), (859, .iaload, 860, 0), (860, .invokevirtual 106, 863, 177), (863, .if_icmp .eq 107, 866, 970), (866, .iconst 0, 867, 0), (867, .ireturn, 868, 0), (868, .aload_n 1, 869, 0), (869, .aload_n 0, 870, 0), (870, .iload_n 3, 871, 0), (871, .iconst 1, 872, 0), (872, .iadd, 873, 0), (873, .iaload, 874, 0), (874, .invokevirtual 107, 877, 103), (877, .aload_n 2, 878, 0), (878, .aload_n 0, 879, 0), (879, .iload_n 3, 880, 0), (880, .iconst 1, 881, 0), (881, .iadd, 882, 0), (882, .iaload, 883, 0), (883, .invokevirtual 110, 886, 178), (886, .if_icmp .eq 84, 889, 970), (889, .iconst 0, 890, 0), (890, .ireturn, 891, 0), (891, .aload_n 1, 892, 0), (892, .aload_n 0, 893, 0), (893, .iload_n 3, 894, 0), (894, .iconst 1, 895, 0), (895, .iadd, 896, 0), (896, .iaload, 897, 0), (897, .invokevirtual 111, 900, 104), (900, .aload_n 2, 901, 0), (901, .aload_n 0, 902, 0), (902, .iload_n 3, 903, 0), (903, .iconst 1, 904, 0), (904, .iadd, 905, 0), (905, .iaload, 906, 0), (906, .invokevirtual 114, 909, 185), (909, .if_icmp .eq 61, 912, 970), (912, .iconst 0, 913, 0), (913, .ireturn, 914, 0), (914, .aload_n 1, 915, 0), (915, .aload_n 0, 916, 0), (916, .iload_n 3, 917, 0), (917, .iconst 1, 918, 0), (918, .iadd, 919, 0), (919, .iaload, 920, 0), (920, .aload_n 0, 921, 0), (921, .iload_n 3, 922, 0), (922, .iconst 2, 923, 0), (923, .iadd, 924, 0), (924, .iaload, 925, 0), (925, .invokevirtual 115, 928, 105), (928, .aload_n 2, 929, 0), (929, .aload_n 0, 930, 0), (930, .iload_n 3, 931, 0), (931, .iconst 1, 932, 0), (932, .iadd, 933, 0), (933, .iaload, 934, 0), (934, .aload_n 0, 935, 0), (935, .iload_n 3, 936, 0), (936, .iconst 2, 937, 0), (937, .iadd, 938, 0), (938, .iaload, 939, 0), (939, .invokevirtual 118, 942, 186), (942, .if_icmp .eq 28, 945, 970), (945, .iconst 0, 946, 0), (946, .ireturn, 947, 0), (947, .aload_n 1, 948, 0), (948, .aload_n 0, 949, 0), (949, .iload_n 3, 950, 0), (950, .iconst 1, 951, 0), (951, .iadd, 952, 0), (952, .iaload, 953, 0), (953, .invokevirtual 119, 956, 106), (956, .aload_n 2, 957, 0), (957, .aload_n 0, 958, 0), (958, .iload_n 3, 959, 0), (959, .iconst 1, 960, 0), (960, .iadd, 961, 0), (961, .iaload, 962, 0), (962, .invokevirtual 122, 965, 187), (965, .if_icmp .eq 5, 968, 970), (968, .iconst 0, 969, 0), (969, .ireturn, 970, 0), (970, .iinc 3 6, 973, 0), (973, .goto (-955), 976, 18), (976, .iconst 1, 977, 0), (977, .ireturn, 978, 0)]
/-- a method: name, bytes, locals, answer, class, instructions, (frames, words), (0 virtual 1 static 2 constructor, parameters), places of its words -/
abbrev Mr : Type := MethodName × ByteArray × Nat × Option FieldType × Nat × List Ins × (Nat × Nat) × (Nat × Nat) × List Nat
def MTL : List Mr := [
  (⟨"NumberKeeper$Change", "<init>", "(ILNumberKeeper$Thing;LNumberKeeper$Thing;ILNumberKeeper$Thing;)V"⟩, prog_2_method_1_code, 6, none, 0, cd0, (1, 20), (2, 5), [458, 75, 457]),
  (⟨"NumberKeeper$Change", "takeBack", "()V"⟩, prog_2_method_2_code, 1, none, 0, cd1, (3, 67), (0, 0), [633, 75, 631, 632]),
  (⟨"NumberKeeper$Change", "takeApart", "()V"⟩, prog_2_method_3_code, 1, none, 0, cd2, (2, 47), (0, 0), [640, 75, 639, 5]),
  (⟨"NumberKeeper$Edition", "<init>", "(I)V"⟩, prog_3_method_1_code, 2, none, 1, cd3, (1, 21), (2, 1), [824, 82, 823]),
  (⟨"NumberKeeper$Edition", "keep", "(ILNumberKeeper$Line;LNumberKeeper$Line;)V"⟩, prog_3_method_2_code, 4, none, 1, cd4, (0, 0), (0, 3), [845, 82, 843, 844]),
  (⟨"NumberKeeper$Edition", "toldOf", "(I)LNumberKeeper$Line;"⟩, prog_3_method_3_code, 2, (some (.object "NumberKeeper$Line")), 1, cd5, (0, 0), (0, 1), [740, 82, 738, 739]),
  (⟨"NumberKeeper$Edition", "nameOf", "(I)LNumberKeeper$Line;"⟩, prog_3_method_4_code, 2, (some (.object "NumberKeeper$Line")), 1, cd6, (0, 0), (0, 1), [857, 82, 855, 856]),
  (⟨"NumberKeeper$Form", "<init>", "()V"⟩, prog_4_method_1_code, 1, none, 2, cd7, (2, 42), (2, 0), [125, 69, 124]),
  (⟨"NumberKeeper$Line", "<init>", "(I)V"⟩, prog_5_method_1_code, 2, none, 3, cd8, (1, 21), (2, 1), [95, 65, 94]),
  (⟨"NumberKeeper$Line", "put", "(I)V"⟩, prog_5_method_2_code, 2, none, 3, cd9, (0, 0), (0, 1), [380, 65, 378, 379]),
  (⟨"NumberKeeper$Line", "putFour", "(I)V"⟩, prog_5_method_3_code, 2, none, 3, cd10, (1, 21), (0, 1), [376, 65, 374, 375]),
  (⟨"NumberKeeper$Line", "putLine", "(LNumberKeeper$Line;)V"⟩, prog_5_method_4_code, 3, none, 3, cd11, (1, 68), (0, 1), [407, 65, 405, 406]),
  (⟨"NumberKeeper$Line", "setTo", "(LNumberKeeper$Line;)V"⟩, prog_5_method_5_code, 2, none, 3, cd12, (2, 90), (0, 1), [403, 65, 401, 402]),
  (⟨"NumberKeeper$Line", "copy", "()LNumberKeeper$Line;"⟩, prog_5_method_6_code, 2, (some (.object "NumberKeeper$Line")), 3, cd13, (2, 90), (0, 0), [839, 65, 837, 838]),
  (⟨"NumberKeeper$Line", "byteAt", "(I)I"⟩, prog_5_method_7_code, 2, (some .int), 3, cd14, (0, 0), (0, 1), [674, 65, 672, 673]),
  (⟨"NumberKeeper$Line", "isSame", "(LNumberKeeper$Line;)Z"⟩, prog_5_method_8_code, 2, (some .boolean), 3, cd15, (1, 23), (0, 1), [603, 65, 601, 602]),
  (⟨"NumberKeeper$Line", "standsIn", "(LNumberKeeper$Line;I)Z"⟩, prog_5_method_9_code, 4, (some .boolean), 3, cd16, (0, 0), (0, 2), [607, 65, 605, 606]),
  (⟨"NumberKeeper$Line", "isLettersAlone", "()Z"⟩, prog_5_method_10_code, 2, (some .boolean), 3, cd17, (1, 20), (0, 0), [396, 65, 394, 395]),
  (⟨"NumberKeeper$Mention", "<init>", "(ILNumberKeeper$Thing;IILNumberKeeper$Line;)V"⟩, prog_6_method_1_code, 6, none, 4, cd18, (1, 21), (2, 5), [687, 81, 686]),
  (⟨"NumberKeeper$Mention", "addMeant", "(LNumberKeeper$Thing;)V"⟩, prog_6_method_2_code, 2, none, 4, cd19, (0, 0), (0, 1), [720, 81, 718, 719]),
  (⟨"NumberKeeper$Mention", "countGone", "()I"⟩, prog_6_method_3_code, 6, (some .int), 4, cd20, (2, 43), (0, 0), [792, 81, 790, 791]),
  (⟨"NumberKeeper$Numbering", "<init>", "(LNumberKeeper$Thing;)V"⟩, prog_7_method_1_code, 2, none, 5, cd21, (1, 20), (2, 1), [272, 70, 271]),
  (⟨"NumberKeeper$Numbering", "renew", "()V"⟩, prog_7_method_2_code, 2, none, 5, cd22, (7, 170), (0, 0), [492, 70, 490, 491]),
  (⟨"NumberKeeper$Numbering", "rememberNumbers", "()V"⟩, prog_7_method_3_code, 2, none, 5, cd23, (3, 111), (0, 0), [585, 70, 583, 584]),
  (⟨"NumberKeeper$Numbering", "countOtherNumbers", "()I"⟩, prog_7_method_4_code, 3, (some .int), 5, cd24, (2, 44), (0, 0), [599, 70, 597, 598]),
  (⟨"NumberKeeper$Numbering", "lineUp", "()V"⟩, prog_7_method_5_code, 4, none, 5, cd25, (1, 68), (0, 0), [496, 70, 495, 2]),
  (⟨"NumberKeeper$Numbering", "rankKids", "(LNumberKeeper$Thing;)V"⟩, prog_7_method_6_code, 3, none, 5, cd26, (1, 23), (0, 1), [508, 70, 507, 3]),
  (⟨"NumberKeeper$Numbering", "settle", "(LNumberKeeper$Thing;)V"⟩, prog_7_method_7_code, 5, none, 5, cd27, (1, 22), (0, 1), [512, 70, 511, 4]),
  (⟨"NumberKeeper$Numbering", "nearestAbove", "(LNumberKeeper$Thing;)LNumberKeeper$Thing;"⟩, prog_7_method_8_code, 3, (some (.object "NumberKeeper$Thing")), 5, cd28, (0, 0), (1, 1), [515, 70, 514]),
  (⟨"NumberKeeper$Numbering", "writeMark", "(LNumberKeeper$Thing;)V"⟩, prog_7_method_9_code, 1, none, 5, cd29, (6, 150), (1, 1), [518, 70, 517]),
  (⟨"NumberKeeper$Numbering", "writeName", "(LNumberKeeper$Thing;)V"⟩, prog_7_method_10_code, 1, none, 5, cd30, (2, 90), (1, 1), [580, 70, 579]),
  (⟨"NumberKeeper$Numbering", "putSign", "(LNumberKeeper$Line;II)V"⟩, prog_7_method_11_code, 3, none, 5, cd31, (5, 128), (1, 3), [522, 70, 521]),
  (⟨"NumberKeeper$Numbering", "putFigures", "(LNumberKeeper$Line;I)V"⟩, prog_7_method_12_code, 2, none, 5, cd32, (1, 21), (1, 2), [577, 70, 576]),
  (⟨"NumberKeeper$Numbering", "putLetters", "(LNumberKeeper$Line;II)V"⟩, prog_7_method_13_code, 4, none, 5, cd33, (1, 21), (1, 3), [525, 70, 524]),
  (⟨"NumberKeeper$Numbering", "putRoman", "(LNumberKeeper$Line;II)V"⟩, prog_7_method_14_code, 3, none, 5, cd34, (4, 106), (1, 3), [528, 70, 527]),
  (⟨"NumberKeeper$Numbering", "putRomanDigit", "(LNumberKeeper$Line;ILjava/lang/String;I)V"⟩, prog_7_method_15_code, 6, none, 5, cd35, (3, 81), (1, 4), [532, 70, 531]),
  (⟨"NumberKeeper$Reader", "<init>", "(LNumberKeeper$Line;LNumberKeeper$Tree;)V"⟩, prog_8_method_1_code, 3, none, 6, cd36, (1, 20), (2, 2), [308, 72, 307]),
  (⟨"NumberKeeper$Reader", "readTape", "(LNumberKeeper$Thing;)I"⟩, prog_8_method_2_code, 3, (some .int), 6, cd37, (4, 99), (0, 1), [877, 72, 875, 876]),
  (⟨"NumberKeeper$Reader", "cell", "(II)I"⟩, prog_8_method_3_code, 4, (some .int), 6, cd38, (0, 0), (0, 2), [918, 72, 916, 917]),
  (⟨"NumberKeeper$Reader", "endOfFinding", "(ILNumberKeeper$Thing;)I"⟩, prog_8_method_4_code, 8, (some .int), 6, cd39, (3, 72), (0, 2), [881, 72, 880, 16]),
  (⟨"NumberKeeper$Reader", "kindAt", "(I)I"⟩, prog_8_method_5_code, 6, (some .int), 6, cd40, (1, 23), (0, 1), [887, 72, 886, 17]),
  (⟨"NumberKeeper$Reader", "endOfRun", "(I)I"⟩, prog_8_method_6_code, 3, (some .int), 6, cd41, (2, 40), (0, 1), [893, 72, 892, 18]),
  (⟨"NumberKeeper$Reader", "isOfNumber", "(I)Z"⟩, prog_8_method_7_code, 1, (some .boolean), 6, cd42, (1, 20), (1, 1), [896, 72, 895]),
  (⟨"NumberKeeper$Reader", "findMeanings", "(IILNumberKeeper$Thing;)V"⟩, prog_8_method_8_code, 6, none, 6, cd43, (2, 47), (0, 3), [900, 72, 899, 19]),
  (⟨"NumberKeeper$Reader", "partFor", "(LNumberKeeper$Thing;ILNumberKeeper$Thing;)I"⟩, prog_8_method_9_code, 5, (some .int), 6, cd44, (1, 23), (0, 3), [904, 72, 903, 20]),
  (⟨"NumberKeeper$Reader", "keepFinding", "(III)V"⟩, prog_8_method_10_code, 5, none, 6, cd45, (0, 0), (0, 3), [909, 72, 908, 21]),
  (⟨"NumberKeeper$Teller", "<init>", "(LNumberKeeper$Thing;)V"⟩, prog_9_method_1_code, 2, none, 7, cd46, (1, 20), (2, 1), [293, 71, 292]),
  (⟨"NumberKeeper$Teller", "firstMeant", "(LNumberKeeper$Mention;)LNumberKeeper$Thing;"⟩, prog_9_method_2_code, 2, (some (.object "NumberKeeper$Thing")), 7, cd47, (3, 69), (0, 1), [756, 71, 754, 755]),
  (⟨"NumberKeeper$Teller", "countRuns", "(LNumberKeeper$Mention;)I"⟩, prog_9_method_3_code, 5, (some .int), 7, cd48, (4, 90), (0, 1), [780, 71, 778, 779]),
  (⟨"NumberKeeper$Teller", "writeText", "(LNumberKeeper$Mention;LNumberKeeper$Line;)V"⟩, prog_9_method_4_code, 4, none, 7, cd49, (4, 136), (0, 2), [797, 71, 795, 796]),
  (⟨"NumberKeeper$Teller", "hasText", "(LNumberKeeper$Mention;LNumberKeeper$Thing;)Z"⟩, prog_9_method_5_code, 2, (some .boolean), 7, cd50, (2, 43), (1, 2), [784, 71, 783]),
  (⟨"NumberKeeper$Teller", "writeRange", "(LNumberKeeper$Thing;LNumberKeeper$Line;)V"⟩, prog_9_method_6_code, 5, none, 7, cd51, (3, 112), (0, 2), [802, 71, 801, 13]),
  (⟨"NumberKeeper$Teller", "writeRun", "(LNumberKeeper$Thing;LNumberKeeper$Thing;LNumberKeeper$Line;)V"⟩, prog_9_method_7_code, 3, none, 7, cd52, (2, 90), (1, 3), [806, 71, 805]),
  (⟨"NumberKeeper$Teller", "pickMeant", "(LNumberKeeper$Mention;)V"⟩, prog_9_method_8_code, 7, none, 7, cd53, (2, 43), (0, 1), [772, 71, 771, 10]),
  (⟨"NumberKeeper$Teller", "pickedBehind", "(LNumberKeeper$Thing;)LNumberKeeper$Thing;"⟩, prog_9_method_9_code, 3, (some (.object "NumberKeeper$Thing")), 7, cd54, (0, 0), (0, 1), [776, 71, 775, 11]),
  (⟨"NumberKeeper$Teller", "lastOfRun", "(LNumberKeeper$Thing;)LNumberKeeper$Thing;"⟩, prog_9_method_10_code, 4, (some (.object "NumberKeeper$Thing")), 7, cd55, (1, 22), (0, 1), [788, 71, 787, 12]),
  (⟨"NumberKeeper$Teller", "nextOfKind", "(LNumberKeeper$Thing;I)LNumberKeeper$Thing;"⟩, prog_9_method_11_code, 3, (some (.object "NumberKeeper$Thing")), 7, cd56, (0, 0), (1, 2), [764, 71, 763]),
  (⟨"NumberKeeper$Teller", "latestOfKind", "(LNumberKeeper$Thing;I)LNumberKeeper$Thing;"⟩, prog_9_method_12_code, 5, (some (.object "NumberKeeper$Thing")), 7, cd57, (0, 0), (0, 2), [768, 71, 767, 9]),
  (⟨"NumberKeeper$Thing", "<init>", "(IILNumberKeeper$Form;)V"⟩, prog_10_method_1_code, 4, none, 8, cd58, (2, 42), (2, 3), [151, 68, 150]),
  (⟨"NumberKeeper$Thing", "kidCount", "()I"⟩, prog_10_method_2_code, 3, (some .int), 8, cd59, (0, 0), (0, 0), [437, 68, 435, 436]),
  (⟨"NumberKeeper$Thing", "kidAt", "(I)LNumberKeeper$Thing;"⟩, prog_10_method_3_code, 4, (some (.object "NumberKeeper$Thing")), 8, cd60, (0, 0), (0, 1), [454, 68, 452, 453]),
  (⟨"NumberKeeper$Thing", "index", "()I"⟩, prog_10_method_4_code, 3, (some .int), 8, cd61, (0, 0), (0, 0), [590, 68, 588, 589]),
  (⟨"NumberKeeper$Thing", "hangOn", "(LNumberKeeper$Thing;I)V"⟩, prog_10_method_5_code, 4, none, 8, cd62, (1, 23), (0, 2), [450, 68, 448, 449]),
  (⟨"NumberKeeper$Thing", "leave", "()V"⟩, prog_10_method_6_code, 2, none, 8, cd63, (1, 23), (0, 0), [594, 68, 592, 593]),
  (⟨"NumberKeeper$Thing", "takeKids", "(LNumberKeeper$Thing;)V"⟩, prog_10_method_7_code, 4, none, 8, cd64, (1, 23), (0, 1), [624, 68, 622, 623]),
  (⟨"NumberKeeper$Thing", "giveKids", "(LNumberKeeper$Thing;LNumberKeeper$Thing;)V"⟩, prog_10_method_8_code, 5, none, 8, cd65, (1, 23), (0, 2), [644, 68, 642, 643]),
  (⟨"NumberKeeper$Thing", "isWithin", "(LNumberKeeper$Thing;)Z"⟩, prog_10_method_9_code, 3, (some .boolean), 8, cd66, (0, 0), (0, 1), [488, 68, 486, 487]),
  (⟨"NumberKeeper$Thing", "nextWithin", "(LNumberKeeper$Thing;)LNumberKeeper$Thing;"⟩, prog_10_method_10_code, 3, (some (.object "NumberKeeper$Thing")), 8, cd67, (0, 0), (0, 1), [503, 68, 501, 502]),
  (⟨"NumberKeeper$Thing", "setAllThere", "(Z)I"⟩, prog_10_method_11_code, 4, (some .int), 8, cd68, (1, 22), (0, 1), [615, 68, 613, 614]),
  (⟨"NumberKeeper$Thing", "lead", "()LNumberKeeper$Thing;"⟩, prog_10_method_12_code, 3, (some (.object "NumberKeeper$Thing")), 8, cd69, (0, 0), (0, 0), [752, 68, 750, 751]),
  (⟨"NumberKeeper$Thing", "leadThere", "()LNumberKeeper$Thing;"⟩, prog_10_method_13_code, 2, (some (.object "NumberKeeper$Thing")), 8, cd70, (1, 22), (0, 0), [760, 68, 758, 759]),
  (⟨"NumberKeeper$Thing", "tellTo", "(LNumberKeeper$Line;)V"⟩, prog_10_method_14_code, 2, none, 8, cd71, (2, 90), (0, 1), [668, 68, 666, 667]),
  (⟨"NumberKeeper$Tree", "<init>", "()V"⟩, prog_11_method_1_code, 2, none, 9, cd72, (3, 65), (2, 0), [117, 67, 116]),
  (⟨"NumberKeeper$Tree", "formOf", "(I)LNumberKeeper$Form;"⟩, prog_11_method_2_code, 2, (some (.object "NumberKeeper$Form")), 9, cd73, (0, 0), (0, 1), [392, 67, 390, 391]),
  (⟨"NumberKeeper$Tree", "numbered", "(I)LNumberKeeper$Thing;"⟩, prog_11_method_3_code, 2, (some (.object "NumberKeeper$Thing")), 9, cd74, (0, 0), (0, 1), [433, 67, 431, 432]),
  (⟨"NumberKeeper$Tree", "thereAs", "(I)LNumberKeeper$Thing;"⟩, prog_11_method_4_code, 3, (some (.object "NumberKeeper$Thing")), 9, cd75, (1, 21), (0, 1), [429, 67, 427, 428]),
  (⟨"NumberKeeper$Tree", "hostOf", "(I)LNumberKeeper$Thing;"⟩, prog_11_method_5_code, 2, (some (.object "NumberKeeper$Thing")), 9, cd76, (2, 43), (0, 1), [425, 67, 423, 424]),
  (⟨"NumberKeeper$Tree", "placedAt", "(I)LNumberKeeper$Thing;"⟩, prog_11_method_6_code, 3, (some (.object "NumberKeeper$Thing")), 9, cd77, (0, 0), (0, 1), [660, 67, 658, 659]),
  (⟨"NumberKeeper$Tree", "grow", "(I)LNumberKeeper$Thing;"⟩, prog_11_method_7_code, 4, (some (.object "NumberKeeper$Thing")), 9, cd78, (3, 65), (0, 1), [445, 67, 443, 444]),
  (⟨"NumberKeeper$Tree", "countThere", "()I"⟩, prog_11_method_8_code, 3, (some .int), 9, cd79, (1, 22), (0, 0), [926, 67, 924, 925]),
  (⟨"NumberKeeper", "<init>", "()V"⟩, prog_1_method_1_code, 1, none, 10, cd80, (4, 86), (2, 0), [87, 64, 86]),
  (⟨"NumberKeeper", "feed", "(IIIII)I"⟩, prog_1_method_2_code, 6, (some .int), 10, cd81, (2, 42), (0, 5), [372, 64, 370, 371]),
  (⟨"NumberKeeper", "end", "(I)I"⟩, prog_1_method_3_code, 2, (some .int), 10, cd82, (0, 0), (0, 1), [384, 64, 382, 383]),
  (⟨"NumberKeeper", "word", "(I)I"⟩, prog_1_method_4_code, 4, (some .int), 10, cd83, (3, 111), (0, 1), [388, 64, 386, 387]),
  (⟨"NumberKeeper", "form", "(IIII)I"⟩, prog_1_method_5_code, 6, (some .int), 10, cd84, (1, 21), (0, 4), [417, 64, 415, 416]),
  (⟨"NumberKeeper", "add", "(III)I"⟩, prog_1_method_6_code, 6, (some .int), 10, cd85, (4, 88), (0, 3), [421, 64, 419, 420]),
  (⟨"NumberKeeper", "move", "(III)I"⟩, prog_1_method_7_code, 8, (some .int), 10, cd86, (8, 191), (0, 3), [483, 64, 481, 482]),
  (⟨"NumberKeeper", "cut", "(I)I"⟩, prog_1_method_8_code, 5, (some .int), 10, cd87, (2, 45), (0, 1), [611, 64, 609, 610]),
  (⟨"NumberKeeper", "join", "(II)I"⟩, prog_1_method_9_code, 6, (some .int), 10, cd88, (2, 46), (0, 2), [620, 64, 618, 619]),
  (⟨"NumberKeeper", "undo", "()I"⟩, prog_1_method_10_code, 2, (some .int), 10, cd89, (4, 87), (0, 0), [629, 64, 627, 628]),
  (⟨"NumberKeeper", "thing", "(II)I"⟩, prog_1_method_11_code, 4, (some .int), 10, cd90, (8, 191), (0, 2), [648, 64, 646, 647]),
  (⟨"NumberKeeper", "at", "(I)I"⟩, prog_1_method_12_code, 2, (some .int), 10, cd91, (8, 191), (0, 1), [656, 64, 654, 655]),
  (⟨"NumberKeeper", "told", "(II)I"⟩, prog_1_method_13_code, 4, (some .int), 10, cd92, (8, 191), (0, 2), [664, 64, 662, 663]),
  (⟨"NumberKeeper", "twins", "()I"⟩, prog_1_method_14_code, 4, (some .int), 10, cd93, (8, 191), (0, 0), [678, 64, 676, 677]),
  (⟨"NumberKeeper", "mention", "(III)I"⟩, prog_1_method_15_code, 9, (some .int), 10, cd94, (2, 46), (0, 3), [683, 64, 681, 682]),
  (⟨"NumberKeeper", "range", "(IIII)I"⟩, prog_1_method_16_code, 10, (some .int), 10, cd95, (8, 191), (0, 4), [728, 64, 726, 727]),
  (⟨"NumberKeeper", "frozen", "(III)I"⟩, prog_1_method_17_code, 9, (some .int), 10, cd96, (2, 46), (0, 3), [732, 64, 730, 731]),
  (⟨"NumberKeeper", "about", "(II)I"⟩, prog_1_method_18_code, 4, (some .int), 10, cd97, (8, 191), (0, 2), [744, 64, 742, 743]),
  (⟨"NumberKeeper", "text", "(II)I"⟩, prog_1_method_19_code, 4, (some .int), 10, cd98, (8, 191), (0, 2), [811, 64, 809, 810]),
  (⟨"NumberKeeper", "trouble", "()I"⟩, prog_1_method_20_code, 4, (some .int), 10, cd99, (8, 191), (0, 0), [815, 64, 813, 814]),
  (⟨"NumberKeeper", "edition", "()I"⟩, prog_1_method_21_code, 3, (some .int), 10, cd100, (8, 191), (0, 0), [820, 64, 818, 819]),
  (⟨"NumberKeeper", "old", "(II)I"⟩, prog_1_method_22_code, 5, (some .int), 10, cd101, (3, 69), (0, 2), [849, 64, 847, 848]),
  (⟨"NumberKeeper", "leads", "(II)I"⟩, prog_1_method_23_code, 5, (some .int), 10, cd102, (2, 43), (0, 2), [861, 64, 859, 860]),
  (⟨"NumberKeeper", "changed", "(I)I"⟩, prog_1_method_24_code, 7, (some .int), 10, cd103, (8, 191), (0, 1), [865, 64, 863, 864]),
  (⟨"NumberKeeper", "read", "(I)I"⟩, prog_1_method_25_code, 4, (some .int), 10, cd104, (8, 191), (0, 1), [873, 64, 871, 872]),
  (⟨"NumberKeeper", "finding", "(II)I"⟩, prog_1_method_26_code, 3, (some .int), 10, cd105, (1, 23), (0, 2), [914, 64, 912, 913]),
  (⟨"NumberKeeper", "count", "(I)I"⟩, prog_1_method_27_code, 2, (some .int), 10, cd106, (2, 44), (0, 1), [922, 64, 920, 921]),
  (⟨"NumberKeeper", "countOfForm", "(I)I"⟩, prog_1_method_28_code, 3, (some .int), 10, cd107, (1, 21), (0, 1), [931, 64, 930, 22]),
  (⟨"NumberKeeper", "numberOf", "(LNumberKeeper$Thing;)I"⟩, prog_1_method_29_code, 1, (some .int), 10, cd108, (0, 0), (1, 1), [652, 64, 651]),
  (⟨"NumberKeeper", "isLogFull", "()Z"⟩, prog_1_method_30_code, 1, (some .boolean), 10, cd109, (0, 0), (0, 0), [441, 64, 440, 0]),
  (⟨"NumberKeeper", "noteChange", "(LNumberKeeper$Change;)V"⟩, prog_1_method_31_code, 2, none, 10, cd110, (0, 0), (0, 1), [479, 64, 478, 1]),
  (⟨"NumberKeeper", "mentionOf", "(I)LNumberKeeper$Mention;"⟩, prog_1_method_32_code, 2, (some (.object "NumberKeeper$Mention")), 10, cd111, (0, 0), (0, 1), [748, 64, 747, 8]),
  (⟨"NumberKeeper", "keepMention", "(LNumberKeeper$Mention;)I"⟩, prog_1_method_33_code, 2, (some .int), 10, cd112, (0, 0), (0, 1), [724, 64, 723, 6]),
  (⟨"NumberKeeper", "editionOf", "(I)LNumberKeeper$Edition;"⟩, prog_1_method_34_code, 2, (some (.object "NumberKeeper$Edition")), 10, cd113, (0, 0), (0, 1), [736, 64, 735, 7]),
  (⟨"NumberKeeper", "firstNamed", "(LNumberKeeper$Edition;I)I"⟩, prog_1_method_35_code, 6, (some .int), 10, cd114, (2, 44), (0, 2), [853, 64, 852, 14]),
  (⟨"NumberKeeper", "isStillTold", "(LNumberKeeper$Thing;LNumberKeeper$Line;)Z"⟩, prog_1_method_36_code, 4, (some .boolean), 10, cd115, (3, 111), (0, 2), [869, 64, 868, 15]),
  (⟨"NumberKeeper", "isLetter", "(I)Z"⟩, prog_1_method_37_code, 1, (some .boolean), 10, cd116, (0, 0), (1, 1), [399, 64, 398]),
  (⟨"NumberKeeperModel", "<init>", "()V"⟩, prog_13_method_1_code, 1, none, 11, cd117, (1, 20), (2, 0), [936, 73, 935]),
  (⟨"NumberKeeperModel", "in", "(III)Z"⟩, prog_13_method_2_code, 3, (some .boolean), 11, cd118, (0, 0), (1, 3), [1117, 73, 1116]),
  (⟨"NumberKeeperModel", "feed", "(IIIII)I"⟩, prog_13_method_3_code, 9, (some .int), 11, cd119, (0, 0), (0, 5), [1103, 73, 1101, 1102]),
  (⟨"NumberKeeperModel", "end", "(I)I"⟩, prog_13_method_4_code, 2, (some .int), 11, cd120, (0, 0), (0, 1), [1107, 73, 1105, 1106]),
  (⟨"NumberKeeperModel", "isLetter", "(I)Z"⟩, prog_13_method_5_code, 1, (some .boolean), 11, cd121, (0, 0), (1, 1), [1120, 73, 1119]),
  (⟨"NumberKeeperModel", "isKind", "(I)Z"⟩, prog_13_method_6_code, 1, (some .boolean), 11, cd122, (1, 22), (1, 1), [1114, 73, 1113]),
  (⟨"NumberKeeperModel", "word", "(I)I"⟩, prog_13_method_7_code, 4, (some .int), 11, cd123, (2, 42), (0, 1), [1111, 73, 1109, 1110]),
  (⟨"NumberKeeperModel", "form", "(IIII)I"⟩, prog_13_method_8_code, 5, (some .int), 11, cd124, (2, 42), (0, 4), [1124, 73, 1122, 1123]),
  (⟨"NumberKeeperModel", "isThere", "(I)Z"⟩, prog_13_method_9_code, 2, (some .boolean), 11, cd125, (1, 22), (0, 1), [1132, 73, 1131, 23]),
  (⟨"NumberKeeperModel", "hanging", "(I)I"⟩, prog_13_method_10_code, 4, (some .int), 11, cd126, (0, 0), (0, 1), [1136, 73, 1135, 24]),
  (⟨"NumberKeeperModel", "putIn", "(III)V"⟩, prog_13_method_11_code, 5, none, 11, cd127, (0, 0), (0, 3), [1148, 73, 1147, 27]),
  (⟨"NumberKeeperModel", "takeOut", "(I)V"⟩, prog_13_method_12_code, 3, none, 11, cd128, (0, 0), (0, 1), [1152, 73, 1151, 28]),
  (⟨"NumberKeeperModel", "isBelow", "(II)Z"⟩, prog_13_method_13_code, 4, (some .boolean), 11, cd129, (0, 0), (0, 2), [1164, 73, 1163, 30]),
  (⟨"NumberKeeperModel", "takeAll", "(I)I"⟩, prog_13_method_14_code, 5, (some .int), 11, cd130, (1, 22), (0, 1), [1156, 73, 1155, 29]),
  (⟨"NumberKeeperModel", "does", "(IIII)I"⟩, prog_13_method_15_code, 8, (some .int), 11, cd131, (2, 46), (0, 4), [1144, 73, 1143, 26]),
  (⟨"NumberKeeperModel", "change", "(IIII)I"⟩, prog_13_method_16_code, 5, (some .int), 11, cd132, (3, 73), (0, 4), [1140, 73, 1139, 25]),
  (⟨"NumberKeeperModel", "add", "(III)I"⟩, prog_13_method_17_code, 4, (some .int), 11, cd133, (4, 97), (0, 3), [1128, 73, 1126, 1127]),
  (⟨"NumberKeeperModel", "move", "(III)I"⟩, prog_13_method_18_code, 8, (some .int), 11, cd134, (4, 97), (0, 3), [1160, 73, 1158, 1159]),
  (⟨"NumberKeeperModel", "cut", "(I)I"⟩, prog_13_method_19_code, 2, (some .int), 11, cd135, (4, 97), (0, 1), [1208, 73, 1206, 1207]),
  (⟨"NumberKeeperModel", "join", "(II)I"⟩, prog_13_method_20_code, 3, (some .int), 11, cd136, (4, 97), (0, 2), [1212, 73, 1210, 1211]),
  (⟨"NumberKeeperModel", "undo", "()I"⟩, prog_13_method_21_code, 3, (some .int), 11, cd137, (3, 73), (0, 0), [1216, 73, 1214, 1215]),
  (⟨"NumberKeeperModel", "childAt", "(II)I"⟩, prog_13_method_22_code, 4, (some .int), 11, cd138, (0, 0), (0, 2), [1176, 73, 1175, 33]),
  (⟨"NumberKeeperModel", "order", "()V"⟩, prog_13_method_23_code, 3, none, 11, cd139, (1, 23), (0, 0), [1172, 73, 1171, 32]),
  (⟨"NumberKeeperModel", "above", "(II)I"⟩, prog_13_method_24_code, 4, (some .int), 11, cd140, (0, 0), (0, 2), [1184, 73, 1183, 35]),
  (⟨"NumberKeeperModel", "sameScope", "(II)Z"⟩, prog_13_method_25_code, 5, (some .boolean), 11, cd141, (1, 23), (0, 2), [1180, 73, 1179, 34]),
  (⟨"NumberKeeperModel", "signByte", "(II)V"⟩, prog_13_method_26_code, 3, none, 11, cd142, (0, 0), (0, 2), [1192, 73, 1191, 37]),
  (⟨"NumberKeeperModel", "makeSign", "(I)V"⟩, prog_13_method_27_code, 5, none, 11, cd143, (2, 48), (0, 1), [1188, 73, 1187, 36]),
  (⟨"NumberKeeperModel", "roman", "(IIIII)V"⟩, prog_13_method_28_code, 7, none, 11, cd144, (1, 22), (0, 5), [1196, 73, 1195, 38]),
  (⟨"NumberKeeperModel", "numberByte", "(II)V"⟩, prog_13_method_29_code, 3, none, 11, cd145, (0, 0), (0, 2), [1204, 73, 1203, 40]),
  (⟨"NumberKeeperModel", "makeNumber", "(I)V"⟩, prog_13_method_30_code, 6, none, 11, cd146, (1, 23), (0, 1), [1200, 73, 1199, 39]),
  (⟨"NumberKeeperModel", "make", "()V"⟩, prog_13_method_31_code, 4, none, 11, cd147, (3, 72), (0, 0), [1168, 73, 1167, 31]),
  (⟨"NumberKeeperModel", "thing", "(II)I"⟩, prog_13_method_32_code, 3, (some .int), 11, cd148, (4, 95), (0, 2), [1220, 73, 1218, 1219]),
  (⟨"NumberKeeperModel", "at", "(I)I"⟩, prog_13_method_33_code, 2, (some .int), 11, cd149, (4, 95), (0, 1), [1224, 73, 1222, 1223]),
  (⟨"NumberKeeperModel", "toldSize", "(I)I"⟩, prog_13_method_34_code, 2, (some .int), 11, cd150, (0, 0), (0, 1), [1232, 73, 1231, 41]),
  (⟨"NumberKeeperModel", "toldByte", "(II)I"⟩, prog_13_method_35_code, 4, (some .int), 11, cd151, (0, 0), (0, 2), [1236, 73, 1235, 42]),
  (⟨"NumberKeeperModel", "told", "(II)I"⟩, prog_13_method_36_code, 3, (some .int), 11, cd152, (4, 95), (0, 2), [1228, 73, 1226, 1227]),
  (⟨"NumberKeeperModel", "sameNumber", "(II)Z"⟩, prog_13_method_37_code, 4, (some .boolean), 11, cd153, (0, 0), (0, 2), [1244, 73, 1243, 43]),
  (⟨"NumberKeeperModel", "twins", "()I"⟩, prog_13_method_38_code, 4, (some .int), 11, cd154, (4, 95), (0, 0), [1240, 73, 1238, 1239]),
  (⟨"NumberKeeperModel", "follow", "(I)I"⟩, prog_13_method_39_code, 3, (some .int), 11, cd155, (0, 0), (0, 1), [1272, 73, 1271, 46]),
  (⟨"NumberKeeperModel", "leadOf", "(I)I"⟩, prog_13_method_40_code, 3, (some .int), 11, cd156, (2, 43), (0, 1), [1280, 73, 1279, 48]),
  (⟨"NumberKeeperModel", "tell", "(IIII)I"⟩, prog_13_method_41_code, 5, (some .int), 11, cd157, (0, 0), (0, 4), [1252, 73, 1251, 44]),
  (⟨"NumberKeeperModel", "mention", "(III)I"⟩, prog_13_method_42_code, 5, (some .int), 11, cd158, (2, 43), (0, 3), [1248, 73, 1246, 1247]),
  (⟨"NumberKeeperModel", "range", "(IIII)I"⟩, prog_13_method_43_code, 8, (some .int), 11, cd159, (4, 95), (0, 4), [1256, 73, 1254, 1255]),
  (⟨"NumberKeeperModel", "frozen", "(III)I"⟩, prog_13_method_44_code, 4, (some .int), 11, cd160, (2, 44), (0, 3), [1260, 73, 1258, 1259]),
  (⟨"NumberKeeperModel", "lineByte", "(I)V"⟩, prog_13_method_45_code, 2, none, 11, cd161, (0, 0), (0, 1), [1296, 73, 1295, 52]),
  (⟨"NumberKeeperModel", "lineThing", "(I)V"⟩, prog_13_method_46_code, 3, none, 11, cd162, (1, 23), (0, 1), [1312, 73, 1311, 56]),
  (⟨"NumberKeeperModel", "lineNumber", "(I)V"⟩, prog_13_method_47_code, 3, none, 11, cd163, (1, 21), (0, 1), [1308, 73, 1307, 55]),
  (⟨"NumberKeeperModel", "beside", "(III)I"⟩, prog_13_method_48_code, 5, (some .int), 11, cd164, (0, 0), (0, 3), [1284, 73, 1283, 49]),
  (⟨"NumberKeeperModel", "leadsOf", "(I)I"⟩, prog_13_method_49_code, 4, (some .int), 11, cd165, (4, 95), (0, 1), [1276, 73, 1275, 47]),
  (⟨"NumberKeeperModel", "means", "(I)V"⟩, prog_13_method_50_code, 4, none, 11, cd166, (3, 65), (0, 1), [1288, 73, 1287, 50]),
  (⟨"NumberKeeperModel", "goneOf", "(I)I"⟩, prog_13_method_51_code, 4, (some .int), 11, cd167, (3, 65), (0, 1), [1316, 73, 1315, 57]),
  (⟨"NumberKeeperModel", "makeLine", "(I)V"⟩, prog_13_method_52_code, 4, none, 11, cd168, (5, 118), (0, 1), [1292, 73, 1291, 51]),
  (⟨"NumberKeeperModel", "lineRuns", "(I)V"⟩, prog_13_method_53_code, 7, none, 11, cd169, (3, 65), (0, 1), [1300, 73, 1299, 53]),
  (⟨"NumberKeeperModel", "endRun", "(II)V"⟩, prog_13_method_54_code, 3, none, 11, cd170, (2, 43), (0, 2), [1304, 73, 1303, 54]),
  (⟨"NumberKeeperModel", "about", "(II)I"⟩, prog_13_method_55_code, 3, (some .int), 11, cd171, (6, 141), (0, 2), [1268, 73, 1266, 1267]),
  (⟨"NumberKeeperModel", "text", "(II)I"⟩, prog_13_method_56_code, 3, (some .int), 11, cd172, (6, 141), (0, 2), [1320, 73, 1318, 1319]),
  (⟨"NumberKeeperModel", "trouble", "()I"⟩, prog_13_method_57_code, 3, (some .int), 11, cd173, (6, 141), (0, 0), [1324, 73, 1322, 1323]),
  (⟨"NumberKeeperModel", "had", "(II)Z"⟩, prog_13_method_58_code, 3, (some .boolean), 11, cd174, (1, 22), (0, 2), [1264, 73, 1263, 45]),
  (⟨"NumberKeeperModel", "edition", "()I"⟩, prog_13_method_59_code, 4, (some .int), 11, cd175, (4, 95), (0, 0), [1328, 73, 1326, 1327]),
  (⟨"NumberKeeperModel", "old", "(II)I"⟩, prog_13_method_60_code, 8, (some .int), 11, cd176, (2, 44), (0, 2), [1332, 73, 1330, 1331]),
  (⟨"NumberKeeperModel", "leads", "(II)I"⟩, prog_13_method_61_code, 3, (some .int), 11, cd177, (3, 65), (0, 2), [1336, 73, 1334, 1335]),
  (⟨"NumberKeeperModel", "changed", "(I)I"⟩, prog_13_method_62_code, 8, (some .int), 11, cd178, (4, 95), (0, 1), [1340, 73, 1338, 1339]),
  (⟨"NumberKeeperModel", "see", "(I)I"⟩, prog_13_method_63_code, 2, (some .int), 11, cd179, (0, 0), (0, 1), [1348, 73, 1347, 58]),
  (⟨"NumberKeeperModel", "isOfRun", "(I)Z"⟩, prog_13_method_64_code, 1, (some .boolean), 11, cd180, (1, 20), (1, 1), [1355, 73, 1354]),
  (⟨"NumberKeeperModel", "stands", "(II)Z"⟩, prog_13_method_65_code, 4, (some .boolean), 11, cd181, (2, 40), (0, 2), [1352, 73, 1351, 59]),
  (⟨"NumberKeeperModel", "isPart", "([BIIII)Z"⟩, prog_13_method_66_code, 7, (some .boolean), 11, cd182, (0, 0), (0, 5), [1363, 73, 1362, 61]),
  (⟨"NumberKeeperModel", "isSignPart", "(III)Z"⟩, prog_13_method_67_code, 4, (some .boolean), 11, cd183, (1, 26), (0, 3), [1367, 73, 1366, 62]),
  (⟨"NumberKeeperModel", "look", "(IIII)V"⟩, prog_13_method_68_code, 8, none, 11, cd184, (2, 49), (0, 4), [1359, 73, 1358, 60]),
  (⟨"NumberKeeperModel", "read", "(I)I"⟩, prog_13_method_69_code, 8, (some .int), 11, cd185, (4, 95), (0, 1), [1344, 73, 1342, 1343]),
  (⟨"NumberKeeperModel", "finding", "(II)I"⟩, prog_13_method_70_code, 3, (some .int), 11, cd186, (1, 22), (0, 2), [1371, 73, 1369, 1370]),
  (⟨"NumberKeeperModel", "count", "(I)I"⟩, prog_13_method_71_code, 2, (some .int), 11, cd187, (4, 95), (0, 1), [1375, 73, 1373, 1374]),
  (⟨"java/lang/Math", "max", "(II)I"⟩, prog_14_method_65_code, 2, (some .int), 12, cd188, (0, 0), (1, 2), [99, 66, 98]),
  (⟨"java/lang/Math", "min", "(II)I"⟩, prog_14_method_69_code, 2, (some .int), 12, cd189, (0, 0), (1, 2), [410, 66, 409]),
  (⟨"java/util/Arrays", "fill", "([II)V"⟩, prog_19_method_103_code, 4, none, 13, cd190, (0, 0), (1, 2), [499, 76, 498]),
  (⟨"NumberKeeperLaw", "law", "([I)Z"⟩, code, 4, ret, 14, cd191, (9, 220), (1, 1), [])]
end
section
/-! the code lists hold what the bytes decode to, and their numbers what the tables link -/
def okI (oc pc : Nat) (i : Instr) (n x : Nat) : Bool := match i with
  | .getfield k => n == pc + 3 && decide (k < 1024) && fLk.contains (oc * 1024 + k, x)
  | .putfield k => n == pc + 3 && decide (k < 1024) && fLk.contains (oc * 1024 + k, x)
  | .invokevirtual k => n == pc + 3 && decide (k < 1024) && mLk.contains (oc * 1024 + k, x)
  | .invokespecial k => n == pc + 3 && decide (k < 1024) && (mLk.contains (oc * 1024 + k, x) || nLk.contains (oc * 1024 + k, x))
  | .invokestatic k => n == pc + 3 && decide (k < 1024) && (mLk.contains (oc * 1024 + k, x) || nLk.contains (oc * 1024 + k, x))
  | .new k => n == pc + 3 && decide (k < 1024) && cLk.contains (oc * 1024 + k, x)
  | .anewarray k => n == pc + 3 && decide (k < 1024) && ((x == 30 && cLk.contains (oc * 1024 + k, 0)) || (x == 31 && cLk.contains (oc * 1024 + k, 1)) || (x == 32 && cLk.contains (oc * 1024 + k, 2)) || (x == 33 && cLk.contains (oc * 1024 + k, 3)) || (x == 34 && cLk.contains (oc * 1024 + k, 4)) || (x == 35 && cLk.contains (oc * 1024 + k, 8)))
  | .newarray t => n == pc + 2 && (match t with | .byte => x == 20 | .int => x == 21 | .boolean => x == 22 | _ => false)
  | .ifCond _ f => n == pc + 3 && decide ((pc : Int) + f = (x : Int))
  | .if_icmp _ f => n == pc + 3 && decide ((pc : Int) + f = (x : Int))
  | .if_acmp _ f => n == pc + 3 && decide ((pc : Int) + f = (x : Int))
  | .ifnull f => n == pc + 3 && decide ((pc : Int) + f = (x : Int))
  | .ifnonnull f => n == pc + 3 && decide ((pc : Int) + f = (x : Int))
  | .goto f => n == pc + 3 && decide ((pc : Int) + f = (x : Int))
  | .tableswitch _ _ _ _ => true
  | .lookupswitch _ _ => true
  | .ldc k => n == pc + 2 && ((oc == 11 && k == 108 && x == 57600) || (oc == 5 && k == 150 && x == 0) || (oc == 5 && k == 156 && x == 1) || (oc == 5 && k == 158 && x == 2))
  | .sipush _ => n == pc + 3
  | .bipush _ => n == pc + 2
  | .iinc _ _ => n == pc + 3
  | .iload _ => n == pc + 2
  | .aload _ => n == pc + 2
  | .istore _ => n == pc + 2
  | .astore _ => n == pc + 2
  | _ => n == pc + 1
def okL (oc : Nat) (b : ByteArray) (L : List Ins) : Bool := L.all fun q => match decode b q.1 with
  | .ok (i, n) => decide (i = q.2.1) && (q.1 + n == q.2.2.1) && okI oc q.1 q.2.1 q.2.2.1 q.2.2.2
  | .error _ => false
theorem okL_0 : okL 0 prog_2_method_1_code cd0 = true := by decide +kernel
theorem okL_1 : okL 0 prog_2_method_2_code cd1 = true := by decide +kernel
theorem okL_2 : okL 0 prog_2_method_3_code cd2 = true := by decide +kernel
theorem okL_3 : okL 1 prog_3_method_1_code cd3 = true := by decide +kernel
theorem okL_4 : okL 1 prog_3_method_2_code cd4 = true := by decide +kernel
theorem okL_5 : okL 1 prog_3_method_3_code cd5 = true := by decide +kernel
theorem okL_6 : okL 1 prog_3_method_4_code cd6 = true := by decide +kernel
theorem okL_7 : okL 2 prog_4_method_1_code cd7 = true := by decide +kernel
theorem okL_8 : okL 3 prog_5_method_1_code cd8 = true := by decide +kernel
theorem okL_9 : okL 3 prog_5_method_2_code cd9 = true := by decide +kernel
theorem okL_10 : okL 3 prog_5_method_3_code cd10 = true := by decide +kernel
theorem okL_11 : okL 3 prog_5_method_4_code cd11 = true := by decide +kernel
theorem okL_12 : okL 3 prog_5_method_5_code cd12 = true := by decide +kernel
theorem okL_13 : okL 3 prog_5_method_6_code cd13 = true := by decide +kernel
theorem okL_14 : okL 3 prog_5_method_7_code cd14 = true := by decide +kernel
theorem okL_15 : okL 3 prog_5_method_8_code cd15 = true := by decide +kernel
theorem okL_16 : okL 3 prog_5_method_9_code cd16 = true := by decide +kernel
theorem okL_17 : okL 3 prog_5_method_10_code cd17 = true := by decide +kernel
theorem okL_18 : okL 4 prog_6_method_1_code cd18 = true := by decide +kernel
theorem okL_19 : okL 4 prog_6_method_2_code cd19 = true := by decide +kernel
theorem okL_20 : okL 4 prog_6_method_3_code cd20 = true := by decide +kernel
theorem okL_21 : okL 5 prog_7_method_1_code cd21 = true := by decide +kernel
theorem okL_22 : okL 5 prog_7_method_2_code cd22 = true := by decide +kernel
theorem okL_23 : okL 5 prog_7_method_3_code cd23 = true := by decide +kernel
theorem okL_24 : okL 5 prog_7_method_4_code cd24 = true := by decide +kernel
theorem okL_25 : okL 5 prog_7_method_5_code cd25 = true := by decide +kernel
theorem okL_26 : okL 5 prog_7_method_6_code cd26 = true := by decide +kernel
theorem okL_27 : okL 5 prog_7_method_7_code cd27 = true := by decide +kernel
theorem okL_28 : okL 5 prog_7_method_8_code cd28 = true := by decide +kernel
theorem okL_29 : okL 5 prog_7_method_9_code cd29 = true := by decide +kernel
theorem okL_30 : okL 5 prog_7_method_10_code cd30 = true := by decide +kernel
theorem okL_31 : okL 5 prog_7_method_11_code cd31 = true := by decide +kernel
theorem okL_32 : okL 5 prog_7_method_12_code cd32 = true := by decide +kernel
theorem okL_33 : okL 5 prog_7_method_13_code cd33 = true := by decide +kernel
theorem okL_34 : okL 5 prog_7_method_14_code cd34 = true := by decide +kernel
theorem okL_35 : okL 5 prog_7_method_15_code cd35 = true := by decide +kernel
theorem okL_36 : okL 6 prog_8_method_1_code cd36 = true := by decide +kernel
theorem okL_37 : okL 6 prog_8_method_2_code cd37 = true := by decide +kernel
theorem okL_38 : okL 6 prog_8_method_3_code cd38 = true := by decide +kernel
theorem okL_39 : okL 6 prog_8_method_4_code cd39 = true := by decide +kernel
theorem okL_40 : okL 6 prog_8_method_5_code cd40 = true := by decide +kernel
theorem okL_41 : okL 6 prog_8_method_6_code cd41 = true := by decide +kernel
theorem okL_42 : okL 6 prog_8_method_7_code cd42 = true := by decide +kernel
theorem okL_43 : okL 6 prog_8_method_8_code cd43 = true := by decide +kernel
theorem okL_44 : okL 6 prog_8_method_9_code cd44 = true := by decide +kernel
theorem okL_45 : okL 6 prog_8_method_10_code cd45 = true := by decide +kernel
theorem okL_46 : okL 7 prog_9_method_1_code cd46 = true := by decide +kernel
theorem okL_47 : okL 7 prog_9_method_2_code cd47 = true := by decide +kernel
theorem okL_48 : okL 7 prog_9_method_3_code cd48 = true := by decide +kernel
theorem okL_49 : okL 7 prog_9_method_4_code cd49 = true := by decide +kernel
theorem okL_50 : okL 7 prog_9_method_5_code cd50 = true := by decide +kernel
theorem okL_51 : okL 7 prog_9_method_6_code cd51 = true := by decide +kernel
theorem okL_52 : okL 7 prog_9_method_7_code cd52 = true := by decide +kernel
theorem okL_53 : okL 7 prog_9_method_8_code cd53 = true := by decide +kernel
theorem okL_54 : okL 7 prog_9_method_9_code cd54 = true := by decide +kernel
theorem okL_55 : okL 7 prog_9_method_10_code cd55 = true := by decide +kernel
theorem okL_56 : okL 7 prog_9_method_11_code cd56 = true := by decide +kernel
theorem okL_57 : okL 7 prog_9_method_12_code cd57 = true := by decide +kernel
theorem okL_58 : okL 8 prog_10_method_1_code cd58 = true := by decide +kernel
theorem okL_59 : okL 8 prog_10_method_2_code cd59 = true := by decide +kernel
theorem okL_60 : okL 8 prog_10_method_3_code cd60 = true := by decide +kernel
theorem okL_61 : okL 8 prog_10_method_4_code cd61 = true := by decide +kernel
theorem okL_62 : okL 8 prog_10_method_5_code cd62 = true := by decide +kernel
theorem okL_63 : okL 8 prog_10_method_6_code cd63 = true := by decide +kernel
theorem okL_64 : okL 8 prog_10_method_7_code cd64 = true := by decide +kernel
theorem okL_65 : okL 8 prog_10_method_8_code cd65 = true := by decide +kernel
theorem okL_66 : okL 8 prog_10_method_9_code cd66 = true := by decide +kernel
theorem okL_67 : okL 8 prog_10_method_10_code cd67 = true := by decide +kernel
theorem okL_68 : okL 8 prog_10_method_11_code cd68 = true := by decide +kernel
theorem okL_69 : okL 8 prog_10_method_12_code cd69 = true := by decide +kernel
theorem okL_70 : okL 8 prog_10_method_13_code cd70 = true := by decide +kernel
theorem okL_71 : okL 8 prog_10_method_14_code cd71 = true := by decide +kernel
theorem okL_72 : okL 9 prog_11_method_1_code cd72 = true := by decide +kernel
theorem okL_73 : okL 9 prog_11_method_2_code cd73 = true := by decide +kernel
theorem okL_74 : okL 9 prog_11_method_3_code cd74 = true := by decide +kernel
theorem okL_75 : okL 9 prog_11_method_4_code cd75 = true := by decide +kernel
theorem okL_76 : okL 9 prog_11_method_5_code cd76 = true := by decide +kernel
theorem okL_77 : okL 9 prog_11_method_6_code cd77 = true := by decide +kernel
theorem okL_78 : okL 9 prog_11_method_7_code cd78 = true := by decide +kernel
theorem okL_79 : okL 9 prog_11_method_8_code cd79 = true := by decide +kernel
theorem okL_80 : okL 10 prog_1_method_1_code cd80 = true := by decide +kernel
theorem okL_81 : okL 10 prog_1_method_2_code cd81 = true := by decide +kernel
theorem okL_82 : okL 10 prog_1_method_3_code cd82 = true := by decide +kernel
theorem okL_83 : okL 10 prog_1_method_4_code cd83 = true := by decide +kernel
theorem okL_84 : okL 10 prog_1_method_5_code cd84 = true := by decide +kernel
theorem okL_85 : okL 10 prog_1_method_6_code cd85 = true := by decide +kernel
theorem okL_86 : okL 10 prog_1_method_7_code cd86 = true := by decide +kernel
theorem okL_87 : okL 10 prog_1_method_8_code cd87 = true := by decide +kernel
theorem okL_88 : okL 10 prog_1_method_9_code cd88 = true := by decide +kernel
theorem okL_89 : okL 10 prog_1_method_10_code cd89 = true := by decide +kernel
theorem okL_90 : okL 10 prog_1_method_11_code cd90 = true := by decide +kernel
theorem okL_91 : okL 10 prog_1_method_12_code cd91 = true := by decide +kernel
theorem okL_92 : okL 10 prog_1_method_13_code cd92 = true := by decide +kernel
theorem okL_93 : okL 10 prog_1_method_14_code cd93 = true := by decide +kernel
theorem okL_94 : okL 10 prog_1_method_15_code cd94 = true := by decide +kernel
theorem okL_95 : okL 10 prog_1_method_16_code cd95 = true := by decide +kernel
theorem okL_96 : okL 10 prog_1_method_17_code cd96 = true := by decide +kernel
theorem okL_97 : okL 10 prog_1_method_18_code cd97 = true := by decide +kernel
theorem okL_98 : okL 10 prog_1_method_19_code cd98 = true := by decide +kernel
theorem okL_99 : okL 10 prog_1_method_20_code cd99 = true := by decide +kernel
theorem okL_100 : okL 10 prog_1_method_21_code cd100 = true := by decide +kernel
theorem okL_101 : okL 10 prog_1_method_22_code cd101 = true := by decide +kernel
theorem okL_102 : okL 10 prog_1_method_23_code cd102 = true := by decide +kernel
theorem okL_103 : okL 10 prog_1_method_24_code cd103 = true := by decide +kernel
theorem okL_104 : okL 10 prog_1_method_25_code cd104 = true := by decide +kernel
theorem okL_105 : okL 10 prog_1_method_26_code cd105 = true := by decide +kernel
theorem okL_106 : okL 10 prog_1_method_27_code cd106 = true := by decide +kernel
theorem okL_107 : okL 10 prog_1_method_28_code cd107 = true := by decide +kernel
theorem okL_108 : okL 10 prog_1_method_29_code cd108 = true := by decide +kernel
theorem okL_109 : okL 10 prog_1_method_30_code cd109 = true := by decide +kernel
theorem okL_110 : okL 10 prog_1_method_31_code cd110 = true := by decide +kernel
theorem okL_111 : okL 10 prog_1_method_32_code cd111 = true := by decide +kernel
theorem okL_112 : okL 10 prog_1_method_33_code cd112 = true := by decide +kernel
theorem okL_113 : okL 10 prog_1_method_34_code cd113 = true := by decide +kernel
theorem okL_114 : okL 10 prog_1_method_35_code cd114 = true := by decide +kernel
theorem okL_115 : okL 10 prog_1_method_36_code cd115 = true := by decide +kernel
theorem okL_116 : okL 10 prog_1_method_37_code cd116 = true := by decide +kernel
theorem okL_117 : okL 11 prog_13_method_1_code cd117 = true := by decide +kernel
theorem okL_118 : okL 11 prog_13_method_2_code cd118 = true := by decide +kernel
theorem okL_119 : okL 11 prog_13_method_3_code cd119 = true := by decide +kernel
theorem okL_120 : okL 11 prog_13_method_4_code cd120 = true := by decide +kernel
theorem okL_121 : okL 11 prog_13_method_5_code cd121 = true := by decide +kernel
theorem okL_122 : okL 11 prog_13_method_6_code cd122 = true := by decide +kernel
theorem okL_123 : okL 11 prog_13_method_7_code cd123 = true := by decide +kernel
theorem okL_124 : okL 11 prog_13_method_8_code cd124 = true := by decide +kernel
theorem okL_125 : okL 11 prog_13_method_9_code cd125 = true := by decide +kernel
theorem okL_126 : okL 11 prog_13_method_10_code cd126 = true := by decide +kernel
theorem okL_127 : okL 11 prog_13_method_11_code cd127 = true := by decide +kernel
theorem okL_128 : okL 11 prog_13_method_12_code cd128 = true := by decide +kernel
theorem okL_129 : okL 11 prog_13_method_13_code cd129 = true := by decide +kernel
theorem okL_130 : okL 11 prog_13_method_14_code cd130 = true := by decide +kernel
theorem okL_131 : okL 11 prog_13_method_15_code cd131 = true := by decide +kernel
theorem okL_132 : okL 11 prog_13_method_16_code cd132 = true := by decide +kernel
theorem okL_133 : okL 11 prog_13_method_17_code cd133 = true := by decide +kernel
theorem okL_134 : okL 11 prog_13_method_18_code cd134 = true := by decide +kernel
theorem okL_135 : okL 11 prog_13_method_19_code cd135 = true := by decide +kernel
theorem okL_136 : okL 11 prog_13_method_20_code cd136 = true := by decide +kernel
theorem okL_137 : okL 11 prog_13_method_21_code cd137 = true := by decide +kernel
theorem okL_138 : okL 11 prog_13_method_22_code cd138 = true := by decide +kernel
theorem okL_139 : okL 11 prog_13_method_23_code cd139 = true := by decide +kernel
theorem okL_140 : okL 11 prog_13_method_24_code cd140 = true := by decide +kernel
theorem okL_141 : okL 11 prog_13_method_25_code cd141 = true := by decide +kernel
theorem okL_142 : okL 11 prog_13_method_26_code cd142 = true := by decide +kernel
theorem okL_143 : okL 11 prog_13_method_27_code cd143 = true := by decide +kernel
theorem okL_144 : okL 11 prog_13_method_28_code cd144 = true := by decide +kernel
theorem okL_145 : okL 11 prog_13_method_29_code cd145 = true := by decide +kernel
theorem okL_146 : okL 11 prog_13_method_30_code cd146 = true := by decide +kernel
theorem okL_147 : okL 11 prog_13_method_31_code cd147 = true := by decide +kernel
theorem okL_148 : okL 11 prog_13_method_32_code cd148 = true := by decide +kernel
theorem okL_149 : okL 11 prog_13_method_33_code cd149 = true := by decide +kernel
theorem okL_150 : okL 11 prog_13_method_34_code cd150 = true := by decide +kernel
theorem okL_151 : okL 11 prog_13_method_35_code cd151 = true := by decide +kernel
theorem okL_152 : okL 11 prog_13_method_36_code cd152 = true := by decide +kernel
theorem okL_153 : okL 11 prog_13_method_37_code cd153 = true := by decide +kernel
theorem okL_154 : okL 11 prog_13_method_38_code cd154 = true := by decide +kernel
theorem okL_155 : okL 11 prog_13_method_39_code cd155 = true := by decide +kernel
theorem okL_156 : okL 11 prog_13_method_40_code cd156 = true := by decide +kernel
theorem okL_157 : okL 11 prog_13_method_41_code cd157 = true := by decide +kernel
theorem okL_158 : okL 11 prog_13_method_42_code cd158 = true := by decide +kernel
theorem okL_159 : okL 11 prog_13_method_43_code cd159 = true := by decide +kernel
theorem okL_160 : okL 11 prog_13_method_44_code cd160 = true := by decide +kernel
theorem okL_161 : okL 11 prog_13_method_45_code cd161 = true := by decide +kernel
theorem okL_162 : okL 11 prog_13_method_46_code cd162 = true := by decide +kernel
theorem okL_163 : okL 11 prog_13_method_47_code cd163 = true := by decide +kernel
theorem okL_164 : okL 11 prog_13_method_48_code cd164 = true := by decide +kernel
theorem okL_165 : okL 11 prog_13_method_49_code cd165 = true := by decide +kernel
theorem okL_166 : okL 11 prog_13_method_50_code cd166 = true := by decide +kernel
theorem okL_167 : okL 11 prog_13_method_51_code cd167 = true := by decide +kernel
theorem okL_168 : okL 11 prog_13_method_52_code cd168 = true := by decide +kernel
theorem okL_169 : okL 11 prog_13_method_53_code cd169 = true := by decide +kernel
theorem okL_170 : okL 11 prog_13_method_54_code cd170 = true := by decide +kernel
theorem okL_171 : okL 11 prog_13_method_55_code cd171 = true := by decide +kernel
theorem okL_172 : okL 11 prog_13_method_56_code cd172 = true := by decide +kernel
theorem okL_173 : okL 11 prog_13_method_57_code cd173 = true := by decide +kernel
theorem okL_174 : okL 11 prog_13_method_58_code cd174 = true := by decide +kernel
theorem okL_175 : okL 11 prog_13_method_59_code cd175 = true := by decide +kernel
theorem okL_176 : okL 11 prog_13_method_60_code cd176 = true := by decide +kernel
theorem okL_177 : okL 11 prog_13_method_61_code cd177 = true := by decide +kernel
theorem okL_178 : okL 11 prog_13_method_62_code cd178 = true := by decide +kernel
theorem okL_179 : okL 11 prog_13_method_63_code cd179 = true := by decide +kernel
theorem okL_180 : okL 11 prog_13_method_64_code cd180 = true := by decide +kernel
theorem okL_181 : okL 11 prog_13_method_65_code cd181 = true := by decide +kernel
theorem okL_182 : okL 11 prog_13_method_66_code cd182 = true := by decide +kernel
theorem okL_183 : okL 11 prog_13_method_67_code cd183 = true := by decide +kernel
theorem okL_184 : okL 11 prog_13_method_68_code cd184 = true := by decide +kernel
theorem okL_185 : okL 11 prog_13_method_69_code cd185 = true := by decide +kernel
theorem okL_186 : okL 11 prog_13_method_70_code cd186 = true := by decide +kernel
theorem okL_187 : okL 11 prog_13_method_71_code cd187 = true := by decide +kernel
theorem okL_188 : okL 12 prog_14_method_65_code cd188 = true := by decide +kernel
theorem okL_189 : okL 12 prog_14_method_69_code cd189 = true := by decide +kernel
theorem okL_190 : okL 13 prog_19_method_103_code cd190 = true := by decide +kernel
end
section
/-! the law's own bytes, forty instructions at a time -/
theorem okLw_0 : okL 14 code ((cd191.drop 0).take 40) = true := by decide +kernel
theorem okLw_1 : okL 14 code ((cd191.drop 40).take 40) = true := by decide +kernel
theorem okLw_2 : okL 14 code ((cd191.drop 80).take 40) = true := by decide +kernel
theorem okLw_3 : okL 14 code ((cd191.drop 120).take 40) = true := by decide +kernel
theorem okLw_4 : okL 14 code ((cd191.drop 160).take 40) = true := by decide +kernel
theorem okLw_5 : okL 14 code ((cd191.drop 200).take 40) = true := by decide +kernel
theorem okLw_6 : okL 14 code ((cd191.drop 240).take 40) = true := by decide +kernel
theorem okLw_7 : okL 14 code ((cd191.drop 280).take 40) = true := by decide +kernel
theorem okLw_8 : okL 14 code ((cd191.drop 320).take 40) = true := by decide +kernel
theorem okLw_9 : okL 14 code ((cd191.drop 360).take 40) = true := by decide +kernel
theorem okLw_10 : okL 14 code ((cd191.drop 400).take 40) = true := by decide +kernel
theorem okLw_11 : okL 14 code ((cd191.drop 440).take 40) = true := by decide +kernel
theorem okLw_12 : okL 14 code ((cd191.drop 480).take 40) = true := by decide +kernel
theorem okLw_13 : okL 14 code ((cd191.drop 520).take 40) = true := by decide +kernel
theorem okLw_14 : okL 14 code ((cd191.drop 560).take 40) = true := by decide +kernel
theorem okLw_15 : okL 14 code ((cd191.drop 600).take 40) = true := by decide +kernel
theorem okLw_16 : okL 14 code ((cd191.drop 640).take 40) = true := by decide +kernel
theorem okLw_17 : okL 14 code ((cd191.drop 680).take 40) = true := by decide +kernel
end
section
/-! ===== the table of the methods ===== -/
def mrD : Mr := (⟨"", "", ""⟩, ByteArray.empty, 0, none, 0, [], (0, 0), (0, 0), [])
def mr (y : Nat) : Mr := MTL.getD y mrD
def mName (y : Nat) : MethodName := (mr y).1
def mCode (y : Nat) : ByteArray := (mr y).2.1
def mLoc (y : Nat) : Nat := (mr y).2.2.1
def mRet (y : Nat) : Option FieldType := (mr y).2.2.2.1
def mCls (y : Nat) : Nat := (mr y).2.2.2.2.1
def mIns (y : Nat) : List Ins := (mr y).2.2.2.2.2.1
def mFr (y : Nat) : Nat := (mr y).2.2.2.2.2.2.1.1
def mLw (y : Nat) : Nat := (mr y).2.2.2.2.2.2.1.2
def mKd (y : Nat) : Nat := (mr y).2.2.2.2.2.2.2.1.1
def mNa (y : Nat) : Nat := (mr y).2.2.2.2.2.2.2.1.2
def mWp (y : Nat) : List Nat := (mr y).2.2.2.2.2.2.2.2
def ftL : List Ins → Nat → Option (Instr × Nat × Nat)
  | [], _ => none
  | q :: r, pc => bif Nat.beq q.1 pc then some q.2 else ftL r pc
def ft (y pc : Nat) : Option (Instr × Nat × Nat) := ftL (mIns y) pc
theorem ftL_mem {L : List Ins} {pc : Nat} {q : Instr × Nat × Nat} (h : ftL L pc = some q) : (pc, q) ∈ L := by
  induction L with
  | nil => cases h
  | cons a r ih =>
    unfold ftL at h
    cases hb : Nat.beq a.1 pc with
    | true =>
      rw [hb] at h
      have e := Nat.eq_of_beq_eq_true hb
      have h2 : a.2 = q := Option.some.inj h
      rw [← h2, ← e]
      exact List.mem_cons_self
    | false =>
      rw [hb] at h
      exact List.mem_cons_of_mem _ (ih h)
theorem okL_step {oc : Nat} {b : ByteArray} {L : List Ins} {m k : Nat} (h1 : okL oc b ((L.drop m).take k) = true) (h2 : okL oc b (L.drop (m + k)) = true) : okL oc b (L.drop m) = true := by
  unfold okL at *
  rw [← List.take_append_drop k (L.drop m), List.all_append, h1, List.drop_drop, h2]
  rfl
theorem okL_191 : okL 14 code cd191 = true :=
  okL_step (m := 0) (k := 40) okLw_0 (okL_step okLw_1 (okL_step okLw_2 (okL_step okLw_3 (okL_step okLw_4 (okL_step okLw_5 (okL_step okLw_6 (okL_step okLw_7 (okL_step okLw_8 (okL_step okLw_9 (okL_step okLw_10 (okL_step okLw_11 (okL_step okLw_12 (okL_step okLw_13 (okL_step okLw_14 (okL_step okLw_15 (okL_step okLw_16 (okL_step okLw_17 (by decide +kernel))))))))))))))))))
set_option maxRecDepth 100000 in
theorem okAll : ∀ M ∈ MTL, okL M.2.2.2.2.1 M.2.1 M.2.2.2.2.2.1 = true := by
  unfold MTL
  exact List.forall_mem_cons.mpr ⟨okL_0, List.forall_mem_cons.mpr ⟨okL_1, List.forall_mem_cons.mpr ⟨okL_2, List.forall_mem_cons.mpr ⟨okL_3, List.forall_mem_cons.mpr ⟨okL_4, List.forall_mem_cons.mpr ⟨okL_5, List.forall_mem_cons.mpr ⟨okL_6, List.forall_mem_cons.mpr ⟨okL_7, List.forall_mem_cons.mpr ⟨okL_8, List.forall_mem_cons.mpr ⟨okL_9, List.forall_mem_cons.mpr ⟨okL_10, List.forall_mem_cons.mpr ⟨okL_11, List.forall_mem_cons.mpr ⟨okL_12, List.forall_mem_cons.mpr ⟨okL_13, List.forall_mem_cons.mpr ⟨okL_14, List.forall_mem_cons.mpr ⟨okL_15, List.forall_mem_cons.mpr ⟨okL_16, List.forall_mem_cons.mpr ⟨okL_17, List.forall_mem_cons.mpr ⟨okL_18, List.forall_mem_cons.mpr ⟨okL_19, List.forall_mem_cons.mpr ⟨okL_20, List.forall_mem_cons.mpr ⟨okL_21, List.forall_mem_cons.mpr ⟨okL_22, List.forall_mem_cons.mpr ⟨okL_23, List.forall_mem_cons.mpr ⟨okL_24, List.forall_mem_cons.mpr ⟨okL_25, List.forall_mem_cons.mpr ⟨okL_26, List.forall_mem_cons.mpr ⟨okL_27, List.forall_mem_cons.mpr ⟨okL_28, List.forall_mem_cons.mpr ⟨okL_29, List.forall_mem_cons.mpr ⟨okL_30, List.forall_mem_cons.mpr ⟨okL_31, List.forall_mem_cons.mpr ⟨okL_32, List.forall_mem_cons.mpr ⟨okL_33, List.forall_mem_cons.mpr ⟨okL_34, List.forall_mem_cons.mpr ⟨okL_35, List.forall_mem_cons.mpr ⟨okL_36, List.forall_mem_cons.mpr ⟨okL_37, List.forall_mem_cons.mpr ⟨okL_38, List.forall_mem_cons.mpr ⟨okL_39, List.forall_mem_cons.mpr ⟨okL_40, List.forall_mem_cons.mpr ⟨okL_41, List.forall_mem_cons.mpr ⟨okL_42, List.forall_mem_cons.mpr ⟨okL_43, List.forall_mem_cons.mpr ⟨okL_44, List.forall_mem_cons.mpr ⟨okL_45, List.forall_mem_cons.mpr ⟨okL_46, List.forall_mem_cons.mpr ⟨okL_47, List.forall_mem_cons.mpr ⟨okL_48, List.forall_mem_cons.mpr ⟨okL_49, List.forall_mem_cons.mpr ⟨okL_50, List.forall_mem_cons.mpr ⟨okL_51, List.forall_mem_cons.mpr ⟨okL_52, List.forall_mem_cons.mpr ⟨okL_53, List.forall_mem_cons.mpr ⟨okL_54, List.forall_mem_cons.mpr ⟨okL_55, List.forall_mem_cons.mpr ⟨okL_56, List.forall_mem_cons.mpr ⟨okL_57, List.forall_mem_cons.mpr ⟨okL_58, List.forall_mem_cons.mpr ⟨okL_59, List.forall_mem_cons.mpr ⟨okL_60, List.forall_mem_cons.mpr ⟨okL_61, List.forall_mem_cons.mpr ⟨okL_62, List.forall_mem_cons.mpr ⟨okL_63, List.forall_mem_cons.mpr ⟨okL_64, List.forall_mem_cons.mpr ⟨okL_65, List.forall_mem_cons.mpr ⟨okL_66, List.forall_mem_cons.mpr ⟨okL_67, List.forall_mem_cons.mpr ⟨okL_68, List.forall_mem_cons.mpr ⟨okL_69, List.forall_mem_cons.mpr ⟨okL_70, List.forall_mem_cons.mpr ⟨okL_71, List.forall_mem_cons.mpr ⟨okL_72, List.forall_mem_cons.mpr ⟨okL_73, List.forall_mem_cons.mpr ⟨okL_74, List.forall_mem_cons.mpr ⟨okL_75, List.forall_mem_cons.mpr ⟨okL_76, List.forall_mem_cons.mpr ⟨okL_77, List.forall_mem_cons.mpr ⟨okL_78, List.forall_mem_cons.mpr ⟨okL_79, List.forall_mem_cons.mpr ⟨okL_80, List.forall_mem_cons.mpr ⟨okL_81, List.forall_mem_cons.mpr ⟨okL_82, List.forall_mem_cons.mpr ⟨okL_83, List.forall_mem_cons.mpr ⟨okL_84, List.forall_mem_cons.mpr ⟨okL_85, List.forall_mem_cons.mpr ⟨okL_86, List.forall_mem_cons.mpr ⟨okL_87, List.forall_mem_cons.mpr ⟨okL_88, List.forall_mem_cons.mpr ⟨okL_89, List.forall_mem_cons.mpr ⟨okL_90, List.forall_mem_cons.mpr ⟨okL_91, List.forall_mem_cons.mpr ⟨okL_92, List.forall_mem_cons.mpr ⟨okL_93, List.forall_mem_cons.mpr ⟨okL_94, List.forall_mem_cons.mpr ⟨okL_95, List.forall_mem_cons.mpr ⟨okL_96, List.forall_mem_cons.mpr ⟨okL_97, List.forall_mem_cons.mpr ⟨okL_98, List.forall_mem_cons.mpr ⟨okL_99, List.forall_mem_cons.mpr ⟨okL_100, List.forall_mem_cons.mpr ⟨okL_101, List.forall_mem_cons.mpr ⟨okL_102, List.forall_mem_cons.mpr ⟨okL_103, List.forall_mem_cons.mpr ⟨okL_104, List.forall_mem_cons.mpr ⟨okL_105, List.forall_mem_cons.mpr ⟨okL_106, List.forall_mem_cons.mpr ⟨okL_107, List.forall_mem_cons.mpr ⟨okL_108, List.forall_mem_cons.mpr ⟨okL_109, List.forall_mem_cons.mpr ⟨okL_110, List.forall_mem_cons.mpr ⟨okL_111, List.forall_mem_cons.mpr ⟨okL_112, List.forall_mem_cons.mpr ⟨okL_113, List.forall_mem_cons.mpr ⟨okL_114, List.forall_mem_cons.mpr ⟨okL_115, List.forall_mem_cons.mpr ⟨okL_116, List.forall_mem_cons.mpr ⟨okL_117, List.forall_mem_cons.mpr ⟨okL_118, List.forall_mem_cons.mpr ⟨okL_119, List.forall_mem_cons.mpr ⟨okL_120, List.forall_mem_cons.mpr ⟨okL_121, List.forall_mem_cons.mpr ⟨okL_122, List.forall_mem_cons.mpr ⟨okL_123, List.forall_mem_cons.mpr ⟨okL_124, List.forall_mem_cons.mpr ⟨okL_125, List.forall_mem_cons.mpr ⟨okL_126, List.forall_mem_cons.mpr ⟨okL_127, List.forall_mem_cons.mpr ⟨okL_128, List.forall_mem_cons.mpr ⟨okL_129, List.forall_mem_cons.mpr ⟨okL_130, List.forall_mem_cons.mpr ⟨okL_131, List.forall_mem_cons.mpr ⟨okL_132, List.forall_mem_cons.mpr ⟨okL_133, List.forall_mem_cons.mpr ⟨okL_134, List.forall_mem_cons.mpr ⟨okL_135, List.forall_mem_cons.mpr ⟨okL_136, List.forall_mem_cons.mpr ⟨okL_137, List.forall_mem_cons.mpr ⟨okL_138, List.forall_mem_cons.mpr ⟨okL_139, List.forall_mem_cons.mpr ⟨okL_140, List.forall_mem_cons.mpr ⟨okL_141, List.forall_mem_cons.mpr ⟨okL_142, List.forall_mem_cons.mpr ⟨okL_143, List.forall_mem_cons.mpr ⟨okL_144, List.forall_mem_cons.mpr ⟨okL_145, List.forall_mem_cons.mpr ⟨okL_146, List.forall_mem_cons.mpr ⟨okL_147, List.forall_mem_cons.mpr ⟨okL_148, List.forall_mem_cons.mpr ⟨okL_149, List.forall_mem_cons.mpr ⟨okL_150, List.forall_mem_cons.mpr ⟨okL_151, List.forall_mem_cons.mpr ⟨okL_152, List.forall_mem_cons.mpr ⟨okL_153, List.forall_mem_cons.mpr ⟨okL_154, List.forall_mem_cons.mpr ⟨okL_155, List.forall_mem_cons.mpr ⟨okL_156, List.forall_mem_cons.mpr ⟨okL_157, List.forall_mem_cons.mpr ⟨okL_158, List.forall_mem_cons.mpr ⟨okL_159, List.forall_mem_cons.mpr ⟨okL_160, List.forall_mem_cons.mpr ⟨okL_161, List.forall_mem_cons.mpr ⟨okL_162, List.forall_mem_cons.mpr ⟨okL_163, List.forall_mem_cons.mpr ⟨okL_164, List.forall_mem_cons.mpr ⟨okL_165, List.forall_mem_cons.mpr ⟨okL_166, List.forall_mem_cons.mpr ⟨okL_167, List.forall_mem_cons.mpr ⟨okL_168, List.forall_mem_cons.mpr ⟨okL_169, List.forall_mem_cons.mpr ⟨okL_170, List.forall_mem_cons.mpr ⟨okL_171, List.forall_mem_cons.mpr ⟨okL_172, List.forall_mem_cons.mpr ⟨okL_173, List.forall_mem_cons.mpr ⟨okL_174, List.forall_mem_cons.mpr ⟨okL_175, List.forall_mem_cons.mpr ⟨okL_176, List.forall_mem_cons.mpr ⟨okL_177, List.forall_mem_cons.mpr ⟨okL_178, List.forall_mem_cons.mpr ⟨okL_179, List.forall_mem_cons.mpr ⟨okL_180, List.forall_mem_cons.mpr ⟨okL_181, List.forall_mem_cons.mpr ⟨okL_182, List.forall_mem_cons.mpr ⟨okL_183, List.forall_mem_cons.mpr ⟨okL_184, List.forall_mem_cons.mpr ⟨okL_185, List.forall_mem_cons.mpr ⟨okL_186, List.forall_mem_cons.mpr ⟨okL_187, List.forall_mem_cons.mpr ⟨okL_188, List.forall_mem_cons.mpr ⟨okL_189, List.forall_mem_cons.mpr ⟨okL_190, List.forall_mem_cons.mpr ⟨okL_191, fun _ h => absurd h List.not_mem_nil⟩⟩⟩⟩⟩⟩⟩⟩⟩⟩⟩⟩⟩⟩⟩⟩⟩⟩⟩⟩⟩⟩⟩⟩⟩⟩⟩⟩⟩⟩⟩⟩⟩⟩⟩⟩⟩⟩⟩⟩⟩⟩⟩⟩⟩⟩⟩⟩⟩⟩⟩⟩⟩⟩⟩⟩⟩⟩⟩⟩⟩⟩⟩⟩⟩⟩⟩⟩⟩⟩⟩⟩⟩⟩⟩⟩⟩⟩⟩⟩⟩⟩⟩⟩⟩⟩⟩⟩⟩⟩⟩⟩⟩⟩⟩⟩⟩⟩⟩⟩⟩⟩⟩⟩⟩⟩⟩⟩⟩⟩⟩⟩⟩⟩⟩⟩⟩⟩⟩⟩⟩⟩⟩⟩⟩⟩⟩⟩⟩⟩⟩⟩⟩⟩⟩⟩⟩⟩⟩⟩⟩⟩⟩⟩⟩⟩⟩⟩⟩⟩⟩⟩⟩⟩⟩⟩⟩⟩⟩⟩⟩⟩⟩⟩⟩⟩⟩⟩⟩⟩⟩⟩⟩⟩⟩⟩⟩⟩⟩⟩⟩⟩⟩⟩⟩⟩⟩⟩⟩⟩⟩⟩
theorem mr_in {y : Nat} (h : mIns y ≠ []) : mr y ∈ MTL := by
  unfold mr
  by_cases hy : y < MTL.length
  · rw [List.getD_eq_getElem?_getD, List.getElem?_eq_getElem hy]
    exact List.getElem_mem hy
  · exfalso
    apply h
    unfold mIns mr
    rw [List.getD_eq_getElem?_getD, List.getElem?_eq_none (by omega)]
    rfl
theorem ft_ok {y pc n x : Nat} {i : Instr} (h : ft y pc = some (i, n, x)) : decode (mCode y) pc = .ok (i, n - pc) ∧ okI (mCls y) pc i n x = true := by
  have hm := ftL_mem h
  have hin := mr_in (y := y) (fun e => by rw [e] at hm; cases hm)
  have hk := okAll (mr y) hin
  have h2 := List.all_eq_true.mp hk _ hm
  change (match decode (mCode y) pc with
    | .ok (i', n') => decide (i' = i) && (pc + n' == n) && okI (mCls y) pc i n x
    | .error _ => false) = true at h2
  cases hd : decode (mCode y) pc with
  | error e => rw [hd] at h2; cases h2
  | ok v =>
    obtain ⟨i', n'⟩ := v
    rw [hd] at h2
    simp only [Bool.and_eq_true, decide_eq_true_eq, beq_iff_eq] at h2
    obtain ⟨⟨h3, h4⟩, h5⟩ := h2
    subst h3
    have h6 : n - pc = n' := by omega
    rw [h6]
    exact ⟨rfl, h5⟩
/-! ===== the words ===== -/
theorem fLk_all : fLk.map fLkW = fLkI.filterMap (fun i => lw_tbl[i]?) := by decide +kernel
theorem fLk_good : (fLk.map fLkW).all goodWord = true := by decide +kernel
theorem fLk_rng : fLk.all (fun q => decide (q.2 / 64 < 12) && decide (q.2 % 64 < fN (q.2 / 64))) = true := by decide +kernel
theorem in_TB {ws : List Cond} {ps : List Nat} (h1 : ws = ps.filterMap (fun i => lw_tbl[i]?)) (h2 : ws.all goodWord = true) : ∀ w ∈ ws, w ∈ TB := by
  intro w hw
  refine List.mem_filter.mpr ⟨?_, List.all_eq_true.mp h2 w hw⟩
  rw [h1] at hw
  obtain ⟨i, -, hi⟩ := List.mem_filterMap.mp hw
  exact List.mem_of_getElem? hi
theorem fLk_in {q : Nat × Nat} (h : fLk.contains q = true) : fLkW q ∈ TB ∧ q.2 / 64 < 12 ∧ q.2 % 64 < fN (q.2 / 64) := by
  have hm : q ∈ fLk := by simpa using h
  have h2 := List.all_eq_true.mp fLk_rng q hm
  simp only [Bool.and_eq_true, decide_eq_true_eq] at h2
  exact ⟨in_TB fLk_all fLk_good _ (List.mem_map.mpr ⟨q, hm, rfl⟩), h2.1, h2.2⟩
theorem vw_at {ci : Nat} (h : ci < 12) : vwCl[ci]? = some (cnm ci, fT ci, fN ci) := by
  match ci, h with
  | 0, _ => rfl
  | 1, _ => rfl
  | 2, _ => rfl
  | 3, _ => rfl
  | 4, _ => rfl
  | 5, _ => rfl
  | 6, _ => rfl
  | 7, _ => rfl
  | 8, _ => rfl
  | 9, _ => rfl
  | 10, _ => rfl
  | 11, _ => rfl
theorem vw_in {ci : Nat} (h : ci < 12) : ∀ w ∈ u_ws (cnm ci) (fT ci) (fN ci), w ∈ TB := by
  match ci, h with
  | 0, _ => decide +kernel
  | 1, _ => decide +kernel
  | 2, _ => decide +kernel
  | 3, _ => decide +kernel
  | 4, _ => decide +kernel
  | 5, _ => decide +kernel
  | 6, _ => decide +kernel
  | 7, _ => decide +kernel
  | 8, _ => decide +kernel
  | 9, _ => decide +kernel
  | 10, _ => decide +kernel
  | 11, _ => decide +kernel
theorem vw_ty {ci : Nat} (h : ci < 12) : ∀ k, k < fN ci → parseFieldDescriptor (fT ci k).2.2.1 = some (fTy ci k) := by
  match ci, h with
  | 0, _ => exact tyX0_ok
  | 1, _ => exact tyX1_ok
  | 2, _ => exact tyX2_ok
  | 3, _ => exact tyX3_ok
  | 4, _ => exact tyX4_ok
  | 5, _ => exact tyX5_ok
  | 6, _ => exact tyX6_ok
  | 7, _ => exact tyX7_ok
  | 8, _ => exact tyX8_ok
  | 9, _ => exact tyX9_ok
  | 10, _ => exact tyX10_ok
  | 11, _ => exact tyX11_ok
theorem vw_nm {ci : Nat} (h : ci < 12) : ∀ a, a < fN ci → ∀ b, b < fN ci → a ≠ b → (fT ci a).2.1 ≠ (fT ci b).2.1 := by
  match ci, h with
  | 0, _ => exact nmX0
  | 1, _ => exact nmX1
  | 2, _ => exact nmX2
  | 3, _ => exact nmX3
  | 4, _ => exact nmX4
  | 5, _ => exact nmX5
  | 6, _ => exact nmX6
  | 7, _ => exact nmX7
  | 8, _ => exact nmX8
  | 9, _ => exact nmX9
  | 10, _ => exact nmX10
  | 11, _ => exact nmX11
end
section
/-! ===== the heap as the program sees it: size, kinds, int fields, reference fields, lengths, int rows, reference rows ===== -/
abbrev Hp : Type := Nat × (Nat → Nat) × (Nat → Nat → Int32) × (Nat → Nat → Option Nat) × (Nat → Nat) × (Nat → Nat → Int32) × (Nat → Nat → Option Nat)
def h_z (σ : Hp) : Nat := σ.1
def h_K (σ : Hp) : Nat → Nat := σ.2.1
def h_I (σ : Hp) : Nat → Nat → Int32 := σ.2.2.1
def h_P (σ : Hp) : Nat → Nat → Option Nat := σ.2.2.2.1
def h_L (σ : Hp) : Nat → Nat := σ.2.2.2.2.1
def h_X (σ : Hp) : Nat → Nat → Int32 := σ.2.2.2.2.2.1
def h_Y (σ : Hp) : Nat → Nat → Option Nat := σ.2.2.2.2.2.2
def u_1 {α : Type} (f : Nat → α) (a : Nat) (v : α) : Nat → α := fun b => if b = a then v else f b
def u_2 {α : Type} (f : Nat → Nat → α) (a b : Nat) (v : α) : Nat → Nat → α := fun x y => if x = a ∧ y = b then v else f x y
def w_I (σ : Hp) (f a : Nat) (v : Int32) : Hp := (h_z σ, h_K σ, u_2 (h_I σ) f a v, h_P σ, h_L σ, h_X σ, h_Y σ)
def w_P (σ : Hp) (f a : Nat) (v : Option Nat) : Hp := (h_z σ, h_K σ, h_I σ, u_2 (h_P σ) f a v, h_L σ, h_X σ, h_Y σ)
def w_X (σ : Hp) (a : Nat) (g : Nat → Int32) : Hp := (h_z σ, h_K σ, h_I σ, h_P σ, h_L σ, u_1 (h_X σ) a g, h_Y σ)
def w_Y (σ : Hp) (a : Nat) (g : Nat → Option Nat) : Hp := (h_z σ, h_K σ, h_I σ, h_P σ, h_L σ, h_X σ, u_1 (h_Y σ) a g)
/-- a new object of kind t -/
def n_O (σ : Hp) (t : Nat) : Hp := (h_z σ + 1, u_1 (h_K σ) (h_z σ) t, fun f a => if a = h_z σ then 0 else h_I σ f a, fun f a => if a = h_z σ then none else h_P σ f a, h_L σ, h_X σ, h_Y σ)
/-- a new row of kind t and length n -/
def n_A (σ : Hp) (t n : Nat) : Hp := (h_z σ + 1, u_1 (h_K σ) (h_z σ) t, h_I σ, h_P σ, u_1 (h_L σ) (h_z σ) n, u_1 (h_X σ) (h_z σ) (fun _ => 0), u_1 (h_Y σ) (h_z σ) (fun _ => none))
def fPrim (ty : FieldType) : Bool := match ty with
  | .object _ => false
  | .array _ => false
  | _ => true
def fV (σ : Hp) (ci a k : Nat) : Value := if fPrim (fTy ci k) = true then .int (h_I σ (64 * ci + k) a) else va_rf (h_P σ (64 * ci + k) a)
def aTy (t : Nat) : Option FieldType := match t with
  | 20 => some .byte
  | 21 => some .int
  | 22 => some .boolean
  | 30 => some (.object RX0)
  | 31 => some (.object RX1)
  | 32 => some (.object RX2)
  | 33 => some (.object RX3)
  | 34 => some (.object RX4)
  | 35 => some (.object RX8)
  | _ => none
/-- what stays the same through a run: the classes' numbers and slots, the rows' classes, the heap at the law's beginning, the script (its place, length, ints), the places of the three texts and of their bytes -/
abbrev DD : Type := va_G × (Nat → ClassId) × Heap × (Nat × Nat × (Nat → Int32)) × (Nat → Nat) × (Nat → Nat)
def d_A (D : DD) : Nat → ClassId := D.2.1
def d_H (D : DD) : Heap := D.2.2.1
def d_b (D : DD) : Nat := D.2.2.2.1.1
def d_L (D : DD) : Nat := D.2.2.2.1.2.1
def d_x (D : DD) : Nat → Int32 := D.2.2.2.1.2.2
def d_t (D : DD) : Nat → Nat := D.2.2.2.2.1
def d_v (D : DD) : Nat → Nat := D.2.2.2.2.2
def d_n (D : DD) : Nat := (d_H D).size
def Rp (D : DD) (σ : Hp) (H : Heap) : Prop :=
  H.size = h_z σ ∧ d_n D ≤ h_z σ ∧ (∀ q : Nat, q < d_n D → H[q]? = (d_H D)[q]?) ∧ (∀ a, h_K σ a ≠ 0 → d_n D ≤ a ∧ a < h_z σ) ∧
  (∀ a ci, ci < 12 → h_K σ a = ci + 1 → t_OB a (D.1.1 ci) (fN ci) (D.1.2 ci) H (fV σ ci a)) ∧
  (∀ a t, t < 3 → h_K σ a = 20 + t → H[a]? = some (arrV (d_A D (20 + t)) (h_L σ a) (fun j => .int (h_X σ a j))) ∧ (t = 0 → ∀ j, fits .byte (.int (h_X σ a j)) = true)) ∧
  (∀ a t, t < 6 → h_K σ a = 30 + t → H[a]? = some (arrV (d_A D (30 + t)) (h_L σ a) (fun j => va_rf (h_Y σ a j))))
def txB : List (List Int32) := [[99, 100, 109], [120, 108, 99], [105, 118, 120]]
def txI : List (Nat × String) := [(150, "cdm"), (156, "xlc"), (158, "ivx")]
def nstW : List Cond := [.methodLinkNest RX3 48 (mName 116) RX10, .methodLinkNest RX6 46 (mName 116) RX10, .methodLinkNest RX9 13 (mName 7) RX10]
def ovC : List String := [RX0, RX1, RX2, RX3, RX4, RX8]
def KK (D : DD) (U : State) : Prop :=
  (∀ ci, ci < 12 → u_Kn U (cnm ci) (fT ci) (fN ci) (D.1.1 ci) (D.1.2 ci)) ∧ (∀ t ty, aTy t = some ty → ArrOfT U (d_A D t) ty ∧ va_RA U (d_A D t) ty) ∧
  va_X (d_b D) (d_L D) (d_x D) U (d_H D) ∧ d_b D < d_n D ∧ vk_S 3 [3, 3, 3] txB (d_t D) (d_v D) (fun q => d_n D ≤ q) U (d_H D) ∧
  (∀ i q, txI[i]? = some q → vk_R RX5 q.1 q.2 (d_t D i) U) ∧ va_Z "java/lang/String" "COMPACT_STRINGS" "Z" (.int 1) (fun q => d_n D ≤ q) U (d_H D) ∧ (∀ w ∈ nstW, va_Nw w U) ∧ ∀ C ∈ ovC, va_AO C U
theorem KK.same {D : DD} {u U : State} (hv : u.vm = U.vm) (h : KK D u) : KK D U := by
  obtain ⟨h1, h2, h3, h4, h5, h6, h7, h8, h9⟩ := h
  have hA : u.vm.Alike U.vm := by rw [hv]; exact Vm.Alike.refl _
  refine ⟨fun ci hc => u_Kn_moved hA (h1 ci hc), fun t ty ht => ⟨arrOfT_moved hA (h2 t ty ht).1, va_RA.moved hA (h2 t ty ht).2⟩, va_X.moved hA h3, h4, vk_S.moved hA h5, fun i q hq => vk_R.same hv.symm (h6 i q hq), va_Z.moved hA h7, fun w hw => ?_, fun C hC => va_AO.moved hA (h9 C hC)⟩
  refine va_Nw.same ?_ hv (h8 w hw)
  simp only [nstW, List.mem_cons, List.not_mem_nil, or_false] at hw
  rcases hw with rfl | rfl | rfl <;> rfl
theorem KK.warm {D : DD} {s U : State} (hW : s.WarmedH U.vm) (h : KK D s) : KK D U := by
  obtain ⟨h1, h2, h3, h4, h5, h6, h7, h8, h9⟩ := h
  have hA : s.vm.Alike U.vm := hW.alike
  refine ⟨fun ci hc => u_Kn_moved hA (h1 ci hc), fun t ty ht => ⟨arrOfT_moved hA (h2 t ty ht).1, va_RA.moved hA (h2 t ty ht).2⟩, va_X.moved hA h3, h4, vk_S.moved hA h5, fun i q hq => vk_R.warm hW (h6 i q hq), va_Z.moved hA h7, fun w hw => ?_, fun C hC => va_AO.moved hA (h9 C hC)⟩
  simp only [nstW, List.mem_cons, List.not_mem_nil, or_false] at hw
  rcases hw with rfl | rfl | rfl
  · exact va_Nw.warmM hW (h8 _ (by simp [nstW]))
  · exact va_Nw.warmM hW (h8 _ (by simp [nstW]))
  · exact va_Nw.warmM hW (h8 _ (by simp [nstW]))
/-! ===== a method's frame and its judgement ===== -/
def Lv (la : Array Slot) (ls : List (Option Value)) (n : Nat) : Prop := la.size = n ∧ ls.length = n ∧ lv_wf la ∧ ∀ (i : Nat) (v : Value), ls[i]? = some (some v) → la[i]? = some (.val v) ∧ v.category = 1
def Cx (y : Nat) (p : Program) (s : State) (m : MethodId) (args : Array Value) (meth : Method) (c : Code) : Prop :=
  p.tables.exec = Jvm.exec ∧ c.code = mCode y ∧ c.maxLocals = mLoc y ∧ s.vm.findClass (cnm (mCls y)) = some m.cls ∧ (∀ w ∈ TB, w.before args s = true) ∧ meth.sig.returnType = mRet y ∧ meth.locks = false ∧ meth.name = (mName y).name
def G (l : Launch) (D : DD) (R : Room) (Z : List Frame → Array Value → State → State → Prop) (y pc : Nat) (ls : List (Option Value)) (st : List Value) (σ : Hp) (kc ks : Nat) : Prop :=
  ∀ (p : Program) (e : Env) (s : State) (m : MethodId) (args : Array Value) (below : List Frame) (meth : Method) (c : Code) (H : Heap) (locs : List Loc) (cells slots : Nat) (la : Array Slot),
    Cx y p s m args meth c → KK D s → Rp D σ H → (∀ q ∈ locs, d_n D ≤ q.base) → cells + kc ≤ R.cells → slots + ks ≤ R.slots → Lv la ls (mLoc y) →
    W p l e R s m args below meth c H locs cells slots (Z below args s) (F0 m pc la st)
def rmY (y mc ms : Nat) : Room := { frames := mFr y, cells := mc, slots := ms, locals := mLw y }
def wsY (y : Nat) : List Cond := .code (mName y) (mCode y) (mLoc y) (mRet y) :: TB
def PcY (D : DD) (as : List Value) (σ : Hp) : Array Value → State → Prop := fun v U => v = as.toArray ∧ Rp D σ U.heap ∧ KK D U
def QcY (D : DD) (Q : Option Value → Hp → Prop) : Array Value → State → Outcome → State → Prop := fun _ _ o t => ∃ (r : Option Value) (τ : Hp), o = .returned r ∧ Q r τ ∧ Rp D τ t.heap
/-- method y, called with these values over this heap, returns with Q, in mc new cells of ms slots -/
def Cn (l : Launch) (D : DD) (y mc ms : Nat) (as : List Value) (σ : Hp) (Q : Option Value → Hp → Prop) : Prop :=
  Met l (mName y) (wsY y) (rmY y mc ms) (PcY D as σ) (QcY D Q) mc ms (fun q => d_n D ≤ q)
def ZM (D : DD) (mc ms : Nat) (Q : Option Value → Hp → Prop) : List Frame → Array Value → State → State → Prop := fun below args s => MQ below (QcY D Q) args s mc ms (fun q => d_n D ≤ q)
abbrev Gm (l : Launch) (D : DD) (y mc ms : Nat) (Q : Option Value → Hp → Prop) (pc : Nat) (ls : List (Option Value)) (st : List Value) (σ : Hp) (kc ks : Nat) : Prop := G l D (rmY y mc ms) (ZM D mc ms Q) y pc ls st σ kc ks
section Rules
variable {l : Launch} {D : DD} {R : Room} {Z : List Frame → Array Value → State → State → Prop} {y pc n x kc ks : Nat} {ls : List (Option Value)} {st : List Value} {σ : Hp}
theorem okn {a b : Bool} (h : (a && b) = true) : a = true ∧ b = true := by simpa using h
theorem r_iconst {i : Int} {v : Int32} (hf : ft y pc = some (.iconst i, n, x)) (hv : Int32.ofInt i = v) (k : G l D R Z y n ls (.int v :: st) σ kc ks) : G l D R Z y pc ls st σ kc ks := by
  intro p e s m args below meth c H locs cells slots la hC h2 h3 h4 h5 h6 h7
  obtain ⟨hd, hn⟩ := ft_ok hf
  have hn : n = pc + 1 := by simpa [okI] using hn
  subst hn
  rw [Nat.add_sub_cancel_left] at hd
  exact lv_iconst hC.1 hC.2.1 hd hv (k p e s m args below meth c H locs cells slots la hC h2 h3 h4 h5 h6 h7)
theorem r_iadd {a b : Int32} (hf : ft y pc = some (.iadd, n, x)) (k : G l D R Z y n ls (.int (a + b) :: st) σ kc ks) : G l D R Z y pc ls (.int b :: .int a :: st) σ kc ks := by
  intro p e s m args below meth c H locs cells slots la hC h2 h3 h4 h5 h6 h7
  obtain ⟨hd, hn⟩ := ft_ok hf
  have hn : n = pc + 1 := by simpa [okI] using hn
  subst hn
  rw [Nat.add_sub_cancel_left] at hd
  exact lv_iadd hC.1 hC.2.1 hd (k p e s m args below meth c H locs cells slots la hC h2 h3 h4 h5 h6 h7)
end Rules
end
section
/-! ===== the rules, one for each instruction ===== -/
theorem rf_cat (p : Option Nat) : (va_rf p).category = 1 := by cases p <;> rfl
theorem Lv.get {la : Array Slot} {ls : List (Option Value)} {n i : Nat} {v : Value} (h : Lv la ls n) (hi : ls[i]? = some (some v)) : la[i]? = some (.val v) := (h.2.2.2 i v hi).1
def lvP (ls : List (Option Value)) : List (Nat × Value) := (List.range ls.length).filterMap fun i => match ls[i]? with
  | some (some v) => some (i, v)
  | _ => none
theorem lvP_mem {ls : List (Option Value)} {q : Nat × Value} : q ∈ lvP ls ↔ ls[q.1]? = some (some q.2) := by
  unfold lvP
  rw [List.mem_filterMap]
  constructor
  · rintro ⟨i, -, hi⟩
    cases h : ls[i]? with
    | none => simp [h] at hi
    | some w =>
      cases w with
      | none => simp [h] at hi
      | some v =>
        simp [h] at hi
        subst hi
        exact h
  · intro h
    refine ⟨q.1, List.mem_range.mpr ?_, ?_⟩
    · exact (List.getElem?_eq_some_iff.mp h).1
    · rw [h]
theorem Lv.has {la : Array Slot} {ls : List (Option Value)} {n : Nat} (h : Lv la ls n) : lv_has la n (lvP ls) := ⟨h.1, h.2.2.1, fun q hq => (h.2.2.2 q.1 q.2 (lvP_mem.mp hq)).1⟩
theorem Lv.st {la la' : Array Slot} {ls : List (Option Value)} {n i : Nat} {v : Value} (h : Lv la ls n) (hc : v.category = 1) (hi : i < n) (h' : lv_has la' n ((i, v) :: (lvP ls).filter (fun q => !(q.1 == i) && !(q.1 + 1 == i && q.2.category == 2)))) : Lv la' (ls.set i (some v)) n := by
  refine ⟨h'.1, by rw [List.length_set]; exact h.2.1, h'.2.1, fun j w hj => ?_⟩
  by_cases e : j = i
  · subst e
    rw [List.getElem?_set_self (by rw [h.2.1]; exact hi)] at hj
    cases hj
    exact ⟨h'.2.2 (j, v) List.mem_cons_self, hc⟩
  · rw [List.getElem?_set_ne (fun q => e q.symm)] at hj
    have h2 := h.2.2.2 j w hj
    refine ⟨h'.2.2 (j, w) (List.mem_cons_of_mem _ (List.mem_filter.mpr ⟨lvP_mem.mpr hj, ?_⟩)), h2.2⟩
    simp [e, h2.2]
section Rules
variable {l : Launch} {D : DD} {R : Room} {Z : List Frame → Array Value → State → State → Prop} {y pc n x kc ks : Nat} {ls : List (Option Value)} {st : List Value} {σ : Hp}
theorem f_1 {i : Instr} (hf : ft y pc = some (i, n, x)) (h : okI (mCls y) pc i n x = (n == pc + 1)) : n = pc + 1 ∧ decode (mCode y) pc = .ok (i, 1) := by
  obtain ⟨hd, hn⟩ := ft_ok hf
  rw [h] at hn
  have hn : n = pc + 1 := by simpa using hn
  subst hn
  rw [Nat.add_sub_cancel_left] at hd
  exact ⟨rfl, hd⟩
theorem f_2 {i : Instr} (hf : ft y pc = some (i, n, x)) (h : okI (mCls y) pc i n x = (n == pc + 2)) : n = pc + 2 ∧ decode (mCode y) pc = .ok (i, 2) := by
  obtain ⟨hd, hn⟩ := ft_ok hf
  rw [h] at hn
  have hn : n = pc + 2 := by simpa using hn
  subst hn
  rw [Nat.add_sub_cancel_left] at hd
  exact ⟨rfl, hd⟩
theorem f_3 {i : Instr} (hf : ft y pc = some (i, n, x)) (h : okI (mCls y) pc i n x = (n == pc + 3)) : n = pc + 3 ∧ decode (mCode y) pc = .ok (i, 3) := by
  obtain ⟨hd, hn⟩ := ft_ok hf
  rw [h] at hn
  have hn : n = pc + 3 := by simpa using hn
  subst hn
  rw [Nat.add_sub_cancel_left] at hd
  exact ⟨rfl, hd⟩
theorem f_3b {i : Instr} {b : Bool} (hf : ft y pc = some (i, n, x)) (h : okI (mCls y) pc i n x = (n == pc + 3 && b)) : (n = pc + 3 ∧ decode (mCode y) pc = .ok (i, 3)) ∧ b = true := by
  obtain ⟨hd, hn⟩ := ft_ok hf
  rw [h] at hn
  obtain ⟨hn, hb⟩ := okn hn
  have hn : n = pc + 3 := by simpa using hn
  subst hn
  rw [Nat.add_sub_cancel_left] at hd
  exact ⟨⟨rfl, hd⟩, hb⟩
theorem f_br {i : Instr} {f : Int} (hf : ft y pc = some (i, n, x)) (h : okI (mCls y) pc i n x = (n == pc + 3 && decide ((pc : Int) + f = (x : Int)))) : n = pc + 3 ∧ decode (mCode y) pc = .ok (i, 3) ∧ (pc : Int) + f = (x : Int) := by
  obtain ⟨⟨h1, h2⟩, h3⟩ := f_3b hf h
  exact ⟨h1, h2, of_decide_eq_true h3⟩
theorem r_bipush {i : Int} {v : Int32} (hf : ft y pc = some (.bipush i, n, x)) (hv : (Int8.ofInt i).toInt32 = v) (k : G l D R Z y n ls (.int v :: st) σ kc ks) : G l D R Z y pc ls st σ kc ks := by
  intro p e s m args below meth c H locs cells slots la hC h2 h3 h4 h5 h6 h7
  obtain ⟨hn, hd⟩ := f_2 hf rfl
  subst hn
  exact lv_bipush hC.1 hC.2.1 hd hv (k p e s m args below meth c H locs cells slots la hC h2 h3 h4 h5 h6 h7)
theorem r_sipush {i : Int} {v : Int32} (hf : ft y pc = some (.sipush i, n, x)) (hv : (Int16.ofInt i).toInt32 = v) (k : G l D R Z y n ls (.int v :: st) σ kc ks) : G l D R Z y pc ls st σ kc ks := by
  intro p e s m args below meth c H locs cells slots la hC h2 h3 h4 h5 h6 h7
  obtain ⟨hn, hd⟩ := f_3 hf rfl
  subst hn
  exact lv_sipush hC.1 hC.2.1 hd hv (k p e s m args below meth c H locs cells slots la hC h2 h3 h4 h5 h6 h7)
theorem r_null  (hf : ft y pc = some (.aconst_null, n, x))  (k : G l D R Z y n ls (va_rf none :: st) σ kc ks) : G l D R Z y pc ls st σ kc ks := by
  intro p e s m args below meth c H locs cells slots la hC h2 h3 h4 h5 h6 h7
  obtain ⟨hn, hd⟩ := f_1 hf rfl
  subst hn
  exact lv_null hC.1 hC.2.1 hd  (k p e s m args below meth c H locs cells slots la hC h2 h3 h4 h5 h6 h7)
theorem r_iload_n {q : Fin 4} {v : Int32} (hf : ft y pc = some (.iload_n q, n, x)) (hl : ls[(q : Nat)]? = some (some (.int v))) (k : G l D R Z y n ls (.int v :: st) σ kc ks) : G l D R Z y pc ls st σ kc ks := by
  intro p e s m args below meth c H locs cells slots la hC h2 h3 h4 h5 h6 h7
  obtain ⟨hn, hd⟩ := f_1 hf rfl
  subst hn
  exact lv_iload_n hC.1 hC.2.1 hd rfl (h7.get hl) (k p e s m args below meth c H locs cells slots la hC h2 h3 h4 h5 h6 h7)
theorem r_iload {q : Nat} {v : Int32} (hf : ft y pc = some (.iload q, n, x)) (hl : ls[q]? = some (some (.int v))) (k : G l D R Z y n ls (.int v :: st) σ kc ks) : G l D R Z y pc ls st σ kc ks := by
  intro p e s m args below meth c H locs cells slots la hC h2 h3 h4 h5 h6 h7
  obtain ⟨hn, hd⟩ := f_2 hf rfl
  subst hn
  exact lv_iload hC.1 hC.2.1 hd (h7.get hl) (k p e s m args below meth c H locs cells slots la hC h2 h3 h4 h5 h6 h7)
theorem r_aload_n {q : Fin 4} {r : Option Nat} (hf : ft y pc = some (.aload_n q, n, x)) (hl : ls[(q : Nat)]? = some (some (va_rf r))) (k : G l D R Z y n ls (va_rf r :: st) σ kc ks) : G l D R Z y pc ls st σ kc ks := by
  intro p e s m args below meth c H locs cells slots la hC h2 h3 h4 h5 h6 h7
  obtain ⟨hn, hd⟩ := f_1 hf rfl
  subst hn
  cases r with
  | none => exact lv_aload_nN hC.1 hC.2.1 hd rfl (h7.get hl) (k p e s m args below meth c H locs cells slots la hC h2 h3 h4 h5 h6 h7)
  | some a => exact lv_aload_n hC.1 hC.2.1 hd rfl (h7.get hl) (k p e s m args below meth c H locs cells slots la hC h2 h3 h4 h5 h6 h7)
theorem r_aload {q : Nat} {r : Option Nat} (hf : ft y pc = some (.aload q, n, x)) (hl : ls[q]? = some (some (va_rf r))) (k : G l D R Z y n ls (va_rf r :: st) σ kc ks) : G l D R Z y pc ls st σ kc ks := by
  intro p e s m args below meth c H locs cells slots la hC h2 h3 h4 h5 h6 h7
  obtain ⟨hn, hd⟩ := f_2 hf rfl
  subst hn
  cases r with
  | none => exact lv_aloadN hC.1 hC.2.1 hd (h7.get hl) (k p e s m args below meth c H locs cells slots la hC h2 h3 h4 h5 h6 h7)
  | some a => exact lv_aload hC.1 hC.2.1 hd (h7.get hl) (k p e s m args below meth c H locs cells slots la hC h2 h3 h4 h5 h6 h7)
theorem r_istore_n {q : Fin 4} {v : Int32} (hf : ft y pc = some (.istore_n q, n, x)) (hq : (q : Nat) < mLoc y) (k : G l D R Z y n (ls.set (q : Nat) (some (.int v))) st σ kc ks) : G l D R Z y pc ls (.int v :: st) σ kc ks := by
  intro p e s m args below meth c H locs cells slots la hC h2 h3 h4 h5 h6 h7
  obtain ⟨hn, hd⟩ := f_1 hf rfl
  subst hn
  exact lv_istore_n hC.1 hC.2.1 hd rfl h7.has hq rfl (fun la2 hl2 => k p e s m args below meth c H locs cells slots la2 hC h2 h3 h4 h5 h6 (h7.st rfl hq hl2))
theorem r_istore {q : Nat} {v : Int32} (hf : ft y pc = some (.istore q, n, x)) (hq : q < mLoc y) (k : G l D R Z y n (ls.set q (some (.int v))) st σ kc ks) : G l D R Z y pc ls (.int v :: st) σ kc ks := by
  intro p e s m args below meth c H locs cells slots la hC h2 h3 h4 h5 h6 h7
  obtain ⟨hn, hd⟩ := f_2 hf rfl
  subst hn
  exact lv_istore hC.1 hC.2.1 hd h7.has hq rfl (fun la2 hl2 => k p e s m args below meth c H locs cells slots la2 hC h2 h3 h4 h5 h6 (h7.st rfl hq hl2))
theorem r_astore_n {q : Fin 4} {r : Option Nat} (hf : ft y pc = some (.astore_n q, n, x)) (hq : (q : Nat) < mLoc y) (k : G l D R Z y n (ls.set (q : Nat) (some (va_rf r))) st σ kc ks) : G l D R Z y pc ls (va_rf r :: st) σ kc ks := by
  intro p e s m args below meth c H locs cells slots la hC h2 h3 h4 h5 h6 h7
  obtain ⟨hn, hd⟩ := f_1 hf rfl
  subst hn
  cases r with
  | none => exact lv_astore_nN hC.1 hC.2.1 hd rfl h7.has hq rfl (fun la2 hl2 => k p e s m args below meth c H locs cells slots la2 hC h2 h3 h4 h5 h6 (h7.st rfl hq hl2))
  | some a => exact lv_astore_n hC.1 hC.2.1 hd rfl h7.has hq rfl (fun la2 hl2 => k p e s m args below meth c H locs cells slots la2 hC h2 h3 h4 h5 h6 (h7.st rfl hq hl2))
theorem r_astore {q : Nat} {r : Option Nat} (hf : ft y pc = some (.astore q, n, x)) (hq : q < mLoc y) (k : G l D R Z y n (ls.set q (some (va_rf r))) st σ kc ks) : G l D R Z y pc ls (va_rf r :: st) σ kc ks := by
  intro p e s m args below meth c H locs cells slots la hC h2 h3 h4 h5 h6 h7
  obtain ⟨hn, hd⟩ := f_2 hf rfl
  subst hn
  cases r with
  | none => exact lv_astoreN hC.1 hC.2.1 hd h7.has hq rfl (fun la2 hl2 => k p e s m args below meth c H locs cells slots la2 hC h2 h3 h4 h5 h6 (h7.st rfl hq hl2))
  | some a => exact lv_astore hC.1 hC.2.1 hd h7.has hq rfl (fun la2 hl2 => k p e s m args below meth c H locs cells slots la2 hC h2 h3 h4 h5 h6 (h7.st rfl hq hl2))
theorem r_iinc {q : Nat} {i : Int} {a v : Int32} (hf : ft y pc = some (.iinc q i, n, x)) (hl : ls[q]? = some (some (.int a))) (hv : a + Int32.ofInt i = v) (k : G l D R Z y n (ls.set q (some (.int v))) st σ kc ks) : G l D R Z y pc ls st σ kc ks := by
  intro p e s m args below meth c H locs cells slots la hC h2 h3 h4 h5 h6 h7
  obtain ⟨hn, hd⟩ := f_3 hf rfl
  subst hn
  have hq : q < mLoc y := by
    rw [← h7.2.1]
    exact (List.getElem?_eq_some_iff.mp hl).1
  obtain ⟨j, hj⟩ := List.getElem?_of_mem (lvP_mem (ls := ls) (q := (q, Value.int a)) |>.mpr hl)
  exact lv_iinc hC.1 hC.2.1 hd h7.has hj hv hq rfl (fun la2 hl2 => k p e s m args below meth c H locs cells slots la2 hC h2 h3 h4 h5 h6 (h7.st rfl hq hl2))
theorem r_isub {a b : Int32} (hf : ft y pc = some (.isub, n, x))  (k : G l D R Z y n ls (.int (a - b) :: st) σ kc ks) : G l D R Z y pc ls (.int b :: .int a :: st) σ kc ks := by
  intro p e s m args below meth c H locs cells slots la hC h2 h3 h4 h5 h6 h7
  obtain ⟨hn, hd⟩ := f_1 hf rfl
  subst hn
  exact lv_isub hC.1 hC.2.1 hd  (k p e s m args below meth c H locs cells slots la hC h2 h3 h4 h5 h6 h7)
theorem r_imul {a b : Int32} (hf : ft y pc = some (.imul, n, x))  (k : G l D R Z y n ls (.int (a * b) :: st) σ kc ks) : G l D R Z y pc ls (.int b :: .int a :: st) σ kc ks := by
  intro p e s m args below meth c H locs cells slots la hC h2 h3 h4 h5 h6 h7
  obtain ⟨hn, hd⟩ := f_1 hf rfl
  subst hn
  exact lv_imul hC.1 hC.2.1 hd  (k p e s m args below meth c H locs cells slots la hC h2 h3 h4 h5 h6 h7)
theorem r_iand {a b : Int32} (hf : ft y pc = some (.iand, n, x))  (k : G l D R Z y n ls (.int (a &&& b) :: st) σ kc ks) : G l D R Z y pc ls (.int b :: .int a :: st) σ kc ks := by
  intro p e s m args below meth c H locs cells slots la hC h2 h3 h4 h5 h6 h7
  obtain ⟨hn, hd⟩ := f_1 hf rfl
  subst hn
  exact lv_iand hC.1 hC.2.1 hd  (k p e s m args below meth c H locs cells slots la hC h2 h3 h4 h5 h6 h7)
theorem r_ishr {a b : Int32} (hf : ft y pc = some (.ishr, n, x))  (k : G l D R Z y n ls (.int (a >>> (b &&& 31)) :: st) σ kc ks) : G l D R Z y pc ls (.int b :: .int a :: st) σ kc ks := by
  intro p e s m args below meth c H locs cells slots la hC h2 h3 h4 h5 h6 h7
  obtain ⟨hn, hd⟩ := f_1 hf rfl
  subst hn
  exact lv_ishr hC.1 hC.2.1 hd  (k p e s m args below meth c H locs cells slots la hC h2 h3 h4 h5 h6 h7)
theorem r_idiv {a b : Int32} (hf : ft y pc = some (.idiv, n, x)) (hb : ¬ b = 0) (k : G l D R Z y n ls (.int (a / b) :: st) σ kc ks) : G l D R Z y pc ls (.int b :: .int a :: st) σ kc ks := by
  intro p e s m args below meth c H locs cells slots la hC h2 h3 h4 h5 h6 h7
  obtain ⟨hn, hd⟩ := f_1 hf rfl
  subst hn
  exact lv_idiv hC.1 hC.2.1 hd hb (k p e s m args below meth c H locs cells slots la hC h2 h3 h4 h5 h6 h7)
theorem r_irem {a b : Int32} (hf : ft y pc = some (.irem, n, x)) (hb : ¬ b = 0) (k : G l D R Z y n ls (.int (a - a / b * b) :: st) σ kc ks) : G l D R Z y pc ls (.int b :: .int a :: st) σ kc ks := by
  intro p e s m args below meth c H locs cells slots la hC h2 h3 h4 h5 h6 h7
  obtain ⟨hn, hd⟩ := f_1 hf rfl
  subst hn
  exact lv_irem hC.1 hC.2.1 hd hb (k p e s m args below meth c H locs cells slots la hC h2 h3 h4 h5 h6 h7)
theorem r_iushr {a b v : Int32} (hf : ft y pc = some (.iushr, n, x)) (hv : (a.toUInt32 >>> (b.toUInt32 &&& Int32.toUInt32 31)).toInt32 = v) (k : G l D R Z y n ls (.int v :: st) σ kc ks) : G l D R Z y pc ls (.int b :: .int a :: st) σ kc ks := by
  intro p e s m args below meth c H locs cells slots la hC h2 h3 h4 h5 h6 h7
  obtain ⟨hn, hd⟩ := f_1 hf rfl
  subst hn
  exact lv_iushr hC.1 hC.2.1 hd hv (k p e s m args below meth c H locs cells slots la hC h2 h3 h4 h5 h6 h7)
theorem r_i2b {a v : Int32} (hf : ft y pc = some (.i2b, n, x)) (hv : a.toInt8.toInt32 = v) (k : G l D R Z y n ls (.int v :: st) σ kc ks) : G l D R Z y pc ls (.int a :: st) σ kc ks := by
  intro p e s m args below meth c H locs cells slots la hC h2 h3 h4 h5 h6 h7
  obtain ⟨hn, hd⟩ := f_1 hf rfl
  subst hn
  exact lv_i2b hC.1 hC.2.1 hd hv (k p e s m args below meth c H locs cells slots la hC h2 h3 h4 h5 h6 h7)
theorem r_dup {v : Value} (hf : ft y pc = some (.dup, n, x)) (hv : v.category = 1) (k : G l D R Z y n ls (v :: v :: st) σ kc ks) : G l D R Z y pc ls (v :: st) σ kc ks := by
  intro p e s m args below meth c H locs cells slots la hC h2 h3 h4 h5 h6 h7
  obtain ⟨hn, hd⟩ := f_1 hf rfl
  subst hn
  exact lv_dup hC.1 hC.2.1 hd hv (k p e s m args below meth c H locs cells slots la hC h2 h3 h4 h5 h6 h7)
theorem r_pop {v : Value} (hf : ft y pc = some (.pop, n, x)) (hv : v.category = 1) (k : G l D R Z y n ls st σ kc ks) : G l D R Z y pc ls (v :: st) σ kc ks := by
  intro p e s m args below meth c H locs cells slots la hC h2 h3 h4 h5 h6 h7
  obtain ⟨hn, hd⟩ := f_1 hf rfl
  subst hn
  exact lv_pop hC.1 hC.2.1 hd hv (k p e s m args below meth c H locs cells slots la hC h2 h3 h4 h5 h6 h7)
theorem r_dup2 {v w : Value} (hf : ft y pc = some (.dup2, n, x)) (hv : v.category = 1) (hw : w.category = 1) (k : G l D R Z y n ls (v :: w :: v :: w :: st) σ kc ks) : G l D R Z y pc ls (v :: w :: st) σ kc ks := by
  intro p e s m args below meth c H locs cells slots la hC h2 h3 h4 h5 h6 h7
  obtain ⟨hn, hd⟩ := f_1 hf rfl
  subst hn
  exact lv_dup2_11 hC.1 hC.2.1 hd hv hw (k p e s m args below meth c H locs cells slots la hC h2 h3 h4 h5 h6 h7)
theorem r_icmp_eq {a b : Int32} {f : Int} (hf : ft y pc = some (.if_icmp .eq f, n, x)) (kt : a = b → G l D R Z y x ls st σ kc ks) (kf : ¬ a = b → G l D R Z y n ls st σ kc ks) : G l D R Z y pc ls (.int b :: .int a :: st) σ kc ks := by
  intro p e s m args below meth c H locs cells slots la hC h2 h3 h4 h5 h6 h7
  obtain ⟨hn, hd, ht⟩ := f_br (f := f) hf rfl
  subst hn
  exact lv_icmp_eq hC.1 hC.2.1 hd ht (fun q => kt q p e s m args below meth c H locs cells slots la hC h2 h3 h4 h5 h6 h7) (fun q => kf q p e s m args below meth c H locs cells slots la hC h2 h3 h4 h5 h6 h7)
theorem r_if_eq {a : Int32} {f : Int} (hf : ft y pc = some (.ifCond .eq f, n, x)) (kt : a = 0 → G l D R Z y x ls st σ kc ks) (kf : ¬ a = 0 → G l D R Z y n ls st σ kc ks) : G l D R Z y pc ls (.int a :: st) σ kc ks := by
  intro p e s m args below meth c H locs cells slots la hC h2 h3 h4 h5 h6 h7
  obtain ⟨hn, hd, ht⟩ := f_br (f := f) hf rfl
  subst hn
  exact lv_if_eq hC.1 hC.2.1 hd ht (fun q => kt q p e s m args below meth c H locs cells slots la hC h2 h3 h4 h5 h6 h7) (fun q => kf q p e s m args below meth c H locs cells slots la hC h2 h3 h4 h5 h6 h7)
theorem r_icmp_ne {a b : Int32} {f : Int} (hf : ft y pc = some (.if_icmp .ne f, n, x)) (kt : ¬ a = b → G l D R Z y x ls st σ kc ks) (kf : a = b → G l D R Z y n ls st σ kc ks) : G l D R Z y pc ls (.int b :: .int a :: st) σ kc ks := by
  intro p e s m args below meth c H locs cells slots la hC h2 h3 h4 h5 h6 h7
  obtain ⟨hn, hd, ht⟩ := f_br (f := f) hf rfl
  subst hn
  exact lv_icmp_ne hC.1 hC.2.1 hd ht (fun q => kt q p e s m args below meth c H locs cells slots la hC h2 h3 h4 h5 h6 h7) (fun q => kf q p e s m args below meth c H locs cells slots la hC h2 h3 h4 h5 h6 h7)
theorem r_if_ne {a : Int32} {f : Int} (hf : ft y pc = some (.ifCond .ne f, n, x)) (kt : ¬ a = 0 → G l D R Z y x ls st σ kc ks) (kf : a = 0 → G l D R Z y n ls st σ kc ks) : G l D R Z y pc ls (.int a :: st) σ kc ks := by
  intro p e s m args below meth c H locs cells slots la hC h2 h3 h4 h5 h6 h7
  obtain ⟨hn, hd, ht⟩ := f_br (f := f) hf rfl
  subst hn
  exact lv_if_ne hC.1 hC.2.1 hd ht (fun q => kt q p e s m args below meth c H locs cells slots la hC h2 h3 h4 h5 h6 h7) (fun q => kf q p e s m args below meth c H locs cells slots la hC h2 h3 h4 h5 h6 h7)
theorem r_icmp_lt {a b : Int32} {f : Int} (hf : ft y pc = some (.if_icmp .lt f, n, x)) (kt : a < b → G l D R Z y x ls st σ kc ks) (kf : ¬ a < b → G l D R Z y n ls st σ kc ks) : G l D R Z y pc ls (.int b :: .int a :: st) σ kc ks := by
  intro p e s m args below meth c H locs cells slots la hC h2 h3 h4 h5 h6 h7
  obtain ⟨hn, hd, ht⟩ := f_br (f := f) hf rfl
  subst hn
  exact lv_icmp_lt hC.1 hC.2.1 hd ht (fun q => kt q p e s m args below meth c H locs cells slots la hC h2 h3 h4 h5 h6 h7) (fun q => kf q p e s m args below meth c H locs cells slots la hC h2 h3 h4 h5 h6 h7)
theorem r_if_lt {a : Int32} {f : Int} (hf : ft y pc = some (.ifCond .lt f, n, x)) (kt : a < 0 → G l D R Z y x ls st σ kc ks) (kf : ¬ a < 0 → G l D R Z y n ls st σ kc ks) : G l D R Z y pc ls (.int a :: st) σ kc ks := by
  intro p e s m args below meth c H locs cells slots la hC h2 h3 h4 h5 h6 h7
  obtain ⟨hn, hd, ht⟩ := f_br (f := f) hf rfl
  subst hn
  exact lv_if_lt hC.1 hC.2.1 hd ht (fun q => kt q p e s m args below meth c H locs cells slots la hC h2 h3 h4 h5 h6 h7) (fun q => kf q p e s m args below meth c H locs cells slots la hC h2 h3 h4 h5 h6 h7)
theorem r_icmp_ge {a b : Int32} {f : Int} (hf : ft y pc = some (.if_icmp .ge f, n, x)) (kt : b ≤ a → G l D R Z y x ls st σ kc ks) (kf : ¬ b ≤ a → G l D R Z y n ls st σ kc ks) : G l D R Z y pc ls (.int b :: .int a :: st) σ kc ks := by
  intro p e s m args below meth c H locs cells slots la hC h2 h3 h4 h5 h6 h7
  obtain ⟨hn, hd, ht⟩ := f_br (f := f) hf rfl
  subst hn
  exact lv_icmp_ge hC.1 hC.2.1 hd ht (fun q => kt q p e s m args below meth c H locs cells slots la hC h2 h3 h4 h5 h6 h7) (fun q => kf q p e s m args below meth c H locs cells slots la hC h2 h3 h4 h5 h6 h7)
theorem r_if_ge {a : Int32} {f : Int} (hf : ft y pc = some (.ifCond .ge f, n, x)) (kt : 0 ≤ a → G l D R Z y x ls st σ kc ks) (kf : ¬ 0 ≤ a → G l D R Z y n ls st σ kc ks) : G l D R Z y pc ls (.int a :: st) σ kc ks := by
  intro p e s m args below meth c H locs cells slots la hC h2 h3 h4 h5 h6 h7
  obtain ⟨hn, hd, ht⟩ := f_br (f := f) hf rfl
  subst hn
  exact lv_if_ge hC.1 hC.2.1 hd ht (fun q => kt q p e s m args below meth c H locs cells slots la hC h2 h3 h4 h5 h6 h7) (fun q => kf q p e s m args below meth c H locs cells slots la hC h2 h3 h4 h5 h6 h7)
theorem r_icmp_gt {a b : Int32} {f : Int} (hf : ft y pc = some (.if_icmp .gt f, n, x)) (kt : b < a → G l D R Z y x ls st σ kc ks) (kf : ¬ b < a → G l D R Z y n ls st σ kc ks) : G l D R Z y pc ls (.int b :: .int a :: st) σ kc ks := by
  intro p e s m args below meth c H locs cells slots la hC h2 h3 h4 h5 h6 h7
  obtain ⟨hn, hd, ht⟩ := f_br (f := f) hf rfl
  subst hn
  exact lv_icmp_gt hC.1 hC.2.1 hd ht (fun q => kt q p e s m args below meth c H locs cells slots la hC h2 h3 h4 h5 h6 h7) (fun q => kf q p e s m args below meth c H locs cells slots la hC h2 h3 h4 h5 h6 h7)
theorem r_if_gt {a : Int32} {f : Int} (hf : ft y pc = some (.ifCond .gt f, n, x)) (kt : 0 < a → G l D R Z y x ls st σ kc ks) (kf : ¬ 0 < a → G l D R Z y n ls st σ kc ks) : G l D R Z y pc ls (.int a :: st) σ kc ks := by
  intro p e s m args below meth c H locs cells slots la hC h2 h3 h4 h5 h6 h7
  obtain ⟨hn, hd, ht⟩ := f_br (f := f) hf rfl
  subst hn
  exact lv_if_gt hC.1 hC.2.1 hd ht (fun q => kt q p e s m args below meth c H locs cells slots la hC h2 h3 h4 h5 h6 h7) (fun q => kf q p e s m args below meth c H locs cells slots la hC h2 h3 h4 h5 h6 h7)
theorem r_icmp_le {a b : Int32} {f : Int} (hf : ft y pc = some (.if_icmp .le f, n, x)) (kt : a ≤ b → G l D R Z y x ls st σ kc ks) (kf : ¬ a ≤ b → G l D R Z y n ls st σ kc ks) : G l D R Z y pc ls (.int b :: .int a :: st) σ kc ks := by
  intro p e s m args below meth c H locs cells slots la hC h2 h3 h4 h5 h6 h7
  obtain ⟨hn, hd, ht⟩ := f_br (f := f) hf rfl
  subst hn
  exact lv_icmp_le hC.1 hC.2.1 hd ht (fun q => kt q p e s m args below meth c H locs cells slots la hC h2 h3 h4 h5 h6 h7) (fun q => kf q p e s m args below meth c H locs cells slots la hC h2 h3 h4 h5 h6 h7)
theorem r_if_le {a : Int32} {f : Int} (hf : ft y pc = some (.ifCond .le f, n, x)) (kt : a ≤ 0 → G l D R Z y x ls st σ kc ks) (kf : ¬ a ≤ 0 → G l D R Z y n ls st σ kc ks) : G l D R Z y pc ls (.int a :: st) σ kc ks := by
  intro p e s m args below meth c H locs cells slots la hC h2 h3 h4 h5 h6 h7
  obtain ⟨hn, hd, ht⟩ := f_br (f := f) hf rfl
  subst hn
  exact lv_if_le hC.1 hC.2.1 hd ht (fun q => kt q p e s m args below meth c H locs cells slots la hC h2 h3 h4 h5 h6 h7) (fun q => kf q p e s m args below meth c H locs cells slots la hC h2 h3 h4 h5 h6 h7)
theorem r_goto {f : Int} (hf : ft y pc = some (.goto f, n, x)) (k : G l D R Z y x ls st σ kc ks) : G l D R Z y pc ls st σ kc ks := by
  intro p e s m args below meth c H locs cells slots la hC h2 h3 h4 h5 h6 h7
  obtain ⟨hn, hd, ht⟩ := f_br (f := f) hf rfl
  exact lv_goto hC.1 hC.2.1 hd ht (k p e s m args below meth c H locs cells slots la hC h2 h3 h4 h5 h6 h7)
theorem r_ifnull {r : Option Nat} {f : Int} (hf : ft y pc = some (.ifnull f, n, x)) (kt : r = none → G l D R Z y x ls st σ kc ks) (kf : ∀ a, r = some a → G l D R Z y n ls st σ kc ks) : G l D R Z y pc ls (va_rf r :: st) σ kc ks := by
  intro p e s m args below meth c H locs cells slots la hC h2 h3 h4 h5 h6 h7
  obtain ⟨hn, hd, ht⟩ := f_br (f := f) hf rfl
  subst hn
  cases r with
  | none => exact lv_ifnullN hC.1 hC.2.1 hd ht (kt rfl p e s m args below meth c H locs cells slots la hC h2 h3 h4 h5 h6 h7)
  | some a => exact lv_ifnull hC.1 hC.2.1 hd (kf a rfl p e s m args below meth c H locs cells slots la hC h2 h3 h4 h5 h6 h7)
theorem r_ifnonnull {r : Option Nat} {f : Int} (hf : ft y pc = some (.ifnonnull f, n, x)) (kt : ∀ a, r = some a → G l D R Z y x ls st σ kc ks) (kf : r = none → G l D R Z y n ls st σ kc ks) : G l D R Z y pc ls (va_rf r :: st) σ kc ks := by
  intro p e s m args below meth c H locs cells slots la hC h2 h3 h4 h5 h6 h7
  obtain ⟨hn, hd, ht⟩ := f_br (f := f) hf rfl
  subst hn
  cases r with
  | none => exact lv_ifnonnullN hC.1 hC.2.1 hd (kf rfl p e s m args below meth c H locs cells slots la hC h2 h3 h4 h5 h6 h7)
  | some a => exact lv_ifnonnull hC.1 hC.2.1 hd ht (kt a rfl p e s m args below meth c H locs cells slots la hC h2 h3 h4 h5 h6 h7)
theorem r_acmp_eq {a b : Option Nat} {f : Int} (hf : ft y pc = some (.if_acmp .eq f, n, x)) (kt : a = b → G l D R Z y x ls st σ kc ks) (kf : ¬ a = b → G l D R Z y n ls st σ kc ks) : G l D R Z y pc ls (va_rf b :: va_rf a :: st) σ kc ks := by
  intro p e s m args below meth c H locs cells slots la hC h2 h3 h4 h5 h6 h7
  obtain ⟨hn, hd, ht⟩ := f_br (f := f) hf rfl
  subst hn
  exact lv_acmp_eq hC.1 hC.2.1 hd ht (fun q => kt q p e s m args below meth c H locs cells slots la hC h2 h3 h4 h5 h6 h7) (fun q => kf q p e s m args below meth c H locs cells slots la hC h2 h3 h4 h5 h6 h7)
theorem r_acmp_ne {a b : Option Nat} {f : Int} (hf : ft y pc = some (.if_acmp .ne f, n, x)) (kt : ¬ a = b → G l D R Z y x ls st σ kc ks) (kf : a = b → G l D R Z y n ls st σ kc ks) : G l D R Z y pc ls (va_rf b :: va_rf a :: st) σ kc ks := by
  intro p e s m args below meth c H locs cells slots la hC h2 h3 h4 h5 h6 h7
  obtain ⟨hn, hd, ht⟩ := f_br (f := f) hf rfl
  subst hn
  exact lv_acmp_ne hC.1 hC.2.1 hd ht (fun q => kt q p e s m args below meth c H locs cells slots la hC h2 h3 h4 h5 h6 h7) (fun q => kf q p e s m args below meth c H locs cells slots la hC h2 h3 h4 h5 h6 h7)
theorem r_tswOut {dflt lo hi : Int} {offs : Array Int} {a : Int32} {tgt : Nat} (hf : ft y pc = some (.tableswitch dflt lo hi offs, n, x)) (h : a.toInt < lo ∨ hi < a.toInt) (ht : (pc : Int) + dflt = (tgt : Int)) (k : G l D R Z y tgt ls st σ kc ks) : G l D R Z y pc ls (.int a :: st) σ kc ks := by
  intro p e s m args below meth c H locs cells slots la hC h2 h3 h4 h5 h6 h7
  exact lv_tableOut hC.1 hC.2.1 (ft_ok hf).1 h ht (k p e s m args below meth c H locs cells slots la hC h2 h3 h4 h5 h6 h7)
theorem r_tswIn {dflt lo hi : Int} {offs : Array Int} {a : Int32} {off : Int} {tgt : Nat} (hf : ft y pc = some (.tableswitch dflt lo hi offs, n, x)) (h1 : ¬ a.toInt < lo) (h2' : ¬ hi < a.toInt) (ho : offs[(a.toInt - lo).toNat]? = some off) (ht : (pc : Int) + off = (tgt : Int)) (k : G l D R Z y tgt ls st σ kc ks) : G l D R Z y pc ls (.int a :: st) σ kc ks := by
  intro p e s m args below meth c H locs cells slots la hC h2 h3 h4 h5 h6 h7
  exact lv_tableIn hC.1 hC.2.1 (ft_ok hf).1 h1 h2' ho ht (k p e s m args below meth c H locs cells slots la hC h2 h3 h4 h5 h6 h7)
theorem r_lsw {dflt : Int} {ps : Array (Int × Int)} {a : Int32} {off : Int} {tgt : Nat} (hf : ft y pc = some (.lookupswitch dflt ps, n, x)) (hp : (ps.toList.zip (ps.toList.drop 1)).all (fun (a, next) => a.1 < next.1) = true) (ho : Op.lookupswitch.offset ps.toList dflt a.toInt = off) (ht : (pc : Int) + off = (tgt : Int)) (k : G l D R Z y tgt ls st σ kc ks) : G l D R Z y pc ls (.int a :: st) σ kc ks := by
  intro p e s m args below meth c H locs cells slots la hC h2 h3 h4 h5 h6 h7
  exact lv_lookup hC.1 hC.2.1 (ft_ok hf).1 hp ho ht (k p e s m args below meth c H locs cells slots la hC h2 h3 h4 h5 h6 h7)
end Rules
end
section
/-! ===== the heap's laws ===== -/
theorem u1_s {α : Type} (f : Nat → α) (a : Nat) (v : α) : u_1 f a v a = v := by simp [u_1]
theorem u1_n {α : Type} (f : Nat → α) {a b : Nat} (v : α) (h : b ≠ a) : u_1 f a v b = f b := by simp [u_1, h]
theorem u2_s {α : Type} (f : Nat → Nat → α) (a b : Nat) (v : α) : u_2 f a b v a b = v := by simp [u_2]
theorem u2_n1 {α : Type} (f : Nat → Nat → α) {a b c d : Nat} (v : α) (h : c ≠ a) : u_2 f a b v c d = f c d := by simp [u_2, h]
theorem u2_n2 {α : Type} (f : Nat → Nat → α) {a b c d : Nat} (v : α) (h : d ≠ b) : u_2 f a b v c d = f c d := by simp [u_2, h]
theorem fid_ne {ci k ci' k' : Nat} (h : k < 64) (h' : k' < 64) (hn : ¬ (ci' = ci ∧ k' = k)) : 64 * ci' + k' ≠ 64 * ci + k := by omega
theorem fN_lt {ci : Nat} (h : ci < 12) : fN ci < 64 := by
  match ci, h with
  | 0, _ => decide
  | 1, _ => decide
  | 2, _ => decide
  | 3, _ => decide
  | 4, _ => decide
  | 5, _ => decide
  | 6, _ => decide
  | 7, _ => decide
  | 8, _ => decide
  | 9, _ => decide
  | 10, _ => decide
  | 11, _ => decide
theorem t_OB.lt {o : Nat} {cC : ClassId} {N : Nat} {iS : Nat → Nat} {H : Heap} {V : Nat → Value} (h : t_OB o cC N iS H V) : o < H.size := by
  obtain ⟨cell, q, -⟩ := h
  exact (Array.getElem?_eq_some_iff.mp q).1
section HP
variable {D : DD} {σ τ : Hp} {H H' : Heap} {a : Nat}
/-- a cell of an object is written -/
theorem Rp.obj {ci : Nat} (h : Rp D σ H) (hz : h_z τ = h_z σ) (hK : h_K τ = h_K σ) (hL : h_L τ = h_L σ) (hX : h_X τ = h_X σ) (hY : h_Y τ = h_Y σ) (hk : h_K σ a = ci + 1) (hci : ci < 12) (hs : H'.size = H.size) (hq : ∀ q, q ≠ a → H'[q]? = H[q]?)
    (hv : ∀ b c j, b ≠ a → fV τ c b j = fV σ c b j) (ho : t_OB a (D.1.1 ci) (fN ci) (D.1.2 ci) H' (fV τ ci a)) : Rp D τ H' := by
  obtain ⟨h1, h2, h3, h4, h5, h6, h7⟩ := h
  have hna := h4 a (by omega)
  refine ⟨by rw [hs, hz]; exact h1, by rw [hz]; exact h2, fun q hq' => ?_, by rw [hK, hz]; exact h4, fun b c hc hb => ?_, fun b t ht hb => ?_, fun b t ht hb => ?_⟩
  · rw [hq q (by omega)]; exact h3 q hq'
  · rw [hK] at hb
    by_cases e : b = a
    · subst e
      have : c = ci := by omega
      subst this
      exact ho
    · exact ((h5 b c hc hb).kept (hq b e)).to (fun j _ => (hv b c j e).symm)
  · rw [hK] at hb
    have e : b ≠ a := fun e => by subst e; omega
    rw [hq b e, hL, hX]
    exact h6 b t ht hb
  · rw [hK] at hb
    have e : b ≠ a := fun e => by subst e; omega
    rw [hq b e, hL, hY]
    exact h7 b t ht hb
theorem fV_wI {ci k j v} {b c : Nat} : fV (w_I σ (64 * ci + k) a v) c b j = if (64 * c + j = 64 * ci + k ∧ b = a) ∧ fPrim (fTy c j) = true then .int v else fV σ c b j := by
  unfold fV
  by_cases hp : fPrim (fTy c j) = true
  · rw [if_pos hp, if_pos hp]
    by_cases e : 64 * c + j = 64 * ci + k ∧ b = a
    · rw [if_pos ⟨e, hp⟩]
      show Value.int (u_2 (h_I σ) _ _ _ _ _) = _
      rw [u_2, if_pos e]
    · rw [if_neg (fun q => e q.1)]
      show Value.int (u_2 (h_I σ) _ _ _ _ _) = _
      rw [u_2, if_neg e]
  · rw [if_neg hp, if_neg (fun q => hp q.2), if_neg hp]
    rfl
theorem fV_wP {ci k j v} {b c : Nat} : fV (w_P σ (64 * ci + k) a v) c b j = if (64 * c + j = 64 * ci + k ∧ b = a) ∧ ¬ fPrim (fTy c j) = true then va_rf v else fV σ c b j := by
  unfold fV
  by_cases hp : fPrim (fTy c j) = true
  · rw [if_pos hp, if_neg (fun q => q.2 hp), if_pos hp]
    rfl
  · rw [if_neg hp, if_neg hp]
    by_cases e : 64 * c + j = 64 * ci + k ∧ b = a
    · rw [if_pos ⟨e, hp⟩]
      show va_rf (u_2 (h_P σ) _ _ _ _ _) = _
      rw [u_2, if_pos e]
    · rw [if_neg (fun q => e q.1)]
      show va_rf (u_2 (h_P σ) _ _ _ _ _) = _
      rw [u_2, if_neg e]
/-- a row of ints is written -/
theorem Rp.rowX {t : Nat} {g : Nat → Int32} (h : Rp D σ H) (hk : h_K σ a = 20 + t) (ht : t < 3) (hs : H'.size = H.size) (hq : ∀ q, q ≠ a → H'[q]? = H[q]?)
    (ho : H'[a]? = some (arrV (d_A D (20 + t)) (h_L σ a) (fun j => .int (g j)))) (hf : t = 0 → ∀ j, fits .byte (.int (g j)) = true) : Rp D (w_X σ a g) H' := by
  obtain ⟨h1, h2, h3, h4, h5, h6, h7⟩ := h
  have hna := h4 a (by omega)
  refine ⟨by rw [hs]; exact h1, h2, fun q hq' => ?_, h4, fun b c hc hb => ?_, fun b t' ht' hb => ?_, fun b t' ht' hb => ?_⟩
  · rw [hq q (by omega)]; exact h3 q hq'
  · have hb' : h_K σ b = c + 1 := hb
    have e : b ≠ a := fun e => by subst e; omega
    exact (h5 b c hc hb).kept (hq b e)
  · have hb' : h_K σ b = 20 + t' := hb
    by_cases e : b = a
    · subst e
      have : t' = t := by omega
      subst this
      have e2 : h_X (w_X σ b g) b = g := u1_s _ _ _
      rw [e2]
      exact ⟨ho, hf⟩
    · have e2 : h_X (w_X σ a g) b = h_X σ b := u1_n _ _ e
      rw [e2, hq b e]
      exact h6 b t' ht' hb
  · have hb' : h_K σ b = 30 + t' := hb
    have e : b ≠ a := fun e => by subst e; omega
    rw [hq b e]
    exact h7 b t' ht' hb
/-- a row of references is written -/
theorem Rp.rowY {t : Nat} {g : Nat → Option Nat} (h : Rp D σ H) (hk : h_K σ a = 30 + t) (ht : t < 6) (hs : H'.size = H.size) (hq : ∀ q, q ≠ a → H'[q]? = H[q]?)
    (ho : H'[a]? = some (arrV (d_A D (30 + t)) (h_L σ a) (fun j => va_rf (g j)))) : Rp D (w_Y σ a g) H' := by
  obtain ⟨h1, h2, h3, h4, h5, h6, h7⟩ := h
  have hna := h4 a (by omega)
  refine ⟨by rw [hs]; exact h1, h2, fun q hq' => ?_, h4, fun b c hc hb => ?_, fun b t' ht' hb => ?_, fun b t' ht' hb => ?_⟩
  · rw [hq q (by omega)]; exact h3 q hq'
  · have hb' : h_K σ b = c + 1 := hb
    have e : b ≠ a := fun e => by subst e; omega
    exact (h5 b c hc hb).kept (hq b e)
  · have hb' : h_K σ b = 20 + t' := hb
    have e : b ≠ a := fun e => by subst e; omega
    rw [hq b e]
    exact h6 b t' ht' hb
  · have hb' : h_K σ b = 30 + t' := hb
    by_cases e : b = a
    · subst e
      have : t' = t := by omega
      subst this
      have e2 : h_Y (w_Y σ b g) b = g := u1_s _ _ _
      rw [e2]
      exact ho
    · have e2 : h_Y (w_Y σ a g) b = h_Y σ b := u1_n _ _ e
      rw [e2, hq b e]
      exact h7 b t' ht' hb
theorem Rp.z0 (h : Rp D σ H) : h_K σ (h_z σ) = 0 := by
  by_cases e : h_K σ (h_z σ) = 0
  · exact e
  · have := h.2.2.2.1 _ e
    omega
/-- a new object -/
theorem Rp.newO {ci : Nat} (h : Rp D σ H) (hci : ci < 12) (hs : H'.size = H.size + 1) (hq : ∀ q, q < H.size → H'[q]? = H[q]?)
    (ho : t_OB H.size (D.1.1 ci) (fN ci) (D.1.2 ci) H' (fun k => if fPrim (fTy ci k) = true then .int 0 else .null)) : Rp D (n_O σ (ci + 1)) H' := by
  have hz0 := h.z0
  obtain ⟨h1, h2, h3, h4, h5, h6, h7⟩ := h
  have ek : ∀ b, b ≠ h_z σ → h_K (n_O σ (ci + 1)) b = h_K σ b := fun b e => u1_n _ _ e
  have ek0 : h_K (n_O σ (ci + 1)) (h_z σ) = ci + 1 := u1_s _ _ _
  have ev : ∀ b c j, b ≠ h_z σ → fV (n_O σ (ci + 1)) c b j = fV σ c b j := by
    intro b c j e
    unfold fV
    by_cases hp : fPrim (fTy c j) = true
    · rw [if_pos hp, if_pos hp]
      show Value.int (if b = h_z σ then 0 else _) = _
      rw [if_neg e]
    · rw [if_neg hp, if_neg hp]
      show va_rf (if b = h_z σ then none else _) = _
      rw [if_neg e]
  have ez : h_z (n_O σ (ci + 1)) = h_z σ + 1 := rfl
  refine ⟨by rw [hs, h1]; rfl, by rw [ez]; omega, fun q hq' => ?_, fun b hb => ?_, fun b c hc hb => ?_, fun b t ht hb => ?_, fun b t ht hb => ?_⟩
  · rw [hq q (by omega)]; exact h3 q hq'
  · rw [ez]
    by_cases e : b = h_z σ
    · subst e; omega
    · rw [ek b e] at hb
      have := h4 b hb
      omega
  · by_cases e : b = h_z σ
    · subst e
      rw [ek0] at hb
      have : c = ci := by omega
      subst this
      rw [← h1]
      refine ho.to (fun k _ => ?_)
      unfold fV
      by_cases hp : fPrim (fTy c k) = true
      · rw [if_pos hp, if_pos hp]
        show _ = Value.int (if H.size = h_z σ then 0 else _)
        rw [if_pos h1]
      · rw [if_neg hp, if_neg hp]
        show _ = va_rf (if H.size = h_z σ then none else _)
        rw [if_pos h1]
        rfl
    · rw [ek b e] at hb
      have := h4 b (by omega)
      exact ((h5 b c hc hb).kept (hq b (by omega))).to (fun j _ => (ev b c j e).symm)
  · by_cases e : b = h_z σ
    · subst e; rw [ek0] at hb; omega
    · rw [ek b e] at hb
      have := h4 b (by omega)
      rw [hq b (by omega)]
      exact h6 b t ht hb
  · by_cases e : b = h_z σ
    · subst e; rw [ek0] at hb; omega
    · rw [ek b e] at hb
      have := h4 b (by omega)
      rw [hq b (by omega)]
      exact h7 b t ht hb
/-- a new row -/
theorem Rp.newA {t m : Nat} (h : Rp D σ H) (ht : (20 ≤ t ∧ t < 23) ∨ (30 ≤ t ∧ t < 36)) (hs : H'.size = H.size + 1) (hq : ∀ q, q < H.size → H'[q]? = H[q]?)
    (ho : H'[H.size]? = some (arrV (d_A D t) m (fun _ => if t < 23 then .int 0 else .null))) : Rp D (n_A σ t m) H' := by
  have hz0 := h.z0
  obtain ⟨h1, h2, h3, h4, h5, h6, h7⟩ := h
  have ek : ∀ b, b ≠ h_z σ → h_K (n_A σ t m) b = h_K σ b := fun b e => u1_n _ _ e
  have ek0 : h_K (n_A σ t m) (h_z σ) = t := u1_s _ _ _
  have el : ∀ b, b ≠ h_z σ → h_L (n_A σ t m) b = h_L σ b := fun b e => u1_n _ _ e
  have el0 : h_L (n_A σ t m) (h_z σ) = m := u1_s _ _ _
  have ex : ∀ b, b ≠ h_z σ → h_X (n_A σ t m) b = h_X σ b := fun b e => u1_n _ _ e
  have ex0 : h_X (n_A σ t m) (h_z σ) = fun _ => 0 := u1_s _ _ _
  have ey : ∀ b, b ≠ h_z σ → h_Y (n_A σ t m) b = h_Y σ b := fun b e => u1_n _ _ e
  have ey0 : h_Y (n_A σ t m) (h_z σ) = fun _ => none := u1_s _ _ _
  have ez : h_z (n_A σ t m) = h_z σ + 1 := rfl
  refine ⟨by rw [hs, h1]; rfl, by rw [ez]; omega, fun q hq' => ?_, fun b hb => ?_, fun b c hc hb => ?_, fun b t' ht' hb => ?_, fun b t' ht' hb => ?_⟩
  · rw [hq q (by omega)]; exact h3 q hq'
  · rw [ez]
    by_cases e : b = h_z σ
    · subst e; omega
    · rw [ek b e] at hb
      have := h4 b hb
      omega
  · by_cases e : b = h_z σ
    · subst e; rw [ek0] at hb; omega
    · rw [ek b e] at hb
      have := h4 b (by omega)
      exact (h5 b c hc hb).kept (hq b (by omega))
  · by_cases e : b = h_z σ
    · subst e
      rw [ek0] at hb
      subst hb
      rw [el0, ex0, ← h1, ho, if_pos (by omega)]
      exact ⟨rfl, fun _ _ => by show fits .byte (.int 0) = true; decide⟩
    · rw [ek b e] at hb
      have := h4 b (by omega)
      rw [hq b (by omega), el b e, ex b e]
      exact h6 b t' ht' hb
  · by_cases e : b = h_z σ
    · subst e
      rw [ek0] at hb
      subst hb
      rw [el0, ey0, ← h1, ho, if_neg (by omega)]
      rfl
    · rw [ek b e] at hb
      have := h4 b (by omega)
      rw [hq b (by omega), el b e, ey b e]
      exact h7 b t' ht' hb
end HP
end
section
/-! ===== the rules of the heap's instructions ===== -/
theorem cnm_div {c k : Nat} (h : k < 1024) : (c * 1024 + k) / 1024 = c ∧ (c * 1024 + k) % 1024 = k := by omega
section HR
variable {l : Launch} {D : DD} {R : Room} {Z : List Frame → Array Value → State → State → Prop} {y pc n x kc ks : Nat} {ls : List (Option Value)} {st : List Value} {σ : Hp}
/-- what a field's link says -/
theorem f_fld {i : Instr} {k f : Nat} {p : Program} {s : State} {m : MethodId} {args : Array Value} {meth : Method} {c : Code} (hC : Cx y p s m args meth c) (hf : ft y pc = some (i, n, f)) (h : okI (mCls y) pc i n f = (n == pc + 3 && decide (k < 1024) && fLk.contains (mCls y * 1024 + k, f))) :
    n = pc + 3 ∧ decode (mCode y) pc = .ok (i, 3) ∧ f / 64 < 12 ∧ f % 64 < fN (f / 64) ∧ (Cond.fieldLink (cnm (mCls y)) k (fT (f / 64) (f % 64)).1 (fT (f / 64) (f % 64)).2.1 (fT (f / 64) (f % 64)).2.2.1).before args s = true := by
  obtain ⟨hd, hn⟩ := ft_ok hf
  rw [h] at hn
  obtain ⟨hn, hb⟩ := okn hn
  obtain ⟨hn, hk⟩ := okn hn
  have hn : n = pc + 3 := by simpa using hn
  have hk := of_decide_eq_true hk
  subst hn
  rw [Nat.add_sub_cancel_left] at hd
  obtain ⟨h1, h2, h3⟩ := fLk_in hb
  have h4 := hC.2.2.2.2.1 _ h1
  unfold fLkW at h4
  simp only [(cnm_div (c := mCls y) hk).1, (cnm_div (c := mCls y) hk).2] at h4
  exact ⟨rfl, hd, h2, h3, h4⟩
theorem g_get {k f a : Nat} (hf : ft y pc = some (.getfield k, n, f)) (hk : h_K σ a = f / 64 + 1) (kk : G l D R Z y n ls (fV σ (f / 64) a (f % 64) :: st) σ kc ks) : G l D R Z y pc ls (va_rf (some a) :: st) σ kc ks := by
  intro p e s m args below meth c H locs cells slots la hC h2 h3 h4 h5 h6 h7
  obtain ⟨hn, hd, hci, hkn, hlink⟩ := f_fld (k := k) hC hf rfl
  subst hn
  obtain ⟨cell, q1, q2, q3, q4⟩ := h3.2.2.2.2.1 a (f / 64) hci hk
  obtain ⟨hS, hfc, kC, hkC, hkind⟩ := h2.1 (f / 64) hci
  obtain ⟨cf, kf, fi, fd, hi, hsl⟩ := hS (f % 64) hkn
  refine W.getf hC.1 hC.2.1 hC.2.2.2.1 hlink hi (u_facts hfc hkC (u_lays hC.2.2.2.2.1 (vw_in hci) hkn) hi).1 q1 (by rw [q3]; exact fun h => by cases h) (v := fV σ (f / 64) a (f % 64)) ?_ rfl rfl hd (kk p e s m args below meth c H locs cells slots la hC h2 h3 h4 h5 h6 h7)
  rw [hsl, q4 (f % 64) hkn]
theorem r_getI {k f a : Nat} (hf : ft y pc = some (.getfield k, n, f)) (hk : h_K σ a = f / 64 + 1) (hp : fPrim (fTy (f / 64) (f % 64)) = true) (kk : G l D R Z y n ls (.int (h_I σ f a) :: st) σ kc ks) : G l D R Z y pc ls (va_rf (some a) :: st) σ kc ks := by
  refine g_get hf hk ?_
  unfold fV
  rw [if_pos hp, Nat.div_add_mod]
  exact kk
theorem r_getP {k f a : Nat} (hf : ft y pc = some (.getfield k, n, f)) (hk : h_K σ a = f / 64 + 1) (hp : fPrim (fTy (f / 64) (f % 64)) = false) (kk : G l D R Z y n ls (va_rf (h_P σ f a) :: st) σ kc ks) : G l D R Z y pc ls (va_rf (some a) :: st) σ kc ks := by
  refine g_get hf hk ?_
  unfold fV
  rw [if_neg (by rw [hp]; decide), Nat.div_add_mod]
  exact kk
theorem g_put {k f a : Nat} {v : Value} {τ : Hp} (hf : ft y pc = some (.putfield k, n, f)) (hk : h_K σ a = f / 64 + 1) (hfin : (fT (f / 64) (f % 64)).2.2.2 = false ∨ ((mName y).name = "<init>" ∧ (fT (f / 64) (f % 64)).1 = cnm (mCls y))) (hn : narrow (fTy (f / 64) (f % 64)) v = v) (hfit : fits (fTy (f / 64) (f % 64)) v = true)
    (hz : h_z τ = h_z σ) (hK : h_K τ = h_K σ) (hL : h_L τ = h_L σ) (hX : h_X τ = h_X σ) (hY : h_Y τ = h_Y σ) (hv : ∀ b c j, b ≠ a → fV τ c b j = fV σ c b j) (hv2 : ∀ j, j < fN (f / 64) → updV (fV σ (f / 64) a) (f % 64) v j = fV τ (f / 64) a j)
    (kk : G l D R Z y n ls st τ kc ks) : G l D R Z y pc ls (v :: va_rf (some a) :: st) σ kc ks := by
  intro p e s m args below meth c H locs cells slots la hC h2 h3 h4 h5 h6 h7
  obtain ⟨hn3, hd, hci, hkn, hlink⟩ := f_fld (k := k) hC hf rfl
  subst hn3
  have h3' := h3
  obtain ⟨cell, q1, q2, q3, q4⟩ := h3.2.2.2.2.1 a (f / 64) hci hk
  obtain ⟨hS, hfc, kC, hkC, hkind⟩ := h2.1 (f / 64) hci
  obtain ⟨cf, kf, fi, fd, hi, hsl⟩ := hS (f % 64) hkn
  have hap : ∀ x y, x < fN (f / 64) → y < fN (f / 64) → x ≠ y → (D.1.2 (f / 64)) x ≠ (D.1.2 (f / 64)) y := by
    intro x y hx hy hne
    obtain ⟨_, _, _, fa, hia, ea⟩ := hS x hx
    obtain ⟨_, _, _, fb, hib, eb⟩ := hS y hy
    rw [← ea, ← eb]
    refine u_apart (u_lays hC.2.2.2.2.1 (vw_in hci) hx) (u_lays hC.2.2.2.2.1 (vw_in hci) hy) hia hib ?_
    rw [(State.fieldFound?_type hia (vw_ty hci x hx)).1, (State.fieldFound?_type hib (vw_ty hci y hy)).1]
    exact vw_nm hci x hx y hy hne
  have hst := (u_facts hfc hkC (u_lays hC.2.2.2.2.1 (vw_in hci) hkn) hi).1
  have hlay := hC.2.2.2.2.1 _ (vw_in hci _ (u_in_lay hkn))
  have fin : ∀ (H1 : Heap), H1[a]? = some (cell.setSlot fd.slot v) → H1.size = H.size → (∀ q, q ≠ a → H1[q]? = H[q]?) → W p l e R s m args below meth c H1 (locs ++ [⟨a, fd.slot⟩]) cells slots (Z below args s) (F0 m (pc + 3) la st) := by
    intro H1 e1 e2 e3
    refine kk p e s m args below meth c H1 _ cells slots la hC h2 ?_ ?_ h5 h6 h7
    · rw [hsl] at e1
      exact h3'.obj hz hK hL hX hY hk hci e2 e3 hv (t_OB.to ⟨_, e1, q2, q3, t_set q4 hap hkn v⟩ hv2)
    · intro q hq
      rcases List.mem_append.mp hq with g | g
      · exact h4 q g
      · rw [List.mem_singleton.mp g]
        exact (h3'.2.2.2.1 a (by omega)).1
  rcases hfin with hfin | ⟨hin, hdecl⟩
  · unfold u_lay at hlay
    rw [if_neg (by rw [hfin]; decide)] at hlay
    have h8 := u_store hfc hkC hkind hlay hi (vw_ty hci _ hkn) hn hfit
    exact W.putK hC.1 hC.2.1 (f := fd) ⟨hC.2.2.2.1, hlink, ⟨_, _, _, hi⟩, hst⟩ (by rw [q2]; exact h8) q1 q3 (by rw [hsl]; exact k2_hasslot (q4 _ hkn)) rfl rfl hd fin
  · by_cases hff : (fT (f / 64) (f % 64)).2.2.2 = true
    · unfold u_lay at hlay
      rw [if_pos hff] at hlay
      have hcf : m.cls = cf := by
        obtain ⟨_, _, c', _, _, _, -, -, hf', -, -, -, hown2, -⟩ := Cond.laysFinal_spec hlay
        have e1 : c' = cf := by have := hi.symm.trans hf'; simp at this; exact this.1.symm
        rw [hdecl] at hown2
        rw [← e1]; exact Option.some.inj (hC.2.2.2.1.symm.trans hown2)
      have h8 := u_fits hfc hkC hkind (Or.inr hlay) hi (vw_ty hci _ hkn) hn hfit
      exact W.putFinK hC.1 hC.2.1 hC.2.2.2.1 hlink hi hst hcf (hC.2.2.2.2.2.2.2.trans hin) (by rw [q2]; exact h8) q1 q3 (by rw [hsl]; exact k2_hasslot (q4 _ hkn)) rfl rfl hd fin
    · unfold u_lay at hlay
      rw [if_neg hff] at hlay
      have h8 := u_store hfc hkC hkind hlay hi (vw_ty hci _ hkn) hn hfit
      exact W.putK hC.1 hC.2.1 (f := fd) ⟨hC.2.2.2.1, hlink, ⟨_, _, _, hi⟩, hst⟩ (by rw [q2]; exact h8) q1 q3 (by rw [hsl]; exact k2_hasslot (q4 _ hkn)) rfl rfl hd fin
theorem r_putI {k f a : Nat} {v : Int32} (hf : ft y pc = some (.putfield k, n, f)) (hk : h_K σ a = f / 64 + 1) (hp : fPrim (fTy (f / 64) (f % 64)) = true) (hfin : (fT (f / 64) (f % 64)).2.2.2 = false ∨ ((mName y).name = "<init>" ∧ (fT (f / 64) (f % 64)).1 = cnm (mCls y))) (hn : narrow (fTy (f / 64) (f % 64)) (.int v) = .int v) (hfit : fits (fTy (f / 64) (f % 64)) (.int v) = true)
    (kk : G l D R Z y n ls st (w_I σ f a v) kc ks) : G l D R Z y pc ls (.int v :: va_rf (some a) :: st) σ kc ks := by
  have e := Nat.div_add_mod f 64
  refine g_put (τ := w_I σ f a v) hf hk hfin hn hfit rfl rfl rfl rfl rfl (fun b c j hb => ?_) (fun j hj => ?_) kk
  · rw [← e, fV_wI, if_neg (fun q => hb q.1.2)]
  · have h2 : fV (w_I σ f a v) (f / 64) a j = fV (w_I σ (64 * (f / 64) + f % 64) a v) (f / 64) a j := by rw [e]
    rw [h2, fV_wI]
    unfold updV
    by_cases q : j = f % 64
    · subst q
      rw [if_pos rfl, if_pos ⟨⟨rfl, rfl⟩, hp⟩]
    · rw [if_neg q, if_neg (fun z => q (by omega))]
theorem r_putP {k f a : Nat} {v : Option Nat} (hf : ft y pc = some (.putfield k, n, f)) (hk : h_K σ a = f / 64 + 1) (hp : fPrim (fTy (f / 64) (f % 64)) = false) (hfin : (fT (f / 64) (f % 64)).2.2.2 = false ∨ ((mName y).name = "<init>" ∧ (fT (f / 64) (f % 64)).1 = cnm (mCls y)))
    (kk : G l D R Z y n ls st (w_P σ f a v) kc ks) : G l D R Z y pc ls (va_rf v :: va_rf (some a) :: st) σ kc ks := by
  have e := Nat.div_add_mod f 64
  have hn : narrow (fTy (f / 64) (f % 64)) (va_rf v) = va_rf v ∧ fits (fTy (f / 64) (f % 64)) (va_rf v) = true := by
    cases h : fTy (f / 64) (f % 64) <;> (rw [h] at hp; first | (cases hp; done) | (cases v <;> exact ⟨rfl, rfl⟩))
  refine g_put (τ := w_P σ f a v) hf hk hfin hn.1 hn.2 rfl rfl rfl rfl rfl (fun b c j hb => ?_) (fun j hj => ?_) kk
  · rw [← e, fV_wP, if_neg (fun q => hb q.1.2)]
  · have h2 : fV (w_P σ f a v) (f / 64) a j = fV (w_P σ (64 * (f / 64) + f % 64) a v) (f / 64) a j := by rw [e]
    rw [h2, fV_wP]
    unfold updV
    by_cases q : j = f % 64
    · subst q
      rw [if_pos rfl, if_pos ⟨⟨rfl, rfl⟩, by rw [hp]; decide⟩]
    · rw [if_neg q, if_neg (fun z => q (by omega))]
end HR
end
section
/-! ===== rows, new cells ===== -/
section AR
variable {l : Launch} {D : DD} {R : Room} {Z : List Frame → Array Value → State → State → Prop} {y pc n x kc ks : Nat} {ls : List (Option Value)} {st : List Value} {σ : Hp}
/-- what is known of the heap at any time -/
theorem g_fits (k : (∀ a, h_K σ a = 20 → ∀ j, fits .byte (.int (h_X σ a j)) = true) → (∀ a, h_K σ a ≠ 0 → a < h_z σ) → h_K σ (h_z σ) = 0 → G l D R Z y pc ls st σ kc ks) : G l D R Z y pc ls st σ kc ks := by
  intro p e s m args below meth c H locs cells slots la hC h2 h3 h4 h5 h6 h7
  exact k (fun a ha j => (h3.2.2.2.2.2.1 a 0 (by omega) ha).2 rfl j) (fun a ha => (h3.2.2.2.1 a ha).2) h3.z0 p e s m args below meth c H locs cells slots la hC h2 h3 h4 h5 h6 h7
theorem ix_in {i : Int32} {j N : Nat} (hi : i = nI j) (hj : j < N) (hN : N < 2 ^ 31) : ¬ (i < 0 ∨ N ≤ i.toNatClampNeg) ∧ i.toNatClampNeg = j := by
  subst hi
  exact ⟨vp_in_nI hj hN, nI_clamp (by omega)⟩
theorem r_iald {a j : Nat} {i : Int32} (hf : ft y pc = some (.iaload, n, x)) (hk : h_K σ a = 21) (hi : i = nI j) (hj : j < h_L σ a) (hL : h_L σ a < 2 ^ 31) (kk : G l D R Z y n ls (.int (h_X σ a j) :: st) σ kc ks) : G l D R Z y pc ls (.int i :: va_rf (some a) :: st) σ kc ks := by
  intro p e s m args below meth c H locs cells slots la hC h2 h3 h4 h5 h6 h7
  obtain ⟨hn, hd⟩ := f_1 hf rfl
  subst hn
  obtain ⟨q1, q2⟩ := ix_in hi hj hL
  have hc := (h3.2.2.2.2.2.1 a 1 (by omega) hk).1
  exact W.iald (v := .int (h_X σ a j)) hC.1 hC.2.1 hc ((h2.2.1 21 .int rfl).1 _ _) (fun q => by cases q) (by rw [arrV_size]; exact q1) (by rw [q2, arrV_read _ _ hj]) rfl rfl hd (kk p e s m args below meth c H locs cells slots la hC h2 h3 h4 h5 h6 h7)
theorem r_bald {a j : Nat} {i : Int32} (hf : ft y pc = some (.baload, n, x)) (hk : h_K σ a = 20) (hi : i = nI j) (hj : j < h_L σ a) (hL : h_L σ a < 2 ^ 31) (kk : G l D R Z y n ls (.int (h_X σ a j) :: st) σ kc ks) : G l D R Z y pc ls (.int i :: va_rf (some a) :: st) σ kc ks := by
  intro p e s m args below meth c H locs cells slots la hC h2 h3 h4 h5 h6 h7
  obtain ⟨hn, hd⟩ := f_1 hf rfl
  subst hn
  obtain ⟨q1, q2⟩ := ix_in hi hj hL
  have hc := (h3.2.2.2.2.2.1 a 0 (by omega) hk).1
  exact W.bald (v := .int (h_X σ a j)) hC.1 hC.2.1 hc ((h2.2.1 20 .byte rfl).1 _ _) (fun q => by cases q) (by rw [arrV_size]; exact q1) (by rw [q2, arrV_read _ _ hj]) rfl rfl hd (kk p e s m args below meth c H locs cells slots la hC h2 h3 h4 h5 h6 h7)
theorem r_zald {a j : Nat} {i : Int32} (hf : ft y pc = some (.baload, n, x)) (hk : h_K σ a = 22) (hi : i = nI j) (hj : j < h_L σ a) (hL : h_L σ a < 2 ^ 31) (kk : G l D R Z y n ls (.int (h_X σ a j) :: st) σ kc ks) : G l D R Z y pc ls (.int i :: va_rf (some a) :: st) σ kc ks := by
  intro p e s m args below meth c H locs cells slots la hC h2 h3 h4 h5 h6 h7
  obtain ⟨hn, hd⟩ := f_1 hf rfl
  subst hn
  obtain ⟨q1, q2⟩ := ix_in hi hj hL
  have hc := (h3.2.2.2.2.2.1 a 2 (by omega) hk).1
  exact W.zald (v := .int (h_X σ a j)) hC.1 hC.2.1 hc ((h2.2.1 22 .boolean rfl).1 _ _) (fun q => by cases q) (by rw [arrV_size]; exact q1) (by rw [q2, arrV_read _ _ hj]) rfl rfl hd (kk p e s m args below meth c H locs cells slots la hC h2 h3 h4 h5 h6 h7)
theorem aTy_30 {t : Nat} (ht : t < 6) : ∃ C, aTy (30 + t) = some (.object C) := by
  match t, ht with
  | 0, _ => exact ⟨_, rfl⟩
  | 1, _ => exact ⟨_, rfl⟩
  | 2, _ => exact ⟨_, rfl⟩
  | 3, _ => exact ⟨_, rfl⟩
  | 4, _ => exact ⟨_, rfl⟩
  | 5, _ => exact ⟨_, rfl⟩
theorem r_aald {a j t : Nat} {i : Int32} (hf : ft y pc = some (.aaload, n, x)) (hk : h_K σ a = 30 + t) (ht : t < 6) (hi : i = nI j) (hj : j < h_L σ a) (hL : h_L σ a < 2 ^ 31) (kk : G l D R Z y n ls (va_rf (h_Y σ a j) :: st) σ kc ks) : G l D R Z y pc ls (.int i :: va_rf (some a) :: st) σ kc ks := by
  intro p e s m args below meth c H locs cells slots la hC h2 h3 h4 h5 h6 h7
  obtain ⟨hn, hd⟩ := f_1 hf rfl
  subst hn
  obtain ⟨q1, q2⟩ := ix_in hi hj hL
  have hc := h3.2.2.2.2.2.2 a t ht hk
  obtain ⟨C, hC2⟩ := aTy_30 ht
  exact W.aald (v := va_rf (h_Y σ a j)) (ty := .object C) hC.1 hC.2.1 hc ((h2.2.1 (30 + t) _ hC2).1 _ _) rfl (fun q => by cases q) (by rw [arrV_size]; exact q1) (by rw [q2, arrV_read _ _ hj]) rfl rfl hd (kk p e s m args below meth c H locs cells slots la hC h2 h3 h4 h5 h6 h7)
theorem r_alen {a : Nat} (hf : ft y pc = some (.arraylength, n, x)) (hk : (20 ≤ h_K σ a ∧ h_K σ a < 23) ∨ (30 ≤ h_K σ a ∧ h_K σ a < 36)) (kk : G l D R Z y n ls (.int (nI (h_L σ a)) :: st) σ kc ks) : G l D R Z y pc ls (va_rf (some a) :: st) σ kc ks := by
  intro p e s m args below meth c H locs cells slots la hC h2 h3 h4 h5 h6 h7
  obtain ⟨hn, hd⟩ := f_1 hf rfl
  subst hn
  have kk := kk p e s m args below meth c H locs cells slots la hC h2 h3 h4 h5 h6 h7
  rcases hk with hk | hk
  · obtain ⟨t, ht⟩ : ∃ t, h_K σ a = 20 + t := ⟨h_K σ a - 20, by omega⟩
    have hc := (h3.2.2.2.2.2.1 a t (by omega) ht).1
    have ha : ∃ ty, aTy (20 + t) = some ty := by
      have : t < 3 := by omega
      match t, this with
      | 0, _ => exact ⟨_, rfl⟩
      | 1, _ => exact ⟨_, rfl⟩
      | 2, _ => exact ⟨_, rfl⟩
    obtain ⟨ty, hty⟩ := ha
    exact W.alen (n := nI (h_L σ a)) hC.1 hC.2.1 hc ((h2.2.1 (20 + t) _ hty).1 _ _) (by rw [arrV_size]; rfl) rfl rfl hd kk
  · obtain ⟨t, ht⟩ : ∃ t, h_K σ a = 30 + t := ⟨h_K σ a - 30, by omega⟩
    have hc := h3.2.2.2.2.2.2 a t (by omega) ht
    obtain ⟨C, hC2⟩ := aTy_30 (t := t) (by omega)
    exact W.alen (n := nI (h_L σ a)) hC.1 hC.2.1 hc ((h2.2.1 (30 + t) _ hC2).1 _ _) (by rw [arrV_size]; rfl) rfl rfl hd kk
theorem locs_ok {locs : List Loc} {N a i : Nat} (h : ∀ q ∈ locs, N ≤ q.base) (ha : N ≤ a) : ∀ q ∈ locs ++ [⟨a, i⟩], N ≤ q.base := by
  intro q hq
  rcases List.mem_append.mp hq with g | g
  · exact h q g
  · rw [List.mem_singleton.mp g]
    exact ha
theorem updV_int (f : Nat → Int32) (j : Nat) (v : Int32) : updV (fun q => .int (f q)) j (.int v) = fun q => .int (upd f j v q) := by
  funext q
  by_cases e : q = j <;> simp [updV, upd, e]
theorem updV_ref (f : Nat → Option Nat) (j : Nat) (v : Option Nat) : updV (fun q => va_rf (f q)) j (va_rf v) = fun q => va_rf (u_1 f j v q) := by
  funext q
  by_cases e : q = j <;> simp [updV, u_1, e]
theorem r_iast {a j : Nat} {i v : Int32} (hf : ft y pc = some (.iastore, n, x)) (hk : h_K σ a = 21) (hi : i = nI j) (hj : j < h_L σ a) (hL : h_L σ a < 2 ^ 31) (kk : G l D R Z y n ls st (w_X σ a (upd (h_X σ a) j v)) kc ks) : G l D R Z y pc ls (.int v :: .int i :: va_rf (some a) :: st) σ kc ks := by
  intro p e s m args below meth c H locs cells slots la hC h2 h3 h4 h5 h6 h7
  obtain ⟨hn, hd⟩ := f_1 hf rfl
  subst hn
  obtain ⟨q1, q2⟩ := ix_in hi hj hL
  have hc := (h3.2.2.2.2.2.1 a 1 (by omega) hk).1
  refine W.iast hC.1 hC.2.1 hc ((h2.2.1 21 .int rfl).1 _ _) (fun q => by cases q) (by rw [arrV_size]; exact q1) rfl rfl hd (fun H1 e1 e2 e3 => ?_)
  rw [q2, arrV_store, updV_int] at e1
  exact kk p e s m args below meth c H1 _ cells slots la hC h2 (h3.rowX (t := 1) hk (by omega) e2 e3 e1 (fun h => by omega)) (locs_ok h4 (h3.2.2.2.1 a (by omega)).1) h5 h6 h7
theorem r_bast {a j : Nat} {i v : Int32} (hf : ft y pc = some (.bastore, n, x)) (hk : h_K σ a = 20) (hi : i = nI j) (hj : j < h_L σ a) (hL : h_L σ a < 2 ^ 31) (hv : narrow .byte (.int v) = .int v) (hv2 : fits .byte (.int v) = true) (kk : G l D R Z y n ls st (w_X σ a (upd (h_X σ a) j v)) kc ks) : G l D R Z y pc ls (.int v :: .int i :: va_rf (some a) :: st) σ kc ks := by
  intro p e s m args below meth c H locs cells slots la hC h2 h3 h4 h5 h6 h7
  obtain ⟨hn, hd⟩ := f_1 hf rfl
  subst hn
  obtain ⟨q1, q2⟩ := ix_in hi hj hL
  have hc := h3.2.2.2.2.2.1 a 0 (by omega) hk
  refine W.bast hC.1 hC.2.1 hc.1 ((h2.2.1 20 .byte rfl).1 _ _) (fun q => by cases q) (by rw [arrV_size]; exact q1) rfl rfl hd (fun H1 e1 e2 e3 => ?_)
  rw [q2, hv, arrV_store, updV_int] at e1
  refine kk p e s m args below meth c H1 _ cells slots la hC h2 (h3.rowX (t := 0) hk (by omega) e2 e3 e1 (fun h q => ?_)) (locs_ok h4 (h3.2.2.2.1 a (by omega)).1) h5 h6 h7
  unfold upd
  by_cases e : q = j
  · rw [if_pos e]; exact hv2
  · rw [if_neg e]; exact hc.2 rfl q
theorem r_zast {a j : Nat} {i v : Int32} (hf : ft y pc = some (.bastore, n, x)) (hk : h_K σ a = 22) (hi : i = nI j) (hj : j < h_L σ a) (hL : h_L σ a < 2 ^ 31) (hv : narrow .boolean (.int v) = .int v) (kk : G l D R Z y n ls st (w_X σ a (upd (h_X σ a) j v)) kc ks) : G l D R Z y pc ls (.int v :: .int i :: va_rf (some a) :: st) σ kc ks := by
  intro p e s m args below meth c H locs cells slots la hC h2 h3 h4 h5 h6 h7
  obtain ⟨hn, hd⟩ := f_1 hf rfl
  subst hn
  obtain ⟨q1, q2⟩ := ix_in hi hj hL
  have hc := (h3.2.2.2.2.2.1 a 2 (by omega) hk).1
  refine W.zast hC.1 hC.2.1 hc ((h2.2.1 22 .boolean rfl).1 _ _) (fun q => by cases q) (by rw [arrV_size]; exact q1) rfl rfl hd (fun H1 e1 e2 e3 => ?_)
  rw [q2, hv, arrV_store, updV_int] at e1
  exact kk p e s m args below meth c H1 _ cells slots la hC h2 (h3.rowX (t := 2) hk (by omega) e2 e3 e1 (fun h => by omega)) (locs_ok h4 (h3.2.2.2.1 a (by omega)).1) h5 h6 h7
/-- the class of what a row of kind 30 + t holds -/
def aCl (t : Nat) : Nat := if t = 5 then 8 else t
theorem aCl_ty {t : Nat} (ht : t < 6) : aTy (30 + t) = some (.object (cnm (aCl t))) ∧ aCl t < 12 := by
  match t, ht with
  | 0, _ => exact ⟨rfl, by decide⟩
  | 1, _ => exact ⟨rfl, by decide⟩
  | 2, _ => exact ⟨rfl, by decide⟩
  | 3, _ => exact ⟨rfl, by decide⟩
  | 4, _ => exact ⟨rfl, by decide⟩
  | 5, _ => exact ⟨rfl, by decide⟩
theorem r_aast {a j t : Nat} {i : Int32} {v : Option Nat} (hf : ft y pc = some (.aastore, n, x)) (hk : h_K σ a = 30 + t) (ht : t < 6) (hi : i = nI j) (hj : j < h_L σ a) (hL : h_L σ a < 2 ^ 31) (hv : ∀ b, v = some b → h_K σ b = aCl t + 1) (kk : G l D R Z y n ls st (w_Y σ a (u_1 (h_Y σ a) j v)) kc ks) : G l D R Z y pc ls (va_rf v :: .int i :: va_rf (some a) :: st) σ kc ks := by
  intro p e s m args below meth c H locs cells slots la hC h2 h3 h4 h5 h6 h7
  obtain ⟨hn, hd⟩ := f_1 hf rfl
  subst hn
  obtain ⟨q1, q2⟩ := ix_in hi hj hL
  have hc := h3.2.2.2.2.2.2 a t ht hk
  obtain ⟨hA, hA2⟩ := aCl_ty ht
  have hT := h2.2.1 (30 + t) _ hA
  have fin : ∀ (H1 : Heap), H1[a]? = some ((arrV (d_A D (30 + t)) (h_L σ a) (fun j => va_rf (h_Y σ a j))).setSlot i.toNatClampNeg (va_rf v)) → H1.size = H.size → (∀ q, q ≠ a → H1[q]? = H[q]?) → W p l e R s m args below meth c H1 (locs ++ [⟨a, i.toNatClampNeg⟩]) cells slots (Z below args s) (F0 m (pc + 1) la st) := by
    intro H1 e1 e2 e3
    rw [q2, arrV_store, updV_ref] at e1
    exact kk p e s m args below meth c H1 _ cells slots la hC h2 (h3.rowY hk ht e2 e3 e1) (locs_ok h4 (h3.2.2.2.1 a (by omega)).1) h5 h6 h7
  cases v with
  | none => exact va_WaastN (C := cnm (aCl t)) hC.1 hC.2.1 hc (hT.1 _ _) (fun q => by cases q) (by rw [arrV_size]; exact q1) rfl rfl hd fin
  | some b =>
    obtain ⟨cellV, g1, g2, g3, -⟩ := h3.2.2.2.2.1 b (aCl t) hA2 (hv b rfl)
    have hcls := (h2.1 (aCl t) hA2).2
    obtain ⟨kA, comp, k1, k2, k3, -⟩ := hT.2
    have hcomp : comp = D.1.1 (aCl t) := Option.some.inj (k3.symm.trans hcls.1)
    subst hcomp
    obtain ⟨kC, hkC, -⟩ := hcls.2
    exact W.aast hC.1 hC.2.1 hc (fun q h => by cases h) (fun h => by cases h) k1 k2 rfl hkC ⟨fun q => q1 (Or.inl q), by rw [arrV_size, q2]; exact hj⟩ g1 (fun q h => by rw [g3] at h; cases h) (by rw [g2]; exact hkC) (by rw [g2]; exact va_assign hcls) rfl rfl hd fin
end AR
end
section
/-! ===== new cells, calls, ends ===== -/
def mnm (c : Nat) : MethodName := if c = 900 then Lib.objectInit else if c = 901 then arraycopyName else if c = 902 then ⟨"java/lang/String", "charAt", "(I)C"⟩ else mName c
def mLkW (q : Nat × Nat) : Cond := .methodLink (cnm (q.1 / 1024)) (q.1 % 1024) (mnm q.2)
theorem mLk_all : mLk.map mLkW = mLkI.filterMap (fun i => lw_tbl[i]?) := by decide +kernel
theorem mLk_good : (mLk.map mLkW).all goodWord = true := by decide +kernel
theorem mLk_in {q : Nat × Nat} (h : mLk.contains q = true) : mLkW q ∈ TB := in_TB mLk_all mLk_good _ (List.mem_map.mpr ⟨q, by simpa using h, rfl⟩)
def cLkW (q : Nat × Nat) : Cond := .classLink (cnm (q.1 / 1024)) (q.1 % 1024) (cnm q.2)
theorem cLk_all : cLk.map cLkW = cLkI.filterMap (fun i => lw_tbl[i]?) := by decide +kernel
theorem cLk_good : (cLk.map cLkW).all goodWord = true := by decide +kernel
theorem cLk_rng : cLk.all (fun q => decide (q.2 < 12)) = true := by decide +kernel
theorem cLk_in {q : Nat × Nat} (h : cLk.contains q = true) : cLkW q ∈ TB ∧ q.2 < 12 := by
  have hm : q ∈ cLk := by simpa using h
  exact ⟨in_TB cLk_all cLk_good _ (List.mem_map.mpr ⟨q, hm, rfl⟩), of_decide_eq_true (List.all_eq_true.mp cLk_rng q hm)⟩
theorem inst_in {ci : Nat} (h : ci < 12) : Cond.instantiable (cnm ci) (fN ci) ∈ TB ∧ Cond.initialized (cnm ci) ∈ TB := by
  match ci, h with
  | 0, _ => decide +kernel
  | 1, _ => decide +kernel
  | 2, _ => decide +kernel
  | 3, _ => decide +kernel
  | 4, _ => decide +kernel
  | 5, _ => decide +kernel
  | 6, _ => decide +kernel
  | 7, _ => decide +kernel
  | 8, _ => decide +kernel
  | 9, _ => decide +kernel
  | 10, _ => decide +kernel
  | 11, _ => decide +kernel
theorem arr_in : Cond.arrayClass .byte ∈ TB ∧ Cond.arrayClass .int ∈ TB ∧ Cond.arrayClass .boolean ∈ TB := by decide +kernel
theorem over_in {t : Nat} (h : t < 6) : cnm (aCl t) ∈ ovC := by
  match t, h with
  | 0, _ => decide
  | 1, _ => decide
  | 2, _ => decide
  | 3, _ => decide
  | 4, _ => decide
  | 5, _ => decide
theorem obj_in : Cond.instanceMethod Lib.objectInit ∈ TB ∧ Cond.code Lib.objectInit ⟨#[0xb1]⟩ 1 none ∈ TB := by decide +kernel
theorem cpy_in : Cond.native arraycopyName ∈ TB ∧ Cond.static arraycopyName ∈ TB ∧ Cond.initialized "java/lang/System" ∈ TB := by decide +kernel
def mWords (y : Nat) : List Cond := .code (mName y) (mCode y) (mLoc y) (mRet y) :: .initialized (mName y).cls :: (if mKd y = 1 then [.static (mName y)] else if mKd y = 2 then [.instanceMethod (mName y)] else [.instanceMethod (mName y), .selects (mName y).cls (mName y) (mName y)])
def mChk (y : Nat) : Bool := plainFor (mName y) && decide ((mName y).cls ≠ "java/lang/invoke/MethodHandle") && decide ((mName y).cls ≠ "java/lang/invoke/VarHandle") && decide ((parseMethodDescriptor (mName y).desc).map (fun d => d.parameters.length) = some (mNa y)) && decide (cnm (mCls y) = (mName y).cls) && (if mKd y = 2 then decide ((mName y).name = "<init>" ∧ mRet y = none) else true) && (mWords y).all goodWord
theorem mChk_all : (List.range 191).all mChk = true := by decide +kernel
set_option maxRecDepth 100000 in
theorem mWords_all : (List.range 191).map mWords = (List.range 191).map (fun y => (mWp y).filterMap (fun i => lw_tbl[i]?)) := by rfl
theorem mOK {y : Nat} (h : y < 191) : (∀ w ∈ mWords y, w ∈ TB) ∧ plainFor (mName y) = true ∧ ((mName y).cls ≠ "java/lang/invoke/MethodHandle" ∧ (mName y).cls ≠ "java/lang/invoke/VarHandle") ∧ (parseMethodDescriptor (mName y).desc).map (fun d => d.parameters.length) = some (mNa y) ∧ cnm (mCls y) = (mName y).cls ∧ (mKd y = 2 → (mName y).name = "<init>" ∧ mRet y = none) := by
  have h1 := List.all_eq_true.mp mChk_all y (List.mem_range.mpr h)
  unfold mChk at h1
  obtain ⟨h1, h7⟩ := okn h1
  obtain ⟨h1, h6⟩ := okn h1
  obtain ⟨h1, h5⟩ := okn h1
  obtain ⟨h1, h4⟩ := okn h1
  obtain ⟨h1, h3⟩ := okn h1
  obtain ⟨h1, h2⟩ := okn h1
  have e : mWords y = (mWp y).filterMap (fun i => lw_tbl[i]?) := by
    have hy : y < (List.range 191).length := by rw [List.length_range]; exact h
    have := congrArg (fun L => L[y]?) mWords_all
    simp only [List.getElem?_map, List.getElem?_range h, Option.map_some] at this
    exact Option.some.inj this
  refine ⟨in_TB e h7, h1, ⟨of_decide_eq_true h2, of_decide_eq_true h3⟩, of_decide_eq_true h4, of_decide_eq_true h5, fun hk => ?_⟩
  rw [if_pos hk] at h6
  exact of_decide_eq_true h6
end
section
/-! ===== new cells, calls, ends ===== -/
theorem fTy_ok {ci : Nat} (h : ci < 12) : ∀ {j : Nat}, j < fN ci → defaultValue (fTy ci j) = if fPrim (fTy ci j) = true then .int 0 else .null := by
  have : ∀ j, j < fN ci → defaultValue (fTy ci j) = if fPrim (fTy ci j) = true then .int 0 else .null := by
    match ci, h with
    | 0, _ => decide +kernel
    | 1, _ => decide +kernel
    | 2, _ => decide +kernel
    | 3, _ => decide +kernel
    | 4, _ => decide +kernel
    | 5, _ => decide +kernel
    | 6, _ => decide +kernel
    | 7, _ => decide +kernel
    | 8, _ => decide +kernel
    | 9, _ => decide +kernel
    | 10, _ => decide +kernel
    | 11, _ => decide +kernel
  exact fun {j} hj => this j hj
section CL
variable {l : Launch} {D : DD} {R : Room} {Z : List Frame → Array Value → State → State → Prop} {y pc n x kc ks : Nat} {ls : List (Option Value)} {st : List Value} {σ : Hp}
theorem f_key {i : Instr} {k : Nat} {b : Bool} (hf : ft y pc = some (i, n, x)) (h : okI (mCls y) pc i n x = (n == pc + 3 && decide (k < 1024) && b)) : n = pc + 3 ∧ decode (mCode y) pc = .ok (i, 3) ∧ k < 1024 ∧ b = true := by
  obtain ⟨hd, hn⟩ := ft_ok hf
  rw [h] at hn
  obtain ⟨hn, hb⟩ := okn hn
  obtain ⟨hn, hk⟩ := okn hn
  have hn : n = pc + 3 := by simpa using hn
  subst hn
  rw [Nat.add_sub_cancel_left] at hd
  exact ⟨rfl, hd, of_decide_eq_true hk, hb⟩
theorem w_link {p : Program} {s : State} {m : MethodId} {args : Array Value} {meth : Method} {c : Code} {k z : Nat} (hC : Cx y p s m args meth c) (hk : k < 1024) (h : mLk.contains (mCls y * 1024 + k, z) = true) : (Cond.methodLink (cnm (mCls y)) k (mnm z)).before args s = true := by
  have h2 := hC.2.2.2.2.1 _ (mLk_in h)
  unfold mLkW at h2
  simp only [(cnm_div (c := mCls y) hk).1, (cnm_div (c := mCls y) hk).2] at h2
  exact h2
theorem r_new {k ci : Nat} (hf : ft y pc = some (.new k, n, ci)) (kk : h_K σ (h_z σ) = 0 → G l D R Z y n ls (va_rf (some (h_z σ)) :: st) (n_O σ (ci + 1)) kc ks) : G l D R Z y pc ls st σ (kc + 1) (ks + fN ci) := by
  intro p e s m args below meth c H locs cells slots la hC h2 h3 h4 h5 h6 h7
  obtain ⟨hn, hd, hk, hb⟩ := f_key (k := k) hf rfl
  subst hn
  obtain ⟨hw, hci⟩ := cLk_in hb
  have hlink := hC.2.2.2.2.1 _ hw
  unfold cLkW at hlink
  simp only [(cnm_div (c := mCls y) hk).1, (cnm_div (c := mCls y) hk).2] at hlink
  have hci : ci < 12 := hci
  obtain ⟨w1, w2⟩ := inst_in hci
  have hKn := h2.1 ci hci
  refine W.newcK hC.1 hC.2.1 hC.2.2.2.1 hlink (hC.2.2.2.2.1 _ w1) (hC.2.2.2.2.1 _ w2) rfl hd (by omega) (by omega) hKn.2.1 h3.1 (fun H1 kC hkC e1 z1 o1 => ?_)
  have hb2 := u_born (o := h_z σ) (fTy ci) hC.2.2.2.2.1 (vw_in hci) hKn hkC e1 (vw_ty hci)
  rw [← h3.1] at z1 o1 hb2
  refine kk h3.z0 p e s m args below meth c H1 locs (cells + 1) (slots + fN ci) la hC h2 (h3.newO hci z1 o1 (hb2.to (fun j hj => fTy_ok hci hj))) h4 (by omega) (by omega) h7
theorem r_newa {t m' : Nat} {i : Int32} {at' : ArrayType} (hf : ft y pc = some (.newarray at', n, t)) (hi : i = nI m') (hm : m' < 2 ^ 20) (kk : h_K σ (h_z σ) = 0 → G l D R Z y n ls (va_rf (some (h_z σ)) :: st) (n_A σ t m') kc ks) : G l D R Z y pc ls (.int i :: st) σ (kc + 1) (ks + m') := by
  intro p e s m args below meth c H locs cells slots la hC h2 h3 h4 h5 h6 h7
  obtain ⟨hd, hn⟩ := ft_ok hf
  have hn : (n == pc + 2 && _) = true := hn
  obtain ⟨hn, hb⟩ := okn hn
  have hn : n = pc + 2 := by simpa using hn
  subst hn
  rw [Nat.add_sub_cancel_left] at hd
  subst hi
  have hneg : ¬ nI m' < 0 := nI_pos (by omega)
  have hcl : (nI m').toNatClampNeg = m' := nI_clamp (by omega)
  obtain ⟨a1, a2, a3⟩ := arr_in
  have key : ∀ (ty : FieldType), newarray.typeOf at' = ty → aTy t = some ty → Cond.arrayClass ty ∈ TB → (20 ≤ t ∧ t < 23) → defaultValue ty = .int 0 → componentBytes ty ≤ 8 → (∀ cA : ClassId, s.vm.findClass ("[" ++ ty.toString) = some cA → va_RA s (d_A D t) ty → cA = d_A D t) → W p l e R s m args below meth c H locs cells slots (Z below args s) (F0 m pc la (.int (nI m') :: st)) := by
    intro ty hty hat hin ht hdv hcb hun
    subst hty
    have hby : m' * componentBytes (newarray.typeOf at') ≤ 536870912 := Nat.le_trans (Nat.mul_le_mul (Nat.le_of_lt hm) hcb) (by omega)
    refine va_newaK hC.1 hC.2.1 (hC.2.2.2.2.1 _ hin) rfl hd rfl hneg hcl hby (by omega) (by omega) h3.1 (fun H1 cA e1 z1 o1 hAr hNm => ?_)
    have hcA := hun cA hNm (h2.2.1 t _ hat).2
    subst hcA
    rw [hdv] at e1
    rw [← h3.1] at z1 o1 e1
    exact kk h3.z0 p e s m args below meth c H1 locs (cells + 1) (slots + m') la hC h2 (h3.newA (Or.inl ht) z1 o1 (by rw [e1, if_pos ht.2])) h4 (by omega) (by omega) h7
  cases at' <;> first
    | (cases hb; done)
    | (have hb : t = 20 := by simpa using hb
       subst hb
       exact key .byte rfl rfl a1 (by omega) rfl (by decide) (fun cA h1 h2 => Option.some.inj (h1.symm.trans h2)))
    | (have hb : t = 21 := by simpa using hb
       subst hb
       exact key .int rfl rfl a2 (by omega) rfl (by decide) (fun cA h1 h2 => Option.some.inj (h1.symm.trans h2)))
    | (have hb : t = 22 := by simpa using hb
       subst hb
       exact key .boolean rfl rfl a3 (by omega) rfl (by decide) (fun cA h1 h2 => Option.some.inj (h1.symm.trans h2)))
theorem r_anew {t m' k : Nat} {i : Int32} (hf : ft y pc = some (.anewarray k, n, 30 + t)) (ht : t < 6) (hi : i = nI m') (hm : m' < 2 ^ 20) (kk : h_K σ (h_z σ) = 0 → G l D R Z y n ls (va_rf (some (h_z σ)) :: st) (n_A σ (30 + t) m') kc ks) : G l D R Z y pc ls (.int i :: st) σ (kc + 1) (ks + m') := by
  intro p e s m args below meth c H locs cells slots la hC h2 h3 h4 h5 h6 h7
  obtain ⟨hn, hd, hk, hb⟩ := f_key (k := k) hf rfl
  subst hn
  have hb2 : cLk.contains (mCls y * 1024 + k, aCl t) = true := by
    match t, ht with
    | 0, _ => simpa [aCl] using hb
    | 1, _ => simpa [aCl] using hb
    | 2, _ => simpa [aCl] using hb
    | 3, _ => simpa [aCl] using hb
    | 4, _ => simpa [aCl] using hb
    | 5, _ => simpa [aCl] using hb
  obtain ⟨hw, hci⟩ := cLk_in hb2
  have hlink := hC.2.2.2.2.1 _ hw
  unfold cLkW at hlink
  simp only [(cnm_div (c := mCls y) hk).1, (cnm_div (c := mCls y) hk).2] at hlink
  obtain ⟨hA, hA2⟩ := aCl_ty ht
  have hT := h2.2.1 (30 + t) _ hA
  have hover := h2.2.2.2.2.2.2.2.2 _ (over_in ht)
  subst hi
  have hneg : ¬ nI m' < 0 := nI_pos (by omega)
  have hcl : (nI m').toNatClampNeg = m' := nI_clamp (by omega)
  refine W.anew hC.1 hC.2.1 hC.2.2.2.1 hlink (va_AO.use hover) rfl hd rfl hneg (by omega) (by omega) (by omega) (fun cA kA comp f1 f2 f3 f4 => ?_)
  rw [hcl]
  obtain ⟨kA', comp', k1, k2, k3, k4⟩ := hT.2
  have hcA : cA = d_A D (30 + t) := Option.some.inj (f1.symm.trans k4)
  subst hcA
  generalize hH1 : H.push ({ cls := d_A D (30 + t), slots := Array.replicate m' .null, vm := .none } : Cell) = H1
  have z1 : H1.size = H.size + 1 := by rw [← hH1, Array.size_push]
  have e1 : H1[H.size]? = some (arrV (d_A D (30 + t)) m' (fun _ => .null)) := by rw [← hH1, Array.getElem?_push_size, ← arrV_new]
  have o1 : ∀ q, q < H.size → H1[q]? = H[q]? := fun q hq => by rw [← hH1, Array.getElem?_push, if_neg (Nat.ne_of_lt hq)]
  rw [h3.1]
  exact kk h3.z0 p e s m args below meth c H1 locs (cells + 1) (slots + m') la hC h2 (h3.newA (Or.inr ⟨by omega, by omega⟩) z1 o1 (by rw [e1, if_neg (by omega)])) h4 (by omega) (by omega) h7
theorem r_objInit {k a : Nat} (hf : ft y pc = some (.invokespecial k, n, 900)) (hl : st.length ≤ 4) (hR : 1 ≤ R.frames ∧ 20 ≤ R.locals) (kk : G l D R Z y n ls st σ kc ks) : G l D R Z y pc ls (va_rf (some a) :: st) σ kc ks := by
  intro p e s m args below meth c H locs cells slots la hC h2 h3 h4 h5 h6 h7
  obtain ⟨hn, hd, hk, hb⟩ := f_key (k := k) hf rfl
  subst hn
  have hb2 : mLk.contains (mCls y * 1024 + k, 900) = true := by
    rcases Bool.or_eq_true _ _ ▸ hb with g | g
    · exact g
    · simp [nLk] at g
  have hlink := w_link hC hk hb2
  obtain ⟨w1, w2⟩ := obj_in
  have hsum : (st.map fun v => v.category).sum ≤ 8 := by
    have : ∀ (L : List Value), (L.map fun v => v.category).sum ≤ 2 * L.length := by
      intro L
      induction L with
      | nil => simp
      | cons v L ih =>
        have := lv_cat v
        simp only [List.map_cons, List.sum_cons, List.length_cons]
        omega
    have := this st
    omega
  exact W.objInit hC.1 hC.2.1 hC.2.2.2.1 hlink (hC.2.2.2.2.1 _ w1) (hC.2.2.2.2.1 _ w2) rfl (h7.1.trans hC.2.2.1.symm) rfl hd hR.1 (by show 2 * 0 + _ + 12 ≤ _; omega) (kk p e s m args below meth c H locs cells slots la hC h2 h3 h4 h5 h6 h7)
end CL
end
section
/-! ===== calls of methods with a contract ===== -/
theorem st_sum {st : List Value} (h : st.length ≤ 4) : (st.map fun v => v.category).sum ≤ 8 := by
  have : ∀ (L : List Value), (L.map fun v => v.category).sum ≤ 2 * L.length := by
    intro L
    induction L with
    | nil => simp
    | cons v L ih =>
      have := lv_cat v
      simp only [List.map_cons, List.sum_cons, List.length_cons]
      omega
  have := this st
  omega
theorem PcY_blind (D : DD) (as : List Value) (σ : Hp) : FrameBlind (PcY D as σ) := by
  intro a U g mk h
  exact ⟨h.1, h.2.1, KK.same (u := U) (U := U.calling g mk a) rfl h.2.2⟩
section CL
variable {l : Launch} {D : DD} {R : Room} {Z : List Frame → Array Value → State → State → Prop} {y pc n x kc ks : Nat} {ls : List (Option Value)} {st stk : List Value} {σ : Hp}
theorem wsY_good {z : Nat} (hz : z < 191) {args : Array Value} {s : State} (hts : ∀ w ∈ TB, w.before args s = true) : ∀ w ∈ wsY z, ∀ (a' : Array Value) (U : State), s.WarmedH U.vm → w.before a' U = true := by
  intro w hw a' U hW
  have hin : w ∈ TB := by
    rcases List.mem_cons.mp hw with h | h
    · rw [h]
      exact (mOK hz).1 _ (by unfold mWords; exact List.mem_cons_self)
    · exact h
  exact word_at hW (good_of_word (List.mem_filter.mp hin).2) (hts w hin)
theorem c_B {p : Program} {s : State} {m : MethodId} {args : Array Value} {meth : Method} {c : Code} {z k mc ms : Nat} (hC : Cx y p s m args meth c) (hz : z < 191) (hk : k < 1024) (hl : mLk.contains (mCls y * 1024 + k, z) = true) (hR : mFr z + 1 ≤ R.frames ∧ 8 + (mLoc z + 11) + mLw z ≤ R.locals) :
    CallB R s args (cnm (mCls y)) k (mName z) (mCode z) (mLoc z) (mRet z) (wsY z) (rmY z mc ms) mc ms (mNa z) := by
  obtain ⟨o1, o2, o3, o4, o5, o6⟩ := mOK hz
  have hcd : Cond.code (mName z) (mCode z) (mLoc z) (mRet z) ∈ TB := o1 _ (by unfold mWords; exact List.mem_cons_self)
  have hin : Cond.initialized (mName z).cls ∈ TB := o1 _ (by unfold mWords; exact List.mem_cons_of_mem _ List.mem_cons_self)
  refine ⟨rfl, rfl, hR.1, hR.2, wsY_good hz hC.2.2.2.2.1, List.mem_cons_self, hC.2.2.2.2.1 _ hcd, hC.2.2.2.2.1 _ hin, o3, fun sig h => ?_, ?_⟩
  · rw [h] at o4
    exact (Option.some.inj o4).symm
  · have h2 := w_link hC hk hl
    unfold mnm at h2
    rw [if_neg (by omega), if_neg (by omega), if_neg (by omega)] at h2
    exact h2
/-- behind a call's run -/
theorem c_go {p : Program} {e : Env} {s : State} {m : MethodId} {args : Array Value} {below : List Frame} {meth : Method} {c : Code} {H : Heap} {locs : List Loc} {cells slots mc ms kc' ks' : Nat} {la : Array Slot} {as : Array Value} {Q' : Option Value → Hp → Prop}
    (hC : Cx y p s m args meth c) (h2 : KK D s) (h4 : ∀ q ∈ locs, d_n D ≤ q.base) (h5 : cells + kc ≤ R.cells) (h6 : slots + ks ≤ R.slots) (h7 : Lv la ls (mLoc y)) (hkc : kc' + mc ≤ kc) (hks : ks' + ms ≤ ks)
    (run : va_Run p l e R s m args below meth c H locs cells slots mc ms (F0 m pc la stk) st (QcY D Q' as) (fun q => d_n D ≤ q)) (kk : ∀ r τ, Q' r τ → G l D R Z y (pc + 3) ls (r.toList ++ st) τ kc' ks') :
    W p l e R s m args below meth c H locs cells slots (Z below args s) (F0 m pc la stk) := by
  intro T hT X
  obtain ⟨v, st0, t, T', L, e0, X', hL, e1, e2, ⟨r, τ, ho, hQ, hRp⟩, go⟩ := run T hT X
  have hv : v = r := Outcome.returned.inj ho
  subst hv
  obtain ⟨t2, a1, b1⟩ := kk v τ hQ p e s m args below meth c t.heap (locs ++ L) (cells + mc) (slots + ms) la hC h2 hRp (fun q hq => by
    rcases List.mem_append.mp hq with g | g
    · exact h4 q g
    · exact hL q g) (by omega) (by omega) h7 T' e1 X'
  exact ⟨t2, go t2 a1, b1⟩
theorem r_callV {k z mc ms a kc' ks' : Nat} {As : List Value} {Q' : Option Value → Hp → Prop} (hf : ft y pc = some (.invokevirtual k, n, z)) (hz : z < 191) (hkd : mKd z = 0) (hk : h_K σ a = mCls z + 1) (hn : As.length = mNa z) (hst : stk = As.reverse ++ va_rf (some a) :: st) (hl : st.length ≤ 4) (hR : mFr z + 1 ≤ R.frames ∧ 8 + (mLoc z + 11) + mLw z ≤ R.locals)
    (hM : Cn l D z mc ms (va_rf (some a) :: As) σ Q') (hkc : kc' + mc ≤ kc) (hks : ks' + ms ≤ ks) (hci : mCls z < 12) (kk : ∀ r τ, Q' r τ → G l D R Z y n ls (r.toList ++ st) τ kc' ks') : G l D R Z y pc ls stk σ kc ks := by
  intro p e s m args below meth c H locs cells slots la hC h2 h3 h4 h5 h6 h7
  obtain ⟨hn3, hd, hk1, hb⟩ := f_key (k := k) hf rfl
  subst hn3
  obtain ⟨o1, o2, o3, o4, o5, o6⟩ := mOK hz
  have w1 : Cond.instanceMethod (mName z) ∈ TB := o1 _ (by unfold mWords; rw [hkd]; simp)
  have w2 : Cond.selects (mName z).cls (mName z) (mName z) ∈ TB := o1 _ (by unfold mWords; rw [hkd]; simp)
  have hcB : ∃ cellB : Cell, H[a]? = some cellB ∧ cellB.vm.isStatics = false ∧ s.vm.findClass (mName z).cls = some cellB.cls := by
    obtain ⟨cell, g1, g2, g3, -⟩ := h3.2.2.2.2.1 a (mCls z) hci hk
    refine ⟨cell, g1, by rw [g3]; rfl, ?_⟩
    rw [g2, ← o5]
    exact (h2.1 (mCls z) hci).2.1
  refine c_go hC h2 h4 h5 h6 h7 hkc hks (va_runV (Ts := TB) (C := (mName z).cls) (b := a) (As := As) ⟨hC.1, hC.2.1, hC.2.2.1, hC.2.2.2.1, hC.2.2.2.2.1⟩ hM ⟨c_B hC hz hk1 hb hR, hC.2.2.2.2.1 _ w1, hC.2.2.2.2.1 _ w2⟩ ⟨PcY_blind _ _ _, hcB, fun U hU hW => ⟨rfl, by rw [hU]; exact h3, KK.warm hW h2⟩⟩ rfl hn h7.1 hst (by show 2 * 0 + _ ≤ 8; have := st_sum hl; omega) hd ⟨by omega, by omega⟩) kk
theorem r_callS {k z mc ms kc' ks' : Nat} {As : List Value} {Q' : Option Value → Hp → Prop} (hf : ft y pc = some (.invokestatic k, n, z)) (hz : z < 191) (hkd : mKd z = 1) (hn : As.length = mNa z) (hst : stk = As.reverse ++ st) (hl : st.length ≤ 4) (hR : mFr z + 1 ≤ R.frames ∧ 8 + (mLoc z + 11) + mLw z ≤ R.locals)
    (hM : Cn l D z mc ms As σ Q') (hkc : kc' + mc ≤ kc) (hks : ks' + ms ≤ ks) (kk : ∀ r τ, Q' r τ → G l D R Z y n ls (r.toList ++ st) τ kc' ks') : G l D R Z y pc ls stk σ kc ks := by
  intro p e s m args below meth c H locs cells slots la hC h2 h3 h4 h5 h6 h7
  obtain ⟨hn3, hd, hk1, hb⟩ := f_key (k := k) hf rfl
  subst hn3
  have hb2 : mLk.contains (mCls y * 1024 + k, z) = true := by
    rcases Bool.or_eq_true _ _ ▸ hb with g | g
    · exact g
    · simp [nLk] at g; omega
  obtain ⟨o1, o2, o3, o4, o5, o6⟩ := mOK hz
  have w1 : Cond.static (mName z) ∈ TB := o1 _ (by unfold mWords; rw [hkd]; simp)
  refine c_go hC h2 h4 h5 h6 h7 hkc hks (va_runS (Ts := TB) (As := As) ⟨hC.1, hC.2.1, hC.2.2.1, hC.2.2.2.1, hC.2.2.2.2.1⟩ hM ⟨c_B hC hz hk1 hb2 hR, hC.2.2.2.2.1 _ w1⟩ ⟨PcY_blind _ _ _, fun U hU hW => ⟨rfl, by rw [hU]; exact h3, KK.warm hW h2⟩⟩ rfl hn h7.1 hst (by show 2 * 0 + _ ≤ 8; have := st_sum hl; omega) hd ⟨by omega, by omega⟩) kk
theorem r_callI {k z mc ms a kc' ks' : Nat} {As : List Value} {Q' : Option Value → Hp → Prop} (hf : ft y pc = some (.invokespecial k, n, z)) (hz : z < 191) (hkd : mKd z = 2) (hn : As.length = mNa z) (hst : stk = As.reverse ++ va_rf (some a) :: st) (hl : st.length ≤ 4) (hR : mFr z + 1 ≤ R.frames ∧ 8 + (mLoc z + 11) + mLw z ≤ R.locals)
    (hM : Cn l D z mc ms (va_rf (some a) :: As) σ Q') (hkc : kc' + mc ≤ kc) (hks : ks' + ms ≤ ks) (kk : ∀ r τ, Q' r τ → G l D R Z y n ls (r.toList ++ st) τ kc' ks') : G l D R Z y pc ls stk σ kc ks := by
  intro p e s m args below meth c H locs cells slots la hC h2 h3 h4 h5 h6 h7
  obtain ⟨hn3, hd, hk1, hb⟩ := f_key (k := k) hf rfl
  subst hn3
  have hb2 : mLk.contains (mCls y * 1024 + k, z) = true := by
    rcases Bool.or_eq_true _ _ ▸ hb with g | g
    · exact g
    · simp [nLk] at g; omega
  obtain ⟨o1, o2, o3, o4, o5, o6⟩ := mOK hz
  have w1 : Cond.instanceMethod (mName z) ∈ TB := o1 _ (by unfold mWords; rw [hkd]; simp)
  have cb := c_B (R := R) (mc := mc) (ms := ms) hC hz hk1 hb2 hR
  rw [(o6 hkd).2] at cb
  refine c_go hC h2 h4 h5 h6 h7 hkc hks (va_runI (Ts := TB) (b := a) (As := As) ⟨hC.1, hC.2.1, hC.2.2.1, hC.2.2.2.1, hC.2.2.2.2.1⟩ hM ⟨cb, (o6 hkd).1, hC.2.2.2.2.1 _ w1⟩ ⟨PcY_blind _ _ _, fun U hU hW => ⟨rfl, by rw [hU]; exact h3, KK.warm hW h2⟩⟩ rfl hn h7.1 hst (by show 2 * 0 + _ ≤ 8; have := st_sum hl; omega) hd ⟨by omega, by omega⟩) kk
theorem c_N {p : Program} {s : State} {m : MethodId} {args : Array Value} {meth : Method} {c : Code} {z k mc ms : Nat} (hC : Cx y p s m args meth c) (h2 : KK D s) (hz : z < 191) (hl : Cond.methodLinkNest (cnm (mCls y)) k (mName z) RX10 ∈ nstW) (hR : mFr z + 1 ≤ R.frames ∧ 8 + (mLoc z + 11) + mLw z ≤ R.locals) :
    va_CN R s args (cnm (mCls y)) k (mName z) RX10 (mCode z) (mLoc z) (mRet z) (wsY z) (rmY z mc ms) mc ms (mNa z) := by
  obtain ⟨o1, o2, o3, o4, o5, o6⟩ := mOK hz
  have hcd : Cond.code (mName z) (mCode z) (mLoc z) (mRet z) ∈ TB := o1 _ (by unfold mWords; exact List.mem_cons_self)
  have hin : Cond.initialized (mName z).cls ∈ TB := o1 _ (by unfold mWords; exact List.mem_cons_of_mem _ List.mem_cons_self)
  refine ⟨⟨rfl, rfl, hR.1, hR.2, wsY_good hz hC.2.2.2.2.1, List.mem_cons_self⟩, hC.2.2.2.2.1 _ hcd, hC.2.2.2.2.1 _ hin, o3, fun sig h => ?_, ?_⟩
  · rw [h] at o4
    exact (Option.some.inj o4).symm
  · exact va_Nw.use rfl (h2.2.2.2.2.2.2.2.1 _ hl)
theorem r_callSN {k z mc ms kc' ks' : Nat} {As : List Value} {Q' : Option Value → Hp → Prop} (hf : ft y pc = some (.invokestatic k, n, z + 1000)) (hz : z < 191) (hkd : mKd z = 1) (hnw : Cond.methodLinkNest (cnm (mCls y)) k (mName z) RX10 ∈ nstW) (hn : As.length = mNa z) (hst : stk = As.reverse ++ st) (hl : st.length ≤ 4) (hR : mFr z + 1 ≤ R.frames ∧ 8 + (mLoc z + 11) + mLw z ≤ R.locals)
    (hM : Cn l D z mc ms As σ Q') (hkc : kc' + mc ≤ kc) (hks : ks' + ms ≤ ks) (kk : ∀ r τ, Q' r τ → G l D R Z y n ls (r.toList ++ st) τ kc' ks') : G l D R Z y pc ls stk σ kc ks := by
  intro p e s m args below meth c H locs cells slots la hC h2 h3 h4 h5 h6 h7
  obtain ⟨hn3, hd, hk1, hb⟩ := f_key (k := k) hf rfl
  subst hn3
  obtain ⟨o1, o2, o3, o4, o5, o6⟩ := mOK hz
  have w1 : Cond.static (mName z) ∈ TB := o1 _ (by unfold mWords; rw [hkd]; simp)
  refine c_go hC h2 h4 h5 h6 h7 hkc hks (va_runSN (Ts := TB) (As := As) ⟨hC.1, hC.2.1, hC.2.2.1, hC.2.2.2.1, hC.2.2.2.2.1⟩ hM ⟨c_N hC h2 hz hnw hR, hC.2.2.2.2.1 _ w1, trivial⟩ ⟨PcY_blind _ _ _, fun U hU hW => ⟨rfl, by rw [hU]; exact h3, KK.warm hW h2⟩⟩ rfl hn h7.1 hst (by show 2 * 0 + _ ≤ 8; have := st_sum hl; omega) hd ⟨by omega, by omega⟩) kk
theorem r_callIN {k z mc ms a kc' ks' : Nat} {As : List Value} {Q' : Option Value → Hp → Prop} (hf : ft y pc = some (.invokespecial k, n, z + 1000)) (hz : z < 191) (hkd : mKd z = 2) (hnw : Cond.methodLinkNest (cnm (mCls y)) k (mName z) RX10 ∈ nstW) (hn : As.length = mNa z) (hst : stk = As.reverse ++ va_rf (some a) :: st) (hl : st.length ≤ 4) (hR : mFr z + 1 ≤ R.frames ∧ 8 + (mLoc z + 11) + mLw z ≤ R.locals)
    (hM : Cn l D z mc ms (va_rf (some a) :: As) σ Q') (hkc : kc' + mc ≤ kc) (hks : ks' + ms ≤ ks) (kk : ∀ r τ, Q' r τ → G l D R Z y n ls (r.toList ++ st) τ kc' ks') : G l D R Z y pc ls stk σ kc ks := by
  intro p e s m args below meth c H locs cells slots la hC h2 h3 h4 h5 h6 h7
  obtain ⟨hn3, hd, hk1, hb⟩ := f_key (k := k) hf rfl
  subst hn3
  obtain ⟨o1, o2, o3, o4, o5, o6⟩ := mOK hz
  have w1 : Cond.instanceMethod (mName z) ∈ TB := o1 _ (by unfold mWords; rw [hkd]; simp)
  have cb := c_N (R := R) (mc := mc) (ms := ms) hC h2 hz hnw hR
  rw [(o6 hkd).2] at cb
  refine c_go hC h2 h4 h5 h6 h7 hkc hks (va_runIN (Ts := TB) (b := a) (As := As) ⟨hC.1, hC.2.1, hC.2.2.1, hC.2.2.2.1, hC.2.2.2.2.1⟩ hM ⟨cb, (o6 hkd).1, hC.2.2.2.2.1 _ w1⟩ ⟨PcY_blind _ _ _, fun U hU hW => ⟨rfl, by rw [hU]; exact h3, KK.warm hW h2⟩⟩ rfl hn h7.1 hst (by show 2 * 0 + _ ≤ 8; have := st_sum hl; omega) hd ⟨by omega, by omega⟩) kk
end CL
end
section
/-! ===== ends and entries ===== -/
section EN
variable {l : Launch} {D : DD} {y pc n x kc ks mc ms : Nat} {ls : List (Option Value)} {st : List Value} {σ : Hp} {Q : Option Value → Hp → Prop}
theorem r_iret {v : Int32} (hf : ft y pc = some (.ireturn, n, x)) (hr : mRet y = some .int) (hQ : Q (some (.int v)) σ) : Gm l D y mc ms Q pc ls [.int v] σ kc ks := by
  intro p e s m args below meth c H locs cells slots la hC h2 h3 h4 h5 h6 h7
  obtain ⟨hn, hd⟩ := f_1 hf rfl
  have hlk : meth.locks = false := hC.2.2.2.2.2.2.1
  refine W.widen (k := mc) (n := ms) (by have : (rmY y mc ms).cells = mc := rfl; omega) (by have : (rmY y mc ms).slots = ms := rfl; omega) ?_
  exact W.iret hC.1 hC.2.1 (hC.2.2.2.2.2.1.trans hr) (fun t ht hW => ⟨_, σ, rfl, hQ, by rw [ht]; exact h3⟩) h4 hd
theorem r_zret {v : Int32} (hf : ft y pc = some (.ireturn, n, x)) (hr : mRet y = some .boolean) (hv : narrow .boolean (.int v) = .int v) (hQ : Q (some (.int v)) σ) : Gm l D y mc ms Q pc ls [.int v] σ kc ks := by
  intro p e s m args below meth c H locs cells slots la hC h2 h3 h4 h5 h6 h7
  obtain ⟨hn, hd⟩ := f_1 hf rfl
  have hlk : meth.locks = false := hC.2.2.2.2.2.2.1
  refine W.widen (k := mc) (n := ms) (by have : (rmY y mc ms).cells = mc := rfl; omega) (by have : (rmY y mc ms).slots = ms := rfl; omega) ?_
  exact W.zret hC.1 hC.2.1 (hC.2.2.2.2.2.1.trans hr) hv (fun t ht hW => ⟨_, σ, rfl, hQ, by rw [ht]; exact h3⟩) h4 hd
theorem r_aret {v : Option Nat} {C : String} (hf : ft y pc = some (.areturn, n, x)) (hr : mRet y = some (.object C)) (hQ : Q (some (va_rf v)) σ) : Gm l D y mc ms Q pc ls [va_rf v] σ kc ks := by
  intro p e s m args below meth c H locs cells slots la hC h2 h3 h4 h5 h6 h7
  obtain ⟨hn, hd⟩ := f_1 hf rfl
  have hlk : meth.locks = false := hC.2.2.2.2.2.2.1
  refine W.widen (k := mc) (n := ms) (by have : (rmY y mc ms).cells = mc := rfl; omega) (by have : (rmY y mc ms).slots = ms := rfl; omega) ?_
  exact W.aret hC.1 hC.2.1 (hC.2.2.2.2.2.1.trans hr) (Or.inl ⟨C, rfl⟩) (by cases v with | none => exact Or.inl rfl | some a => exact Or.inr ⟨a, rfl⟩) (fun t ht hW => ⟨_, σ, rfl, hQ, by rw [ht]; exact h3⟩) h4 hd
theorem r_vret (hf : ft y pc = some (.return_, n, x)) (hr : mRet y = none) (hQ : Q none σ) : Gm l D y mc ms Q pc ls [] σ kc ks := by
  intro p e s m args below meth c H locs cells slots la hC h2 h3 h4 h5 h6 h7
  obtain ⟨hn, hd⟩ := f_1 hf rfl
  have hlk : meth.locks = false := hC.2.2.2.2.2.2.1
  refine W.widen (k := mc) (n := ms) (by have : (rmY y mc ms).cells = mc := rfl; omega) (by have : (rmY y mc ms).slots = ms := rfl; omega) ?_
  exact W.vret hC.1 hC.2.1 (hC.2.2.2.2.2.1.trans hr) (fun t ht hW => ⟨_, σ, rfl, hQ, by rw [ht]; exact h3⟩) h4 hd
theorem lg_cat1 {as : List Value} (h : ∀ v ∈ as, v.category = 1) : lg_sl as = as.map Slot.val := by
  induction as with
  | nil => rfl
  | cons v as ih =>
    have h1 := h v List.mem_cons_self
    have h2 := ih (fun w hw => h w (List.mem_cons_of_mem _ hw))
    unfold lg_sl at h2 ⊢
    rw [List.flatMap_cons, h2, if_neg (by omega)]
    rfl
/-- the locals at a method's entry -/
def en_L (as : List Value) (n : Nat) : List (Option Value) := as.map some ++ List.replicate (n - as.length) none
theorem en_ok {as : List Value} {n : Nat} (h : ∀ v ∈ as, v.category = 1) (hn : as.length ≤ n) : Lv ((lg_sl as ++ List.replicate (n - (lg_sl as).length) Slot.unset).toArray) (en_L as n) n := by
  have hl : (lg_sl as).length = as.length := by rw [lg_cat1 h, List.length_map]
  have he := lv_entry as (n := n) (by omega)
  refine ⟨he.1, by unfold en_L; simp; omega, he.2.1, fun i v hi => ?_⟩
  unfold en_L at hi
  by_cases hlt : i < as.length
  · rw [List.getElem?_append_left (by simpa using hlt), List.getElem?_map] at hi
    cases hv : as[i]? with
    | none => rw [hv] at hi; cases hi
    | some w =>
      rw [hv] at hi
      have e : w = v := by simpa using hi
      subst e
      refine ⟨?_, h w (List.mem_of_getElem? hv)⟩
      rw [lg_cat1 h]
      rw [List.getElem?_toArray, List.getElem?_append_left (by simpa using hlt), List.getElem?_map, hv]
      rfl
  · rw [List.getElem?_append_right (by simpa using Nat.le_of_not_lt hlt)] at hi
    rw [List.getElem?_replicate] at hi
    split at hi <;> cases hi
theorem Cn.of {as : List Value} (hy : y < 191) (h : ∀ v ∈ as, v.category = 1) (hn : as.length ≤ mLoc y) (g : Gm l D y mc ms Q 0 (en_L as (mLoc y)) [] σ mc ms) : Cn l D y mc ms as σ Q := by
  obtain ⟨o1, o2, o3, o4, o5, o6⟩ := mOK hy
  refine va_MetF (cc := mCode y) (maxL := mLoc y) (ret := mRet y) o2 rfl ?_
  intro p e s m args below meth c s₁ B hml hP
  obtain ⟨rfl, hR, hK⟩ := hP
  have hts : ∀ w ∈ TB, w.before as.toArray s = true := fun w hw => atoms_spec (ws := wsY y) B.pre w (List.mem_cons_of_mem _ hw)
  have hown : s.vm.findClass (cnm (mCls y)) = some m.cls := by rw [o5]; exact findClass_of_methodNamed B.named
  rw [lg_entry_eq]
  exact g p e s m as.toArray below meth c s.heap [] 0 0 _ ⟨B.exec, B.bytes, hml, hown, hts, B.returns, B.notSynchronized, (name_of_methodNamed B.named B.method).1⟩ hK hR (fun q hq => by cases hq) (by show 0 + mc ≤ mc; omega) (by show 0 + ms ≤ ms; omega) (en_ok h hn)
theorem Cn.mono {as : List Value} {Q' : Option Value → Hp → Prop} (h : Cn l D y mc ms as σ Q) (hq : ∀ r τ, Q r τ → Q' r τ) : Cn l D y mc ms as σ Q' := by
  intro p e ha hc hk s m args below hf happ hP hK
  obtain ⟨t, o, h1, h2, h3, ⟨⟨r, τ, q1, q2, q3⟩, q4⟩⟩ := h p e ha hc hk s m args below hf happ hP hK
  exact ⟨t, o, h1, h2, h3, ⟨r, τ, q1, hq r τ q2, q3⟩, q4⟩
end EN
section BG
variable {l : Launch} {D : DD} {R : Room} {Z : List Frame → Array Value → State → State → Prop} {y pc kc ks kc' ks' : Nat} {ls : List (Option Value)} {st : List Value} {σ : Hp}
theorem G.less (h1 : kc' ≤ kc) (h2 : ks' ≤ ks) (g : G l D R Z y pc ls st σ kc' ks') : G l D R Z y pc ls st σ kc ks := by
  intro p e s m args below meth c H locs cells slots la hC hK h3 h4 h5 h6 h7
  exact g p e s m args below meth c H locs cells slots la hC hK h3 h4 (by omega) (by omega) h7
end BG
/-- a small method, to see the rules at work: Thing.kidCount's first rows -/
theorem try_cat {l : Launch} {D : DD} {σ : Hp} {a : Nat} (h1 : h_K σ a = 9) (h2 : h_P σ 516 a = none) : Cn l D m_Thing_kidCount 0 0 [va_rf (some a)] σ (fun r τ => r = some (.int (nI 0)) ∧ τ = σ) := by
  refine Cn.of (by decide) (by simp [rf_cat]) (Nat.le_of_ble_eq_true rfl) ?_
  refine r_iconst (v := nI 0) rfl rfl ?_
  refine r_istore_n rfl (by decide) ?_
  refine r_aload_n rfl rfl ?_
  refine r_getP rfl h1 rfl ?_
  rw [h2]
  refine r_astore_n rfl (by decide) ?_
  refine r_aload_n rfl rfl ?_
  refine r_ifnull rfl (fun _ => ?_) (fun a h => by cases h)
  refine r_iload_n rfl rfl ?_
  exact r_iret rfl rfl ⟨rfl, rfl⟩
end
section
/-! ===== constants, the script, System.arraycopy ===== -/
theorem cst_in : Cond.constant RX11 108 57600 ∈ TB := by decide +kernel
section SP
variable {l : Launch} {D : DD} {R : Room} {Z : List Frame → Array Value → State → State → Prop} {y pc n x kc ks : Nat} {ls : List (Option Value)} {st stk : List Value} {σ : Hp}
theorem r_ldc (hf : ft y pc = some (.ldc 108, n, 57600)) (hy : mCls y = 11) (kk : G l D R Z y n ls (.int 57600 :: st) σ kc ks) : G l D R Z y pc ls st σ kc ks := by
  intro p e s m args below meth c H locs cells slots la hC h2 h3 h4 h5 h6 h7
  obtain ⟨hd, hn⟩ := ft_ok hf
  have hn : (n == pc + 2 && _) = true := hn
  have hn : n = pc + 2 := by simpa using (okn hn).1
  subst hn
  rw [Nat.add_sub_cancel_left] at hd
  have hown : s.vm.findClass RX11 = some m.cls := by have := hC.2.2.2.1; rw [hy] at this; exact this
  exact lv_ldc hC.1 hC.2.1 hown (hC.2.2.2.2.1 _ cst_in) hd (kk p e s m args below meth c H locs cells slots la hC h2 h3 h4 h5 h6 h7)
theorem r_ldcS {k i : Nat} {t : String} (hf : ft y pc = some (.ldc k, n, i)) (hy : mCls y = 5) (ht : txI[i]? = some (k, t)) (kk : G l D R Z y n ls (va_rf (some (d_t D i)) :: st) σ kc ks) : G l D R Z y pc ls st σ kc ks := by
  intro p e s m args below meth c H locs cells slots la hC h2 h3 h4 h5 h6 h7
  obtain ⟨hd, hn⟩ := ft_ok hf
  have hn : (n == pc + 2 && _) = true := hn
  have hn : n = pc + 2 := by simpa using (okn hn).1
  subst hn
  rw [Nat.add_sub_cancel_left] at hd
  have hown : s.vm.findClass RX5 = some m.cls := by have := hC.2.2.2.1; rw [hy] at this; exact this
  exact va_ldcS hC.1 hC.2.1 hown (h2.2.2.2.2.2.1 i _ ht) hd (kk p e s m args below meth c H locs cells slots la hC h2 h3 h4 h5 h6 h7)
theorem Rp.S {H : Heap} {locs : List Loc} (h : Rp D σ H) (h4 : ∀ q ∈ locs, d_n D ≤ q.base) : va_S (fun q => d_n D ≤ q) (d_H D) H locs := ⟨by rw [h.1]; exact h.2.1, fun q h1 _ => h.2.2.1 q h1, h4⟩
theorem r_sld {j : Nat} {i : Int32} (hf : ft y pc = some (.iaload, n, x)) (hi : i = nI j) (hj : j < d_L D) (hL : d_L D < 2 ^ 31) (kk : G l D R Z y n ls (.int (d_x D j) :: st) σ kc ks) : G l D R Z y pc ls (.int i :: va_rf (some (d_b D)) :: st) σ kc ks := by
  intro p e s m args below meth c H locs cells slots la hC h2 h3 h4 h5 h6 h7
  obtain ⟨hn, hd⟩ := f_1 hf rfl
  subst hn
  obtain ⟨q1, q2⟩ := ix_in hi hj hL
  refine va_sld (A := fun q => d_n D ≤ q) hC.1 hC.2.1 h2.2.2.1 h2.2.2.2.1 (Nat.not_le.mpr h2.2.2.2.1) (h3.S h4) q1 hd ?_
  rw [q2]
  exact kk p e s m args below meth c H locs cells slots la hC h2 h3 h4 h5 h6 h7
theorem r_slen (hf : ft y pc = some (.arraylength, n, x)) (kk : G l D R Z y n ls (.int (nI (d_L D)) :: st) σ kc ks) : G l D R Z y pc ls (va_rf (some (d_b D)) :: st) σ kc ks := by
  intro p e s m args below meth c H locs cells slots la hC h2 h3 h4 h5 h6 h7
  obtain ⟨hn, hd⟩ := f_1 hf rfl
  subst hn
  exact va_slen (A := fun q => d_n D ≤ q) hC.1 hC.2.1 h2.2.2.1 h2.2.2.2.1 (Nat.not_le.mpr h2.2.2.2.1) (h3.S h4) hd (kk p e s m args below meth c H locs cells slots la hC h2 h3 h4 h5 h6 h7)
set_option maxHeartbeats 1000000 in
theorem r_copy {k a d js jd cnt t : Nat} {sp dp nn : Int32} (hf : ft y pc = some (.invokestatic k, n, 901)) (ht : t < 2) (hka : h_K σ a = 20 + t) (hkd : h_K σ d = 20 + t) (hsp : sp = nI js) (hdp : dp = nI jd) (hnn : nn = nI cnt) (h1 : js + cnt ≤ h_L σ a) (h2' : jd + cnt ≤ h_L σ d) (hb1 : h_L σ a < 2 ^ 31) (hb2 : h_L σ d < 2 ^ 31) (hl : st.length ≤ 4) (hR : 1 ≤ R.frames ∧ 68 ≤ R.locals)
    (kk : G l D R Z y n ls st (w_X σ d (va_cpy (h_X σ a) (h_X σ d) js jd cnt)) kc ks) : G l D R Z y pc ls (.int nn :: .int dp :: va_rf (some d) :: .int sp :: va_rf (some a) :: st) σ kc ks := by
  intro p e s m args below meth c H locs cells slots la hC h2 h3 h4 h5 h6 h7
  obtain ⟨hn3, hd, hk1, hb⟩ := f_key (k := k) hf rfl
  subst hn3
  have hb3 : mLk.contains (mCls y * 1024 + k, 901) = true := by
    rcases Bool.or_eq_true _ _ ▸ hb with g | g
    · exact g
    · simp [nLk] at g
  have hlink : (Cond.methodLink (cnm (mCls y)) k arraycopyName).before args s = true := w_link hC hk1 hb3
  obtain ⟨w1, w2, w3⟩ := cpy_in
  subst hsp; subst hdp; subst hnn
  have ca := h3.2.2.2.2.2.1 a t (by omega) hka
  have cd := h3.2.2.2.2.2.1 d t (by omega) hkd
  obtain ⟨ty, hty, hpr, hfit⟩ : ∃ ty, aTy (20 + t) = some ty ∧ refKind ty = false ∧ ∀ j, fits ty (.int (h_X σ a j)) = true := by
    match t, ht, ca with
    | 0, _, ca => exact ⟨.byte, rfl, rfl, fun j => ca.2 rfl j⟩
    | 1, _, ca => exact ⟨.int, rfl, rfl, fun j => rfl⟩
  obtain ⟨-, k0, hk0, cm0, hkk0⟩ := (h2.2.1 (20 + t) ty hty).1 (h_L σ a) (fun j => .int (h_X σ a j))
  have e1 : (nI js).toNatClampNeg = js := nI_clamp (by omega)
  have e2 : (nI jd).toNatClampNeg = jd := nI_clamp (by omega)
  have e3 : (nI cnt).toNatClampNeg = cnt := nI_clamp (by omega)
  have i1 : (nI js).toInt = (js : Int) := nI_toInt (by omega)
  have i2 : (nI jd).toInt = (jd : Int) := nI_toInt (by omega)
  have i3 : (nI cnt).toInt = (cnt : Int) := nI_toInt (by omega)
  intro T hT X
  obtain ⟨vm', X', step⟩ := X.arraycopy hC.1 hC.2.2.2.1 hlink (hC.2.2.2.2.1 _ w1) (hC.2.2.2.2.1 _ w2) (hC.2.2.2.2.1 _ w3) (src := a) (dst := d) (cs := arrV (d_A D (20 + t)) (h_L σ a) (fun j => .int (h_X σ a j))) (cd := arrV (d_A D (20 + t)) (h_L σ d) (fun j => .int (h_X σ d j))) (srcPos := nI js) (destPos := nI jd) (n := nI cnt) (by rw [hT]; exact ca.1) (by rw [hT]; exact cd.1)
    (fun _ h => by cases h) (fun _ h => by cases h) (fun h => by cases h) (fun h => by cases h) hk0 hk0 hkk0 hkk0 (by simp [hpr]) (nI_pos (by omega)) (nI_pos (by omega)) (nI_pos (by omega))
    (by rw [i1, i3, arrV_size]; omega)
    (by rw [i2, i3, arrV_size]; omega)
    (fun vm₁ _ i hi => by
      have e : (arrV (d_A D (20 + t)) (h_L σ a) (fun j => .int (h_X σ a j))).slots.getD ((nI js).toNatClampNeg + i) .null = .int (h_X σ a ((nI js).toNatClampNeg + i)) := by
        rw [Array.getD_eq_getD_getElem?, arrV_read _ _ (by omega)]
        rfl
      refine ⟨?_, ?_⟩
      · rw [e]
        exact hfit _
      · rw [e]
        exact trivial)
    (g := F0 m pc la (.int (nI cnt) :: .int (nI jd) :: .ref d :: .int (nI js) :: .ref a :: st)) rfl (h7.1.trans hC.2.2.1.symm) (rest := st) rfl (by rw [hC.2.1]; exact hd) hR.1 (by
      have h8 := st_sum hl
      have h9 : nativeFrameWords "java/lang/System" "arraycopy" 5 + 11 ≤ 60 := by decide +kernel
      show 2 * 0 + _ + _ ≤ _
      omega)
  have ec : copied (arrV (d_A D (20 + t)) (h_L σ a) (fun j => .int (h_X σ a j))) (arrV (d_A D (20 + t)) (h_L σ d) (fun j => .int (h_X σ d j))) (nI js) (nI jd) (nI cnt) = arrV (d_A D (20 + t)) (h_L σ d) (fun j => .int (va_cpy (h_X σ a) (h_X σ d) js jd cnt j)) := by
    have := va_copied (fun z => Value.int z) (d_A D (20 + t)) (d_A D (20 + t)) (n0 := h_L σ a) (n1 := h_L σ d) (sp := js) (dp := jd) (n := cnt) (h_X σ a) (h_X σ d) h1
    unfold copied
    rw [e1, e2, e3]
    exact this
  rw [ec] at X' step
  have hdl : d < H.size := (Array.getElem?_eq_some_iff.mp cd.1).1
  have hheap : ((T.setVm vm').setCell d (arrV (d_A D (20 + t)) (h_L σ d) (fun j => .int (va_cpy (h_X σ a) (h_X σ d) js jd cnt j)))).heap = H.setIfInBounds d (arrV (d_A D (20 + t)) (h_L σ d) (fun j => .int (va_cpy (h_X σ a) (h_X σ d) js jd cnt j))) := by rw [← hT]; rfl
  obtain ⟨t2, a1, b1⟩ := kk p e s m args below meth c _ _ cells slots la hC h2 (h3.rowX (H' := H.setIfInBounds d (arrV (d_A D (20 + t)) (h_L σ d) (fun j => .int (va_cpy (h_X σ a) (h_X σ d) js jd cnt j)))) hkd (by omega) (by simp) (fun q hq => by simp [Array.getElem?_setIfInBounds, Ne.symm hq]) (by simp [Array.getElem?_setIfInBounds, hdl]) (fun h0 j => by
      unfold va_cpy
      split
      · exact ca.2 h0 _
      · exact cd.2 h0 _)) (fun q hq => by
      rcases List.mem_append.mp hq with g | g
      · exact h4 q g
      · obtain ⟨z, -, hz⟩ := List.mem_map.mp g
        rw [← hz]
        exact (h3.2.2.2.1 d (by omega)).1) h5 h6 h7 _ hheap X'
  exact ⟨t2, step t2 a1, b1⟩
end SP
end
section
/-! ===== small rules over numbers ===== -/
theorem nI_inc (k : Nat) : nI k + Int32.ofInt 1 = nI (k + 1) := nI_1 k
theorem ca_0 : ∀ v ∈ ([] : List Value), v.category = 1 := fun v h => by cases h
theorem ca_i {x : Int32} {as : List Value} (h : ∀ v ∈ as, v.category = 1) : ∀ v ∈ (Value.int x :: as), v.category = 1 := fun v hv => (List.mem_cons.mp hv).elim (fun e => by rw [e]; rfl) (h v)
theorem ca_r {p : Option Nat} {as : List Value} (h : ∀ v ∈ as, v.category = 1) : ∀ v ∈ (va_rf p :: as), v.category = 1 := fun v hv => (List.mem_cons.mp hv).elim (fun e => by rw [e]; exact rf_cat p) (h v)
section NR
variable {l : Launch} {D : DD} {R : Room} {Z : List Frame → Array Value → State → State → Prop} {y pc n x kc ks : Nat} {ls : List (Option Value)} {st : List Value} {σ : Hp}
theorem r_iaddN {a b : Nat} (hf : ft y pc = some (.iadd, n, x)) (k : G l D R Z y n ls (.int (nI (a + b)) :: st) σ kc ks) : G l D R Z y pc ls (.int (nI b) :: .int (nI a) :: st) σ kc ks := by
  refine r_iadd hf ?_
  rw [nI_add]
  exact k
theorem r_imulN {a b : Nat} (hf : ft y pc = some (.imul, n, x)) (k : G l D R Z y n ls (.int (nI (a * b)) :: st) σ kc ks) : G l D R Z y pc ls (.int (nI b) :: .int (nI a) :: st) σ kc ks := by
  refine r_imul hf ?_
  rw [pk_mul]
  exact k
theorem r_isubN {a b : Nat} (hf : ft y pc = some (.isub, n, x)) (h : b ≤ a) (k : G l D R Z y n ls (.int (nI (a - b)) :: st) σ kc ks) : G l D R Z y pc ls (.int (nI b) :: .int (nI a) :: st) σ kc ks := by
  refine r_isub hf ?_
  rw [pk_sub h]
  exact k
/-- a compare of two small numbers -/
theorem r_geN {a b : Nat} {f : Int} (hf : ft y pc = some (.if_icmp .ge f, n, x)) (ha : a < 2 ^ 31) (hb : b < 2 ^ 31) (kt : b ≤ a → G l D R Z y x ls st σ kc ks) (kf : a < b → G l D R Z y n ls st σ kc ks) : G l D R Z y pc ls (.int (nI b) :: .int (nI a) :: st) σ kc ks :=
  r_icmp_ge hf (fun h => kt ((nI_leI hb ha).mp h)) (fun h => kf (Nat.not_le.mp (fun q => h ((nI_leI hb ha).mpr q))))
theorem r_ltN {a b : Nat} {f : Int} (hf : ft y pc = some (.if_icmp .lt f, n, x)) (ha : a < 2 ^ 31) (hb : b < 2 ^ 31) (kt : a < b → G l D R Z y x ls st σ kc ks) (kf : b ≤ a → G l D R Z y n ls st σ kc ks) : G l D R Z y pc ls (.int (nI b) :: .int (nI a) :: st) σ kc ks :=
  r_icmp_lt hf (fun h => kt ((nI_ltI ha hb).mp h)) (fun h => kf (Nat.not_lt.mp (fun q => h ((nI_ltI ha hb).mpr q))))
theorem r_leN {a b : Nat} {f : Int} (hf : ft y pc = some (.if_icmp .le f, n, x)) (ha : a < 2 ^ 31) (hb : b < 2 ^ 31) (kt : a ≤ b → G l D R Z y x ls st σ kc ks) (kf : b < a → G l D R Z y n ls st σ kc ks) : G l D R Z y pc ls (.int (nI b) :: .int (nI a) :: st) σ kc ks :=
  r_icmp_le hf (fun h => kt ((nI_leI ha hb).mp h)) (fun h => kf (Nat.not_le.mp (fun q => h ((nI_leI ha hb).mpr q))))
theorem r_gtN {a b : Nat} {f : Int} (hf : ft y pc = some (.if_icmp .gt f, n, x)) (ha : a < 2 ^ 31) (hb : b < 2 ^ 31) (kt : b < a → G l D R Z y x ls st σ kc ks) (kf : a ≤ b → G l D R Z y n ls st σ kc ks) : G l D R Z y pc ls (.int (nI b) :: .int (nI a) :: st) σ kc ks :=
  r_icmp_gt hf (fun h => kt ((nI_ltI hb ha).mp h)) (fun h => kf (Nat.not_lt.mp (fun q => h ((nI_ltI hb ha).mpr q))))
theorem r_neN {a b : Nat} {f : Int} (hf : ft y pc = some (.if_icmp .ne f, n, x)) (ha : a < 2 ^ 31) (hb : b < 2 ^ 31) (kt : a ≠ b → G l D R Z y x ls st σ kc ks) (kf : a = b → G l D R Z y n ls st σ kc ks) : G l D R Z y pc ls (.int (nI b) :: .int (nI a) :: st) σ kc ks :=
  r_icmp_ne hf (fun h => kt (fun q => h (by rw [q]))) (fun h => kf ((nI_eq ha hb).mp h))
theorem r_eqN {a b : Nat} {f : Int} (hf : ft y pc = some (.if_icmp .eq f, n, x)) (ha : a < 2 ^ 31) (hb : b < 2 ^ 31) (kt : a = b → G l D R Z y x ls st σ kc ks) (kf : a ≠ b → G l D R Z y n ls st σ kc ks) : G l D R Z y pc ls (.int (nI b) :: .int (nI a) :: st) σ kc ks :=
  r_icmp_eq hf (fun h => kt ((nI_eq ha hb).mp h)) (fun h => kf (fun q => h (by rw [q])))
/-- a truth value is asked: as 0 or 1 -/
theorem r_ifeqB {b : Bool} {f : Int} (hf : ft y pc = some (.ifCond .eq f, n, x)) (kt : b = false → G l D R Z y x ls st σ kc ks) (kf : b = true → G l D R Z y n ls st σ kc ks) : G l D R Z y pc ls (.int (nI b.toNat) :: st) σ kc ks := by
  cases b with
  | false => exact r_if_eq hf (fun _ => kt rfl) (fun h => absurd (by decide) h)
  | true => exact r_if_eq hf (fun h => absurd h (by decide)) (fun _ => kf rfl)
theorem r_ifneB {b : Bool} {f : Int} (hf : ft y pc = some (.ifCond .ne f, n, x)) (kt : b = true → G l D R Z y x ls st σ kc ks) (kf : b = false → G l D R Z y n ls st σ kc ks) : G l D R Z y pc ls (.int (nI b.toNat) :: st) σ kc ks := by
  cases b with
  | false => exact r_if_ne hf (fun h => absurd (by decide) h) (fun _ => kf rfl)
  | true => exact r_if_ne hf (fun _ => kt rfl) (fun h => absurd h (by decide))
end NR
theorem nar_B (b : Bool) : narrow .boolean (.int (nI b.toNat)) = .int (nI b.toNat) := by cases b <;> decide
section J
variable {l : Launch} {D : DD} {σ : Hp}
theorem c_max {a b : Int32} : Cn l D m_Math_max 0 0 [.int a, .int b] σ (fun r τ => r = some (.int (if a < b then b else a)) ∧ τ = σ) := by
  refine Cn.of (by decide) (by repeat (first | exact ca_0 | refine ca_i ?_ | refine ca_r ?_)) (Nat.le_of_ble_eq_true rfl) ?_
  refine r_iload_n rfl rfl ?_
  refine r_iload_n rfl rfl ?_
  refine r_icmp_lt rfl (fun h => ?_) (fun h => ?_)
  · refine r_iload_n rfl rfl ?_
    exact r_iret rfl rfl ⟨by rw [if_pos h], rfl⟩
  · refine r_iload_n rfl rfl ?_
    refine r_goto rfl ?_
    exact r_iret rfl rfl ⟨by rw [if_neg h], rfl⟩
theorem c_min {a b : Int32} : Cn l D m_Math_min 0 0 [.int a, .int b] σ (fun r τ => r = some (.int (if b < a then b else a)) ∧ τ = σ) := by
  refine Cn.of (by decide) (by repeat (first | exact ca_0 | refine ca_i ?_ | refine ca_r ?_)) (Nat.le_of_ble_eq_true rfl) ?_
  refine r_iload_n rfl rfl ?_
  refine r_iload_n rfl rfl ?_
  refine r_icmp_gt rfl (fun h => ?_) (fun h => ?_)
  · refine r_iload_n rfl rfl ?_
    exact r_iret rfl rfl ⟨by rw [if_pos h], rfl⟩
  · refine r_iload_n rfl rfl ?_
    refine r_goto rfl ?_
    exact r_iret rfl rfl ⟨by rw [if_neg h], rfl⟩
/-- Arrays.fill of a row of ints -/
theorem c_fill {a : Nat} {v : Int32} (hk : h_K σ a = 21) (hL : h_L σ a < 2 ^ 31) : Cn l D m_Arrays_fill 0 0 [va_rf (some a), .int v] σ (fun r τ => r = none ∧ τ = w_X σ a (fun j => if j < h_L σ a then v else h_X σ a j)) := by
  refine Cn.of (by decide) (by repeat (first | exact ca_0 | refine ca_i ?_ | refine ca_r ?_)) (Nat.le_of_ble_eq_true rfl) ?_
  refine r_iconst (v := nI 0) rfl (by decide) ?_
  refine r_istore_n rfl (by decide) ?_
  refine r_aload_n rfl rfl ?_
  refine r_alen rfl (by omega) ?_
  refine r_istore_n rfl (by decide) ?_
  have loop : ∀ (d i : Nat) (τ : Hp), i + d = h_L σ a → τ = w_X σ a (fun j => if j < i then v else h_X σ a j) → Gm l D m_Arrays_fill 0 0 (fun r τ => r = none ∧ τ = w_X σ a (fun j => if j < h_L σ a then v else h_X σ a j)) 5 [some (va_rf (some a)), some (.int v), some (.int (nI i)), some (.int (nI (h_L σ a)))] [] τ 0 0 := by
    intro d
    induction d with
    | zero =>
      intro i τ hi hτ
      refine r_iload_n rfl rfl ?_
      refine r_iload_n rfl rfl ?_
      refine r_geN rfl (by omega) hL (fun _ => ?_) (fun h => by omega)
      refine r_vret rfl rfl ⟨rfl, ?_⟩
      rw [hτ, show i = h_L σ a by omega]
    | succ d ih =>
      intro i τ hi hτ
      refine r_iload_n rfl rfl ?_
      refine r_iload_n rfl rfl ?_
      refine r_geN rfl (by omega) hL (fun h => by omega) (fun _ => ?_)
      refine r_aload_n rfl rfl ?_
      refine r_iload_n rfl rfl ?_
      refine r_iload_n rfl rfl ?_
      subst hτ
      refine r_iast rfl hk rfl (show i < h_L σ a by omega) hL ?_
      refine r_iinc rfl rfl (nI_inc _) ?_
      refine r_goto rfl ?_
      refine ih (i + 1) _ (by omega) ?_
      unfold w_X
      simp only [h_z, h_K, h_I, h_P, h_L, h_X, h_Y]
      congr 6
      funext b
      unfold u_1
      by_cases e : b = a
      · rw [if_pos e, if_pos e]
        funext j
        unfold upd
        by_cases h1 : j = i
        · rw [if_pos h1, if_pos (by omega)]
        · rw [if_neg h1]
          simp only [if_pos]
          by_cases h2 : j < i
          · rw [if_pos h2, if_pos (by omega)]
          · rw [if_neg h2, if_neg (by omega)]
      · rw [if_neg e, if_neg e, if_neg e]
  refine loop (h_L σ a) 0 σ (by omega) ?_
  unfold w_X
  simp only [Nat.not_lt_zero, if_false]
  have : u_1 (h_X σ) a (fun j => h_X σ a j) = h_X σ := by
    funext b
    unfold u_1
    by_cases e : b = a
    · rw [if_pos e, e]
    · rw [if_neg e]
  rw [this]
  rfl
def isL (b : Int32) : Bool := (decide (97 ≤ b) && decide (b ≤ 122)) || (decide (65 ≤ b) && decide (b ≤ 90))
theorem c_isLetter {b : Int32} : Cn l D m_NK_isLetter 0 0 [.int b] σ (fun r τ => r = some (.int (nI (isL b).toNat)) ∧ τ = σ) := by
  have e97 : nI 97 = 97 := by decide
  have e122 : nI 122 = 122 := by decide
  have e65 : nI 65 = 65 := by decide
  have e90 : nI 90 = 90 := by decide
  refine Cn.of (by decide) (by repeat (first | exact ca_0 | refine ca_i ?_ | refine ca_r ?_)) (Nat.le_of_ble_eq_true rfl) ?_
  have yes : isL b = true → Gm l D m_NK_isLetter 0 0 (fun r τ => r = some (.int (nI (isL b).toNat)) ∧ τ = σ) 24 (en_L [.int b] 1) [] σ 0 0 := by
    intro h
    refine r_iconst (v := nI 1) rfl (by decide) ?_
    refine r_goto rfl ?_
    exact r_zret rfl rfl (by decide) ⟨by rw [h]; rfl, rfl⟩
  have no : isL b = false → Gm l D m_NK_isLetter 0 0 (fun r τ => r = some (.int (nI (isL b).toNat)) ∧ τ = σ) 28 (en_L [.int b] 1) [] σ 0 0 := by
    intro h
    refine r_iconst (v := nI 0) rfl (by decide) ?_
    exact r_zret rfl rfl (by decide) ⟨by rw [h]; rfl, rfl⟩
  have second : ¬ (97 ≤ b ∧ b ≤ 122) → Gm l D m_NK_isLetter 0 0 (fun r τ => r = some (.int (nI (isL b).toNat)) ∧ τ = σ) 12 (en_L [.int b] 1) [] σ 0 0 := by
    intro h
    have h2 : isL b = (decide (65 ≤ b) && decide (b ≤ 90)) := by
      unfold isL
      rw [show (decide (97 ≤ b) && decide (b ≤ 122)) = false by simpa using h]
      simp
    refine r_iload_n rfl rfl ?_
    refine r_bipush (v := nI 65) rfl (by decide) ?_
    refine r_icmp_lt rfl (fun q => ?_) (fun q => ?_)
    · rw [e65] at q
      exact no (by rw [h2]; simp [Int32.not_le.mpr q])
    · rw [e65] at q
      refine r_iload_n rfl rfl ?_
      refine r_bipush (v := nI 90) rfl (by decide) ?_
      refine r_icmp_gt rfl (fun q2 => ?_) (fun q2 => ?_)
      · rw [e90] at q2
        exact no (by rw [h2]; simp [Int32.not_le.mpr q2])
      · rw [e90] at q2
        exact yes (by rw [h2]; simp [Int32.not_lt.mp q, Int32.not_lt.mp q2])
  refine r_iload_n rfl rfl ?_
  refine r_bipush (v := nI 97) rfl (by decide) ?_
  refine r_icmp_lt rfl (fun q => ?_) (fun q => ?_)
  · rw [e97] at q
    exact second (fun w => absurd w.1 (Int32.not_le.mpr q))
  · rw [e97] at q
    refine r_iload_n rfl rfl ?_
    refine r_bipush (v := nI 122) rfl (by decide) ?_
    refine r_icmp_le rfl (fun q2 => ?_) (fun q2 => ?_)
    · rw [e122] at q2
      exact yes (by unfold isL; simp [Int32.not_lt.mp q, q2])
    · rw [e122] at q2
      exact second (fun w => q2 w.2)
end J
end
section
/-! ===== class Line ===== -/
section NR
variable {l : Launch} {D : DD} {R : Room} {Z : List Frame → Array Value → State → State → Prop} {y pc n x kc ks : Nat} {ls : List (Option Value)} {st : List Value} {σ : Hp}
theorem r_getIv {k f a : Nat} {v : Int32} (hf : ft y pc = some (.getfield k, n, f)) (hk : h_K σ a = f / 64 + 1) (hp : fPrim (fTy (f / 64) (f % 64)) = true) (hv : h_I σ f a = v) (kk : G l D R Z y n ls (.int v :: st) σ kc ks) : G l D R Z y pc ls (va_rf (some a) :: st) σ kc ks := by
  refine r_getI hf hk hp ?_
  rw [hv]
  exact kk
theorem r_getPv {k f a : Nat} {v : Option Nat} (hf : ft y pc = some (.getfield k, n, f)) (hk : h_K σ a = f / 64 + 1) (hp : fPrim (fTy (f / 64) (f % 64)) = false) (hv : h_P σ f a = v) (kk : G l D R Z y n ls (va_rf v :: st) σ kc ks) : G l D R Z y pc ls (va_rf (some a) :: st) σ kc ks := by
  refine r_getP hf hk hp ?_
  rw [hv]
  exact kk
theorem r_alenv {a m : Nat} (hf : ft y pc = some (.arraylength, n, x)) (hk : (20 ≤ h_K σ a ∧ h_K σ a < 23) ∨ (30 ≤ h_K σ a ∧ h_K σ a < 36)) (hm : h_L σ a = m) (kk : G l D R Z y n ls (.int (nI m) :: st) σ kc ks) : G l D R Z y pc ls (va_rf (some a) :: st) σ kc ks := by
  refine r_alen hf hk ?_
  rw [hm]
  exact kk
end NR
def b8 (v : Int32) : Int32 := v.toInt8.toInt32
/-- a Line at a: its room, its bytes -/
def Ln (σ : Hp) (a cap : Nat) (xs : List Int32) : Prop :=
  h_K σ a = 4 ∧ h_P σ 192 a = some (a + 1) ∧ h_I σ 193 a = nI xs.length ∧ h_K σ (a + 1) = 20 ∧ h_L σ (a + 1) = cap ∧ xs.length ≤ cap ∧ cap < 2 ^ 20 ∧ ∀ i, i < xs.length → h_X σ (a + 1) i = xs.getD i 0
/-- only the Line at a has changed -/
def LF (σ τ : Hp) (a : Nat) : Prop := h_z τ = h_z σ ∧ h_K τ = h_K σ ∧ h_P τ = h_P σ ∧ h_L τ = h_L σ ∧ h_Y τ = h_Y σ ∧ (∀ f b, ¬ (f = 193 ∧ b = a) → h_I τ f b = h_I σ f b) ∧ ∀ b, b ≠ a + 1 → h_X τ b = h_X σ b
/-- k cells are new, and nothing old has changed -/
def NF (σ τ : Hp) (k : Nat) : Prop := h_z τ = h_z σ + k ∧ ∀ a, a < h_z σ → h_K τ a = h_K σ a ∧ (∀ f, h_I τ f a = h_I σ f a) ∧ (∀ f, h_P τ f a = h_P σ f a) ∧ h_L τ a = h_L σ a ∧ h_X τ a = h_X σ a ∧ h_Y τ a = h_Y σ a
theorem LF.rf (σ : Hp) (a : Nat) : LF σ σ a := ⟨rfl, rfl, rfl, rfl, rfl, fun _ _ _ => rfl, fun _ _ => rfl⟩
theorem LF.tr {σ τ ρ : Hp} {a : Nat} (h : LF σ τ a) (g : LF τ ρ a) : LF σ ρ a := by
  obtain ⟨h1, h2, h3, h4, h5, h6, h7⟩ := h
  obtain ⟨g1, g2, g3, g4, g5, g6, g7⟩ := g
  exact ⟨g1.trans h1, g2.trans h2, g3.trans h3, g4.trans h4, g5.trans h5, fun f b q => (g6 f b q).trans (h6 f b q), fun b q => (g7 b q).trans (h7 b q)⟩
theorem LF.keep {σ τ : Hp} {a b cap : Nat} {ys : List Int32} (h : LF σ τ a) (hab : b ≠ a) (g : Ln σ b cap ys) : Ln τ b cap ys := by
  obtain ⟨h1, h2, h3, h4, h5, h6, h7⟩ := h
  unfold Ln at g ⊢
  rw [h2, h3, h4, h6 193 b (fun q => hab q.2), h7 (b + 1) (by omega)]
  exact g
theorem Ln.of {σ τ : Hp} {a cap : Nat} {xs ys : List Int32} (h : Ln σ a cap xs) (hK : h_K τ = h_K σ) (hP : h_P τ = h_P σ) (hL : h_L τ = h_L σ) (hI : h_I τ 193 a = nI ys.length) (hy : ys.length ≤ cap) (hX : ∀ i, i < ys.length → h_X τ (a + 1) i = ys.getD i 0) : Ln τ a cap ys := by
  obtain ⟨h1, h2, h3, h4, h5, h6, h7, h8⟩ := h
  refine ⟨by rw [hK]; exact h1, by rw [hP]; exact h2, hI, by rw [hK]; exact h4, by rw [hL]; exact h5, hy, h7, hX⟩
theorem Ln.cut {σ : Hp} {a cap : Nat} {xs : List Int32} (h : Ln σ a cap xs) (k : Nat) (hk : k ≤ xs.length) : Ln (w_I σ 193 a (nI k)) a cap (xs.take k) ∧ LF σ (w_I σ 193 a (nI k)) a := by
  have hl : (xs.take k).length = k := by rw [List.length_take]; omega
  obtain ⟨h1, h2, h3, h4, h5, h6, h7, h8⟩ := id h
  refine ⟨h.of rfl rfl rfl ?_ (by omega) ?_, rfl, rfl, rfl, rfl, rfl, fun f b q => ?_, fun b q => rfl⟩
  · rw [hl]
    exact u2_s _ _ _ _
  · intro i hi
    rw [hl] at hi
    show h_X σ (a + 1) i = _
    rw [h8 i (by omega), List.getD_eq_getElem?_getD, List.getD_eq_getElem?_getD, List.getElem?_take, if_pos hi]
  · show u_2 (h_I σ) 193 a (nI k) f b = _
    unfold u_2
    rw [if_neg q]
theorem Ln.eq {σ : Hp} {a cap cap' : Nat} {xs ys : List Int32} (h : Ln σ a cap xs) (g : Ln σ a cap' ys) : xs = ys := by
  obtain ⟨h1, h2, h3, h4, h5, h6, h7, h8⟩ := h
  obtain ⟨g1, g2, g3, g4, g5, g6, g7, g8⟩ := g
  have e : xs.length = ys.length := (nI_eq (by omega) (by omega)).mp (h3.symm.trans g3)
  refine List.ext_getElem e (fun i hi hj => ?_)
  have := (h8 i hi).symm.trans (g8 i hj)
  simpa [List.getD_eq_getElem?_getD, hi, hj] using this
section LC
variable {l : Launch} {D : DD} {σ : Hp} {a b cap cb : Nat} {xs ys : List Int32}
theorem c_Line_init {n : Nat} (hk : h_K σ a = 4) (hn : n < 2 ^ 20) : Cn l D m_Line_init 1 n [va_rf (some a), .int (nI n)] σ (fun r τ => r = none ∧ τ = w_P (n_A σ 20 n) 192 a (some (h_z σ)) ∧ h_K σ (h_z σ) = 0) := by
  refine Cn.of (by decide) (by repeat (first | exact ca_0 | refine ca_i ?_ | refine ca_r ?_)) (Nat.le_of_ble_eq_true rfl) ?_
  refine r_aload_n rfl rfl ?_
  refine r_objInit rfl (Nat.le_of_ble_eq_true rfl) ⟨Nat.le_of_ble_eq_true rfl, Nat.le_of_ble_eq_true rfl⟩ ?_
  refine r_aload_n rfl rfl ?_
  refine r_iload_n rfl rfl ?_
  refine r_iconst (v := nI 0) rfl (by decide) ?_
  refine r_callS (As := [.int (nI n), .int (nI 0)]) (kc' := 1) (ks' := n) rfl (by decide) rfl rfl rfl (Nat.le_of_ble_eq_true rfl) ⟨Nat.le_of_ble_eq_true rfl, Nat.le_of_ble_eq_true rfl⟩ c_max (by omega) (by omega) ?_
  rintro r τ ⟨rfl, rfl⟩
  have e : (if nI n < nI 0 then nI 0 else nI n) = nI n := if_neg (nI_nlt (by omega) (by omega))
  rw [e]
  refine r_newa (kc := 0) (ks := 0) rfl rfl hn (fun hz => ?_) |> G.less (by omega) (by omega)
  have hne : a ≠ h_z τ := fun q => by rw [q, hz] at hk; cases hk
  have hk2 : h_K (n_A τ 20 n) a = 4 := (u1_n _ _ hne).trans hk
  refine r_putP rfl hk2 rfl (Or.inr ⟨rfl, rfl⟩) ?_
  exact r_vret rfl rfl ⟨rfl, rfl, hz⟩
theorem b8_nar (v : Int32) : narrow .byte (.int (b8 v)) = .int (b8 v) := pk_nb v
theorem b8_fit (v : Int32) : fits .byte (.int (b8 v)) = true := pk_fb v
theorem c_put {v : Int32} (h : Ln σ a cap xs) (hc : xs.length < cap) : Cn l D m_Line_put 0 0 [va_rf (some a), .int v] σ (fun r τ => r = none ∧ Ln τ a cap (xs ++ [b8 v]) ∧ LF σ τ a) := by
  obtain ⟨k1, p1, i1, k2, l1, hle, hcap, hx⟩ := id h
  refine Cn.of (by decide) (by repeat (first | exact ca_0 | refine ca_i ?_ | refine ca_r ?_)) (Nat.le_of_ble_eq_true rfl) ?_
  refine r_aload_n rfl rfl ?_
  (first | refine r_getIv rfl (by first | assumption | rfl) rfl (by assumption) ?_ | refine r_getI rfl (by first | assumption | rfl) rfl ?_)
  refine r_aload_n rfl rfl ?_
  (first | refine r_getPv rfl (by first | assumption | rfl) rfl (by assumption) ?_ | refine r_getP rfl (by first | assumption | rfl) rfl ?_)
  refine r_alenv rfl (by omega) l1 ?_
  refine r_geN rfl (by omega) (by omega) (fun q => by omega) (fun _ => ?_)
  refine r_aload_n rfl rfl ?_
  (first | refine r_getPv rfl (by first | assumption | rfl) rfl (by assumption) ?_ | refine r_getP rfl (by first | assumption | rfl) rfl ?_)
  refine r_aload_n rfl rfl ?_
  (first | refine r_getIv rfl (by first | assumption | rfl) rfl (by assumption) ?_ | refine r_getI rfl (by first | assumption | rfl) rfl ?_)
  refine r_iload_n rfl rfl ?_
  refine r_i2b (v := b8 v) rfl rfl ?_
  refine r_bast rfl k2 rfl (by omega) (by omega) (b8_nar v) (b8_fit v) ?_
  refine r_aload_n rfl rfl ?_
  refine r_dup rfl (by first | rfl | exact rf_cat _) ?_
  (first | refine r_getIv rfl (by first | assumption | rfl) rfl (by assumption) ?_ | refine r_getI rfl (by first | assumption | rfl) rfl ?_)
  refine r_iconst (v := nI 1) rfl (by decide) ?_
  (first | refine r_iaddN rfl ?_ | refine r_iadd rfl ?_)
  refine r_putI rfl (by first | assumption | rfl) rfl (by first | exact Or.inl rfl | exact Or.inr ⟨rfl, rfl⟩) (by first | rfl | decide | assumption) (by first | rfl | decide) ?_
  refine r_vret rfl rfl ⟨rfl, h.of rfl rfl rfl ?_ (by simp; omega) ?_, rfl, rfl, rfl, rfl, rfl, fun f b q => ?_, fun b q => ?_⟩
  · rw [List.length_append]
    exact u2_s _ _ _ _
  · intro i hi
    rw [List.length_append] at hi
    show u_1 (h_X σ) (a + 1) _ (a + 1) i = _
    rw [u1_s]
    unfold upd
    simp only [List.length_cons, List.length_nil] at hi
    by_cases e : i = xs.length
    · rw [if_pos e, e]
      simp [List.getD_eq_getElem?_getD]
    · rw [if_neg e, hx i (by omega), List.getD_eq_getElem?_getD, List.getD_eq_getElem?_getD, List.getElem?_append_left (by omega)]
  · show u_2 _ 193 a _ f b = _
    unfold u_2
    rw [if_neg q]
    rfl
  · show u_1 (h_X σ) (a + 1) _ b = _
    rw [u1_n _ _ q]
theorem c_putFour {v : Int32} (h : Ln σ a cap xs) (hc : xs.length + 4 ≤ cap) : Cn l D m_Line_putFour 0 0 [va_rf (some a), .int v] σ (fun r τ => r = none ∧ Ln τ a cap (xs ++ [b8 (v.toUInt32 >>> ((nI 24).toUInt32 &&& Int32.toUInt32 31)).toInt32, b8 (v.toUInt32 >>> ((nI 16).toUInt32 &&& Int32.toUInt32 31)).toInt32, b8 (v.toUInt32 >>> ((nI 8).toUInt32 &&& Int32.toUInt32 31)).toInt32, b8 v]) ∧ LF σ τ a) := by
  have k1 := h.1
  refine Cn.of (by decide) (by repeat (first | exact ca_0 | refine ca_i ?_ | refine ca_r ?_)) (Nat.le_of_ble_eq_true rfl) ?_
  refine r_aload_n rfl rfl ?_
  refine r_iload_n rfl rfl ?_
  refine r_bipush (v := nI 24) rfl (by decide) ?_
  refine r_iushr rfl rfl ?_
  refine r_callV (As := [_]) rfl (by decide) rfl k1 rfl rfl (Nat.le_of_ble_eq_true rfl) ⟨Nat.le_of_ble_eq_true rfl, Nat.le_of_ble_eq_true rfl⟩ (c_put h (by omega)) (kc' := 0) (ks' := 0) (by omega) (by omega) (by decide) ?_
  rintro r σ1 ⟨rfl, g1, f1⟩
  refine r_aload_n rfl rfl ?_
  refine r_iload_n rfl rfl ?_
  refine r_bipush (v := nI 16) rfl (by decide) ?_
  refine r_iushr rfl rfl ?_
  refine r_callV (As := [_]) rfl (by decide) rfl g1.1 rfl rfl (Nat.le_of_ble_eq_true rfl) ⟨Nat.le_of_ble_eq_true rfl, Nat.le_of_ble_eq_true rfl⟩ (c_put g1 (by simp; omega)) (kc' := 0) (ks' := 0) (by omega) (by omega) (by decide) ?_
  rintro r σ2 ⟨rfl, g2, f2⟩
  refine r_aload_n rfl rfl ?_
  refine r_iload_n rfl rfl ?_
  refine r_bipush (v := nI 8) rfl (by decide) ?_
  refine r_iushr rfl rfl ?_
  refine r_callV (As := [_]) rfl (by decide) rfl g2.1 rfl rfl (Nat.le_of_ble_eq_true rfl) ⟨Nat.le_of_ble_eq_true rfl, Nat.le_of_ble_eq_true rfl⟩ (c_put g2 (by simp; omega)) (kc' := 0) (ks' := 0) (by omega) (by omega) (by decide) ?_
  rintro r σ3 ⟨rfl, g3, f3⟩
  refine r_aload_n rfl rfl ?_
  refine r_iload_n rfl rfl ?_
  refine r_callV (As := [_]) rfl (by decide) rfl g3.1 rfl rfl (Nat.le_of_ble_eq_true rfl) ⟨Nat.le_of_ble_eq_true rfl, Nat.le_of_ble_eq_true rfl⟩ (c_put g3 (by simp; omega)) (kc' := 0) (ks' := 0) (by omega) (by omega) (by decide) ?_
  rintro r σ4 ⟨rfl, g4, f4⟩
  refine r_vret rfl rfl ⟨rfl, ?_, ((f1.tr f2).tr f3).tr f4⟩
  simpa using g4
theorem c_putLine (h : Ln σ a cap xs) (g : Ln σ b cb ys) (hc : xs.length + ys.length ≤ cap) : Cn l D m_Line_putLine 0 0 [va_rf (some a), va_rf (some b)] σ (fun r τ => r = none ∧ Ln τ a cap (xs ++ ys) ∧ LF σ τ a) := by
  obtain ⟨k1, p1, i1, k2, l1, hle, hcap, hx⟩ := id h
  obtain ⟨k1', p1', i1', k2', l1', hle', hcap', hx'⟩ := id g
  refine Cn.of (by decide) (by repeat (first | exact ca_0 | refine ca_i ?_ | refine ca_r ?_)) (Nat.le_of_ble_eq_true rfl) ?_
  refine r_aload_n rfl rfl ?_
  (first | refine r_getIv rfl (by first | assumption | rfl) rfl (by assumption) ?_ | refine r_getI rfl (by first | assumption | rfl) rfl ?_)
  refine r_aload_n rfl rfl ?_
  (first | refine r_getPv rfl (by first | assumption | rfl) rfl (by assumption) ?_ | refine r_getP rfl (by first | assumption | rfl) rfl ?_)
  refine r_alenv rfl (by omega) l1 ?_
  refine r_aload_n rfl rfl ?_
  (first | refine r_getIv rfl (by first | assumption | rfl) rfl (by assumption) ?_ | refine r_getI rfl (by first | assumption | rfl) rfl ?_)
  refine r_isubN rfl (by omega) ?_
  refine r_callS (As := [.int (nI ys.length), .int (nI (cap - xs.length))]) (kc' := 0) (ks' := 0) rfl (by decide) rfl rfl rfl (Nat.le_of_ble_eq_true rfl) ⟨Nat.le_of_ble_eq_true rfl, Nat.le_of_ble_eq_true rfl⟩ c_min (by omega) (by omega) ?_
  rintro r τ ⟨rfl, rfl⟩
  have e : (if nI (cap - xs.length) < nI ys.length then nI (cap - xs.length) else nI ys.length) = nI ys.length := if_neg (nI_nlt (by omega) (by omega))
  rw [e]
  refine r_istore_n rfl (by decide) ?_
  refine r_aload_n rfl rfl ?_
  (first | refine r_getPv rfl (by first | assumption | rfl) rfl (by assumption) ?_ | refine r_getP rfl (by first | assumption | rfl) rfl ?_)
  refine r_iconst (v := nI 0) rfl (by decide) ?_
  refine r_aload_n rfl rfl ?_
  (first | refine r_getPv rfl (by first | assumption | rfl) rfl (by assumption) ?_ | refine r_getP rfl (by first | assumption | rfl) rfl ?_)
  refine r_aload_n rfl rfl ?_
  (first | refine r_getIv rfl (by first | assumption | rfl) rfl (by assumption) ?_ | refine r_getI rfl (by first | assumption | rfl) rfl ?_)
  refine r_iload_n rfl rfl ?_
  refine r_copy (t := 0) rfl (by omega) k2' k2 rfl rfl rfl (by omega) (by omega) (by omega) (by omega) (Nat.le_of_ble_eq_true rfl) ⟨Nat.le_of_ble_eq_true rfl, Nat.le_of_ble_eq_true rfl⟩ ?_
  refine r_aload_n rfl rfl ?_
  refine r_dup rfl (by first | rfl | exact rf_cat _) ?_
  (first | refine r_getIv rfl (by first | assumption | rfl) rfl (by assumption) ?_ | refine r_getI rfl (by first | assumption | rfl) rfl ?_)
  refine r_iload_n rfl rfl ?_
  (first | refine r_iaddN rfl ?_ | refine r_iadd rfl ?_)
  refine r_putI rfl (by first | assumption | rfl) rfl (by first | exact Or.inl rfl | exact Or.inr ⟨rfl, rfl⟩) (by first | rfl | decide | assumption) (by first | rfl | decide) ?_
  refine r_vret rfl rfl ⟨rfl, h.of rfl rfl rfl ?_ (by simp; omega) ?_, rfl, rfl, rfl, rfl, rfl, fun f b q => ?_, fun b q => ?_⟩
  · rw [List.length_append]
    exact u2_s _ _ _ _
  · intro i hi
    rw [List.length_append] at hi
    show u_1 (h_X τ) (a + 1) _ (a + 1) i = _
    rw [u1_s]
    unfold va_cpy
    by_cases e : i < xs.length
    · rw [if_neg (by omega), hx i e, List.getD_eq_getElem?_getD, List.getD_eq_getElem?_getD, List.getElem?_append_left e]
    · rw [if_pos (by omega), hx' _ (by omega), List.getD_eq_getElem?_getD, List.getD_eq_getElem?_getD, List.getElem?_append_right (by omega), Nat.zero_add]
  · show u_2 _ 193 a _ f b = _
    unfold u_2
    rw [if_neg q]
    rfl
  · show u_1 (h_X τ) (a + 1) _ b = _
    rw [u1_n _ _ q]
theorem c_setTo (h : Ln σ a cap xs) (g : Ln σ b cb ys) (hab : b ≠ a) (hc : ys.length ≤ cap) : Cn l D m_Line_setTo 0 0 [va_rf (some a), va_rf (some b)] σ (fun r τ => r = none ∧ Ln τ a cap ys ∧ LF σ τ a) := by
  have k1 := h.1
  obtain ⟨h0, f0⟩ := h.cut 0 (by omega)
  rw [List.take_zero] at h0
  refine Cn.of (by decide) (by repeat (first | exact ca_0 | refine ca_i ?_ | refine ca_r ?_)) (Nat.le_of_ble_eq_true rfl) ?_
  refine r_aload_n rfl rfl ?_
  refine r_iconst (v := nI 0) rfl (by decide) ?_
  refine r_putI rfl (by first | assumption | rfl) rfl (by first | exact Or.inl rfl | exact Or.inr ⟨rfl, rfl⟩) (by first | rfl | decide | assumption) (by first | rfl | decide) ?_
  refine r_aload_n rfl rfl ?_
  refine r_aload_n rfl rfl ?_
  refine r_callV (As := [_]) rfl (by decide) rfl h0.1 rfl rfl (Nat.le_of_ble_eq_true rfl) ⟨Nat.le_of_ble_eq_true rfl, Nat.le_of_ble_eq_true rfl⟩ (c_putLine h0 (f0.keep hab g) (by simpa using hc)) (kc' := 0) (ks' := 0) (by omega) (by omega) (by decide) ?_
  rintro r τ ⟨rfl, g1, f1⟩
  refine r_vret rfl rfl ⟨rfl, by simpa using g1, f0.tr f1⟩
end LC
end
section
/-! ===== class Line, second half ===== -/
def ln_at (xs : List Int32) (i : Int32) : Int32 := if i < 0 ∨ nI xs.length ≤ i then -1 else xs.getD i.toNatClampNeg 0 &&& 255
theorem ln_at_nI {xs : List Int32} {j : Nat} (h : j < xs.length) (hl : xs.length < 2 ^ 31) : ln_at xs (nI j) = xs.getD j 0 &&& 255 := by
  unfold ln_at
  rw [if_neg, nI_clamp (by omega)]
  rintro (q | q)
  · exact nI_pos (by omega) q
  · exact nI_ge h hl q
theorem getD_at {xs : List Int32} {j : Nat} (h : j < xs.length) : xs.getD j 0 = xs[j] := by simp [List.getD_eq_getElem?_getD, h]
section LC
variable {l : Launch} {D : DD} {σ : Hp} {a b cap cb : Nat} {xs ys : List Int32}
theorem c_byteAt {i : Int32} (h : Ln σ a cap xs) : Cn l D m_Line_byteAt 0 0 [va_rf (some a), .int i] σ (fun r τ => r = some (.int (ln_at xs i)) ∧ τ = σ) := by
  obtain ⟨k1, p1, i1, k2, l1, hle, hcap, hx⟩ := id h
  refine Cn.of (by decide) (by repeat (first | exact ca_0 | refine ca_i ?_ | refine ca_r ?_)) (Nat.le_of_ble_eq_true rfl) ?_
  have no : (i < 0 ∨ nI xs.length ≤ i) → Gm l D m_Line_byteAt 0 0 (fun r τ => r = some (.int (ln_at xs i)) ∧ τ = σ) 25 (en_L [va_rf (some a), .int i] 2) [] σ 0 0 := by
    intro q
    refine r_iconst (v := -1) rfl (by decide) ?_
    refine r_iret rfl rfl ⟨?_, rfl⟩
    unfold ln_at
    rw [if_pos q]
  refine r_iload_n rfl rfl ?_
  refine r_if_lt rfl (fun q => no (Or.inl q)) (fun q1 => ?_)
  refine r_iload_n rfl rfl ?_
  refine r_aload_n rfl rfl ?_
  (first | refine r_getIv rfl (by first | assumption | rfl) rfl (by assumption) ?_ | refine r_getI rfl (by first | assumption | rfl) rfl ?_)
  refine r_icmp_ge rfl (fun q => no (Or.inr q)) (fun q2 => ?_)
  refine r_aload_n rfl rfl ?_
  (first | refine r_getPv rfl (by first | assumption | rfl) rfl (by assumption) ?_ | refine r_getP rfl (by first | assumption | rfl) rfl ?_)
  refine r_iload_n rfl rfl ?_
  obtain ⟨j, hj, rfl⟩ := nI_of q1
  have hj2 : j < xs.length := by
    rcases Nat.lt_or_ge j xs.length with q | q
    · exact q
    · exact absurd (nI_le q hj) q2
  refine r_bald rfl k2 rfl (by omega) (by omega) ?_
  refine r_sipush (v := nI 255) rfl (by decide) ?_
  refine r_iand rfl ?_
  refine r_goto rfl ?_
  refine r_iret rfl rfl ⟨?_, rfl⟩
  rw [hx j hj2, ln_at_nI hj2 (by omega)]
  rfl
theorem c_standsIn {j : Nat} (h : Ln σ a cap xs) (g : Ln σ b cb ys) (hj : j ≤ ys.length) : Cn l D m_Line_standsIn 0 0 [va_rf (some a), va_rf (some b), .int (nI j)] σ (fun r τ => r = some (.int (nI (xs.isPrefixOf (ys.drop j)).toNat)) ∧ τ = σ) := by
  obtain ⟨k1, p1, i1, k2, l1, hle, hcap, hx⟩ := id h
  obtain ⟨k1', p1', i1', k2', l1', hle', hcap', hx'⟩ := id g
  refine Cn.of (by decide) (by repeat (first | exact ca_0 | refine ca_i ?_ | refine ca_r ?_)) (Nat.le_of_ble_eq_true rfl) ?_
  refine r_iload_n rfl rfl ?_
  refine r_if_lt rfl (fun q => absurd q (nI_pos (by omega))) (fun _ => ?_)
  refine r_aload_n rfl rfl ?_
  (first | refine r_getIv rfl (by first | assumption | rfl) rfl (by assumption) ?_ | refine r_getI rfl (by first | assumption | rfl) rfl ?_)
  refine r_aload_n rfl rfl ?_
  (first | refine r_getIv rfl (by first | assumption | rfl) rfl (by assumption) ?_ | refine r_getI rfl (by first | assumption | rfl) rfl ?_)
  refine r_iload_n rfl rfl ?_
  refine r_isubN rfl hj ?_
  refine r_leN rfl (by omega) (by omega) (fun hq => ?_) (fun hq => ?_)
  · refine r_iconst (v := nI 0) rfl (by decide) ?_
    refine r_istore_n rfl (by decide) ?_
    have loop : ∀ (d i : Nat), i + d = xs.length → (∀ q, q < i → xs.getD q 0 = ys.getD (j + q) 0) → Gm l D m_Line_standsIn 0 0 (fun r τ => r = some (.int (nI (xs.isPrefixOf (ys.drop j)).toNat)) ∧ τ = σ) 21 [some (va_rf (some a)), some (va_rf (some b)), some (.int (nI j)), some (.int (nI i))] [] σ 0 0 := by
      intro d
      induction d with
      | zero =>
        intro i hi hp
        refine r_iload_n rfl rfl ?_
        refine r_aload_n rfl rfl ?_
        (first | refine r_getIv rfl (by first | assumption | rfl) rfl (by assumption) ?_ | refine r_getI rfl (by first | assumption | rfl) rfl ?_)
        refine r_geN rfl (by omega) (by omega) (fun _ => ?_) (fun q => by omega)
        refine r_iconst (v := nI 1) rfl (by decide) ?_
        refine r_zret rfl rfl (by decide) ⟨?_, rfl⟩
        have e : xs.isPrefixOf (ys.drop j) = true := by
          rw [List.isPrefixOf_iff_prefix, List.prefix_iff_eq_take]
          refine List.ext_getElem (by simp; omega) (fun q h1 h2 => ?_)
          have := hp q (by omega)
          rw [getD_at h1, getD_at (by omega)] at this
          simp only [List.getElem_take, List.getElem_drop]
          exact this
        rw [e]
        rfl
      | succ d ih =>
        intro i hi hp
        refine r_iload_n rfl rfl ?_
        refine r_aload_n rfl rfl ?_
        (first | refine r_getIv rfl (by first | assumption | rfl) rfl (by assumption) ?_ | refine r_getI rfl (by first | assumption | rfl) rfl ?_)
        refine r_geN rfl (by omega) (by omega) (fun q => by omega) (fun _ => ?_)
        refine r_aload_n rfl rfl ?_
        (first | refine r_getPv rfl (by first | assumption | rfl) rfl (by assumption) ?_ | refine r_getP rfl (by first | assumption | rfl) rfl ?_)
        refine r_iload_n rfl rfl ?_
        refine r_bald rfl k2 rfl (by omega) (by omega) ?_
        refine r_aload_n rfl rfl ?_
        (first | refine r_getPv rfl (by first | assumption | rfl) rfl (by assumption) ?_ | refine r_getP rfl (by first | assumption | rfl) rfl ?_)
        refine r_iload_n rfl rfl ?_
        refine r_iload_n rfl rfl ?_
        (first | refine r_iaddN rfl ?_ | refine r_iadd rfl ?_)
        refine r_bald rfl k2' rfl (by omega) (by omega) ?_
        rw [hx i (by omega), hx' (j + i) (by omega)]
        refine r_icmp_eq rfl (fun q => ?_) (fun q => ?_)
        · refine r_iinc rfl rfl (nI_inc _) ?_
          refine r_goto rfl ?_
          refine ih (i + 1) (by omega) (fun q2 h2 => ?_)
          by_cases e : q2 = i
          · rw [e]; exact q
          · exact hp q2 (by omega)
        · refine r_iconst (v := nI 0) rfl (by decide) ?_
          refine r_zret rfl rfl (by decide) ⟨?_, rfl⟩
          have e : xs.isPrefixOf (ys.drop j) = false := by
            rw [Bool.eq_false_iff]
            intro e
            rw [List.isPrefixOf_iff_prefix, List.prefix_iff_eq_take] at e
            apply q
            rw [getD_at (by omega), getD_at (by omega)]
            have e2 : xs[i]? = ((ys.drop j).take xs.length)[i]? := by rw [← e]
            rw [List.getElem?_take, if_pos (by omega), List.getElem?_drop, List.getElem?_eq_getElem (by omega), List.getElem?_eq_getElem (by omega)] at e2
            exact Option.some.inj e2
          rw [e]
          rfl
    exact loop xs.length 0 (by omega) (fun q hq => by omega)
  · refine r_iconst (v := nI 0) rfl (by decide) ?_
    refine r_zret rfl rfl (by decide) ⟨?_, rfl⟩
    have e : xs.isPrefixOf (ys.drop j) = false := by
      rw [Bool.eq_false_iff]
      intro e
      rw [List.isPrefixOf_iff_prefix] at e
      have := e.length_le
      rw [List.length_drop] at this
      omega
    rw [e]
    rfl
theorem c_isSame (h : Ln σ a cap xs) (g : Ln σ b cb ys) : Cn l D m_Line_isSame 0 0 [va_rf (some a), va_rf (some b)] σ (fun r τ => r = some (.int (nI (decide (xs = ys)).toNat)) ∧ τ = σ) := by
  obtain ⟨k1, p1, i1, k2, l1, hle, hcap, hx⟩ := id h
  obtain ⟨k1', p1', i1', k2', l1', hle', hcap', hx'⟩ := id g
  refine Cn.of (by decide) (by repeat (first | exact ca_0 | refine ca_i ?_ | refine ca_r ?_)) (Nat.le_of_ble_eq_true rfl) ?_
  have no : xs ≠ ys → Gm l D m_Line_isSame 0 0 (fun r τ => r = some (.int (nI (decide (xs = ys)).toNat)) ∧ τ = σ) 24 (en_L [va_rf (some a), va_rf (some b)] 2) [] σ 0 0 := by
    intro q
    refine r_iconst (v := nI 0) rfl (by decide) ?_
    refine r_zret rfl rfl (by decide) ⟨?_, rfl⟩
    rw [decide_eq_false q]
    rfl
  refine r_aload_n rfl rfl ?_
  (first | refine r_getIv rfl (by first | assumption | rfl) rfl (by assumption) ?_ | refine r_getI rfl (by first | assumption | rfl) rfl ?_)
  refine r_aload_n rfl rfl ?_
  (first | refine r_getIv rfl (by first | assumption | rfl) rfl (by assumption) ?_ | refine r_getI rfl (by first | assumption | rfl) rfl ?_)
  refine r_neN rfl (by omega) (by omega) (fun q => no (fun e => q (by rw [e]))) (fun q => ?_)
  refine r_aload_n rfl rfl ?_
  refine r_aload_n rfl rfl ?_
  refine r_iconst (v := nI 0) rfl (by decide) ?_
  refine r_callV (As := [_, _]) rfl (by decide) rfl k1 rfl rfl (Nat.le_of_ble_eq_true rfl) ⟨Nat.le_of_ble_eq_true rfl, Nat.le_of_ble_eq_true rfl⟩ (c_standsIn h g (j := 0) (by omega)) (kc' := 0) (ks' := 0) (by omega) (by omega) (by decide) ?_
  rintro r τ ⟨rfl, rfl⟩
  have e : xs.isPrefixOf (ys.drop 0) = decide (xs = ys) := by
    rw [List.drop_zero, Bool.eq_iff_iff, List.isPrefixOf_iff_prefix, decide_eq_true_iff]
    constructor
    · intro e
      exact e.eq_of_length q
    · rintro rfl
      exact List.prefix_refl _
  rw [e]
  refine r_ifeqB rfl (fun q2 => no (of_decide_eq_false q2)) (fun q2 => ?_)
  refine r_iconst (v := nI 1) rfl (by decide) ?_
  refine r_goto rfl ?_
  refine r_zret rfl rfl (by decide) ⟨?_, rfl⟩
  rw [q2]
  rfl
theorem c_isLettersAlone (h : Ln σ a cap xs) : Cn l D m_Line_isLettersAlone 0 0 [va_rf (some a)] σ (fun r τ => r = some (.int (nI (xs.all isL).toNat)) ∧ τ = σ) := by
  obtain ⟨k1, p1, i1, k2, l1, hle, hcap, hx⟩ := id h
  refine Cn.of (by decide) (by repeat (first | exact ca_0 | refine ca_i ?_ | refine ca_r ?_)) (Nat.le_of_ble_eq_true rfl) ?_
  refine r_iconst (v := nI 0) rfl (by decide) ?_
  refine r_istore_n rfl (by decide) ?_
  have loop : ∀ (d i : Nat), i + d = xs.length → (∀ q, q < i → isL (xs.getD q 0) = true) → Gm l D m_Line_isLettersAlone 0 0 (fun r τ => r = some (.int (nI (xs.all isL).toNat)) ∧ τ = σ) 2 [some (va_rf (some a)), some (.int (nI i))] [] σ 0 0 := by
    intro d
    induction d with
    | zero =>
      intro i hi hp
      refine r_iload_n rfl rfl ?_
      refine r_aload_n rfl rfl ?_
      (first | refine r_getIv rfl (by first | assumption | rfl) rfl (by assumption) ?_ | refine r_getI rfl (by first | assumption | rfl) rfl ?_)
      refine r_geN rfl (by omega) (by omega) (fun _ => ?_) (fun q => by omega)
      refine r_iconst (v := nI 1) rfl (by decide) ?_
      refine r_zret rfl rfl (by decide) ⟨?_, rfl⟩
      have e : xs.all isL = true := by
        rw [List.all_eq_true]
        intro v hv
        obtain ⟨q, hq, rfl⟩ := List.getElem_of_mem hv
        rw [← getD_at hq]
        exact hp q (by omega)
      rw [e]
      rfl
    | succ d ih =>
      intro i hi hp
      refine r_iload_n rfl rfl ?_
      refine r_aload_n rfl rfl ?_
      (first | refine r_getIv rfl (by first | assumption | rfl) rfl (by assumption) ?_ | refine r_getI rfl (by first | assumption | rfl) rfl ?_)
      refine r_geN rfl (by omega) (by omega) (fun q => by omega) (fun _ => ?_)
      refine r_aload_n rfl rfl ?_
      (first | refine r_getPv rfl (by first | assumption | rfl) rfl (by assumption) ?_ | refine r_getP rfl (by first | assumption | rfl) rfl ?_)
      refine r_iload_n rfl rfl ?_
      refine r_bald rfl k2 rfl (by omega) (by omega) ?_
      rw [hx i (by omega)]
      refine r_callSN (As := [_]) (z := 116) rfl (by decide) rfl (by decide +kernel) rfl rfl (Nat.le_of_ble_eq_true rfl) ⟨Nat.le_of_ble_eq_true rfl, Nat.le_of_ble_eq_true rfl⟩ c_isLetter (kc' := 0) (ks' := 0) (by omega) (by omega) ?_
      rintro r τ ⟨rfl, rfl⟩
      refine r_ifneB rfl (fun q => ?_) (fun q => ?_)
      · refine r_iinc rfl rfl (nI_inc _) ?_
        refine r_goto rfl ?_
        refine ih (i + 1) (by omega) (fun q2 h2 => ?_)
        by_cases e : q2 = i
        · rw [e]; exact q
        · exact hp q2 (by omega)
      · refine r_iconst (v := nI 0) rfl (by decide) ?_
        refine r_zret rfl rfl (by decide) ⟨?_, rfl⟩
        have e : xs.all isL = false := by
          rw [Bool.eq_false_iff]
          intro e
          have := List.all_eq_true.mp e (xs.getD i 0) (by rw [getD_at (by omega)]; exact List.getElem_mem _)
          rw [this] at q
          cases q
        rw [e]
        rfl
  exact loop xs.length 0 (by omega) (fun q hq => by omega)
theorem NF.LF {τ ρ : Hp} {k : Nat} (h : NF σ τ k) (hb : h_z σ ≤ b) (g : LF τ ρ b) : NF σ ρ k := by
  obtain ⟨g1, g2, g3, g4, g5, g6, g7⟩ := g
  refine ⟨g1.trans h.1, fun a ha => ?_⟩
  obtain ⟨h1, h2, h3, h4, h5, h6⟩ := h.2 a ha
  refine ⟨by rw [g2]; exact h1, fun f => (g6 f a (fun q => by omega)).trans (h2 f), fun f => by rw [g3]; exact h3 f, by rw [g4]; exact h4, by rw [g7 a (by omega)]; exact h5, by rw [g5]; exact h6⟩
theorem c_copy (h : Ln σ a cap xs) : Cn l D m_Line_copy 2 (2 + xs.length) [va_rf (some a)] σ (fun r τ => r = some (va_rf (some (h_z σ))) ∧ Ln τ (h_z σ) xs.length xs ∧ NF σ τ 2) := by
  obtain ⟨k1, p1, i1, k2, l1, hle, hcap, hx⟩ := id h
  refine Cn.of (by decide) (by repeat (first | exact ca_0 | refine ca_i ?_ | refine ca_r ?_)) (Nat.le_of_ble_eq_true rfl) ?_
  refine g_fits (fun _ hlt hz0 => ?_)
  have ha : a + 1 < h_z σ := hlt _ (by omega)
  refine r_new (kc := 1) (ks := xs.length) rfl (fun _ => ?_) |> G.less (by omega) (by show xs.length + 2 ≤ _; omega)
  have kn : h_K (n_O σ 4) (h_z σ) = 4 := u1_s _ _ _
  have ka : h_K (n_O σ 4) a = 4 := (u1_n _ _ (by omega)).trans k1
  have ia : h_I (n_O σ 4) 193 a = nI xs.length := (if_neg (by omega)).trans i1
  refine r_dup rfl (by first | rfl | exact rf_cat _) ?_
  refine r_aload_n rfl rfl ?_
  (first | refine r_getIv rfl (by first | assumption | rfl) rfl (by assumption) ?_ | refine r_getI rfl (by first | assumption | rfl) rfl ?_)
  refine r_callI (As := [_]) rfl (by decide) rfl rfl rfl (Nat.le_of_ble_eq_true rfl) ⟨Nat.le_of_ble_eq_true rfl, Nat.le_of_ble_eq_true rfl⟩ (c_Line_init kn (by omega)) (kc' := 0) (ks' := 0) (by omega) (by omega) ?_
  rintro r τ ⟨rfl, rfl, hz1⟩
  have ez : h_z (n_O σ 4) = h_z σ + 1 := rfl
  have hn : Ln (w_P (n_A (n_O σ 4) 20 xs.length) 192 (h_z σ) (some (h_z (n_O σ 4)))) (h_z σ) xs.length [] := by
    refine ⟨?_, ?_, ?_, ?_, ?_, by simp, by omega, fun i hi => by simp at hi⟩
    · show u_1 (u_1 (h_K σ) (h_z σ) 4) (h_z σ + 1) 20 (h_z σ) = 4
      rw [u1_n _ _ (by omega), u1_s]
    · exact u2_s _ _ _ _
    · show (if h_z σ = h_z σ then 0 else _) = _
      rw [if_pos rfl]
      rfl
    · exact u1_s _ _ _
    · exact u1_s _ _ _
  have hnf : NF σ (w_P (n_A (n_O σ 4) 20 xs.length) 192 (h_z σ) (some (h_z (n_O σ 4)))) 2 := by
    refine ⟨rfl, fun q hq => ⟨?_, fun f => ?_, fun f => ?_, ?_, ?_, ?_⟩⟩
    · show u_1 (u_1 (h_K σ) (h_z σ) 4) (h_z σ + 1) 20 q = _
      rw [u1_n _ _ (by omega), u1_n _ _ (by omega)]
    · show (if q = h_z σ then 0 else _) = _
      rw [if_neg (by omega)]
    · show u_2 (fun f a => if a = h_z σ then none else h_P σ f a) 192 (h_z σ) _ f q = _
      rw [u2_n2 _ _ (by omega), if_neg (by omega)]
    · show u_1 (h_L σ) (h_z σ + 1) _ q = _
      rw [u1_n _ _ (by omega)]
    · show u_1 (h_X σ) (h_z σ + 1) _ q = _
      rw [u1_n _ _ (by omega)]
    · show u_1 (h_Y σ) (h_z σ + 1) _ q = _
      rw [u1_n _ _ (by omega)]
  generalize w_P (n_A (n_O σ 4) 20 xs.length) 192 (h_z σ) (some (h_z (n_O σ 4))) = ρ at hn hnf
  have g : Ln ρ a cap xs := by
    obtain ⟨q1, q2, q3, q4, q5, q6⟩ := hnf.2 a (by omega)
    obtain ⟨r1, r2, r3, r4, r5, r6⟩ := hnf.2 (a + 1) (by omega)
    exact ⟨q1.trans k1, (q3 192).trans p1, (q2 193).trans i1, r1.trans k2, r4.trans l1, hle, hcap, fun i hi => by rw [r5]; exact hx i hi⟩
  refine r_astore_n rfl (by decide) ?_
  refine r_aload_n rfl rfl ?_
  refine r_aload_n rfl rfl ?_
  refine r_callV (As := [_]) rfl (by decide) rfl hn.1 rfl rfl (Nat.le_of_ble_eq_true rfl) ⟨Nat.le_of_ble_eq_true rfl, Nat.le_of_ble_eq_true rfl⟩ (c_putLine hn g (by simp)) (kc' := 0) (ks' := 0) (by omega) (by omega) (by decide) ?_
  rintro r τ ⟨rfl, g1, f1⟩
  refine r_aload_n rfl rfl ?_
  exact r_aret rfl rfl ⟨rfl, by simpa using g1, hnf.LF (by omega) f1⟩
end LC
end
section
/-! ===== the reference: its cells ===== -/
def mFL : List Nat := [704, 706, 707, 708, 709, 710, 712, 713, 714, 715, 717, 718, 719, 720, 722, 723, 725, 726, 727, 728, 729, 730, 731, 732, 734, 735, 736, 737, 738, 739, 740, 743, 745, 746, 747, 750, 751, 752, 753, 754]
def mTL : List Nat := [20, 20, 21, 21, 21, 21, 21, 21, 21, 21, 21, 21, 21, 21, 21, 21, 21, 21, 20, 21, 20, 21, 20, 21, 21, 21, 21, 21, 21, 21, 20, 22, 20, 21, 21, 21, 21, 21, 21, 21]
def mNL : List Nat := [600, 60, 6, 6, 6, 6, 120, 120, 120, 120, 200, 200, 200, 200, 120, 120, 120, 120, 7200, 120, 7200, 120, 7200, 120, 100, 100, 100, 100, 100, 1200, 2000, 120, 57600, 960, 960, 40, 40, 40, 40, 40]
def mF (j : Nat) : Nat := mFL.getD j 0
def mT (j : Nat) : Nat := mTL.getD j 0
def mN (j : Nat) : Nat := mNL.getD j 0
/-- the reference's object stands at o, its forty rows behind it -/
def ML (σ : Hp) (o : Nat) : Prop := h_K σ o = 12 ∧ ∀ j, j < 40 → h_P σ (mF j) o = some (o + 1 + j) ∧ h_K σ (o + 1 + j) = mT j ∧ h_L σ (o + 1 + j) = mN j
theorem mN_lt : ∀ j, mN j < 2 ^ 31 := by
  intro j
  unfold mN
  by_cases h : j < 40
  · have : ∀ j, j < 40 → mNL.getD j 0 < 2 ^ 31 := by decide
    exact this j h
  · rw [List.getD_eq_getElem?_getD, List.getElem?_eq_none (by show mNL.length ≤ j; exact Nat.le_of_not_lt h)]
    decide
section MR
variable {l : Launch} {D : DD} {R : Room} {Z : List Frame → Array Value → State → State → Prop} {y pc n x kc ks : Nat} {ls : List (Option Value)} {st : List Value} {σ : Hp}
theorem r_mg {k f o j : Nat} (hM : ML σ o) (hf : ft y pc = some (.getfield k, n, f)) (hj : mF j = f) (hj2 : j < 40 ∧ f / 64 + 1 = 12 ∧ fPrim (fTy (f / 64) (f % 64)) = false) (kk : G l D R Z y n ls (va_rf (some (o + 1 + j)) :: st) σ kc ks) : G l D R Z y pc ls (va_rf (some o) :: st) σ kc ks := by
  refine r_getP hf (by rw [hj2.2.1]; exact hM.1) hj2.2.2 ?_
  rw [← hj, (hM.2 j hj2.1).1]
  exact kk
theorem r_mi {o j q : Nat} {i : Int32} (hM : ML σ o) (hf : ft y pc = some (.iaload, n, x)) (hT : mT j = 21) (hj : j < 40) (hi : i = nI q) (hq : q < mN j) (kk : G l D R Z y n ls (.int (h_X σ (o + 1 + j) q) :: st) σ kc ks) : G l D R Z y pc ls (.int i :: va_rf (some (o + 1 + j)) :: st) σ kc ks := by
  obtain ⟨h1, h2, h3⟩ := hM.2 j hj
  exact r_iald hf (h2.trans hT) hi (by rw [h3]; exact hq) (by rw [h3]; exact mN_lt j) kk
theorem r_mb {o j q : Nat} {i : Int32} (hM : ML σ o) (hf : ft y pc = some (.baload, n, x)) (hT : mT j = 20) (hj : j < 40) (hi : i = nI q) (hq : q < mN j) (kk : G l D R Z y n ls (.int (h_X σ (o + 1 + j) q) :: st) σ kc ks) : G l D R Z y pc ls (.int i :: va_rf (some (o + 1 + j)) :: st) σ kc ks := by
  obtain ⟨h1, h2, h3⟩ := hM.2 j hj
  exact r_bald hf (h2.trans hT) hi (by rw [h3]; exact hq) (by rw [h3]; exact mN_lt j) kk
theorem r_mz {o j q : Nat} {i : Int32} (hM : ML σ o) (hf : ft y pc = some (.baload, n, x)) (hT : mT j = 22) (hj : j < 40) (hi : i = nI q) (hq : q < mN j) (kk : G l D R Z y n ls (.int (h_X σ (o + 1 + j) q) :: st) σ kc ks) : G l D R Z y pc ls (.int i :: va_rf (some (o + 1 + j)) :: st) σ kc ks := by
  obtain ⟨h1, h2, h3⟩ := hM.2 j hj
  exact r_zald hf (h2.trans hT) hi (by rw [h3]; exact hq) (by rw [h3]; exact mN_lt j) kk
theorem r_mis {o j q : Nat} {i v : Int32} (hM : ML σ o) (hf : ft y pc = some (.iastore, n, x)) (hT : mT j = 21) (hj : j < 40) (hi : i = nI q) (hq : q < mN j) (kk : G l D R Z y n ls st (w_X σ (o + 1 + j) (upd (h_X σ (o + 1 + j)) q v)) kc ks) : G l D R Z y pc ls (.int v :: .int i :: va_rf (some (o + 1 + j)) :: st) σ kc ks := by
  obtain ⟨h1, h2, h3⟩ := hM.2 j hj
  exact r_iast hf (h2.trans hT) hi (by rw [h3]; exact hq) (by rw [h3]; exact mN_lt j) kk
theorem r_mbs {o j q : Nat} {i v : Int32} (hM : ML σ o) (hf : ft y pc = some (.bastore, n, x)) (hT : mT j = 20) (hj : j < 40) (hi : i = nI q) (hq : q < mN j) (hv : narrow .byte (.int v) = .int v) (hv2 : fits .byte (.int v) = true) (kk : G l D R Z y n ls st (w_X σ (o + 1 + j) (upd (h_X σ (o + 1 + j)) q v)) kc ks) : G l D R Z y pc ls (.int v :: .int i :: va_rf (some (o + 1 + j)) :: st) σ kc ks := by
  obtain ⟨h1, h2, h3⟩ := hM.2 j hj
  exact r_bast hf (h2.trans hT) hi (by rw [h3]; exact hq) (by rw [h3]; exact mN_lt j) hv hv2 kk
theorem r_mzs {o j q : Nat} {i v : Int32} (hM : ML σ o) (hf : ft y pc = some (.bastore, n, x)) (hT : mT j = 22) (hj : j < 40) (hi : i = nI q) (hq : q < mN j) (hv : narrow .boolean (.int v) = .int v) (kk : G l D R Z y n ls st (w_X σ (o + 1 + j) (upd (h_X σ (o + 1 + j)) q v)) kc ks) : G l D R Z y pc ls (.int v :: .int i :: va_rf (some (o + 1 + j)) :: st) σ kc ks := by
  obtain ⟨h1, h2, h3⟩ := hM.2 j hj
  exact r_zast hf (h2.trans hT) hi (by rw [h3]; exact hq) (by rw [h3]; exact mN_lt j) hv kk
end MR
/-! writes of rows, in a settled form -/
theorem wX_same (σ : Hp) (a : Nat) (g h : Nat → Int32) : w_X (w_X σ a g) a h = w_X σ a h := by
  unfold w_X
  simp only [h_z, h_K, h_I, h_P, h_L, h_X, h_Y]
  congr 6
  funext b
  unfold u_1
  by_cases e : b = a
  · rw [if_pos e, if_pos e]
  · rw [if_neg e, if_neg e, if_neg e]
theorem wX_self (σ : Hp) (a : Nat) : w_X σ a (h_X σ a) = σ := by
  unfold w_X
  have : u_1 (h_X σ) a (h_X σ a) = h_X σ := by
    funext b
    unfold u_1
    by_cases e : b = a
    · rw [if_pos e, e]
    · rw [if_neg e]
  rw [this]
  rfl
theorem wX_comm (σ : Hp) {a b : Nat} (g h : Nat → Int32) (hab : a ≠ b) : w_X (w_X σ a g) b h = w_X (w_X σ b h) a g := by
  unfold w_X
  simp only [h_z, h_K, h_I, h_P, h_L, h_X, h_Y]
  congr 6
  funext c
  unfold u_1
  by_cases e : c = b
  · rw [if_pos e, if_neg (by omega), if_pos e]
  · rw [if_neg e]
    by_cases e2 : c = a
    · rw [if_pos e2, if_pos e2]
    · rw [if_neg e2, if_neg e2, if_neg e]
theorem hX_w (σ : Hp) (a : Nat) (g : Nat → Int32) : h_X (w_X σ a g) a = g := u1_s _ _ _
theorem hX_n (σ : Hp) {a b : Nat} (g : Nat → Int32) (h : b ≠ a) : h_X (w_X σ a g) b = h_X σ b := u1_n _ _ h
theorem hX_wI (σ : Hp) (f a : Nat) (v : Int32) : h_X (w_I σ f a v) = h_X σ := rfl
theorem hI_wX (σ : Hp) (a : Nat) (g : Nat → Int32) : h_I (w_X σ a g) = h_I σ := rfl
theorem hI_w (σ : Hp) (f a : Nat) (v : Int32) : h_I (w_I σ f a v) f a = v := u2_s _ _ _ _
theorem hI_n (σ : Hp) {f g a b : Nat} (v : Int32) (h : g ≠ f) : h_I (w_I σ f a v) g b = h_I σ g b := u2_n1 _ _ h
theorem wI_wX (σ : Hp) (f a b : Nat) (v : Int32) (g : Nat → Int32) : w_I (w_X σ b g) f a v = w_X (w_I σ f a v) b g := rfl
theorem wI_same (σ : Hp) (f a : Nat) (v w : Int32) : w_I (w_I σ f a v) f a w = w_I σ f a w := by
  unfold w_I
  simp only [h_z, h_K, h_I, h_P, h_L, h_X, h_Y]
  congr 2
  congr 1
  funext g b
  unfold u_2
  by_cases e : g = f ∧ b = a
  · rw [if_pos e, if_pos e]
  · rw [if_neg e, if_neg e, if_neg e]
theorem upd_s (f : Nat → Int32) (k : Nat) (v : Int32) : upd f k v k = v := pk_us
theorem upd_n (f : Nat → Int32) {k j : Nat} (v : Int32) (h : j ≠ k) : upd f k v j = f j := pk_un h
def inB (v lo hi : Int32) : Bool := decide (lo ≤ v) && decide (v ≤ hi)
/-- how many below n -/
def cntB (p : Nat → Bool) : Nat → Nat
  | 0 => 0
  | n + 1 => cntB p n + (p n).toNat
theorem cntB_le (p : Nat → Bool) (n : Nat) : cntB p n ≤ n := by
  induction n with
  | zero => exact Nat.le_refl _
  | succ n ih =>
    unfold cntB
    have : (p n).toNat ≤ 1 := Bool.toNat_le _
    omega
theorem cntB_f {p : Nat → Bool} {i : Nat} (h : p i = false) : cntB p (i + 1) = cntB p i + 0 := by rw [cntB, h]; rfl
theorem cntB_t {p : Nat → Bool} {i : Nat} (h : p i = true) : cntB p (i + 1) = cntB p i + 1 := by rw [cntB, h]; rfl
section MC
variable {l : Launch} {D : DD} {σ : Hp} {o : Nat}
theorem c_M_in {v lo hi : Int32} : Cn l D m_M_in 0 0 [.int v, .int lo, .int hi] σ (fun r τ => r = some (.int (nI (inB v lo hi).toNat)) ∧ τ = σ) := by
  refine Cn.of (by decide) (by repeat (first | exact ca_0 | refine ca_i ?_ | refine ca_r ?_)) (Nat.le_of_ble_eq_true rfl) ?_
  have no : inB v lo hi = false → Gm l D m_M_in 0 0 (fun r τ => r = some (.int (nI (inB v lo hi).toNat)) ∧ τ = σ) 14 (en_L [.int v, .int lo, .int hi] 3) [] σ 0 0 := by
    intro h
    refine r_iconst (v := nI 0) rfl (by decide) ?_
    exact r_zret rfl rfl (by decide) ⟨by rw [h]; rfl, rfl⟩
  refine r_iload_n rfl rfl ?_
  refine r_iload_n rfl rfl ?_
  refine r_icmp_lt rfl (fun q => no ?_) (fun q => ?_)
  · unfold inB
    rw [decide_eq_false (Int32.not_le.mpr q)]
    rfl
  refine r_iload_n rfl rfl ?_
  refine r_iload_n rfl rfl ?_
  refine r_icmp_gt rfl (fun q2 => no ?_) (fun q2 => ?_)
  · unfold inB
    rw [decide_eq_false (p := v ≤ hi) (Int32.not_le.mpr q2), Bool.and_false]
  refine r_iconst (v := nI 1) rfl (by decide) ?_
  refine r_goto rfl ?_
  refine r_zret rfl rfl (by decide) ⟨?_, rfl⟩
  unfold inB
  rw [decide_eq_true (Int32.not_lt.mp q), decide_eq_true (Int32.not_lt.mp q2)]
  rfl
theorem c_M_isKind {v : Int32} : Cn l D m_M_isKind 0 0 [.int v] σ (fun r τ => r = some (.int (nI (inB v 0 5).toNat)) ∧ τ = σ) := by
  refine Cn.of (by decide) (by repeat (first | exact ca_0 | refine ca_i ?_ | refine ca_r ?_)) (Nat.le_of_ble_eq_true rfl) ?_
  refine r_iload_n rfl rfl ?_
  refine r_iconst (v := nI 0) rfl (by decide) ?_
  refine r_iconst (v := nI 5) rfl (by decide) ?_
  refine r_callS (As := [_, _, _]) rfl (by decide) rfl rfl rfl (Nat.le_of_ble_eq_true rfl) ⟨Nat.le_of_ble_eq_true rfl, Nat.le_of_ble_eq_true rfl⟩ c_M_in (kc' := 0) (ks' := 0) (by omega) (by omega) ?_
  rintro r τ ⟨rfl, rfl⟩
  exact r_zret rfl rfl (nar_B _) ⟨rfl, rfl⟩
theorem c_M_end {v : Int32} {t : Nat} (hM : ML σ o) (ht : h_I σ 705 o = nI t) : Cn l D m_M_end 0 0 [va_rf (some o), .int v] σ (fun r τ => (v < 0 ∨ nI t < v) ∧ r = some (.int (-1)) ∧ τ = σ ∨ (¬ v < 0 ∧ v ≤ nI t) ∧ r = some (.int v) ∧ τ = w_I σ 705 o v) := by
  refine Cn.of (by decide) (by repeat (first | exact ca_0 | refine ca_i ?_ | refine ca_r ?_)) (Nat.le_of_ble_eq_true rfl) ?_
  refine r_iload_n rfl rfl ?_
  refine r_if_lt rfl (fun q => ?_) (fun q => ?_)
  · refine r_iconst (v := -1) rfl (by decide) ?_
    exact r_iret rfl rfl (Or.inl ⟨Or.inl q, rfl, rfl⟩)
  refine r_iload_n rfl rfl ?_
  refine r_aload_n rfl rfl ?_
  (first | refine r_getIv rfl hM.1 rfl (by assumption) ?_ | refine r_getI rfl hM.1 rfl ?_)
  refine r_icmp_le rfl (fun q2 => ?_) (fun q2 => ?_)
  · refine r_aload_n rfl rfl ?_
    refine r_iload_n rfl rfl ?_
    refine r_putI rfl hM.1 rfl (Or.inl rfl) (by first | rfl | decide) (by first | rfl | decide) ?_
    refine r_iload_n rfl rfl ?_
    exact r_iret rfl rfl (Or.inr ⟨⟨q, q2⟩, rfl, rfl⟩)
  · refine r_iconst (v := -1) rfl (by decide) ?_
    exact r_iret rfl rfl (Or.inl ⟨Or.inr (Int32.not_le.mp q2), rfl, rfl⟩)
/-- is a thing there? -/
def isTh (n : Nat) (on : Nat → Int32) (v : Int32) : Bool := decide (0 ≤ v) && decide (v < nI n) && decide (on v.toNatClampNeg ≠ -9)
theorem isTh_nI {n q : Nat} {on : Nat → Int32} (hn : n ≤ 120) : isTh n on (nI q) = (decide (nI q < nI n) && decide (0 ≤ nI q) && decide (on (nI q).toNatClampNeg ≠ -9)) := by
  unfold isTh
  rw [Bool.and_comm (decide (0 ≤ nI q))]
theorem inB_n {v : Int32} {n : Nat} (hn : n ≤ 120) : inB v 0 (nI n - nI 1) = (decide (0 ≤ v) && decide (v < nI n)) := by
  unfold inB
  congr 1
  rw [Bool.eq_iff_iff, decide_eq_true_iff, decide_eq_true_iff]
  have h1 : (nI n).toInt = (n : Int) := nI_toInt (by omega)
  have h2 : (nI n - nI 1).toInt = (n : Int) - 1 := pk_sub_toInt (by omega) (by omega)
  rw [Int32.le_iff_toInt_le, Int32.lt_iff_toInt_lt, h1, h2]
  omega
theorem c_M_isThere {v : Int32} {n : Nat} (hM : ML σ o) (hn : h_I σ 711 o = nI n) (hn2 : n ≤ 120) : Cn l D m_M_isThere 0 0 [va_rf (some o), .int v] σ (fun r τ => r = some (.int (nI (isTh n (h_X σ (o + 1 + 7)) v).toNat)) ∧ τ = σ) := by
  refine Cn.of (by decide) (by repeat (first | exact ca_0 | refine ca_i ?_ | refine ca_r ?_)) (Nat.le_of_ble_eq_true rfl) ?_
  have no : isTh n (h_X σ (o + 1 + 7)) v = false → Gm l D m_M_isThere 0 0 (fun r τ => r = some (.int (nI (isTh n (h_X σ (o + 1 + 7)) v).toNat)) ∧ τ = σ) 29 (en_L [va_rf (some o), .int v] 2) [] σ 0 0 := by
    intro h
    refine r_iconst (v := nI 0) rfl (by decide) ?_
    exact r_zret rfl rfl (by decide) ⟨by rw [h]; rfl, rfl⟩
  refine r_iload_n rfl rfl ?_
  refine r_iconst (v := nI 0) rfl (by decide) ?_
  refine r_aload_n rfl rfl ?_
  (first | refine r_getIv rfl hM.1 rfl (by assumption) ?_ | refine r_getI rfl hM.1 rfl ?_)
  refine r_iconst (v := nI 1) rfl (by decide) ?_
  refine r_isub rfl ?_
  refine r_callS (As := [_, _, _]) rfl (by decide) rfl rfl rfl (Nat.le_of_ble_eq_true rfl) ⟨Nat.le_of_ble_eq_true rfl, Nat.le_of_ble_eq_true rfl⟩ c_M_in (kc' := 0) (ks' := 0) (by omega) (by omega) ?_
  rintro r τ ⟨rfl, rfl⟩
  rw [show nI 0 = 0 from rfl, inB_n hn2]
  refine r_ifeqB rfl (fun q => no ?_) (fun q => ?_)
  · unfold isTh
    rw [q]
    rfl
  obtain ⟨q1, q2⟩ := okn q
  have q1 := of_decide_eq_true q1
  have q2 := of_decide_eq_true q2
  obtain ⟨j, hj, rfl⟩ := nI_of (Int32.not_lt.mpr q1)
  have hj2 : j < n := (nI_ltI hj (by omega)).mp q2
  have ec : (nI j).toNatClampNeg = j := nI_clamp hj
  refine r_aload_n rfl rfl ?_
  refine r_mg (j := 7) hM rfl rfl (by decide) ?_
  refine r_iload_n rfl rfl ?_
  refine r_mi (j := 7) hM rfl rfl (by decide) (by first | rfl | assumption) (show _ < 120 by omega) ?_
  refine r_bipush (v := -9) rfl (by decide) ?_
  refine r_icmp_eq rfl (fun q3 => no ?_) (fun q3 => ?_)
  · unfold isTh
    rw [ec, q3]
    simp
  · refine r_iconst (v := nI 1) rfl (by decide) ?_
    refine r_goto rfl ?_
    refine r_zret rfl rfl (by decide) ⟨?_, rfl⟩
    unfold isTh
    rw [q, ec, decide_eq_true (p := _ ≠ _) q3]
    rfl
theorem c_M_hanging {v : Int32} {n : Nat} (hM : ML σ o) (hn : h_I σ 711 o = nI n) (hn2 : n ≤ 120) : Cn l D m_M_hanging 0 0 [va_rf (some o), .int v] σ (fun r τ => r = some (.int (nI (cntB (fun x => decide (h_X σ (o + 1 + 7) x = v)) n))) ∧ τ = σ) := by
  refine Cn.of (by decide) (by repeat (first | exact ca_0 | refine ca_i ?_ | refine ca_r ?_)) (Nat.le_of_ble_eq_true rfl) ?_
  refine r_iconst (v := nI 0) rfl (by decide) ?_
  refine r_istore_n rfl (by decide) ?_
  refine r_iconst (v := nI 0) rfl (by decide) ?_
  refine r_istore_n rfl (by decide) ?_
  have loop : ∀ (d i : Nat), i + d = n → Gm l D m_M_hanging 0 0 (fun r τ => r = some (.int (nI (cntB (fun x => decide (h_X σ (o + 1 + 7) x = v)) n))) ∧ τ = σ) 4 [some (va_rf (some o)), some (.int v), some (.int (nI (cntB (fun x => decide (h_X σ (o + 1 + 7) x = v)) i))), some (.int (nI i))] [] σ 0 0 := by
    intro d
    induction d with
    | zero =>
      intro i hi
      refine r_iload_n rfl rfl ?_
      refine r_aload_n rfl rfl ?_
      (first | refine r_getIv rfl hM.1 rfl (by assumption) ?_ | refine r_getI rfl hM.1 rfl ?_)
      refine r_geN rfl (by omega) (by omega) (fun _ => ?_) (fun q => by omega)
      refine r_iload_n rfl rfl ?_
      refine r_iret rfl rfl ⟨by rw [show i = n by omega], rfl⟩
    | succ d ih =>
      intro i hi
      refine r_iload_n rfl rfl ?_
      refine r_aload_n rfl rfl ?_
      (first | refine r_getIv rfl hM.1 rfl (by assumption) ?_ | refine r_getI rfl hM.1 rfl ?_)
      refine r_geN rfl (by omega) (by omega) (fun q => by omega) (fun _ => ?_)
      refine r_iload_n rfl rfl ?_
      refine r_aload_n rfl rfl ?_
      refine r_mg (j := 7) hM rfl rfl (by decide) ?_
      refine r_iload_n rfl rfl ?_
      refine r_mi (j := 7) hM rfl rfl (by decide) (by first | rfl | assumption) (show _ < 120 by omega) ?_
      refine r_iload_n rfl rfl ?_
      refine r_icmp_ne rfl (fun q => ?_) (fun q => ?_)
      · refine r_iconst (v := nI 0) rfl (by decide) ?_
        (first | refine r_iaddN rfl ?_ | refine r_iadd rfl ?_)
        refine r_istore_n rfl (by decide) ?_
        refine r_iinc rfl rfl (nI_inc _) ?_
        refine r_goto rfl ?_
        have e := ih (i + 1) (by omega)
        rw [cntB_f (i := i) (decide_eq_false q)] at e
        exact e
      · refine r_iconst (v := nI 1) rfl (by decide) ?_
        refine r_goto rfl ?_
        (first | refine r_iaddN rfl ?_ | refine r_iadd rfl ?_)
        refine r_istore_n rfl (by decide) ?_
        refine r_iinc rfl rfl (nI_inc _) ?_
        refine r_goto rfl ?_
        have e := ih (i + 1) (by omega)
        rw [cntB_t (i := i) (decide_eq_true q)] at e
        exact e
  exact loop n 0 (by omega)
end MC
end
section
/-! ===== the reference: the tree's methods ===== -/
def plUp (on pl : Nat → Int32) (v i : Int32) (k : Nat) : Nat → Int32 := fun y => if y < k ∧ on y = v ∧ i ≤ pl y then pl y + nI 1 else pl y
def plDn (on pl : Nat → Int32) (x k : Nat) : Nat → Int32 := fun y => if y < k ∧ on y = on x ∧ pl x < pl y then pl y - nI 1 else pl y
theorem plUp_0 (on pl : Nat → Int32) (v i : Int32) : plUp on pl v i 0 = pl := by
  funext y
  unfold plUp
  rw [if_neg (by omega)]
theorem plDn_0 (on pl : Nat → Int32) (x : Nat) : plDn on pl x 0 = pl := by
  funext y
  unfold plDn
  rw [if_neg (by omega)]
theorem plUp_n {on pl : Nat → Int32} {v i : Int32} {k : Nat} (h : ¬ (on k = v ∧ i ≤ pl k)) : plUp on pl v i (k + 1) = plUp on pl v i k := by
  funext y
  unfold plUp
  by_cases e : y = k
  · subst e
    rw [if_neg (fun q => h q.2), if_neg (fun q => h q.2)]
  · have : (y < k + 1 ∧ on y = v ∧ i ≤ pl y) ↔ (y < k ∧ on y = v ∧ i ≤ pl y) := ⟨fun q => ⟨by omega, q.2⟩, fun q => ⟨by omega, q.2⟩⟩
    simp only [this]
theorem plUp_y {on pl : Nat → Int32} {v i : Int32} {k : Nat} (h : on k = v ∧ i ≤ pl k) : plUp on pl v i (k + 1) = upd (plUp on pl v i k) k (pl k + nI 1) := by
  funext y
  unfold upd
  by_cases e : y = k
  · subst e
    rw [if_pos rfl]
    unfold plUp
    rw [if_pos ⟨by omega, h⟩]
  · rw [if_neg e]
    unfold plUp
    have : (y < k + 1 ∧ on y = v ∧ i ≤ pl y) ↔ (y < k ∧ on y = v ∧ i ≤ pl y) := ⟨fun q => ⟨by omega, q.2⟩, fun q => ⟨by omega, q.2⟩⟩
    simp only [this]
theorem plUp_k (on pl : Nat → Int32) (v i : Int32) (k : Nat) : plUp on pl v i k k = pl k := by
  unfold plUp
  rw [if_neg (by omega)]
theorem plDn_n {on pl : Nat → Int32} {x k : Nat} (h : ¬ (on k = on x ∧ pl x < pl k)) : plDn on pl x (k + 1) = plDn on pl x k := by
  funext y
  unfold plDn
  by_cases e : y = k
  · subst e
    rw [if_neg (fun q => h q.2), if_neg (fun q => h q.2)]
  · have : (y < k + 1 ∧ on y = on x ∧ pl x < pl y) ↔ (y < k ∧ on y = on x ∧ pl x < pl y) := ⟨fun q => ⟨by omega, q.2⟩, fun q => ⟨by omega, q.2⟩⟩
    simp only [this]
theorem plDn_y {on pl : Nat → Int32} {x k : Nat} (h : on k = on x ∧ pl x < pl k) : plDn on pl x (k + 1) = upd (plDn on pl x k) k (pl k - nI 1) := by
  funext y
  unfold upd
  by_cases e : y = k
  · subst e
    rw [if_pos rfl]
    unfold plDn
    rw [if_pos ⟨by omega, h⟩]
  · rw [if_neg e]
    unfold plDn
    have : (y < k + 1 ∧ on y = on x ∧ pl x < pl y) ↔ (y < k ∧ on y = on x ∧ pl x < pl y) := ⟨fun q => ⟨by omega, q.2⟩, fun q => ⟨by omega, q.2⟩⟩
    simp only [this]
theorem plDn_k (on pl : Nat → Int32) (x k : Nat) : plDn on pl x k k = pl k := by
  unfold plDn
  rw [if_neg (by omega)]
theorem plDn_x (on pl : Nat → Int32) (x k : Nat) : plDn on pl x k x = pl x := by
  unfold plDn
  rw [if_neg (fun q => Int32.lt_irrefl q.2.2)]
section MC
variable {l : Launch} {D : DD} {σ : Hp} {o : Nat}
theorem c_M_putIn {v i : Int32} {n x : Nat} (hM : ML σ o) (hn : h_I σ 711 o = nI n) (hn2 : n ≤ 120) (hx : x < 120) : Cn l D m_M_putIn 0 0 [va_rf (some o), .int (nI x), .int v, .int i] σ (fun r τ => r = none ∧ τ = w_X (w_X σ (o + 1 + 7) (upd (h_X σ (o + 1 + 7)) x v)) (o + 1 + 8) (upd (plUp (h_X σ (o + 1 + 7)) (h_X σ (o + 1 + 8)) v i n) x i)) := by
  refine Cn.of (by decide) (by repeat (first | exact ca_0 | refine ca_i ?_ | refine ca_r ?_)) (Nat.le_of_ble_eq_true rfl) ?_
  refine r_iconst (v := nI 0) rfl (by decide) ?_
  refine r_istore rfl (by decide) ?_
  generalize hon : h_X σ (o + 1 + 7) = on
  generalize hpl : h_X σ (o + 1 + 8) = pl
  have loop : ∀ (d k : Nat), k + d = n → Gm l D m_M_putIn 0 0 (fun r τ => r = none ∧ τ = w_X (w_X σ (o + 1 + 7) (upd on x v)) (o + 1 + 8) (upd (plUp on pl v i n) x i)) 3 [some (va_rf (some o)), some (.int (nI x)), some (.int v), some (.int i), some (.int (nI k))] [] (w_X σ (o + 1 + 8) (plUp on pl v i k)) 0 0 := by
    intro d
    induction d with
    | zero =>
      intro k hk
      refine r_iload rfl rfl ?_
      refine r_aload_n rfl rfl ?_
      (first | refine r_getIv rfl hM.1 rfl (by assumption) ?_ | refine r_getI rfl hM.1 rfl ?_)
      refine r_geN rfl (by omega) (by omega) (fun _ => ?_) (fun q => by omega)
      refine r_aload_n rfl rfl ?_
      refine r_mg (j := 7) hM rfl rfl (by decide) ?_
      refine r_iload_n rfl rfl ?_
      refine r_iload_n rfl rfl ?_
      refine r_mis (j := 7) hM rfl rfl (by decide) (by first | rfl | assumption) (show _ < 120 by omega) ?_
      refine r_aload_n rfl rfl ?_
      refine r_mg (j := 8) hM rfl rfl (by decide) ?_
      refine r_iload_n rfl rfl ?_
      refine r_iload_n rfl rfl ?_
      refine r_mis (j := 8) hM rfl rfl (by decide) (by first | rfl | assumption) (show _ < 120 by omega) ?_
      refine r_vret rfl rfl ⟨rfl, ?_⟩
      rw [show k = n by omega, hX_n σ _ (show o + 1 + 7 ≠ o + 1 + 8 by omega), hon, hX_n _ _ (show o + 1 + 8 ≠ o + 1 + 7 by omega), hX_w, wX_comm _ _ _ (by omega), wX_same, wX_comm σ _ _ (show o + 1 + 8 ≠ o + 1 + 7 by omega)]
    | succ d ih =>
      intro k hk
      refine r_iload rfl rfl ?_
      refine r_aload_n rfl rfl ?_
      (first | refine r_getIv rfl hM.1 rfl (by assumption) ?_ | refine r_getI rfl hM.1 rfl ?_)
      refine r_geN rfl (by omega) (by omega) (fun q => by omega) (fun _ => ?_)
      refine r_aload_n rfl rfl ?_
      refine r_mg (j := 7) hM rfl rfl (by decide) ?_
      refine r_iload rfl rfl ?_
      refine r_mi (j := 7) hM rfl rfl (by decide) (by first | rfl | assumption) (show _ < 120 by omega) ?_
      refine r_iload_n rfl rfl ?_
      rw [hX_n _ _ (by omega), hon]
      refine r_icmp_ne rfl (fun q => ?_) (fun q => ?_)
      · refine r_iinc rfl rfl (nI_inc _) ?_
        refine r_goto rfl ?_
        have e := ih (k + 1) (by omega)
        rw [plUp_n (fun w => q w.1)] at e
        exact e
      · refine r_aload_n rfl rfl ?_
        refine r_mg (j := 8) hM rfl rfl (by decide) ?_
        refine r_iload rfl rfl ?_
        refine r_mi (j := 8) hM rfl rfl (by decide) (by first | rfl | assumption) (show _ < 120 by omega) ?_
        refine r_iload_n rfl rfl ?_
        rw [hX_w, plUp_k]
        refine r_icmp_lt rfl (fun q2 => ?_) (fun q2 => ?_)
        · refine r_iinc rfl rfl (nI_inc _) ?_
          refine r_goto rfl ?_
          have e := ih (k + 1) (by omega)
          rw [plUp_n (fun w => absurd w.2 (Int32.not_le.mpr q2))] at e
          exact e
        · refine r_aload_n rfl rfl ?_
          refine r_mg (j := 8) hM rfl rfl (by decide) ?_
          refine r_iload rfl rfl ?_
          refine r_dup2 rfl (by first | rfl | exact rf_cat _) (by first | rfl | exact rf_cat _) ?_
          refine r_mi (j := 8) hM rfl rfl (by decide) (by first | rfl | assumption) (show _ < 120 by omega) ?_
          refine r_iconst (v := nI 1) rfl (by decide) ?_
          (first | refine r_iaddN rfl ?_ | refine r_iadd rfl ?_)
          refine r_mis (j := 8) hM rfl rfl (by decide) (by first | rfl | assumption) (show _ < 120 by omega) ?_
          refine r_iinc rfl rfl (nI_inc _) ?_
          refine r_goto rfl ?_
          have e := ih (k + 1) (by omega)
          rw [plUp_y ⟨q, Int32.not_lt.mp q2⟩] at e
          rw [wX_same, hX_w, plUp_k]
          exact e
  have e := loop n 0 (by omega)
  rw [plUp_0, ← hpl, wX_self] at e
  rw [← hpl]
  exact e
theorem c_M_takeOut {n x : Nat} (hM : ML σ o) (hn : h_I σ 711 o = nI n) (hn2 : n ≤ 120) (hx : x < 120) : Cn l D m_M_takeOut 0 0 [va_rf (some o), .int (nI x)] σ (fun r τ => r = none ∧ τ = w_X (w_X σ (o + 1 + 7) (upd (h_X σ (o + 1 + 7)) x (-9))) (o + 1 + 8) (plDn (h_X σ (o + 1 + 7)) (h_X σ (o + 1 + 8)) x n)) := by
  refine Cn.of (by decide) (by repeat (first | exact ca_0 | refine ca_i ?_ | refine ca_r ?_)) (Nat.le_of_ble_eq_true rfl) ?_
  refine r_iconst (v := nI 0) rfl (by decide) ?_
  refine r_istore_n rfl (by decide) ?_
  generalize hon : h_X σ (o + 1 + 7) = on
  generalize hpl : h_X σ (o + 1 + 8) = pl
  have loop : ∀ (d k : Nat), k + d = n → Gm l D m_M_takeOut 0 0 (fun r τ => r = none ∧ τ = w_X (w_X σ (o + 1 + 7) (upd on x (-9))) (o + 1 + 8) (plDn on pl x n)) 2 [some (va_rf (some o)), some (.int (nI x)), some (.int (nI k))] [] (w_X σ (o + 1 + 8) (plDn on pl x k)) 0 0 := by
    intro d
    induction d with
    | zero =>
      intro k hk
      refine r_iload_n rfl rfl ?_
      refine r_aload_n rfl rfl ?_
      (first | refine r_getIv rfl hM.1 rfl (by assumption) ?_ | refine r_getI rfl hM.1 rfl ?_)
      refine r_geN rfl (by omega) (by omega) (fun _ => ?_) (fun q => by omega)
      refine r_aload_n rfl rfl ?_
      refine r_mg (j := 7) hM rfl rfl (by decide) ?_
      refine r_iload_n rfl rfl ?_
      refine r_bipush (v := -9) rfl (by decide) ?_
      refine r_mis (j := 7) hM rfl rfl (by decide) (by first | rfl | assumption) (show _ < 120 by omega) ?_
      refine r_vret rfl rfl ⟨rfl, ?_⟩
      rw [show k = n by omega, hX_n _ _ (by omega), hon, wX_comm _ _ _ (by omega)]
    | succ d ih =>
      intro k hk
      refine r_iload_n rfl rfl ?_
      refine r_aload_n rfl rfl ?_
      (first | refine r_getIv rfl hM.1 rfl (by assumption) ?_ | refine r_getI rfl hM.1 rfl ?_)
      refine r_geN rfl (by omega) (by omega) (fun q => by omega) (fun _ => ?_)
      refine r_aload_n rfl rfl ?_
      refine r_mg (j := 7) hM rfl rfl (by decide) ?_
      refine r_iload_n rfl rfl ?_
      refine r_mi (j := 7) hM rfl rfl (by decide) (by first | rfl | assumption) (show _ < 120 by omega) ?_
      refine r_aload_n rfl rfl ?_
      refine r_mg (j := 7) hM rfl rfl (by decide) ?_
      refine r_iload_n rfl rfl ?_
      refine r_mi (j := 7) hM rfl rfl (by decide) (by first | rfl | assumption) (show _ < 120 by omega) ?_
      rw [hX_n _ _ (by omega), hon]
      refine r_icmp_ne rfl (fun q => ?_) (fun q => ?_)
      · refine r_iinc rfl rfl (nI_inc _) ?_
        refine r_goto rfl ?_
        have e := ih (k + 1) (by omega)
        rw [plDn_n (fun w => q w.1)] at e
        exact e
      · refine r_aload_n rfl rfl ?_
        refine r_mg (j := 8) hM rfl rfl (by decide) ?_
        refine r_iload_n rfl rfl ?_
        refine r_mi (j := 8) hM rfl rfl (by decide) (by first | rfl | assumption) (show _ < 120 by omega) ?_
        refine r_aload_n rfl rfl ?_
        refine r_mg (j := 8) hM rfl rfl (by decide) ?_
        refine r_iload_n rfl rfl ?_
        refine r_mi (j := 8) hM rfl rfl (by decide) (by first | rfl | assumption) (show _ < 120 by omega) ?_
        rw [hX_w, plDn_k, plDn_x]
        refine r_icmp_le rfl (fun q2 => ?_) (fun q2 => ?_)
        · refine r_iinc rfl rfl (nI_inc _) ?_
          refine r_goto rfl ?_
          have e := ih (k + 1) (by omega)
          rw [plDn_n (fun w => absurd q2 (Int32.not_le.mpr w.2))] at e
          exact e
        · refine r_aload_n rfl rfl ?_
          refine r_mg (j := 8) hM rfl rfl (by decide) ?_
          refine r_iload_n rfl rfl ?_
          refine r_dup2 rfl (by first | rfl | exact rf_cat _) (by first | rfl | exact rf_cat _) ?_
          refine r_mi (j := 8) hM rfl rfl (by decide) (by first | rfl | assumption) (show _ < 120 by omega) ?_
          refine r_iconst (v := nI 1) rfl (by decide) ?_
          refine r_isub rfl ?_
          refine r_mis (j := 8) hM rfl rfl (by decide) (by first | rfl | assumption) (show _ < 120 by omega) ?_
          refine r_iinc rfl rfl (nI_inc _) ?_
          refine r_goto rfl ?_
          have e := ih (k + 1) (by omega)
          rw [plDn_y ⟨q, Int32.not_le.mp q2⟩] at e
          rw [wX_same, hX_w, plDn_k]
          exact e
  have e := loop n 0 (by omega)
  rw [plDn_0, ← hpl, wX_self] at e
  rw [← hpl]
  exact e
/-- climbing from y until it is above all, or at top -/
def upS (on : Nat → Int32) (top : Int32) : Nat → Int32 → Prop
  | 0, _ => False
  | f + 1, y => y < 0 ∨ y = top ∨ ∃ q, q < 120 ∧ y = nI q ∧ upS on top f (on q)
def upE (on : Nat → Int32) (top : Int32) : Nat → Int32 → Int32
  | 0, y => y
  | f + 1, y => if y < 0 ∨ y = top then y else upE on top f (on y.toNatClampNeg)
theorem c_M_isBelow {v top : Int32} {f : Nat} (hM : ML σ o) (hs : upS (h_X σ (o + 1 + 7)) top f v) : Cn l D m_M_isBelow 0 0 [va_rf (some o), .int v, .int top] σ (fun r τ => r = some (.int (nI (decide (upE (h_X σ (o + 1 + 7)) top f v = top)).toNat)) ∧ τ = σ) := by
  refine Cn.of (by decide) (by repeat (first | exact ca_0 | refine ca_i ?_ | refine ca_r ?_)) (Nat.le_of_ble_eq_true rfl) ?_
  refine r_iload_n rfl rfl ?_
  refine r_istore_n rfl (by decide) ?_
  generalize hQ : (fun (r : Option Value) (τ : Hp) => r = some (.int (nI (decide (upE (h_X σ (o + 1 + 7)) top f v = top)).toNat)) ∧ τ = σ) = Q
  have fin : ∀ y, y = upE (h_X σ (o + 1 + 7)) top f v → Gm l D m_M_isBelow 0 0 Q 21 [some (va_rf (some o)), some (.int v), some (.int top), some (.int y)] [] σ 0 0 := by
    intro y hy
    refine r_iload_n rfl rfl ?_
    refine r_iload_n rfl rfl ?_
    refine r_icmp_ne rfl (fun q => ?_) (fun q => ?_)
    · refine r_iconst (v := nI 0) rfl (by decide) ?_
      refine r_zret rfl rfl (by decide) ?_
      rw [← hQ, ← hy, decide_eq_false q]
      exact ⟨rfl, rfl⟩
    · refine r_iconst (v := nI 1) rfl (by decide) ?_
      refine r_goto rfl ?_
      refine r_zret rfl rfl (by decide) ?_
      rw [← hQ, ← hy, decide_eq_true q]
      exact ⟨rfl, rfl⟩
  have loop : ∀ (g : Nat) (y : Int32), upS (h_X σ (o + 1 + 7)) top g y → upE (h_X σ (o + 1 + 7)) top g y = upE (h_X σ (o + 1 + 7)) top f v → Gm l D m_M_isBelow 0 0 Q 2 [some (va_rf (some o)), some (.int v), some (.int top), some (.int y)] [] σ 0 0 := by
    intro g
    induction g with
    | zero => intro y h; exact h.elim
    | succ g ih =>
      intro y h he
      rw [upE] at he
      refine r_iload_n rfl rfl ?_
      refine r_if_lt rfl (fun q => fin y (by rw [← he, if_pos (Or.inl q)])) (fun q1 => ?_)
      refine r_iload_n rfl rfl ?_
      refine r_iload_n rfl rfl ?_
      refine r_icmp_eq rfl (fun q => fin y (by rw [← he, if_pos (Or.inr q)])) (fun q2 => ?_)
      rcases h with h | h | ⟨q, hq, rfl, h⟩
      · exact absurd h q1
      · exact absurd h q2
      rw [if_neg (fun w => w.elim q1 q2), nI_clamp (by omega)] at he
      refine r_aload_n rfl rfl ?_
      refine r_mg (j := 7) hM rfl rfl (by decide) ?_
      refine r_iload_n rfl rfl ?_
      refine r_mi (j := 7) hM rfl rfl (by decide) (by first | rfl | assumption) (show _ < 120 by omega) ?_
      refine r_istore_n rfl (by decide) ?_
      refine r_goto rfl ?_
      exact ih _ h he
  exact loop f v hs rfl
def abS (on kd : Nat → Int32) (k : Int32) : Nat → Int32 → Prop
  | 0, _ => False
  | f + 1, y => y < 0 ∨ ∃ q, q < 120 ∧ y = nI q ∧ (kd q = k ∨ abS on kd k f (on q))
def abE (on kd : Nat → Int32) (k : Int32) : Nat → Int32 → Int32
  | 0, y => y
  | f + 1, y => if y < 0 ∨ kd y.toNatClampNeg = k then y else abE on kd k f (on y.toNatClampNeg)
theorem c_M_above {k : Int32} {x f : Nat} (hM : ML σ o) (hx : x < 120) (hs : abS (h_X σ (o + 1 + 7)) (h_X σ (o + 1 + 6)) k f (h_X σ (o + 1 + 7) x)) : Cn l D m_M_above 0 0 [va_rf (some o), .int (nI x), .int k] σ (fun r τ => r = some (.int (abE (h_X σ (o + 1 + 7)) (h_X σ (o + 1 + 6)) k f (h_X σ (o + 1 + 7) x))) ∧ τ = σ) := by
  refine Cn.of (by decide) (by repeat (first | exact ca_0 | refine ca_i ?_ | refine ca_r ?_)) (Nat.le_of_ble_eq_true rfl) ?_
  refine r_aload_n rfl rfl ?_
  refine r_mg (j := 7) hM rfl rfl (by decide) ?_
  refine r_iload_n rfl rfl ?_
  refine r_mi (j := 7) hM rfl rfl (by decide) (by first | rfl | assumption) (show _ < 120 by omega) ?_
  refine r_istore_n rfl (by decide) ?_
  generalize hQ : (fun (r : Option Value) (τ : Hp) => r = some (.int (abE (h_X σ (o + 1 + 7)) (h_X σ (o + 1 + 6)) k f (h_X σ (o + 1 + 7) x))) ∧ τ = σ) = Q
  have fin : ∀ y, y = abE (h_X σ (o + 1 + 7)) (h_X σ (o + 1 + 6)) k f (h_X σ (o + 1 + 7) x) → Gm l D m_M_above 0 0 Q 31 [some (va_rf (some o)), some (.int (nI x)), some (.int k), some (.int y)] [] σ 0 0 := by
    intro y hy
    refine r_iload_n rfl rfl ?_
    refine r_iret rfl rfl ?_
    rw [← hQ, ← hy]
    exact ⟨rfl, rfl⟩
  have loop : ∀ (g : Nat) (y : Int32), abS (h_X σ (o + 1 + 7)) (h_X σ (o + 1 + 6)) k g y → abE (h_X σ (o + 1 + 7)) (h_X σ (o + 1 + 6)) k g y = abE (h_X σ (o + 1 + 7)) (h_X σ (o + 1 + 6)) k f (h_X σ (o + 1 + 7) x) → Gm l D m_M_above 0 0 Q 7 [some (va_rf (some o)), some (.int (nI x)), some (.int k), some (.int y)] [] σ 0 0 := by
    intro g
    induction g with
    | zero => intro y h; exact h.elim
    | succ g ih =>
      intro y h he
      rw [abE] at he
      refine r_iload_n rfl rfl ?_
      refine r_if_lt rfl (fun q => fin y (by rw [← he, if_pos (Or.inl q)])) (fun q1 => ?_)
      rcases h with h | ⟨q, hq, rfl, h⟩
      · exact absurd h q1
      rw [nI_clamp (by omega)] at he
      refine r_aload_n rfl rfl ?_
      refine r_mg (j := 6) hM rfl rfl (by decide) ?_
      refine r_iload_n rfl rfl ?_
      refine r_mi (j := 6) hM rfl rfl (by decide) (by first | rfl | assumption) (show _ < 120 by omega) ?_
      refine r_iload_n rfl rfl ?_
      refine r_icmp_eq rfl (fun q => fin _ (by rw [← he, if_pos (Or.inr q)])) (fun q2 => ?_)
      rw [if_neg (fun w => w.elim q1 q2)] at he
      refine r_aload_n rfl rfl ?_
      refine r_mg (j := 7) hM rfl rfl (by decide) ?_
      refine r_iload_n rfl rfl ?_
      refine r_mi (j := 7) hM rfl rfl (by decide) (by first | rfl | assumption) (show _ < 120 by omega) ?_
      refine r_istore_n rfl (by decide) ?_
      refine r_goto rfl ?_
      exact ih _ (h.resolve_left q2) he
  exact loop f _ hs rfl
def foS (on into : Nat → Int32) : Nat → Nat → Prop
  | 0, _ => False
  | f + 1, q => q < 120 ∧ (on q ≠ -9 ∨ into q = -1 ∨ ∃ r, into q = nI r ∧ foS on into f r)
def foE (on into : Nat → Int32) : Nat → Nat → Nat
  | 0, q => q
  | f + 1, q => if on q ≠ -9 ∨ into q = -1 then q else foE on into f (into q).toNatClampNeg
theorem foS_lt {on into : Nat → Int32} : ∀ {f q : Nat}, foS on into f q → foE on into f q < 120
  | 0, _, h => h.elim
  | f + 1, q, h => by
    unfold foE
    by_cases e : on q ≠ -9 ∨ into q = -1
    · rw [if_pos e]
      exact h.1
    · rw [if_neg e]
      rcases h.2 with g | g | ⟨r, hr, g⟩
      · exact absurd (Or.inl g) e
      · exact absurd (Or.inr g) e
      · have hr2 : r < 120 := by
          cases f with
          | zero => exact g.elim
          | succ f => exact g.1
        rw [hr, nI_clamp (by omega)]
        exact foS_lt g
theorem c_M_follow {x f : Nat} (hM : ML σ o) (hs : foS (h_X σ (o + 1 + 7)) (h_X σ (o + 1 + 9)) f x) : Cn l D m_M_follow 0 0 [va_rf (some o), .int (nI x)] σ (fun r τ => r = some (.int (nI (foE (h_X σ (o + 1 + 7)) (h_X σ (o + 1 + 9)) f x))) ∧ τ = σ) := by
  refine Cn.of (by decide) (by repeat (first | exact ca_0 | refine ca_i ?_ | refine ca_r ?_)) (Nat.le_of_ble_eq_true rfl) ?_
  refine r_iload_n rfl rfl ?_
  refine r_istore_n rfl (by decide) ?_
  generalize hQ : (fun (r : Option Value) (τ : Hp) => r = some (.int (nI (foE (h_X σ (o + 1 + 7)) (h_X σ (o + 1 + 9)) f x))) ∧ τ = σ) = Q
  have fin : ∀ y, y = foE (h_X σ (o + 1 + 7)) (h_X σ (o + 1 + 9)) f x → Gm l D m_M_follow 0 0 Q 33 [some (va_rf (some o)), some (.int (nI x)), some (.int (nI y))] [] σ 0 0 := by
    intro y hy
    refine r_iload_n rfl rfl ?_
    refine r_iret rfl rfl ?_
    rw [← hQ, ← hy]
    exact ⟨rfl, rfl⟩
  have loop : ∀ (g y : Nat), foS (h_X σ (o + 1 + 7)) (h_X σ (o + 1 + 9)) g y → foE (h_X σ (o + 1 + 7)) (h_X σ (o + 1 + 9)) g y = foE (h_X σ (o + 1 + 7)) (h_X σ (o + 1 + 9)) f x → Gm l D m_M_follow 0 0 Q 2 [some (va_rf (some o)), some (.int (nI x)), some (.int (nI y))] [] σ 0 0 := by
    intro g
    induction g with
    | zero => intro y h; exact h.elim
    | succ g ih =>
      intro y h he
      rw [foE] at he
      have hy := h.1
      refine r_aload_n rfl rfl ?_
      refine r_mg (j := 7) hM rfl rfl (by decide) ?_
      refine r_iload_n rfl rfl ?_
      refine r_mi (j := 7) hM rfl rfl (by decide) (by first | rfl | assumption) (show _ < 120 by omega) ?_
      refine r_bipush (v := -9) rfl (by decide) ?_
      refine r_icmp_ne rfl (fun q => fin y (by rw [← he, if_pos (Or.inl q)])) (fun q1 => ?_)
      refine r_aload_n rfl rfl ?_
      refine r_mg (j := 9) hM rfl rfl (by decide) ?_
      refine r_iload_n rfl rfl ?_
      refine r_mi (j := 9) hM rfl rfl (by decide) (by first | rfl | assumption) (show _ < 120 by omega) ?_
      refine r_iconst (v := -1) rfl (by decide) ?_
      refine r_icmp_eq rfl (fun q => fin y (by rw [← he, if_pos (Or.inr q)])) (fun q2 => ?_)
      rcases h.2 with w | w | ⟨r, hr, w⟩
      · exact absurd q1 w
      · exact absurd w q2
      have hr2 : r < 120 := by
        cases g with
        | zero => exact w.elim
        | succ g => exact w.1
      rw [if_neg (fun z => z.elim (fun z => z q1) q2), hr, nI_clamp (by omega)] at he
      refine r_aload_n rfl rfl ?_
      refine r_mg (j := 9) hM rfl rfl (by decide) ?_
      refine r_iload_n rfl rfl ?_
      refine r_mi (j := 9) hM rfl rfl (by decide) (by first | rfl | assumption) (show _ < 120 by omega) ?_
      refine r_istore_n rfl (by decide) ?_
      refine r_goto rfl ?_
      rw [hr]
      exact ih r w he
  exact loop f x hs rfl
def oI (r : Option Nat) : Int32 := match r with
  | none => -1
  | some x => nI x
def chAt (n : Nat) (on pl : Nat → Int32) (v i : Int32) : Option Nat := (List.range n).find? (fun x => decide (on x = v) && decide (pl x = i))
theorem chAt_none {n : Nat} {on pl : Nat → Int32} {v i : Int32} (h : ∀ x, x < n → ¬ (on x = v ∧ pl x = i)) : chAt n on pl v i = none := by
  unfold chAt
  rw [List.find?_eq_none]
  intro x hx
  have := h x (List.mem_range.mp hx)
  simpa using this
theorem chAt_some {n x : Nat} {on pl : Nat → Int32} {v i : Int32} (hx : x < n) (h1 : on x = v ∧ pl x = i) (h : ∀ y, y < x → ¬ (on y = v ∧ pl y = i)) : chAt n on pl v i = some x := by
  unfold chAt
  rw [List.find?_eq_some_iff_getElem]
  refine ⟨by simp [h1.1, h1.2], x, by simpa using hx, by simp, fun j hj => ?_⟩
  have h2 := h j hj
  simp
  by_cases a1 : on j = v
  · exact Or.inr (fun a2 => h2 ⟨a1, a2⟩)
  · exact Or.inl a1
theorem c_M_childAt {v i : Int32} {n : Nat} (hM : ML σ o) (hn : h_I σ 711 o = nI n) (hn2 : n ≤ 120) : Cn l D m_M_childAt 0 0 [va_rf (some o), .int v, .int i] σ (fun r τ => r = some (.int (oI (chAt n (h_X σ (o + 1 + 7)) (h_X σ (o + 1 + 8)) v i))) ∧ τ = σ) := by
  refine Cn.of (by decide) (by repeat (first | exact ca_0 | refine ca_i ?_ | refine ca_r ?_)) (Nat.le_of_ble_eq_true rfl) ?_
  refine r_iconst (v := nI 0) rfl (by decide) ?_
  refine r_istore_n rfl (by decide) ?_
  have loop : ∀ (d k : Nat), k + d = n → (∀ x, x < k → ¬ (h_X σ (o + 1 + 7) x = v ∧ h_X σ (o + 1 + 8) x = i)) → Gm l D m_M_childAt 0 0 (fun r τ => r = some (.int (oI (chAt n (h_X σ (o + 1 + 7)) (h_X σ (o + 1 + 8)) v i))) ∧ τ = σ) 2 [some (va_rf (some o)), some (.int v), some (.int i), some (.int (nI k))] [] σ 0 0 := by
    intro d
    induction d with
    | zero =>
      intro k hk hp
      refine r_iload_n rfl rfl ?_
      refine r_aload_n rfl rfl ?_
      (first | refine r_getIv rfl hM.1 rfl (by assumption) ?_ | refine r_getI rfl hM.1 rfl ?_)
      refine r_geN rfl (by omega) (by omega) (fun _ => ?_) (fun q => by omega)
      refine r_iconst (v := -1) rfl (by decide) ?_
      exact r_iret rfl rfl ⟨by rw [chAt_none (fun x hx => hp x (by omega))]; rfl, rfl⟩
    | succ d ih =>
      intro k hk hp
      have no : ¬ (h_X σ (o + 1 + 7) k = v ∧ h_X σ (o + 1 + 8) k = i) → Gm l D m_M_childAt 0 0 (fun r τ => r = some (.int (oI (chAt n (h_X σ (o + 1 + 7)) (h_X σ (o + 1 + 8)) v i))) ∧ τ = σ) 32 [some (va_rf (some o)), some (.int v), some (.int i), some (.int (nI k))] [] σ 0 0 := by
        intro q
        refine r_iinc rfl rfl (nI_inc _) ?_
        refine r_goto rfl ?_
        refine ih (k + 1) (by omega) (fun x hx => ?_)
        by_cases e : x = k
        · rw [e]; exact q
        · exact hp x (by omega)
      refine r_iload_n rfl rfl ?_
      refine r_aload_n rfl rfl ?_
      (first | refine r_getIv rfl hM.1 rfl (by assumption) ?_ | refine r_getI rfl hM.1 rfl ?_)
      refine r_geN rfl (by omega) (by omega) (fun q => by omega) (fun _ => ?_)
      refine r_aload_n rfl rfl ?_
      refine r_mg (j := 7) hM rfl rfl (by decide) ?_
      refine r_iload_n rfl rfl ?_
      refine r_mi (j := 7) hM rfl rfl (by decide) (by first | rfl | assumption) (show _ < 120 by omega) ?_
      refine r_iload_n rfl rfl ?_
      refine r_icmp_ne rfl (fun q => no (fun w => q w.1)) (fun q1 => ?_)
      refine r_aload_n rfl rfl ?_
      refine r_mg (j := 8) hM rfl rfl (by decide) ?_
      refine r_iload_n rfl rfl ?_
      refine r_mi (j := 8) hM rfl rfl (by decide) (by first | rfl | assumption) (show _ < 120 by omega) ?_
      refine r_iload_n rfl rfl ?_
      refine r_icmp_ne rfl (fun q => no (fun w => q w.2)) (fun q2 => ?_)
      refine r_iload_n rfl rfl ?_
      exact r_iret rfl rfl ⟨by rw [chAt_some (x := k) (by omega) ⟨q1, q2⟩ hp]; rfl, rfl⟩
  exact loop n 0 (by omega) (fun x hx => by omega)
end MC
end
section
/-! ===== the reference: takeAll, does ===== -/
section MC
variable {l : Launch} {D : DD} {σ : Hp} {o : Nat}
theorem c_M_isLetter {b : Int32} : Cn l D m_M_isLetter 0 0 [.int b] σ (fun r τ => r = some (.int (nI (isL b).toNat)) ∧ τ = σ) := by
  have e97 : nI 97 = 97 := by decide
  have e122 : nI 122 = 122 := by decide
  have e65 : nI 65 = 65 := by decide
  have e90 : nI 90 = 90 := by decide
  refine Cn.of (by decide) (by repeat (first | exact ca_0 | refine ca_i ?_ | refine ca_r ?_)) (Nat.le_of_ble_eq_true rfl) ?_
  have yes : isL b = true → Gm l D m_M_isLetter 0 0 (fun r τ => r = some (.int (nI (isL b).toNat)) ∧ τ = σ) 24 (en_L [.int b] 1) [] σ 0 0 := by
    intro h
    refine r_iconst (v := nI 1) rfl (by decide) ?_
    refine r_goto rfl ?_
    exact r_zret rfl rfl (by decide) ⟨by rw [h]; rfl, rfl⟩
  have no : isL b = false → Gm l D m_M_isLetter 0 0 (fun r τ => r = some (.int (nI (isL b).toNat)) ∧ τ = σ) 28 (en_L [.int b] 1) [] σ 0 0 := by
    intro h
    refine r_iconst (v := nI 0) rfl (by decide) ?_
    exact r_zret rfl rfl (by decide) ⟨by rw [h]; rfl, rfl⟩
  have second : ¬ (65 ≤ b ∧ b ≤ 90) → Gm l D m_M_isLetter 0 0 (fun r τ => r = some (.int (nI (isL b).toNat)) ∧ τ = σ) 12 (en_L [.int b] 1) [] σ 0 0 := by
    intro h
    have h2 : isL b = (decide (97 ≤ b) && decide (b ≤ 122)) := by
      unfold isL
      rw [show (decide (65 ≤ b) && decide (b ≤ 90)) = false by simpa using h]
      simp
    refine r_iload_n rfl rfl ?_
    refine r_bipush (v := nI 97) rfl (by decide) ?_
    refine r_icmp_lt rfl (fun q => ?_) (fun q => ?_)
    · rw [e97] at q
      exact no (by rw [h2]; simp [Int32.not_le.mpr q])
    · rw [e97] at q
      refine r_iload_n rfl rfl ?_
      refine r_bipush (v := nI 122) rfl (by decide) ?_
      refine r_icmp_gt rfl (fun q2 => ?_) (fun q2 => ?_)
      · rw [e122] at q2
        exact no (by rw [h2]; simp [Int32.not_le.mpr q2])
      · rw [e122] at q2
        exact yes (by rw [h2]; simp [Int32.not_lt.mp q, Int32.not_lt.mp q2])
  refine r_iload_n rfl rfl ?_
  refine r_bipush (v := nI 65) rfl (by decide) ?_
  refine r_icmp_lt rfl (fun q => ?_) (fun q => ?_)
  · rw [e65] at q
    exact second (fun w => absurd w.1 (Int32.not_le.mpr q))
  · rw [e65] at q
    refine r_iload_n rfl rfl ?_
    refine r_bipush (v := nI 90) rfl (by decide) ?_
    refine r_icmp_le rfl (fun q2 => ?_) (fun q2 => ?_)
    · rw [e90] at q2
      exact yes (by unfold isL; simp [Int32.not_lt.mp q, q2])
    · rw [e90] at q2
      exact second (fun w => q2 w.2)
/-- what takeAll leaves of the row 'on': all of B is away -/
def offB (on : Nat → Int32) (B : Nat → Bool) (n : Nat) : Nat → Int32 := fun y => if y < n ∧ B y = true then -9 else on y
theorem neg_nI {v : Int32} (h : v = -9 ∨ v = -1) : v < 0 := by
  rcases h with rfl | rfl <;> decide
theorem cntB_lt {p q : Nat → Bool} {n y : Nat} (hpq : ∀ x, x < n → p x = true → q x = true) (hy : y < n) (h1 : p y = false) (h2 : q y = true) : cntB p n < cntB q n := by
  have mono : ∀ m, m ≤ n → cntB p m ≤ cntB q m := by
    intro m
    induction m with
    | zero => intro _; exact Nat.le_refl _
    | succ m ih =>
      intro hm
      have := ih (by omega)
      rw [cntB, cntB]
      cases hp : p m with
      | false => simp only [Bool.toNat_false]; omega
      | true => rw [hpq m (by omega) hp]; omega
  have : ∀ m, y < m → m ≤ n → cntB p m < cntB q m := by
    intro m
    induction m with
    | zero => intro h; omega
    | succ m ih =>
      intro h hm
      rw [cntB, cntB]
      by_cases e : y = m
      · subst e
        rw [h1, h2]
        have := mono y (by omega)
        simp only [Bool.toNat_false, Bool.toNat_true]
        omega
      · have := ih (by omega) (by omega)
        cases hp : p m with
        | false => simp only [Bool.toNat_false]; omega
        | true => rw [hpq m (by omega) hp]; omega
  exact this n hy (Nat.le_refl _)
theorem cntB_one {p q : Nat → Bool} {n y : Nat} (hy : y < n) (h1 : p y = false) (h2 : q y = true) (h : ∀ x, x < n → x ≠ y → p x = q x) : cntB q n = cntB p n + 1 := by
  have low : ∀ m, m ≤ y → cntB q m = cntB p m := by
    intro m
    induction m with
    | zero => intro _; rfl
    | succ m ih =>
      intro hm
      rw [cntB, cntB, ih (by omega), h m (by omega) (by omega)]
  have : ∀ m, y < m → m ≤ n → cntB q m = cntB p m + 1 := by
    intro m
    induction m with
    | zero => intro h; omega
    | succ m ih =>
      intro hm hm2
      rw [cntB, cntB]
      by_cases e : y = m
      · subst e
        rw [h1, h2, low y (Nat.le_refl _)]
        rfl
      · rw [ih (by omega) (by omega), h m (by omega) (fun q => e q.symm)]
        omega
  exact this n hy (Nat.le_refl _)
theorem cntB_0 (n : Nat) : cntB (fun _ => false) n = 0 := by
  induction n with
  | zero => rfl
  | succ n ih => rw [cntB, ih]; rfl
theorem cntB_congr {p q : Nat → Bool} {n : Nat} (h : ∀ x, x < n → p x = q x) : cntB p n = cntB q n := by
  induction n with
  | zero => rfl
  | succ n ih => rw [cntB, cntB, ih (fun x hx => h x (by omega)), h n (by omega)]
set_option maxHeartbeats 1000000 in
/-- all of B, which is x and what hangs below it, goes away -/
theorem c_M_takeAll {n x : Nat} {B : Nat → Bool} {rk : Nat → Nat} (hM : ML σ o) (hn : h_I σ 711 o = nI n) (hn2 : n ≤ 120) (hx : x < n) (hBx : B x = true)
    (hw : ∀ y, y < n → h_X σ (o + 1 + 7) y = -9 ∧ B y = false ∨ h_X σ (o + 1 + 7) y = -1 ∧ (y = x ∨ B y = false) ∨ ∃ p, p < n ∧ h_X σ (o + 1 + 7) y = nI p ∧ h_X σ (o + 1 + 7) p ≠ -9 ∧ rk p < rk y ∧ (y = x ∨ B y = B p)) :
    Cn l D m_M_takeAll 0 0 [va_rf (some o), .int (nI x)] σ (fun r τ => r = some (.int (nI (cntB B n))) ∧ τ = w_X (w_X σ (o + 1 + 7) (offB (h_X σ (o + 1 + 7)) B n)) (o + 1 + 8) (plDn (h_X σ (o + 1 + 7)) (h_X σ (o + 1 + 8)) x n)) := by
  refine Cn.of (by decide) (by repeat (first | exact ca_0 | refine ca_i ?_ | refine ca_r ?_)) (Nat.le_of_ble_eq_true rfl) ?_
  refine r_aload_n rfl rfl ?_
  refine r_iload_n rfl rfl ?_
  refine r_callV (As := [_]) rfl (by decide) rfl hM.1 rfl rfl (Nat.le_of_ble_eq_true rfl) ⟨Nat.le_of_ble_eq_true rfl, Nat.le_of_ble_eq_true rfl⟩ (c_M_takeOut hM hn hn2 (by omega)) (kc' := 0) (ks' := 0) (by omega) (by omega) (by decide) ?_
  rintro r τ ⟨rfl, rfl⟩
  generalize hon : h_X σ (o + 1 + 7) = on at hw ⊢
  generalize hpl : plDn on (h_X σ (o + 1 + 8)) x n = pl
  rw [wX_comm σ _ _ (show o + 1 + 7 ≠ o + 1 + 8 by omega), wX_comm σ _ _ (show o + 1 + 7 ≠ o + 1 + 8 by omega)]
  have hM' : ML (w_X σ (o + 1 + 8) pl) o := hM
  have hn' : h_I (w_X σ (o + 1 + 8) pl) 711 o = nI n := hn
  generalize w_X σ (o + 1 + 8) pl = ρ at hM' hn'
  have hM := hM'
  have hn := hn'
  refine r_iconst (v := nI 1) rfl (by decide) ?_
  refine r_istore_n rfl (by decide) ?_
  refine r_iconst (v := nI 1) rfl (by decide) ?_
  refine r_istore_n rfl (by decide) ?_
  -- cur: the row as it stands; c: how many are away by this call
  have fin : ∀ (cur : Nat → Int32), (∀ y, cur y = on y ∧ y ≠ x ∨ (y < n ∧ B y = true ∧ cur y = -9)) → (∀ y, y < n → ∀ p, p < n → cur y = nI p → cur p ≠ -9) → cur = offB on B n := by
    intro cur h1 h2
    have key : ∀ k y, rk y ≤ k → y < n → B y = true → cur y = -9 := by
      intro k
      induction k with
      | zero =>
        intro y hk hy hB
        rcases h1 y with ⟨q1, q2⟩ | ⟨-, -, q⟩
        · rcases hw y hy with ⟨w1, w2⟩ | ⟨w1, w2⟩ | ⟨p, p1, p2, p3, p4, p5⟩
          · rw [hB] at w2; cases w2
          · rcases w2 with w2 | w2
            · exact absurd w2 q2
            · rw [hB] at w2; cases w2
          · omega
        · exact q
      | succ k ih =>
        intro y hk hy hB
        rcases h1 y with ⟨q1, q2⟩ | ⟨-, -, q⟩
        · rcases hw y hy with ⟨w1, w2⟩ | ⟨w1, w2⟩ | ⟨p, p1, p2, p3, p4, p5⟩
          · rw [hB] at w2; cases w2
          · rcases w2 with w2 | w2
            · exact absurd w2 q2
            · rw [hB] at w2; cases w2
          · rcases p5 with p5 | p5
            · exact absurd p5 q2
            · have := ih p (by omega) p1 (by rw [← p5]; exact hB)
              exact absurd this (h2 y hy p p1 (q1.trans p2))
        · exact q
    funext y
    unfold offB
    by_cases e : y < n ∧ B y = true
    · rw [if_pos e]
      exact key (rk y) y (Nat.le_refl _) e.1 e.2
    · rw [if_neg e]
      rcases h1 y with ⟨q1, -⟩ | ⟨q1, q2, -⟩
      · exact q1
      · exact absurd ⟨q1, q2⟩ e
  have cnt : ∀ (cur : Nat → Int32), cur = offB on B n → cntB (fun y => decide (cur y = -9) && B y) n = cntB B n := by
    intro cur h
    refine cntB_congr (fun y hy => ?_)
    subst h
    unfold offB
    cases hB : B y with
    | false => simp
    | true => simp [hy]
  have loop : ∀ (m : Nat) (cur : Nat → Int32), n - cntB (fun y => decide (cur y = -9) && B y) n ≤ m → cur x = -9 → (∀ y, cur y = on y ∧ y ≠ x ∨ (y < n ∧ B y = true ∧ cur y = -9)) →
      ∀ z, Gm l D m_M_takeAll 0 0 (fun r τ => r = some (.int (nI (cntB B n))) ∧ τ = w_X ρ (o + 1 + 7) (offB on B n)) 9 [some (va_rf (some o)), some (.int (nI x)), some (.int (nI (cntB (fun y => decide (cur y = -9) && B y) n))), some (.int (nI 1)), z] [] (w_X ρ (o + 1 + 7) cur) 0 0 := by
    intro m
    induction m with
    | zero =>
      intro cur hm hx9 h1 z
      have h3 := cntB_le (fun y => decide (cur y = -9) && B y) n
      have hall : ∀ y, y < n → (decide (cur y = -9) && B y) = true := by
        intro y hy
        cases hq : (decide (cur y = -9) && B y) with
        | true => rfl
        | false =>
          exfalso
          have := cntB_lt (p := fun y => decide (cur y = -9) && B y) (q := fun _ => true) (n := n) (fun _ _ _ => rfl) hy hq rfl
          have := cntB_le (fun _ => true) n
          omega
      refine r_iload_n rfl rfl ?_
      refine r_if_eq rfl (fun q => absurd q (by decide)) (fun _ => ?_)
      refine r_iconst (v := nI 0) rfl (by decide) ?_
      refine r_istore_n rfl (by decide) ?_
      refine r_iconst (v := nI 0) rfl (by decide) ?_
      refine r_istore rfl (by decide) ?_
      have pass : ∀ (d k : Nat), k + d = n → Gm l D m_M_takeAll 0 0 (fun r τ => r = some (.int (nI (cntB B n))) ∧ τ = w_X ρ (o + 1 + 7) (offB on B n)) 18 [some (va_rf (some o)), some (.int (nI x)), some (.int (nI (cntB (fun y => decide (cur y = -9) && B y) n))), some (.int (nI 0)), some (.int (nI k))] [] (w_X ρ (o + 1 + 7) cur) 0 0 := by
        intro d
        induction d with
        | zero =>
          intro k hk
          refine r_iload rfl rfl ?_
          refine r_aload_n rfl rfl ?_
          (first | refine r_getIv rfl hM.1 rfl (by assumption) ?_ | refine r_getI rfl hM.1 rfl ?_)
          refine r_geN rfl (by omega) (by omega) (fun _ => ?_) (fun q => by omega)
          refine r_goto rfl ?_
          refine r_iload_n rfl rfl ?_
          refine r_if_eq rfl (fun _ => ?_) (fun q => absurd rfl q)
          refine r_iload_n rfl rfl ?_
          have hf := fin cur h1 (fun y hy p hp he => by
            have := okn (hall y hy)
            have := of_decide_eq_true this.1
            rw [he] at this
            exact absurd this (fun q => nI_pos (n := p) (by omega) (by rw [q]; decide)))
          exact r_iret rfl rfl ⟨by rw [cnt cur hf], by rw [hf]⟩
        | succ d ih =>
          intro k hk
          refine r_iload rfl rfl ?_
          refine r_aload_n rfl rfl ?_
          (first | refine r_getIv rfl hM.1 rfl (by assumption) ?_ | refine r_getI rfl hM.1 rfl ?_)
          refine r_geN rfl (by omega) (by omega) (fun q => by omega) (fun _ => ?_)
          refine r_aload_n rfl rfl ?_
          refine r_mg (j := 7) hM rfl rfl (by decide) ?_
          refine r_iload rfl rfl ?_
          refine r_mi (j := 7) hM rfl rfl (by decide) (by first | rfl | assumption) (show _ < 120 by omega) ?_
          rw [hX_w, of_decide_eq_true (okn (hall k (by omega))).1]
          refine r_if_lt rfl (fun _ => ?_) (fun q => absurd (by decide) q)
          refine r_iinc rfl rfl (nI_inc _) ?_
          refine r_goto rfl ?_
          exact ih (k + 1) (by omega)
      exact pass n 0 (by omega)
    | succ m ihm =>
      intro cur hm hx9 h1 z
      refine r_iload_n rfl rfl ?_
      refine r_if_eq rfl (fun q => absurd q (by decide)) (fun _ => ?_)
      refine r_iconst (v := nI 0) rfl (by decide) ?_
      refine r_istore_n rfl (by decide) ?_
      refine r_iconst (v := nI 0) rfl (by decide) ?_
      refine r_istore rfl (by decide) ?_
      have pass : ∀ (d k : Nat) (cr : Nat → Int32) (mo : Bool), k + d = n → cr x = -9 → (∀ y, cr y = on y ∧ y ≠ x ∨ (y < n ∧ B y = true ∧ cr y = -9)) → (mo = false → cr = cur ∧ ∀ y, y < k → ∀ p, p < n → cr y = nI p → cr p ≠ -9) → (mo = true → cntB (fun y => decide (cur y = -9) && B y) n < cntB (fun y => decide (cr y = -9) && B y) n) →
          Gm l D m_M_takeAll 0 0 (fun r τ => r = some (.int (nI (cntB B n))) ∧ τ = w_X ρ (o + 1 + 7) (offB on B n)) 18 [some (va_rf (some o)), some (.int (nI x)), some (.int (nI (cntB (fun y => decide (cr y = -9) && B y) n))), some (.int (nI mo.toNat)), some (.int (nI k))] [] (w_X ρ (o + 1 + 7) cr) 0 0 := by
        intro d
        induction d with
        | zero =>
          intro k cr mo hk g1 g2 g3 g4
          refine r_iload rfl rfl ?_
          refine r_aload_n rfl rfl ?_
          (first | refine r_getIv rfl hM.1 rfl (by assumption) ?_ | refine r_getI rfl hM.1 rfl ?_)
          refine r_geN rfl (by omega) (by omega) (fun _ => ?_) (fun q => by omega)
          refine r_goto rfl ?_
          cases mo with
          | true => exact ihm cr (by have := g4 rfl; omega) g1 g2 _
          | false =>
            refine r_iload_n rfl rfl ?_
            refine r_if_eq rfl (fun _ => ?_) (fun q => absurd rfl q)
            refine r_iload_n rfl rfl ?_
            have hf := fin cr g2 (fun y hy => (g3 rfl).2 y (by omega))
            exact r_iret rfl rfl ⟨by rw [cnt cr hf], by rw [hf]⟩
        | succ d ih =>
          intro k cr mo hk g1 g2 g3 g4
          have skip : (∀ p, p < n → cr k = nI p → cr p ≠ -9) → Gm l D m_M_takeAll 0 0 (fun r τ => r = some (.int (nI (cntB B n))) ∧ τ = w_X ρ (o + 1 + 7) (offB on B n)) 71 [some (va_rf (some o)), some (.int (nI x)), some (.int (nI (cntB (fun y => decide (cr y = -9) && B y) n))), some (.int (nI mo.toNat)), some (.int (nI k))] [] (w_X ρ (o + 1 + 7) cr) 0 0 := by
            intro hs
            refine r_iinc rfl rfl (nI_inc _) ?_
            refine r_goto rfl ?_
            refine ih (k + 1) cr mo (by omega) g1 g2 (fun q => ⟨(g3 q).1, fun y hy => ?_⟩) g4
            by_cases e : y = k
            · rw [e]; exact hs
            · exact (g3 q).2 y (by omega)
          refine r_iload rfl rfl ?_
          refine r_aload_n rfl rfl ?_
          (first | refine r_getIv rfl hM.1 rfl (by assumption) ?_ | refine r_getI rfl hM.1 rfl ?_)
          refine r_geN rfl (by omega) (by omega) (fun q => by omega) (fun _ => ?_)
          refine r_aload_n rfl rfl ?_
          refine r_mg (j := 7) hM rfl rfl (by decide) ?_
          refine r_iload rfl rfl ?_
          refine r_mi (j := 7) hM rfl rfl (by decide) (by first | rfl | assumption) (show _ < 120 by omega) ?_
          rw [hX_w]
          refine r_if_lt rfl (fun q => skip (fun p hp he => absurd q (by rw [he]; exact nI_pos (by omega)))) (fun q => ?_)
          obtain ⟨e1, e2⟩ : cr k = on k ∧ k ≠ x := by
            rcases g2 k with w | ⟨-, -, w⟩
            · exact w
            · rw [w] at q
              exact absurd (by decide) q
          obtain ⟨p, p1, p2, p3, p4, p5⟩ : ∃ p, p < n ∧ on k = nI p ∧ on p ≠ -9 ∧ rk p < rk k ∧ (k = x ∨ B k = B p) := by
            rcases hw k (by omega) with ⟨w, -⟩ | ⟨w, -⟩ | w
            · rw [e1, w] at q
              exact absurd (by decide) q
            · rw [e1, w] at q
              exact absurd (by decide) q
            · exact w
          refine r_aload_n rfl rfl ?_
          refine r_mg (j := 7) hM rfl rfl (by decide) ?_
          refine r_aload_n rfl rfl ?_
          refine r_mg (j := 7) hM rfl rfl (by decide) ?_
          refine r_iload rfl rfl ?_
          refine r_mi (j := 7) hM rfl rfl (by decide) (by first | rfl | assumption) (show _ < 120 by omega) ?_
          rw [hX_w, e1, p2]
          refine r_mi (j := 7) hM rfl rfl (by decide) rfl (show _ < 120 by omega) ?_
          refine r_bipush (v := -9) rfl (by decide) ?_
          rw [hX_w]
          refine r_icmp_eq rfl (fun q2 => ?_) (fun q2 => ?_)
          · have hBk : B k = true := by
              rcases p5 with p5 | p5
              · exact absurd p5 e2
              · rw [p5]
                rcases g2 p with ⟨w, -⟩ | ⟨-, w, -⟩
                · exact absurd (w.symm.trans q2) p3
                · exact w
            refine r_aload_n rfl rfl ?_
            refine r_mg (j := 7) hM rfl rfl (by decide) ?_
            refine r_iload rfl rfl ?_
            refine r_bipush (v := -9) rfl (by decide) ?_
            refine r_mis (j := 7) hM rfl rfl (by decide) (by first | rfl | assumption) (show _ < 120 by omega) ?_
            rw [wX_same, hX_w]
            refine r_iinc rfl rfl (nI_inc _) ?_
            refine r_iconst (v := nI 1) rfl (by decide) ?_
            refine r_istore_n rfl (by decide) ?_
            refine r_iinc rfl rfl (nI_inc _) ?_
            refine r_goto rfl ?_
            have hk9 : cr k ≠ -9 := fun w => by rw [w] at q; exact q (by decide)
            have c1 : cntB (fun y => decide (upd cr k (-9) y = -9) && B y) n = cntB (fun y => decide (cr y = -9) && B y) n + 1 := by
              refine cntB_one (y := k) (by omega) ?_ ?_ (fun w _ hw2 => ?_)
              · simp [hk9]
              · simp [upd_s, hBk]
              · show (decide (cr w = -9) && B w) = (decide (upd cr k (-9) w = -9) && B w)
                rw [upd_n _ _ hw2]
            have e := ih (k + 1) (upd cr k (-9)) true (by omega) (by rw [upd_n _ _ (fun w => e2 w.symm)]; exact g1) (fun y => ?_) (fun w => by cases w) (fun _ => ?_)
            · rw [c1] at e
              exact e
            · by_cases w : y = k
              · subst w
                exact Or.inr ⟨by omega, hBk, upd_s _ _ _⟩
              · rw [upd_n _ _ w]
                exact g2 y
            · rw [c1]
              cases mo with
              | true => have := g4 rfl; omega
              | false => rw [(g3 rfl).1]; omega
          · refine r_goto rfl ?_
            refine skip (fun p' hp' he => ?_)
            have : p' = p := (nI_eq (by omega) (by omega)).mp (he.symm.trans (e1.trans p2))
            rw [this]
            exact q2
      exact pass n 0 cur false (by omega) hx9 h1 (fun _ => ⟨rfl, fun y hy => by omega⟩) (fun w => by cases w)
  have c0 : cntB (fun y => decide (upd on x (-9) y = -9) && B y) n = 1 := by
    have := cntB_one (p := fun _ => false) (q := fun y => decide (upd on x (-9) y = -9) && B y) (n := n) (y := x) hx rfl (by simp [upd_s, hBx]) (fun w e hw2 => by
      show false = (decide (upd on x (-9) w = -9) && B w)
      rw [upd_n _ _ hw2]
      rcases hw w e with ⟨w1, w2⟩ | ⟨w1, w2⟩ | ⟨p, p1, p2, p3, p4, p5⟩
      · rw [w2, Bool.and_false]
      · rw [w1]; rfl
      · have : ¬ on w = -9 := fun q => nI_pos (n := p) (by omega) (by rw [← p2, q]; decide)
        simp [this])
    rw [this, cntB_0]
  have e := loop n (upd on x (-9)) (by omega) (upd_s _ _ _) (fun y => ?_) none
  · rw [c0] at e
    exact e
  · by_cases w : y = x
    · subst w
      exact Or.inr ⟨hx, hBx, upd_s _ _ _⟩
    · rw [upd_n _ _ w]
      exact Or.inl ⟨rfl, w⟩
end MC
end
section
/-! ===== the reference: does, change ===== -/
def jnO (on : Nat → Int32) (x y : Nat) (k : Nat) : Nat → Int32 := fun z => if z < k ∧ on z = nI y then nI x else on z
def jnP (on pl : Nat → Int32) (y m : Nat) (k : Nat) : Nat → Int32 := fun z => if z < k ∧ on z = nI y then pl z + nI m else pl z
theorem jnO_0 (on : Nat → Int32) (x y : Nat) : jnO on x y 0 = on := by
  funext z
  unfold jnO
  rw [if_neg (by omega)]
theorem jnP_0 (on pl : Nat → Int32) (y m : Nat) : jnP on pl y m 0 = pl := by
  funext z
  unfold jnP
  rw [if_neg (by omega)]
theorem jn_iff {on : Nat → Int32} {y k z : Nat} (e : z ≠ k) : (z < k + 1 ∧ on z = nI y) ↔ (z < k ∧ on z = nI y) := ⟨fun q => ⟨by omega, q.2⟩, fun q => ⟨by omega, q.2⟩⟩
theorem jnO_n {on : Nat → Int32} {x y k : Nat} (h : ¬ on k = nI y) : jnO on x y (k + 1) = jnO on x y k := by
  funext z
  unfold jnO
  by_cases e : z = k
  · subst e
    rw [if_neg (fun q => h q.2), if_neg (fun q => h q.2)]
  · simp only [jn_iff e]
theorem jnP_n {on pl : Nat → Int32} {y m k : Nat} (h : ¬ on k = nI y) : jnP on pl y m (k + 1) = jnP on pl y m k := by
  funext z
  unfold jnP
  by_cases e : z = k
  · subst e
    rw [if_neg (fun q => h q.2), if_neg (fun q => h q.2)]
  · simp only [jn_iff e]
theorem jnO_y {on : Nat → Int32} {x y k : Nat} (h : on k = nI y) : jnO on x y (k + 1) = upd (jnO on x y k) k (nI x) := by
  funext z
  unfold upd
  by_cases e : z = k
  · subst e
    rw [if_pos rfl]
    unfold jnO
    rw [if_pos ⟨by omega, h⟩]
  · rw [if_neg e]
    unfold jnO
    simp only [jn_iff e]
theorem jnP_y {on pl : Nat → Int32} {y m k : Nat} (h : on k = nI y) : jnP on pl y m (k + 1) = upd (jnP on pl y m k) k (pl k + nI m) := by
  funext z
  unfold upd
  by_cases e : z = k
  · subst e
    rw [if_pos rfl]
    unfold jnP
    rw [if_pos ⟨by omega, h⟩]
  · rw [if_neg e]
    unfold jnP
    simp only [jn_iff e]
theorem jnO_k (on : Nat → Int32) (x y k : Nat) : jnO on x y k k = on k := by
  unfold jnO
  rw [if_neg (by omega)]
theorem jnP_k (on pl : Nat → Int32) (y m k : Nat) : jnP on pl y m k k = pl k := by
  unfold jnP
  rw [if_neg (by omega)]
section MC
variable {l : Launch} {D : DD} {σ : Hp} {o : Nat}
theorem c_M_does1 {v i : Int32} {n x : Nat} (hM : ML σ o) (hn : h_I σ 711 o = nI n) (hn2 : n ≤ 120) (hx : x < 120) : Cn l D m_M_does 0 0 [va_rf (some o), .int (nI 1), .int (nI x), .int v, .int i] σ (fun r τ => r = some (.int (nI x)) ∧ τ = w_X (w_X (w_I σ 721 o (nI 0)) (o + 1 + 7) (upd (h_X σ (o + 1 + 7)) x v)) (o + 1 + 8) (upd (plUp (h_X σ (o + 1 + 7)) (h_X σ (o + 1 + 8)) v i n) x i)) := by
  refine Cn.of (by decide) (by repeat (first | exact ca_0 | refine ca_i ?_ | refine ca_r ?_)) (Nat.le_of_ble_eq_true rfl) ?_
  refine r_aload_n rfl rfl ?_
  refine r_iconst (v := nI 0) rfl (by decide) ?_
  refine r_putI rfl hM.1 rfl (Or.inl rfl) (by first | rfl | decide) (by first | rfl | decide) ?_
  refine r_iload_n rfl rfl ?_
  refine r_iconst (v := nI 1) rfl (by decide) ?_
  refine r_icmp_ne rfl (fun q => absurd rfl q) (fun _ => ?_)
  refine r_aload_n rfl rfl ?_
  refine r_iload_n rfl rfl ?_
  refine r_iload_n rfl rfl ?_
  refine r_iload rfl rfl ?_
  refine r_callV (As := [_, _, _]) rfl (by decide) rfl hM.1 rfl rfl (Nat.le_of_ble_eq_true rfl) ⟨Nat.le_of_ble_eq_true rfl, Nat.le_of_ble_eq_true rfl⟩ (c_M_putIn (σ := w_I σ 721 o (nI 0)) hM ((hI_n _ _ (by decide)).trans hn) hn2 hx) (kc' := 0) (ks' := 0) (by omega) (by omega) (by decide) ?_
  rintro r τ ⟨rfl, rfl⟩
  refine r_iload_n rfl rfl ?_
  exact r_iret rfl rfl ⟨rfl, rfl⟩
theorem c_M_does2 {v i : Int32} {n x : Nat} (hM : ML σ o) (hn : h_I σ 711 o = nI n) (hn2 : n ≤ 120) (hx : x < 120) : Cn l D m_M_does 0 0 [va_rf (some o), .int (nI 2), .int (nI x), .int v, .int i] σ (fun r τ => r = some (.int (nI 0)) ∧ τ = w_X (w_X (w_I σ 721 o (nI 0)) (o + 1 + 7) (upd (upd (h_X σ (o + 1 + 7)) x (-9)) x v)) (o + 1 + 8) (upd (plUp (upd (h_X σ (o + 1 + 7)) x (-9)) (plDn (h_X σ (o + 1 + 7)) (h_X σ (o + 1 + 8)) x n) v i n) x i)) := by
  refine Cn.of (by decide) (by repeat (first | exact ca_0 | refine ca_i ?_ | refine ca_r ?_)) (Nat.le_of_ble_eq_true rfl) ?_
  refine r_aload_n rfl rfl ?_
  refine r_iconst (v := nI 0) rfl (by decide) ?_
  refine r_putI rfl hM.1 rfl (Or.inl rfl) (by first | rfl | decide) (by first | rfl | decide) ?_
  refine r_iload_n rfl rfl ?_
  refine r_iconst (v := nI 1) rfl (by decide) ?_
  refine r_icmp_ne rfl (fun _ => ?_) (fun q => absurd q (by decide))
  refine r_iload_n rfl rfl ?_
  refine r_iconst (v := nI 2) rfl (by decide) ?_
  refine r_icmp_ne rfl (fun q => absurd rfl q) (fun _ => ?_)
  refine r_aload_n rfl rfl ?_
  refine r_iload_n rfl rfl ?_
  refine r_callV (As := [_]) rfl (by decide) rfl hM.1 rfl rfl (Nat.le_of_ble_eq_true rfl) ⟨Nat.le_of_ble_eq_true rfl, Nat.le_of_ble_eq_true rfl⟩ (c_M_takeOut (σ := w_I σ 721 o (nI 0)) hM ((hI_n _ _ (by decide)).trans hn) hn2 hx) (kc' := 0) (ks' := 0) (by omega) (by omega) (by decide) ?_
  rintro r τ ⟨rfl, hτ⟩
  have hMt : ML τ o := by rw [hτ]; exact hM
  have hnt : h_I τ 711 o = nI n := by rw [hτ]; exact (hI_n σ (f := 721) (g := 711) (a := o) (b := o) (nI 0) (by decide)).trans hn
  have e7 : h_X τ (o + 1 + 7) = upd (h_X σ (o + 1 + 7)) x (-9) := by
    rw [hτ, hX_n _ _ (by omega), hX_w]
    rfl
  have e8 : h_X τ (o + 1 + 8) = plDn (h_X σ (o + 1 + 7)) (h_X σ (o + 1 + 8)) x n := by
    rw [hτ, hX_w]
    rfl
  refine r_aload_n rfl rfl ?_
  refine r_iload_n rfl rfl ?_
  refine r_iload_n rfl rfl ?_
  refine r_iload rfl rfl ?_
  refine r_callV (As := [_, _, _]) rfl (by decide) rfl hMt.1 rfl rfl (Nat.le_of_ble_eq_true rfl) ⟨Nat.le_of_ble_eq_true rfl, Nat.le_of_ble_eq_true rfl⟩ (c_M_putIn hMt hnt hn2 hx) (kc' := 0) (ks' := 0) (by omega) (by omega) (by decide) ?_
  rintro r ρ ⟨rfl, rfl⟩
  refine r_iconst (v := nI 0) rfl (by decide) ?_
  refine r_iret rfl rfl ⟨rfl, ?_⟩
  rw [e7, e8, hτ, wX_comm (w_X (w_I σ 721 o (nI 0)) (o + 1 + 7) _) _ _ (show o + 1 + 8 ≠ o + 1 + 7 by omega), wX_same, wX_same]
theorem c_M_does3 {n x : Nat} {B : Nat → Bool} {rk : Nat → Nat} {w v : Int32} (hM : ML σ o) (hn : h_I σ 711 o = nI n) (hn2 : n ≤ 120) (hx : x < n) (hBx : B x = true)
    (hw : ∀ y, y < n → h_X σ (o + 1 + 7) y = -9 ∧ B y = false ∨ h_X σ (o + 1 + 7) y = -1 ∧ (y = x ∨ B y = false) ∨ ∃ p, p < n ∧ h_X σ (o + 1 + 7) y = nI p ∧ h_X σ (o + 1 + 7) p ≠ -9 ∧ rk p < rk y ∧ (y = x ∨ B y = B p)) :
    Cn l D m_M_does 0 0 [va_rf (some o), .int (nI 3), .int (nI x), .int v, .int w] σ (fun r τ => r = some (.int (nI (cntB B n))) ∧ τ = w_X (w_X (w_I σ 721 o (nI 0)) (o + 1 + 7) (offB (h_X σ (o + 1 + 7)) B n)) (o + 1 + 8) (plDn (h_X σ (o + 1 + 7)) (h_X σ (o + 1 + 8)) x n)) := by
  refine Cn.of (by decide) (by repeat (first | exact ca_0 | refine ca_i ?_ | refine ca_r ?_)) (Nat.le_of_ble_eq_true rfl) ?_
  refine r_aload_n rfl rfl ?_
  refine r_iconst (v := nI 0) rfl (by decide) ?_
  refine r_putI rfl hM.1 rfl (Or.inl rfl) (by first | rfl | decide) (by first | rfl | decide) ?_
  refine r_iload_n rfl rfl ?_
  refine r_iconst (v := nI 1) rfl (by decide) ?_
  refine r_icmp_ne rfl (fun _ => ?_) (fun q => absurd q (by decide))
  refine r_iload_n rfl rfl ?_
  refine r_iconst (v := nI 2) rfl (by decide) ?_
  refine r_icmp_ne rfl (fun _ => ?_) (fun q => absurd q (by decide))
  refine r_iload_n rfl rfl ?_
  refine r_iconst (v := nI 3) rfl (by decide) ?_
  refine r_icmp_ne rfl (fun q => absurd rfl q) (fun _ => ?_)
  refine r_aload_n rfl rfl ?_
  refine r_iload_n rfl rfl ?_
  refine r_callV (As := [_]) rfl (by decide) rfl hM.1 rfl rfl (Nat.le_of_ble_eq_true rfl) ⟨Nat.le_of_ble_eq_true rfl, Nat.le_of_ble_eq_true rfl⟩ (c_M_takeAll (σ := w_I σ 721 o (nI 0)) hM ((hI_n _ _ (by decide)).trans hn) hn2 hx hBx hw) (kc' := 0) (ks' := 0) (by omega) (by omega) (by decide) ?_
  rintro r τ ⟨rfl, rfl⟩
  exact r_iret rfl rfl ⟨rfl, rfl⟩
theorem c_M_does4 {n x y : Nat} {w : Int32} (hM : ML σ o) (hn : h_I σ 711 o = nI n) (hn2 : n ≤ 120) (hx : x < 120) (hy : y < 120) :
    Cn l D m_M_does 0 0 [va_rf (some o), .int (nI 4), .int (nI x), .int (nI y), .int w] σ (fun r τ => r = some (.int (nI (cntB (fun z => decide (h_X σ (o + 1 + 7) z = nI x)) n + cntB (fun z => decide (h_X σ (o + 1 + 7) z = nI y)) n))) ∧
      τ = w_X (w_X (w_X (w_I σ 721 o (nI 0)) (o + 1 + 7) (upd (jnO (h_X σ (o + 1 + 7)) x y n) y (-9))) (o + 1 + 8) (plDn (jnO (h_X σ (o + 1 + 7)) x y n) (jnP (h_X σ (o + 1 + 7)) (h_X σ (o + 1 + 8)) y (cntB (fun z => decide (h_X σ (o + 1 + 7) z = nI x)) n) n) y n)) (o + 1 + 9) (upd (h_X σ (o + 1 + 9)) y (nI x))) := by
  refine Cn.of (by decide) (by repeat (first | exact ca_0 | refine ca_i ?_ | refine ca_r ?_)) (Nat.le_of_ble_eq_true rfl) ?_
  refine r_aload_n rfl rfl ?_
  refine r_iconst (v := nI 0) rfl (by decide) ?_
  refine r_putI rfl hM.1 rfl (Or.inl rfl) (by first | rfl | decide) (by first | rfl | decide) ?_
  refine r_iload_n rfl rfl ?_
  refine r_iconst (v := nI 1) rfl (by decide) ?_
  refine r_icmp_ne rfl (fun _ => ?_) (fun q => absurd q (by decide))
  refine r_iload_n rfl rfl ?_
  refine r_iconst (v := nI 2) rfl (by decide) ?_
  refine r_icmp_ne rfl (fun _ => ?_) (fun q => absurd q (by decide))
  refine r_iload_n rfl rfl ?_
  refine r_iconst (v := nI 3) rfl (by decide) ?_
  refine r_icmp_ne rfl (fun _ => ?_) (fun q => absurd q (by decide))
  generalize hon : h_X σ (o + 1 + 7) = on
  generalize hpl : h_X σ (o + 1 + 8) = pl
  generalize hin : h_X σ (o + 1 + 9) = into
  have hMs : ML (w_I σ 721 o (nI 0)) o := hM
  have hns : h_I (w_I σ 721 o (nI 0)) 711 o = nI n := (hI_n _ _ (by decide)).trans hn
  have hon : h_X (w_I σ 721 o (nI 0)) (o + 1 + 7) = on := hon
  have hpl : h_X (w_I σ 721 o (nI 0)) (o + 1 + 8) = pl := hpl
  have hin : h_X (w_I σ 721 o (nI 0)) (o + 1 + 9) = into := hin
  generalize w_I σ 721 o (nI 0) = ρ at hMs hns hon hpl hin
  have hM := hMs
  have hn := hns
  refine r_aload_n rfl rfl ?_
  refine r_iload_n rfl rfl ?_
  refine r_callV (As := [_]) rfl (by decide) rfl hM.1 rfl rfl (Nat.le_of_ble_eq_true rfl) ⟨Nat.le_of_ble_eq_true rfl, Nat.le_of_ble_eq_true rfl⟩ (c_M_hanging hM hn hn2) (kc' := 0) (ks' := 0) (by omega) (by omega) (by decide) ?_
  rintro r τ ⟨rfl, rfl⟩
  rw [hon]
  refine r_istore rfl (by decide) ?_
  refine r_aload_n rfl rfl ?_
  refine r_iload_n rfl rfl ?_
  refine r_callV (As := [_]) rfl (by decide) rfl hM.1 rfl rfl (Nat.le_of_ble_eq_true rfl) ⟨Nat.le_of_ble_eq_true rfl, Nat.le_of_ble_eq_true rfl⟩ (c_M_hanging hM hn hn2) (kc' := 0) (ks' := 0) (by omega) (by omega) (by decide) ?_
  rintro r τ ⟨rfl, rfl⟩
  rw [hon]
  generalize hmx : cntB (fun z => decide (on z = nI x)) n = mx
  generalize hmy : cntB (fun z => decide (on z = nI y)) n = my
  refine r_istore rfl (by decide) ?_
  refine r_iconst (v := nI 0) rfl (by decide) ?_
  refine r_istore rfl (by decide) ?_
  have loop : ∀ (d k : Nat), k + d = n → Gm l D m_M_does 0 0 (fun r τ' => r = some (.int (nI (mx + my))) ∧ τ' = w_X (w_X (w_X τ (o + 1 + 7) (upd (jnO on x y n) y (-9))) (o + 1 + 8) (plDn (jnO on x y n) (jnP on pl y mx n) y n)) (o + 1 + 9) (upd into y (nI x))) 68 [some (va_rf (some o)), some (.int (nI 4)), some (.int (nI x)), some (.int (nI y)), some (.int w), some (.int (nI mx)), some (.int (nI my)), some (.int (nI k))] [] (w_X (w_X τ (o + 1 + 7) (jnO on x y k)) (o + 1 + 8) (jnP on pl y mx k)) 0 0 := by
    intro d
    induction d with
    | zero =>
      intro k hk
      have hkn : k = n := by omega
      subst hkn
      refine r_iload rfl rfl ?_
      refine r_aload_n rfl rfl ?_
      (first | refine r_getIv rfl hM.1 rfl (by assumption) ?_ | refine r_getI rfl hM.1 rfl ?_)
      refine r_geN rfl (by omega) (by omega) (fun _ => ?_) (fun q => by omega)
      refine r_aload_n rfl rfl ?_
      refine r_iload_n rfl rfl ?_
      have hM2 : ML (w_X (w_X τ (o + 1 + 7) (jnO on x y k)) (o + 1 + 8) (jnP on pl y mx k)) o := hM
      refine r_callV (As := [_]) rfl (by decide) rfl hM2.1 rfl rfl (Nat.le_of_ble_eq_true rfl) ⟨Nat.le_of_ble_eq_true rfl, Nat.le_of_ble_eq_true rfl⟩ (c_M_takeOut hM2 hn hn2 hy) (kc' := 0) (ks' := 0) (by omega) (by omega) (by decide) ?_
      rintro r τ2 ⟨rfl, rfl⟩
      rw [hX_n _ _ (show o + 1 + 7 ≠ o + 1 + 8 by omega), hX_w, hX_w, wX_comm (w_X τ (o + 1 + 7) _) _ _ (show o + 1 + 8 ≠ o + 1 + 7 by omega), wX_same, wX_same]
      refine r_aload_n rfl rfl ?_
      refine r_mg (j := 9) hM rfl rfl (by decide) ?_
      refine r_iload_n rfl rfl ?_
      refine r_iload_n rfl rfl ?_
      refine r_mis (j := 9) hM rfl rfl (by decide) (by first | rfl | assumption) (show _ < 120 by omega) ?_
      refine r_iload rfl rfl ?_
      refine r_iload rfl rfl ?_
      (first | refine r_iaddN rfl ?_ | refine r_iadd rfl ?_)
      refine r_iret rfl rfl ⟨rfl, ?_⟩
      rw [hX_n _ _ (show o + 1 + 9 ≠ o + 1 + 8 by omega), hX_n _ _ (show o + 1 + 9 ≠ o + 1 + 7 by omega), hin]
    | succ d ih =>
      intro k hk
      refine r_iload rfl rfl ?_
      refine r_aload_n rfl rfl ?_
      (first | refine r_getIv rfl hM.1 rfl (by assumption) ?_ | refine r_getI rfl hM.1 rfl ?_)
      refine r_geN rfl (by omega) (by omega) (fun q => by omega) (fun _ => ?_)
      refine r_aload_n rfl rfl ?_
      refine r_mg (j := 7) hM rfl rfl (by decide) ?_
      refine r_iload rfl rfl ?_
      refine r_mi (j := 7) hM rfl rfl (by decide) (by first | rfl | assumption) (show _ < 120 by omega) ?_
      refine r_iload_n rfl rfl ?_
      rw [hX_n _ _ (show o + 1 + 7 ≠ o + 1 + 8 by omega), hX_w, jnO_k]
      refine r_icmp_eq rfl (fun q => ?_) (fun q => ?_)
      · refine r_aload_n rfl rfl ?_
        refine r_mg (j := 7) hM rfl rfl (by decide) ?_
        refine r_iload rfl rfl ?_
        refine r_iload_n rfl rfl ?_
        refine r_mis (j := 7) hM rfl rfl (by decide) (by first | rfl | assumption) (show _ < 120 by omega) ?_
        refine r_aload_n rfl rfl ?_
        refine r_mg (j := 8) hM rfl rfl (by decide) ?_
        refine r_iload rfl rfl ?_
        refine r_dup2 rfl (by first | rfl | exact rf_cat _) (by first | rfl | exact rf_cat _) ?_
        refine r_mi (j := 8) hM rfl rfl (by decide) (by first | rfl | assumption) (show _ < 120 by omega) ?_
        refine r_iload rfl rfl ?_
        (first | refine r_iaddN rfl ?_ | refine r_iadd rfl ?_)
        refine r_mis (j := 8) hM rfl rfl (by decide) (by first | rfl | assumption) (show _ < 120 by omega) ?_
        refine r_iinc rfl rfl (nI_inc _) ?_
        refine r_goto rfl ?_
        have e := ih (k + 1) (by omega)
        rw [jnO_y q, jnP_y q] at e
        rw [hX_n _ _ (show o + 1 + 7 ≠ o + 1 + 8 by omega), hX_w, hX_n _ _ (show o + 1 + 8 ≠ o + 1 + 7 by omega), hX_w, jnP_k, wX_comm (w_X τ (o + 1 + 7) _) _ _ (show o + 1 + 8 ≠ o + 1 + 7 by omega), wX_same, wX_same]
        exact e
      · refine r_goto rfl ?_
        refine r_iinc rfl rfl (nI_inc _) ?_
        refine r_goto rfl ?_
        have e := ih (k + 1) (by omega)
        rw [jnO_n q, jnP_n q] at e
        exact e
  have e := loop n 0 (by omega)
  rw [jnO_0, jnP_0, ← hon, ← hpl, wX_self, wX_self] at e
  rw [← hon, ← hpl]
  exact e
end MC
end
section
/-! ===== the reference: texts of sixty bytes a thing, the line ===== -/
/-- thing x's text in the rows jT (bytes), jS (sizes) -/
def Tx (σ : Hp) (o jT jS x : Nat) (xs : List Int32) : Prop := h_X σ (o + 1 + jS) x = nI xs.length ∧ xs.length ≤ 60 ∧ ∀ i, i < xs.length → h_X σ (o + 1 + jT) (60 * x + i) = xs.getD i 0
/-- only thing x's text has changed there -/
def TF (σ τ : Hp) (o jT jS x : Nat) : Prop := ∃ T S, τ = w_X (w_X σ (o + 1 + jT) T) (o + 1 + jS) S ∧ (∀ i, ¬ (60 * x ≤ i ∧ i < 60 * x + 60) → T i = h_X σ (o + 1 + jT) i) ∧ ∀ z, z ≠ x → S z = h_X σ (o + 1 + jS) z
theorem TF.rf (σ : Hp) (o jT jS x : Nat) : TF σ σ o jT jS x := ⟨h_X σ (o + 1 + jT), h_X σ (o + 1 + jS), by rw [wX_self, wX_self], fun _ _ => rfl, fun _ _ => rfl⟩
theorem TF.tr {σ τ ρ : Hp} {o jT jS x : Nat} (hj : jT ≠ jS) (h : TF σ τ o jT jS x) (g : TF τ ρ o jT jS x) : TF σ ρ o jT jS x := by
  obtain ⟨T, S, rfl, h1, h2⟩ := h
  obtain ⟨T', S', rfl, g1, g2⟩ := g
  rw [hX_n _ _ (by omega), hX_w] at g1
  rw [hX_w] at g2
  refine ⟨T', S', ?_, fun i hi => (g1 i hi).trans (h1 i hi), fun z hz => (g2 z hz).trans (h2 z hz)⟩
  rw [wX_comm (w_X σ (o + 1 + jT) T) _ _ (show o + 1 + jS ≠ o + 1 + jT by omega), wX_same, wX_same]
theorem Tx.keep {σ τ : Hp} {o jT jS x z : Nat} {xs : List Int32} (hj : jT ≠ jS) (h : TF σ τ o jT jS x) (hz : z ≠ x) (g : Tx σ o jT jS z xs) : Tx τ o jT jS z xs := by
  obtain ⟨T, S, rfl, h1, h2⟩ := h
  obtain ⟨g1, g2, g3⟩ := g
  unfold Tx
  rw [hX_w, hX_n _ _ (by omega), hX_w]
  exact ⟨(h2 z hz).trans g1, g2, fun i hi => (h1 _ (by omega)).trans (g3 i hi)⟩
theorem Tx.put {σ : Hp} {o jT jS x : Nat} {xs : List Int32} {v : Int32} (hj : jT ≠ jS) (h : Tx σ o jT jS x xs) (hl : xs.length < 60) : Tx (w_X (w_X σ (o + 1 + jT) (upd (h_X σ (o + 1 + jT)) (60 * x + xs.length) v)) (o + 1 + jS) (upd (h_X σ (o + 1 + jS)) x (nI (xs.length + 1)))) o jT jS x (xs ++ [v]) ∧ TF σ (w_X (w_X σ (o + 1 + jT) (upd (h_X σ (o + 1 + jT)) (60 * x + xs.length) v)) (o + 1 + jS) (upd (h_X σ (o + 1 + jS)) x (nI (xs.length + 1)))) o jT jS x := by
  obtain ⟨g1, g2, g3⟩ := h
  refine ⟨?_, _, _, rfl, fun i hi => upd_n _ _ (by omega), fun z hz => upd_n _ _ hz⟩
  unfold Tx
  rw [hX_w, hX_n _ _ (by omega), hX_w]
  refine ⟨by rw [upd_s, List.length_append]; rfl, by simp; omega, fun i hi => ?_⟩
  simp only [List.length_append, List.length_cons, List.length_nil] at hi
  by_cases e : i = xs.length
  · rw [e, upd_s]
    simp [List.getD_eq_getElem?_getD]
  · rw [upd_n _ _ (by omega), g3 i (by omega), List.getD_eq_getElem?_getD, List.getD_eq_getElem?_getD, List.getElem?_append_left (by omega)]
section MC
variable {l : Launch} {D : DD} {σ : Hp} {o : Nat}
theorem c_M_signByte {x : Nat} {c : Int32} {xs : List Int32} (hM : ML σ o) (hx : x < 120) (h : Tx σ o 20 21 x xs) (hl : xs.length < 60) : Cn l D m_M_signByte 0 0 [va_rf (some o), .int (nI x), .int c] σ (fun r τ => r = none ∧ Tx τ o 20 21 x (xs ++ [b8 c]) ∧ TF σ τ o 20 21 x) := by
  have h1 := h.1
  refine Cn.of (by decide) (by repeat (first | exact ca_0 | refine ca_i ?_ | refine ca_r ?_)) (Nat.le_of_ble_eq_true rfl) ?_
  refine r_aload_n rfl rfl ?_
  refine r_mg (j := 20) hM rfl rfl (by decide) ?_
  refine r_bipush (v := nI 60) rfl (by decide) ?_
  refine r_iload_n rfl rfl ?_
  (first | refine r_imulN rfl ?_ | refine r_imul rfl ?_)
  refine r_aload_n rfl rfl ?_
  refine r_mg (j := 21) hM rfl rfl (by decide) ?_
  refine r_iload_n rfl rfl ?_
  refine r_mi (j := 21) hM rfl rfl (by decide) (by first | rfl | assumption) (show _ < 120 by omega) ?_
  rw [h1]
  (first | refine r_iaddN rfl ?_ | refine r_iadd rfl ?_)
  refine r_iload_n rfl rfl ?_
  refine r_i2b (v := b8 c) rfl rfl ?_
  refine r_mbs (j := 20) hM rfl rfl (by decide) rfl (show _ < 7200 by omega) (b8_nar c) (b8_fit c) ?_
  refine r_aload_n rfl rfl ?_
  refine r_mg (j := 21) hM rfl rfl (by decide) ?_
  refine r_iload_n rfl rfl ?_
  refine r_dup2 rfl (by first | rfl | exact rf_cat _) (by first | rfl | exact rf_cat _) ?_
  refine r_mi (j := 21) hM rfl rfl (by decide) (by first | rfl | assumption) (show _ < 120 by omega) ?_
  rw [hX_n _ _ (show o + 1 + 21 ≠ o + 1 + 20 by omega), h1]
  refine r_iconst (v := nI 1) rfl (by decide) ?_
  (first | refine r_iaddN rfl ?_ | refine r_iadd rfl ?_)
  refine r_mis (j := 21) hM rfl rfl (by decide) rfl (show _ < 120 by omega) ?_
  rw [hX_n _ _ (show o + 1 + 21 ≠ o + 1 + 20 by omega)]
  exact r_vret rfl rfl ⟨rfl, h.put (by decide) hl⟩
theorem c_M_numberByte {x : Nat} {c : Int32} {xs : List Int32} (hM : ML σ o) (hx : x < 120) (h : Tx σ o 18 19 x xs) (hl : xs.length < 60) : Cn l D m_M_numberByte 0 0 [va_rf (some o), .int (nI x), .int c] σ (fun r τ => r = none ∧ Tx τ o 18 19 x (xs ++ [b8 c]) ∧ TF σ τ o 18 19 x) := by
  have h1 := h.1
  refine Cn.of (by decide) (by repeat (first | exact ca_0 | refine ca_i ?_ | refine ca_r ?_)) (Nat.le_of_ble_eq_true rfl) ?_
  refine r_aload_n rfl rfl ?_
  refine r_mg (j := 18) hM rfl rfl (by decide) ?_
  refine r_bipush (v := nI 60) rfl (by decide) ?_
  refine r_iload_n rfl rfl ?_
  (first | refine r_imulN rfl ?_ | refine r_imul rfl ?_)
  refine r_aload_n rfl rfl ?_
  refine r_mg (j := 19) hM rfl rfl (by decide) ?_
  refine r_iload_n rfl rfl ?_
  refine r_mi (j := 19) hM rfl rfl (by decide) (by first | rfl | assumption) (show _ < 120 by omega) ?_
  rw [h1]
  (first | refine r_iaddN rfl ?_ | refine r_iadd rfl ?_)
  refine r_iload_n rfl rfl ?_
  refine r_i2b (v := b8 c) rfl rfl ?_
  refine r_mbs (j := 18) hM rfl rfl (by decide) rfl (show _ < 7200 by omega) (b8_nar c) (b8_fit c) ?_
  refine r_aload_n rfl rfl ?_
  refine r_mg (j := 19) hM rfl rfl (by decide) ?_
  refine r_iload_n rfl rfl ?_
  refine r_dup2 rfl (by first | rfl | exact rf_cat _) (by first | rfl | exact rf_cat _) ?_
  refine r_mi (j := 19) hM rfl rfl (by decide) (by first | rfl | assumption) (show _ < 120 by omega) ?_
  rw [hX_n _ _ (show o + 1 + 19 ≠ o + 1 + 18 by omega), h1]
  refine r_iconst (v := nI 1) rfl (by decide) ?_
  (first | refine r_iaddN rfl ?_ | refine r_iadd rfl ?_)
  refine r_mis (j := 19) hM rfl rfl (by decide) rfl (show _ < 120 by omega) ?_
  rw [hX_n _ _ (show o + 1 + 19 ≠ o + 1 + 18 by omega)]
  exact r_vret rfl rfl ⟨rfl, h.put (by decide) hl⟩
/-- the line holds xs -/
def Lb (σ : Hp) (o : Nat) (xs : List Int32) : Prop := h_I σ 741 o = nI xs.length ∧ xs.length ≤ 2000 ∧ ∀ i, i < xs.length → h_X σ (o + 1 + 30) i = xs.getD i 0
def LbF (σ τ : Hp) (o : Nat) : Prop := ∃ g v, τ = w_I (w_X σ (o + 1 + 30) g) 741 o v
theorem LbF.rf (σ : Hp) (o : Nat) : LbF σ σ o := ⟨h_X σ (o + 1 + 30), h_I σ 741 o, by
  rw [wX_self]
  unfold w_I
  have : u_2 (h_I σ) 741 o (h_I σ 741 o) = h_I σ := by
    funext f a
    unfold u_2
    by_cases e : f = 741 ∧ a = o
    · rw [if_pos e, e.1, e.2]
    · rw [if_neg e]
  rw [this]
  rfl⟩
theorem LbF.tr {τ ρ : Hp} (h : LbF σ τ o) (g : LbF τ ρ o) : LbF σ ρ o := by
  obtain ⟨a, v, rfl⟩ := h
  obtain ⟨b, w, rfl⟩ := g
  refine ⟨b, w, ?_⟩
  rw [wI_wX, wI_same, wI_wX, wX_same]
  exact (wI_wX _ _ _ _ _ _).symm
theorem c_M_lineByte {c : Int32} {xs : List Int32} (hM : ML σ o) (h : Lb σ o xs) (hl : xs.length < 2000) : Cn l D m_M_lineByte 0 0 [va_rf (some o), .int c] σ (fun r τ => r = none ∧ Lb τ o (xs ++ [b8 c]) ∧ LbF σ τ o) := by
  obtain ⟨h1, h2, h3⟩ := id h
  refine Cn.of (by decide) (by repeat (first | exact ca_0 | refine ca_i ?_ | refine ca_r ?_)) (Nat.le_of_ble_eq_true rfl) ?_
  refine r_aload_n rfl rfl ?_
  refine r_mg (j := 30) hM rfl rfl (by decide) ?_
  refine r_aload_n rfl rfl ?_
  (first | refine r_getIv rfl hM.1 rfl (by assumption) ?_ | refine r_getI rfl hM.1 rfl ?_)
  refine r_iload_n rfl rfl ?_
  refine r_i2b (v := b8 c) rfl rfl ?_
  refine r_mbs (j := 30) hM rfl rfl (by decide) rfl (show _ < 2000 by omega) (b8_nar c) (b8_fit c) ?_
  refine r_aload_n rfl rfl ?_
  refine r_dup rfl (by first | rfl | exact rf_cat _) ?_
  (first | refine r_getIv rfl hM.1 rfl (by assumption) ?_ | refine r_getI rfl hM.1 rfl ?_)
  refine r_iconst (v := nI 1) rfl (by decide) ?_
  (first | refine r_iaddN rfl ?_ | refine r_iadd rfl ?_)
  refine r_putI rfl hM.1 rfl (Or.inl rfl) (by first | rfl | decide) (by first | rfl | decide) ?_
  refine r_vret rfl rfl ⟨rfl, ⟨?_, by simp; omega, fun i hi => ?_⟩, _, _, rfl⟩
  · rw [hI_w, List.length_append]
    rfl
  · rw [hX_wI, hX_w]
    simp only [List.length_append, List.length_cons, List.length_nil] at hi
    by_cases e : i = xs.length
    · rw [e, upd_s]
      simp [List.getD_eq_getElem?_getD]
    · rw [upd_n _ _ e, h3 i (by omega), List.getD_eq_getElem?_getD, List.getD_eq_getElem?_getD, List.getElem?_append_left (by omega)]
/-- a byte of the tape, as the reference sees it: 0 behind the end -/
def seeB (xs : List Int32) (p : Nat) : Int32 := if p < xs.length then xs.getD p 0 &&& 255 else 0
theorem c_M_see {p : Nat} {xs : List Int32} (hM : ML σ o) (hz : h_I σ 749 o = nI xs.length) (hl : xs.length ≤ 600) (hp : p < 2 ^ 31) (hx : ∀ i, i < xs.length → h_X σ (o + 1 + 0) i = xs.getD i 0) : Cn l D m_M_see 0 0 [va_rf (some o), .int (nI p)] σ (fun r τ => r = some (.int (seeB xs p)) ∧ τ = σ) := by
  refine Cn.of (by decide) (by repeat (first | exact ca_0 | refine ca_i ?_ | refine ca_r ?_)) (Nat.le_of_ble_eq_true rfl) ?_
  refine r_iload_n rfl rfl ?_
  refine r_aload_n rfl rfl ?_
  (first | refine r_getIv rfl hM.1 rfl (by assumption) ?_ | refine r_getI rfl hM.1 rfl ?_)
  refine r_geN rfl hp (by omega) (fun q => ?_) (fun q => ?_)
  · refine r_iconst (v := nI 0) rfl (by decide) ?_
    exact r_iret rfl rfl ⟨by unfold seeB; rw [if_neg (by omega)]; rfl, rfl⟩
  · refine r_aload_n rfl rfl ?_
    refine r_mg (j := 0) hM rfl rfl (by decide) ?_
    refine r_iload_n rfl rfl ?_
    refine r_mb (j := 0) hM rfl rfl (by decide) (by first | rfl | assumption) (show _ < 600 by omega) ?_
    refine r_sipush (v := nI 255) rfl (by decide) ?_
    refine r_iand rfl ?_
    refine r_goto rfl ?_
    refine r_iret rfl rfl ⟨?_, rfl⟩
    unfold seeB
    rw [if_pos q, hx p q]
    rfl
def isR (b : Int32) : Bool := isL b || (decide (48 ≤ b) && decide (b ≤ 57)) || decide (b = 46) || decide (b = 40) || decide (b = 41)
theorem c_M_isOfRun {b : Int32} : Cn l D m_M_isOfRun 0 0 [.int b] σ (fun r τ => r = some (.int (nI (isR b).toNat)) ∧ τ = σ) := by
  have e48 : nI 48 = 48 := by decide
  have e57 : nI 57 = 57 := by decide
  have e46 : nI 46 = 46 := by decide
  have e40 : nI 40 = 40 := by decide
  have e41 : nI 41 = 41 := by decide
  refine Cn.of (by decide) (by repeat (first | exact ca_0 | refine ca_i ?_ | refine ca_r ?_)) (Nat.le_of_ble_eq_true rfl) ?_
  have yes : isR b = true → Gm l D m_M_isOfRun 0 0 (fun r τ => r = some (.int (nI (isR b).toNat)) ∧ τ = σ) 37 (en_L [.int b] 1) [] σ 0 0 := by
    intro h
    refine r_iconst (v := nI 1) rfl (by decide) ?_
    refine r_goto rfl ?_
    exact r_zret rfl rfl (by decide) ⟨by rw [h]; rfl, rfl⟩
  refine r_iload_n rfl rfl ?_
  refine r_callS (As := [_]) rfl (by decide) rfl rfl rfl (Nat.le_of_ble_eq_true rfl) ⟨Nat.le_of_ble_eq_true rfl, Nat.le_of_ble_eq_true rfl⟩ c_M_isLetter (kc' := 0) (ks' := 0) (by omega) (by omega) ?_
  rintro r τ ⟨rfl, rfl⟩
  refine r_ifneB rfl (fun q => yes (by unfold isR; rw [q]; rfl)) (fun q0 => ?_)
  have tail : ¬ (48 ≤ b ∧ b ≤ 57) → Gm l D m_M_isOfRun 0 0 (fun r τ' => r = some (.int (nI (isR b).toNat)) ∧ τ' = τ) 19 (en_L [.int b] 1) [] τ 0 0 := by
    intro hd
    have hd2 : (decide (48 ≤ b) && decide (b ≤ 57)) = false := by simpa using hd
    refine r_iload_n rfl rfl ?_
    refine r_bipush (v := nI 46) rfl (by decide) ?_
    refine r_icmp_eq rfl (fun q => yes (by unfold isR; rw [e46] at q; rw [decide_eq_true q]; simp)) (fun q1 => ?_)
    refine r_iload_n rfl rfl ?_
    refine r_bipush (v := nI 40) rfl (by decide) ?_
    refine r_icmp_eq rfl (fun q => yes (by unfold isR; rw [e40] at q; rw [decide_eq_true (p := b = 40) q]; simp)) (fun q2 => ?_)
    refine r_iload_n rfl rfl ?_
    refine r_bipush (v := nI 41) rfl (by decide) ?_
    refine r_icmp_ne rfl (fun q3 => ?_) (fun q => yes (by unfold isR; rw [e41] at q; rw [decide_eq_true (p := b = 41) q]; simp))
    rw [e46] at q1
    rw [e40] at q2
    rw [e41] at q3
    refine r_iconst (v := nI 0) rfl (by decide) ?_
    refine r_zret rfl rfl (by decide) ⟨?_, rfl⟩
    unfold isR
    rw [q0, hd2, decide_eq_false q1, decide_eq_false q2, decide_eq_false q3]
    rfl
  refine r_iload_n rfl rfl ?_
  refine r_bipush (v := nI 48) rfl (by decide) ?_
  refine r_icmp_lt rfl (fun q => ?_) (fun q => ?_)
  · rw [e48] at q
    exact tail (fun w => absurd w.1 (Int32.not_le.mpr q))
  · rw [e48] at q
    refine r_iload_n rfl rfl ?_
    refine r_bipush (v := nI 57) rfl (by decide) ?_
    refine r_icmp_le rfl (fun q2 => ?_) (fun q2 => ?_)
    · rw [e57] at q2
      exact yes (by unfold isR; rw [decide_eq_true (Int32.not_lt.mp q), decide_eq_true q2]; simp)
    · rw [e57] at q2
      exact tail (fun w => q2 w.2)
theorem c_M_tell {a b c d : Int32} {m : Nat} (hM : ML σ o) (hm : h_I σ 733 o = nI m) (hm2 : m < 100) : Cn l D m_M_tell 0 0 [va_rf (some o), .int a, .int b, .int c, .int d] σ (fun r τ => r = some (.int (nI m)) ∧ τ = w_I (w_X (w_X (w_X (w_X (w_X σ (o + 1 + 24) (upd (h_X σ (o + 1 + 24)) m a)) (o + 1 + 25) (upd (h_X σ (o + 1 + 25)) m b)) (o + 1 + 26) (upd (h_X σ (o + 1 + 26)) m c)) (o + 1 + 27) (upd (h_X σ (o + 1 + 27)) m d)) (o + 1 + 28) (upd (h_X σ (o + 1 + 28)) m (nI 0))) 733 o (nI (m + 1))) := by
  refine Cn.of (by decide) (by repeat (first | exact ca_0 | refine ca_i ?_ | refine ca_r ?_)) (Nat.le_of_ble_eq_true rfl) ?_
  refine r_aload_n rfl rfl ?_
  refine r_mg (j := 24) hM rfl rfl (by decide) ?_
  refine r_aload_n rfl rfl ?_
  (first | refine r_getIv rfl hM.1 rfl (by assumption) ?_ | refine r_getI rfl hM.1 rfl ?_)
  refine r_iload_n rfl rfl ?_
  refine r_mis (j := 24) hM rfl rfl (by decide) (by first | rfl | assumption) (show _ < 100 by omega) ?_
  refine r_aload_n rfl rfl ?_
  refine r_mg (j := 25) hM rfl rfl (by decide) ?_
  refine r_aload_n rfl rfl ?_
  (first | refine r_getIv rfl hM.1 rfl (by assumption) ?_ | refine r_getI rfl hM.1 rfl ?_)
  refine r_iload_n rfl rfl ?_
  refine r_mis (j := 25) hM rfl rfl (by decide) (by first | rfl | assumption) (show _ < 100 by omega) ?_
  refine r_aload_n rfl rfl ?_
  refine r_mg (j := 26) hM rfl rfl (by decide) ?_
  refine r_aload_n rfl rfl ?_
  (first | refine r_getIv rfl hM.1 rfl (by assumption) ?_ | refine r_getI rfl hM.1 rfl ?_)
  refine r_iload_n rfl rfl ?_
  refine r_mis (j := 26) hM rfl rfl (by decide) (by first | rfl | assumption) (show _ < 100 by omega) ?_
  refine r_aload_n rfl rfl ?_
  refine r_mg (j := 27) hM rfl rfl (by decide) ?_
  refine r_aload_n rfl rfl ?_
  (first | refine r_getIv rfl hM.1 rfl (by assumption) ?_ | refine r_getI rfl hM.1 rfl ?_)
  refine r_iload rfl rfl ?_
  refine r_mis (j := 27) hM rfl rfl (by decide) (by first | rfl | assumption) (show _ < 100 by omega) ?_
  refine r_aload_n rfl rfl ?_
  refine r_mg (j := 28) hM rfl rfl (by decide) ?_
  refine r_aload_n rfl rfl ?_
  (first | refine r_getIv rfl hM.1 rfl (by assumption) ?_ | refine r_getI rfl hM.1 rfl ?_)
  refine r_iconst (v := nI 0) rfl (by decide) ?_
  refine r_mis (j := 28) hM rfl rfl (by decide) (by first | rfl | assumption) (show _ < 100 by omega) ?_
  refine r_aload_n rfl rfl ?_
  refine r_dup rfl (by first | rfl | exact rf_cat _) ?_
  (first | refine r_getIv rfl hM.1 rfl (by assumption) ?_ | refine r_getI rfl hM.1 rfl ?_)
  refine r_iconst (v := nI 1) rfl (by decide) ?_
  (first | refine r_iaddN rfl ?_ | refine r_iadd rfl ?_)
  refine r_putI rfl hM.1 rfl (Or.inl rfl) (by first | rfl | decide) (by first | rfl | decide) ?_
  refine r_aload_n rfl rfl ?_
  refine r_getIv rfl hM.1 rfl (hI_w _ _ _ _) ?_
  refine r_iconst (v := nI 1) rfl (by decide) ?_
  refine r_isubN rfl (by omega) ?_
  refine r_iret rfl rfl ⟨rfl, ?_⟩
  simp only [hX_n _ _ (show o + 1 + 25 ≠ o + 1 + 24 by omega), hX_n _ _ (show o + 1 + 26 ≠ o + 1 + 25 by omega), hX_n _ _ (show o + 1 + 26 ≠ o + 1 + 24 by omega), hX_n _ _ (show o + 1 + 27 ≠ o + 1 + 26 by omega), hX_n _ _ (show o + 1 + 27 ≠ o + 1 + 25 by omega), hX_n _ _ (show o + 1 + 27 ≠ o + 1 + 24 by omega), hX_n _ _ (show o + 1 + 28 ≠ o + 1 + 27 by omega), hX_n _ _ (show o + 1 + 28 ≠ o + 1 + 26 by omega), hX_n _ _ (show o + 1 + 28 ≠ o + 1 + 25 by omega), hX_n _ _ (show o + 1 + 28 ≠ o + 1 + 24 by omega)]
end MC
end
section
/-! ===== the reference: signs ===== -/
section NR
variable {l : Launch} {D : DD} {R : Room} {Z : List Frame → Array Value → State → State → Prop} {y pc n x kc ks : Nat} {ls : List (Option Value)} {st : List Value} {σ : Hp}
theorem r_idivN {a d : Nat} (hf : ft y pc = some (.idiv, n, x)) (ha : a < 2 ^ 31) (h0 : 0 < d) (hd : d < 2 ^ 31) (k : G l D R Z y n ls (.int (nI (a / d)) :: st) σ kc ks) : G l D R Z y pc ls (.int (nI d) :: .int (nI a) :: st) σ kc ks := by
  refine r_idiv hf (nI_ne0 h0 hd) ?_
  rw [pk_div ha h0 hd]
  exact k
theorem r_iremN {a d : Nat} (hf : ft y pc = some (.irem, n, x)) (ha : a < 2 ^ 31) (h0 : 0 < d) (hd : d < 2 ^ 31) (k : G l D R Z y n ls (.int (nI (a % d)) :: st) σ kc ks) : G l D R Z y pc ls (.int (nI d) :: .int (nI a) :: st) σ kc ks := by
  refine r_irem hf (nI_ne0 h0 hd) ?_
  rw [pk_rem ha h0 hd]
  exact k
end NR
/-- a digit in Roman figures, by the signs for one, five, ten -/
def romD (d : Nat) (a b c : Int32) : List Int32 := if d = 9 then [b8 a, b8 c] else if d = 4 then [b8 a, b8 b] else (if 5 ≤ d then [b8 b] else []) ++ List.replicate (d % 5) (b8 a)
theorem romD_len (d : Nat) (a b c : Int32) : (romD d a b c).length ≤ 5 := by
  unfold romD
  split
  · simp
  · split
    · simp
    · have : d % 5 < 5 := Nat.mod_lt _ (by omega)
      split <;> simp <;> omega
def figs (c : Nat) : List Int32 := (if 100 ≤ c then [b8 (nI (48 + c / 100 % 10))] else []) ++ (if 10 ≤ c then [b8 (nI (48 + c / 10 % 10))] else []) ++ [b8 (nI (48 + c % 10))]
def lets (f c : Nat) : List Int32 := (if 26 < c then [b8 (nI (f + (c - 1) / 26 - 1))] else []) ++ [b8 (nI (f + (c - 1) % 26))]
def roms (low c : Nat) : List Int32 := romD (c / 100 % 10) (nI (67 + low)) (nI (68 + low)) (nI (77 + low)) ++ romD (c / 10 % 10) (nI (88 + low)) (nI (76 + low)) (nI (67 + low)) ++ romD (c % 10) (nI (73 + low)) (nI (86 + low)) (nI (88 + low))
/-- the sign of a count c in style s -/
def sgn (s c : Nat) : List Int32 := if s = 0 then figs c else if s = 1 then lets 97 c else if s = 2 then lets 65 c else if s = 3 then roms 32 c else roms 0 c
theorem TF.ML {σ τ : Hp} {o o' jT jS x : Nat} (h : TF σ τ o jT jS x) (hM : ML σ o') : ML τ o' := by
  obtain ⟨T, S, rfl, -, -⟩ := h
  exact hM
theorem TF.row {σ τ : Hp} {o jT jS x b : Nat} (h : TF σ τ o jT jS x) (h1 : b ≠ o + 1 + jT) (h2 : b ≠ o + 1 + jS) : h_X τ b = h_X σ b := by
  obtain ⟨T, S, rfl, -, -⟩ := h
  rw [hX_n _ _ h2, hX_n _ _ h1]
theorem TF.I {σ τ : Hp} {o jT jS x : Nat} (h : TF σ τ o jT jS x) : h_I τ = h_I σ := by
  obtain ⟨T, S, rfl, -, -⟩ := h
  rfl
section MC
variable {l : Launch} {D : DD} {σ : Hp} {o : Nat}
theorem c_M_roman {x d : Nat} {a b c : Int32} {xs : List Int32} (hM : ML σ o) (hx : x < 120) (h : Tx σ o 20 21 x xs) (hl : xs.length + 5 ≤ 60) (hd : d < 10) : Cn l D m_M_roman 0 0 [va_rf (some o), .int (nI x), .int (nI d), .int a, .int b, .int c] σ (fun r τ => r = none ∧ Tx τ o 20 21 x (xs ++ romD d a b c) ∧ TF σ τ o 20 21 x) := by
  refine Cn.of (by decide) (by repeat (first | exact ca_0 | refine ca_i ?_ | refine ca_r ?_)) (Nat.le_of_ble_eq_true rfl) ?_
  refine r_iload_n rfl rfl ?_
  refine r_bipush (v := nI 9) rfl (by decide) ?_
  refine r_neN rfl (by omega) (by omega) (fun q9 => ?_) (fun q9 => ?_)
  · refine r_iload_n rfl rfl ?_
    refine r_iconst (v := nI 4) rfl (by decide) ?_
    refine r_neN rfl (by omega) (by omega) (fun q4 => ?_) (fun q4 => ?_)
    · have e0 : romD d a b c = (if 5 ≤ d then [b8 b] else []) ++ List.replicate (d % 5) (b8 a) := by
        unfold romD
        rw [if_neg q9, if_neg q4]
      have hd5 : d % 5 < 5 := Nat.mod_lt _ (by omega)
      have ones : ∀ (m k : Nat) (τ : Hp) (zs : List Int32), k + m = d % 5 → Tx τ o 20 21 x zs → TF σ τ o 20 21 x → zs ++ List.replicate m (b8 a) = xs ++ romD d a b c → zs.length + m ≤ 60 → Gm l D m_M_roman 0 0 (fun r τ => r = none ∧ Tx τ o 20 21 x (xs ++ romD d a b c) ∧ TF σ τ o 20 21 x) 58 [some (va_rf (some o)), some (.int (nI x)), some (.int (nI d)), some (.int a), some (.int b), some (.int c), some (.int (nI k))] [] τ 0 0 := by
        intro m
        induction m with
        | zero =>
          intro k τ zs hk g1 g2 g3 g4
          refine r_iload rfl rfl ?_
          refine r_iload_n rfl rfl ?_
          refine r_iconst (v := nI 5) rfl (by decide) ?_
          refine r_iremN rfl (by omega) (by omega) (by omega) ?_
          refine r_geN rfl (by omega) (by omega) (fun _ => ?_) (fun q => by omega)
          refine r_vret rfl rfl ⟨rfl, ?_, g2⟩
          rw [← g3]
          simpa using g1
        | succ m ih =>
          intro k τ zs hk g1 g2 g3 g4
          have hMt := g2.ML hM
          refine r_iload rfl rfl ?_
          refine r_iload_n rfl rfl ?_
          refine r_iconst (v := nI 5) rfl (by decide) ?_
          refine r_iremN rfl (by omega) (by omega) (by omega) ?_
          refine r_geN rfl (by omega) (by omega) (fun q => by omega) (fun _ => ?_)
          refine r_aload_n rfl rfl ?_
          refine r_iload_n rfl rfl ?_
          refine r_iload_n rfl rfl ?_
          refine r_callV (As := [_, _]) rfl (by decide) rfl hMt.1 rfl rfl (Nat.le_of_ble_eq_true rfl) ⟨Nat.le_of_ble_eq_true rfl, Nat.le_of_ble_eq_true rfl⟩ (c_M_signByte hMt hx g1 (by omega)) (kc' := 0) (ks' := 0) (by omega) (by omega) (by decide) ?_
          rintro r ρ ⟨rfl, t1, t2⟩
          refine r_iinc rfl rfl (nI_inc _) ?_
          refine r_goto rfl ?_
          refine ih (k + 1) ρ _ (by omega) t1 (g2.tr (by decide) t2) ?_ (by simp; omega)
          rw [← g3, List.append_assoc]
          rfl
      refine r_iload_n rfl rfl ?_
      refine r_iconst (v := nI 5) rfl (by decide) ?_
      refine r_ltN rfl (by omega) (by omega) (fun q => ?_) (fun q => ?_)
      · refine r_iconst (v := nI 0) rfl (by decide) ?_
        refine r_istore rfl (by decide) ?_
        refine ones (d % 5) 0 σ xs (by omega) h (TF.rf _ _ _ _ _) ?_ (by omega)
        rw [e0, if_neg (by omega), List.nil_append]
      · refine r_aload_n rfl rfl ?_
        refine r_iload_n rfl rfl ?_
        refine r_iload rfl rfl ?_
        refine r_callV (As := [_, _]) rfl (by decide) rfl hM.1 rfl rfl (Nat.le_of_ble_eq_true rfl) ⟨Nat.le_of_ble_eq_true rfl, Nat.le_of_ble_eq_true rfl⟩ (c_M_signByte hM hx h (by omega)) (kc' := 0) (ks' := 0) (by omega) (by omega) (by decide) ?_
        rintro r ρ ⟨rfl, t1, t2⟩
        refine r_iconst (v := nI 0) rfl (by decide) ?_
        refine r_istore rfl (by decide) ?_
        refine ones (d % 5) 0 ρ _ (by omega) t1 t2 ?_ (by simp; omega)
        rw [e0, if_pos (by omega), List.append_assoc]
    · refine r_aload_n rfl rfl ?_
      refine r_iload_n rfl rfl ?_
      refine r_iload_n rfl rfl ?_
      refine r_callV (As := [_, _]) rfl (by decide) rfl hM.1 rfl rfl (Nat.le_of_ble_eq_true rfl) ⟨Nat.le_of_ble_eq_true rfl, Nat.le_of_ble_eq_true rfl⟩ (c_M_signByte hM hx h (by omega)) (kc' := 0) (ks' := 0) (by omega) (by omega) (by decide) ?_
      rintro r ρ ⟨rfl, t1, t2⟩
      have hMt := t2.ML hM
      refine r_aload_n rfl rfl ?_
      refine r_iload_n rfl rfl ?_
      refine r_iload rfl rfl ?_
      refine r_callV (As := [_, _]) rfl (by decide) rfl hMt.1 rfl rfl (Nat.le_of_ble_eq_true rfl) ⟨Nat.le_of_ble_eq_true rfl, Nat.le_of_ble_eq_true rfl⟩ (c_M_signByte hMt hx t1 (by simp; omega)) (kc' := 0) (ks' := 0) (by omega) (by omega) (by decide) ?_
      rintro r ρ2 ⟨rfl, s1, s2⟩
      refine r_goto rfl ?_
      refine r_vret rfl rfl ⟨rfl, ?_, t2.tr (by decide) s2⟩
      have e0 : romD d a b c = [b8 a, b8 b] := by
        unfold romD
        rw [if_neg q9, if_pos q4]
      rw [e0]
      simpa using s1
  · refine r_aload_n rfl rfl ?_
    refine r_iload_n rfl rfl ?_
    refine r_iload_n rfl rfl ?_
    refine r_callV (As := [_, _]) rfl (by decide) rfl hM.1 rfl rfl (Nat.le_of_ble_eq_true rfl) ⟨Nat.le_of_ble_eq_true rfl, Nat.le_of_ble_eq_true rfl⟩ (c_M_signByte hM hx h (by omega)) (kc' := 0) (ks' := 0) (by omega) (by omega) (by decide) ?_
    rintro r ρ ⟨rfl, t1, t2⟩
    have hMt := t2.ML hM
    refine r_aload_n rfl rfl ?_
    refine r_iload_n rfl rfl ?_
    refine r_iload rfl rfl ?_
    refine r_callV (As := [_, _]) rfl (by decide) rfl hMt.1 rfl rfl (Nat.le_of_ble_eq_true rfl) ⟨Nat.le_of_ble_eq_true rfl, Nat.le_of_ble_eq_true rfl⟩ (c_M_signByte hMt hx t1 (by simp; omega)) (kc' := 0) (ks' := 0) (by omega) (by omega) (by decide) ?_
    rintro r ρ2 ⟨rfl, s1, s2⟩
    refine r_goto rfl ?_
    refine r_vret rfl rfl ⟨rfl, ?_, t2.tr (by decide) s2⟩
    have e0 : romD d a b c = [b8 a, b8 c] := by
      unfold romD
      rw [if_pos q9]
    rw [e0]
    simpa using s1
set_option maxHeartbeats 1000000 in
theorem c_M_makeSign {x c k s : Nat} {zs : List Int32} (hM : ML σ o) (hx : x < 120) (hc : h_X σ (o + 1 + 16) x = nI c) (hc1 : 1 ≤ c) (hc2 : c ≤ 120) (hk : h_X σ (o + 1 + 6) x = nI k) (hk2 : k < 6) (hs : h_X σ (o + 1 + 4) k = nI s) (hs2 : s < 5) : Cn l D m_M_makeSign 0 0 [va_rf (some o), .int (nI x)] σ (fun r τ => r = none ∧ Tx τ o 20 21 x (sgn s c) ∧ TF σ τ o 20 21 x) := by
  refine Cn.of (by decide) (by repeat (first | exact ca_0 | refine ca_i ?_ | refine ca_r ?_)) (Nat.le_of_ble_eq_true rfl) ?_
  refine r_aload_n rfl rfl ?_
  refine r_mg (j := 21) hM rfl rfl (by decide) ?_
  refine r_iload_n rfl rfl ?_
  refine r_iconst (v := nI 0) rfl (by decide) ?_
  refine r_mis (j := 21) hM rfl rfl (by decide) (by first | rfl | assumption) (show _ < 120 by omega) ?_
  have t0 : Tx (w_X σ (o + 1 + 21) (upd (h_X σ (o + 1 + 21)) x (nI 0))) o 20 21 x [] := by
    refine ⟨?_, by simp, fun i hi => by simp at hi⟩
    rw [hX_w, upd_s]
    rfl
  have f0 : TF σ (w_X σ (o + 1 + 21) (upd (h_X σ (o + 1 + 21)) x (nI 0))) o 20 21 x := by
    refine ⟨h_X σ (o + 1 + 20), _, by rw [wX_self], fun _ _ => rfl, fun z hz => upd_n _ _ hz⟩
  generalize w_X σ (o + 1 + 21) (upd (h_X σ (o + 1 + 21)) x (nI 0)) = ρ at t0 f0
  have hc := (congrFun (f0.row (b := o + 1 + 16) (by omega) (by omega)) x).trans hc
  have hk := (congrFun (f0.row (b := o + 1 + 6) (by omega) (by omega)) x).trans hk
  have hs := (congrFun (f0.row (b := o + 1 + 4) (by omega) (by omega)) k).trans hs
  have hMr := f0.ML hM
  generalize hQ : (fun (r : Option Value) (τ : Hp) => r = none ∧ Tx τ o 20 21 x (sgn s c) ∧ TF σ τ o 20 21 x) = Q
  have hM := hMr
  refine r_aload_n rfl rfl ?_
  refine r_mg (j := 16) hM rfl rfl (by decide) ?_
  refine r_iload_n rfl rfl ?_
  refine r_mi (j := 16) hM rfl rfl (by decide) (by first | rfl | assumption) (show _ < 120 by omega) ?_
  rw [hc]
  refine r_istore_n rfl (by decide) ?_
  refine r_aload_n rfl rfl ?_
  refine r_mg (j := 4) hM rfl rfl (by decide) ?_
  refine r_aload_n rfl rfl ?_
  refine r_mg (j := 6) hM rfl rfl (by decide) ?_
  refine r_iload_n rfl rfl ?_
  refine r_mi (j := 6) hM rfl rfl (by decide) (by first | rfl | assumption) (show _ < 120 by omega) ?_
  rw [hk]
  refine r_mi (j := 4) hM rfl rfl (by decide) rfl (show _ < 6 by omega) ?_
  rw [hs]
  refine r_istore_n rfl (by decide) ?_
  refine r_iload_n rfl rfl ?_
  refine r_if_ne rfl (fun q => ?_) (fun q => ?_)
  · have hs0 : s ≠ 0 := fun e => q (by rw [e]; rfl)
    refine r_iload_n rfl rfl ?_
    refine r_iconst (v := nI 3) rfl (by decide) ?_
    refine r_geN rfl (by omega) (by omega) (fun q3 => ?_) (fun q3 => ?_)
    · -- Roman
      have rom : ∀ low, low ≤ 32 → roms low c = sgn s c → Gm l D m_M_makeSign 0 0 Q 155 [some (va_rf (some o)), some (.int (nI x)), some (.int (nI c)), some (.int (nI s)), some (.int (nI low))] [] ρ 0 0 := by
        intro low hlow he
        refine r_aload_n rfl rfl ?_
        refine r_iload_n rfl rfl ?_
        refine r_iload_n rfl rfl ?_
        refine r_bipush (v := nI 100) rfl (by decide) ?_
        refine r_idivN rfl (by omega) (by omega) (by omega) ?_
        refine r_bipush (v := nI 10) rfl (by decide) ?_
        refine r_iremN rfl (by omega) (by omega) (by omega) ?_
        refine r_bipush (v := nI 67) rfl (by decide) ?_
        refine r_iload rfl rfl ?_
        (first | refine r_iaddN rfl ?_ | refine r_iadd rfl ?_)
        refine r_bipush (v := nI 68) rfl (by decide) ?_
        refine r_iload rfl rfl ?_
        (first | refine r_iaddN rfl ?_ | refine r_iadd rfl ?_)
        refine r_bipush (v := nI 77) rfl (by decide) ?_
        refine r_iload rfl rfl ?_
        (first | refine r_iaddN rfl ?_ | refine r_iadd rfl ?_)
        refine r_callV (As := [_, _, _, _, _]) rfl (by decide) rfl hM.1 rfl rfl (Nat.le_of_ble_eq_true rfl) ⟨Nat.le_of_ble_eq_true rfl, Nat.le_of_ble_eq_true rfl⟩ (c_M_roman hM hx t0 (by simp) (by omega)) (kc' := 0) (ks' := 0) (by omega) (by omega) (by decide) ?_
        rintro r ρ1 ⟨rfl, t1, f1⟩
        have hM1 := f1.ML hM
        have l1 := romD_len (c / 100 % 10) (nI (67 + low)) (nI (68 + low)) (nI (77 + low))
        refine r_aload_n rfl rfl ?_
        refine r_iload_n rfl rfl ?_
        refine r_iload_n rfl rfl ?_
        refine r_bipush (v := nI 10) rfl (by decide) ?_
        refine r_idivN rfl (by omega) (by omega) (by omega) ?_
        refine r_bipush (v := nI 10) rfl (by decide) ?_
        refine r_iremN rfl (by omega) (by omega) (by omega) ?_
        refine r_bipush (v := nI 88) rfl (by decide) ?_
        refine r_iload rfl rfl ?_
        (first | refine r_iaddN rfl ?_ | refine r_iadd rfl ?_)
        refine r_bipush (v := nI 76) rfl (by decide) ?_
        refine r_iload rfl rfl ?_
        (first | refine r_iaddN rfl ?_ | refine r_iadd rfl ?_)
        refine r_bipush (v := nI 67) rfl (by decide) ?_
        refine r_iload rfl rfl ?_
        (first | refine r_iaddN rfl ?_ | refine r_iadd rfl ?_)
        refine r_callV (As := [_, _, _, _, _]) rfl (by decide) rfl hM1.1 rfl rfl (Nat.le_of_ble_eq_true rfl) ⟨Nat.le_of_ble_eq_true rfl, Nat.le_of_ble_eq_true rfl⟩ (c_M_roman hM1 hx t1 (by simp only [List.nil_append]; omega) (by omega)) (kc' := 0) (ks' := 0) (by omega) (by omega) (by decide) ?_
        rintro r ρ2 ⟨rfl, t2, f2⟩
        have hM2 := f2.ML hM1
        have l2 := romD_len (c / 10 % 10) (nI (88 + low)) (nI (76 + low)) (nI (67 + low))
        refine r_aload_n rfl rfl ?_
        refine r_iload_n rfl rfl ?_
        refine r_iload_n rfl rfl ?_
        refine r_bipush (v := nI 10) rfl (by decide) ?_
        refine r_iremN rfl (by omega) (by omega) (by omega) ?_
        refine r_bipush (v := nI 73) rfl (by decide) ?_
        refine r_iload rfl rfl ?_
        (first | refine r_iaddN rfl ?_ | refine r_iadd rfl ?_)
        refine r_bipush (v := nI 86) rfl (by decide) ?_
        refine r_iload rfl rfl ?_
        (first | refine r_iaddN rfl ?_ | refine r_iadd rfl ?_)
        refine r_bipush (v := nI 88) rfl (by decide) ?_
        refine r_iload rfl rfl ?_
        (first | refine r_iaddN rfl ?_ | refine r_iadd rfl ?_)
        refine r_callV (As := [_, _, _, _, _]) rfl (by decide) rfl hM2.1 rfl rfl (Nat.le_of_ble_eq_true rfl) ⟨Nat.le_of_ble_eq_true rfl, Nat.le_of_ble_eq_true rfl⟩ (c_M_roman hM2 hx t2 (by simp only [List.nil_append, List.length_append]; omega) (by omega)) (kc' := 0) (ks' := 0) (by omega) (by omega) (by decide) ?_
        rintro r ρ3 ⟨rfl, t3, f3⟩
        refine r_vret rfl rfl ?_
        rw [← hQ, ← he]
        exact ⟨rfl, by simpa [roms] using t3, ((f0.tr (by decide) f1).tr (by decide) f2).tr (by decide) f3⟩
      refine r_iload_n rfl rfl ?_
      refine r_iconst (v := nI 3) rfl (by decide) ?_
      refine r_neN rfl (by omega) (by omega) (fun q4 => ?_) (fun q4 => ?_)
      · refine r_iconst (v := nI 0) rfl (by decide) ?_
        refine r_istore rfl (by decide) ?_
        refine rom 0 (by omega) ?_
        unfold sgn
        rw [if_neg hs0, if_neg (by omega), if_neg (by omega), if_neg q4]
      · refine r_bipush (v := nI 32) rfl (by decide) ?_
        refine r_goto rfl ?_
        refine r_istore rfl (by decide) ?_
        refine rom 32 (by omega) ?_
        unfold sgn
        rw [if_neg hs0, if_neg (by omega), if_neg (by omega), if_pos q4]
    · -- letters
      have let1 : ∀ f, f ≤ 97 → 1 ≤ f → lets f c = sgn s c → Gm l D m_M_makeSign 0 0 Q 105 [some (va_rf (some o)), some (.int (nI x)), some (.int (nI c)), some (.int (nI s)), some (.int (nI f))] [] ρ 0 0 := by
        intro f hf hf1 he
        have last : ∀ (ρ1 : Hp) (zs : List Int32), Tx ρ1 o 20 21 x zs → TF ρ ρ1 o 20 21 x → zs.length ≤ 1 → zs ++ [b8 (nI (f + (c - 1) % 26))] = lets f c → Gm l D m_M_makeSign 0 0 Q 127 [some (va_rf (some o)), some (.int (nI x)), some (.int (nI c)), some (.int (nI s)), some (.int (nI f))] [] ρ1 0 0 := by
          intro ρ1 zs t1 f1 hz hz2
          have hM1 := f1.ML hM
          refine r_aload_n rfl rfl ?_
          refine r_iload_n rfl rfl ?_
          refine r_iload rfl rfl ?_
          refine r_iload_n rfl rfl ?_
          refine r_iconst (v := nI 1) rfl (by decide) ?_
          refine r_isubN rfl (by omega) ?_
          refine r_bipush (v := nI 26) rfl (by decide) ?_
          refine r_iremN rfl (by omega) (by omega) (by omega) ?_
          (first | refine r_iaddN rfl ?_ | refine r_iadd rfl ?_)
          refine r_callV (As := [_, _]) rfl (by decide) rfl hM1.1 rfl rfl (Nat.le_of_ble_eq_true rfl) ⟨Nat.le_of_ble_eq_true rfl, Nat.le_of_ble_eq_true rfl⟩ (c_M_signByte hM1 hx t1 (by omega)) (kc' := 0) (ks' := 0) (by omega) (by omega) (by decide) ?_
          rintro r ρ2 ⟨rfl, t2, f2⟩
          refine r_vret rfl rfl ?_
          rw [hz2] at t2
          rw [← hQ, ← he]
          exact ⟨rfl, t2, (f0.tr (by decide) f1).tr (by decide) f2⟩
        refine r_iload_n rfl rfl ?_
        refine r_bipush (v := nI 26) rfl (by decide) ?_
        refine r_leN rfl (by omega) (by omega) (fun q5 => ?_) (fun q5 => ?_)
        · refine last ρ [] t0 (TF.rf _ _ _ _ _) (by simp) ?_
          unfold lets
          rw [if_neg (by omega)]
        · refine r_aload_n rfl rfl ?_
          refine r_iload_n rfl rfl ?_
          refine r_iload rfl rfl ?_
          refine r_iload_n rfl rfl ?_
          refine r_iconst (v := nI 1) rfl (by decide) ?_
          refine r_isubN rfl (by omega) ?_
          refine r_bipush (v := nI 26) rfl (by decide) ?_
          refine r_idivN rfl (by omega) (by omega) (by omega) ?_
          (first | refine r_iaddN rfl ?_ | refine r_iadd rfl ?_)
          refine r_iconst (v := nI 1) rfl (by decide) ?_
          refine r_isubN rfl (by omega) ?_
          refine r_callV (As := [_, _]) rfl (by decide) rfl hM.1 rfl rfl (Nat.le_of_ble_eq_true rfl) ⟨Nat.le_of_ble_eq_true rfl, Nat.le_of_ble_eq_true rfl⟩ (c_M_signByte hM hx t0 (by simp)) (kc' := 0) (ks' := 0) (by omega) (by omega) (by decide) ?_
          rintro r ρ2 ⟨rfl, t2, f2⟩
          refine last ρ2 _ t2 f2 (by simp) ?_
          unfold lets
          rw [if_pos (by omega)]
          rfl
      refine r_iload_n rfl rfl ?_
      refine r_iconst (v := nI 1) rfl (by decide) ?_
      refine r_neN rfl (by omega) (by omega) (fun q4 => ?_) (fun q4 => ?_)
      · refine r_bipush (v := nI 65) rfl (by decide) ?_
        refine r_istore rfl (by decide) ?_
        refine let1 65 (by omega) (by omega) ?_
        unfold sgn
        rw [if_neg hs0, if_neg q4, if_pos (by omega)]
      · refine r_bipush (v := nI 97) rfl (by decide) ?_
        refine r_goto rfl ?_
        refine r_istore rfl (by decide) ?_
        refine let1 97 (by omega) (by omega) ?_
        unfold sgn
        rw [if_neg hs0, if_pos q4]
  · -- figures
    have hs0 : s = 0 := (nI_eq (by omega) (by omega)).mp (q.trans nI_0.symm)
    have he : sgn s c = figs c := by
      unfold sgn
      rw [if_pos hs0]
    have done : ∀ (ρ1 : Hp) (zs : List Int32), Tx ρ1 o 20 21 x zs → TF ρ ρ1 o 20 21 x → zs = figs c → Gm l D m_M_makeSign 0 0 Q 55 [some (va_rf (some o)), some (.int (nI x)), some (.int (nI c)), some (.int (nI s)), some (.int (nI 0))] [] ρ1 0 0 := by
      intro ρ1 zs t1 f1 hz
      refine r_iload rfl rfl ?_
      refine r_if_le rfl (fun _ => ?_) (fun q => absurd (by decide) q)
      refine r_vret rfl rfl ?_
      rw [← hQ, he, ← hz]
      exact ⟨rfl, t1, f0.tr (by decide) f1⟩
    have dig : ∀ (u : Nat) (ρ1 : Hp) (zs : List Int32), 0 < u → u ≤ 100 → Tx ρ1 o 20 21 x zs → TF ρ ρ1 o 20 21 x → zs.length < 60 → (∀ ρ2, Tx ρ2 o 20 21 x (zs ++ [b8 (nI (48 + c / u % 10))]) → TF ρ ρ2 o 20 21 x → Gm l D m_M_makeSign 0 0 Q 55 [some (va_rf (some o)), some (.int (nI x)), some (.int (nI c)), some (.int (nI s)), some (.int (nI (u / 10)))] [] ρ2 0 0) → Gm l D m_M_makeSign 0 0 Q 55 [some (va_rf (some o)), some (.int (nI x)), some (.int (nI c)), some (.int (nI s)), some (.int (nI u))] [] ρ1 0 0 := by
      intro u ρ1 zs hu hu2 t1 f1 hz kk
      have hM1 := f1.ML hM
      have hcu : c / u ≤ c := Nat.div_le_self _ _
      refine r_iload rfl rfl ?_
      refine r_if_le rfl (fun q => absurd q (nI_nle hu (by omega))) (fun _ => ?_)
      refine r_aload_n rfl rfl ?_
      refine r_iload_n rfl rfl ?_
      refine r_bipush (v := nI 48) rfl (by decide) ?_
      refine r_iload_n rfl rfl ?_
      refine r_iload rfl rfl ?_
      refine r_idivN rfl (by omega) hu (by omega) ?_
      refine r_bipush (v := nI 10) rfl (by decide) ?_
      refine r_iremN rfl (by omega) (by omega) (by omega) ?_
      (first | refine r_iaddN rfl ?_ | refine r_iadd rfl ?_)
      refine r_callV (As := [_, _]) rfl (by decide) rfl hM1.1 rfl rfl (Nat.le_of_ble_eq_true rfl) ⟨Nat.le_of_ble_eq_true rfl, Nat.le_of_ble_eq_true rfl⟩ (c_M_signByte hM1 hx t1 hz) (kc' := 0) (ks' := 0) (by omega) (by omega) (by decide) ?_
      rintro r ρ2 ⟨rfl, t2, f2⟩
      refine r_iload rfl rfl ?_
      refine r_bipush (v := nI 10) rfl (by decide) ?_
      refine r_idivN rfl (by omega) (by omega) (by omega) ?_
      refine r_istore rfl (by decide) ?_
      refine r_goto rfl ?_
      exact kk ρ2 t2 (f1.tr (by decide) f2)
    refine r_iload_n rfl rfl ?_
    refine r_bipush (v := nI 99) rfl (by decide) ?_
    refine r_leN rfl (by omega) (by omega) (fun q1 => ?_) (fun q1 => ?_)
    · refine r_iload_n rfl rfl ?_
      refine r_bipush (v := nI 9) rfl (by decide) ?_
      refine r_leN rfl (by omega) (by omega) (fun q2 => ?_) (fun q2 => ?_)
      · refine r_iconst (v := nI 1) rfl (by decide) ?_
        refine r_istore rfl (by decide) ?_
        refine dig 1 ρ [] (by omega) (by omega) t0 (TF.rf _ _ _ _ _) (by simp) (fun ρ2 t2 f2 => done ρ2 _ t2 f2 ?_)
        unfold figs
        rw [if_neg (by omega), if_neg (by omega), Nat.div_one]
        try rfl
      · refine r_bipush (v := nI 10) rfl (by decide) ?_
        refine r_goto rfl ?_
        refine r_istore rfl (by decide) ?_
        refine dig 10 ρ [] (by omega) (by omega) t0 (TF.rf _ _ _ _ _) (by simp) (fun ρ2 t2 f2 => dig 1 ρ2 _ (by omega) (by omega) t2 f2 (by simp) (fun ρ3 t3 f3 => done ρ3 _ t3 f3 ?_))
        unfold figs
        rw [if_neg (by omega), if_pos (by omega), Nat.div_one]
        try rfl
    · refine r_bipush (v := nI 100) rfl (by decide) ?_
      refine r_goto rfl ?_
      refine r_istore rfl (by decide) ?_
      refine dig 100 ρ [] (by omega) (by omega) t0 (TF.rf _ _ _ _ _) (by simp) (fun ρ2 t2 f2 => dig 10 ρ2 _ (by omega) (by omega) t2 f2 (by simp) (fun ρ3 t3 f3 => dig 1 ρ3 _ (by omega) (by omega) t3 f3 (by simp) (fun ρ4 t4 f4 => done ρ4 _ t4 f4 ?_)))
      unfold figs
      rw [if_pos (by omega), if_pos (by omega), Nat.div_one]
      try rfl
end MC
end
section
/-! ===== the reference: numbers, scopes ===== -/
theorem b8_vb : ∀ j, j < 256 → b8 (vb_c j) = vb_c j := by decide +kernel
theorem fit_b8 {v : Int32} (h : fits .byte (.int v) = true) : b8 v = v := by
  obtain ⟨h1, h2⟩ : (-128 ≤ v) ∧ (v ≤ 127) := by
    have h3 : (decide (-128 ≤ v) && decide (v ≤ 127)) = true := h
    obtain ⟨a, b⟩ := okn h3
    exact ⟨of_decide_eq_true a, of_decide_eq_true b⟩
  obtain ⟨j, hj, -, rfl⟩ := bx_small (Int32.not_lt.mpr h1) (Int32.not_lt.mpr h2)
  exact b8_vb j hj
theorem take_app {xs : List Int32} {k : Nat} (h : k < xs.length) : xs.take k ++ [xs.getD k 0] = xs.take (k + 1) := by
  rw [getD_at h, List.take_append_getElem]
theorem nI_nn {b : Int32} (h : ¬ b < 0) : ∃ p, p < 2 ^ 31 ∧ b = nI p := nI_of h
/-- is y in the scope of x (scope s)? -/
def ssB (on kd : Nat → Int32) (s x y : Nat) : Bool := if s = 0 then decide (on x = on y) else if s = 1 then true else
  (decide (abE on kd (nI (s - 2)) 200 (on x) = -1) || (decide (nI y ≠ abE on kd (nI (s - 2)) 200 (on x)) && decide (upE on (abE on kd (nI (s - 2)) 200 (on x)) 200 (nI y) = abE on kd (nI (s - 2)) 200 (on x))))
/-- the BASE, by the one that would be it, and its text -/
def bsV (b : Int32) (nm : List Int32) : Int32 := if ¬ b < 0 ∧ 30 < nm.length then -1 else b
def nmV (j : Nat) (b : Int32) (nm sg : List Int32) : List Int32 := (if 0 < j ∧ ¬ b < 0 then nm ++ (if j = 1 then [b8 (nI 46)] else []) else []) ++ (if j = 2 then [b8 (nI 40)] else []) ++ sg ++ (if j = 2 then [b8 (nI 41)] else [])
theorem nmV_no {j : Nat} {b : Int32} {nm sg : List Int32} (h : ¬ (0 < j ∧ ¬ b < 0)) : nmV j b nm sg = (if j = 2 then [b8 (nI 40)] else []) ++ sg ++ (if j = 2 then [b8 (nI 41)] else []) := by
  unfold nmV
  rw [if_neg h, List.nil_append]
theorem nmV_y1 {j : Nat} {b : Int32} {nm sg : List Int32} (h : 0 < j ∧ ¬ b < 0) (h1 : j ≠ 1) : nmV j b nm sg = nm ++ (if j = 2 then [b8 (nI 40)] else []) ++ sg ++ (if j = 2 then [b8 (nI 41)] else []) := by
  unfold nmV
  rw [if_pos h, if_neg h1, List.append_nil]
theorem nmV_y2 {j : Nat} {b : Int32} {nm sg : List Int32} (h : 0 < j ∧ ¬ b < 0) (h1 : j = 1) : nmV j b nm sg = nm ++ [b8 (nI 46)] ++ (if j = 2 then [b8 (nI 40)] else []) ++ sg ++ (if j = 2 then [b8 (nI 41)] else []) := by
  unfold nmV
  rw [if_pos h, if_pos h1]
section MC
variable {l : Launch} {D : DD} {σ : Hp} {o : Nat}
theorem c_M_sameScope {x y k s : Nat} (hM : ML σ o) (hx : x < 120) (hy : y < 120) (hk : h_X σ (o + 1 + 6) x = nI k) (hk2 : k < 6) (hs : h_X σ (o + 1 + 3) k = nI s) (hs2 : s < 8) (ha : ∀ c, abS (h_X σ (o + 1 + 7)) (h_X σ (o + 1 + 6)) c 200 (h_X σ (o + 1 + 7) x)) (hu : ∀ t, upS (h_X σ (o + 1 + 7)) t 200 (nI y)) : Cn l D m_M_sameScope 0 0 [va_rf (some o), .int (nI x), .int (nI y)] σ (fun r τ => r = some (.int (nI (ssB (h_X σ (o + 1 + 7)) (h_X σ (o + 1 + 6)) s x y).toNat)) ∧ τ = σ) := by
  refine Cn.of (by decide) (by repeat (first | exact ca_0 | refine ca_i ?_ | refine ca_r ?_)) (Nat.le_of_ble_eq_true rfl) ?_
  refine r_aload_n rfl rfl ?_
  refine r_mg (j := 3) hM rfl rfl (by decide) ?_
  refine r_aload_n rfl rfl ?_
  refine r_mg (j := 6) hM rfl rfl (by decide) ?_
  refine r_iload_n rfl rfl ?_
  refine r_mi (j := 6) hM rfl rfl (by decide) rfl (show _ < 120 by omega) ?_
  rw [hk]
  refine r_mi (j := 3) hM rfl rfl (by decide) rfl (show _ < 6 by omega) ?_
  rw [hs]
  refine r_istore_n rfl (by decide) ?_
  refine r_iload_n rfl rfl ?_
  refine r_if_ne rfl (fun q => ?_) (fun q => ?_)
  · have hs0 : s ≠ 0 := fun e => q (by rw [e]; rfl)
    refine r_iload_n rfl rfl ?_
    refine r_iconst (v := nI 1) rfl (by decide) ?_
    refine r_neN rfl (by omega) (by omega) (fun q1 => ?_) (fun q1 => ?_)
    · refine r_aload_n rfl rfl ?_
      refine r_iload_n rfl rfl ?_
      refine r_iload_n rfl rfl ?_
      refine r_iconst (v := nI 2) rfl (by decide) ?_
      refine r_isubN rfl (by omega) ?_
      refine r_callV (As := [_, _]) rfl (by decide) rfl hM.1 rfl rfl (Nat.le_of_ble_eq_true rfl) ⟨Nat.le_of_ble_eq_true rfl, Nat.le_of_ble_eq_true rfl⟩ (c_M_above hM hx (ha _)) (kc' := 0) (ks' := 0) (by omega) (by omega) (by decide) ?_
      rintro r τ ⟨rfl, rfl⟩
      have e0 : ssB (h_X τ (o + 1 + 7)) (h_X τ (o + 1 + 6)) s x y = (decide (abE (h_X τ (o + 1 + 7)) (h_X τ (o + 1 + 6)) (nI (s - 2)) 200 (h_X τ (o + 1 + 7) x) = -1) || (decide (nI y ≠ abE (h_X τ (o + 1 + 7)) (h_X τ (o + 1 + 6)) (nI (s - 2)) 200 (h_X τ (o + 1 + 7) x)) && decide (upE (h_X τ (o + 1 + 7)) (abE (h_X τ (o + 1 + 7)) (h_X τ (o + 1 + 6)) (nI (s - 2)) 200 (h_X τ (o + 1 + 7) x)) 200 (nI y) = abE (h_X τ (o + 1 + 7)) (h_X τ (o + 1 + 6)) (nI (s - 2)) 200 (h_X τ (o + 1 + 7) x)))) := by
        unfold ssB
        rw [if_neg hs0, if_neg q1]
      rw [e0]
      generalize abE (h_X τ (o + 1 + 7)) (h_X τ (o + 1 + 6)) (nI (s - 2)) 200 (h_X τ (o + 1 + 7) x) = t
      refine r_istore rfl (by decide) ?_
      refine r_iload rfl rfl ?_
      refine r_iconst (v := -1) rfl (by decide) ?_
      refine r_icmp_eq rfl (fun q2 => ?_) (fun q2 => ?_)
      · refine r_iconst (v := nI 1) rfl (by decide) ?_
        refine r_goto rfl ?_
        refine r_zret rfl rfl (by decide) ⟨?_, rfl⟩
        rw [decide_eq_true q2]
        rfl
      · rw [decide_eq_false q2, Bool.false_or]
        refine r_iload_n rfl rfl ?_
        refine r_iload rfl rfl ?_
        refine r_icmp_eq rfl (fun q3 => ?_) (fun q3 => ?_)
        · refine r_iconst (v := nI 0) rfl (by decide) ?_
          refine r_zret rfl rfl (by decide) ⟨?_, rfl⟩
          rw [decide_eq_false (p := nI y ≠ t) (fun w => w q3)]
          rfl
        · rw [decide_eq_true (p := nI y ≠ t) q3, Bool.true_and]
          refine r_aload_n rfl rfl ?_
          refine r_iload_n rfl rfl ?_
          refine r_iload rfl rfl ?_
          refine r_callV (As := [_, _]) rfl (by decide) rfl hM.1 rfl rfl (Nat.le_of_ble_eq_true rfl) ⟨Nat.le_of_ble_eq_true rfl, Nat.le_of_ble_eq_true rfl⟩ (c_M_isBelow hM (hu t)) (kc' := 0) (ks' := 0) (by omega) (by omega) (by decide) ?_
          rintro r τ' ⟨rfl, rfl⟩
          refine r_ifeqB rfl (fun q4 => ?_) (fun q4 => ?_)
          · refine r_iconst (v := nI 0) rfl (by decide) ?_
            refine r_zret rfl rfl (by decide) ⟨?_, rfl⟩
            rw [q4]
            rfl
          · refine r_iconst (v := nI 1) rfl (by decide) ?_
            refine r_goto rfl ?_
            refine r_zret rfl rfl (by decide) ⟨?_, rfl⟩
            rw [q4]
            rfl
    · refine r_iconst (v := nI 1) rfl (by decide) ?_
      refine r_zret rfl rfl (by decide) ⟨?_, rfl⟩
      unfold ssB
      rw [if_neg hs0, if_pos q1]
      rfl
  · have hs0 : s = 0 := (nI_eq (by omega) (by omega)).mp (q.trans nI_0.symm)
    have e0 : ssB (h_X σ (o + 1 + 7)) (h_X σ (o + 1 + 6)) s x y = decide (h_X σ (o + 1 + 7) x = h_X σ (o + 1 + 7) y) := by
      unfold ssB
      rw [if_pos hs0]
    rw [e0]
    refine r_aload_n rfl rfl ?_
    refine r_mg (j := 7) hM rfl rfl (by decide) ?_
    refine r_iload_n rfl rfl ?_
    refine r_mi (j := 7) hM rfl rfl (by decide) (by first | rfl | assumption) (show _ < 120 by omega) ?_
    refine r_aload_n rfl rfl ?_
    refine r_mg (j := 7) hM rfl rfl (by decide) ?_
    refine r_iload_n rfl rfl ?_
    refine r_mi (j := 7) hM rfl rfl (by decide) (by first | rfl | assumption) (show _ < 120 by omega) ?_
    refine r_icmp_ne rfl (fun q2 => ?_) (fun q2 => ?_)
    · refine r_iconst (v := nI 0) rfl (by decide) ?_
      refine r_zret rfl rfl (by decide) ⟨?_, rfl⟩
      rw [decide_eq_false q2]
      rfl
    · refine r_iconst (v := nI 1) rfl (by decide) ?_
      refine r_goto rfl ?_
      refine r_zret rfl rfl (by decide) ⟨?_, rfl⟩
      rw [decide_eq_true q2]
      rfl
set_option maxHeartbeats 1000000 in
theorem c_M_makeNumber {x k s j : Nat} {b0 : Int32} {nm sg : List Int32} (hM : ML σ o) (hx : x < 120) (hk : h_X σ (o + 1 + 6) x = nI k) (hk2 : k < 6) (hs : h_X σ (o + 1 + 3) k = nI s) (hs2 : s < 8) (hj : h_X σ (o + 1 + 5) k = nI j) (hj2 : j < 3) (ha : 1 < s → abS (h_X σ (o + 1 + 7)) (h_X σ (o + 1 + 6)) (nI (s - 2)) 200 (h_X σ (o + 1 + 7) x))
    (hb0 : b0 = if 1 < s then abE (h_X σ (o + 1 + 7)) (h_X σ (o + 1 + 6)) (nI (s - 2)) 200 (h_X σ (o + 1 + 7) x) else h_X σ (o + 1 + 7) x) (hsg : Tx σ o 20 21 x sg) (hsl : sg.length ≤ 15) (hb : b0 < 0 ∨ ∃ p, p < 120 ∧ p ≠ x ∧ b0 = nI p ∧ Tx σ o 18 19 p nm) :
    Cn l D m_M_makeNumber 0 0 [va_rf (some o), .int (nI x)] σ (fun r τ => r = none ∧ Tx τ o 18 19 x (nmV j (bsV b0 nm) nm sg) ∧ TF (w_X σ (o + 1 + 17) (upd (h_X σ (o + 1 + 17)) x (bsV b0 nm))) τ o 18 19 x) := by
  generalize hQ : (fun (r : Option Value) (τ : Hp) => r = none ∧ Tx τ o 18 19 x (nmV j (bsV b0 nm) nm sg) ∧ TF (w_X σ (o + 1 + 17) (upd (h_X σ (o + 1 + 17)) x (bsV b0 nm))) τ o 18 19 x) = Q
  refine Cn.of (by decide) (by repeat (first | exact ca_0 | refine ca_i ?_ | refine ca_r ?_)) (Nat.le_of_ble_eq_true rfl) ?_
  refine g_fits (fun hfit _ _ => ?_)
  have main : Gm l D m_M_makeNumber 0 0 Q 34 [some (va_rf (some o)), some (.int (nI x)), some (.int (nI s)), none, none, none] [.int b0] σ 0 0 := by
    -- the base is settled
    have aft : Gm l D m_M_makeNumber 0 0 Q 52 [some (va_rf (some o)), some (.int (nI x)), some (.int (nI s)), some (.int (bsV b0 nm)), none, none] [] σ 0 0 := by
      generalize hbv : bsV b0 nm = bv at hQ
      have hbv2 : bv < 0 ∨ ∃ p, p < 120 ∧ p ≠ x ∧ bv = nI p ∧ Tx σ o 18 19 p nm ∧ nm.length ≤ 30 := by
        rw [← hbv]
        unfold bsV
        by_cases e : ¬ b0 < 0 ∧ 30 < nm.length
        · rw [if_pos e]
          exact Or.inl (by decide)
        · rw [if_neg e]
          rcases hb with hb | ⟨p, p1, p2, p3, p4⟩
          · exact Or.inl hb
          · refine Or.inr ⟨p, p1, p2, p3, p4, ?_⟩
            rcases Nat.lt_or_ge 30 nm.length with w | w
            · exact absurd ⟨by rw [p3]; exact nI_pos (by omega), w⟩ e
            · exact w
      refine r_aload_n rfl rfl ?_
      refine r_mg (j := 17) hM rfl rfl (by decide) ?_
      refine r_iload_n rfl rfl ?_
      refine r_iload_n rfl rfl ?_
      refine r_mis (j := 17) hM rfl rfl (by decide) (by first | rfl | assumption) (show _ < 120 by omega) ?_
      refine r_aload_n rfl rfl ?_
      refine r_mg (j := 19) hM rfl rfl (by decide) ?_
      refine r_iload_n rfl rfl ?_
      refine r_iconst (v := nI 0) rfl (by decide) ?_
      refine r_mis (j := 19) hM rfl rfl (by decide) (by first | rfl | assumption) (show _ < 120 by omega) ?_
      have hM1 : ML (w_X (w_X σ (o + 1 + 17) (upd (h_X σ (o + 1 + 17)) x bv)) (o + 1 + 19) (upd (h_X (w_X σ (o + 1 + 17) (upd (h_X σ (o + 1 + 17)) x bv)) (o + 1 + 19)) x (nI 0))) o := hM
      have hfit1 : ∀ a, h_K (w_X σ (o + 1 + 17) (upd (h_X σ (o + 1 + 17)) x bv)) a = 20 → a ≠ o + 1 + 17 → ∀ i, fits .byte (.int (h_X (w_X σ (o + 1 + 17) (upd (h_X σ (o + 1 + 17)) x bv)) a i)) = true := by
        intro a ha2 hne i
        rw [hX_n _ _ hne]
        exact hfit a ha2 i
      generalize hρ : w_X σ (o + 1 + 17) (upd (h_X σ (o + 1 + 17)) x bv) = ρ at hQ hM1 hfit1
      have hsg : Tx ρ o 20 21 x sg := by
        rw [← hρ]
        unfold Tx
        rw [hX_n _ _ (by omega), hX_n _ _ (by omega)]
        exact hsg
      have hk : h_X ρ (o + 1 + 6) x = nI k := by rw [← hρ, hX_n _ _ (by omega)]; exact hk
      have hj : h_X ρ (o + 1 + 5) k = nI j := by rw [← hρ, hX_n _ _ (by omega)]; exact hj
      have hMρ : ML ρ o := by rw [← hρ]; exact hM
      have hbv3 : bv < 0 ∨ ∃ p, p < 120 ∧ p ≠ x ∧ bv = nI p ∧ Tx ρ o 18 19 p nm ∧ nm.length ≤ 30 := by
        rcases hbv2 with w | ⟨p, p1, p2, p3, p4, p5⟩
        · exact Or.inl w
        · refine Or.inr ⟨p, p1, p2, p3, ?_, p5⟩
          rw [← hρ]
          unfold Tx
          rw [hX_n _ _ (by omega), hX_n _ _ (by omega)]
          exact p4
      have t0 : Tx (w_X ρ (o + 1 + 19) (upd (h_X ρ (o + 1 + 19)) x (nI 0))) o 18 19 x [] := by
        refine ⟨?_, by simp, fun i hi => by simp at hi⟩
        rw [hX_w, upd_s]
        rfl
      have f0 : TF ρ (w_X ρ (o + 1 + 19) (upd (h_X ρ (o + 1 + 19)) x (nI 0))) o 18 19 x := ⟨h_X ρ (o + 1 + 18), _, by rw [wX_self], fun _ _ => rfl, fun z hz => upd_n _ _ hz⟩
      generalize w_X ρ (o + 1 + 19) (upd (h_X ρ (o + 1 + 19)) x (nI 0)) = ρ0 at t0 f0 hM1
      have hM := hM1
      -- the end: a closing bracket
      have fin : ∀ (τ : Hp) (zs : List Int32) (z : Option Value), Tx τ o 18 19 x zs → TF ρ τ o 18 19 x → zs.length < 60 → zs ++ (if j = 2 then [b8 (nI 41)] else []) = nmV j bv nm sg → Gm l D m_M_makeNumber 0 0 Q 188 [some (va_rf (some o)), some (.int (nI x)), some (.int (nI s)), some (.int bv), some (.int (nI j)), z] [] τ 0 0 := by
        intro τ zs z t1 f1 hl he
        have hM := f1.ML hMρ
        refine r_iload rfl rfl ?_
        refine r_iconst (v := nI 2) rfl (by decide) ?_
        refine r_neN rfl (by omega) (by omega) (fun q => ?_) (fun q => ?_)
        · refine r_vret rfl rfl ?_
          rw [if_neg q, List.append_nil] at he
          rw [← hQ, ← he]
          exact ⟨rfl, t1, f1⟩
        · refine r_aload_n rfl rfl ?_
          refine r_iload_n rfl rfl ?_
          refine r_bipush (v := nI 41) rfl (by decide) ?_
          refine r_callV (As := [_, _]) rfl (by decide) rfl hM.1 rfl rfl (Nat.le_of_ble_eq_true rfl) ⟨Nat.le_of_ble_eq_true rfl, Nat.le_of_ble_eq_true rfl⟩ (c_M_numberByte hM hx t1 hl) (kc' := 0) (ks' := 0) (by omega) (by omega) (by decide) ?_
          rintro r τ2 ⟨rfl, t2, f2⟩
          refine r_vret rfl rfl ?_
          rw [if_pos q] at he
          rw [← hQ, ← he]
          exact ⟨rfl, t2, f1.tr (by decide) f2⟩
      -- the sign
      have sig : ∀ (zs : List Int32) (d i : Nat) (τ : Hp), i + d = sg.length → Tx τ o 18 19 x (zs ++ sg.take i) → TF ρ τ o 18 19 x → zs.length ≤ 35 → zs ++ sg ++ (if j = 2 then [b8 (nI 41)] else []) = nmV j bv nm sg → Gm l D m_M_makeNumber 0 0 Q 154 [some (va_rf (some o)), some (.int (nI x)), some (.int (nI s)), some (.int bv), some (.int (nI j)), some (.int (nI i))] [] τ 0 0 := by
        intro zs d
        induction d with
        | zero =>
          intro i τ hi t1 f1 hl he
          have hM := f1.ML hMρ
          have hsz : h_X τ (o + 1 + 21) x = nI sg.length := (congrFun (f1.row (b := o + 1 + 21) (by omega) (by omega)) x).trans hsg.1
          refine r_iload rfl rfl ?_
          refine r_aload_n rfl rfl ?_
          refine r_mg (j := 21) hM rfl rfl (by decide) ?_
          refine r_iload_n rfl rfl ?_
          refine r_mi (j := 21) hM rfl rfl (by decide) (by first | rfl | assumption) (show _ < 120 by omega) ?_
          rw [hsz]
          refine r_geN rfl (by omega) (by omega) (fun _ => ?_) (fun q => by omega)
          rw [show i = sg.length by omega, List.take_length] at t1
          exact fin τ _ _ t1 f1 (by simp; omega) he
        | succ d ih =>
          intro i τ hi t1 f1 hl he
          have hM := f1.ML hMρ
          have hsz : h_X τ (o + 1 + 21) x = nI sg.length := (congrFun (f1.row (b := o + 1 + 21) (by omega) (by omega)) x).trans hsg.1
          have htx : h_X τ (o + 1 + 20) (60 * x + i) = sg.getD i 0 := (congrFun (f1.row (b := o + 1 + 20) (by omega) (by omega)) _).trans (hsg.2.2 i (by omega))
          have hft : b8 (sg.getD i 0) = sg.getD i 0 := by
            rw [← hsg.2.2 i (by omega)]
            exact fit_b8 (hfit1 (o + 1 + 20) (hMρ.2 20 (by decide)).2.1 (by omega) _)
          refine r_iload rfl rfl ?_
          refine r_aload_n rfl rfl ?_
          refine r_mg (j := 21) hM rfl rfl (by decide) ?_
          refine r_iload_n rfl rfl ?_
          refine r_mi (j := 21) hM rfl rfl (by decide) (by first | rfl | assumption) (show _ < 120 by omega) ?_
          rw [hsz]
          refine r_geN rfl (by omega) (by omega) (fun q => by omega) (fun _ => ?_)
          refine r_aload_n rfl rfl ?_
          refine r_iload_n rfl rfl ?_
          refine r_aload_n rfl rfl ?_
          refine r_mg (j := 20) hM rfl rfl (by decide) ?_
          refine r_bipush (v := nI 60) rfl (by decide) ?_
          refine r_iload_n rfl rfl ?_
          (first | refine r_imulN rfl ?_ | refine r_imul rfl ?_)
          refine r_iload rfl rfl ?_
          (first | refine r_iaddN rfl ?_ | refine r_iadd rfl ?_)
          refine r_mb (j := 20) hM rfl rfl (by decide) (by first | rfl | assumption) (show _ < 7200 by omega) ?_
          rw [htx]
          refine r_callV (As := [_, _]) rfl (by decide) rfl hM.1 rfl rfl (Nat.le_of_ble_eq_true rfl) ⟨Nat.le_of_ble_eq_true rfl, Nat.le_of_ble_eq_true rfl⟩ (c_M_numberByte hM hx t1 (by simp; omega)) (kc' := 0) (ks' := 0) (by omega) (by omega) (by decide) ?_
          rintro r τ2 ⟨rfl, t2, f2⟩
          rw [hft, List.append_assoc, take_app (by omega)] at t2
          refine r_iinc rfl rfl (nI_inc _) ?_
          refine r_goto rfl ?_
          exact ih (i + 1) τ2 (by omega) t2 (f1.tr (by decide) f2) hl he
      -- an opening bracket
      have opn : ∀ (τ : Hp) (zs : List Int32) (z : Option Value), Tx τ o 18 19 x zs → TF ρ τ o 18 19 x → zs.length ≤ 31 → zs ++ (if j = 2 then [b8 (nI 40)] else []) ++ sg ++ (if j = 2 then [b8 (nI 41)] else []) = nmV j bv nm sg → Gm l D m_M_makeNumber 0 0 Q 138 [some (va_rf (some o)), some (.int (nI x)), some (.int (nI s)), some (.int bv), some (.int (nI j)), z] [] τ 0 0 := by
        intro τ zs z t1 f1 hl he
        have hM := f1.ML hMρ
        refine r_iload rfl rfl ?_
        refine r_iconst (v := nI 2) rfl (by decide) ?_
        refine r_neN rfl (by omega) (by omega) (fun q => ?_) (fun q => ?_)
        · refine r_iconst (v := nI 0) rfl (by decide) ?_
          refine r_istore rfl (by decide) ?_
          exact sig zs sg.length 0 τ (by omega) (by simpa using t1) f1 (by omega) (by simpa [q] using he)
        · refine r_aload_n rfl rfl ?_
          refine r_iload_n rfl rfl ?_
          refine r_bipush (v := nI 40) rfl (by decide) ?_
          refine r_callV (As := [_, _]) rfl (by decide) rfl hM.1 rfl rfl (Nat.le_of_ble_eq_true rfl) ⟨Nat.le_of_ble_eq_true rfl, Nat.le_of_ble_eq_true rfl⟩ (c_M_numberByte hM hx t1 (by omega)) (kc' := 0) (ks' := 0) (by omega) (by omega) (by decide) ?_
          rintro r τ2 ⟨rfl, t2, f2⟩
          refine r_iconst (v := nI 0) rfl (by decide) ?_
          refine r_istore rfl (by decide) ?_
          exact sig (zs ++ [b8 (nI 40)]) sg.length 0 τ2 (by omega) (by simpa using t2) (f1.tr (by decide) f2) (by simp; omega) (by simpa [q] using he)
      refine r_aload_n rfl rfl ?_
      refine r_mg (j := 5) hM rfl rfl (by decide) ?_
      refine r_aload_n rfl rfl ?_
      refine r_mg (j := 6) hM rfl rfl (by decide) ?_
      refine r_iload_n rfl rfl ?_
      refine r_mi (j := 6) hM rfl rfl (by decide) rfl (show _ < 120 by omega) ?_
      rw [(congrFun (f0.row (b := o + 1 + 6) (by omega) (by omega)) x).trans hk]
      refine r_mi (j := 5) hM rfl rfl (by decide) rfl (show _ < 6 by omega) ?_
      rw [(congrFun (f0.row (b := o + 1 + 5) (by omega) (by omega)) k).trans hj]
      refine r_istore rfl (by decide) ?_
      refine r_iload rfl rfl ?_
      refine r_if_le rfl (fun q => ?_) (fun q => ?_)
      · have hj0 : j = 0 := by
          rcases Nat.eq_zero_or_pos j with w | w
          · exact w
          · exact absurd q (nI_nle w (by omega))
        refine opn ρ0 [] _ t0 f0 (by simp) ?_
        rw [nmV_no (fun w => by omega)]
        rfl
      refine r_iload_n rfl rfl ?_
      have hj0 : 0 < j := by
        rcases Nat.eq_zero_or_pos j with w | w
        · rw [w] at q
          exact absurd (by decide) q
        · exact w
      refine r_if_lt rfl (fun q2 => ?_) (fun q2 => ?_)
      · refine opn ρ0 [] _ t0 f0 (by simp) ?_
        rw [nmV_no (fun w => w.2 q2)]
        rfl
      rcases hbv3 with w | ⟨p, p1, p2, rfl, p4, p5⟩
      · exact absurd w q2
      refine r_iconst (v := nI 0) rfl (by decide) ?_
      refine r_istore rfl (by decide) ?_
      have cp : ∀ (d i : Nat) (τ : Hp), i + d = nm.length → Tx τ o 18 19 x (nm.take i) → TF ρ τ o 18 19 x → Gm l D m_M_makeNumber 0 0 Q 91 [some (va_rf (some o)), some (.int (nI x)), some (.int (nI s)), some (.int (nI p)), some (.int (nI j)), some (.int (nI i))] [] τ 0 0 := by
        intro d
        induction d with
        | zero =>
          intro i τ hi t1 f1
          have hM := f1.ML hMρ
          have hp := Tx.keep (by decide) f1 p2 p4
          refine r_iload rfl rfl ?_
          refine r_aload_n rfl rfl ?_
          refine r_mg (j := 19) hM rfl rfl (by decide) ?_
          refine r_iload_n rfl rfl ?_
          refine r_mi (j := 19) hM rfl rfl (by decide) (by first | rfl | assumption) (show _ < 120 by omega) ?_
          rw [hp.1]
          refine r_geN rfl (by omega) (by omega) (fun _ => ?_) (fun q => by omega)
          rw [show i = nm.length by omega, List.take_length] at t1
          refine r_iload rfl rfl ?_
          refine r_iconst (v := nI 1) rfl (by decide) ?_
          refine r_neN rfl (by omega) (by omega) (fun q3 => ?_) (fun q3 => ?_)
          · refine opn τ nm _ t1 f1 (by omega) ?_
            rw [nmV_y1 ⟨hj0, q2⟩ q3]
          · refine r_aload_n rfl rfl ?_
            refine r_iload_n rfl rfl ?_
            refine r_bipush (v := nI 46) rfl (by decide) ?_
            refine r_callV (As := [_, _]) rfl (by decide) rfl hM.1 rfl rfl (Nat.le_of_ble_eq_true rfl) ⟨Nat.le_of_ble_eq_true rfl, Nat.le_of_ble_eq_true rfl⟩ (c_M_numberByte hM hx t1 (by omega)) (kc' := 0) (ks' := 0) (by omega) (by omega) (by decide) ?_
            rintro r τ2 ⟨rfl, t2, f2⟩
            refine opn τ2 _ _ t2 (f1.tr (by decide) f2) (by simp; omega) ?_
            rw [nmV_y2 ⟨hj0, q2⟩ q3]
        | succ d ih =>
          intro i τ hi t1 f1
          have hM := f1.ML hMρ
          have hp := Tx.keep (by decide) f1 p2 p4
          have htx : h_X τ (o + 1 + 18) (60 * p + i) = nm.getD i 0 := hp.2.2 i (by omega)
          have hft : b8 (nm.getD i 0) = nm.getD i 0 := by
            rw [← p4.2.2 i (by omega)]
            exact fit_b8 (hfit1 (o + 1 + 18) (hMρ.2 18 (by decide)).2.1 (by omega) _)
          refine r_iload rfl rfl ?_
          refine r_aload_n rfl rfl ?_
          refine r_mg (j := 19) hM rfl rfl (by decide) ?_
          refine r_iload_n rfl rfl ?_
          refine r_mi (j := 19) hM rfl rfl (by decide) (by first | rfl | assumption) (show _ < 120 by omega) ?_
          rw [hp.1]
          refine r_geN rfl (by omega) (by omega) (fun q => by omega) (fun _ => ?_)
          refine r_aload_n rfl rfl ?_
          refine r_iload_n rfl rfl ?_
          refine r_aload_n rfl rfl ?_
          refine r_mg (j := 18) hM rfl rfl (by decide) ?_
          refine r_bipush (v := nI 60) rfl (by decide) ?_
          refine r_iload_n rfl rfl ?_
          (first | refine r_imulN rfl ?_ | refine r_imul rfl ?_)
          refine r_iload rfl rfl ?_
          (first | refine r_iaddN rfl ?_ | refine r_iadd rfl ?_)
          refine r_mb (j := 18) hM rfl rfl (by decide) (by first | rfl | assumption) (show _ < 7200 by omega) ?_
          rw [htx]
          refine r_callV (As := [_, _]) rfl (by decide) rfl hM.1 rfl rfl (Nat.le_of_ble_eq_true rfl) ⟨Nat.le_of_ble_eq_true rfl, Nat.le_of_ble_eq_true rfl⟩ (c_M_numberByte hM hx t1 (by simp; omega)) (kc' := 0) (ks' := 0) (by omega) (by omega) (by decide) ?_
          rintro r τ2 ⟨rfl, t2, f2⟩
          rw [hft, take_app (by omega)] at t2
          refine r_iinc rfl rfl (nI_inc _) ?_
          refine r_goto rfl ?_
          exact ih (i + 1) τ2 (by omega) t2 (f1.tr (by decide) f2)
      exact cp nm.length 0 ρ0 (by omega) (by simpa using t0) f0
    refine r_istore_n rfl (by decide) ?_
    refine r_iload_n rfl rfl ?_
    refine r_if_lt rfl (fun q => ?_) (fun q => ?_)
    · have e : bsV b0 nm = b0 := by
        unfold bsV
        rw [if_neg (fun w => w.1 q)]
      rw [e] at aft
      exact aft
    rcases hb with hb | ⟨p, p1, p2, p3, p4⟩
    · exact absurd hb q
    refine r_aload_n rfl rfl ?_
    refine r_mg (j := 19) hM rfl rfl (by decide) ?_
    refine r_iload_n rfl rfl ?_
    refine r_mi (j := 19) hM rfl rfl (by decide) p3 (show _ < 120 by omega) ?_
    rw [p4.1]
    have h60 := p4.2.1
    refine r_bipush (v := nI 30) rfl (by decide) ?_
    refine r_leN rfl (by omega) (by omega) (fun q2 => ?_) (fun q2 => ?_)
    · have e : bsV b0 nm = b0 := by
        unfold bsV
        rw [if_neg (fun w => by omega)]
      rw [e] at aft
      exact aft
    · have e : bsV b0 nm = -1 := by
        unfold bsV
        rw [if_pos ⟨q, q2⟩]
      rw [e] at aft
      refine r_iconst (v := -1) rfl (by decide) ?_
      refine r_istore_n rfl (by decide) ?_
      exact aft
  refine r_aload_n rfl rfl ?_
  refine r_mg (j := 3) hM rfl rfl (by decide) ?_
  refine r_aload_n rfl rfl ?_
  refine r_mg (j := 6) hM rfl rfl (by decide) ?_
  refine r_iload_n rfl rfl ?_
  refine r_mi (j := 6) hM rfl rfl (by decide) rfl (show _ < 120 by omega) ?_
  rw [hk]
  refine r_mi (j := 3) hM rfl rfl (by decide) rfl (show _ < 6 by omega) ?_
  rw [hs]
  refine r_istore_n rfl (by decide) ?_
  refine r_iload_n rfl rfl ?_
  refine r_iconst (v := nI 1) rfl (by decide) ?_
  refine r_leN rfl (by omega) (by omega) (fun q => ?_) (fun q => ?_)
  · refine r_aload_n rfl rfl ?_
    refine r_mg (j := 7) hM rfl rfl (by decide) ?_
    refine r_iload_n rfl rfl ?_
    refine r_mi (j := 7) hM rfl rfl (by decide) (by first | rfl | assumption) (show _ < 120 by omega) ?_
    rw [if_neg (by omega)] at hb0
    rw [← hb0]
    exact main
  · refine r_aload_n rfl rfl ?_
    refine r_iload_n rfl rfl ?_
    refine r_iload_n rfl rfl ?_
    refine r_iconst (v := nI 2) rfl (by decide) ?_
    refine r_isubN rfl (by omega) ?_
    refine r_callV (As := [_, _]) rfl (by decide) rfl hM.1 rfl rfl (Nat.le_of_ble_eq_true rfl) ⟨Nat.le_of_ble_eq_true rfl, Nat.le_of_ble_eq_true rfl⟩ (c_M_above hM hx (ha q)) (kc' := 0) (ks' := 0) (by omega) (by omega) (by decide) ?_
    rintro r τ ⟨rfl, rfl⟩
    rw [if_pos q] at hb0
    rw [← hb0]
    refine r_goto rfl ?_
    exact main
end MC
end
section
/-! ===== the reference: the ORDER ===== -/
/-- climbing from x: the next one behind it or behind what it hangs on -/
def clb (n : Nat) (on pl : Nat → Int32) : Nat → Nat → Option Nat
  | 0, _ => none
  | f + 1, x => match chAt n on pl (on x) (pl x + nI 1) with
    | some z => some z
    | none => if on x = -1 then none else clb n on pl f (on x).toNatClampNeg
def nxt (n : Nat) (on pl : Nat → Int32) (x : Nat) : Option Nat := match chAt n on pl (nI x) (nI 0) with
  | some z => some z
  | none => clb n on pl 200 x
/-- the list is the walk that begins at c -/
def isW (n : Nat) (on pl : Nat → Int32) : List Nat → Option Nat → Prop
  | [], c => c = none
  | y :: L, c => c = some y ∧ isW n on pl L (nxt n on pl y)
def clS (on : Nat → Int32) : Nat → Nat → Prop
  | 0, _ => False
  | f + 1, x => x < 120 ∧ (on x = -1 ∨ ∃ p, on x = nI p ∧ clS on f p)
theorem clS_lt {on : Nat → Int32} : ∀ {f x : Nat}, clS on f x → x < 120
  | 0, _, h => h.elim
  | _ + 1, _, h => h.1
theorem nI_m1 (z : Nat) (hz : z < 2 ^ 31) : ¬ nI z = -1 := fun q => nI_pos hz (by rw [q]; decide)
section MC
variable {l : Launch} {D : DD} {σ : Hp} {o : Nat}
set_option maxHeartbeats 1000000 in
theorem c_M_order {n : Nat} {L : List Nat} (hM : ML σ o) (hn : h_I σ 711 o = nI n) (hn2 : n ≤ 120) (hW : isW n (h_X σ (o + 1 + 7)) (h_X σ (o + 1 + 8)) L (chAt n (h_X σ (o + 1 + 7)) (h_X σ (o + 1 + 8)) (-1) (nI 0))) (hL : ∀ x ∈ L, x < n ∧ clS (h_X σ (o + 1 + 7)) 200 x) (hl : L.length ≤ 120) (hnd : L.Nodup) :
    Cn l D m_M_order 0 0 [va_rf (some o)] σ (fun r τ => r = none ∧ ∃ O A, τ = w_I (w_X (w_X σ (o + 1 + 14) O) (o + 1 + 15) A) 724 o (nI L.length) ∧ (∀ i, i < L.length → O i = nI (L.getD i 0)) ∧ (∀ i, i < L.length → A (L.getD i 0) = nI i) ∧ ∀ x, x < n → x ∉ L → A x = -1) := by
  generalize hQ : (fun (r : Option Value) (τ : Hp) => r = none ∧ ∃ O A, τ = w_I (w_X (w_X σ (o + 1 + 14) O) (o + 1 + 15) A) 724 o (nI L.length) ∧ (∀ i, i < L.length → O i = nI (L.getD i 0)) ∧ (∀ i, i < L.length → A (L.getD i 0) = nI i) ∧ ∀ x, x < n → x ∉ L → A x = -1) = Q
  generalize hon : h_X σ (o + 1 + 7) = on at hW hL
  generalize hpl : h_X σ (o + 1 + 8) = pl at hW
  refine Cn.of (by decide) (by repeat (first | exact ca_0 | refine ca_i ?_ | refine ca_r ?_)) (Nat.le_of_ble_eq_true rfl) ?_
  refine r_aload_n rfl rfl ?_
  refine r_iconst (v := nI 0) rfl (by decide) ?_
  refine r_putI rfl hM.1 rfl (Or.inl rfl) (by first | rfl | decide) (by first | rfl | decide) ?_
  refine r_iconst (v := nI 0) rfl (by decide) ?_
  refine r_istore_n rfl (by decide) ?_
  -- the state: rows O and A, t things so far
  have st7 : ∀ O A t, h_X (w_I (w_X (w_X σ (o + 1 + 14) O) (o + 1 + 15) A) 724 o t) (o + 1 + 7) = on := by
    intro O A t
    rw [hX_wI, hX_n _ _ (by omega), hX_n _ _ (by omega)]
    exact hon
  have st8 : ∀ O A t, h_X (w_I (w_X (w_X σ (o + 1 + 14) O) (o + 1 + 15) A) 724 o t) (o + 1 + 8) = pl := by
    intro O A t
    rw [hX_wI, hX_n _ _ (by omega), hX_n _ _ (by omega)]
    exact hpl
  have st14 : ∀ O A t, h_X (w_I (w_X (w_X σ (o + 1 + 14) O) (o + 1 + 15) A) 724 o t) (o + 1 + 14) = O := by
    intro O A t
    rw [hX_wI, hX_n _ _ (by omega), hX_w]
  have st15 : ∀ O A t, h_X (w_I (w_X (w_X σ (o + 1 + 14) O) (o + 1 + 15) A) 724 o t) (o + 1 + 15) = A := by
    intro O A t
    rw [hX_wI, hX_w]
  have stn : ∀ O A t, h_I (w_I (w_X (w_X σ (o + 1 + 14) O) (o + 1 + 15) A) 724 o t) 711 o = nI n := by
    intro O A t
    rw [hI_n _ _ (by decide)]
    exact hn
  have stt : ∀ O A t, h_I (w_I (w_X (w_X σ (o + 1 + 14) O) (o + 1 + 15) A) 724 o t) 724 o = t := by
    intro O A t
    rw [hI_w]
  have stM : ∀ O A t, ML (w_I (w_X (w_X σ (o + 1 + 14) O) (o + 1 + 15) A) 724 o t) o := fun _ _ _ => hM
  have sw15 : ∀ O A t B, w_X (w_I (w_X (w_X σ (o + 1 + 14) O) (o + 1 + 15) A) 724 o t) (o + 1 + 15) B = w_I (w_X (w_X σ (o + 1 + 14) O) (o + 1 + 15) B) 724 o t := by
    intro O A t B
    rw [← wI_wX, wX_same]
  have sw14 : ∀ O A t B, w_X (w_I (w_X (w_X σ (o + 1 + 14) O) (o + 1 + 15) A) 724 o t) (o + 1 + 14) B = w_I (w_X (w_X σ (o + 1 + 14) B) (o + 1 + 15) A) 724 o t := by
    intro O A t B
    rw [← wI_wX, wX_comm (w_X σ (o + 1 + 14) O) _ _ (show o + 1 + 15 ≠ o + 1 + 14 by omega), wX_same]
  have swI : ∀ O A t t', w_I (w_I (w_X (w_X σ (o + 1 + 14) O) (o + 1 + 15) A) 724 o t) 724 o t' = w_I (w_X (w_X σ (o + 1 + 14) O) (o + 1 + 15) A) 724 o t' := by
    intro O A t t'
    rw [wI_same]
  have s0 : w_I σ 724 o (nI 0) = w_I (w_X (w_X σ (o + 1 + 14) (h_X σ (o + 1 + 14))) (o + 1 + 15) (h_X σ (o + 1 + 15))) 724 o (nI 0) := by
    rw [wX_self, wX_self]
  rw [s0]
  -- the walk
  have walk : ∀ (R P : List Nat) (O A : Nat → Int32) (z : Option Value), P ++ R = L → (∀ i, i < P.length → O i = nI (L.getD i 0)) → (∀ i, i < P.length → A (L.getD i 0) = nI i) → (∀ x, x < n → x ∉ P → A x = -1) → ∀ c, isW n on pl R c →
      Gm l D m_M_order 0 0 Q 35 [some (va_rf (some o)), some (.int (oI c)), z] [] (w_I (w_X (w_X σ (o + 1 + 14) O) (o + 1 + 15) A) 724 o (nI P.length)) 0 0 := by
    intro R
    induction R with
    | nil =>
      intro P O A z hP h1 h2 h3 c hc
      have hc : c = none := hc
      subst hc
      have hPL : P = L := by simpa using hP
      subst hPL
      refine r_iload_n rfl rfl ?_
      refine r_iconst (v := -1) rfl (by decide) ?_
      refine r_icmp_eq rfl (fun _ => ?_) (fun q => absurd rfl q)
      refine r_vret rfl rfl ?_
      rw [← hQ]
      exact ⟨rfl, O, A, rfl, h1, h2, h3⟩
    | cons y R ih =>
      intro P O A z hP h1 h2 h3 c hc
      obtain ⟨rfl, hc⟩ := hc
      have hyL : y ∈ L := by rw [← hP]; simp
      obtain ⟨hyn, hyc⟩ := hL y hyL
      have hlen : P.length + (R.length + 1) = L.length := by rw [← hP]; simp
      have hyP : L.getD P.length 0 = y := by
        rw [← hP]
        simp [List.getD_eq_getElem?_getD]
      have hynP : y ∉ P := by
        rw [← hP] at hnd
        intro w
        exact (List.nodup_append.mp hnd).2.2 y w y (by simp) rfl
      have hM := stM O A (nI P.length)
      show Gm l D m_M_order 0 0 Q 35 [some (va_rf (some o)), some (.int (nI y)), z] [] _ 0 0
      refine r_iload_n rfl rfl ?_
      refine r_iconst (v := -1) rfl (by decide) ?_
      refine r_icmp_eq rfl (fun q => absurd q (nI_m1 y (by omega))) (fun _ => ?_)
      refine r_aload_n rfl rfl ?_
      refine r_mg (j := 14) hM rfl rfl (by decide) ?_
      refine r_aload_n rfl rfl ?_
      refine r_getIv rfl hM.1 rfl (stt _ _ _) ?_
      refine r_iload_n rfl rfl ?_
      refine r_mis (j := 14) hM rfl rfl (by decide) rfl (show _ < 120 by omega) ?_
      rw [st14, sw14]
      have hM := stM (upd O P.length (nI y)) A (nI P.length)
      refine r_aload_n rfl rfl ?_
      refine r_mg (j := 15) hM rfl rfl (by decide) ?_
      refine r_iload_n rfl rfl ?_
      refine r_aload_n rfl rfl ?_
      refine r_getIv rfl hM.1 rfl (stt _ _ _) ?_
      refine r_mis (j := 15) hM rfl rfl (by decide) rfl (show _ < 120 by omega) ?_
      rw [st15, sw15]
      have hM := stM (upd O P.length (nI y)) (upd A y (nI P.length)) (nI P.length)
      refine r_aload_n rfl rfl ?_
      refine r_dup rfl (rf_cat _) ?_
      refine r_getIv rfl hM.1 rfl (stt _ _ _) ?_
      refine r_iconst (v := nI 1) rfl (by decide) ?_
      refine r_iaddN rfl ?_
      refine r_putI rfl hM.1 rfl (Or.inl rfl) rfl rfl ?_
      rw [swI]
      have hM := stM (upd O P.length (nI y)) (upd A y (nI P.length)) (nI (P.length + 1))
      -- what comes behind
      have go : ∀ (c : Option Nat) (w : Option Value), isW n on pl R c → Gm l D m_M_order 0 0 Q 121 [some (va_rf (some o)), w, some (.int (oI c))] [] (w_I (w_X (w_X σ (o + 1 + 14) (upd O P.length (nI y))) (o + 1 + 15) (upd A y (nI P.length))) 724 o (nI (P.length + 1))) 0 0 := by
        intro c w hc2
        refine r_iload_n rfl rfl ?_
        refine r_istore_n rfl (by decide) ?_
        refine r_goto rfl ?_
        have e := ih (P ++ [y]) (upd O P.length (nI y)) (upd A y (nI P.length)) (some (.int (oI c))) (by rw [← hP]; simp) (fun i hi => ?_) (fun i hi => ?_) (fun x hx hxP => ?_) c hc2
        · rw [List.length_append] at e
          exact e
        · rw [List.length_append, List.length_singleton] at hi
          by_cases e : i = P.length
          · rw [e, upd_s, hyP]
          · rw [upd_n _ _ e]
            exact h1 i (by omega)
        · rw [List.length_append, List.length_singleton] at hi
          by_cases e : i = P.length
          · rw [e, hyP, upd_s]
          · have hne : L.getD i 0 ≠ y := by
              intro w2
              apply hynP
              rw [← w2, ← hP, List.getD_eq_getElem?_getD, List.getElem?_append_left (by omega), List.getElem?_eq_getElem (by omega)]
              exact List.getElem_mem _
            rw [upd_n _ _ hne]
            exact h2 i (by omega)
        · have hne : x ≠ y := fun w2 => hxP (by rw [w2]; simp)
          rw [upd_n _ _ hne]
          exact h3 x hx (fun w2 => hxP (by simp [w2]))
      have climb : ∀ (f x : Nat), clS on f x → isW n on pl R (clb n on pl f x) → Gm l D m_M_order 0 0 Q 77 [some (va_rf (some o)), some (.int (nI x)), some (.int (oI none))] [] (w_I (w_X (w_X σ (o + 1 + 14) (upd O P.length (nI y))) (o + 1 + 15) (upd A y (nI P.length))) 724 o (nI (P.length + 1))) 0 0 := by
        intro f
        induction f with
        | zero => intro x h; exact h.elim
        | succ f ihf =>
          intro x hx hc2
          have hx1 := hx.1
          rw [clb] at hc2
          refine r_iload_n rfl rfl ?_
          refine r_iconst (v := -1) rfl (by decide) ?_
          refine r_icmp_ne rfl (fun q => absurd rfl q) (fun _ => ?_)
          refine r_iload_n rfl rfl ?_
          refine r_iconst (v := -1) rfl (by decide) ?_
          refine r_icmp_eq rfl (fun q => absurd q (nI_m1 x (by omega))) (fun _ => ?_)
          refine r_aload_n rfl rfl ?_
          refine r_aload_n rfl rfl ?_
          refine r_mg (j := 7) hM rfl rfl (by decide) ?_
          refine r_iload_n rfl rfl ?_
          refine r_mi (j := 7) hM rfl rfl (by decide) (by first | rfl | assumption) (show _ < 120 by omega) ?_
          refine r_aload_n rfl rfl ?_
          refine r_mg (j := 8) hM rfl rfl (by decide) ?_
          refine r_iload_n rfl rfl ?_
          refine r_mi (j := 8) hM rfl rfl (by decide) (by first | rfl | assumption) (show _ < 120 by omega) ?_
          refine r_iconst (v := nI 1) rfl (by decide) ?_
          (first | refine r_iaddN rfl ?_ | refine r_iadd rfl ?_)
          rw [st7, st8]
          refine r_callV (As := [_, _]) rfl (by decide) rfl hM.1 rfl rfl (Nat.le_of_ble_eq_true rfl) ⟨Nat.le_of_ble_eq_true rfl, Nat.le_of_ble_eq_true rfl⟩ (c_M_childAt hM (stn _ _ _) hn2) (kc' := 0) (ks' := 0) (by omega) (by omega) (by decide) ?_
          rintro r τ ⟨rfl, rfl⟩
          rw [st7, st8]
          cases hch : chAt n on pl (on x) (pl x + nI 1) with
          | some w =>
            rw [hch] at hc2
            have hw : w < n := by
              unfold chAt at hch
              exact List.mem_range.mp (List.mem_of_find?_eq_some hch)
            refine r_istore_n rfl (by decide) ?_
            refine r_iload_n rfl rfl ?_
            refine r_iconst (v := -1) rfl (by decide) ?_
            refine r_icmp_ne rfl (fun _ => ?_) (fun q => absurd q (nI_m1 w (by omega)))
            refine r_iload_n rfl rfl ?_
            refine r_iconst (v := -1) rfl (by decide) ?_
            refine r_icmp_ne rfl (fun _ => ?_) (fun q => absurd q (nI_m1 w (by omega)))
            exact go (some w) _ hc2
          | none =>
            rw [hch] at hc2
            have hc3 : isW n on pl R (if on x = -1 then none else clb n on pl f (on x).toNatClampNeg) := hc2
            refine r_istore_n rfl (by decide) ?_
            refine r_iload_n rfl rfl ?_
            refine r_iconst (v := -1) rfl (by decide) ?_
            refine r_icmp_ne rfl (fun q => absurd rfl q) (fun _ => ?_)
            refine r_aload_n rfl rfl ?_
            refine r_mg (j := 7) hM rfl rfl (by decide) ?_
            refine r_iload_n rfl rfl ?_
            refine r_mi (j := 7) hM rfl rfl (by decide) (by first | rfl | assumption) (show _ < 120 by omega) ?_
            refine r_istore_n rfl (by decide) ?_
            refine r_goto rfl ?_
            rw [st7]
            rcases hx.2 with w | ⟨p, w1, w2⟩
            · rw [if_pos w] at hc3
              rw [w]
              refine r_iload_n rfl rfl ?_
              refine r_iconst (v := -1) rfl (by decide) ?_
              refine r_icmp_ne rfl (fun q => absurd rfl q) (fun _ => ?_)
              refine r_iload_n rfl rfl ?_
              refine r_iconst (v := -1) rfl (by decide) ?_
              refine r_icmp_eq rfl (fun _ => ?_) (fun q => absurd rfl q)
              exact go none _ hc3
            · have hp := clS_lt w2
              rw [w1, if_neg (nI_m1 p (by omega)), nI_clamp (by omega)] at hc3
              rw [w1]
              exact ihf p w2 hc3
      refine r_aload_n rfl rfl ?_
      refine r_iload_n rfl rfl ?_
      refine r_iconst (v := nI 0) rfl (by decide) ?_
      refine r_callV (As := [_, _]) rfl (by decide) rfl hM.1 rfl rfl (Nat.le_of_ble_eq_true rfl) ⟨Nat.le_of_ble_eq_true rfl, Nat.le_of_ble_eq_true rfl⟩ (c_M_childAt hM (stn _ _ _) hn2) (kc' := 0) (ks' := 0) (by omega) (by omega) (by decide) ?_
      rintro r τ ⟨rfl, rfl⟩
      rw [st7, st8]
      unfold nxt at hc
      cases hch : chAt n on pl (nI y) (nI 0) with
      | some w =>
        rw [hch] at hc
        have hw : w < n := by
          unfold chAt at hch
          exact List.mem_range.mp (List.mem_of_find?_eq_some hch)
        refine r_istore_n rfl (by decide) ?_
        refine r_iload_n rfl rfl ?_
        refine r_iconst (v := -1) rfl (by decide) ?_
        refine r_icmp_ne rfl (fun _ => ?_) (fun q => absurd q (nI_m1 w (by omega)))
        exact go (some w) _ hc
      | none =>
        rw [hch] at hc
        refine r_istore_n rfl (by decide) ?_
        exact climb 200 y hyc hc
  have fill : ∀ (d k : Nat) (A : Nat → Int32), k + d = n → (∀ x, x < k → A x = -1) → Gm l D m_M_order 0 0 Q 7 [some (va_rf (some o)), some (.int (nI k)), none] [] (w_I (w_X (w_X σ (o + 1 + 14) (h_X σ (o + 1 + 14))) (o + 1 + 15) A) 724 o (nI 0)) 0 0 := by
    intro d
    induction d with
    | zero =>
      intro k A hk hA
      have hM := stM (h_X σ (o + 1 + 14)) A (nI 0)
      refine r_iload_n rfl rfl ?_
      refine r_aload_n rfl rfl ?_
      refine r_getIv rfl hM.1 rfl (stn _ _ _) ?_
      refine r_geN rfl (by omega) (by omega) (fun _ => ?_) (fun q => by omega)
      refine r_aload_n rfl rfl ?_
      refine r_iconst (v := -1) rfl (by decide) ?_
      refine r_iconst (v := nI 0) rfl (by decide) ?_
      refine r_callV (As := [_, _]) rfl (by decide) rfl hM.1 rfl rfl (Nat.le_of_ble_eq_true rfl) ⟨Nat.le_of_ble_eq_true rfl, Nat.le_of_ble_eq_true rfl⟩ (c_M_childAt hM (stn _ _ _) hn2) (kc' := 0) (ks' := 0) (by omega) (by omega) (by decide) ?_
      rintro r τ ⟨rfl, rfl⟩
      rw [st7, st8]
      refine r_istore_n rfl (by decide) ?_
      exact walk L [] _ A none rfl (fun i hi => by simp at hi) (fun i hi => by simp at hi) (fun x hx _ => hA x (by omega)) _ hW
    | succ d ih =>
      intro k A hk hA
      have hM := stM (h_X σ (o + 1 + 14)) A (nI 0)
      refine r_iload_n rfl rfl ?_
      refine r_aload_n rfl rfl ?_
      refine r_getIv rfl hM.1 rfl (stn _ _ _) ?_
      refine r_geN rfl (by omega) (by omega) (fun q => by omega) (fun _ => ?_)
      refine r_aload_n rfl rfl ?_
      refine r_mg (j := 15) hM rfl rfl (by decide) ?_
      refine r_iload_n rfl rfl ?_
      refine r_iconst (v := -1) rfl (by decide) ?_
      refine r_mis (j := 15) hM rfl rfl (by decide) (by first | rfl | assumption) (show _ < 120 by omega) ?_
      rw [st15, sw15]
      refine r_iinc rfl rfl (nI_inc _) ?_
      refine r_goto rfl ?_
      refine ih (k + 1) _ (by omega) (fun x hx => ?_)
      by_cases e : x = k
      · rw [e, upd_s]
      · rw [upd_n _ _ e]
        exact hA x (by omega)
  exact fill n 0 _ (by omega) (fun x hx => by omega)
end MC
end
section
/-! ===== the reference: make() ===== -/
/-- only these rows and int fields of the reference have changed -/
def MFr (rows flds : List Nat) (σ τ : Hp) (o : Nat) : Prop := h_z τ = h_z σ ∧ h_K τ = h_K σ ∧ h_P τ = h_P σ ∧ h_L τ = h_L σ ∧ h_Y τ = h_Y σ ∧ (∀ f b, ¬ (b = o ∧ f ∈ flds) → h_I τ f b = h_I σ f b) ∧ ∀ b, (∀ j ∈ rows, b ≠ o + 1 + j) → h_X τ b = h_X σ b
theorem MFr.rf (rows flds : List Nat) (σ : Hp) (o : Nat) : MFr rows flds σ σ o := ⟨rfl, rfl, rfl, rfl, rfl, fun _ _ _ => rfl, fun _ _ => rfl⟩
theorem MFr.tr {rows flds : List Nat} {σ τ ρ : Hp} {o : Nat} (h : MFr rows flds σ τ o) (g : MFr rows flds τ ρ o) : MFr rows flds σ ρ o := by
  obtain ⟨h1, h2, h3, h4, h5, h6, h7⟩ := h
  obtain ⟨g1, g2, g3, g4, g5, g6, g7⟩ := g
  exact ⟨g1.trans h1, g2.trans h2, g3.trans h3, g4.trans h4, g5.trans h5, fun f b q => (g6 f b q).trans (h6 f b q), fun b q => (g7 b q).trans (h7 b q)⟩
theorem MFr.X {rows flds : List Nat} (σ : Hp) {o j : Nat} (g : Nat → Int32) (hj : j ∈ rows) : MFr rows flds σ (w_X σ (o + 1 + j) g) o := ⟨rfl, rfl, rfl, rfl, rfl, fun _ _ _ => rfl, fun b q => hX_n _ _ (q j hj)⟩
theorem MFr.I {rows flds : List Nat} (σ : Hp) {o f : Nat} (v : Int32) (hf : f ∈ flds) : MFr rows flds σ (w_I σ f o v) o := by
  refine ⟨rfl, rfl, rfl, rfl, rfl, fun g b q => ?_, fun _ _ => rfl⟩
  show u_2 (h_I σ) f o v g b = _
  unfold u_2
  rw [if_neg]
  rintro ⟨rfl, rfl⟩
  exact q ⟨rfl, hf⟩
theorem MFr.T {rows flds : List Nat} {σ τ : Hp} {o jT jS x : Nat} (h : TF σ τ o jT jS x) (h1 : jT ∈ rows) (h2 : jS ∈ rows) : MFr rows flds σ τ o := by
  obtain ⟨T, S, rfl, -, -⟩ := h
  exact (MFr.X σ T h1).tr (MFr.X _ S h2)
theorem MFr.mL {rows flds : List Nat} {σ τ : Hp} {o o' : Nat} (h : MFr rows flds σ τ o) (hM : ML σ o') : ML τ o' := by
  obtain ⟨h1, h2, h3, h4, h5, h6, h7⟩ := h
  unfold ML at hM ⊢
  rw [h2, h3, h4]
  exact hM
theorem MFr.row {rows flds : List Nat} {σ τ : Hp} {o : Nat} (h : MFr rows flds σ τ o) {j : Nat} (hj : j ∉ rows) : h_X τ (o + 1 + j) = h_X σ (o + 1 + j) := h.2.2.2.2.2.2 _ (fun k hk e => hj (by
  have : k = j := by omega
  rw [← this]
  exact hk))
theorem MFr.fld {rows flds : List Nat} {σ τ : Hp} {o : Nat} (h : MFr rows flds σ τ o) {f : Nat} (hf : f ∉ flds) : h_I τ f o = h_I σ f o := h.2.2.2.2.2.1 _ _ (fun q => hf q.2)
theorem romD_len4 {d : Nat} (hd : d < 10) (a b c : Int32) : (romD d a b c).length ≤ 4 := by
  unfold romD
  split
  · simp
  · split
    · simp
    · split <;> simp <;> omega
theorem sgn_len (s c : Nat) : (sgn s c).length ≤ 15 ∧ 1 ≤ (figs c).length := by
  have h1 := fun a b d => romD_len (c / 100 % 10) a b d
  have h2 := fun a b d => romD_len (c / 10 % 10) a b d
  have h3 := fun a b d => romD_len (c % 10) a b d
  refine ⟨?_, by unfold figs; simp; omega⟩
  unfold sgn
  split
  · unfold figs
    split <;> split <;> simp
  split
  · unfold lets
    split <;> simp
  split
  · unfold lets
    split <;> simp
  split
  · unfold roms
    simp only [List.length_append]
    have a := h1 (nI (67 + 32)) (nI (68 + 32)) (nI (77 + 32))
    have b := h2 (nI (88 + 32)) (nI (76 + 32)) (nI (67 + 32))
    have c := h3 (nI (73 + 32)) (nI (86 + 32)) (nI (88 + 32))
    omega
  · unfold roms
    simp only [List.length_append]
    have a := h1 (nI (67 + 0)) (nI (68 + 0)) (nI (77 + 0))
    have b := h2 (nI (88 + 0)) (nI (76 + 0)) (nI (67 + 0))
    have c := h3 (nI (73 + 0)) (nI (86 + 0)) (nI (88 + 0))
    omega
/-- how the things are counted: the i-th of the ORDER -/
def ctO (on kd : Nat → Int32) (sc : Nat → Nat) (L : List Nat) (i : Nat) : Nat := 1 + cntB (fun q => decide (kd (L.getD q 0) = kd (L.getD i 0)) && ssB on kd (sc (kd (L.getD i 0)).toNatClampNeg) (L.getD i 0) (L.getD q 0)) i
/-- the one that would be the BASE of x -/
def b0O (on kd : Nat → Int32) (sc : Nat → Nat) (x : Nat) : Int32 := if 1 < sc (kd x).toNatClampNeg then abE on kd (nI (sc (kd x).toNatClampNeg - 2)) 200 (on x) else on x
/-- BASES and NUMBERS behind the first i of the ORDER -/
def mkO (on kd : Nat → Int32) (sc sy jo : Nat → Nat) (L : List Nat) : Nat → (Nat → Int32) × (Nat → List Int32)
  | 0 => (fun _ => -1, fun _ => [])
  | i + 1 => (upd (mkO on kd sc sy jo L i).1 (L.getD i 0) (bsV (b0O on kd sc (L.getD i 0)) ((mkO on kd sc sy jo L i).2 (b0O on kd sc (L.getD i 0)).toNatClampNeg)),
      u_1 (mkO on kd sc sy jo L i).2 (L.getD i 0) (nmV (jo (kd (L.getD i 0)).toNatClampNeg) (bsV (b0O on kd sc (L.getD i 0)) ((mkO on kd sc sy jo L i).2 (b0O on kd sc (L.getD i 0)).toNatClampNeg)) ((mkO on kd sc sy jo L i).2 (b0O on kd sc (L.getD i 0)).toNatClampNeg) (sgn (sy (kd (L.getD i 0)).toNatClampNeg) (ctO on kd sc L i))))
end
section
/-! ===== the reference: make(), its contract ===== -/
abbrev mkR : List Nat := [14, 15, 16, 17, 18, 19, 20, 21]
abbrev mkI : List Nat := [721, 724]
/-- what make() asks of the rows that it reads -/
def mkP (σ : Hp) (o n : Nat) (sc sy jo : Nat → Nat) (L : List Nat) : Prop :=
  n ≤ 120 ∧ h_I σ 711 o = nI n ∧ isW n (h_X σ (o + 1 + 7)) (h_X σ (o + 1 + 8)) L (chAt n (h_X σ (o + 1 + 7)) (h_X σ (o + 1 + 8)) (-1) (nI 0)) ∧ L.length ≤ 120 ∧ L.Nodup ∧
  (∀ x, x < n → ∃ k, k < 6 ∧ h_X σ (o + 1 + 6) x = nI k) ∧ (∀ k, k < 6 → h_X σ (o + 1 + 3) k = nI (sc k) ∧ sc k < 8 ∧ h_X σ (o + 1 + 4) k = nI (sy k) ∧ sy k < 5 ∧ h_X σ (o + 1 + 5) k = nI (jo k) ∧ jo k < 3) ∧
  ∀ x ∈ L, x < n ∧ clS (h_X σ (o + 1 + 7)) 200 x ∧ (∀ c, abS (h_X σ (o + 1 + 7)) (h_X σ (o + 1 + 6)) c 200 (h_X σ (o + 1 + 7) x)) ∧ (∀ t, upS (h_X σ (o + 1 + 7)) t 200 (nI x)) ∧ (b0O (h_X σ (o + 1 + 7)) (h_X σ (o + 1 + 6)) sc x < 0 ∨ ∃ p, p < n ∧ p ≠ x ∧ b0O (h_X σ (o + 1 + 7)) (h_X σ (o + 1 + 6)) sc x = nI p)
/-- what the rows hold behind make() -/
def mkD (σ : Hp) (o n : Nat) (on kd : Nat → Int32) (sc sy jo : Nat → Nat) (L : List Nat) : Prop :=
  h_I σ 724 o = nI L.length ∧ (∀ i, i < L.length → h_X σ (o + 1 + 14) i = nI (L.getD i 0)) ∧ (∀ i, i < L.length → h_X σ (o + 1 + 15) (L.getD i 0) = nI i) ∧ (∀ x, x < n → x ∉ L → h_X σ (o + 1 + 15) x = -1) ∧
  (∀ i, i < L.length → h_X σ (o + 1 + 16) (L.getD i 0) = nI (ctO on kd sc L i)) ∧ (∀ x, x < n → x ∉ L → h_X σ (o + 1 + 16) x = 0) ∧ (∀ x, x < n → h_X σ (o + 1 + 17) x = (mkO on kd sc sy jo L L.length).1 x) ∧
  (∀ x, x < n → Tx σ o 18 19 x ((mkO on kd sc sy jo L L.length).2 x)) ∧ ∀ i, i < L.length → Tx σ o 20 21 (L.getD i 0) (sgn (sy (kd (L.getD i 0)).toNatClampNeg) (ctO on kd sc L i))
theorem getD_mem {L : List Nat} {i : Nat} (h : i < L.length) : L.getD i 0 ∈ L := by
  rw [List.getD_eq_getElem?_getD, List.getElem?_eq_getElem h]
  exact List.getElem_mem h
theorem getD_inj {L : List Nat} {i j : Nat} (hn : L.Nodup) (hi : i < L.length) (hj : j < L.length) (h : L.getD i 0 = L.getD j 0) : i = j := by
  rw [List.getD_eq_getElem?_getD, List.getD_eq_getElem?_getD, List.getElem?_eq_getElem hi, List.getElem?_eq_getElem hj] at h
  have h : L[i] = L[j] := h
  rcases Nat.lt_trichotomy i j with w | w | w
  · exact absurd h (List.pairwise_iff_getElem.mp hn i j hi hj w)
  · exact w
  · exact absurd h.symm (List.pairwise_iff_getElem.mp hn j i hj hi w)
theorem nmV_len {j : Nat} {b : Int32} {nm sg : List Int32} (h : nm.length ≤ 30 ∨ b < 0) (hs : sg.length ≤ 15) : (nmV j b nm sg).length ≤ 60 := by
  unfold nmV
  simp only [List.length_append]
  have a1 : (if 0 < j ∧ ¬ b < 0 then nm ++ (if j = 1 then [b8 (nI 46)] else []) else []).length ≤ 31 := by
    by_cases e : 0 < j ∧ ¬ b < 0
    · rw [if_pos e, List.length_append]
      have : (if j = 1 then [b8 (nI 46)] else []).length ≤ 1 := by split <;> simp
      rcases h with h | h
      · omega
      · exact absurd h e.2
    · rw [if_neg e]; simp
  have a2 : (if j = 2 then [b8 (nI 40)] else []).length ≤ 1 := by split <;> simp
  have a3 : (if j = 2 then [b8 (nI 41)] else []).length ≤ 1 := by split <;> simp
  omega
theorem bsV_len {b : Int32} {nm : List Int32} : nm.length ≤ 30 ∨ bsV b nm < 0 := by
  unfold bsV
  by_cases e : ¬ b < 0 ∧ 30 < nm.length
  · rw [if_pos e]
    exact Or.inr (by decide)
  · rw [if_neg e]
    by_cases h : b < 0
    · exact Or.inr h
    · exact Or.inl (Nat.le_of_not_lt (fun q => e ⟨h, q⟩))
section MC
variable {l : Launch} {D : DD} {σ : Hp} {o : Nat}
set_option maxHeartbeats 2000000 in
/-- one thing of the ORDER: its count, its sign, its number -/
theorem mk_count {n i : Nat} {sc sy jo : Nat → Nat} {L : List Nat} {Q : Option Value → Hp → Prop} {τ : Hp} (hM : ML τ o) (hP : mkP τ o n sc sy jo L) (hi : i < L.length) (hord : ∀ q, q < L.length → h_X τ (o + 1 + 14) q = nI (L.getD q 0))
    (go : ∀ z, Gm l D m_M_make 0 0 Q 139 [some (va_rf (some o)), some (.int (nI i)), some (.int (nI (L.getD i 0))), z] [] (w_X τ (o + 1 + 16) (upd (h_X τ (o + 1 + 16)) (L.getD i 0) (nI (ctO (h_X τ (o + 1 + 7)) (h_X τ (o + 1 + 6)) sc L i)))) 0 0) (z : Option Value) :
    Gm l D m_M_make 0 0 Q 71 [some (va_rf (some o)), some (.int (nI i)), some (.int (nI (L.getD i 0))), z] [] τ 0 0 := by
  obtain ⟨p1, p2, p3, p4, p5, p6, p7, p8⟩ := hP
  obtain ⟨x1, x2, x3, x4, x5⟩ := p8 _ (getD_mem hi)
  generalize hx : L.getD i 0 = x at *
  obtain ⟨k, k1, k2⟩ := p6 x x1
  have kc : (h_X τ (o + 1 + 6) x).toNatClampNeg = k := by rw [k2]; exact nI_clamp (by omega)
  obtain ⟨s1, s2, -⟩ := p7 k k1
  refine r_aload_n rfl rfl ?_
  refine r_mg (j := 16) hM rfl rfl (by decide) ?_
  refine r_iload_n rfl rfl ?_
  refine r_iconst (v := nI 1) rfl (by decide) ?_
  refine r_mis (j := 16) hM rfl rfl (by decide) (by first | rfl | assumption) (show _ < 120 by omega) ?_
  refine r_iconst (v := nI 0) rfl (by decide) ?_
  refine r_istore_n rfl (by decide) ?_
  have c0 : upd (h_X τ (o + 1 + 16)) x (nI 1) = upd (h_X τ (o + 1 + 16)) x (nI (1 + cntB (fun q => decide (h_X τ (o + 1 + 6) (L.getD q 0) = h_X τ (o + 1 + 6) x) && ssB (h_X τ (o + 1 + 7)) (h_X τ (o + 1 + 6)) (sc k) x (L.getD q 0)) 0)) := rfl
  rw [c0]
  have loop : ∀ (d q : Nat), q + d = i → Gm l D m_M_make 0 0 Q 80 [some (va_rf (some o)), some (.int (nI i)), some (.int (nI x)), some (.int (nI q))] [] (w_X τ (o + 1 + 16) (upd (h_X τ (o + 1 + 16)) x (nI (1 + cntB (fun q => decide (h_X τ (o + 1 + 6) (L.getD q 0) = h_X τ (o + 1 + 6) x) && ssB (h_X τ (o + 1 + 7)) (h_X τ (o + 1 + 6)) (sc k) x (L.getD q 0)) q)))) 0 0 := by
    intro d
    induction d with
    | zero =>
      intro q hq
      refine r_iload_n rfl rfl ?_
      refine r_iload_n rfl rfl ?_
      refine r_geN rfl (by omega) (by omega) (fun _ => ?_) (fun w => by omega)
      have e := go (some (.int (nI q)))
      unfold ctO at e
      rw [hx, kc] at e
      rw [show q = i by omega] at e ⊢
      exact e
    | succ d ih =>
      intro q hq
      obtain ⟨y1, y2, y3, y4, y5⟩ := p8 _ (getD_mem (show q < L.length by omega))
      have hy := hord q (by omega)
      generalize hcq : cntB (fun q => decide (h_X τ (o + 1 + 6) (L.getD q 0) = h_X τ (o + 1 + 6) x) && ssB (h_X τ (o + 1 + 7)) (h_X τ (o + 1 + 6)) (sc k) x (L.getD q 0)) q = cq at *
      have hM2 : ML (w_X τ (o + 1 + 16) (upd (h_X τ (o + 1 + 16)) x (nI (1 + cq)))) o := hM
      have fin : ∀ b : Bool, (decide (h_X τ (o + 1 + 6) (L.getD q 0) = h_X τ (o + 1 + 6) x) && ssB (h_X τ (o + 1 + 7)) (h_X τ (o + 1 + 6)) (sc k) x (L.getD q 0)) = b → Gm l D m_M_make 0 0 Q 131 [some (va_rf (some o)), some (.int (nI i)), some (.int (nI x)), some (.int (nI q))] [.int (nI b.toNat), .int (nI (1 + cq)), .int (nI x), va_rf (some (o + 1 + 16))] (w_X τ (o + 1 + 16) (upd (h_X τ (o + 1 + 16)) x (nI (1 + cq)))) 0 0 := by
        intro b hb
        refine r_iaddN rfl ?_
        refine r_mis (j := 16) hM rfl rfl (by decide) rfl (show _ < 120 by omega) ?_
        refine r_iinc rfl rfl (nI_inc _) ?_
        refine r_goto rfl ?_
        have e := ih (q + 1) (by omega)
        rw [cntB, hb, hcq] at e
        rw [wX_same, hX_w]
        have : upd (upd (h_X τ (o + 1 + 16)) x (nI (1 + cq))) x (nI (1 + cq + b.toNat)) = upd (h_X τ (o + 1 + 16)) x (nI (1 + (cq + b.toNat))) := by
          funext w
          unfold upd
          by_cases e2 : w = x
          · rw [if_pos e2, if_pos e2, Nat.add_assoc]
          · rw [if_neg e2, if_neg e2, if_neg e2]
        rw [this]
        exact e
      refine r_iload_n rfl rfl ?_
      refine r_iload_n rfl rfl ?_
      refine r_geN rfl (by omega) (by omega) (fun w => by omega) (fun _ => ?_)
      refine r_aload_n rfl rfl ?_
      refine r_mg (j := 16) hM rfl rfl (by decide) ?_
      refine r_iload_n rfl rfl ?_
      refine r_dup2 rfl (by first | rfl | exact rf_cat _) (by first | rfl | exact rf_cat _) ?_
      refine r_mi (j := 16) hM rfl rfl (by decide) (by first | rfl | assumption) (show _ < 120 by omega) ?_
      refine r_aload_n rfl rfl ?_
      refine r_mg (j := 6) hM rfl rfl (by decide) ?_
      rw [hX_w, upd_s]
      refine r_aload_n rfl rfl ?_
      refine r_mg (j := 14) hM rfl rfl (by decide) ?_
      refine r_iload_n rfl rfl ?_
      refine r_mi (j := 14) hM rfl rfl (by decide) rfl (show _ < 120 by omega) ?_
      rw [hX_n _ _ (show o + 1 + 14 ≠ o + 1 + 16 by omega), hy]
      refine r_mi (j := 6) hM rfl rfl (by decide) rfl (show _ < 120 by omega) ?_
      refine r_aload_n rfl rfl ?_
      refine r_mg (j := 6) hM rfl rfl (by decide) ?_
      refine r_iload_n rfl rfl ?_
      refine r_mi (j := 6) hM rfl rfl (by decide) (by first | rfl | assumption) (show _ < 120 by omega) ?_
      rw [hX_n _ _ (show o + 1 + 6 ≠ o + 1 + 16 by omega)]
      refine r_icmp_ne rfl (fun w => ?_) (fun w => ?_)
      · refine r_iconst (v := nI 0) rfl (by decide) ?_
        exact fin false (by rw [decide_eq_false w]; rfl)
      · refine r_aload_n rfl rfl ?_
        refine r_iload_n rfl rfl ?_
        refine r_aload_n rfl rfl ?_
        refine r_mg (j := 14) hM rfl rfl (by decide) ?_
        refine r_iload_n rfl rfl ?_
        refine r_mi (j := 14) hM rfl rfl (by decide) rfl (show _ < 120 by omega) ?_
        rw [hX_n _ _ (show o + 1 + 14 ≠ o + 1 + 16 by omega), hy]
        have e7 : h_X (w_X τ (o + 1 + 16) (upd (h_X τ (o + 1 + 16)) x (nI (1 + cq)))) (o + 1 + 7) = h_X τ (o + 1 + 7) := hX_n _ _ (by omega)
        have e6 : h_X (w_X τ (o + 1 + 16) (upd (h_X τ (o + 1 + 16)) x (nI (1 + cq)))) (o + 1 + 6) = h_X τ (o + 1 + 6) := hX_n _ _ (by omega)
        have e3 : h_X (w_X τ (o + 1 + 16) (upd (h_X τ (o + 1 + 16)) x (nI (1 + cq)))) (o + 1 + 3) = h_X τ (o + 1 + 3) := hX_n _ _ (by omega)
        refine r_callV (As := [_, _]) rfl (by decide) rfl hM2.1 rfl rfl (Nat.le_of_ble_eq_true rfl) ⟨Nat.le_of_ble_eq_true rfl, Nat.le_of_ble_eq_true rfl⟩ (c_M_sameScope (k := k) (s := sc k) hM2 (by omega) (by omega) (by rw [e6]; exact k2) k1 (by rw [e3]; exact s1) s2 (by rw [e6, e7]; exact x3) (by rw [e7]; exact y4)) (kc' := 0) (ks' := 0) (by omega) (by omega) (by decide) ?_
        rintro r τ2 ⟨rfl, rfl⟩
        rw [e6, e7]
        refine r_ifeqB rfl (fun w2 => ?_) (fun w2 => ?_)
        · refine r_iconst (v := nI 0) rfl (by decide) ?_
          exact fin false (by rw [w2, Bool.and_false])
        · refine r_iconst (v := nI 1) rfl (by decide) ?_
          refine r_goto rfl ?_
          exact fin true (by rw [w2, decide_eq_true w]; rfl)
  exact loop i 0 (by omega)
end MC
end
section
/-! ===== the reference: make(), whole ===== -/
theorem mkP.keep {σ τ : Hp} {o n : Nat} {sc sy jo : Nat → Nat} {L : List Nat} (h : MFr mkR mkI σ τ o) (g : mkP σ o n sc sy jo L) : mkP τ o n sc sy jo L := by
  unfold mkP at g ⊢
  rw [h.row (j := 3) (by decide), h.row (j := 4) (by decide), h.row (j := 5) (by decide), h.row (j := 6) (by decide), h.row (j := 7) (by decide), h.row (j := 8) (by decide), h.fld (f := 711) (by decide)]
  exact g
/-- what holds behind the first i things -/
def mkJ (σ : Hp) (o n : Nat) (on kd : Nat → Int32) (sc sy jo : Nat → Nat) (L : List Nat) (i : Nat) : Prop :=
  h_I σ 721 o = nI 1 ∧ h_I σ 724 o = nI L.length ∧ (∀ i, i < L.length → h_X σ (o + 1 + 14) i = nI (L.getD i 0)) ∧ (∀ i, i < L.length → h_X σ (o + 1 + 15) (L.getD i 0) = nI i) ∧ (∀ x, x < n → x ∉ L → h_X σ (o + 1 + 15) x = -1) ∧
  (∀ q, q < i → h_X σ (o + 1 + 16) (L.getD q 0) = nI (ctO on kd sc L q)) ∧ (∀ x, x < n → (∀ q, q < i → L.getD q 0 ≠ x) → h_X σ (o + 1 + 16) x = 0) ∧ (∀ x, x < n → h_X σ (o + 1 + 17) x = (mkO on kd sc sy jo L i).1 x) ∧
  (∀ x, x < n → Tx σ o 18 19 x ((mkO on kd sc sy jo L i).2 x)) ∧ ∀ q, q < i → Tx σ o 20 21 (L.getD q 0) (sgn (sy (kd (L.getD q 0)).toNatClampNeg) (ctO on kd sc L q))
section MC
variable {l : Launch} {D : DD} {σ : Hp} {o : Nat}
set_option maxHeartbeats 4000000 in
theorem c_M_make {n : Nat} {sc sy jo : Nat → Nat} {L : List Nat} (hM : ML σ o) (hP : mkP σ o n sc sy jo L) (hm : h_I σ 721 o = nI 1 ∧ mkD σ o n (h_X σ (o + 1 + 7)) (h_X σ (o + 1 + 6)) sc sy jo L ∨ h_I σ 721 o = nI 0) :
    Cn l D m_M_make 0 0 [va_rf (some o)] σ (fun r τ => r = none ∧ MFr mkR mkI σ τ o ∧ h_I τ 721 o = nI 1 ∧ mkD τ o n (h_X σ (o + 1 + 7)) (h_X σ (o + 1 + 6)) sc sy jo L) := by
  generalize hQ : (fun (r : Option Value) (τ : Hp) => r = none ∧ MFr mkR mkI σ τ o ∧ h_I τ 721 o = nI 1 ∧ mkD τ o n (h_X σ (o + 1 + 7)) (h_X σ (o + 1 + 6)) sc sy jo L) = Q
  refine Cn.of (by decide) (by repeat (first | exact ca_0 | refine ca_i ?_ | refine ca_r ?_)) (Nat.le_of_ble_eq_true rfl) ?_
  rcases hm with ⟨hm, hd⟩ | hm
  · refine r_aload_n rfl rfl ?_
    (first | refine r_getIv rfl hM.1 rfl (by assumption) ?_ | refine r_getI rfl hM.1 rfl ?_)
    refine r_if_eq rfl (fun q => absurd q (by decide)) (fun _ => ?_)
    refine r_vret rfl rfl ?_
    rw [← hQ]
    exact ⟨rfl, MFr.rf _ _ _ _, hm, hd⟩
  refine r_aload_n rfl rfl ?_
  (first | refine r_getIv rfl hM.1 rfl (by assumption) ?_ | refine r_getI rfl hM.1 rfl ?_)
  refine r_if_eq rfl (fun _ => ?_) (fun q => absurd rfl q)
  refine r_aload_n rfl rfl ?_
  refine r_iconst (v := nI 1) rfl (by decide) ?_
  refine r_putI rfl hM.1 rfl (Or.inl rfl) (by first | rfl | decide) (by first | rfl | decide) ?_
  refine r_aload_n rfl rfl ?_
  have f1 : MFr mkR mkI σ (w_I σ 721 o (nI 1)) o := MFr.I σ _ (by decide)
  have i1 : h_I (w_I σ 721 o (nI 1)) 721 o = nI 1 := hI_w _ _ _ _
  generalize w_I σ 721 o (nI 1) = σ1 at f1 i1
  have hM1 := f1.mL hM
  have hP1 := hP.keep f1
  obtain ⟨p1, p2, p3, p4, p5, p6, p7, p8⟩ := id hP1
  refine r_callV (As := []) rfl (by decide) rfl hM1.1 rfl rfl (Nat.le_of_ble_eq_true rfl) ⟨Nat.le_of_ble_eq_true rfl, Nat.le_of_ble_eq_true rfl⟩ (c_M_order hM1 p2 p1 p3 (fun x hx => ⟨(p8 x hx).1, (p8 x hx).2.1⟩) p4 p5) (kc' := 0) (ks' := 0) (by omega) (by omega) (by decide) ?_
  rintro r τ ⟨rfl, O, A, rfl, o1, o2, o3⟩
  have f2 : MFr mkR mkI σ (w_I (w_X (w_X σ1 (o + 1 + 14) O) (o + 1 + 15) A) 724 o (nI L.length)) o := ((f1.tr (MFr.X _ O (by decide))).tr (MFr.X _ A (by decide))).tr (MFr.I _ _ (by decide))
  have a1 : h_I (w_I (w_X (w_X σ1 (o + 1 + 14) O) (o + 1 + 15) A) 724 o (nI L.length)) 721 o = nI 1 := by rw [hI_n _ _ (by decide)]; exact i1
  have a2 : h_I (w_I (w_X (w_X σ1 (o + 1 + 14) O) (o + 1 + 15) A) 724 o (nI L.length)) 724 o = nI L.length := hI_w _ _ _ _
  have a3 : ∀ i, i < L.length → h_X (w_I (w_X (w_X σ1 (o + 1 + 14) O) (o + 1 + 15) A) 724 o (nI L.length)) (o + 1 + 14) i = nI (L.getD i 0) := fun i hi => by rw [hX_wI, hX_n _ _ (by omega), hX_w]; exact o1 i hi
  have a4 : h_X (w_I (w_X (w_X σ1 (o + 1 + 14) O) (o + 1 + 15) A) 724 o (nI L.length)) (o + 1 + 15) = A := by rw [hX_wI, hX_w]
  generalize w_I (w_X (w_X σ1 (o + 1 + 14) O) (o + 1 + 15) A) 724 o (nI L.length) = σ2 at f2 a1 a2 a3 a4
  clear hP1 hM1 p2 p3 p6 p7 p8
  -- the things of the ORDER
  have main : ∀ (d i : Nat) (τ : Hp) (z1 z2 : Option Value), i + d = L.length → MFr mkR mkI σ τ o → mkJ τ o n (h_X σ (o + 1 + 7)) (h_X σ (o + 1 + 6)) sc sy jo L i → Gm l D m_M_make 0 0 Q 56 [some (va_rf (some o)), some (.int (nI i)), z1, z2] [] τ 0 0 := by
    intro d
    induction d with
    | zero =>
      intro i τ z1 z2 hi hF hJ
      have hM := hF.mL hM
      obtain ⟨j1, j2, j3, j4, j5, j6, j7, j8, j9, j10⟩ := hJ
      refine r_iload_n rfl rfl ?_
      refine r_aload_n rfl rfl ?_
      (first | refine r_getIv rfl hM.1 rfl (by assumption) ?_ | refine r_getI rfl hM.1 rfl ?_)
      refine r_geN rfl (by omega) (by omega) (fun _ => ?_) (fun q => by omega)
      refine r_vret rfl rfl ?_
      rw [← hQ]
      have hiL : i = L.length := by omega
      subst hiL
      refine ⟨rfl, hF, j1, j2, j3, j4, j5, j6, fun x hx hxL => j7 x hx (fun q hq e => hxL (by rw [← e]; exact getD_mem hq)), j8, j9, j10⟩
    | succ d ih =>
      intro i τ z1 z2 hi hF hJ
      have hM := hF.mL hM
      have hPt := hP.keep hF
      have r6 : h_X τ (o + 1 + 6) = h_X σ (o + 1 + 6) := hF.row (by decide)
      have r7 : h_X τ (o + 1 + 7) = h_X σ (o + 1 + 7) := hF.row (by decide)
      obtain ⟨j1, j2, j3, j4, j5, j6, j7, j8, j9, j10⟩ := hJ
      obtain ⟨p1, p2, p3, p4, p5, p6, p7, p8⟩ := id hPt
      obtain ⟨x1, x2, x3, x4, x5⟩ := p8 _ (getD_mem (show i < L.length by omega))
      refine r_iload_n rfl rfl ?_
      refine r_aload_n rfl rfl ?_
      (first | refine r_getIv rfl hM.1 rfl (by assumption) ?_ | refine r_getI rfl hM.1 rfl ?_)
      refine r_geN rfl (by omega) (by omega) (fun q => by omega) (fun _ => ?_)
      refine r_aload_n rfl rfl ?_
      refine r_mg (j := 14) hM rfl rfl (by decide) ?_
      refine r_iload_n rfl rfl ?_
      refine r_mi (j := 14) hM rfl rfl (by decide) (by first | rfl | assumption) (show _ < 120 by omega) ?_
      rw [j3 i (by omega)]
      refine r_istore_n rfl (by decide) ?_
      refine mk_count hM hPt (show i < L.length by omega) j3 (fun z => ?_) _
      rw [r6, r7]
      generalize hct : ctO (h_X σ (o + 1 + 7)) (h_X σ (o + 1 + 6)) sc L i = ct
      have hct1 : 1 ≤ ct ∧ ct ≤ 120 := by
        rw [← hct]
        unfold ctO
        have := cntB_le (fun q => decide (h_X σ (o + 1 + 6) (L.getD q 0) = h_X σ (o + 1 + 6) (L.getD i 0)) && ssB (h_X σ (o + 1 + 7)) (h_X σ (o + 1 + 6)) (sc (h_X σ (o + 1 + 6) (L.getD i 0)).toNatClampNeg) (L.getD i 0) (L.getD q 0)) i
        omega
      obtain ⟨k, k1, k2⟩ := p6 _ x1
      rw [r6] at k2
      have kc : (h_X σ (o + 1 + 6) (L.getD i 0)).toNatClampNeg = k := by rw [k2]; exact nI_clamp (by omega)
      obtain ⟨s1, s2, s3, s4, s5, s6⟩ := p7 k k1
      rw [r6, r7] at x3 x5
      have fA : MFr mkR mkI τ (w_X τ (o + 1 + 16) (upd (h_X τ (o + 1 + 16)) (L.getD i 0) (nI ct))) o := MFr.X _ _ (by decide)
      have e16 : h_X (w_X τ (o + 1 + 16) (upd (h_X τ (o + 1 + 16)) (L.getD i 0) (nI ct))) (o + 1 + 16) = upd (h_X τ (o + 1 + 16)) (L.getD i 0) (nI ct) := hX_w _ _ _
      have eo : ∀ j, j ≠ 16 → h_X (w_X τ (o + 1 + 16) (upd (h_X τ (o + 1 + 16)) (L.getD i 0) (nI ct))) (o + 1 + j) = h_X τ (o + 1 + j) := fun j hj => hX_n _ _ (by omega)
      have eI : h_I (w_X τ (o + 1 + 16) (upd (h_X τ (o + 1 + 16)) (L.getD i 0) (nI ct))) = h_I τ := rfl
      generalize w_X τ (o + 1 + 16) (upd (h_X τ (o + 1 + 16)) (L.getD i 0) (nI ct)) = τ1 at fA e16 eo eI
      have hM1 := fA.mL hM
      generalize hx : L.getD i 0 = x at *
      refine r_aload_n rfl rfl ?_
      refine r_iload_n rfl rfl ?_
      refine r_callV (As := [_]) rfl (by decide) rfl hM1.1 rfl rfl (Nat.le_of_ble_eq_true rfl) ⟨Nat.le_of_ble_eq_true rfl, Nat.le_of_ble_eq_true rfl⟩ (c_M_makeSign (c := ct) (k := k) (s := sy k) (zs := []) hM1 (by omega) (by rw [e16, upd_s]) hct1.1 hct1.2 (by rw [eo 6 (by decide), r6]; exact k2) k1 (by rw [eo 4 (by decide)]; exact s3) s4) (kc' := 0) (ks' := 0) (by omega) (by omega) (by decide) ?_
      rintro r τ2 ⟨rfl, t1, f3⟩
      have hM2 := f3.ML hM1
      have q6 : h_X τ2 (o + 1 + 6) = h_X σ (o + 1 + 6) := by rw [f3.row (by omega) (by omega), eo 6 (by decide), r6]
      have q7 : h_X τ2 (o + 1 + 7) = h_X σ (o + 1 + 7) := by rw [f3.row (by omega) (by omega), eo 7 (by decide), r7]
      have q3 : h_X τ2 (o + 1 + 3) k = nI (sc k) := by rw [f3.row (by omega) (by omega), eo 3 (by decide)]; exact s1
      have q5 : h_X τ2 (o + 1 + 5) k = nI (jo k) := by rw [f3.row (by omega) (by omega), eo 5 (by decide)]; exact s5
      have q17 : h_X τ2 (o + 1 + 17) = h_X τ (o + 1 + 17) := by rw [f3.row (by omega) (by omega), eo 17 (by decide)]
      have tx2 : ∀ p, p < n → Tx τ2 o 18 19 p ((mkO (h_X σ (o + 1 + 7)) (h_X σ (o + 1 + 6)) sc sy jo L i).2 p) := by
        intro p hp
        have := j9 p hp
        unfold Tx at this ⊢
        rw [f3.row (b := o + 1 + 18) (by omega) (by omega), f3.row (b := o + 1 + 19) (by omega) (by omega), eo 18 (by decide), eo 19 (by decide)]
        exact this
      generalize hb0 : b0O (h_X σ (o + 1 + 7)) (h_X σ (o + 1 + 6)) sc x = b0 at x5
      generalize hnm : (mkO (h_X σ (o + 1 + 7)) (h_X σ (o + 1 + 6)) sc sy jo L i).2 b0.toNatClampNeg = nm
      refine r_aload_n rfl rfl ?_
      refine r_iload_n rfl rfl ?_
      refine r_callV (As := [_]) rfl (by decide) rfl hM2.1 rfl rfl (Nat.le_of_ble_eq_true rfl) ⟨Nat.le_of_ble_eq_true rfl, Nat.le_of_ble_eq_true rfl⟩ (c_M_makeNumber (k := k) (s := sc k) (j := jo k) (b0 := b0) (nm := nm) (sg := sgn (sy k) ct) hM2 (by omega) (by rw [q6]; exact k2) k1 q3 s2 q5 s6 (fun _ => by rw [q6, q7]; exact x3 _) (by rw [q6, q7, ← hb0]; unfold b0O; rw [kc]) t1 (sgn_len _ _).1 (by
        rcases x5 with w | ⟨p, w1, w2, w3⟩
        · exact Or.inl w
        · refine Or.inr ⟨p, by omega, w2, w3, ?_⟩
          rw [← hnm, w3, nI_clamp (by omega)]
          exact tx2 p w1)) (kc' := 0) (ks' := 0) (by omega) (by omega) (by decide) ?_
      rintro r τ3 ⟨rfl, t2, f4⟩
      refine r_iinc rfl rfl (nI_inc _) ?_
      refine r_goto rfl ?_
      have fB : MFr mkR mkI τ2 (w_X τ2 (o + 1 + 17) (upd (h_X τ2 (o + 1 + 17)) x (bsV b0 nm))) o := MFr.X _ _ (by decide)
      have hF3 : MFr mkR mkI σ τ3 o := (((hF.tr fA).tr (MFr.T f3 (by decide) (by decide))).tr fB).tr (MFr.T f4 (by decide) (by decide))
      have hI3 : ∀ f, h_I τ3 f o = h_I τ f o := fun f => by rw [f4.I]; show h_I τ2 f o = _; rw [f3.I, eI]
      have row3 : ∀ j, j ≠ 16 → j ≠ 17 → j ≠ 18 → j ≠ 19 → j ≠ 20 → j ≠ 21 → h_X τ3 (o + 1 + j) = h_X τ (o + 1 + j) := by
        intro j h1 h2 h3 h4 h5 h6
        rw [f4.row (by omega) (by omega), hX_n _ _ (by omega), f3.row (by omega) (by omega), eo j h1]
      have row16 : h_X τ3 (o + 1 + 16) = upd (h_X τ (o + 1 + 16)) x (nI ct) := by
        rw [f4.row (by omega) (by omega), hX_n _ _ (by omega), f3.row (by omega) (by omega), e16]
      have row17 : h_X τ3 (o + 1 + 17) = upd (h_X τ (o + 1 + 17)) x (bsV b0 nm) := by
        rw [f4.row (by omega) (by omega), hX_w, q17]
      have ne : ∀ q, q < i → L.getD q 0 ≠ x := fun q hq e => by
        have := getD_inj p5 (show q < L.length by omega) (show i < L.length by omega) (e.trans hx.symm)
        omega
      refine ih (i + 1) τ3 _ _ (by omega) hF3 ⟨by rw [hI3]; exact j1, by rw [hI3]; exact j2, by rw [row3 14 (by decide) (by decide) (by decide) (by decide) (by decide) (by decide)]; exact j3, by rw [row3 15 (by decide) (by decide) (by decide) (by decide) (by decide) (by decide)]; exact j4, by rw [row3 15 (by decide) (by decide) (by decide) (by decide) (by decide) (by decide)]; exact j5, fun q hq => ?_, fun y hy hq => ?_, fun y hy => ?_, fun y hy => ?_, fun q hq => ?_⟩
      · rw [row16]
        by_cases e : q = i
        · rw [e, hx, upd_s, ← hct, ]
        · rw [upd_n _ _ (ne q (by omega))]
          exact j6 q (by omega)
      · have hyx : y ≠ x := fun e => hq i (by omega) (by rw [hx, e])
        rw [row16, upd_n _ _ hyx]
        exact j7 y hy (fun q hq2 => hq q (by omega))
      · rw [row17, mkO]
        show _ = upd _ (L.getD i 0) _ y
        rw [hx, hb0, hnm]
        by_cases e : y = x
        · rw [e, upd_s, upd_s]
        · rw [upd_n _ _ e, upd_n _ _ e]
          exact j8 y hy
      · rw [mkO]
        show Tx τ3 o 18 19 y (u_1 _ (L.getD i 0) _ y)
        rw [hx, hb0, hnm, kc, hct]
        by_cases e : y = x
        · rw [e, u1_s]
          exact t2
        · rw [u1_n _ _ e]
          refine Tx.keep (by decide) f4 e ?_
          have := tx2 y hy
          unfold Tx at this ⊢
          rw [hX_n _ _ (by omega), hX_n _ _ (by omega)]
          exact this
      · have tr : ∀ z zs, Tx τ2 o 20 21 z zs → Tx τ3 o 20 21 z zs := by
          intro z zs h
          unfold Tx at h ⊢
          rw [f4.row (b := o + 1 + 20) (by omega) (by omega), f4.row (b := o + 1 + 21) (by omega) (by omega), hX_n _ _ (by omega), hX_n _ _ (by omega)]
          exact h
        by_cases e : q = i
        · rw [e, hx, kc, hct]
          exact tr _ _ t1
        · refine tr _ _ (Tx.keep (by decide) f3 (ne q (by omega)) ?_)
          have := j10 q (by omega)
          unfold Tx at this ⊢
          rw [eo 20 (by decide), eo 21 (by decide)]
          exact this
  -- all is cleared first
  have fill : ∀ (d k : Nat) (τ : Hp), k + d = n → MFr mkR mkI σ τ o → h_I τ 721 o = nI 1 → h_I τ 724 o = nI L.length → (∀ i, i < L.length → h_X τ (o + 1 + 14) i = nI (L.getD i 0)) → h_X τ (o + 1 + 15) = A → (∀ x, x < k → h_X τ (o + 1 + 16) x = nI 0 ∧ h_X τ (o + 1 + 17) x = -1 ∧ h_X τ (o + 1 + 19) x = nI 0) →
      Gm l D m_M_make 0 0 Q 19 [some (va_rf (some o)), some (.int (nI k)), none, none] [] τ 0 0 := by
    intro d
    induction d with
    | zero =>
      intro k τ hk hF b1 b2 b3 b4 b5
      have hM := hF.mL hM
      have hn := (hP.keep hF).2.1
      refine r_iload_n rfl rfl ?_
      refine r_aload_n rfl rfl ?_
      (first | refine r_getIv rfl hM.1 rfl (by assumption) ?_ | refine r_getI rfl hM.1 rfl ?_)
      refine r_geN rfl (by omega) (by omega) (fun _ => ?_) (fun q => by omega)
      refine r_iconst (v := nI 0) rfl (by decide) ?_
      refine r_istore_n rfl (by decide) ?_
      refine main L.length 0 τ _ _ (by omega) hF ⟨b1, b2, b3, by rw [b4]; exact o2, by rw [b4]; exact o3, fun q hq => by omega, fun x hx _ => (b5 x (by omega)).1, fun x hx => (b5 x (by omega)).2.1, fun x hx => ⟨(b5 x (by omega)).2.2, by show ([] : List Int32).length ≤ 60; simp, fun i hi => ?_⟩, fun q hq => by omega⟩
      exact absurd hi (by show ¬ i < ([] : List Int32).length; simp)
    | succ d ih =>
      intro k τ hk hF b1 b2 b3 b4 b5
      have hM := hF.mL hM
      have hn := (hP.keep hF).2.1
      refine r_iload_n rfl rfl ?_
      refine r_aload_n rfl rfl ?_
      (first | refine r_getIv rfl hM.1 rfl (by assumption) ?_ | refine r_getI rfl hM.1 rfl ?_)
      refine r_geN rfl (by omega) (by omega) (fun q => by omega) (fun _ => ?_)
      refine r_aload_n rfl rfl ?_
      refine r_mg (j := 19) hM rfl rfl (by decide) ?_
      refine r_iload_n rfl rfl ?_
      refine r_iconst (v := nI 0) rfl (by decide) ?_
      refine r_mis (j := 19) hM rfl rfl (by decide) (by first | rfl | assumption) (show _ < 120 by omega) ?_
      refine r_aload_n rfl rfl ?_
      refine r_mg (j := 16) hM rfl rfl (by decide) ?_
      refine r_iload_n rfl rfl ?_
      refine r_iconst (v := nI 0) rfl (by decide) ?_
      refine r_mis (j := 16) hM rfl rfl (by decide) (by first | rfl | assumption) (show _ < 120 by omega) ?_
      refine r_aload_n rfl rfl ?_
      refine r_mg (j := 17) hM rfl rfl (by decide) ?_
      refine r_iload_n rfl rfl ?_
      refine r_iconst (v := -1) rfl (by decide) ?_
      refine r_mis (j := 17) hM rfl rfl (by decide) (by first | rfl | assumption) (show _ < 120 by omega) ?_
      refine r_iinc rfl rfl (nI_inc _) ?_
      refine r_goto rfl ?_
      refine ih (k + 1) _ (by omega) (((hF.tr (MFr.X _ _ (by decide))).tr (MFr.X _ _ (by decide))).tr (MFr.X _ _ (by decide))) b1 b2 ?_ ?_ (fun x hx => ?_)
      · rw [hX_n _ _ (by omega), hX_n _ _ (by omega), hX_n _ _ (by omega)]
        exact b3
      · rw [hX_n _ _ (by omega), hX_n _ _ (by omega), hX_n _ _ (by omega)]
        exact b4
      · rw [hX_w, hX_n _ _ (show o + 1 + 16 ≠ o + 1 + 17 by omega), hX_w, hX_n _ _ (show o + 1 + 19 ≠ o + 1 + 17 by omega), hX_n _ _ (show o + 1 + 19 ≠ o + 1 + 16 by omega), hX_w, hX_n _ _ (show o + 1 + 16 ≠ o + 1 + 19 by omega), hX_n _ _ (show o + 1 + 17 ≠ o + 1 + 16 by omega), hX_n _ _ (show o + 1 + 17 ≠ o + 1 + 19 by omega)]
        by_cases e : x = k
        · rw [e, upd_s, upd_s, upd_s]
          exact ⟨rfl, rfl, rfl⟩
        · rw [upd_n _ _ e, upd_n _ _ e, upd_n _ _ e]
          exact b5 x (by omega)
  refine r_iconst (v := nI 0) rfl (by decide) ?_
  refine r_istore_n rfl (by decide) ?_
  exact fill n 0 σ2 (by omega) f2 a1 a2 a3 a4 (fun x hx => by omega)
end MC
end
section
/-! ===== the reference: how things are told ===== -/
/-- the word of kind k -/
def Wd (σ : Hp) (o k : Nat) (ws : List Int32) : Prop := h_X σ (o + 1 + 2) k = nI ws.length ∧ ws.length ≤ 10 ∧ ∀ i, i < ws.length → h_X σ (o + 1 + 1) (10 * k + i) = ws.getD i 0
/-- TOLD: the word and a blank, the number -/
def toldL (ws nm : List Int32) : List Int32 := (if ws.length = 0 then [] else ws ++ [nI 32]) ++ nm
theorem toldL_0 {ws nm : List Int32} (h : ws.length = 0) : toldL ws nm = nm := by
  unfold toldL
  rw [if_pos h, List.nil_append]
theorem toldL_1 {ws nm : List Int32} (h : ws.length ≠ 0) : toldL ws nm = ws ++ [nI 32] ++ nm := by
  unfold toldL
  rw [if_neg h]
theorem getD_app {xs ys : List Int32} {i : Nat} (h : i < xs.length) : (xs ++ ys).getD i 0 = xs.getD i 0 := by
  rw [List.getD_eq_getElem?_getD, List.getD_eq_getElem?_getD, List.getElem?_append_left h]
theorem getD_app2 {xs ys : List Int32} {i : Nat} (h : xs.length ≤ i) : (xs ++ ys).getD i 0 = ys.getD (i - xs.length) 0 := by
  rw [List.getD_eq_getElem?_getD, List.getD_eq_getElem?_getD, List.getElem?_append_right h]
section MC
variable {l : Launch} {D : DD} {σ : Hp} {o : Nat}
theorem c_M_toldSize {x k : Nat} {ws nm : List Int32} (hM : ML σ o) (hx : x < 120) (hk : h_X σ (o + 1 + 6) x = nI k) (hk2 : k < 6) (hw : Wd σ o k ws) (hn : Tx σ o 18 19 x nm) : Cn l D m_M_toldSize 0 0 [va_rf (some o), .int (nI x)] σ (fun r τ => r = some (.int (nI (toldL ws nm).length)) ∧ τ = σ) := by
  obtain ⟨w1, w2, w3⟩ := hw
  obtain ⟨n1, n2, n3⟩ := hn
  refine Cn.of (by decide) (by repeat (first | exact ca_0 | refine ca_i ?_ | refine ca_r ?_)) (Nat.le_of_ble_eq_true rfl) ?_
  refine r_aload_n rfl rfl ?_
  refine r_mg (j := 2) hM rfl rfl (by decide) ?_
  refine r_aload_n rfl rfl ?_
  refine r_mg (j := 6) hM rfl rfl (by decide) ?_
  refine r_iload_n rfl rfl ?_
  refine r_mi (j := 6) hM rfl rfl (by decide) (by first | rfl | assumption) (show _ < 120 by omega) ?_
  rw [hk]
  refine r_mi (j := 2) hM rfl rfl (by decide) rfl (show _ < 6 by omega) ?_
  rw [w1]
  refine r_if_le rfl (fun q => ?_) (fun q => ?_)
  · have h0 : ws.length = 0 := by
      rcases Nat.eq_zero_or_pos ws.length with w | w
      · exact w
      · exact absurd q (nI_nle w (by omega))
    refine r_iconst (v := nI 0) rfl (by decide) ?_
    refine r_aload_n rfl rfl ?_
    refine r_mg (j := 19) hM rfl rfl (by decide) ?_
    refine r_iload_n rfl rfl ?_
    refine r_mi (j := 19) hM rfl rfl (by decide) (by first | rfl | assumption) (show _ < 120 by omega) ?_
    rw [n1]
    (first | refine r_iaddN rfl ?_ | refine r_iadd rfl ?_)
    exact r_iret rfl rfl ⟨by rw [toldL_0 h0, Nat.zero_add], rfl⟩
  · have h0 : ws.length ≠ 0 := fun w => q (by rw [w]; decide)
    refine r_aload_n rfl rfl ?_
    refine r_mg (j := 2) hM rfl rfl (by decide) ?_
    refine r_aload_n rfl rfl ?_
    refine r_mg (j := 6) hM rfl rfl (by decide) ?_
    refine r_iload_n rfl rfl ?_
    refine r_mi (j := 6) hM rfl rfl (by decide) (by first | rfl | assumption) (show _ < 120 by omega) ?_
    rw [hk]
    refine r_mi (j := 2) hM rfl rfl (by decide) rfl (show _ < 6 by omega) ?_
    rw [w1]
    refine r_iconst (v := nI 1) rfl (by decide) ?_
    (first | refine r_iaddN rfl ?_ | refine r_iadd rfl ?_)
    refine r_goto rfl ?_
    refine r_aload_n rfl rfl ?_
    refine r_mg (j := 19) hM rfl rfl (by decide) ?_
    refine r_iload_n rfl rfl ?_
    refine r_mi (j := 19) hM rfl rfl (by decide) (by first | rfl | assumption) (show _ < 120 by omega) ?_
    rw [n1]
    (first | refine r_iaddN rfl ?_ | refine r_iadd rfl ?_)
    exact r_iret rfl rfl ⟨by rw [toldL_1 h0]; simp only [List.length_append, List.length_singleton], rfl⟩
theorem c_M_toldByte {x k i : Nat} {ws nm : List Int32} (hM : ML σ o) (hx : x < 120) (hk : h_X σ (o + 1 + 6) x = nI k) (hk2 : k < 6) (hw : Wd σ o k ws) (hn : Tx σ o 18 19 x nm) (hi : i < (toldL ws nm).length) : Cn l D m_M_toldByte 0 0 [va_rf (some o), .int (nI x), .int (nI i)] σ (fun r τ => r = some (.int ((toldL ws nm).getD i 0)) ∧ τ = σ) := by
  obtain ⟨w1, w2, w3⟩ := hw
  obtain ⟨n1, n2, n3⟩ := hn
  have hlen : (toldL ws nm).length ≤ 71 := by
    unfold toldL
    split <;> simp <;> omega
  refine Cn.of (by decide) (by repeat (first | exact ca_0 | refine ca_i ?_ | refine ca_r ?_)) (Nat.le_of_ble_eq_true rfl) ?_
  refine r_aload_n rfl rfl ?_
  refine r_mg (j := 2) hM rfl rfl (by decide) ?_
  refine r_aload_n rfl rfl ?_
  refine r_mg (j := 6) hM rfl rfl (by decide) ?_
  refine r_iload_n rfl rfl ?_
  refine r_mi (j := 6) hM rfl rfl (by decide) (by first | rfl | assumption) (show _ < 120 by omega) ?_
  rw [hk]
  refine r_mi (j := 2) hM rfl rfl (by decide) rfl (show _ < 6 by omega) ?_
  rw [w1]
  refine r_istore_n rfl (by decide) ?_
  refine r_iload_n rfl rfl ?_
  refine r_iload_n rfl rfl ?_
  refine r_geN rfl (by omega) (by omega) (fun q => ?_) (fun q => ?_)
  · refine r_iload_n rfl rfl ?_
    have tail : ∀ off, off = (if ws.length = 0 then 0 else ws.length + 1) → (toldL ws nm).getD i 0 = nm.getD (i - off) 0 → off ≤ i → i - off < nm.length → Gm l D m_M_toldByte 0 0 (fun r τ => r = some (.int ((toldL ws nm).getD i 0)) ∧ τ = σ) 67 [some (va_rf (some o)), some (.int (nI x)), some (.int (nI i)), some (.int (nI ws.length))] [.int (nI off), .int (nI (60 * x + i)), va_rf (some (o + 1 + 18))] σ 0 0 := by
      intro off ho he h1 h2
      refine r_isubN rfl (by omega) ?_
      refine r_mb (j := 18) hM rfl rfl (by decide) rfl (show _ < 7200 by omega) ?_
      refine r_iret rfl rfl ⟨?_, rfl⟩
      rw [he, ← n3 _ h2, show 60 * x + i - off = 60 * x + (i - off) by omega]
    have last : (ws.length = 0 ∨ ws.length < i) → Gm l D m_M_toldByte 0 0 (fun r τ => r = some (.int ((toldL ws nm).getD i 0)) ∧ τ = σ) 46 [some (va_rf (some o)), some (.int (nI x)), some (.int (nI i)), some (.int (nI ws.length))] [] σ 0 0 := by
      intro hc
      refine r_aload_n rfl rfl ?_
      refine r_mg (j := 18) hM rfl rfl (by decide) ?_
      refine r_bipush (v := nI 60) rfl (by decide) ?_
      refine r_iload_n rfl rfl ?_
      (first | refine r_imulN rfl ?_ | refine r_imul rfl ?_)
      refine r_iload_n rfl rfl ?_
      (first | refine r_iaddN rfl ?_ | refine r_iadd rfl ?_)
      refine r_iload_n rfl rfl ?_
      refine r_if_le rfl (fun q => ?_) (fun q => ?_)
      · have h0 : ws.length = 0 := by
          rcases Nat.eq_zero_or_pos ws.length with w | w
          · exact w
          · exact absurd q (nI_nle w (by omega))
        refine r_iconst (v := nI 0) rfl (by decide) ?_
        refine tail 0 (by rw [if_pos h0]) (by rw [toldL_0 h0, Nat.sub_zero]) (by omega) ?_
        rw [toldL_0 h0] at hi
        omega
      · have h0 : ws.length ≠ 0 := fun w => q (by rw [w]; decide)
        refine r_iload_n rfl rfl ?_
        refine r_iconst (v := nI 1) rfl (by decide) ?_
        (first | refine r_iaddN rfl ?_ | refine r_iadd rfl ?_)
        refine r_goto rfl ?_
        have h3 : ws.length + 1 ≤ i := by omega
        refine tail (ws.length + 1) (by rw [if_neg h0]) ?_ h3 ?_
        · rw [toldL_1 h0, getD_app2 (by simp; omega)]
          simp
        · rw [toldL_1 h0] at hi
          simp only [List.length_append, List.length_singleton] at hi
          omega
    refine r_if_le rfl (fun q2 => ?_) (fun q2 => ?_)
    · refine last (Or.inl ?_)
      rcases Nat.eq_zero_or_pos ws.length with w | w
      · exact w
      · exact absurd q2 (nI_nle w (by omega))
    have h0 : ws.length ≠ 0 := fun w => q2 (by rw [w]; decide)
    refine r_iload_n rfl rfl ?_
    refine r_iload_n rfl rfl ?_
    refine r_neN rfl (by omega) (by omega) (fun q3 => last (Or.inr (by omega))) (fun q3 => ?_)
    refine r_bipush (v := nI 32) rfl (by decide) ?_
    refine r_iret rfl rfl ⟨?_, rfl⟩
    rw [toldL_1 h0, getD_app (by simp; omega), getD_app2 (by omega), q3]
    simp
  · refine r_aload_n rfl rfl ?_
    refine r_mg (j := 1) hM rfl rfl (by decide) ?_
    refine r_bipush (v := nI 10) rfl (by decide) ?_
    refine r_aload_n rfl rfl ?_
    refine r_mg (j := 6) hM rfl rfl (by decide) ?_
    refine r_iload_n rfl rfl ?_
    refine r_mi (j := 6) hM rfl rfl (by decide) (by first | rfl | assumption) (show _ < 120 by omega) ?_
    rw [hk]
    (first | refine r_imulN rfl ?_ | refine r_imul rfl ?_)
    refine r_iload_n rfl rfl ?_
    (first | refine r_iaddN rfl ?_ | refine r_iadd rfl ?_)
    refine r_mb (j := 1) hM rfl rfl (by decide) rfl (show _ < 60 by omega) ?_
    refine r_iret rfl rfl ⟨?_, rfl⟩
    rw [w3 i q, toldL_1 (by omega), getD_app (by simp; omega), getD_app q]
theorem c_M_sameNumber {x y : Nat} {xs ys : List Int32} (hM : ML σ o) (hx : x < 120) (hy : y < 120) (h : Tx σ o 18 19 x xs) (g : Tx σ o 18 19 y ys) : Cn l D m_M_sameNumber 0 0 [va_rf (some o), .int (nI x), .int (nI y)] σ (fun r τ => r = some (.int (nI (decide (xs = ys)).toNat)) ∧ τ = σ) := by
  obtain ⟨h1, h2, h3⟩ := h
  obtain ⟨g1, g2, g3⟩ := g
  refine Cn.of (by decide) (by repeat (first | exact ca_0 | refine ca_i ?_ | refine ca_r ?_)) (Nat.le_of_ble_eq_true rfl) ?_
  refine r_aload_n rfl rfl ?_
  refine r_mg (j := 19) hM rfl rfl (by decide) ?_
  refine r_iload_n rfl rfl ?_
  refine r_mi (j := 19) hM rfl rfl (by decide) (by first | rfl | assumption) (show _ < 120 by omega) ?_
  refine r_aload_n rfl rfl ?_
  refine r_mg (j := 19) hM rfl rfl (by decide) ?_
  refine r_iload_n rfl rfl ?_
  refine r_mi (j := 19) hM rfl rfl (by decide) (by first | rfl | assumption) (show _ < 120 by omega) ?_
  rw [h1, g1]
  refine r_eqN rfl (by omega) (by omega) (fun q => ?_) (fun q => ?_)
  · refine r_iconst (v := nI 0) rfl (by decide) ?_
    refine r_istore_n rfl (by decide) ?_
    have loop : ∀ (d i : Nat), i + d = xs.length → (∀ q, q < i → xs.getD q 0 = ys.getD q 0) → Gm l D m_M_sameNumber 0 0 (fun r τ => r = some (.int (nI (decide (xs = ys)).toNat)) ∧ τ = σ) 19 [some (va_rf (some o)), some (.int (nI x)), some (.int (nI y)), some (.int (nI i))] [] σ 0 0 := by
      intro d
      induction d with
      | zero =>
        intro i hi hp
        refine r_iload_n rfl rfl ?_
        refine r_aload_n rfl rfl ?_
        refine r_mg (j := 19) hM rfl rfl (by decide) ?_
        refine r_iload_n rfl rfl ?_
        refine r_mi (j := 19) hM rfl rfl (by decide) (by first | rfl | assumption) (show _ < 120 by omega) ?_
        rw [h1]
        refine r_geN rfl (by omega) (by omega) (fun _ => ?_) (fun w => by omega)
        refine r_iconst (v := nI 1) rfl (by decide) ?_
        refine r_zret rfl rfl (by decide) ⟨?_, rfl⟩
        have e : xs = ys := by
          refine List.ext_getElem q (fun k a1 a2 => ?_)
          have := hp k (by omega)
          rw [getD_at a1, getD_at a2] at this
          exact this
        rw [decide_eq_true e]
        rfl
      | succ d ih =>
        intro i hi hp
        refine r_iload_n rfl rfl ?_
        refine r_aload_n rfl rfl ?_
        refine r_mg (j := 19) hM rfl rfl (by decide) ?_
        refine r_iload_n rfl rfl ?_
        refine r_mi (j := 19) hM rfl rfl (by decide) (by first | rfl | assumption) (show _ < 120 by omega) ?_
        rw [h1]
        refine r_geN rfl (by omega) (by omega) (fun w => by omega) (fun _ => ?_)
        refine r_aload_n rfl rfl ?_
        refine r_mg (j := 18) hM rfl rfl (by decide) ?_
        refine r_bipush (v := nI 60) rfl (by decide) ?_
        refine r_iload_n rfl rfl ?_
        (first | refine r_imulN rfl ?_ | refine r_imul rfl ?_)
        refine r_iload_n rfl rfl ?_
        (first | refine r_iaddN rfl ?_ | refine r_iadd rfl ?_)
        refine r_mb (j := 18) hM rfl rfl (by decide) (by first | rfl | assumption) (show _ < 7200 by omega) ?_
        refine r_aload_n rfl rfl ?_
        refine r_mg (j := 18) hM rfl rfl (by decide) ?_
        refine r_bipush (v := nI 60) rfl (by decide) ?_
        refine r_iload_n rfl rfl ?_
        (first | refine r_imulN rfl ?_ | refine r_imul rfl ?_)
        refine r_iload_n rfl rfl ?_
        (first | refine r_iaddN rfl ?_ | refine r_iadd rfl ?_)
        refine r_mb (j := 18) hM rfl rfl (by decide) (by first | rfl | assumption) (show _ < 7200 by omega) ?_
        rw [h3 i (by omega), g3 i (by omega)]
        refine r_icmp_eq rfl (fun w => ?_) (fun w => ?_)
        · refine r_iinc rfl rfl (nI_inc _) ?_
          refine r_goto rfl ?_
          refine ih (i + 1) (by omega) (fun k hk => ?_)
          by_cases e : k = i
          · rw [e]; exact w
          · exact hp k (by omega)
        · refine r_iconst (v := nI 0) rfl (by decide) ?_
          refine r_zret rfl rfl (by decide) ⟨?_, rfl⟩
          rw [decide_eq_false (fun e => w (by rw [e]))]
          rfl
    exact loop xs.length 0 (by omega) (fun k hk => by omega)
  · refine r_iconst (v := nI 0) rfl (by decide) ?_
    refine r_zret rfl rfl (by decide) ⟨?_, rfl⟩
    rw [decide_eq_false (fun e => q (by rw [e]))]
    rfl
theorem c_M_leadOf {x f n : Nat} (hM : ML σ o) (hn : h_I σ 711 o = nI n) (hn2 : n ≤ 120) (hs : foS (h_X σ (o + 1 + 7)) (h_X σ (o + 1 + 9)) f x) : Cn l D m_M_leadOf 0 0 [va_rf (some o), .int (nI x)] σ (fun r τ => r = some (.int (if isTh n (h_X σ (o + 1 + 7)) (nI (foE (h_X σ (o + 1 + 7)) (h_X σ (o + 1 + 9)) f x)) = true then nI (foE (h_X σ (o + 1 + 7)) (h_X σ (o + 1 + 9)) f x) else -1)) ∧ τ = σ) := by
  refine Cn.of (by decide) (by repeat (first | exact ca_0 | refine ca_i ?_ | refine ca_r ?_)) (Nat.le_of_ble_eq_true rfl) ?_
  refine r_aload_n rfl rfl ?_
  refine r_iload_n rfl rfl ?_
  refine r_callV (As := [_]) rfl (by decide) rfl hM.1 rfl rfl (Nat.le_of_ble_eq_true rfl) ⟨Nat.le_of_ble_eq_true rfl, Nat.le_of_ble_eq_true rfl⟩ (c_M_follow hM hs) (kc' := 0) (ks' := 0) (by omega) (by omega) (by decide) ?_
  rintro r τ ⟨rfl, rfl⟩
  refine r_istore_n rfl (by decide) ?_
  refine r_aload_n rfl rfl ?_
  refine r_iload_n rfl rfl ?_
  refine r_callV (As := [_]) rfl (by decide) rfl hM.1 rfl rfl (Nat.le_of_ble_eq_true rfl) ⟨Nat.le_of_ble_eq_true rfl, Nat.le_of_ble_eq_true rfl⟩ (c_M_isThere hM hn hn2) (kc' := 0) (ks' := 0) (by omega) (by omega) (by decide) ?_
  rintro r τ' ⟨rfl, rfl⟩
  refine r_ifeqB rfl (fun q => ?_) (fun q => ?_)
  · refine r_iconst (v := -1) rfl (by decide) ?_
    refine r_iret rfl rfl ⟨?_, rfl⟩
    rw [q]
    rfl
  · refine r_iload_n rfl rfl ?_
    refine r_goto rfl ?_
    refine r_iret rfl rfl ⟨?_, rfl⟩
    rw [if_pos q]
end MC
end
section
/-! ===== the reference: what is written into the line ===== -/
theorem LbF.fr {rows flds : List Nat} {σ τ : Hp} {o : Nat} (h : LbF σ τ o) (h1 : 30 ∈ rows) (h2 : 741 ∈ flds) : MFr rows flds σ τ o := by
  obtain ⟨g, v, rfl⟩ := h
  exact (MFr.X σ g h1).tr (MFr.I _ v h2)
theorem LbF.tx {σ τ : Hp} {o x jT jS : Nat} {xs : List Int32} (h : LbF σ τ o) (h1 : jT ≠ 30) (h2 : jS ≠ 30) (g : Tx σ o jT jS x xs) : Tx τ o jT jS x xs := by
  obtain ⟨a, v, rfl⟩ := h
  unfold Tx at g ⊢
  rw [hX_wI, hX_n _ _ (by omega), hX_n _ _ (by omega)]
  exact g
section MC
variable {l : Launch} {D : DD} {σ : Hp} {o : Nat}
theorem c_M_lineNumber {x : Nat} {nm zs : List Int32} (hM : ML σ o) (hx : x < 120) (h : Tx σ o 18 19 x nm) (g : Lb σ o zs) (hl : zs.length + nm.length ≤ 2000) : Cn l D m_M_lineNumber 0 0 [va_rf (some o), .int (nI x)] σ (fun r τ => r = none ∧ Lb τ o (zs ++ nm) ∧ LbF σ τ o) := by
  refine Cn.of (by decide) (by repeat (first | exact ca_0 | refine ca_i ?_ | refine ca_r ?_)) (Nat.le_of_ble_eq_true rfl) ?_
  refine g_fits (fun hfit _ _ => ?_)
  have hb : ∀ i, i < nm.length → b8 (nm.getD i 0) = nm.getD i 0 := fun i hi => by
    rw [← h.2.2 i hi]
    exact fit_b8 (hfit _ (hM.2 18 (by decide)).2.1 _)
  have h60 := h.2.1
  refine r_iconst (v := nI 0) rfl (by decide) ?_
  refine r_istore_n rfl (by decide) ?_
  have loop : ∀ (d i : Nat) (τ : Hp), i + d = nm.length → Lb τ o (zs ++ nm.take i) → LbF σ τ o → Gm l D m_M_lineNumber 0 0 (fun r τ => r = none ∧ Lb τ o (zs ++ nm) ∧ LbF σ τ o) 2 [some (va_rf (some o)), some (.int (nI x)), some (.int (nI i))] [] τ 0 0 := by
    intro d
    induction d with
    | zero =>
      intro i τ hi t1 f1
      have hM := (f1.fr (rows := [30]) (flds := [741]) (by decide) (by decide)).mL hM
      have ht := f1.tx (by decide) (by decide) h
      refine r_iload_n rfl rfl ?_
      refine r_aload_n rfl rfl ?_
      refine r_mg (j := 19) hM rfl rfl (by decide) ?_
      refine r_iload_n rfl rfl ?_
      refine r_mi (j := 19) hM rfl rfl (by decide) (by first | rfl | assumption) (show _ < 120 by omega) ?_
      rw [ht.1]
      refine r_geN rfl (by omega) (by omega) (fun _ => ?_) (fun q => by omega)
      rw [show i = nm.length by omega, List.take_length] at t1
      exact r_vret rfl rfl ⟨rfl, t1, f1⟩
    | succ d ih =>
      intro i τ hi t1 f1
      have hM := (f1.fr (rows := [30]) (flds := [741]) (by decide) (by decide)).mL hM
      have ht := f1.tx (by decide) (by decide) h
      refine r_iload_n rfl rfl ?_
      refine r_aload_n rfl rfl ?_
      refine r_mg (j := 19) hM rfl rfl (by decide) ?_
      refine r_iload_n rfl rfl ?_
      refine r_mi (j := 19) hM rfl rfl (by decide) (by first | rfl | assumption) (show _ < 120 by omega) ?_
      rw [ht.1]
      refine r_geN rfl (by omega) (by omega) (fun q => by omega) (fun _ => ?_)
      refine r_aload_n rfl rfl ?_
      refine r_aload_n rfl rfl ?_
      refine r_mg (j := 18) hM rfl rfl (by decide) ?_
      refine r_bipush (v := nI 60) rfl (by decide) ?_
      refine r_iload_n rfl rfl ?_
      (first | refine r_imulN rfl ?_ | refine r_imul rfl ?_)
      refine r_iload_n rfl rfl ?_
      (first | refine r_iaddN rfl ?_ | refine r_iadd rfl ?_)
      refine r_mb (j := 18) hM rfl rfl (by decide) (by first | rfl | assumption) (show _ < 7200 by omega) ?_
      rw [ht.2.2 i (by omega)]
      refine r_callV (As := [_]) rfl (by decide) rfl hM.1 rfl rfl (Nat.le_of_ble_eq_true rfl) ⟨Nat.le_of_ble_eq_true rfl, Nat.le_of_ble_eq_true rfl⟩ (c_M_lineByte hM t1 (by simp; omega)) (kc' := 0) (ks' := 0) (by omega) (by omega) (by decide) ?_
      rintro r τ2 ⟨rfl, t2, f2⟩
      rw [hb i (by omega), List.append_assoc, take_app (by omega)] at t2
      refine r_iinc rfl rfl (nI_inc _) ?_
      refine r_goto rfl ?_
      exact ih (i + 1) τ2 (by omega) t2 (f1.tr f2)
  exact loop nm.length 0 σ (by omega) (by simpa using g) (LbF.rf _ _)
theorem c_M_lineThing {x k : Nat} {ws nm zs : List Int32} (hM : ML σ o) (hx : x < 120) (hk : h_X σ (o + 1 + 6) x = nI k) (hk2 : k < 6) (hw : Wd σ o k ws) (h : Tx σ o 18 19 x nm) (hb : ∀ i, i < (toldL ws nm).length → b8 ((toldL ws nm).getD i 0) = (toldL ws nm).getD i 0) (g : Lb σ o zs) (hl : zs.length + (toldL ws nm).length ≤ 2000) : Cn l D m_M_lineThing 0 0 [va_rf (some o), .int (nI x)] σ (fun r τ => r = none ∧ Lb τ o (zs ++ toldL ws nm) ∧ LbF σ τ o) := by
  refine Cn.of (by decide) (by repeat (first | exact ca_0 | refine ca_i ?_ | refine ca_r ?_)) (Nat.le_of_ble_eq_true rfl) ?_
  refine r_iconst (v := nI 0) rfl (by decide) ?_
  refine r_istore_n rfl (by decide) ?_
  have loop : ∀ (d i : Nat) (τ : Hp), i + d = (toldL ws nm).length → Lb τ o (zs ++ (toldL ws nm).take i) → LbF σ τ o → Gm l D m_M_lineThing 0 0 (fun r τ => r = none ∧ Lb τ o (zs ++ toldL ws nm) ∧ LbF σ τ o) 2 [some (va_rf (some o)), some (.int (nI x)), some (.int (nI i))] [] τ 0 0 := by
    intro d
    induction d with
    | zero =>
      intro i τ hi t1 f1
      have fr := f1.fr (rows := [30]) (flds := [741]) (by decide) (by decide)
      have hM := fr.mL hM
      have ht := f1.tx (by decide) (by decide) h
      have hkt : h_X τ (o + 1 + 6) x = nI k := by rw [fr.row (by decide)]; exact hk
      have hwt : Wd τ o k ws := by
        unfold Wd at hw ⊢
        rw [fr.row (j := 2) (by decide), fr.row (j := 1) (by decide)]
        exact hw
      refine r_iload_n rfl rfl ?_
      refine r_aload_n rfl rfl ?_
      refine r_iload_n rfl rfl ?_
      refine r_callV (As := [_]) rfl (by decide) rfl hM.1 rfl rfl (Nat.le_of_ble_eq_true rfl) ⟨Nat.le_of_ble_eq_true rfl, Nat.le_of_ble_eq_true rfl⟩ (c_M_toldSize hM hx hkt hk2 hwt ht) (kc' := 0) (ks' := 0) (by omega) (by omega) (by decide) ?_
      rintro r τ' ⟨rfl, rfl⟩
      refine r_geN rfl (by omega) (by omega) (fun _ => ?_) (fun q => by omega)
      rw [show i = (toldL ws nm).length by omega, List.take_length] at t1
      exact r_vret rfl rfl ⟨rfl, t1, f1⟩
    | succ d ih =>
      intro i τ hi t1 f1
      have fr := f1.fr (rows := [30]) (flds := [741]) (by decide) (by decide)
      have hM := fr.mL hM
      have ht := f1.tx (by decide) (by decide) h
      have hkt : h_X τ (o + 1 + 6) x = nI k := by rw [fr.row (by decide)]; exact hk
      have hwt : Wd τ o k ws := by
        unfold Wd at hw ⊢
        rw [fr.row (j := 2) (by decide), fr.row (j := 1) (by decide)]
        exact hw
      refine r_iload_n rfl rfl ?_
      refine r_aload_n rfl rfl ?_
      refine r_iload_n rfl rfl ?_
      refine r_callV (As := [_]) rfl (by decide) rfl hM.1 rfl rfl (Nat.le_of_ble_eq_true rfl) ⟨Nat.le_of_ble_eq_true rfl, Nat.le_of_ble_eq_true rfl⟩ (c_M_toldSize hM hx hkt hk2 hwt ht) (kc' := 0) (ks' := 0) (by omega) (by omega) (by decide) ?_
      rintro r τ' ⟨rfl, rfl⟩
      refine r_geN rfl (by omega) (by omega) (fun q => by omega) (fun _ => ?_)
      refine r_aload_n rfl rfl ?_
      refine r_aload_n rfl rfl ?_
      refine r_iload_n rfl rfl ?_
      refine r_iload_n rfl rfl ?_
      refine r_callV (As := [_, _]) rfl (by decide) rfl hM.1 rfl rfl (Nat.le_of_ble_eq_true rfl) ⟨Nat.le_of_ble_eq_true rfl, Nat.le_of_ble_eq_true rfl⟩ (c_M_toldByte hM hx hkt hk2 hwt ht (by omega)) (kc' := 0) (ks' := 0) (by omega) (by omega) (by decide) ?_
      rintro r τ' ⟨rfl, rfl⟩
      refine r_callV (As := [_]) rfl (by decide) rfl hM.1 rfl rfl (Nat.le_of_ble_eq_true rfl) ⟨Nat.le_of_ble_eq_true rfl, Nat.le_of_ble_eq_true rfl⟩ (c_M_lineByte hM t1 (by simp; omega)) (kc' := 0) (ks' := 0) (by omega) (by omega) (by decide) ?_
      rintro r τ2 ⟨rfl, t2, f2⟩
      rw [hb i (by omega), List.append_assoc, take_app (by omega)] at t2
      refine r_iinc rfl rfl (nI_inc _) ?_
      refine r_goto rfl ?_
      exact ih (i + 1) τ2 (by omega) t2 (f1.tr f2)
  exact loop (toldL ws nm).length 0 σ (by omega) (by simpa using g) (LbF.rf _ _)
/-- a run's text: what stands ahead of it, the first number, the last -/
def runT (r : Nat) (same : Bool) (a b : List Int32) : List Int32 := (if 0 < r then [b8 (nI 44), b8 (nI 32)] else []) ++ a ++ (if same = true then [] else [b8 (nI 32), b8 (nI 116), b8 (nI 111), b8 (nI 32)] ++ b)
theorem c_M_endRun {x y r : Nat} {a b zs : List Int32} (hM : ML σ o) (hx : x < 120) (hy : y < 120) (hr : h_I σ 742 o = nI r) (hr2 : r < 1000) (ha : Tx σ o 18 19 x a) (hb : Tx σ o 18 19 y b) (g : Lb σ o zs) (hl : zs.length + 130 ≤ 2000) : Cn l D m_M_endRun 0 0 [va_rf (some o), .int (nI x), .int (nI y)] σ (fun r' τ => r' = none ∧ Lb τ o (zs ++ runT r (decide (x = y)) a b) ∧ h_I τ 742 o = nI (r + 1) ∧ MFr [30] [741, 742] σ τ o) := by
  have a60 := ha.2.1
  have b60 := hb.2.1
  generalize hQ : (fun (r' : Option Value) (τ : Hp) => r' = none ∧ Lb τ o (zs ++ runT r (decide (x = y)) a b) ∧ h_I τ 742 o = nI (r + 1) ∧ MFr [30] [741, 742] σ τ o) = Q
  refine Cn.of (by decide) (by repeat (first | exact ca_0 | refine ca_i ?_ | refine ca_r ?_)) (Nat.le_of_ble_eq_true rfl) ?_
  have rest : ∀ (τ : Hp) (ys : List Int32), Lb τ o ys → LbF σ τ o → ys = zs ++ (if 0 < r then [b8 (nI 44), b8 (nI 32)] else []) → Gm l D m_M_endRun 0 0 Q 19 [some (va_rf (some o)), some (.int (nI x)), some (.int (nI y))] [] τ 0 0 := by
    intro τ ys t0 f0 he
    have hylen : ys.length ≤ zs.length + 2 := by
      rw [he, List.length_append]
      have : (if 0 < r then [b8 (nI 44), b8 (nI 32)] else []).length ≤ 2 := by split <;> simp
      omega
    have fr0 := f0.fr (rows := [30]) (flds := [741, 742]) (by decide) (by decide)
    have hM := fr0.mL hM
    have hrt : h_I τ 742 o = nI r := by
      obtain ⟨g1, v1, rfl⟩ := f0
      rw [hI_n _ _ (by decide)]
      exact hr
    have ta := f0.tx (by decide) (by decide) ha
    have tb := f0.tx (by decide) (by decide) hb
    refine r_aload_n rfl rfl ?_
    refine r_dup rfl (by first | rfl | exact rf_cat _) ?_
    (first | refine r_getIv rfl hM.1 rfl (by assumption) ?_ | refine r_getI rfl hM.1 rfl ?_)
    refine r_iconst (v := nI 1) rfl (by decide) ?_
    (first | refine r_iaddN rfl ?_ | refine r_iadd rfl ?_)
    refine r_putI rfl hM.1 rfl (Or.inl rfl) (by first | rfl | decide) (by first | rfl | decide) ?_
    have fr1 : MFr [30] [741, 742] σ (w_I τ 742 o (nI (r + 1))) o := fr0.tr (MFr.I _ _ (by decide))
    have hM1 : ML (w_I τ 742 o (nI (r + 1))) o := hM
    have t1 : Lb (w_I τ 742 o (nI (r + 1))) o ys := by
      obtain ⟨q1, q2, q3⟩ := t0
      exact ⟨by rw [hI_n _ _ (by decide)]; exact q1, q2, q3⟩
    have ta1 : Tx (w_I τ 742 o (nI (r + 1))) o 18 19 x a := ta
    have tb1 : Tx (w_I τ 742 o (nI (r + 1))) o 18 19 y b := tb
    have r1 : h_I (w_I τ 742 o (nI (r + 1))) 742 o = nI (r + 1) := hI_w _ _ _ _
    generalize w_I τ 742 o (nI (r + 1)) = ρ at fr1 hM1 t1 ta1 tb1 r1
    have keep : ∀ ρ2, LbF ρ ρ2 o → h_I ρ2 742 o = nI (r + 1) ∧ MFr [30] [741, 742] σ ρ2 o ∧ ML ρ2 o ∧ Tx ρ2 o 18 19 y b := by
      intro ρ2 h
      refine ⟨?_, fr1.tr (h.fr (by decide) (by decide)), (h.fr (rows := [30]) (flds := [741, 742]) (by decide) (by decide)).mL hM1, h.tx (by decide) (by decide) tb1⟩
      obtain ⟨g1, v1, rfl⟩ := h
      rw [hI_n _ _ (by decide)]
      exact r1
    refine r_aload_n rfl rfl ?_
    refine r_iload_n rfl rfl ?_
    refine r_callV (As := [_]) rfl (by decide) rfl hM1.1 rfl rfl (Nat.le_of_ble_eq_true rfl) ⟨Nat.le_of_ble_eq_true rfl, Nat.le_of_ble_eq_true rfl⟩ (c_M_lineNumber hM1 hx ta1 t1 (by omega)) (kc' := 0) (ks' := 0) (by omega) (by omega) (by decide) ?_
    rintro r' ρ1 ⟨rfl, t2, f2⟩
    refine r_iload_n rfl rfl ?_
    refine r_iload_n rfl rfl ?_
    refine r_neN rfl (by omega) (by omega) (fun q => ?_) (fun q => ?_)
    · obtain ⟨-, -, hM2, -⟩ := keep ρ1 f2
      refine r_aload_n rfl rfl ?_
      refine r_bipush (v := nI 32) rfl (by decide) ?_
      refine r_callV (As := [_]) rfl (by decide) rfl hM2.1 rfl rfl (Nat.le_of_ble_eq_true rfl) ⟨Nat.le_of_ble_eq_true rfl, Nat.le_of_ble_eq_true rfl⟩ (c_M_lineByte hM2 t2 (by simp; omega)) (kc' := 0) (ks' := 0) (by omega) (by omega) (by decide) ?_
      rintro r' ρ2 ⟨rfl, t3, f3⟩
      have f3 := f2.tr f3
      obtain ⟨-, -, hM3, -⟩ := keep ρ2 f3
      refine r_aload_n rfl rfl ?_
      refine r_bipush (v := nI 116) rfl (by decide) ?_
      refine r_callV (As := [_]) rfl (by decide) rfl hM3.1 rfl rfl (Nat.le_of_ble_eq_true rfl) ⟨Nat.le_of_ble_eq_true rfl, Nat.le_of_ble_eq_true rfl⟩ (c_M_lineByte hM3 t3 (by simp; omega)) (kc' := 0) (ks' := 0) (by omega) (by omega) (by decide) ?_
      rintro r' ρ3 ⟨rfl, t4, f4⟩
      have f4 := f3.tr f4
      obtain ⟨-, -, hM4, -⟩ := keep ρ3 f4
      refine r_aload_n rfl rfl ?_
      refine r_bipush (v := nI 111) rfl (by decide) ?_
      refine r_callV (As := [_]) rfl (by decide) rfl hM4.1 rfl rfl (Nat.le_of_ble_eq_true rfl) ⟨Nat.le_of_ble_eq_true rfl, Nat.le_of_ble_eq_true rfl⟩ (c_M_lineByte hM4 t4 (by simp; omega)) (kc' := 0) (ks' := 0) (by omega) (by omega) (by decide) ?_
      rintro r' ρ4 ⟨rfl, t5, f5⟩
      have f5 := f4.tr f5
      obtain ⟨-, -, hM5, -⟩ := keep ρ4 f5
      refine r_aload_n rfl rfl ?_
      refine r_bipush (v := nI 32) rfl (by decide) ?_
      refine r_callV (As := [_]) rfl (by decide) rfl hM5.1 rfl rfl (Nat.le_of_ble_eq_true rfl) ⟨Nat.le_of_ble_eq_true rfl, Nat.le_of_ble_eq_true rfl⟩ (c_M_lineByte hM5 t5 (by simp; omega)) (kc' := 0) (ks' := 0) (by omega) (by omega) (by decide) ?_
      rintro r' ρ5 ⟨rfl, t6, f6⟩
      have f6 := f5.tr f6
      obtain ⟨-, -, hM6, tb6⟩ := keep ρ5 f6
      refine r_aload_n rfl rfl ?_
      refine r_iload_n rfl rfl ?_
      refine r_callV (As := [_]) rfl (by decide) rfl hM6.1 rfl rfl (Nat.le_of_ble_eq_true rfl) ⟨Nat.le_of_ble_eq_true rfl, Nat.le_of_ble_eq_true rfl⟩ (c_M_lineNumber hM6 hy tb6 t6 (by simp; omega)) (kc' := 0) (ks' := 0) (by omega) (by omega) (by decide) ?_
      rintro r' ρ6 ⟨rfl, t7, f7⟩
      have f7 := f6.tr f7
      obtain ⟨k1, k2, -, -⟩ := keep ρ6 f7
      refine r_vret rfl rfl ?_
      rw [← hQ]
      refine ⟨rfl, ?_, k1, k2⟩
      unfold runT
      rw [decide_eq_false q]
      rw [he] at t7
      simpa using t7
    · obtain ⟨k1, k2, -, -⟩ := keep ρ1 f2
      refine r_vret rfl rfl ?_
      rw [← hQ]
      refine ⟨rfl, ?_, k1, k2⟩
      unfold runT
      rw [decide_eq_true q]
      rw [he] at t2
      simpa using t2
  refine r_aload_n rfl rfl ?_
  (first | refine r_getIv rfl hM.1 rfl (by assumption) ?_ | refine r_getI rfl hM.1 rfl ?_)
  refine r_if_le rfl (fun q => ?_) (fun q => ?_)
  · have h0 : ¬ 0 < r := fun w => absurd q (nI_nle w (by omega))
    exact rest σ zs g (LbF.rf _ _) (by rw [if_neg h0, List.append_nil])
  · have h0 : 0 < r := by
      rcases Nat.eq_zero_or_pos r with w | w
      · rw [w] at q
        exact absurd (by decide) q
      · exact w
    refine r_aload_n rfl rfl ?_
    refine r_bipush (v := nI 44) rfl (by decide) ?_
    refine r_callV (As := [_]) rfl (by decide) rfl hM.1 rfl rfl (Nat.le_of_ble_eq_true rfl) ⟨Nat.le_of_ble_eq_true rfl, Nat.le_of_ble_eq_true rfl⟩ (c_M_lineByte hM g (by omega)) (kc' := 0) (ks' := 0) (by omega) (by omega) (by decide) ?_
    rintro r' τ1 ⟨rfl, t1, f1⟩
    have hM1 := (f1.fr (rows := [30]) (flds := [741]) (by decide) (by decide)).mL hM
    refine r_aload_n rfl rfl ?_
    refine r_bipush (v := nI 32) rfl (by decide) ?_
    refine r_callV (As := [_]) rfl (by decide) rfl hM1.1 rfl rfl (Nat.le_of_ble_eq_true rfl) ⟨Nat.le_of_ble_eq_true rfl, Nat.le_of_ble_eq_true rfl⟩ (c_M_lineByte hM1 t1 (by simp; omega)) (kc' := 0) (ks' := 0) (by omega) (by omega) (by decide) ?_
    rintro r' τ2 ⟨rfl, t2, f2⟩
    exact rest τ2 _ t2 (f1.tr f2) (by rw [if_pos h0]; simp)
end MC
end
section
/-! ===== the reference: form, change, had, finding ===== -/
theorem inB_nI {v : Int32} {m : Nat} (hm : m < 2 ^ 31) (h : inB v 0 (nI m) = true) : ∃ k, k ≤ m ∧ v = nI k := by
  obtain ⟨h1, h2⟩ := okn h
  have h1 := of_decide_eq_true h1
  have h2 := of_decide_eq_true h2
  obtain ⟨k, hk, rfl⟩ := nI_of (Int32.not_lt.mpr h1)
  exact ⟨k, (nI_leI hk hm).mp h2, rfl⟩
section MC
variable {l : Launch} {D : DD} {σ : Hp} {o : Nat}
theorem c_M_form {k s y j : Int32} (hM : ML σ o) : Cn l D m_M_form 0 0 [va_rf (some o), .int k, .int s, .int y, .int j] σ (fun r τ => (inB k 0 5 && inB s 0 7 && inB y 0 4 && inB j 0 2) = false ∧ r = some (.int (-2)) ∧ τ = σ ∨ (inB k 0 5 && inB s 0 7 && inB y 0 4 && inB j 0 2) = true ∧ r = some (.int (nI 1)) ∧ ∃ q, q < 6 ∧ k = nI q ∧ τ = w_I (w_X (w_X (w_X σ (o + 1 + 3) (upd (h_X σ (o + 1 + 3)) q s)) (o + 1 + 4) (upd (h_X σ (o + 1 + 4)) q y)) (o + 1 + 5) (upd (h_X σ (o + 1 + 5)) q j)) 721 o (nI 0)) := by
  generalize hQ : (fun (r : Option Value) (τ : Hp) => (inB k 0 5 && inB s 0 7 && inB y 0 4 && inB j 0 2) = false ∧ r = some (.int (-2)) ∧ τ = σ ∨ (inB k 0 5 && inB s 0 7 && inB y 0 4 && inB j 0 2) = true ∧ r = some (.int (nI 1)) ∧ ∃ q, q < 6 ∧ k = nI q ∧ τ = w_I (w_X (w_X (w_X σ (o + 1 + 3) (upd (h_X σ (o + 1 + 3)) q s)) (o + 1 + 4) (upd (h_X σ (o + 1 + 4)) q y)) (o + 1 + 5) (upd (h_X σ (o + 1 + 5)) q j)) 721 o (nI 0)) = Q
  refine Cn.of (by decide) (by repeat (first | exact ca_0 | refine ca_i ?_ | refine ca_r ?_)) (Nat.le_of_ble_eq_true rfl) ?_
  have no : (inB k 0 5 && inB s 0 7 && inB y 0 4 && inB j 0 2) = false → Gm l D m_M_form 0 0 Q 36 (en_L [va_rf (some o), .int k, .int s, .int y, .int j] 5) [] σ 0 0 := by
    intro h
    refine r_bipush (v := -2) rfl (by decide) ?_
    refine r_iret rfl rfl ?_
    rw [← hQ]
    exact Or.inl ⟨h, rfl, rfl⟩
  refine r_iload_n rfl rfl ?_
  refine r_callS (As := [_]) rfl (by decide) rfl rfl rfl (Nat.le_of_ble_eq_true rfl) ⟨Nat.le_of_ble_eq_true rfl, Nat.le_of_ble_eq_true rfl⟩ c_M_isKind (kc' := 0) (ks' := 0) (by omega) (by omega) ?_
  rintro r τ ⟨rfl, rfl⟩
  refine r_ifeqB rfl (fun q => no (by rw [q]; rfl)) (fun q1 => ?_)
  refine r_iload_n rfl rfl ?_
  refine r_iconst (v := nI 0) rfl (by decide) ?_
  refine r_bipush (v := nI 7) rfl (by decide) ?_
  refine r_callS (As := [_, _, _]) rfl (by decide) rfl rfl rfl (Nat.le_of_ble_eq_true rfl) ⟨Nat.le_of_ble_eq_true rfl, Nat.le_of_ble_eq_true rfl⟩ c_M_in (kc' := 0) (ks' := 0) (by omega) (by omega) ?_
  rintro r τ' ⟨rfl, rfl⟩
  have e7 : inB s (nI 0) (nI 7) = inB s 0 7 := rfl
  rw [e7]
  refine r_ifeqB rfl (fun q => no (by rw [q]; simp)) (fun q2 => ?_)
  refine r_iload_n rfl rfl ?_
  refine r_iconst (v := nI 0) rfl (by decide) ?_
  refine r_iconst (v := nI 4) rfl (by decide) ?_
  refine r_callS (As := [_, _, _]) rfl (by decide) rfl rfl rfl (Nat.le_of_ble_eq_true rfl) ⟨Nat.le_of_ble_eq_true rfl, Nat.le_of_ble_eq_true rfl⟩ c_M_in (kc' := 0) (ks' := 0) (by omega) (by omega) ?_
  rintro r τ'' ⟨rfl, rfl⟩
  have e4 : inB y (nI 0) (nI 4) = inB y 0 4 := rfl
  rw [e4]
  refine r_ifeqB rfl (fun q => no (by rw [q]; simp)) (fun q3 => ?_)
  refine r_iload rfl rfl ?_
  refine r_iconst (v := nI 0) rfl (by decide) ?_
  refine r_iconst (v := nI 2) rfl (by decide) ?_
  refine r_callS (As := [_, _, _]) rfl (by decide) rfl rfl rfl (Nat.le_of_ble_eq_true rfl) ⟨Nat.le_of_ble_eq_true rfl, Nat.le_of_ble_eq_true rfl⟩ c_M_in (kc' := 0) (ks' := 0) (by omega) (by omega) ?_
  rintro r ρ ⟨rfl, rfl⟩
  have e2 : inB j (nI 0) (nI 2) = inB j 0 2 := rfl
  rw [e2]
  refine r_ifneB rfl (fun q4 => ?_) (fun q => no (by rw [q]; simp))
  obtain ⟨q, hq, rfl⟩ := inB_nI (m := 5) (by omega) q1
  refine r_aload_n rfl rfl ?_
  refine r_mg (j := 3) hM rfl rfl (by decide) ?_
  refine r_iload_n rfl rfl ?_
  refine r_iload_n rfl rfl ?_
  refine r_mis (j := 3) hM rfl rfl (by decide) (by first | rfl | assumption) (show _ < 6 by omega) ?_
  refine r_aload_n rfl rfl ?_
  refine r_mg (j := 4) hM rfl rfl (by decide) ?_
  refine r_iload_n rfl rfl ?_
  refine r_iload_n rfl rfl ?_
  refine r_mis (j := 4) hM rfl rfl (by decide) (by first | rfl | assumption) (show _ < 6 by omega) ?_
  refine r_aload_n rfl rfl ?_
  refine r_mg (j := 5) hM rfl rfl (by decide) ?_
  refine r_iload_n rfl rfl ?_
  refine r_iload rfl rfl ?_
  refine r_mis (j := 5) hM rfl rfl (by decide) (by first | rfl | assumption) (show _ < 6 by omega) ?_
  refine r_aload_n rfl rfl ?_
  refine r_iconst (v := nI 0) rfl (by decide) ?_
  refine r_putI rfl hM.1 rfl (Or.inl rfl) (by first | rfl | decide) (by first | rfl | decide) ?_
  refine r_iconst (v := nI 1) rfl (by decide) ?_
  refine r_iret rfl rfl ?_
  rw [← hQ]
  refine Or.inr ⟨by rw [q1, q2, q3, q4]; rfl, rfl, q, by omega, rfl, ?_⟩
  simp only [hX_n _ _ (show o + 1 + 4 ≠ o + 1 + 3 by omega), hX_n _ _ (show o + 1 + 5 ≠ o + 1 + 4 by omega), hX_n _ _ (show o + 1 + 5 ≠ o + 1 + 3 by omega)]
/-- an entry of the log, and what it does -/
def chg (σ : Hp) (o e : Nat) (code a b c : Int32) : Hp := w_I (w_X (w_X (w_X (w_X σ (o + 1 + 10) (upd (h_X σ (o + 1 + 10)) e code)) (o + 1 + 11) (upd (h_X σ (o + 1 + 11)) e a)) (o + 1 + 12) (upd (h_X σ (o + 1 + 12)) e b)) (o + 1 + 13) (upd (h_X σ (o + 1 + 13)) e c)) 716 o (nI (e + 1))
theorem c_M_change {code a b c : Int32} {e : Nat} {Q : Option Value → Hp → Prop} (hM : ML σ o) (he : h_I σ 716 o = nI e) (he2 : e < 200) (hQ : ∀ r τ, Q r τ → ∃ v, r = some (.int v)) (hd : Cn l D m_M_does 0 0 [va_rf (some o), .int code, .int a, .int b, .int c] (chg σ o e code a b c) Q) : Cn l D m_M_change 0 0 [va_rf (some o), .int code, .int a, .int b, .int c] σ Q := by
  refine Cn.of (by decide) (by repeat (first | exact ca_0 | refine ca_i ?_ | refine ca_r ?_)) (Nat.le_of_ble_eq_true rfl) ?_
  refine r_aload_n rfl rfl ?_
  refine r_mg (j := 10) hM rfl rfl (by decide) ?_
  refine r_aload_n rfl rfl ?_
  (first | refine r_getIv rfl hM.1 rfl (by assumption) ?_ | refine r_getI rfl hM.1 rfl ?_)
  refine r_iload_n rfl rfl ?_
  refine r_mis (j := 10) hM rfl rfl (by decide) (by first | rfl | assumption) (show _ < 200 by omega) ?_
  refine r_aload_n rfl rfl ?_
  refine r_mg (j := 11) hM rfl rfl (by decide) ?_
  refine r_aload_n rfl rfl ?_
  (first | refine r_getIv rfl hM.1 rfl (by assumption) ?_ | refine r_getI rfl hM.1 rfl ?_)
  refine r_iload_n rfl rfl ?_
  refine r_mis (j := 11) hM rfl rfl (by decide) (by first | rfl | assumption) (show _ < 200 by omega) ?_
  refine r_aload_n rfl rfl ?_
  refine r_mg (j := 12) hM rfl rfl (by decide) ?_
  refine r_aload_n rfl rfl ?_
  (first | refine r_getIv rfl hM.1 rfl (by assumption) ?_ | refine r_getI rfl hM.1 rfl ?_)
  refine r_iload_n rfl rfl ?_
  refine r_mis (j := 12) hM rfl rfl (by decide) (by first | rfl | assumption) (show _ < 200 by omega) ?_
  refine r_aload_n rfl rfl ?_
  refine r_mg (j := 13) hM rfl rfl (by decide) ?_
  refine r_aload_n rfl rfl ?_
  (first | refine r_getIv rfl hM.1 rfl (by assumption) ?_ | refine r_getI rfl hM.1 rfl ?_)
  refine r_iload rfl rfl ?_
  refine r_mis (j := 13) hM rfl rfl (by decide) (by first | rfl | assumption) (show _ < 200 by omega) ?_
  refine r_aload_n rfl rfl ?_
  refine r_dup rfl (by first | rfl | exact rf_cat _) ?_
  (first | refine r_getIv rfl hM.1 rfl (by assumption) ?_ | refine r_getI rfl hM.1 rfl ?_)
  refine r_iconst (v := nI 1) rfl (by decide) ?_
  (first | refine r_iaddN rfl ?_ | refine r_iadd rfl ?_)
  refine r_putI rfl hM.1 rfl (Or.inl rfl) (by first | rfl | decide) (by first | rfl | decide) ?_
  refine r_aload_n rfl rfl ?_
  refine r_iload_n rfl rfl ?_
  refine r_iload_n rfl rfl ?_
  refine r_iload_n rfl rfl ?_
  refine r_iload rfl rfl ?_
  have es : chg σ o e code a b c = w_I (w_X (w_X (w_X (w_X σ (o + 1 + 10) (upd (h_X σ (o + 1 + 10)) e code)) (o + 1 + 11) (upd (h_X (w_X σ (o + 1 + 10) (upd (h_X σ (o + 1 + 10)) e code)) (o + 1 + 11)) e a)) (o + 1 + 12) (upd (h_X (w_X (w_X σ (o + 1 + 10) (upd (h_X σ (o + 1 + 10)) e code)) (o + 1 + 11) (upd (h_X (w_X σ (o + 1 + 10) (upd (h_X σ (o + 1 + 10)) e code)) (o + 1 + 11)) e a)) (o + 1 + 12)) e b)) (o + 1 + 13) (upd (h_X (w_X (w_X (w_X σ (o + 1 + 10) (upd (h_X σ (o + 1 + 10)) e code)) (o + 1 + 11) (upd (h_X (w_X σ (o + 1 + 10) (upd (h_X σ (o + 1 + 10)) e code)) (o + 1 + 11)) e a)) (o + 1 + 12) (upd (h_X (w_X (w_X σ (o + 1 + 10) (upd (h_X σ (o + 1 + 10)) e code)) (o + 1 + 11) (upd (h_X (w_X σ (o + 1 + 10) (upd (h_X σ (o + 1 + 10)) e code)) (o + 1 + 11)) e a)) (o + 1 + 12)) e b)) (o + 1 + 13)) e c)) 716 o (nI (e + 1)) := by
    unfold chg
    simp only [hX_n _ _ (show o + 1 + 11 ≠ o + 1 + 10 by omega), hX_n _ _ (show o + 1 + 12 ≠ o + 1 + 11 by omega), hX_n _ _ (show o + 1 + 12 ≠ o + 1 + 10 by omega), hX_n _ _ (show o + 1 + 13 ≠ o + 1 + 12 by omega), hX_n _ _ (show o + 1 + 13 ≠ o + 1 + 11 by omega), hX_n _ _ (show o + 1 + 13 ≠ o + 1 + 10 by omega)]
  rw [← es]
  have hMc : ML (chg σ o e code a b c) o := hM
  refine r_callV (As := [_, _, _, _]) rfl (by decide) rfl hMc.1 rfl rfl (Nat.le_of_ble_eq_true rfl) ⟨Nat.le_of_ble_eq_true rfl, Nat.le_of_ble_eq_true rfl⟩ hd (kc' := 0) (ks' := 0) (by omega) (by omega) (by decide) ?_
  intro r τ hq
  obtain ⟨v, rfl⟩ := hQ r τ hq
  exact r_iret rfl rfl hq
/-- did edition e have thing x? -/
def hadB (ne : Nat) (kn : Nat → Int32) (e x : Int32) : Bool := (decide (0 ≤ e) && decide (e < nI ne)) && inB x 0 119 && decide (kn (120 * e.toNatClampNeg + x.toNatClampNeg) ≠ -1)
theorem c_M_had {e x : Int32} {ne : Nat} (hM : ML σ o) (hn : h_I σ 744 o = nI ne) (hn2 : ne ≤ 8) : Cn l D m_M_had 0 0 [va_rf (some o), .int e, .int x] σ (fun r τ => r = some (.int (nI (hadB ne (h_X σ (o + 1 + 34)) e x).toNat)) ∧ τ = σ) := by
  refine Cn.of (by decide) (by repeat (first | exact ca_0 | refine ca_i ?_ | refine ca_r ?_)) (Nat.le_of_ble_eq_true rfl) ?_
  have no : hadB ne (h_X σ (o + 1 + 34)) e x = false → Gm l D m_M_had 0 0 (fun r τ => r = some (.int (nI (hadB ne (h_X σ (o + 1 + 34)) e x).toNat)) ∧ τ = σ) 43 (en_L [va_rf (some o), .int e, .int x] 3) [] σ 0 0 := by
    intro h
    refine r_iconst (v := nI 0) rfl (by decide) ?_
    exact r_zret rfl rfl (by decide) ⟨by rw [h]; rfl, rfl⟩
  refine r_iload_n rfl rfl ?_
  refine r_iconst (v := nI 0) rfl (by decide) ?_
  refine r_aload_n rfl rfl ?_
  (first | refine r_getIv rfl hM.1 rfl (by assumption) ?_ | refine r_getI rfl hM.1 rfl ?_)
  refine r_iconst (v := nI 1) rfl (by decide) ?_
  refine r_isub rfl ?_
  refine r_callS (As := [_, _, _]) rfl (by decide) rfl rfl rfl (Nat.le_of_ble_eq_true rfl) ⟨Nat.le_of_ble_eq_true rfl, Nat.le_of_ble_eq_true rfl⟩ c_M_in (kc' := 0) (ks' := 0) (by omega) (by omega) ?_
  rintro r τ ⟨rfl, rfl⟩
  rw [show nI 0 = 0 from rfl, inB_n (by omega)]
  refine r_ifeqB rfl (fun q => no (by unfold hadB; rw [q]; rfl)) (fun q1 => ?_)
  refine r_iload_n rfl rfl ?_
  refine r_iconst (v := nI 0) rfl (by decide) ?_
  refine r_bipush (v := nI 119) rfl (by decide) ?_
  refine r_callS (As := [_, _, _]) rfl (by decide) rfl rfl rfl (Nat.le_of_ble_eq_true rfl) ⟨Nat.le_of_ble_eq_true rfl, Nat.le_of_ble_eq_true rfl⟩ c_M_in (kc' := 0) (ks' := 0) (by omega) (by omega) ?_
  rintro r τ' ⟨rfl, rfl⟩
  have e119 : inB x (nI 0) (nI 119) = inB x 0 119 := rfl
  rw [e119]
  refine r_ifeqB rfl (fun q => no (by unfold hadB; rw [q]; simp)) (fun q2 => ?_)
  obtain ⟨a1, a2⟩ := okn q1
  have a1 := of_decide_eq_true a1
  have a2 := of_decide_eq_true a2
  obtain ⟨p, hp, rfl⟩ := nI_of (Int32.not_lt.mpr a1)
  have hp2 : p < ne := (nI_ltI hp (by omega)).mp a2
  obtain ⟨z, hz, rfl⟩ := inB_nI (m := 119) (by omega) q2
  have c1 : (nI p).toNatClampNeg = p := nI_clamp hp
  have c2 : (nI z).toNatClampNeg = z := nI_clamp (by omega)
  refine r_aload_n rfl rfl ?_
  refine r_mg (j := 34) hM rfl rfl (by decide) ?_
  refine r_bipush (v := nI 120) rfl (by decide) ?_
  refine r_iload_n rfl rfl ?_
  (first | refine r_imulN rfl ?_ | refine r_imul rfl ?_)
  refine r_iload_n rfl rfl ?_
  (first | refine r_iaddN rfl ?_ | refine r_iadd rfl ?_)
  refine r_mi (j := 34) hM rfl rfl (by decide) (by first | rfl | assumption) (show _ < 960 by omega) ?_
  refine r_iconst (v := -1) rfl (by decide) ?_
  refine r_icmp_eq rfl (fun q => no ?_) (fun q => ?_)
  · unfold hadB
    rw [c1, c2, q]
    simp
  · refine r_iconst (v := nI 1) rfl (by decide) ?_
    refine r_goto rfl ?_
    refine r_zret rfl rfl (by decide) ⟨?_, rfl⟩
    unfold hadB
    rw [c1, c2, q1, q2, decide_eq_true (p := _ ≠ _) q]
    rfl
end MC
end
section
/-! ===== the reference: feed ===== -/
/-- the tape holds xs -/
def Tp (σ : Hp) (o : Nat) (xs : List Int32) : Prop := h_I σ 705 o = nI xs.length ∧ xs.length ≤ 600 ∧ ∀ i, i < xs.length → h_X σ (o + 1 + 0) i = xs.getD i 0
def bt4 (v : Int32) : List Int32 := [b8 (v >>> (nI 24 &&& 31)), b8 (v >>> (nI 16 &&& 31)), b8 (v >>> (nI 8 &&& 31)), b8 (v >>> (nI 0 &&& 31))]
section MC
variable {l : Launch} {D : DD} {σ : Hp} {o : Nat}
set_option maxHeartbeats 1000000 in
theorem c_M_feed {a b c d e : Int32} {xs : List Int32} (hM : ML σ o) (h : Tp σ o xs) : Cn l D m_M_feed 0 0 [va_rf (some o), .int a, .int b, .int c, .int d, .int e] σ (fun r τ => 600 < xs.length + 20 ∧ r = some (.int (-3)) ∧ τ = σ ∨ xs.length + 20 ≤ 600 ∧ r = some (.int (nI (xs.length + 20))) ∧ Tp τ o (xs ++ (bt4 a ++ bt4 b ++ bt4 c ++ bt4 d ++ bt4 e)) ∧ MFr [0] [705] σ τ o) := by
  generalize hQ : (fun (r : Option Value) (τ : Hp) => 600 < xs.length + 20 ∧ r = some (.int (-3)) ∧ τ = σ ∨ xs.length + 20 ≤ 600 ∧ r = some (.int (nI (xs.length + 20))) ∧ Tp τ o (xs ++ (bt4 a ++ bt4 b ++ bt4 c ++ bt4 d ++ bt4 e)) ∧ MFr [0] [705] σ τ o) = Q
  have hx1 := h.1
  have hx2 := h.2.1
  refine Cn.of (by decide) (by repeat (first | exact ca_0 | refine ca_i ?_ | refine ca_r ?_)) (Nat.le_of_ble_eq_true rfl) ?_
  refine r_aload_n rfl rfl ?_
  (first | refine r_getIv rfl hM.1 rfl (by assumption) ?_ | refine r_getI rfl hM.1 rfl ?_)
  refine r_bipush (v := nI 20) rfl (by decide) ?_
  (first | refine r_iaddN rfl ?_ | refine r_iadd rfl ?_)
  refine r_sipush (v := nI 600) rfl (by decide) ?_
  refine r_leN rfl (by omega) (by omega) (fun q => ?_) (fun q => ?_)
  · have one : ∀ (τ : Hp) (ys : List Int32) (k s v : Int32), Tp τ o ys → MFr [0] [705] σ τ o → ys.length < 600 → ¬ s < 0 → (∀ ρ, Tp ρ o (ys ++ [b8 (v >>> (s &&& 31))]) → MFr [0] [705] σ ρ o → Gm l D m_M_feed 0 0 Q 73 [some (va_rf (some o)), some (.int a), some (.int b), some (.int c), some (.int d), some (.int e), some (.int k), some (.int v), some (.int (s + Int32.ofInt (-8)))] [] ρ 0 0) →
        Gm l D m_M_feed 0 0 Q 73 [some (va_rf (some o)), some (.int a), some (.int b), some (.int c), some (.int d), some (.int e), some (.int k), some (.int v), some (.int s)] [] τ 0 0 := by
      intro τ ys k s v t1 f1 hl hs kk
      have hM := f1.mL hM
      obtain ⟨u1, u2, u3⟩ := t1
      refine r_iload rfl rfl ?_
      refine r_if_lt rfl (fun w => absurd w hs) (fun _ => ?_)
      refine r_aload_n rfl rfl ?_
      refine r_mg (j := 0) hM rfl rfl (by decide) ?_
      refine r_aload_n rfl rfl ?_
      (first | refine r_getIv rfl hM.1 rfl (by assumption) ?_ | refine r_getI rfl hM.1 rfl ?_)
      refine r_iload rfl rfl ?_
      refine r_iload rfl rfl ?_
      refine r_ishr rfl ?_
      refine r_i2b (v := b8 (v >>> (s &&& 31))) rfl rfl ?_
      refine r_mbs (j := 0) hM rfl rfl (by decide) rfl (show _ < 600 by omega) (b8_nar _) (b8_fit _) ?_
      refine r_aload_n rfl rfl ?_
      refine r_dup rfl (by first | rfl | exact rf_cat _) ?_
      (first | refine r_getIv rfl hM.1 rfl (by assumption) ?_ | refine r_getI rfl hM.1 rfl ?_)
      refine r_iconst (v := nI 1) rfl (by decide) ?_
      (first | refine r_iaddN rfl ?_ | refine r_iadd rfl ?_)
      refine r_putI rfl hM.1 rfl (Or.inl rfl) (by first | rfl | decide) (by first | rfl | decide) ?_
      refine r_iinc rfl rfl rfl ?_
      refine r_goto rfl ?_
      refine kk _ ⟨?_, by simp; omega, fun i hi => ?_⟩ ((f1.tr (MFr.X _ _ (by decide))).tr (MFr.I _ _ (by decide)))
      · rw [hI_w, List.length_append]
        rfl
      · rw [hX_wI, hX_w]
        simp only [List.length_append, List.length_cons, List.length_nil] at hi
        by_cases w : i = ys.length
        · rw [w, upd_s]
          simp [List.getD_eq_getElem?_getD]
        · rw [upd_n _ _ w, u3 i (by omega), getD_app (by omega)]
    have four : ∀ (τ : Hp) (ys : List Int32) (k v : Int32), Tp τ o ys → MFr [0] [705] σ τ o → ys.length + 4 ≤ 600 → (∀ ρ z, Tp ρ o (ys ++ bt4 v) → MFr [0] [705] σ ρ o → Gm l D m_M_feed 0 0 Q 109 [some (va_rf (some o)), some (.int a), some (.int b), some (.int c), some (.int d), some (.int e), some (.int k), some (.int v), z] [] ρ 0 0) → ∀ z1 z2,
        Gm l D m_M_feed 0 0 Q 67 [some (va_rf (some o)), some (.int a), some (.int b), some (.int c), some (.int d), some (.int e), some (.int k), z1, z2] [.int v] τ 0 0 := by
      intro τ ys k v t1 f1 hl kk z1 z2
      refine r_istore rfl (by decide) ?_
      refine r_bipush (v := nI 24) rfl (by decide) ?_
      refine r_istore rfl (by decide) ?_
      refine one τ ys k (nI 24) v t1 f1 (by omega) (by decide) (fun ρ1 t2 f2 => ?_)
      refine one ρ1 _ k (nI 16) v t2 f2 (by simp; omega) (by decide) (fun ρ2 t3 f3 => ?_)
      refine one ρ2 _ k (nI 8) v t3 f3 (by simp; omega) (by decide) (fun ρ3 t4 f4 => ?_)
      refine one ρ3 _ k (nI 0) v t4 f4 (by simp; omega) (by decide) (fun ρ4 t5 f5 => ?_)
      have hM := f5.mL hM
      refine r_iload rfl rfl ?_
      refine r_if_lt rfl (fun _ => ?_) (fun w => absurd (by decide) w)
      refine kk ρ4 _ ?_ f5
      unfold bt4
      simpa using t5
    refine r_iconst (v := nI 0) rfl (by decide) ?_
    refine r_istore rfl (by decide) ?_
    -- a
    refine r_iload rfl rfl ?_
    refine r_iconst (v := nI 5) rfl (by decide) ?_
    refine r_geN rfl (by omega) (by omega) (fun w => by omega) (fun _ => ?_)
    refine r_iload rfl rfl ?_
    refine r_if_ne rfl (fun w => absurd rfl w) (fun _ => ?_)
    refine r_iload_n rfl rfl ?_
    refine r_goto rfl ?_
    refine four σ xs (nI 0) a h (MFr.rf _ _ _ _) (by omega) (fun ρ1 z t1 f1 => ?_) _ _
    refine r_iinc rfl rfl (nI_inc _) ?_
    refine r_goto rfl ?_
    -- b
    refine r_iload rfl rfl ?_
    refine r_iconst (v := nI 5) rfl (by decide) ?_
    refine r_geN rfl (by omega) (by omega) (fun w => by omega) (fun _ => ?_)
    refine r_iload rfl rfl ?_
    refine r_if_ne rfl (fun _ => ?_) (fun w => absurd w (by decide))
    refine r_iload rfl rfl ?_
    refine r_iconst (v := nI 1) rfl (by decide) ?_
    refine r_neN rfl (by omega) (by omega) (fun w => by omega) (fun _ => ?_)
    refine r_iload_n rfl rfl ?_
    refine r_goto rfl ?_
    refine four ρ1 _ (nI 1) b t1 f1 (by simp [bt4]; omega) (fun ρ2 z t2 f2 => ?_) _ _
    refine r_iinc rfl rfl (nI_inc _) ?_
    refine r_goto rfl ?_
    -- c
    refine r_iload rfl rfl ?_
    refine r_iconst (v := nI 5) rfl (by decide) ?_
    refine r_geN rfl (by omega) (by omega) (fun w => by omega) (fun _ => ?_)
    refine r_iload rfl rfl ?_
    refine r_if_ne rfl (fun _ => ?_) (fun w => absurd w (by decide))
    refine r_iload rfl rfl ?_
    refine r_iconst (v := nI 1) rfl (by decide) ?_
    refine r_neN rfl (by omega) (by omega) (fun _ => ?_) (fun w => by omega)
    refine r_iload rfl rfl ?_
    refine r_iconst (v := nI 2) rfl (by decide) ?_
    refine r_neN rfl (by omega) (by omega) (fun w => by omega) (fun _ => ?_)
    refine r_iload_n rfl rfl ?_
    refine r_goto rfl ?_
    refine four ρ2 _ (nI 2) c t2 f2 (by simp [bt4]; omega) (fun ρ3 z t3 f3 => ?_) _ _
    refine r_iinc rfl rfl (nI_inc _) ?_
    refine r_goto rfl ?_
    -- d
    refine r_iload rfl rfl ?_
    refine r_iconst (v := nI 5) rfl (by decide) ?_
    refine r_geN rfl (by omega) (by omega) (fun w => by omega) (fun _ => ?_)
    refine r_iload rfl rfl ?_
    refine r_if_ne rfl (fun _ => ?_) (fun w => absurd w (by decide))
    refine r_iload rfl rfl ?_
    refine r_iconst (v := nI 1) rfl (by decide) ?_
    refine r_neN rfl (by omega) (by omega) (fun _ => ?_) (fun w => by omega)
    refine r_iload rfl rfl ?_
    refine r_iconst (v := nI 2) rfl (by decide) ?_
    refine r_neN rfl (by omega) (by omega) (fun _ => ?_) (fun w => by omega)
    refine r_iload rfl rfl ?_
    refine r_iconst (v := nI 3) rfl (by decide) ?_
    refine r_neN rfl (by omega) (by omega) (fun w => by omega) (fun _ => ?_)
    refine r_iload rfl rfl ?_
    refine r_goto rfl ?_
    refine four ρ3 _ (nI 3) d t3 f3 (by simp [bt4]; omega) (fun ρ4 z t4 f4 => ?_) _ _
    refine r_iinc rfl rfl (nI_inc _) ?_
    refine r_goto rfl ?_
    -- e
    refine r_iload rfl rfl ?_
    refine r_iconst (v := nI 5) rfl (by decide) ?_
    refine r_geN rfl (by omega) (by omega) (fun w => by omega) (fun _ => ?_)
    refine r_iload rfl rfl ?_
    refine r_if_ne rfl (fun _ => ?_) (fun w => absurd w (by decide))
    refine r_iload rfl rfl ?_
    refine r_iconst (v := nI 1) rfl (by decide) ?_
    refine r_neN rfl (by omega) (by omega) (fun _ => ?_) (fun w => by omega)
    refine r_iload rfl rfl ?_
    refine r_iconst (v := nI 2) rfl (by decide) ?_
    refine r_neN rfl (by omega) (by omega) (fun _ => ?_) (fun w => by omega)
    refine r_iload rfl rfl ?_
    refine r_iconst (v := nI 3) rfl (by decide) ?_
    refine r_neN rfl (by omega) (by omega) (fun _ => ?_) (fun w => by omega)
    refine r_iload rfl rfl ?_
    refine four ρ4 _ (nI 4) e t4 f4 (by simp [bt4]; omega) (fun ρ5 z t5 f5 => ?_) _ _
    refine r_iinc rfl rfl (nI_inc _) ?_
    refine r_goto rfl ?_
    refine r_iload rfl rfl ?_
    refine r_iconst (v := nI 5) rfl (by decide) ?_
    refine r_geN rfl (by omega) (by omega) (fun _ => ?_) (fun w => by omega)
    have hM := f5.mL hM
    have hlen := t5.1
    refine r_aload_n rfl rfl ?_
    refine r_getIv rfl hM.1 rfl hlen ?_
    refine r_iret rfl rfl ?_
    rw [← hQ]
    refine Or.inr ⟨q, ?_, by simpa using t5, f5⟩
    simp [bt4, Nat.add_assoc]
  · refine r_bipush (v := -3) rfl (by decide) ?_
    refine r_iret rfl rfl ?_
    rw [← hQ]
    exact Or.inl ⟨q, rfl, rfl⟩
end MC
end
section
/-! ===== the reference: word ===== -/
section MC
variable {l : Launch} {D : DD} {σ : Hp} {o : Nat}
set_option maxHeartbeats 1000000 in
theorem c_M_word {k : Int32} {xs : List Int32} (hM : ML σ o) (h : Tp σ o xs) : Cn l D m_M_word 0 0 [va_rf (some o), .int k] σ (fun r τ => (inB k 0 5 && decide (xs.length ≤ 10) && xs.all isL) = false ∧ r = some (.int (-2)) ∧ τ = w_I σ 705 o (nI 0) ∨
      (inB k 0 5 && decide (xs.length ≤ 10) && xs.all isL) = true ∧ r = some (.int (nI xs.length)) ∧ ∃ q, q < 6 ∧ k = nI q ∧ Wd τ o q xs ∧ h_I τ 705 o = nI 0 ∧ h_I τ 721 o = nI 0 ∧ MFr [1, 2] [705, 721] σ τ o ∧ ∀ p ws, p ≠ q → Wd σ o p ws → Wd τ o p ws) := by
  generalize hQ : (fun (r : Option Value) (τ : Hp) => (inB k 0 5 && decide (xs.length ≤ 10) && xs.all isL) = false ∧ r = some (.int (-2)) ∧ τ = w_I σ 705 o (nI 0) ∨
      (inB k 0 5 && decide (xs.length ≤ 10) && xs.all isL) = true ∧ r = some (.int (nI xs.length)) ∧ ∃ q, q < 6 ∧ k = nI q ∧ Wd τ o q xs ∧ h_I τ 705 o = nI 0 ∧ h_I τ 721 o = nI 0 ∧ MFr [1, 2] [705, 721] σ τ o ∧ ∀ p ws, p ≠ q → Wd σ o p ws → Wd τ o p ws) = Q
  obtain ⟨h1, h2, h3⟩ := id h
  refine Cn.of (by decide) (by repeat (first | exact ca_0 | refine ca_i ?_ | refine ca_r ?_)) (Nat.le_of_ble_eq_true rfl) ?_
  refine g_fits (fun hfit _ _ => ?_)
  refine r_aload_n rfl rfl ?_
  (first | refine r_getIv rfl hM.1 rfl (by assumption) ?_ | refine r_getI rfl hM.1 rfl ?_)
  refine r_istore_n rfl (by decide) ?_
  refine r_aload_n rfl rfl ?_
  refine r_iconst (v := nI 0) rfl (by decide) ?_
  refine r_putI rfl hM.1 rfl (Or.inl rfl) (by first | rfl | decide) (by first | rfl | decide) ?_
  refine r_iload_n rfl rfl ?_
  have no : ∀ z, (inB k 0 5 && decide (xs.length ≤ 10) && xs.all isL) = false → Gm l D m_M_word 0 0 Q 23 [some (va_rf (some o)), some (.int k), some (.int (nI xs.length)), z] [] (w_I σ 705 o (nI 0)) 0 0 := by
    intro z hz
    refine r_bipush (v := -2) rfl (by decide) ?_
    refine r_iret rfl rfl ?_
    rw [← hQ]
    exact Or.inl ⟨hz, rfl, rfl⟩
  refine r_callS (As := [_]) rfl (by decide) rfl rfl rfl (Nat.le_of_ble_eq_true rfl) ⟨Nat.le_of_ble_eq_true rfl, Nat.le_of_ble_eq_true rfl⟩ c_M_isKind (kc' := 0) (ks' := 0) (by omega) (by omega) ?_
  rintro r τ ⟨rfl, rfl⟩
  refine r_ifeqB rfl (fun q => no _ (by rw [q]; rfl)) (fun q1 => ?_)
  refine r_iload_n rfl rfl ?_
  refine r_bipush (v := nI 10) rfl (by decide) ?_
  refine r_leN rfl (by omega) (by omega) (fun q2 => ?_) (fun q2 => no _ (by rw [decide_eq_false (by omega)]; simp))
  obtain ⟨q, hq, rfl⟩ := inB_nI (m := 5) (by omega) q1
  have hM1 : ML (w_I σ 705 o (nI 0)) o := hM
  have hI5 : h_I (w_I σ 705 o (nI 0)) 705 o = nI 0 := hI_w _ _ _ _
  have f0 : MFr [1, 2] [705, 721] σ (w_I σ 705 o (nI 0)) o := MFr.I _ _ (by decide)
  -- the copy
  have cp : xs.all isL = true → ∀ (d i : Nat) (g : Nat → Int32), i + d = xs.length → (∀ j, j < i → g (10 * q + j) = xs.getD j 0) → (∀ z, ¬ (10 * q ≤ z ∧ z < 10 * q + 10) → g z = h_X σ (o + 1 + 1) z) → Gm l D m_M_word 0 0 Q 56 [some (va_rf (some o)), some (.int (nI q)), some (.int (nI xs.length)), some (.int (nI i))] [] (w_X (w_I σ 705 o (nI 0)) (o + 1 + 1) g) 0 0 := by
    intro hall d
    induction d with
    | zero =>
      intro i g hi g1 g2
      refine r_iload_n rfl rfl ?_
      refine r_iload_n rfl rfl ?_
      refine r_geN rfl (by omega) (by omega) (fun _ => ?_) (fun w => by omega)
      refine r_aload_n rfl rfl ?_
      refine r_mg (j := 2) hM rfl rfl (by decide) ?_
      refine r_iload_n rfl rfl ?_
      refine r_iload_n rfl rfl ?_
      refine r_mis (j := 2) hM rfl rfl (by decide) (by first | rfl | assumption) (show _ < 6 by omega) ?_
      refine r_aload_n rfl rfl ?_
      refine r_iconst (v := nI 0) rfl (by decide) ?_
      refine r_putI rfl hM.1 rfl (Or.inl rfl) (by first | rfl | decide) (by first | rfl | decide) ?_
      refine r_iload_n rfl rfl ?_
      refine r_iret rfl rfl ?_
      rw [← hQ]
      refine Or.inr ⟨by rw [q1, decide_eq_true q2, hall]; rfl, rfl, q, by omega, rfl, ⟨?_, q2, fun j hj => ?_⟩, ?_, ?_, ((f0.tr (MFr.X _ _ (by decide))).tr (MFr.X _ _ (by decide))).tr (MFr.I _ _ (by decide)), fun p ws hp hw => ?_⟩
      · rw [hX_wI, hX_w, upd_s]
      · rw [hX_wI, hX_n _ _ (by omega), hX_w]
        exact g1 j (by omega)
      · rw [hI_n _ _ (by decide)]
        exact hI5
      · rw [hI_w]
      · obtain ⟨w1, w2, w3⟩ := hw
        refine ⟨?_, w2, fun j hj => ?_⟩
        · rw [hX_wI, hX_w, upd_n _ _ hp, hX_n _ _ (by omega)]
          exact w1
        · rw [hX_wI, hX_n _ _ (by omega), hX_w, g2 _ (by omega)]
          exact w3 j hj
    | succ d ih =>
      intro i g hi g1 g2
      have hfv : fits .byte (.int (xs.getD i 0)) = true := by
        rw [← h3 i (by omega)]
        exact hfit _ (hM.2 0 (by decide)).2.1 _
      have hnv : narrow .byte (.int (xs.getD i 0)) = .int (xs.getD i 0) := by
        show Value.int (b8 (xs.getD i 0)) = _
        rw [fit_b8 hfv]
      refine r_iload_n rfl rfl ?_
      refine r_iload_n rfl rfl ?_
      refine r_geN rfl (by omega) (by omega) (fun w => by omega) (fun _ => ?_)
      refine r_aload_n rfl rfl ?_
      refine r_mg (j := 1) hM rfl rfl (by decide) ?_
      refine r_bipush (v := nI 10) rfl (by decide) ?_
      refine r_iload_n rfl rfl ?_
      (first | refine r_imulN rfl ?_ | refine r_imul rfl ?_)
      refine r_iload_n rfl rfl ?_
      (first | refine r_iaddN rfl ?_ | refine r_iadd rfl ?_)
      refine r_aload_n rfl rfl ?_
      refine r_mg (j := 0) hM rfl rfl (by decide) ?_
      refine r_iload_n rfl rfl ?_
      refine r_mb (j := 0) hM rfl rfl (by decide) (by first | rfl | assumption) (show _ < 600 by omega) ?_
      rw [hX_n _ _ (show o + 1 + 0 ≠ o + 1 + 1 by omega), hX_wI, h3 i (by omega)]
      refine r_mbs (j := 1) hM rfl rfl (by decide) rfl (show _ < 60 by omega) hnv hfv ?_
      rw [wX_same, hX_w]
      refine r_iinc rfl rfl (nI_inc _) ?_
      refine r_goto rfl ?_
      refine ih (i + 1) _ (by omega) (fun j hj => ?_) (fun z hz => ?_)
      · by_cases w : j = i
        · rw [w, upd_s]
        · rw [upd_n _ _ (by omega)]
          exact g1 j (by omega)
      · rw [upd_n _ _ (by omega)]
        exact g2 z hz
  refine r_iconst (v := nI 0) rfl (by decide) ?_
  refine r_istore_n rfl (by decide) ?_
  have lp : ∀ (d i : Nat), i + d = xs.length → (∀ j, j < i → isL (xs.getD j 0) = true) → Gm l D m_M_word 0 0 Q 28 [some (va_rf (some o)), some (.int (nI q)), some (.int (nI xs.length)), some (.int (nI i))] [] (w_I σ 705 o (nI 0)) 0 0 := by
    intro d
    induction d with
    | zero =>
      intro i hi hp
      refine r_iload_n rfl rfl ?_
      refine r_iload_n rfl rfl ?_
      refine r_geN rfl (by omega) (by omega) (fun _ => ?_) (fun w => by omega)
      have hall : xs.all isL = true := by
        rw [List.all_eq_true]
        intro v hv
        obtain ⟨j, hj, rfl⟩ := List.getElem_of_mem hv
        rw [← getD_at hj]
        exact hp j (by omega)
      refine r_iconst (v := nI 0) rfl (by decide) ?_
      refine r_istore_n rfl (by decide) ?_
      have e := cp hall xs.length 0 (h_X σ (o + 1 + 1)) (by omega) (fun j hj => by omega) (fun _ _ => rfl)
      have e2 : w_X (w_I σ 705 o (nI 0)) (o + 1 + 1) (h_X σ (o + 1 + 1)) = w_I σ 705 o (nI 0) := wX_self (w_I σ 705 o (nI 0)) (o + 1 + 1)
      rw [e2] at e
      exact e
    | succ d ih =>
      intro i hi hp
      refine r_iload_n rfl rfl ?_
      refine r_iload_n rfl rfl ?_
      refine r_geN rfl (by omega) (by omega) (fun w => by omega) (fun _ => ?_)
      refine r_aload_n rfl rfl ?_
      refine r_mg (j := 0) hM rfl rfl (by decide) ?_
      refine r_iload_n rfl rfl ?_
      refine r_mb (j := 0) hM rfl rfl (by decide) (by first | rfl | assumption) (show _ < 600 by omega) ?_
      rw [hX_wI, h3 i (by omega)]
      refine r_callS (As := [_]) rfl (by decide) rfl rfl rfl (Nat.le_of_ble_eq_true rfl) ⟨Nat.le_of_ble_eq_true rfl, Nat.le_of_ble_eq_true rfl⟩ c_M_isLetter (kc' := 0) (ks' := 0) (by omega) (by omega) ?_
      rintro r τ ⟨rfl, rfl⟩
      refine r_ifneB rfl (fun w => ?_) (fun w => ?_)
      · refine r_iinc rfl rfl (nI_inc _) ?_
        refine r_goto rfl ?_
        refine ih (i + 1) (by omega) (fun j hj => ?_)
        by_cases e : j = i
        · rw [e]; exact w
        · exact hp j (by omega)
      · refine r_bipush (v := -2) rfl (by decide) ?_
        refine r_iret rfl rfl ?_
        rw [← hQ]
        refine Or.inl ⟨?_, rfl, rfl⟩
        have : xs.all isL = false := by
          rw [Bool.eq_false_iff]
          intro e
          have := List.all_eq_true.mp e (xs.getD i 0) (by rw [getD_at (by omega)]; exact List.getElem_mem _)
          rw [this] at w
          cases w
        rw [this, Bool.and_false]
  exact lp xs.length 0 (by omega) (fun j hj => by omega)
end MC
end
section
/-! ===== the reference: the next one, the latest one ===== -/
def nxK (kd : Nat → Int32) (L : List Nat) (i : Nat) (k : Int32) : Option Nat := (L.drop (i + 1)).find? (fun y => decide (kd y = k))
def ltK (kd : Nat → Int32) (L : List Nat) (k : Int32) : Nat → Option Nat
  | 0 => none
  | i + 1 => if kd (L.getD i 0) = k then some (L.getD i 0) else ltK kd L k i
theorem drop_c {L : List Nat} {i : Nat} (h : i < L.length) : L.drop i = L.getD i 0 :: L.drop (i + 1) := by
  rw [List.drop_eq_getElem_cons h, List.getD_eq_getElem?_getD, List.getElem?_eq_getElem h]
  rfl
section MC
variable {l : Launch} {D : DD} {σ : Hp} {o : Nat}
theorem c_M_beside2 {x i : Nat} {k : Int32} {L : List Nat} (hM : ML σ o) (hx : x < 120) (ht : h_I σ 724 o = nI L.length) (hl : L.length ≤ 120) (ho : ∀ q, q < L.length → h_X σ (o + 1 + 14) q = nI (L.getD q 0) ∧ L.getD q 0 < 120) (ha : h_X σ (o + 1 + 15) x = nI i) (hi : i < L.length) : Cn l D m_M_beside 0 0 [va_rf (some o), .int (nI x), .int k, .int (nI 2)] σ (fun r τ => r = some (.int (oI (nxK (h_X σ (o + 1 + 6)) L i k))) ∧ τ = σ) := by
  refine Cn.of (by decide) (by repeat (first | exact ca_0 | refine ca_i ?_ | refine ca_r ?_)) (Nat.le_of_ble_eq_true rfl) ?_
  refine r_iload_n rfl rfl ?_
  refine r_iconst (v := nI 2) rfl (by decide) ?_
  refine r_icmp_ne rfl (fun q => absurd rfl q) (fun _ => ?_)
  refine r_aload_n rfl rfl ?_
  refine r_mg (j := 15) hM rfl rfl (by decide) ?_
  refine r_iload_n rfl rfl ?_
  refine r_mi (j := 15) hM rfl rfl (by decide) (by first | rfl | assumption) (show _ < 120 by omega) ?_
  rw [ha]
  refine r_iconst (v := nI 1) rfl (by decide) ?_
  (first | refine r_iaddN rfl ?_ | refine r_iadd rfl ?_)
  refine r_istore rfl (by decide) ?_
  have loop : ∀ (d p : Nat), p + d = L.length → (L.drop p).find? (fun y => decide (h_X σ (o + 1 + 6) y = k)) = nxK (h_X σ (o + 1 + 6)) L i k → Gm l D m_M_beside 0 0 (fun r τ => r = some (.int (oI (nxK (h_X σ (o + 1 + 6)) L i k))) ∧ τ = σ) 15 [some (va_rf (some o)), some (.int (nI x)), some (.int k), some (.int (nI 2)), some (.int (nI p))] [] σ 0 0 := by
    intro d
    induction d with
    | zero =>
      intro p hp he
      refine r_iload rfl rfl ?_
      refine r_aload_n rfl rfl ?_
      (first | refine r_getIv rfl hM.1 rfl (by assumption) ?_ | refine r_getI rfl hM.1 rfl ?_)
      refine r_geN rfl (by omega) (by omega) (fun _ => ?_) (fun w => by omega)
      refine r_goto rfl ?_
      refine r_iconst (v := -1) rfl (by decide) ?_
      refine r_iret rfl rfl ⟨?_, rfl⟩
      rw [← he, List.drop_eq_nil_of_le (by omega)]
      rfl
    | succ d ih =>
      intro p hp he
      obtain ⟨o1, o2⟩ := ho p (by omega)
      rw [drop_c (show p < L.length by omega), List.find?_cons] at he
      refine r_iload rfl rfl ?_
      refine r_aload_n rfl rfl ?_
      (first | refine r_getIv rfl hM.1 rfl (by assumption) ?_ | refine r_getI rfl hM.1 rfl ?_)
      refine r_geN rfl (by omega) (by omega) (fun w => by omega) (fun _ => ?_)
      refine r_aload_n rfl rfl ?_
      refine r_mg (j := 6) hM rfl rfl (by decide) ?_
      refine r_aload_n rfl rfl ?_
      refine r_mg (j := 14) hM rfl rfl (by decide) ?_
      refine r_iload rfl rfl ?_
      refine r_mi (j := 14) hM rfl rfl (by decide) (by first | rfl | assumption) (show _ < 120 by omega) ?_
      rw [o1]
      refine r_mi (j := 6) hM rfl rfl (by decide) rfl (show _ < 120 by omega) ?_
      refine r_iload_n rfl rfl ?_
      refine r_icmp_ne rfl (fun w => ?_) (fun w => ?_)
      · rw [decide_eq_false w] at he
        refine r_iinc rfl rfl (nI_inc _) ?_
        refine r_goto rfl ?_
        exact ih (p + 1) (by omega) he
      · rw [decide_eq_true w] at he
        refine r_aload_n rfl rfl ?_
        refine r_mg (j := 14) hM rfl rfl (by decide) ?_
        refine r_iload rfl rfl ?_
        refine r_mi (j := 14) hM rfl rfl (by decide) (by first | rfl | assumption) (show _ < 120 by omega) ?_
        rw [o1]
        refine r_iret rfl rfl ⟨?_, rfl⟩
        rw [← he]
        rfl
  exact loop (L.length - (i + 1)) (i + 1) (by omega) rfl
theorem c_M_beside3 {x i : Nat} {k : Int32} {L : List Nat} (hM : ML σ o) (hx : x < 120) (hl : L.length ≤ 120) (ho : ∀ q, q < L.length → h_X σ (o + 1 + 14) q = nI (L.getD q 0) ∧ L.getD q 0 < 120) (ha : h_X σ (o + 1 + 15) x = nI i) (hi : i < L.length) : Cn l D m_M_beside 0 0 [va_rf (some o), .int (nI x), .int k, .int (nI 3)] σ (fun r τ => r = some (.int (oI (ltK (h_X σ (o + 1 + 6)) L k i))) ∧ τ = σ) := by
  refine Cn.of (by decide) (by repeat (first | exact ca_0 | refine ca_i ?_ | refine ca_r ?_)) (Nat.le_of_ble_eq_true rfl) ?_
  refine r_iload_n rfl rfl ?_
  refine r_iconst (v := nI 2) rfl (by decide) ?_
  refine r_icmp_ne rfl (fun _ => ?_) (fun q => absurd q (by decide))
  refine r_aload_n rfl rfl ?_
  refine r_mg (j := 15) hM rfl rfl (by decide) ?_
  refine r_iload_n rfl rfl ?_
  refine r_mi (j := 15) hM rfl rfl (by decide) (by first | rfl | assumption) (show _ < 120 by omega) ?_
  rw [ha]
  refine r_iconst (v := nI 1) rfl (by decide) ?_
  refine r_isub rfl ?_
  refine r_istore rfl (by decide) ?_
  have loop : ∀ (p : Nat), p < L.length → ltK (h_X σ (o + 1 + 6)) L k p = ltK (h_X σ (o + 1 + 6)) L k i → Gm l D m_M_beside 0 0 (fun r τ => r = some (.int (oI (ltK (h_X σ (o + 1 + 6)) L k i))) ∧ τ = σ) 67 [some (va_rf (some o)), some (.int (nI x)), some (.int k), some (.int (nI 3)), some (.int (nI p - nI 1))] [] σ 0 0 := by
    intro p
    induction p with
    | zero =>
      intro hp he
      refine r_iload rfl rfl ?_
      refine r_if_lt rfl (fun _ => ?_) (fun w => absurd (by decide) w)
      refine r_iconst (v := -1) rfl (by decide) ?_
      refine r_iret rfl rfl ⟨?_, rfl⟩
      rw [← he]
      rfl
    | succ p ih =>
      intro hp he
      obtain ⟨o1, o2⟩ := ho p (by omega)
      rw [ltK] at he
      have e1 : nI (p + 1) - nI 1 = nI p := pk_sub (by omega)
      rw [e1]
      refine r_iload rfl rfl ?_
      refine r_if_lt rfl (fun w => absurd w (nI_pos (by omega))) (fun _ => ?_)
      refine r_aload_n rfl rfl ?_
      refine r_mg (j := 6) hM rfl rfl (by decide) ?_
      refine r_aload_n rfl rfl ?_
      refine r_mg (j := 14) hM rfl rfl (by decide) ?_
      refine r_iload rfl rfl ?_
      refine r_mi (j := 14) hM rfl rfl (by decide) (by first | rfl | assumption) (show _ < 120 by omega) ?_
      rw [o1]
      refine r_mi (j := 6) hM rfl rfl (by decide) rfl (show _ < 120 by omega) ?_
      refine r_iload_n rfl rfl ?_
      refine r_icmp_ne rfl (fun w => ?_) (fun w => ?_)
      · rw [if_neg w] at he
        refine r_iinc (v := nI p - nI 1) rfl rfl ?_ ?_
        · show nI p + Int32.ofInt (-1) = nI p - nI 1
          rw [show Int32.ofInt (-1) = -nI 1 by decide, Int32.sub_eq_add_neg]
        · refine r_goto rfl ?_
          exact ih (by omega) he
      · rw [if_pos w] at he
        refine r_aload_n rfl rfl ?_
        refine r_mg (j := 14) hM rfl rfl (by decide) ?_
        refine r_iload rfl rfl ?_
        refine r_mi (j := 14) hM rfl rfl (by decide) (by first | rfl | assumption) (show _ < 120 by omega) ?_
        rw [o1]
        refine r_iret rfl rfl ⟨?_, rfl⟩
        rw [← he]
        rfl
  exact loop i hi rfl
end MC
end
section
/-! ===== class Thing: chains ===== -/
/-- from p on, along the references of field f, stand the things of L, and no more -/
def Ch (σ : Hp) (f : Nat) : List Nat → Option Nat → Prop
  | [], p => p = none
  | a :: L, p => p = some a ∧ h_K σ a = 9 ∧ Ch σ f L (h_P σ f a)
theorem Ch.keep {σ τ : Hp} {f : Nat} (hK : h_K τ = h_K σ) (hP : ∀ a, h_P τ f a = h_P σ f a) : ∀ {L : List Nat} {p : Option Nat}, Ch σ f L p → Ch τ f L p
  | [], _, h => h
  | a :: L, _, h => ⟨h.1, by rw [hK]; exact h.2.1, by rw [hP]; exact Ch.keep hK hP h.2.2⟩
/-- the i-th of a chain -/
def kdA (L : List Nat) (i : Int32) : Option Nat := if i < 0 then none else L[i.toNatClampNeg]?
section TC
variable {l : Launch} {D : DD} {σ : Hp} {a b : Nat} {L : List Nat}
theorem c_kidCount (hk : h_K σ a = 9) (hc : Ch σ 517 L (h_P σ 516 a)) (hl : L.length < 2 ^ 31) : Cn l D m_Thing_kidCount 0 0 [va_rf (some a)] σ (fun r τ => r = some (.int (nI L.length)) ∧ τ = σ) := by
  refine Cn.of (by decide) (by repeat (first | exact ca_0 | refine ca_i ?_ | refine ca_r ?_)) (Nat.le_of_ble_eq_true rfl) ?_
  refine r_iconst (v := nI 0) rfl (by decide) ?_
  refine r_istore_n rfl (by decide) ?_
  refine r_aload_n rfl rfl ?_
  (first | refine r_getPv rfl (by first | assumption | rfl) rfl (by assumption) ?_ | refine r_getP rfl (by first | assumption | rfl) rfl ?_)
  refine r_astore_n rfl (by decide) ?_
  have loop : ∀ (M : List Nat) (n : Nat) (p : Option Nat), Ch σ 517 M p → n + M.length = L.length → Gm l D m_Thing_kidCount 0 0 (fun r τ => r = some (.int (nI L.length)) ∧ τ = σ) 7 [some (va_rf (some a)), some (.int (nI n)), some (va_rf p)] [] σ 0 0 := by
    intro M
    induction M with
    | nil =>
      intro n p h hn
      have h : p = none := h
      subst h
      refine r_aload_n rfl rfl ?_
      refine r_ifnull rfl (fun _ => ?_) (fun c q => by cases q)
      refine r_iload_n rfl rfl ?_
      exact r_iret rfl rfl ⟨by rw [← hn]; rfl, rfl⟩
    | cons c M ih =>
      intro n p h hn
      obtain ⟨rfl, h1, h2⟩ := h
      refine r_aload_n rfl rfl ?_
      refine r_ifnull rfl (fun q => by cases q) (fun c' q => ?_)
      refine r_iinc rfl rfl (nI_inc _) ?_
      refine r_aload_n rfl rfl ?_
      (first | refine r_getPv rfl (by first | assumption | rfl) rfl (by assumption) ?_ | refine r_getP rfl (by first | assumption | rfl) rfl ?_)
      refine r_astore_n rfl (by decide) ?_
      refine r_goto rfl ?_
      exact ih (n + 1) _ h2 (by rw [← hn, List.length_cons]; omega)
  exact loop L 0 _ hc (by omega)
theorem c_kidAt {i : Int32} (hk : h_K σ a = 9) (hc : Ch σ 517 L (h_P σ 516 a)) (hl : L.length < 2 ^ 31) : Cn l D m_Thing_kidAt 0 0 [va_rf (some a), .int i] σ (fun r τ => r = some (va_rf (kdA L i)) ∧ τ = σ) := by
  refine Cn.of (by decide) (by repeat (first | exact ca_0 | refine ca_i ?_ | refine ca_r ?_)) (Nat.le_of_ble_eq_true rfl) ?_
  refine r_iconst (v := nI 0) rfl (by decide) ?_
  refine r_istore_n rfl (by decide) ?_
  refine r_aload_n rfl rfl ?_
  (first | refine r_getPv rfl (by first | assumption | rfl) rfl (by assumption) ?_ | refine r_getP rfl (by first | assumption | rfl) rfl ?_)
  refine r_astore_n rfl (by decide) ?_
  have loop : ∀ (M P : List Nat) (p : Option Nat), Ch σ 517 M p → P ++ M = L → (∀ j, j < P.length → nI j ≠ i) → Gm l D m_Thing_kidAt 0 0 (fun r τ => r = some (va_rf (kdA L i)) ∧ τ = σ) 7 [some (va_rf (some a)), some (.int i), some (.int (nI P.length)), some (va_rf p)] [] σ 0 0 := by
    intro M
    induction M with
    | nil =>
      intro P p h hP hj
      have h : p = none := h
      subst h
      have hPL : P = L := by simpa using hP
      subst hPL
      refine r_aload_n rfl rfl ?_
      refine r_ifnull rfl (fun _ => ?_) (fun c q => by cases q)
      refine r_null rfl ?_
      refine r_aret rfl rfl ⟨?_, rfl⟩
      have : kdA P i = none := by
        unfold kdA
        by_cases e : i < 0
        · rw [if_pos e]
        · rw [if_neg e]
          obtain ⟨j, hj1, rfl⟩ := nI_of e
          rw [nI_clamp hj1]
          refine List.getElem?_eq_none ?_
          rcases Nat.lt_or_ge j P.length with w | w
          · exact absurd rfl (hj j w)
          · exact w
      rw [this]
    | cons c M ih =>
      intro P p h hP hj
      obtain ⟨rfl, h1, h2⟩ := h
      have hlen : P.length + (M.length + 1) = L.length := by rw [← hP]; simp
      refine r_aload_n rfl rfl ?_
      refine r_ifnull rfl (fun q => by cases q) (fun c' q => ?_)
      refine r_iload_n rfl rfl ?_
      refine r_iload_n rfl rfl ?_
      refine r_icmp_ne rfl (fun q2 => ?_) (fun q2 => ?_)
      · refine r_iinc rfl rfl (nI_inc _) ?_
        refine r_aload_n rfl rfl ?_
        (first | refine r_getPv rfl (by first | assumption | rfl) rfl (by assumption) ?_ | refine r_getP rfl (by first | assumption | rfl) rfl ?_)
        refine r_astore_n rfl (by decide) ?_
        refine r_goto rfl ?_
        have e := ih (P ++ [c]) _ h2 (by rw [← hP]; simp) (fun j hj2 => ?_)
        · rw [List.length_append] at e
          exact e
        · rw [List.length_append, List.length_singleton] at hj2
          by_cases w : j = P.length
          · rw [w]; exact q2
          · exact hj j (by omega)
      · refine r_aload_n rfl rfl ?_
        refine r_aret rfl rfl ⟨?_, rfl⟩
        have : kdA L i = some c := by
          unfold kdA
          rw [← q2, if_neg (nI_pos (by omega)), nI_clamp (by omega), ← hP]
          simp
        rw [this]
  exact loop L [] _ hc rfl (fun j hj => by simp at hj)
/-- the place of a thing among those that hang on the same -/
theorem c_index {u j : Nat} (hk : h_K σ a = 9) (hu : h_P σ 515 a = some u) (hku : h_K σ u = 9) (hc : Ch σ 517 L (h_P σ 516 u)) (hl : L.length < 2 ^ 31) (hj : L[j]? = some a) (hj2 : ∀ q, q < j → L[q]? ≠ some a) : Cn l D m_Thing_index 0 0 [va_rf (some a)] σ (fun r τ => r = some (.int (nI j)) ∧ τ = σ) := by
  refine Cn.of (by decide) (by repeat (first | exact ca_0 | refine ca_i ?_ | refine ca_r ?_)) (Nat.le_of_ble_eq_true rfl) ?_
  refine r_iconst (v := nI 0) rfl (by decide) ?_
  refine r_istore_n rfl (by decide) ?_
  refine r_aload_n rfl rfl ?_
  (first | refine r_getPv rfl (by first | assumption | rfl) rfl (by assumption) ?_ | refine r_getP rfl (by first | assumption | rfl) rfl ?_)
  refine r_ifnonnull rfl (fun c q => ?_) (fun q => by cases q)
  refine r_aload_n rfl rfl ?_
  (first | refine r_getPv rfl (by first | assumption | rfl) rfl (by assumption) ?_ | refine r_getP rfl (by first | assumption | rfl) rfl ?_)
  (first | refine r_getPv rfl (by first | assumption | rfl) rfl (by assumption) ?_ | refine r_getP rfl (by first | assumption | rfl) rfl ?_)
  refine r_astore_n rfl (by decide) ?_
  have loop : ∀ (M P : List Nat) (p : Option Nat), Ch σ 517 M p → P ++ M = L → P.length ≤ j → Gm l D m_Thing_index 0 0 (fun r τ => r = some (.int (nI j)) ∧ τ = σ) 21 [some (va_rf (some a)), some (.int (nI P.length)), some (va_rf p)] [] σ 0 0 := by
    intro M
    induction M with
    | nil =>
      intro P p h hP hjP
      have hPL : P = L := by simpa using hP
      subst hPL
      have := (List.getElem?_eq_some_iff.mp hj).1
      omega
    | cons c M ih =>
      intro P p h hP hjP
      obtain ⟨rfl, h1, h2⟩ := h
      have hPc : L[P.length]? = some c := by rw [← hP]; simp
      refine r_aload_n rfl rfl ?_
      refine r_ifnull rfl (fun q => by cases q) (fun c' q => ?_)
      refine r_aload_n rfl rfl ?_
      refine r_aload_n rfl rfl ?_
      refine r_acmp_eq rfl (fun q2 => ?_) (fun q2 => ?_)
      · have e : c = a := Option.some.inj q2
        refine r_iload_n rfl rfl ?_
        refine r_iret rfl rfl ⟨?_, rfl⟩
        have : P.length = j := by
          rcases Nat.lt_or_ge P.length j with w | w
          · exact absurd (by rw [hPc, e]) (hj2 _ w)
          · omega
        rw [this]
      · refine r_iinc rfl rfl (nI_inc _) ?_
        refine r_aload_n rfl rfl ?_
        (first | refine r_getPv rfl (by first | assumption | rfl) rfl (by assumption) ?_ | refine r_getP rfl (by first | assumption | rfl) rfl ?_)
        refine r_astore_n rfl (by decide) ?_
        refine r_goto rfl ?_
        have hne : P.length ≠ j := fun w => q2 (by rw [w] at hPc; exact hPc.symm.trans hj)
        have e := ih (P ++ [c]) _ h2 (by rw [← hP]; simp) (by rw [List.length_append, List.length_singleton]; omega)
        rw [List.length_append] at e
        exact e
  exact loop L [] _ hc rfl (by simp)
/-- is top on the way up? -/
theorem c_isWithin {U : List Nat} (hc : Ch σ 515 U (some a)) : Cn l D m_Thing_isWithin 0 0 [va_rf (some a), va_rf (some b)] σ (fun r τ => r = some (.int (nI (decide (b ∈ U)).toNat)) ∧ τ = σ) := by
  refine Cn.of (by decide) (by repeat (first | exact ca_0 | refine ca_i ?_ | refine ca_r ?_)) (Nat.le_of_ble_eq_true rfl) ?_
  refine r_aload_n rfl rfl ?_
  refine r_astore_n rfl (by decide) ?_
  have loop : ∀ (M P : List Nat) (p : Option Nat), Ch σ 515 M p → P ++ M = U → b ∉ P → Gm l D m_Thing_isWithin 0 0 (fun r τ => r = some (.int (nI (decide (b ∈ U)).toNat)) ∧ τ = σ) 2 [some (va_rf (some a)), some (va_rf (some b)), some (va_rf p)] [] σ 0 0 := by
    intro M
    induction M with
    | nil =>
      intro P p h hP hb
      have h : p = none := h
      subst h
      have hPL : P = U := by simpa using hP
      subst hPL
      refine r_aload_n rfl rfl ?_
      refine r_ifnull rfl (fun _ => ?_) (fun c q => by cases q)
      refine r_iconst (v := nI 0) rfl (by decide) ?_
      exact r_zret rfl rfl (by decide) ⟨by rw [decide_eq_false hb]; rfl, rfl⟩
    | cons c M ih =>
      intro P p h hP hb
      obtain ⟨rfl, h1, h2⟩ := h
      refine r_aload_n rfl rfl ?_
      refine r_ifnull rfl (fun q => by cases q) (fun c' q => ?_)
      refine r_aload_n rfl rfl ?_
      refine r_aload_n rfl rfl ?_
      refine r_acmp_ne rfl (fun q2 => ?_) (fun q2 => ?_)
      · refine r_aload_n rfl rfl ?_
        (first | refine r_getPv rfl (by first | assumption | rfl) rfl (by assumption) ?_ | refine r_getP rfl (by first | assumption | rfl) rfl ?_)
        refine r_astore_n rfl (by decide) ?_
        refine r_goto rfl ?_
        refine ih (P ++ [c]) _ h2 (by rw [← hP]; simp) ?_
        intro w
        rcases List.mem_append.mp w with w | w
        · exact hb w
        · exact q2 (by rw [List.mem_singleton.mp w])
      · have e : c = b := Option.some.inj q2
        refine r_iconst (v := nI 1) rfl (by decide) ?_
        refine r_zret rfl rfl (by decide) ⟨?_, rfl⟩
        have : b ∈ U := by rw [← hP, ← e]; simp
        rw [decide_eq_true this]
        rfl
  exact loop U [] _ hc rfl (by simp)
/-- to which a thing leads: the last of its chain of 'into' -/
theorem c_lead {U : List Nat} (hk : h_K σ a = 9) (hc : Ch σ 518 U (h_P σ 518 a)) : Cn l D m_Thing_lead 0 0 [va_rf (some a)] σ (fun r τ => r = some (va_rf (some (U.getLastD a))) ∧ τ = σ) := by
  refine Cn.of (by decide) (by repeat (first | exact ca_0 | refine ca_i ?_ | refine ca_r ?_)) (Nat.le_of_ble_eq_true rfl) ?_
  refine r_aload_n rfl rfl ?_
  refine r_astore_n rfl (by decide) ?_
  refine r_aload_n rfl rfl ?_
  (first | refine r_getPv rfl (by first | assumption | rfl) rfl (by assumption) ?_ | refine r_getP rfl (by first | assumption | rfl) rfl ?_)
  refine r_astore_n rfl (by decide) ?_
  have loop : ∀ (M : List Nat) (c : Nat) (p : Option Nat), Ch σ 518 M p → M.getLastD c = U.getLastD a → Gm l D m_Thing_lead 0 0 (fun r τ => r = some (va_rf (some (U.getLastD a))) ∧ τ = σ) 7 [some (va_rf (some a)), some (va_rf (some c)), some (va_rf p)] [] σ 0 0 := by
    intro M
    induction M with
    | nil =>
      intro c p h he
      have h : p = none := h
      subst h
      refine r_aload_n rfl rfl ?_
      refine r_ifnull rfl (fun _ => ?_) (fun c q => by cases q)
      refine r_aload_n rfl rfl ?_
      exact r_aret rfl rfl ⟨by rw [← he]; rfl, rfl⟩
    | cons d M ih =>
      intro c p h he
      obtain ⟨rfl, h1, h2⟩ := h
      refine r_aload_n rfl rfl ?_
      refine r_ifnull rfl (fun q => by cases q) (fun c' q => ?_)
      refine r_aload_n rfl rfl ?_
      refine r_astore_n rfl (by decide) ?_
      refine r_aload_n rfl rfl ?_
      (first | refine r_getPv rfl (by first | assumption | rfl) rfl (by assumption) ?_ | refine r_getP rfl (by first | assumption | rfl) rfl ?_)
      refine r_astore_n rfl (by decide) ?_
      refine r_goto rfl ?_
      refine ih d _ h2 ?_
      rw [← he, List.getLastD_cons]
  exact loop U a _ hc rfl
end TC
end
section
/-! ===== class Thing: leadThere, tellTo ===== -/
section TC
variable {l : Launch} {D : DD} {σ : Hp} {a b : Nat} {L : List Nat}
theorem Ch.last {f : Nat} : ∀ {U : List Nat} {p : Option Nat} {d : Nat}, Ch σ f U p → h_K σ d = 9 → h_K σ (U.getLastD d) = 9
  | [], _, _, _, hd => hd
  | c :: U, _, _, h, _ => by
    rw [List.getLastD_cons]
    exact Ch.last h.2.2 h.2.1
theorem c_leadThere {U : List Nat} (hk : h_K σ a = 9) (hc : Ch σ 518 U (h_P σ 518 a)) : Cn l D m_Thing_leadThere 0 0 [va_rf (some a)] σ (fun r τ => r = some (va_rf (if h_I σ 519 (U.getLastD a) = 0 then none else some (U.getLastD a))) ∧ τ = σ) := by
  have hkl : h_K σ (U.getLastD a) = 9 := Ch.last hc hk
  refine Cn.of (by decide) (by repeat (first | exact ca_0 | refine ca_i ?_ | refine ca_r ?_)) (Nat.le_of_ble_eq_true rfl) ?_
  refine r_aload_n rfl rfl ?_
  refine r_callV (As := []) rfl (by decide) rfl hk rfl rfl (Nat.le_of_ble_eq_true rfl) ⟨Nat.le_of_ble_eq_true rfl, Nat.le_of_ble_eq_true rfl⟩ (c_lead hk hc) (kc' := 0) (ks' := 0) (by omega) (by omega) (by decide) ?_
  rintro r τ ⟨rfl, rfl⟩
  refine r_astore_n rfl (by decide) ?_
  refine r_aload_n rfl rfl ?_
  refine r_getI rfl hkl rfl ?_
  refine r_if_eq rfl (fun q => ?_) (fun q => ?_)
  · refine r_null rfl ?_
    exact r_aret rfl rfl ⟨by rw [if_pos q], rfl⟩
  · refine r_aload_n rfl rfl ?_
    refine r_goto rfl ?_
    exact r_aret rfl rfl ⟨by rw [if_neg q], rfl⟩
theorem c_tellTo {F w nA out cw cn co : Nat} {ws nm zs : List Int32} (hk : h_K σ a = 9) (hF : h_P σ 514 a = some F) (hkF : h_K σ F = 3) (hw : h_P σ 128 F = some w) (hn : h_P σ 527 a = some nA) (lw : Ln σ w cw ws) (ln : Ln σ nA cn nm) (lo : Ln σ out co zs) (h1 : w ≠ out) (h2 : nA ≠ out) (hl : zs.length + ws.length + 1 + nm.length ≤ co) :
    Cn l D m_Thing_tellTo 0 0 [va_rf (some a), va_rf (some out)] σ (fun r τ => r = none ∧ Ln τ out co (zs ++ toldL ws nm) ∧ LF σ τ out) := by
  have kw := lw.1
  have iw := lw.2.2.1
  have cw1 := lw.2.2.2.2.2.1
  have cw2 := lw.2.2.2.2.2.2.1
  refine Cn.of (by decide) (by repeat (first | exact ca_0 | refine ca_i ?_ | refine ca_r ?_)) (Nat.le_of_ble_eq_true rfl) ?_
  have fin : ∀ (τ : Hp) (ys : List Int32), Ln τ out co ys → LF σ τ out → ys.length + nm.length ≤ co → ys ++ nm = zs ++ toldL ws nm → Gm l D m_Thing_tellTo 0 0 (fun r τ => r = none ∧ Ln τ out co (zs ++ toldL ws nm) ∧ LF σ τ out) 30 (en_L [va_rf (some a), va_rf (some out)] 2) [] τ 0 0 := by
    intro τ ys t1 f1 hl2 he
    have hk' : h_K τ a = 9 := by rw [f1.2.1]; exact hk
    have hn' : h_P τ 527 a = some nA := by rw [f1.2.2.1]; exact hn
    refine r_aload_n rfl rfl ?_
    refine r_aload_n rfl rfl ?_
    (first | refine r_getPv rfl (by first | assumption | rfl) rfl (by assumption) ?_ | refine r_getP rfl (by first | assumption | rfl) rfl ?_)
    refine r_callV (As := [_]) rfl (by decide) rfl t1.1 rfl rfl (Nat.le_of_ble_eq_true rfl) ⟨Nat.le_of_ble_eq_true rfl, Nat.le_of_ble_eq_true rfl⟩ (c_putLine t1 (f1.keep h2 ln) hl2) (kc' := 0) (ks' := 0) (by omega) (by omega) (by decide) ?_
    rintro r τ2 ⟨rfl, t2, f2⟩
    rw [he] at t2
    exact r_vret rfl rfl ⟨rfl, t2, f1.tr f2⟩
  refine r_aload_n rfl rfl ?_
  (first | refine r_getPv rfl (by first | assumption | rfl) rfl (by assumption) ?_ | refine r_getP rfl (by first | assumption | rfl) rfl ?_)
  (first | refine r_getPv rfl (by first | assumption | rfl) rfl (by assumption) ?_ | refine r_getP rfl (by first | assumption | rfl) rfl ?_)
  (first | refine r_getIv rfl (by first | assumption | rfl) rfl (by assumption) ?_ | refine r_getI rfl (by first | assumption | rfl) rfl ?_)
  refine r_if_le rfl (fun q => ?_) (fun q => ?_)
  · have h0 : ws.length = 0 := by
      rcases Nat.eq_zero_or_pos ws.length with v | v
      · exact v
      · exact absurd q (nI_nle v (by omega))
    exact fin σ zs lo (LF.rf _ _) (by omega) (by rw [toldL_0 h0])
  · have h0 : ws.length ≠ 0 := fun v => q (by rw [v]; decide)
    refine r_aload_n rfl rfl ?_
    refine r_aload_n rfl rfl ?_
    (first | refine r_getPv rfl (by first | assumption | rfl) rfl (by assumption) ?_ | refine r_getP rfl (by first | assumption | rfl) rfl ?_)
    (first | refine r_getPv rfl (by first | assumption | rfl) rfl (by assumption) ?_ | refine r_getP rfl (by first | assumption | rfl) rfl ?_)
    refine r_callV (As := [_]) rfl (by decide) rfl lo.1 rfl rfl (Nat.le_of_ble_eq_true rfl) ⟨Nat.le_of_ble_eq_true rfl, Nat.le_of_ble_eq_true rfl⟩ (c_putLine lo lw (by omega)) (kc' := 0) (ks' := 0) (by omega) (by omega) (by decide) ?_
    rintro r τ1 ⟨rfl, t1, f1⟩
    refine r_aload_n rfl rfl ?_
    refine r_bipush (v := nI 32) rfl (by decide) ?_
    refine r_callV (As := [_]) rfl (by decide) rfl t1.1 rfl rfl (Nat.le_of_ble_eq_true rfl) ⟨Nat.le_of_ble_eq_true rfl, Nat.le_of_ble_eq_true rfl⟩ (c_put t1 (by simp; omega)) (kc' := 0) (ks' := 0) (by omega) (by omega) (by decide) ?_
    rintro r τ2 ⟨rfl, t2, f2⟩
    have e32 : b8 (nI 32) = nI 32 := by decide
    rw [e32] at t2
    exact fin τ2 _ t2 (f1.tr f2) (by simp; omega) (by rw [toldL_1 h0]; simp)
end TC
end
section
/-! ===== class Thing: hangOn, leave ===== -/
theorem kdA_m1 {L : List Nat} {j : Nat} (hj : j < 2 ^ 30) : kdA L (nI j - nI 1) = if j = 0 then none else L[j - 1]? := by
  unfold kdA
  by_cases e : j = 0
  · subst e
    rw [if_pos rfl, if_pos (by decide)]
  · rw [if_neg e, pk_sub (by omega), if_neg (nI_pos (by omega)), nI_clamp (by omega)]
theorem hP_w (σ : Hp) (f a : Nat) (v : Option Nat) : h_P (w_P σ f a v) f a = v := u2_s _ _ _ _
theorem hP_n (σ : Hp) {f g a b : Nat} (v : Option Nat) (h : g ≠ f) : h_P (w_P σ f a v) g b = h_P σ g b := u2_n1 _ _ h
theorem hP_m (σ : Hp) {f g a b : Nat} (v : Option Nat) (h : b ≠ a) : h_P (w_P σ f a v) g b = h_P σ g b := u2_n2 _ _ h
/-- hung on h as the j-th of L -/
def hgS (σ : Hp) (a h j : Nat) (L : List Nat) : Hp := match (if j = 0 then none else L[j - 1]?) with
  | none => w_P (w_P (w_P σ 515 a (some h)) 517 a (h_P σ 516 h)) 516 h (some a)
  | some c => w_P (w_P (w_P σ 515 a (some h)) 517 a (h_P σ 517 c)) 517 c (some a)
/-- taken from what it hangs on, u, where it is the j-th of L -/
def lvS (σ : Hp) (a u j : Nat) (L : List Nat) : Hp := match (if j = 0 then none else L[j - 1]?) with
  | none => w_P (w_P σ 516 u (h_P σ 517 a)) 517 a none
  | some c => w_P (w_P σ 517 c (h_P σ 517 a)) 517 a none
theorem Ch.mem {σ : Hp} {f : Nat} : ∀ {L : List Nat} {p : Option Nat}, Ch σ f L p → ∀ c ∈ L, h_K σ c = 9
  | [], _, _, c, hc => by cases hc
  | b :: L, _, h, c, hc => by
    rcases List.mem_cons.mp hc with rfl | hc
    · exact h.2.1
    · exact Ch.mem h.2.2 c hc
section TC
variable {l : Launch} {D : DD} {σ : Hp} {a : Nat} {L : List Nat}
theorem c_hangOn {h j : Nat} (hk : h_K σ a = 9) (hkh : h_K σ h = 9) (hc : Ch σ 517 L (h_P σ 516 h)) (hl : L.length < 2 ^ 30) (hj : j ≤ L.length) : Cn l D m_Thing_hangOn 0 0 [va_rf (some a), va_rf (some h), .int (nI j)] σ (fun r τ => r = none ∧ τ = hgS σ a h j L) := by
  refine Cn.of (by decide) (by repeat (first | exact ca_0 | refine ca_i ?_ | refine ca_r ?_)) (Nat.le_of_ble_eq_true rfl) ?_
  refine r_aload_n rfl rfl ?_
  refine r_ifnonnull rfl (fun _ _ => ?_) (fun q => by cases q)
  refine r_aload_n rfl rfl ?_
  refine r_aload_n rfl rfl ?_
  refine r_putP rfl (by first | assumption | rfl) rfl (by first | exact Or.inl rfl | exact Or.inr ⟨rfl, rfl⟩) ?_
  refine r_aload_n rfl rfl ?_
  refine r_iload_n rfl rfl ?_
  refine r_iconst (v := nI 1) rfl (by decide) ?_
  refine r_isub rfl ?_
  have hc2 : Ch (w_P σ 515 a (some h)) 517 L (h_P (w_P σ 515 a (some h)) 516 h) := by
    rw [hP_n _ _ (by decide)]
    exact Ch.keep (σ := σ) (τ := w_P σ 515 a (some h)) rfl (fun b => hP_n σ (f := 515) (g := 517) (a := a) (b := b) (some h) (by decide)) hc
  have hkh2 : h_K (w_P σ 515 a (some h)) h = 9 := hkh
  have hk2 : h_K (w_P σ 515 a (some h)) a = 9 := hk
  refine r_callV (As := [_]) rfl (by decide) rfl hkh2 rfl rfl (Nat.le_of_ble_eq_true rfl) ⟨Nat.le_of_ble_eq_true rfl, Nat.le_of_ble_eq_true rfl⟩ (c_kidAt hkh2 hc2 (by omega)) (kc' := 0) (ks' := 0) (by omega) (by omega) (by decide) ?_
  rintro r τ ⟨rfl, rfl⟩
  rw [kdA_m1 (by omega)]
  unfold hgS
  cases he : (if j = 0 then none else L[j - 1]?) with
  | none =>
    refine r_astore_n rfl (by decide) ?_
    refine r_aload_n rfl rfl ?_
    refine r_ifnonnull rfl (fun c q => by cases q) (fun _ => ?_)
    refine r_aload_n rfl rfl ?_
    refine r_aload_n rfl rfl ?_
    (first | refine r_getPv rfl (by first | assumption | rfl) rfl (by assumption) ?_ | refine r_getP rfl (by first | assumption | rfl) rfl ?_)
    refine r_putP rfl (by first | assumption | rfl) rfl (by first | exact Or.inl rfl | exact Or.inr ⟨rfl, rfl⟩) ?_
    refine r_aload_n rfl rfl ?_
    refine r_aload_n rfl rfl ?_
    refine r_putP rfl (by first | assumption | rfl) rfl (by first | exact Or.inl rfl | exact Or.inr ⟨rfl, rfl⟩) ?_
    refine r_goto rfl ?_
    refine r_vret rfl rfl ⟨rfl, ?_⟩
    show _ = w_P (w_P (w_P σ 515 a (some h)) 517 a (h_P σ 516 h)) 516 h (some a)
    rw [hP_n σ _ (show (516 : Nat) ≠ 515 by decide)]
  | some c =>
    have hcm : c ∈ L := by
      by_cases e : j = 0
      · rw [if_pos e] at he; cases he
      · rw [if_neg e] at he
        exact List.mem_of_getElem? he
    have hkc : h_K (w_P σ 515 a (some h)) c = 9 := hc.mem c hcm
    refine r_astore_n rfl (by decide) ?_
    refine r_aload_n rfl rfl ?_
    refine r_ifnonnull rfl (fun c' q => ?_) (fun q => by cases q)
    cases q
    refine r_aload_n rfl rfl ?_
    refine r_aload_n rfl rfl ?_
    (first | refine r_getPv rfl (by first | assumption | rfl) rfl (by assumption) ?_ | refine r_getP rfl (by first | assumption | rfl) rfl ?_)
    refine r_putP rfl (by first | assumption | rfl) rfl (by first | exact Or.inl rfl | exact Or.inr ⟨rfl, rfl⟩) ?_
    refine r_aload_n rfl rfl ?_
    refine r_aload_n rfl rfl ?_
    refine r_putP rfl (by first | assumption | rfl) rfl (by first | exact Or.inl rfl | exact Or.inr ⟨rfl, rfl⟩) ?_
    refine r_vret rfl rfl ⟨rfl, ?_⟩
    show _ = w_P (w_P (w_P σ 515 a (some h)) 517 a (h_P σ 517 c)) 517 c (some a)
    rw [hP_n σ _ (show (517 : Nat) ≠ 515 by decide)]
theorem c_leave {u j : Nat} (hk : h_K σ a = 9) (hu : h_P σ 515 a = some u) (hku : h_K σ u = 9) (hc : Ch σ 517 L (h_P σ 516 u)) (hl : L.length < 2 ^ 30) (hj : L[j]? = some a) (hj2 : ∀ q, q < j → L[q]? ≠ some a) : Cn l D m_Thing_leave 0 0 [va_rf (some a)] σ (fun r τ => r = none ∧ τ = lvS σ a u j L) := by
  have hjl : j < L.length := (List.getElem?_eq_some_iff.mp hj).1
  refine Cn.of (by decide) (by repeat (first | exact ca_0 | refine ca_i ?_ | refine ca_r ?_)) (Nat.le_of_ble_eq_true rfl) ?_
  refine r_aload_n rfl rfl ?_
  (first | refine r_getPv rfl (by first | assumption | rfl) rfl (by assumption) ?_ | refine r_getP rfl (by first | assumption | rfl) rfl ?_)
  refine r_ifnonnull rfl (fun _ _ => ?_) (fun q => by cases q)
  refine r_aload_n rfl rfl ?_
  (first | refine r_getPv rfl (by first | assumption | rfl) rfl (by assumption) ?_ | refine r_getP rfl (by first | assumption | rfl) rfl ?_)
  refine r_aload_n rfl rfl ?_
  refine r_callV (As := []) rfl (by decide) rfl hk rfl rfl (Nat.le_of_ble_eq_true rfl) ⟨Nat.le_of_ble_eq_true rfl, Nat.le_of_ble_eq_true rfl⟩ (c_index hk hu hku hc (by omega) hj hj2) (kc' := 0) (ks' := 0) (by omega) (by omega) (by decide) ?_
  rintro r τ ⟨rfl, rfl⟩
  refine r_iconst (v := nI 1) rfl (by decide) ?_
  refine r_isub rfl ?_
  refine r_callV (As := [_]) rfl (by decide) rfl hku rfl rfl (Nat.le_of_ble_eq_true rfl) ⟨Nat.le_of_ble_eq_true rfl, Nat.le_of_ble_eq_true rfl⟩ (c_kidAt hku hc (by omega)) (kc' := 0) (ks' := 0) (by omega) (by omega) (by decide) ?_
  rintro r τ' ⟨rfl, rfl⟩
  rw [kdA_m1 (by omega)]
  unfold lvS
  cases he : (if j = 0 then none else L[j - 1]?) with
  | none =>
    refine r_astore_n rfl (by decide) ?_
    refine r_aload_n rfl rfl ?_
    refine r_ifnonnull rfl (fun c q => by cases q) (fun _ => ?_)
    refine r_aload_n rfl rfl ?_
    (first | refine r_getPv rfl (by first | assumption | rfl) rfl (by assumption) ?_ | refine r_getP rfl (by first | assumption | rfl) rfl ?_)
    refine r_aload_n rfl rfl ?_
    (first | refine r_getPv rfl (by first | assumption | rfl) rfl (by assumption) ?_ | refine r_getP rfl (by first | assumption | rfl) rfl ?_)
    refine r_putP rfl (by first | assumption | rfl) rfl (by first | exact Or.inl rfl | exact Or.inr ⟨rfl, rfl⟩) ?_
    refine r_goto rfl ?_
    refine r_aload_n rfl rfl ?_
    refine r_null rfl ?_
    refine r_putP rfl (by first | assumption | rfl) rfl (by first | exact Or.inl rfl | exact Or.inr ⟨rfl, rfl⟩) ?_
    exact r_vret rfl rfl ⟨rfl, rfl⟩
  | some c =>
    have hcm : c ∈ L := by
      by_cases e : j = 0
      · rw [if_pos e] at he; cases he
      · rw [if_neg e] at he
        exact List.mem_of_getElem? he
    have hkc : h_K τ' c = 9 := hc.mem c hcm
    refine r_astore_n rfl (by decide) ?_
    refine r_aload_n rfl rfl ?_
    refine r_ifnonnull rfl (fun c' q => ?_) (fun q => by cases q)
    cases q
    refine r_aload_n rfl rfl ?_
    refine r_aload_n rfl rfl ?_
    (first | refine r_getPv rfl (by first | assumption | rfl) rfl (by assumption) ?_ | refine r_getP rfl (by first | assumption | rfl) rfl ?_)
    refine r_putP rfl (by first | assumption | rfl) rfl (by first | exact Or.inl rfl | exact Or.inr ⟨rfl, rfl⟩) ?_
    refine r_aload_n rfl rfl ?_
    refine r_null rfl ?_
    refine r_putP rfl (by first | assumption | rfl) rfl (by first | exact Or.inl rfl | exact Or.inr ⟨rfl, rfl⟩) ?_
    exact r_vret rfl rfl ⟨rfl, rfl⟩
end TC
end
section
/-! ===== class Thing: takeKids ===== -/
/-- all of L hang on a -/
def upsA (σ : Hp) : List Nat → Nat → Hp
  | [], _ => σ
  | c :: L, a => upsA (w_P σ 515 c (some a)) L a
theorem upsA_K (σ : Hp) : ∀ (L : List Nat) (a : Nat), h_K (upsA σ L a) = h_K σ
  | [], _ => rfl
  | c :: L, a => (upsA_K (w_P σ 515 c (some a)) L a).trans rfl
/-- what hangs on b (LB) comes behind what hangs on a (LA) -/
def tkS (σ : Hp) (a b : Nat) (LA LB : List Nat) : Hp := w_P (upsA (match (if LA.length = 0 then none else LA[LA.length - 1]?) with
  | none => w_P σ 516 a (h_P σ 516 b)
  | some c => w_P σ 517 c (h_P σ 516 b)) LB a) 516 b none
section TC
variable {l : Launch} {D : DD} {σ : Hp} {a b : Nat} {LA LB : List Nat}
theorem c_takeKids (hk : h_K σ a = 9) (hkb : h_K σ b = 9) (hab : b ≠ a) (hA : Ch σ 517 LA (h_P σ 516 a)) (hB : Ch σ 517 LB (h_P σ 516 b)) (hl : LA.length < 2 ^ 30) (hd : ∀ c ∈ LA, c ∉ LB) : Cn l D m_Thing_takeKids 0 0 [va_rf (some a), va_rf (some b)] σ (fun r τ => r = none ∧ τ = tkS σ a b LA LB) := by
  generalize hQ : (fun (r : Option Value) (τ : Hp) => r = none ∧ τ = tkS σ a b LA LB) = Q
  refine Cn.of (by decide) (by repeat (first | exact ca_0 | refine ca_i ?_ | refine ca_r ?_)) (Nat.le_of_ble_eq_true rfl) ?_
  refine r_aload_n rfl rfl ?_
  refine r_aload_n rfl rfl ?_
  refine r_callV (As := []) rfl (by decide) rfl hk rfl rfl (Nat.le_of_ble_eq_true rfl) ⟨Nat.le_of_ble_eq_true rfl, Nat.le_of_ble_eq_true rfl⟩ (c_kidCount hk hA (by omega)) (kc' := 0) (ks' := 0) (by omega) (by omega) (by decide) ?_
  rintro r τ ⟨rfl, rfl⟩
  refine r_iconst (v := nI 1) rfl (by decide) ?_
  refine r_isub rfl ?_
  refine r_callV (As := [_]) rfl (by decide) rfl hk rfl rfl (Nat.le_of_ble_eq_true rfl) ⟨Nat.le_of_ble_eq_true rfl, Nat.le_of_ble_eq_true rfl⟩ (c_kidAt hk hA (by omega)) (kc' := 0) (ks' := 0) (by omega) (by omega) (by decide) ?_
  rintro r τ' ⟨rfl, rfl⟩
  rw [kdA_m1 (by omega)]
  have loop : ∀ (M : List Nat) (ρ : Hp) (p z : Option Nat), Ch ρ 517 M p → h_K ρ b = 9 → (r : Option Value) → w_P (upsA ρ M a) 516 b none = tkS τ' a b LA LB → Gm l D m_Thing_takeKids 0 0 Q 39 [some (va_rf (some a)), some (va_rf (some b)), some (va_rf z), some (va_rf p)] [] ρ 0 0 := by
    intro M
    induction M with
    | nil =>
      intro ρ p z h hkρ _ he
      have h : p = none := h
      subst h
      refine r_aload_n rfl rfl ?_
      refine r_ifnull rfl (fun _ => ?_) (fun c q => by cases q)
      refine r_aload_n rfl rfl ?_
      refine r_null rfl ?_
      refine r_putP rfl (by first | assumption | rfl) rfl (by first | exact Or.inl rfl | exact Or.inr ⟨rfl, rfl⟩) ?_
      refine r_vret rfl rfl ?_
      rw [← hQ, ← he]
      exact ⟨rfl, rfl⟩
    | cons c M ih =>
      intro ρ p z h hkρ _ he
      obtain ⟨rfl, h1, h2⟩ := h
      refine r_aload_n rfl rfl ?_
      refine r_ifnull rfl (fun q => by cases q) (fun c' q => ?_)
      refine r_aload_n rfl rfl ?_
      refine r_aload_n rfl rfl ?_
      refine r_putP rfl (by first | assumption | rfl) rfl (by first | exact Or.inl rfl | exact Or.inr ⟨rfl, rfl⟩) ?_
      have h1' : h_K (w_P ρ 515 c (some a)) c = 9 := h1
      refine r_aload_n rfl rfl ?_
      (first | refine r_getPv rfl (by first | assumption | rfl) rfl (by assumption) ?_ | refine r_getP rfl (by first | assumption | rfl) rfl ?_)
      refine r_astore_n rfl (by decide) ?_
      refine r_goto rfl ?_
      rw [hP_n ρ (f := 515) (g := 517) (a := c) (b := c) (some a) (by decide)]
      exact ih (w_P ρ 515 c (some a)) _ z (Ch.keep (σ := ρ) (τ := w_P ρ 515 c (some a)) rfl (fun x => hP_n ρ (f := 515) (g := 517) (a := c) (b := x) (some a) (by decide)) h2) hkρ none he
  cases he : (if LA.length = 0 then none else LA[LA.length - 1]?) with
  | none =>
    refine r_astore_n rfl (by decide) ?_
    refine r_aload_n rfl rfl ?_
    refine r_ifnonnull rfl (fun c q => by cases q) (fun _ => ?_)
    refine r_aload_n rfl rfl ?_
    refine r_aload_n rfl rfl ?_
    (first | refine r_getPv rfl (by first | assumption | rfl) rfl (by assumption) ?_ | refine r_getP rfl (by first | assumption | rfl) rfl ?_)
    refine r_putP rfl (by first | assumption | rfl) rfl (by first | exact Or.inl rfl | exact Or.inr ⟨rfl, rfl⟩) ?_
    refine r_goto rfl ?_
    have hkb2 : h_K (w_P τ' 516 a (h_P τ' 516 b)) b = 9 := hkb
    refine r_aload_n rfl rfl ?_
    refine r_getPv rfl hkb2 rfl (hP_m τ' (f := 516) (g := 516) (a := a) (b := b) (h_P τ' 516 b) hab) ?_
    refine r_astore_n rfl (by decide) ?_
    refine loop LB _ _ _ (Ch.keep (σ := τ') (τ := w_P τ' 516 a (h_P τ' 516 b)) rfl (fun x => hP_n τ' (f := 516) (g := 517) (a := a) (b := x) _ (by decide)) hB) hkb2 none ?_
    unfold tkS
    rw [he]
  | some c =>
    have hcm : c ∈ LA := by
      by_cases e : LA.length = 0
      · rw [if_pos e] at he; cases he
      · rw [if_neg e] at he
        exact List.mem_of_getElem? he
    have hkc : h_K τ' c = 9 := hA.mem c hcm
    have hkb2 : h_K (w_P τ' 517 c (h_P τ' 516 b)) b = 9 := hkb
    refine r_astore_n rfl (by decide) ?_
    refine r_aload_n rfl rfl ?_
    refine r_ifnonnull rfl (fun c' q => ?_) (fun q => by cases q)
    cases q
    refine r_aload_n rfl rfl ?_
    refine r_aload_n rfl rfl ?_
    (first | refine r_getPv rfl (by first | assumption | rfl) rfl (by assumption) ?_ | refine r_getP rfl (by first | assumption | rfl) rfl ?_)
    refine r_putP rfl (by first | assumption | rfl) rfl (by first | exact Or.inl rfl | exact Or.inr ⟨rfl, rfl⟩) ?_
    refine r_aload_n rfl rfl ?_
    refine r_getPv rfl hkb2 rfl (hP_n τ' (f := 517) (g := 516) (a := c) (b := b) (h_P τ' 516 b) (by decide)) ?_
    refine r_astore_n rfl (by decide) ?_
    have keep : ∀ (M : List Nat) (p : Option Nat), c ∉ M → Ch τ' 517 M p → Ch (w_P τ' 517 c (h_P τ' 516 b)) 517 M p := by
      intro M
      induction M with
      | nil => intro p _ h; exact h
      | cons y M ih =>
        intro p hc h
        refine ⟨h.1, h.2.1, ?_⟩
        rw [hP_m τ' (f := 517) (g := 517) (a := c) (b := y) _ (fun e => hc (by rw [e]; exact List.mem_cons_self))]
        exact ih _ (fun w => hc (List.mem_cons_of_mem _ w)) h.2.2
    refine loop LB _ _ _ (keep LB _ (hd c hcm) hB) hkb2 none ?_
    unfold tkS
    rw [he]
end TC
end
section
/-! ===== class Thing: giveKids ===== -/
/-- the kids of a from the j-th on hang on b -/
def gvS (σ : Hp) (a b kid j : Nat) (L : List Nat) : Hp := upsA (w_P (match (if j = 0 then none else L[j - 1]?) with
  | none => w_P σ 516 a none
  | some c => w_P σ 517 c none) 516 b (some kid)) (L.drop j) b
theorem Ch.drop {σ : Hp} {f : Nat} : ∀ {L : List Nat} {p : Option Nat} (j : Nat), Ch σ f L p → ∃ q, Ch σ f (L.drop j) q ∧ (∀ c, L[j]? = some c → q = some c)
  | [], p, j, h => ⟨none, by rw [List.drop_nil]; exact rfl, fun c hc => by simp at hc⟩
  | y :: L, p, 0, h => ⟨p, h, fun c hc => by
    have : y = c := by simpa using hc
    rw [← this]
    exact h.1⟩
  | y :: L, p, j + 1, h => by
    obtain ⟨q, q1, q2⟩ := Ch.drop j h.2.2
    exact ⟨q, q1, fun c hc => q2 c (by simpa using hc)⟩
section TC
variable {l : Launch} {D : DD} {σ : Hp} {a b kid j : Nat} {L : List Nat}
theorem c_giveKids (hk : h_K σ a = 9) (hkb : h_K σ b = 9) (hkk : h_K σ kid = 9) (hu : h_P σ 515 kid = some a) (hA : Ch σ 517 L (h_P σ 516 a)) (hl : L.length < 2 ^ 30) (hj : L[j]? = some kid) (hj2 : ∀ q, q < j → L[q]? ≠ some kid) (hd : ∀ c, L[j - 1]? = some c → 0 < j → c ∉ L.drop j) : Cn l D m_Thing_giveKids 0 0 [va_rf (some a), va_rf (some kid), va_rf (some b)] σ (fun r τ => r = none ∧ τ = gvS σ a b kid j L) := by
  generalize hQ : (fun (r : Option Value) (τ : Hp) => r = none ∧ τ = gvS σ a b kid j L) = Q
  have hjl : j < L.length := (List.getElem?_eq_some_iff.mp hj).1
  refine Cn.of (by decide) (by repeat (first | exact ca_0 | refine ca_i ?_ | refine ca_r ?_)) (Nat.le_of_ble_eq_true rfl) ?_
  refine r_aload_n rfl rfl ?_
  refine r_ifnonnull rfl (fun _ _ => ?_) (fun q => by cases q)
  refine r_aload_n rfl rfl ?_
  refine r_aload_n rfl rfl ?_
  refine r_callV (As := []) rfl (by decide) rfl hkk rfl rfl (Nat.le_of_ble_eq_true rfl) ⟨Nat.le_of_ble_eq_true rfl, Nat.le_of_ble_eq_true rfl⟩ (c_index hkk hu hk hA (by omega) hj hj2) (kc' := 0) (ks' := 0) (by omega) (by omega) (by decide) ?_
  rintro r τ ⟨rfl, rfl⟩
  refine r_iconst (v := nI 1) rfl (by decide) ?_
  refine r_isub rfl ?_
  refine r_callV (As := [_]) rfl (by decide) rfl hk rfl rfl (Nat.le_of_ble_eq_true rfl) ⟨Nat.le_of_ble_eq_true rfl, Nat.le_of_ble_eq_true rfl⟩ (c_kidAt hk hA (by omega)) (kc' := 0) (ks' := 0) (by omega) (by omega) (by decide) ?_
  rintro r τ' ⟨rfl, rfl⟩
  rw [kdA_m1 (by omega)]
  obtain ⟨p0, c1, c2⟩ := Ch.drop j hA
  have hp0 : p0 = some kid := c2 kid hj
  subst hp0
  have loop : ∀ (M : List Nat) (ρ : Hp) (p z : Option Nat), Ch ρ 517 M p → h_K ρ b = 9 → upsA ρ M b = gvS τ' a b kid j L → Gm l D m_Thing_giveKids 0 0 Q 41 [some (va_rf (some a)), some (va_rf (some kid)), some (va_rf (some b)), some (va_rf z), some (va_rf p)] [] ρ 0 0 := by
    intro M
    induction M with
    | nil =>
      intro ρ p z h hkρ he
      have h : p = none := h
      subst h
      refine r_aload rfl rfl ?_
      refine r_ifnull rfl (fun _ => ?_) (fun c q => by cases q)
      refine r_vret rfl rfl ?_
      rw [← hQ, ← he]
      exact ⟨rfl, rfl⟩
    | cons c M ih =>
      intro ρ p z h hkρ he
      obtain ⟨rfl, h1, h2⟩ := h
      refine r_aload rfl rfl ?_
      refine r_ifnull rfl (fun q => by cases q) (fun c' q => ?_)
      refine r_aload rfl rfl ?_
      refine r_aload_n rfl rfl ?_
      refine r_putP rfl (by first | assumption | rfl) rfl (by first | exact Or.inl rfl | exact Or.inr ⟨rfl, rfl⟩) ?_
      have h1' : h_K (w_P ρ 515 c (some b)) c = 9 := h1
      refine r_aload rfl rfl ?_
      (first | refine r_getPv rfl (by first | assumption | rfl) rfl (by assumption) ?_ | refine r_getP rfl (by first | assumption | rfl) rfl ?_)
      refine r_astore rfl (by decide) ?_
      refine r_goto rfl ?_
      rw [hP_n ρ (f := 515) (g := 517) (a := c) (b := c) (some b) (by decide)]
      exact ih (w_P ρ 515 c (some b)) _ z (Ch.keep (σ := ρ) (τ := w_P ρ 515 c (some b)) rfl (fun x => hP_n ρ (f := 515) (g := 517) (a := c) (b := x) (some b) (by decide)) h2) hkρ he
  cases he : (if j = 0 then none else L[j - 1]?) with
  | none =>
    refine r_astore_n rfl (by decide) ?_
    refine r_aload_n rfl rfl ?_
    refine r_ifnonnull rfl (fun c q => by cases q) (fun _ => ?_)
    refine r_aload_n rfl rfl ?_
    refine r_null rfl ?_
    refine r_putP rfl (by first | assumption | rfl) rfl (by first | exact Or.inl rfl | exact Or.inr ⟨rfl, rfl⟩) ?_
    refine r_goto rfl ?_
    have hkb2 : h_K (w_P τ' 516 a none) b = 9 := hkb
    refine r_aload_n rfl rfl ?_
    refine r_aload_n rfl rfl ?_
    refine r_putP rfl (by first | assumption | rfl) rfl (by first | exact Or.inl rfl | exact Or.inr ⟨rfl, rfl⟩) ?_
    refine r_aload_n rfl rfl ?_
    refine r_astore rfl (by decide) ?_
    refine loop (L.drop j) _ _ _ ?_ hkb ?_
    · refine Ch.keep (σ := τ') (τ := w_P (w_P τ' 516 a none) 516 b (some kid)) rfl (fun x => ?_) c1
      rw [hP_n _ (f := 516) (g := 517) _ (by decide), hP_n _ (f := 516) (g := 517) _ (by decide)]
    · unfold gvS
      rw [he]
  | some c =>
    have hj0 : ¬ j = 0 := fun e => by rw [if_pos e] at he; cases he
    have he2 : L[j - 1]? = some c := by rw [if_neg hj0] at he; exact he
    have hkc : h_K τ' c = 9 := hA.mem c (List.mem_of_getElem? he2)
    have hkb2 : h_K (w_P τ' 517 c none) b = 9 := hkb
    refine r_astore_n rfl (by decide) ?_
    refine r_aload_n rfl rfl ?_
    refine r_ifnonnull rfl (fun c' q => ?_) (fun q => by cases q)
    cases q
    refine r_aload_n rfl rfl ?_
    refine r_null rfl ?_
    refine r_putP rfl (by first | assumption | rfl) rfl (by first | exact Or.inl rfl | exact Or.inr ⟨rfl, rfl⟩) ?_
    refine r_aload_n rfl rfl ?_
    refine r_aload_n rfl rfl ?_
    refine r_putP rfl (by first | assumption | rfl) rfl (by first | exact Or.inl rfl | exact Or.inr ⟨rfl, rfl⟩) ?_
    refine r_aload_n rfl rfl ?_
    refine r_astore rfl (by decide) ?_
    have keep : ∀ (M : List Nat) (p : Option Nat), c ∉ M → Ch τ' 517 M p → Ch (w_P τ' 517 c none) 517 M p := by
      intro M
      induction M with
      | nil => intro p _ h; exact h
      | cons y M ih =>
        intro p hc h
        refine ⟨h.1, h.2.1, ?_⟩
        rw [hP_m τ' (f := 517) (g := 517) (a := c) (b := y) _ (fun e => hc (by rw [e]; exact List.mem_cons_self))]
        exact ih _ (fun w => hc (List.mem_cons_of_mem _ w)) h.2.2
    refine loop (L.drop j) _ _ _ ?_ hkb ?_
    · refine Ch.keep (σ := w_P τ' 517 c none) (τ := w_P (w_P τ' 517 c none) 516 b (some kid)) rfl (fun x => ?_) (keep _ _ (hd c he2 (by omega)) c1)
      rw [hP_n _ (f := 516) (g := 517) _ (by decide)]
    · unfold gvS
      rw [he]
end TC
end
section
/-! ===== the tree, pure: who hangs on whom, who is there, into which one a thing was joined; 120 is the text ===== -/
abbrev Tr : Type := (Nat → List Nat) × (Nat → Bool) × (Nat → Option Nat)
def t_k (T : Tr) : Nat → List Nat := T.1
def t_h (T : Tr) : Nat → Bool := T.2.1
def t_i (T : Tr) : Nat → Option Nat := T.2.2
def T0 : Tr := (fun _ => [], fun _ => false, fun _ => none)
def liv (T : Tr) (p : Nat) : Prop := p = 120 ∨ t_h T p = true
def Wf (n : Nat) (kd : Nat → Nat) (T : Tr) : Prop :=
  n ≤ 120 ∧ (∀ p c, c ∈ t_k T p → c < n ∧ (p = 120 ∨ p < n)) ∧ (∀ p, (t_k T p).Nodup) ∧ (∀ p q c, c ∈ t_k T p → c ∈ t_k T q → p = q) ∧
  (∃ dp : Nat → Nat, ∀ p c, c ∈ t_k T p → dp c = dp p + 1) ∧ (∀ x, t_h T x = true → x < n ∧ ∃ p, liv T p ∧ x ∈ t_k T p) ∧
  (∀ p, liv T p → ∀ c, c ∈ t_k T p → t_h T c = true) ∧ (∀ x y, t_i T x = some y → t_h T x = false ∧ x < n ∧ y < n ∧ kd x = kd y) ∧
  (∃ rk : Nat → Nat, ∀ x y, t_i T x = some y → rk y < rk x)
def par (T : Tr) (x : Nat) : Option Nat := (List.range 121).find? (fun p => decide (x ∈ t_k T p))
def upl (T : Tr) : Nat → Nat → List Nat
  | 0, _ => []
  | f + 1, x => x :: (match par T x with
    | none => []
    | some p => upl T f p)
def bel (T : Tr) (x z : Nat) : Bool := decide (x ∈ upl T 200 z)
def pre (T : Tr) : Nat → Nat → List Nat
  | 0, _ => []
  | f + 1, x => x :: (t_k T x).flatMap (pre T f)
def sib (T : Tr) (z : Nat) : Option Nat := match par T z with
  | none => none
  | some p => (t_k T p)[(t_k T p).idxOf z + 1]?
def clT (T : Tr) (top : Nat) : Nat → Nat → Option Nat
  | 0, _ => none
  | f + 1, z => if z = top then none else match sib T z with
    | some s => some s
    | none => match par T z with
      | none => none
      | some p => clT T top f p
def nxT (T : Tr) (top z : Nat) : Option Nat := match t_k T z with
  | c :: _ => some c
  | [] => clT T top 200 z
def Wk (nx : Nat → Option Nat) : List Nat → Option Nat → Prop
  | [], c => c = none
  | y :: L, c => c = some y ∧ Wk nx L (nx y)
def hdO : List Nat → Option Nat → Option Nat
  | d :: _, _ => some d
  | [], e => e
def ordT (T : Tr) : List Nat := (t_k T 120).flatMap (pre T 120)
theorem par_mem {T : Tr} {x p : Nat} (h : par T x = some p) : x ∈ t_k T p ∧ p ≤ 120 := by
  have h1 := List.find?_some h
  have h2 := List.mem_of_find?_eq_some h
  exact ⟨by simpa using h1, by have := List.mem_range.mp h2; omega⟩
section TR
variable {n : Nat} {kd : Nat → Nat} {T : Tr}
theorem par_of (hW : Wf n kd T) {c p : Nat} (h : c ∈ t_k T p) : par T c = some p := by
  cases e : par T c with
  | none =>
    have h2 : p ≤ 120 := by
      obtain ⟨h1, h2, -⟩ := hW
      have := (h2 p c h).2
      omega
    have := List.find?_eq_none.mp e p (List.mem_range.mpr (by omega))
    exact absurd (decide_eq_true h) this
  | some q => rw [hW.2.2.2.1 p q c h (par_mem e).1]
theorem upl_s (f x : Nat) : upl T (f + 1) x = x :: (match par T x with
    | none => []
    | some p => upl T f p) := rfl
theorem upl_dp {dp : Nat → Nat} (hd : ∀ p c, c ∈ t_k T p → dp c = dp p + 1) : ∀ (f x z : Nat), z ∈ upl T f x → dp z ≤ dp x ∧ (dp z = dp x → z = x) ∧ dp x < dp z + (upl T f x).length := by
  intro f
  induction f with
  | zero => intro x z hz; cases hz
  | succ f ih =>
    intro x z hz
    rw [upl_s] at hz ⊢
    rw [List.length_cons]
    rcases List.mem_cons.mp hz with rfl | hz
    · exact ⟨Nat.le_refl _, fun _ => rfl, by omega⟩
    · cases e : par T x with
      | none => rw [e] at hz; cases hz
      | some p =>
        rw [e] at hz
        have h1 := hd _ _ (par_mem e).1
        obtain ⟨a, b, c⟩ := ih p z hz
        exact ⟨by omega, fun q => by omega, by show _ < _ + ((upl T f p).length + 1); omega⟩
theorem upl_nd {dp : Nat → Nat} (hd : ∀ p c, c ∈ t_k T p → dp c = dp p + 1) : ∀ (f x : Nat), (upl T f x).Nodup := by
  intro f
  induction f with
  | zero => intro x; exact List.nodup_nil
  | succ f ih =>
    intro x
    rw [upl_s]
    cases e : par T x with
    | none => exact List.nodup_cons.mpr ⟨List.not_mem_nil, List.nodup_nil⟩
    | some p =>
      refine List.nodup_cons.mpr ⟨fun q => ?_, ih p⟩
      have h1 := hd _ _ (par_mem e).1
      have h2 := (upl_dp hd f p x q).1
      omega
theorem upl_le : ∀ (f x : Nat), x ≤ 120 → ∀ z, z ∈ upl T f x → z ≤ 120 := by
  intro f
  induction f with
  | zero => intro x _ z hz; cases hz
  | succ f ih =>
    intro x hx z hz
    rw [upl_s] at hz
    rcases List.mem_cons.mp hz with rfl | hz
    · exact hx
    · cases e : par T x with
      | none => rw [e] at hz; cases hz
      | some p => rw [e] at hz; exact ih p (par_mem e).2 z hz
theorem nodup_len {l : List Nat} {m : Nat} (h : l.Nodup) (h2 : ∀ z ∈ l, z < m) : l.length ≤ m := by
  have := List.Nodup.length_le_of_subset h (l₂ := List.range m) (fun z hz => List.mem_range.mpr (h2 z hz))
  rwa [List.length_range] at this
theorem upl_len (hW : Wf n kd T) {f x : Nat} (hx : x ≤ 120) : (upl T f x).length ≤ 121 := by
  obtain ⟨dp, hd⟩ := hW.2.2.2.2.1
  exact nodup_len (upl_nd hd f x) (fun z hz => by have := upl_le f x hx z hz; omega)
theorem upl_sat : ∀ (f x : Nat), (upl T f x).length < f → upl T (f + 1) x = upl T f x := by
  intro f
  induction f with
  | zero => intro x h; omega
  | succ f ih =>
    intro x h
    rw [upl_s (f + 1), upl_s f]
    rw [upl_s f] at h
    cases e : par T x with
    | none => rfl
    | some p =>
      rw [e] at h
      rw [List.length_cons] at h
      have := ih p (by have h : (upl T f p).length + 1 < f + 1 := h; omega)
      show x :: upl T (f + 1) p = x :: upl T f p
      rw [this]
theorem upl_step (hW : Wf n kd T) {x p : Nat} (h : x ∈ t_k T p) : upl T 200 x = x :: upl T 200 p := by
  rw [upl_s 199, par_of hW h]
  show x :: upl T 199 p = _
  rw [upl_sat 199 p (by have := upl_len hW (f := 199) (par_mem (par_of hW h)).2; omega)]
theorem upl_root {x : Nat} (h : par T x = none) : upl T 200 x = [x] := by rw [upl_s 199, h]
theorem upl_self {x : Nat} : x ∈ upl T 200 x := by rw [upl_s 199]; exact List.mem_cons_self
theorem upl_up (hW : Wf n kd T) {c p : Nat} (h : c ∈ t_k T p) : ∀ (f z : Nat), c ∈ upl T f z → p ∈ upl T (f + 1) z := by
  intro f
  induction f with
  | zero => intro z hz; cases hz
  | succ f ih =>
    intro z hz
    rw [upl_s] at hz ⊢
    rcases List.mem_cons.mp hz with rfl | hz
    · rw [par_of hW h]
      exact List.mem_cons_of_mem _ (show p ∈ upl T (f + 1) p by rw [upl_s]; exact List.mem_cons_self)
    · cases e : par T z with
      | none => rw [e] at hz; cases hz
      | some q => rw [e] at hz; exact List.mem_cons_of_mem _ (ih q hz)
theorem upl_upw (hW : Wf n kd T) {c p z : Nat} (hz : z ≤ 120) (h : c ∈ t_k T p) (hc : c ∈ upl T 200 z) : p ∈ upl T 200 z := by
  have := upl_up hW h 200 z hc
  rwa [upl_sat 200 z (by have := upl_len hW (f := 200) hz; omega)] at this
/-- two of one height on one way up are one -/
theorem upl_one {dp : Nat → Nat} (hd : ∀ p c, c ∈ t_k T p → dp c = dp p + 1) : ∀ (f v z w : Nat), z ∈ upl T f v → w ∈ upl T f v → dp z = dp w → z = w := by
  intro f
  induction f with
  | zero => intro v z w hz; cases hz
  | succ f ih =>
    intro v z w hz hw e
    have a := upl_dp hd _ _ _ hz
    have b := upl_dp hd _ _ _ hw
    rw [upl_s] at hz hw
    cases e2 : par T v with
    | none =>
      rw [e2] at hz hw
      rw [List.mem_singleton.mp hz, List.mem_singleton.mp hw]
    | some p =>
      rw [e2] at hz hw
      have h1 := hd _ _ (par_mem e2).1
      rcases List.mem_cons.mp hz with q1 | q1
      · rcases List.mem_cons.mp hw with q2 | q2
        · rw [q1, q2]
        · have := (upl_dp hd f p w q2).1
          rw [q1] at e
          omega
      · rcases List.mem_cons.mp hw with q2 | q2
        · have := (upl_dp hd f p z q1).1
          rw [q2] at e
          omega
        · exact ih p z w q1 q2 e
theorem sib_at (hW : Wf n kd T) {p c : Nat} {a ks : List Nat} (h : t_k T p = a ++ c :: ks) : sib T c = ks.head? := by
  have hm : c ∈ t_k T p := by rw [h]; simp
  have hnd := hW.2.2.1 p
  unfold sib
  rw [par_of hW hm]
  show (t_k T p)[(t_k T p).idxOf c + 1]? = _
  have hi : (t_k T p).idxOf c = a.length := by
    have h2 : a.length < (t_k T p).length := by rw [h, List.length_append, List.length_cons]; omega
    have h3 := List.Nodup.idxOf_getElem hnd a.length h2
    have h4 : (t_k T p)[a.length] = c := by
      have : (t_k T p)[a.length]? = some c := by rw [h, List.getElem?_append_right (Nat.le_refl _), Nat.sub_self]; rfl
      rw [List.getElem?_eq_getElem h2] at this
      exact Option.some.inj this
    rwa [h4] at h3
  rw [hi, h, List.getElem?_append_right (by omega), show a.length + 1 - a.length = 1 by omega]
  cases ks <;> rfl
theorem clT_sat {top : Nat} : ∀ (f z : Nat), (upl T f z).length < f → clT T top (f + 1) z = clT T top f z := by
  intro f
  induction f with
  | zero => intro z h; omega
  | succ f ih =>
    intro z h
    rw [clT, clT]
    by_cases e : z = top
    · rw [if_pos e, if_pos e]
    · rw [if_neg e, if_neg e]
      rw [upl_s f, List.length_cons] at h
      cases sib T z with
      | some s => rfl
      | none =>
        cases e2 : par T z with
        | none => rfl
        | some p =>
          rw [e2] at h
          exact ih p (by have h : (upl T f p).length + 1 < f + 1 := h; omega)
theorem clT_top {top : Nat} : clT T top 200 top = none := by rw [clT, if_pos rfl]
theorem clT_step (hW : Wf n kd T) {top p c : Nat} {a ks : List Nat} (h : t_k T p = a ++ c :: ks) (hn : c ≠ top) : clT T top 200 c = hdO ks (clT T top 200 p) := by
  have hm : c ∈ t_k T p := by rw [h]; simp
  rw [clT, if_neg hn, sib_at hW h, par_of hW hm]
  cases ks with
  | cons d ks => rfl
  | nil =>
    show clT T top 199 p = clT T top 200 p
    rw [clT_sat 199 p (by have := upl_len hW (f := 199) (par_mem (par_of hW hm)).2; omega)]
theorem wk_pre (hW : Wf n kd T) {dp : Nat → Nat} (hd : ∀ p c, c ∈ t_k T p → dp c = dp p + 1) {top : Nat} : ∀ (f z : Nat) (M : List Nat), z ≤ 120 → dp top ≤ dp z → (∀ w, w ≤ 120 → z ∈ upl T 200 w → dp w < dp z + f) → Wk (nxT T top) M (clT T top 200 z) → Wk (nxT T top) (pre T f z ++ M) (some z) := by
  intro f
  induction f with
  | zero =>
    intro z M hz _ hf _
    have := hf z hz upl_self
    omega
  | succ f ih =>
    intro z M hz ht hf hM
    refine ⟨rfl, ?_⟩
    show Wk (nxT T top) ((t_k T z).flatMap (pre T f) ++ M) (nxT T top z)
    have inner : ∀ (ks a : List Nat), t_k T z = a ++ ks → Wk (nxT T top) (ks.flatMap (pre T f) ++ M) (hdO ks (clT T top 200 z)) := by
      intro ks
      induction ks with
      | nil => intro a _; exact hM
      | cons c ks ih2 =>
        intro a ha
        have hm : c ∈ t_k T z := by rw [ha]; simp
        have h1 := hd _ _ hm
        have h2 := hW.2.1 z c hm
        rw [List.flatMap_cons, List.append_assoc]
        refine ih c _ (by have := hW.1; omega) (by omega) (fun w hw hc => ?_) ?_
        · have := hf w hw (upl_upw hW hw hm hc)
          omega
        · rw [clT_step hW ha (fun e => by rw [e] at h1; omega)]
          exact ih2 (a ++ [c]) (by rw [ha]; simp)
    have := inner (t_k T z) [] rfl
    unfold nxT
    cases e : t_k T z with
    | nil => rw [e] at this; exact this
    | cons c ks => rw [e] at this; exact this
theorem pre_up (hW : Wf n kd T) : ∀ (f x z : Nat), z ∈ pre T f x → x ≤ 120 → z ≤ 120 ∧ x ∈ upl T 200 z := by
  intro f
  induction f with
  | zero => intro x z hz; cases hz
  | succ f ih =>
    intro x z hz hx
    rw [pre] at hz
    rcases List.mem_cons.mp hz with rfl | hz
    · exact ⟨hx, upl_self⟩
    · obtain ⟨c, hc, hz⟩ := List.mem_flatMap.mp hz
      have h2 := hW.2.1 x c hc
      obtain ⟨h3, h4⟩ := ih c z hz (by have := hW.1; omega)
      exact ⟨h3, upl_upw hW h3 hc h4⟩
theorem pre_more : ∀ (f x z : Nat), z ∈ pre T f x → z ∈ pre T (f + 1) x := by
  intro f
  induction f with
  | zero => intro x z hz; cases hz
  | succ f ih =>
    intro x z hz
    rw [pre] at hz ⊢
    rcases List.mem_cons.mp hz with rfl | hz
    · exact List.mem_cons_self
    · obtain ⟨c, hc, hz⟩ := List.mem_flatMap.mp hz
      exact List.mem_cons_of_mem _ (List.mem_flatMap.mpr ⟨c, hc, ih c z hz⟩)
theorem pre_le {f g x z : Nat} (h : f ≤ g) (hz : z ∈ pre T f x) : z ∈ pre T g x := by
  induction g with
  | zero =>
    have : f = 0 := by omega
    rwa [this] at hz
  | succ g ih =>
    by_cases e : f = g + 1
    · rwa [e] at hz
    · exact pre_more _ _ _ (ih (by omega))
theorem pre_kid : ∀ (f x z c : Nat), z ∈ pre T f x → c ∈ t_k T z → c ∈ pre T (f + 1) x := by
  intro f
  induction f with
  | zero => intro x z c hz; cases hz
  | succ f ih =>
    intro x z c hz hc
    rw [pre] at hz
    rw [pre]
    rcases List.mem_cons.mp hz with rfl | hz
    · refine List.mem_cons_of_mem _ (List.mem_flatMap.mpr ⟨c, hc, ?_⟩)
      rw [pre]
      exact List.mem_cons_self
    · obtain ⟨d, hd, hz⟩ := List.mem_flatMap.mp hz
      exact List.mem_cons_of_mem _ (List.mem_flatMap.mpr ⟨d, hd, ih d z c hz hc⟩)
theorem up_pre {dp : Nat → Nat} (hd : ∀ p c, c ∈ t_k T p → dp c = dp p + 1) : ∀ (f x z : Nat), x ∈ upl T f z → z ∈ pre T (dp z - dp x + 1) x := by
  intro f
  induction f with
  | zero => intro x z hz; cases hz
  | succ f ih =>
    intro x z hz
    rw [upl_s] at hz
    rcases List.mem_cons.mp hz with rfl | hz
    · rw [Nat.sub_self, pre]
      exact List.mem_cons_self
    · cases e : par T z with
      | none => rw [e] at hz; cases hz
      | some p =>
        rw [e] at hz
        have h1 := hd _ _ (par_mem e).1
        have h2 := (upl_dp hd f p x hz).1
        have h3 := pre_kid _ _ _ _ (ih x p hz) (par_mem e).1
        rwa [show dp z - dp x = dp p - dp x + 1 by omega]
theorem pre_iff (hW : Wf n kd T) {x z : Nat} (hx : x ≤ 120) (hz : z ≤ 120) : z ∈ pre T 121 x ↔ x ∈ upl T 200 z := by
  refine ⟨fun h => (pre_up hW _ _ _ h hx).2, fun h => ?_⟩
  obtain ⟨dp, hd⟩ := hW.2.2.2.2.1
  have h1 := upl_dp hd _ _ _ h
  have h2 := upl_len hW (f := 200) hz
  exact pre_le (by omega) (up_pre hd _ _ _ h)
theorem pre_nd (hW : Wf n kd T) : ∀ (f x : Nat), x ≤ 120 → (pre T f x).Nodup := by
  obtain ⟨dp, hd⟩ := hW.2.2.2.2.1
  intro f
  induction f with
  | zero => intro x _; exact List.nodup_nil
  | succ f ih =>
    intro x hx
    rw [pre]
    have kl : ∀ c, c ∈ t_k T x → c ≤ 120 := fun c hc => by have := hW.2.1 x c hc; have := hW.1; omega
    refine List.nodup_cons.mpr ⟨fun h => ?_, ?_⟩
    · obtain ⟨c, hc, h⟩ := List.mem_flatMap.mp h
      have h1 := hd _ _ hc
      have h2 := upl_dp hd _ _ _ (pre_up hW _ _ _ h (kl c hc)).2
      omega
    · have key : ∀ ks : List Nat, ks.Nodup → (∀ c ∈ ks, c ∈ t_k T x) → (ks.flatMap (pre T f)).Nodup := by
        intro ks
        induction ks with
        | nil => intro _ _; exact List.nodup_nil
        | cons c ks ih2 =>
          intro hn hk
          rw [List.flatMap_cons]
          obtain ⟨n1, n2⟩ := List.nodup_cons.mp hn
          refine List.nodup_append.mpr ⟨ih c (kl c (hk c List.mem_cons_self)), ih2 n2 (fun d hd => hk d (List.mem_cons_of_mem _ hd)), fun a ha b hb e => ?_⟩
          subst e
          obtain ⟨d, hd2, hb⟩ := List.mem_flatMap.mp hb
          have hc1 := hk c List.mem_cons_self
          have hd1 := hk d (List.mem_cons_of_mem _ hd2)
          have u1 := (pre_up hW _ _ _ ha (kl c hc1)).2
          have u2 := (pre_up hW _ _ _ hb (kl d hd1)).2
          have := upl_one hd _ _ _ _ u1 u2 (by rw [hd _ _ hc1, hd _ _ hd1])
          exact n1 (this ▸ hd2)
      exact key _ (hW.2.2.1 x) (fun c hc => hc)
end TR
end
section
/-! ===== the ORDER of a tree; the reference's rows as a tree ===== -/
section TR
variable {n : Nat} {kd : Nat → Nat} {T : Tr}
theorem Wf.h_lt (hW : Wf n kd T) {x : Nat} (h : t_h T x = true) : x < n := (hW.2.2.2.2.2.1 x h).1
theorem Wf.h_par (hW : Wf n kd T) {x : Nat} (h : t_h T x = true) : ∃ p, liv T p ∧ x ∈ t_k T p ∧ par T x = some p := by
  obtain ⟨p, h1, h2⟩ := (hW.2.2.2.2.2.1 x h).2
  exact ⟨p, h1, h2, par_of hW h2⟩
theorem Wf.kid (hW : Wf n kd T) {p c : Nat} (hp : liv T p) (h : c ∈ t_k T p) : t_h T c = true := hW.2.2.2.2.2.2.1 p hp c h
theorem Wf.k_lt (hW : Wf n kd T) {p c : Nat} (h : c ∈ t_k T p) : c < n := (hW.2.1 p c h).1
theorem Wf.liv_le (hW : Wf n kd T) {p : Nat} (h : liv T p) : p ≤ 120 := by
  rcases h with rfl | h
  · exact Nat.le_refl _
  · have := hW.h_lt h; have := hW.1; omega
theorem Wf.h_120 (hW : Wf n kd T) : t_h T 120 = false := by
  cases e : t_h T 120 with
  | false => rfl
  | true => have := hW.h_lt e; have := hW.1; omega
theorem Wf.par_120 (hW : Wf n kd T) : par T 120 = none := by
  cases e : par T 120 with
  | none => rfl
  | some p => have := hW.k_lt (par_mem e).1; have := hW.1; omega
theorem Wf.len (hW : Wf n kd T) (p : Nat) : (t_k T p).length ≤ n := nodup_len (hW.2.2.1 p) (fun z hz => hW.k_lt hz)
theorem liv_up (hW : Wf n kd T) : ∀ {z : Nat}, t_h T z = true → 120 ∈ upl T 200 z := by
  obtain ⟨dp, hd⟩ := hW.2.2.2.2.1
  have key : ∀ (m z : Nat), dp z ≤ m → t_h T z = true → 120 ∈ upl T 200 z := by
    intro m
    induction m with
    | zero =>
      intro z hm hz
      obtain ⟨p, h1, h2, h3⟩ := hW.h_par hz
      have := hd _ _ h2
      omega
    | succ m ih =>
      intro z hm hz
      obtain ⟨p, h1, h2, h3⟩ := hW.h_par hz
      have := hd _ _ h2
      rw [upl_step hW h2]
      rcases h1 with rfl | h1
      · exact List.mem_cons_of_mem _ upl_self
      · exact List.mem_cons_of_mem _ (ih p (by omega) h1)
  intro z hz
  exact key _ z (Nat.le_refl _) hz
theorem up_liv (hW : Wf n kd T) : ∀ (f z : Nat), 120 ∈ upl T f z → liv T z := by
  intro f
  induction f with
  | zero => intro z hz; cases hz
  | succ f ih =>
    intro z hz
    rw [upl_s] at hz
    rcases List.mem_cons.mp hz with rfl | hz
    · exact Or.inl rfl
    · cases e : par T z with
      | none => rw [e] at hz; cases hz
      | some p =>
        rw [e] at hz
        exact Or.inr (hW.kid (ih p hz) (par_mem e).1)
theorem ord_pre : pre T 121 120 = 120 :: ordT T := rfl
theorem ord_nd (hW : Wf n kd T) : (ordT T).Nodup := by
  have := pre_nd hW 121 120 (Nat.le_refl _)
  rw [ord_pre] at this
  exact (List.nodup_cons.mp this).2
theorem ord_mem (hW : Wf n kd T) {z : Nat} : z ∈ ordT T ↔ t_h T z = true := by
  have h0 := pre_nd hW 121 120 (Nat.le_refl _)
  rw [ord_pre] at h0
  constructor
  · intro h
    have h1 : z ∈ pre T 121 120 := by rw [ord_pre]; exact List.mem_cons_of_mem _ h
    rcases up_liv hW _ _ (pre_up hW _ _ _ h1 (Nat.le_refl _)).2 with rfl | h2
    · exact absurd h (List.nodup_cons.mp h0).1
    · exact h2
  · intro h
    have h1 := hW.h_lt h
    have h2 := (pre_iff hW (Nat.le_refl 120) (show z ≤ 120 by have := hW.1; omega)).mpr (liv_up hW h)
    rw [ord_pre] at h2
    rcases List.mem_cons.mp h2 with rfl | h2
    · have := hW.1; omega
    · exact h2
theorem ord_len (hW : Wf n kd T) : (ordT T).length ≤ n := nodup_len (ord_nd hW) (fun z hz => hW.h_lt ((ord_mem hW).mp hz))
theorem wk_all (hW : Wf n kd T) {x : Nat} (hx : x ≤ 120) : Wk (nxT T x) (pre T 121 x) (some x) := by
  obtain ⟨dp, hd⟩ := hW.2.2.2.2.1
  have := wk_pre hW hd (top := x) 121 x [] hx (Nat.le_refl _) (fun w hw h => by
    have h1 := upl_dp hd _ _ _ h
    have h2 := upl_len hW (f := 200) hw
    omega) (by rw [clT_top]; exact rfl)
  rwa [List.append_nil] at this
theorem ord_wk (hW : Wf n kd T) : Wk (nxT T 120) (ordT T) (nxT T 120 120) := by
  have := wk_all hW (Nat.le_refl 120)
  rw [ord_pre] at this
  exact this.2
/-! ===== the reference's rows ===== -/
def cd (p : Nat) : Int32 := if p = 120 then -1 else nI p
theorem cd_120 : cd 120 = -1 := rfl
theorem cd_n {p : Nat} (h : p ≠ 120) : cd p = nI p := by rw [cd, if_neg h]
theorem cd_inj {p q : Nat} (hp : p ≤ 120) (hq : q ≤ 120) (h : cd p = cd q) : p = q := by
  unfold cd at h
  by_cases a : p = 120
  · by_cases b : q = 120
    · rw [a, b]
    · rw [if_pos a, if_neg b] at h
      exact absurd h.symm (nI_m1 q (by omega))
  · by_cases b : q = 120
    · rw [if_neg a, if_pos b] at h
      exact absurd h (nI_m1 p (by omega))
    · rw [if_neg a, if_neg b] at h
      exact (nI_eq (by omega) (by omega)).mp h
theorem cd_9 {p : Nat} (hp : p ≤ 120) : cd p ≠ -9 := by
  unfold cd
  by_cases a : p = 120
  · rw [if_pos a]; decide
  · rw [if_neg a]
    intro q
    exact nI_pos (show p < 2 ^ 31 by omega) (by rw [q]; decide)
def onT (n : Nat) (T : Tr) (x : Nat) : Int32 := if x < n then (if t_h T x = true then (match par T x with
    | some p => cd p
    | none => -1) else -9) else 0
theorem onT_off {x : Nat} (h : x < n) (h2 : t_h T x = false) : onT n T x = -9 := by
  rw [onT, if_pos h, h2]; rfl
theorem onT_on (hW : Wf n kd T) {x p : Nat} (hp : liv T p) (h : x ∈ t_k T p) : onT n T x = cd p := by
  rw [onT, if_pos (hW.k_lt h), if_pos (hW.kid hp h), par_of hW h]
theorem onT_iff (hW : Wf n kd T) {x p : Nat} (hx : x < n) (hp : liv T p) : onT n T x = cd p ↔ x ∈ t_k T p := by
  refine ⟨fun h => ?_, fun h => onT_on hW hp h⟩
  cases e : t_h T x with
  | false =>
    rw [onT_off hx e] at h
    exact absurd h.symm (cd_9 (hW.liv_le hp))
  | true =>
    obtain ⟨q, h1, h2, h3⟩ := hW.h_par e
    rw [onT_on hW h1 h2] at h
    rw [← cd_inj (hW.liv_le h1) (hW.liv_le hp) h]
    exact h2
theorem onT_9 (hW : Wf n kd T) {x : Nat} (hx : x < n) : onT n T x = -9 ↔ t_h T x = false := by
  refine ⟨fun h => ?_, fun h => onT_off hx h⟩
  cases e : t_h T x with
  | false => rfl
  | true =>
    obtain ⟨q, h1, h2, h3⟩ := hW.h_par e
    rw [onT_on hW h1 h2] at h
    exact absurd h (cd_9 (hW.liv_le h1))
def RT (σ : Hp) (o n : Nat) (kd : Nat → Nat) (T : Tr) : Prop :=
  h_I σ 711 o = nI n ∧ h_X σ (o + 1 + 6) = (fun x => nI (kd x)) ∧ (∀ x, x < n → kd x < 6) ∧ (∀ x, n ≤ x → kd x = 0) ∧ h_X σ (o + 1 + 7) = onT n T ∧
  (∀ p, liv T p → ∀ i z, (t_k T p)[i]? = some z → h_X σ (o + 1 + 8) z = nI i) ∧ ∀ x, x < n → h_X σ (o + 1 + 9) x = oI (t_i T x)
theorem cntB_len {p : Nat → Bool} {n : Nat} {l : List Nat} (hn : l.Nodup) (h : ∀ x, x ∈ l ↔ x < n ∧ p x = true) : cntB p n = l.length := by
  have h1 : ∀ m, cntB p m = ((List.range m).filter p).length := by
    intro m
    induction m with
    | zero => rfl
    | succ m ih =>
      rw [cntB, ih, List.range_succ, List.filter_append, List.length_append]
      cases e : p m <;> simp [e]
  rw [h1]
  apply List.Perm.length_eq
  refine (List.perm_ext_iff_of_nodup (List.Nodup.sublist List.filter_sublist List.nodup_range) hn).mpr (fun a => ?_)
  rw [List.mem_filter, List.mem_range, h]
theorem hang_T (hW : Wf n kd T) {p : Nat} (hp : liv T p) : cntB (fun x => decide (onT n T x = cd p)) n = (t_k T p).length :=
  cntB_len (hW.2.2.1 p) (fun x => ⟨fun h => ⟨hW.k_lt h, decide_eq_true ((onT_iff hW (hW.k_lt h) hp).mpr h)⟩, fun h => (onT_iff hW h.1 hp).mp (of_decide_eq_true h.2)⟩)
theorem isTh_T (hW : Wf n kd T) {x : Nat} (hx : x < 2 ^ 31) : isTh n (onT n T) (nI x) = (decide (x < n) && t_h T x) := by
  have hn := hW.1
  unfold isTh
  rw [nI_clamp hx, decide_eq_true (nI_pos' hx), Bool.true_and]
  by_cases a : x < n
  · rw [decide_eq_true (nI_lt a (by omega)), decide_eq_true a, Bool.true_and, Bool.true_and]
    cases e : t_h T x with
    | false => rw [onT_off a e]; rfl
    | true => exact decide_eq_true (fun q => by rw [(onT_9 hW a).mp q] at e; cases e)
  · rw [decide_eq_false (nI_nlt (by omega) hx), decide_eq_false a]
    rfl
theorem isTh_neg {v : Int32} {on : Nat → Int32} (h : v < 0) : isTh n on v = false := by
  unfold isTh
  rw [decide_eq_false (fun q => absurd h (Int32.not_lt.mpr q))]
  rfl
theorem chAt_T (hW : Wf n kd T) {pl : Nat → Int32} (hp : ∀ p, liv T p → ∀ i z, (t_k T p)[i]? = some z → pl z = nI i) {p i : Nat} (hl : liv T p) (hi : i < 2 ^ 31) : chAt n (onT n T) pl (cd p) (nI i) = (t_k T p)[i]? := by
  have hn := hW.1
  have only : ∀ w, w < n → (decide (onT n T w = cd p) && decide (pl w = nI i)) = true → (t_k T p)[i]? = some w := by
    intro w hw h
    simp only [Bool.and_eq_true, decide_eq_true_eq] at h
    have h1 := (onT_iff hW hw hl).mp h.1
    obtain ⟨j, hj, e⟩ := List.getElem_of_mem h1
    have h2 : (t_k T p)[j]? = some w := by rw [List.getElem?_eq_getElem hj, e]
    have h3 := hp p hl j w h2
    rw [h.2] at h3
    have := hW.len p
    rw [(nI_eq hi (by omega)).mp h3]
    exact h2
  unfold chAt
  cases e : (List.range n).find? (fun x => decide (onT n T x = cd p) && decide (pl x = nI i)) with
  | some w => exact (only w (List.mem_range.mp (List.mem_of_find?_eq_some e)) (by have := List.find?_some e; exact this)).symm
  | none =>
    cases e2 : (t_k T p)[i]? with
    | none => rfl
    | some z =>
      have hz := List.mem_of_getElem? e2
      have := List.find?_eq_none.mp e z (List.mem_range.mpr (hW.k_lt hz))
      rw [onT_on hW hl hz, hp p hl i z e2, decide_eq_true rfl, decide_eq_true rfl] at this
      exact absurd rfl this
theorem clb_T (hW : Wf n kd T) {pl : Nat → Int32} (hp : ∀ p, liv T p → ∀ i z, (t_k T p)[i]? = some z → pl z = nI i) : ∀ (f x : Nat), (upl T f x).length < f → t_h T x = true → clb n (onT n T) pl f x = clT T 120 f x := by
  intro f
  induction f with
  | zero => intro x h; omega
  | succ f ih =>
    intro x h hx
    have hn := hW.1
    have hxn := hW.h_lt hx
    obtain ⟨p, h1, h2, h3⟩ := hW.h_par hx
    obtain ⟨j, hj, e⟩ := List.getElem_of_mem h2
    have h4 : (t_k T p)[j]? = some x := by rw [List.getElem?_eq_getElem hj, e]
    have hlen := hW.len p
    have hsib : sib T x = (t_k T p)[j + 1]? := by
      unfold sib
      rw [h3]
      show (t_k T p)[(t_k T p).idxOf x + 1]? = _
      rw [← e, List.Nodup.idxOf_getElem (hW.2.2.1 p) j hj]
    rw [clb, clT, if_neg (show x ≠ 120 by omega), onT_on hW h1 h2, hp p h1 j x h4, nI_add, chAt_T hW hp h1 (by omega), hsib, h3]
    cases e5 : (t_k T p)[j + 1]? with
    | some z => rfl
    | none =>
      rw [upl_s, h3, List.length_cons] at h
      have h : (upl T f p).length + 1 < f + 1 := h
      rcases h1 with rfl | h1
      · show (if cd 120 = -1 then none else _) = clT T 120 f 120
        rw [if_pos cd_120]
        cases f with
        | zero => rfl
        | succ f => rw [clT, if_pos rfl]
      · have hpn := hW.h_lt h1
        show (if cd p = -1 then none else _) = clT T 120 f p
        rw [cd_n (by omega), if_neg (nI_m1 p (by omega)), nI_clamp (by omega)]
        exact ih p (by omega) h1
theorem nxt_T (hW : Wf n kd T) {pl : Nat → Int32} (hp : ∀ p, liv T p → ∀ i z, (t_k T p)[i]? = some z → pl z = nI i) {x : Nat} (hx : t_h T x = true) : nxt n (onT n T) pl x = nxT T 120 x := by
  have hn := hW.1
  have hxn := hW.h_lt hx
  unfold nxt nxT
  rw [← cd_n (show x ≠ 120 by omega), chAt_T hW hp (Or.inr hx) (by omega)]
  cases e : t_k T x with
  | cons c ks => rfl
  | nil => exact clb_T hW hp 200 x (by have := upl_len hW (f := 200) (show x ≤ 120 by omega); omega) hx
theorem isW_T (hW : Wf n kd T) {pl : Nat → Int32} (hp : ∀ p, liv T p → ∀ i z, (t_k T p)[i]? = some z → pl z = nI i) : isW n (onT n T) pl (ordT T) (chAt n (onT n T) pl (-1) (nI 0)) := by
  have key : ∀ (L : List Nat) (c : Option Nat), (∀ z ∈ L, t_h T z = true) → Wk (nxT T 120) L c → isW n (onT n T) pl L c := by
    intro L
    induction L with
    | nil => intro c _ h; exact h
    | cons y L ih =>
      intro c hL h
      refine ⟨h.1, ?_⟩
      rw [nxt_T hW hp (hL y List.mem_cons_self)]
      exact ih _ (fun z hz => hL z (List.mem_cons_of_mem _ hz)) h.2
  refine key _ _ (fun z hz => (ord_mem hW).mp hz) ?_
  have h1 := chAt_T hW hp (Or.inl rfl : liv T 120) (show 0 < 2 ^ 31 by decide)
  rw [cd_120] at h1
  rw [h1]
  have h2 := ord_wk hW
  unfold nxT at h2
  cases e : t_k T 120 with
  | cons c ks => rw [e] at h2; exact h2
  | nil => rw [e, clT_top] at h2; exact h2
end TR
end
section
/-! ===== ways up and into, of the tree and of the reference's rows ===== -/
def abT (T : Tr) (kd : Nat → Nat) (k x : Nat) : Option Nat := (upl T 200 x).tail.find? (fun p => decide (p ≠ 120) && decide (kd p = k))
def ldT (T : Tr) : Nat → Nat → Nat
  | 0, x => x
  | f + 1, x => match t_i T x with
    | none => x
    | some y => ldT T f y
def inl (T : Tr) : Nat → Nat → List Nat
  | 0, _ => []
  | f + 1, x => match t_i T x with
    | none => []
    | some y => y :: inl T f y
def ld (T : Tr) (x : Nat) : Nat := ldT T 200 x
def ldo (T : Tr) (x : Nat) : Option Nat := if t_h T (ld T x) = true then some (ld T x) else none
section TR
variable {n : Nat} {kd : Nat → Nat} {T : Tr}
theorem upS_T (hW : Wf n kd T) {top : Int32} : ∀ (f z : Nat), (upl T f z).length < f → liv T z → upS (onT n T) top f (cd z) := by
  intro f
  induction f with
  | zero => intro z h; omega
  | succ f ih =>
    intro z h hz
    rcases hz with rfl | hz
    · exact Or.inl (by decide)
    · obtain ⟨p, h1, h2, h3⟩ := hW.h_par hz
      have hn := hW.1
      have hzn := hW.h_lt hz
      rw [upl_s, h3, List.length_cons] at h
      have h : (upl T f p).length + 1 < f + 1 := h
      refine Or.inr (Or.inr ⟨z, by omega, cd_n (by omega), ?_⟩)
      rw [onT_on hW h1 h2]
      exact ih p (by omega) h1
theorem upE_T (hW : Wf n kd T) {x : Nat} (hx : x ≤ 120) : ∀ (f z : Nat), (upl T f z).length < f → liv T z → (upE (onT n T) (cd x) f (cd z) = cd x ↔ x ∈ upl T f z) := by
  intro f
  induction f with
  | zero => intro z h; omega
  | succ f ih =>
    intro z h hz
    have hn := hW.1
    rw [upE]
    rcases hz with rfl | hz
    · rw [if_pos (Or.inl (by decide)), upl_s, hW.par_120, List.mem_singleton]
      exact ⟨fun e => (cd_inj (by omega) hx e).symm, fun e => by rw [e]⟩
    · obtain ⟨p, h1, h2, h3⟩ := hW.h_par hz
      have hzn := hW.h_lt hz
      rw [upl_s, h3, List.length_cons] at h
      have h : (upl T f p).length + 1 < f + 1 := h
      rw [upl_s, h3]
      by_cases e : z = x
      · rw [e, if_pos (Or.inr rfl)]
        exact ⟨fun _ => List.mem_cons_self, fun _ => rfl⟩
      · have e2 : ¬ (cd z < 0 ∨ cd z = cd x) := by
          intro q
          rcases q with q | q
          · rw [cd_n (by omega)] at q
            exact nI_pos (by omega) q
          · exact e (cd_inj (by omega) hx q)
        rw [if_neg e2, cd_n (show z ≠ 120 by omega), nI_clamp (by omega), onT_on hW h1 h2, ih p (by omega) h1, List.mem_cons]
        exact ⟨fun q => Or.inr q, fun q => q.elim (fun w => absurd w.symm e) id⟩
theorem fuel (hW : Wf n kd T) {z : Nat} (hz : z ≤ 120) : (upl T 200 z).length < 200 := by
  have := upl_len hW (f := 200) hz
  omega
theorem below_T (hW : Wf n kd T) {x z : Nat} (hx : x ≤ 120) (hz : liv T z) : decide (upE (onT n T) (cd x) 200 (cd z) = cd x) = bel T x z := by
  unfold bel
  have := upE_T hW hx 200 z (fuel hW (hW.liv_le hz)) hz
  by_cases e : x ∈ upl T 200 z
  · rw [decide_eq_true e, decide_eq_true (this.mpr e)]
  · rw [decide_eq_false e, decide_eq_false (fun q => e (this.mp q))]
theorem abS_T (hW : Wf n kd T) {kI : Nat → Int32} {c : Int32} : ∀ (f z : Nat), (upl T f z).length < f → liv T z → abS (onT n T) kI c f (cd z) := by
  intro f
  induction f with
  | zero => intro z h; omega
  | succ f ih =>
    intro z h hz
    rcases hz with rfl | hz
    · exact Or.inl (by decide)
    · obtain ⟨p, h1, h2, h3⟩ := hW.h_par hz
      have hn := hW.1
      have hzn := hW.h_lt hz
      rw [upl_s, h3, List.length_cons] at h
      have h : (upl T f p).length + 1 < f + 1 := h
      refine Or.inr ⟨z, by omega, cd_n (by omega), Or.inr ?_⟩
      rw [onT_on hW h1 h2]
      exact ih p (by omega) h1
theorem abE_T (hW : Wf n kd T) {k : Nat} (hk : k < 2 ^ 31) (hkd : ∀ x, x < n → kd x < 2 ^ 31) : ∀ (f z : Nat), (upl T f z).length < f → liv T z → abE (onT n T) (fun x => nI (kd x)) (nI k) f (cd z) = oI ((upl T f z).find? (fun p => decide (p ≠ 120) && decide (kd p = k))) := by
  intro f
  induction f with
  | zero => intro z h; omega
  | succ f ih =>
    intro z h hz
    have hn := hW.1
    rw [abE]
    rcases hz with rfl | hz
    · rw [if_pos (Or.inl (by decide)), upl_s, hW.par_120]
      rfl
    · obtain ⟨p, h1, h2, h3⟩ := hW.h_par hz
      have hzn := hW.h_lt hz
      rw [upl_s, h3, List.length_cons] at h
      have h : (upl T f p).length + 1 < f + 1 := h
      rw [upl_s, h3, List.find?_cons, cd_n (show z ≠ 120 by omega), nI_clamp (by omega), decide_eq_true (show z ≠ 120 by omega), Bool.true_and]
      have e0 : (nI (kd z) = nI k) ↔ kd z = k := nI_eq (hkd z hzn) hk
      by_cases e : kd z = k
      · rw [decide_eq_true e, if_pos (Or.inr (e0.mpr e))]
        rfl
      · rw [decide_eq_false e, if_neg (fun q => q.elim (nI_pos (by omega)) (fun w => e (e0.mp w))), onT_on hW h1 h2]
        exact ih p (by omega) h1
theorem abv_T (hW : Wf n kd T) {k x : Nat} (hk : k < 2 ^ 31) (hkd : ∀ x, x < n → kd x < 2 ^ 31) (hx : t_h T x = true) : abE (onT n T) (fun x => nI (kd x)) (nI k) 200 (onT n T x) = oI (abT T kd k x) := by
  obtain ⟨p, h1, h2, h3⟩ := hW.h_par hx
  rw [onT_on hW h1 h2, abE_T hW hk hkd 200 p (fuel hW (hW.liv_le h1)) h1]
  unfold abT
  rw [upl_step hW h2]
  rfl
theorem abT_le (hW : Wf n kd T) {k x q : Nat} (hx : t_h T x = true) (h : abT T kd k x = some q) : q ∈ (upl T 200 x).tail ∧ t_h T q = true ∧ q ≠ x ∧ kd q = k := by
  have h1 := List.mem_of_find?_eq_some h
  have h2 := List.find?_some h
  simp only [Bool.and_eq_true, decide_eq_true_eq] at h2
  obtain ⟨p, l1, l2, l3⟩ := hW.h_par hx
  have h3 := upl_step hW l2
  rw [h3] at h1
  obtain ⟨dp, hd⟩ := hW.2.2.2.2.1
  have h4 : q ∈ upl T 200 p := h1
  have d1 := (upl_dp hd _ _ _ h4).1
  have d2 := hd _ _ l2
  refine ⟨by rw [h3]; exact h1, ?_, fun e => by rw [e] at d1; omega, h2.2⟩
  have key : ∀ (f z : Nat), liv T z → ∀ w, w ∈ upl T f z → liv T w := by
    intro f
    induction f with
    | zero => intro z _ w hw; cases hw
    | succ f ih =>
      intro z hz w hw
      rw [upl_s] at hw
      rcases List.mem_cons.mp hw with rfl | hw
      · exact hz
      · rcases hz with rfl | hz
        · rw [hW.par_120] at hw
          cases hw
        · obtain ⟨r, r1, r2, r3⟩ := hW.h_par hz
          rw [r3] at hw
          exact ih r r1 w hw
  rcases key _ _ l1 _ h4 with w | w
  · exact absurd w h2.1
  · exact w
theorem clS_T (hW : Wf n kd T) : ∀ (f z : Nat), (upl T f z).length < f → t_h T z = true → clS (onT n T) f z := by
  intro f
  induction f with
  | zero => intro z h; omega
  | succ f ih =>
    intro z h hz
    obtain ⟨p, h1, h2, h3⟩ := hW.h_par hz
    have hn := hW.1
    have hzn := hW.h_lt hz
    rw [upl_s, h3, List.length_cons] at h
    have h : (upl T f p).length + 1 < f + 1 := h
    refine ⟨by omega, ?_⟩
    rw [onT_on hW h1 h2]
    rcases h1 with rfl | h1
    · exact Or.inl rfl
    · have := hW.h_lt h1
      exact Or.inr ⟨p, cd_n (by omega), ih p (by omega) h1⟩
/-! into -/
theorem inl_nd (hW : Wf n kd T) : ∀ (f x : Nat), (inl T f x).Nodup ∧ (∀ y ∈ inl T f x, y < n ∧ kd y = kd x) := by
  obtain ⟨rk, hr⟩ := hW.2.2.2.2.2.2.2.2
  have h8 := hW.2.2.2.2.2.2.2.1
  have key : ∀ (f x : Nat), (inl T f x).Nodup ∧ ∀ y ∈ inl T f x, (y < n ∧ kd y = kd x) ∧ rk y < rk x := by
    intro f
    induction f with
    | zero => intro x; exact ⟨List.nodup_nil, fun y hy => by cases hy⟩
    | succ f ih =>
      intro x
      rw [inl]
      cases e : t_i T x with
      | none => exact ⟨List.nodup_nil, fun y hy => by cases hy⟩
      | some y =>
        have h1 := h8 x y e
        have h2 := hr x y e
        obtain ⟨i1, i2⟩ := ih y
        refine ⟨List.nodup_cons.mpr ⟨fun q => ?_, i1⟩, fun z hz => ?_⟩
        · have := (i2 y q).2
          omega
        · rcases List.mem_cons.mp hz with rfl | hz
          · exact ⟨⟨h1.2.2.1, h1.2.2.2.symm⟩, h2⟩
          · have := i2 z hz
            exact ⟨⟨this.1.1, this.1.2.trans h1.2.2.2.symm⟩, by omega⟩
  intro f x
  exact ⟨(key f x).1, fun y hy => ((key f x).2 y hy).1⟩
theorem inl_len (hW : Wf n kd T) (f x : Nat) : (inl T f x).length ≤ n := nodup_len (inl_nd hW f x).1 (fun y hy => ((inl_nd hW f x).2 y hy).1)
theorem ldT_last : ∀ (f x : Nat), ldT T f x = (inl T f x).getLastD x := by
  intro f
  induction f with
  | zero => intro x; rfl
  | succ f ih =>
    intro x
    rw [ldT, inl]
    cases e : t_i T x with
    | none => rfl
    | some y => rw [List.getLastD_cons]; exact ih y
theorem inl_end : ∀ (f x : Nat), (inl T f x).length < f → t_i T (ldT T f x) = none := by
  intro f
  induction f with
  | zero => intro x h; omega
  | succ f ih =>
    intro x h
    rw [inl] at h
    rw [ldT]
    cases e : t_i T x with
    | none => exact e
    | some y =>
      rw [e] at h
      have h : (inl T f y).length + 1 < f + 1 := h
      exact ih y (by omega)
theorem foS_T (hW : Wf n kd T) {into : Nat → Int32} (hi : ∀ x, x < n → into x = oI (t_i T x)) : ∀ (f x : Nat), x < n → (inl T f x).length < f → foS (onT n T) into f x ∧ foE (onT n T) into f x = ldT T f x := by
  intro f
  induction f with
  | zero => intro x _ h; omega
  | succ f ih =>
    intro x hx h
    have hn := hW.1
    rw [inl] at h
    rw [foS, foE, ldT, hi x hx]
    cases e : t_i T x with
    | none => exact ⟨⟨by omega, Or.inr (Or.inl rfl)⟩, by rw [if_pos (Or.inr (show oI none = -1 from rfl))]⟩
    | some y =>
      rw [e] at h
      have h : (inl T f y).length + 1 < f + 1 := h
      have h8 := hW.2.2.2.2.2.2.2.1 x y e
      obtain ⟨i1, i2⟩ := ih y h8.2.2.1 (by omega)
      refine ⟨⟨by omega, Or.inr (Or.inr ⟨y, rfl, i1⟩)⟩, ?_⟩
      rw [if_neg (fun q => q.elim (fun w => w (onT_off hx h8.1)) (nI_m1 y (by omega)))]
      show foE (onT n T) into f (nI y).toNatClampNeg = _
      rw [nI_clamp (by omega), i2]
theorem ld_lt (hW : Wf n kd T) {x : Nat} (hx : x < n) : ld T x < n ∧ kd (ld T x) = kd x := by
  unfold ld
  rw [ldT_last]
  have h := (inl_nd hW 200 x).2
  cases e : inl T 200 x with
  | nil => exact ⟨hx, rfl⟩
  | cons y l =>
    rw [e] at h
    have hm : (y :: l).getLastD x ∈ y :: l := by
      rw [List.getLastD_cons]
      cases l with
      | nil => exact List.mem_cons_self
      | cons z l => rw [List.getLastD_cons, ← List.getLast_eq_getLastD (a := z) (l := l) (List.cons_ne_nil _ _)]; exact List.mem_cons_of_mem _ (List.getLast_mem (List.cons_ne_nil _ _))
    exact h _ hm
theorem lead_T (hW : Wf n kd T) {into : Nat → Int32} (hi : ∀ x, x < n → into x = oI (t_i T x)) {x : Nat} (hx : x < n) : foS (onT n T) into 200 x ∧ foE (onT n T) into 200 x = ld T x ∧ (if isTh n (onT n T) (nI (ld T x)) = true then nI (ld T x) else -1) = oI (ldo T x) := by
  have hl := inl_len hW 200 x
  have hn := hW.1
  obtain ⟨h1, h2⟩ := foS_T hW hi 200 x hx (by omega)
  refine ⟨h1, h2, ?_⟩
  have h3 := (ld_lt hW hx).1
  rw [isTh_T hW (by omega), decide_eq_true h3, Bool.true_and]
  unfold ldo
  by_cases e : t_h T (ld T x) = true
  · rw [if_pos e, if_pos e]; rfl
  · rw [if_neg e, if_neg e]; rfl
end TR
end
section
/-! ===== what is done to the tree, pure ===== -/
def rmv (l : List Nat) (x : Nat) : List Nat := l.filter (fun z => decide (z ≠ x))
def insA (l : List Nat) (i x : Nat) : List Nat := l.take i ++ x :: l.drop i
theorem mem_rmv {l : List Nat} {x z : Nat} : z ∈ rmv l x ↔ z ∈ l ∧ z ≠ x := by
  unfold rmv
  rw [List.mem_filter, decide_eq_true_eq]
theorem rmv_no {l : List Nat} {x : Nat} (h : x ∉ l) : rmv l x = l := by
  unfold rmv
  refine List.filter_eq_self.mpr (fun z hz => decide_eq_true (fun e => h (e ▸ hz)))
theorem rmv_nd {l : List Nat} {x : Nat} (h : l.Nodup) : (rmv l x).Nodup := List.Nodup.sublist List.filter_sublist h
theorem mem_ins {l : List Nat} {i x z : Nat} : z ∈ insA l i x ↔ z = x ∨ z ∈ l := by
  unfold insA
  rw [List.mem_append, List.mem_cons]
  have : z ∈ l ↔ z ∈ l.take i ∨ z ∈ l.drop i := by rw [← List.mem_append, List.take_append_drop]
  rw [this]
  constructor
  · rintro (h | h | h)
    · exact Or.inr (Or.inl h)
    · exact Or.inl h
    · exact Or.inr (Or.inr h)
  · rintro (h | h | h)
    · exact Or.inr (Or.inl h)
    · exact Or.inl h
    · exact Or.inr (Or.inr h)
theorem ins_nd {l : List Nat} {i x : Nat} (h : l.Nodup) (hx : x ∉ l) : (insA l i x).Nodup := by
  unfold insA
  refine (List.perm_middle.nodup_iff).mpr ?_
  rw [List.take_append_drop]
  exact List.nodup_cons.mpr ⟨hx, h⟩
theorem ins_at {l : List Nat} {i x : Nat} (hi : i ≤ l.length) (j : Nat) : (insA l i x)[j]? = if j < i then l[j]? else if j = i then some x else l[j - 1]? := by
  unfold insA
  have ht : (l.take i).length = i := by rw [List.length_take]; omega
  by_cases a : j < i
  · rw [if_pos a, List.getElem?_append_left (by omega), List.getElem?_take, if_pos a]
  · rw [if_neg a, List.getElem?_append_right (by omega), ht]
    by_cases b : j = i
    · rw [if_pos b, b, Nat.sub_self]; rfl
    · rw [if_neg b, show j - i = (j - i - 1) + 1 by omega, List.getElem?_cons_succ, List.getElem?_drop]
      congr 1
      omega
theorem split_at {l : List Nat} {k x : Nat} (h : l[k]? = some x) : l = l.take k ++ x :: l.drop (k + 1) := by
  have hk : k < l.length := by
    by_cases a : k < l.length
    · exact a
    · rw [List.getElem?_eq_none (by omega)] at h; cases h
  rw [List.getElem?_eq_getElem hk] at h
  have : l.drop k = x :: l.drop (k + 1) := by rw [List.drop_eq_getElem_cons hk, Option.some.inj h]
  rw [← this, List.take_append_drop]
theorem rmv_split {l : List Nat} {k x : Nat} (hn : l.Nodup) (h : l[k]? = some x) : rmv l x = l.take k ++ l.drop (k + 1) := by
  have e := split_at h
  rw [e] at hn
  have h2 := List.nodup_append.mp hn
  have h3 : x ∉ l.take k := fun q => h2.2.2 x q x List.mem_cons_self rfl
  have h4 := (List.nodup_cons.mp h2.2.1).1
  conv => lhs; rw [e]
  unfold rmv
  rw [List.filter_append, List.filter_cons, if_neg (by simp)]
  have a := rmv_no h3
  have b := rmv_no h4
  unfold rmv at a b
  rw [a, b]
theorem rmv_at {l : List Nat} {k x : Nat} (hn : l.Nodup) (h : l[k]? = some x) (j : Nat) : (rmv l x)[j]? = if j < k then l[j]? else l[j + 1]? := by
  have hk : k < l.length := by
    by_cases a : k < l.length
    · exact a
    · rw [List.getElem?_eq_none (by omega)] at h; cases h
  have ht : (l.take k).length = k := by rw [List.length_take]; omega
  rw [rmv_split hn h]
  by_cases a : j < k
  · rw [if_pos a, List.getElem?_append_left (by omega), List.getElem?_take, if_pos a]
  · rw [if_neg a, List.getElem?_append_right (by omega), ht, List.getElem?_drop]
    congr 1
    omega
theorem rmv_len {l : List Nat} {k x : Nat} (hn : l.Nodup) (h : l[k]? = some x) : (rmv l x).length + 1 = l.length := by
  have hk : k < l.length := by
    by_cases a : k < l.length
    · exact a
    · rw [List.getElem?_eq_none (by omega)] at h; cases h
  rw [rmv_split hn h, List.length_append, List.length_take, List.length_drop]
  omega
theorem ins_rmv {l : List Nat} {k x : Nat} (hn : l.Nodup) (h : l[k]? = some x) : insA (rmv l x) k x = l := by
  have hk : k < l.length := by
    by_cases a : k < l.length
    · exact a
    · rw [List.getElem?_eq_none (by omega)] at h; cases h
  have ht : (l.take k).length = k := by rw [List.length_take]; omega
  rw [rmv_split hn h]
  unfold insA
  rw [List.take_left' ht, List.drop_left' ht]
  exact (split_at h).symm
theorem rmv_ins {l : List Nat} {i x : Nat} (h : x ∉ l) : rmv (insA l i x) x = l := by
  unfold insA rmv
  rw [List.filter_append, List.filter_cons, if_neg (by simp), ← List.filter_append, List.take_append_drop]
  exact rmv_no h
def apA (x p i : Nat) (T : Tr) : Tr := (u_1 (t_k T) p (insA (t_k T p) i x), u_1 (t_h T) x true, t_i T)
def apM (x p i : Nat) (T : Tr) : Tr := (u_1 (fun q => rmv (t_k T q) x) p (insA (rmv (t_k T p) x) i x), t_h T, t_i T)
def apC (x : Nat) (T : Tr) : Tr := (fun q => rmv (t_k T q) x, fun z => t_h T z && !bel T x z, t_i T)
def apJ (x y : Nat) (T : Tr) : Tr := (fun q => if q = x then t_k T x ++ t_k T y else if q = y then [] else rmv (t_k T q) y, u_1 (t_h T) y false, u_1 (t_i T) y (some x))
def VA (n : Nat) (T : Tr) (x p i : Nat) : Prop := x < n ∧ t_h T x = false ∧ t_k T x = [] ∧ t_i T x = none ∧ (∀ q, x ∉ t_k T q) ∧ liv T p ∧ i ≤ (t_k T p).length
def VM (T : Tr) (x p i : Nat) : Prop := t_h T x = true ∧ liv T p ∧ bel T x p = false ∧ i ≤ (rmv (t_k T p) x).length
def VJ (kd : Nat → Nat) (T : Tr) (x y : Nat) : Prop := t_h T x = true ∧ t_h T y = true ∧ kd x = kd y ∧ ∃ p i, liv T p ∧ (t_k T p)[i]? = some x ∧ (t_k T p)[i + 1]? = some y
section TR
variable {n : Nat} {kd : Nat → Nat} {T : Tr}
theorem Wf.more {m : Nat} {kd' : Nat → Nat} (h : Wf n kd T) (h1 : n ≤ m) (h2 : m ≤ 120) (h3 : ∀ x, x < n → kd' x = kd x) : Wf m kd' T := by
  obtain ⟨w1, w2, w3, w4, w5, w6, w7, w8, w9⟩ := h
  refine ⟨h2, fun p c hc => ?_, w3, w4, w5, fun x hx => ?_, w7, fun x y e => ?_, w9⟩
  · have := w2 p c hc; omega
  · have := w6 x hx
    exact ⟨by omega, this.2⟩
  · have := w8 x y e
    exact ⟨this.1, by omega, by omega, by rw [h3 x this.2.1, h3 y this.2.2.1]; exact this.2.2.2⟩
theorem Wf_T0 (h : n ≤ 120) : Wf n kd T0 := by
  refine ⟨h, fun p c hc => (by cases hc), fun p => List.nodup_nil, fun p q c hc => (by cases hc), ⟨fun _ => 0, fun p c hc => (by cases hc)⟩, fun x hx => (by cases hx), fun p _ c hc => (by cases hc), fun x y e => (by cases e), ⟨fun _ => 0, fun x y e => (by cases e)⟩⟩
theorem bel_kid (hW : Wf n kd T) {x c q : Nat} (h : c ∈ t_k T q) (hc : c ≠ x) : bel T x c = bel T x q := by
  unfold bel
  rw [upl_step hW h]
  by_cases e : x ∈ upl T 200 q
  · rw [decide_eq_true e, decide_eq_true (List.mem_cons_of_mem _ e)]
  · rw [decide_eq_false e, decide_eq_false (fun w => (List.mem_cons.mp w).elim (fun v => hc v.symm) e)]
theorem bel_self {x : Nat} : bel T x x = true := decide_eq_true upl_self
theorem bel_dp {dp : Nat → Nat} (hd : ∀ p c, c ∈ t_k T p → dp c = dp p + 1) {x z : Nat} (h : bel T x z = true) : dp x ≤ dp z := (upl_dp hd _ _ _ (of_decide_eq_true h)).1
theorem bel_120 (hW : Wf n kd T) {x : Nat} (hx : x < n) : bel T x 120 = false := by
  unfold bel
  rw [upl_root hW.par_120]
  refine decide_eq_false (fun q => ?_)
  have := List.mem_singleton.mp q
  have := hW.1
  omega
theorem Wf.liv_n (hW : Wf n kd T) {p : Nat} (h : liv T p) : p = 120 ∨ p < n := h.elim Or.inl (fun q => Or.inr (hW.h_lt q))
theorem Wf_A {x p i : Nat} (hW : Wf n kd T) (hv : VA n T x p i) : Wf n kd (apA x p i T) := by
  obtain ⟨v1, v2, v3, v4, v5, v6, v7⟩ := hv
  have hn := hW.1
  have hpx : p ≠ x := by
    rintro rfl
    rcases v6 with q | q
    · omega
    · rw [v2] at q; cases q
  obtain ⟨w1, w2, w3, w4, ⟨dp, hd⟩, w6, w7, w8, w9⟩ := id hW
  have hk : ∀ q c, c ∈ t_k (apA x p i T) q → (c = x ∧ q = p) ∨ (c ≠ x ∧ c ∈ t_k T q) := by
    intro q c hc
    change c ∈ u_1 (t_k T) p (insA (t_k T p) i x) q at hc
    by_cases e : q = p
    · rw [e, u1_s] at hc
      rcases mem_ins.mp hc with h | h
      · exact Or.inl ⟨h, e⟩
      · exact Or.inr ⟨fun w => v5 p (w ▸ h), e ▸ h⟩
    · rw [u1_n _ _ e] at hc
      exact Or.inr ⟨fun w => v5 q (w ▸ hc), hc⟩
  have hkr : ∀ q c, c ∈ t_k T q → c ∈ t_k (apA x p i T) q := by
    intro q c hc
    show c ∈ u_1 (t_k T) p (insA (t_k T p) i x) q
    by_cases e : q = p
    · rw [e, u1_s]
      exact mem_ins.mpr (Or.inr (e ▸ hc))
    · rw [u1_n _ _ e]
      exact hc
  have hh : ∀ z, z ≠ x → t_h (apA x p i T) z = t_h T z := fun z hz => u1_n _ _ hz
  have hhx : t_h (apA x p i T) x = true := u1_s _ _ _
  have hliv : ∀ q, q ≠ x → (liv (apA x p i T) q ↔ liv T q) := by
    intro q hq
    unfold liv
    rw [hh q hq]
  refine ⟨w1, fun q c hc => ?_, fun q => ?_, fun q r c h1 h2 => ?_, ⟨u_1 dp x (dp p + 1), fun q c hc => ?_⟩, fun z hz => ?_, fun q hq c hc => ?_, fun z y e => ?_, w9⟩
  · rcases hk q c hc with ⟨h1, h2⟩ | ⟨h1, h2⟩
    · exact ⟨by omega, by rw [h2]; exact hW.liv_n v6⟩
    · exact w2 q c h2
  · show (u_1 (t_k T) p (insA (t_k T p) i x) q).Nodup
    by_cases e : q = p
    · rw [e, u1_s]
      exact ins_nd (w3 p) (v5 p)
    · rw [u1_n _ _ e]
      exact w3 q
  · rcases hk q c h1 with ⟨a1, a2⟩ | ⟨a1, a2⟩
    · rcases hk r c h2 with ⟨b1, b2⟩ | ⟨b1, b2⟩
      · rw [a2, b2]
      · exact absurd a1 b1
    · rcases hk r c h2 with ⟨b1, b2⟩ | ⟨b1, b2⟩
      · exact absurd b1 a1
      · exact w4 q r c a2 b2
  · rcases hk q c hc with ⟨a1, a2⟩ | ⟨a1, a2⟩
    · rw [a1, a2, u1_s, u1_n _ _ hpx]
    · have : q ≠ x := fun e => by rw [e, v3] at a2; cases a2
      rw [u1_n _ _ a1, u1_n _ _ this]
      exact hd q c a2
  · by_cases e : z = x
    · exact ⟨by omega, p, (hliv p hpx).mpr v6, by rw [e]; show x ∈ u_1 (t_k T) p (insA (t_k T p) i x) p; rw [u1_s]; exact mem_ins.mpr (Or.inl rfl)⟩
    · rw [hh z e] at hz
      obtain ⟨a, q, b, c⟩ := w6 z hz
      have : q ≠ x := fun e => by rw [e, v3] at c; cases c
      exact ⟨a, q, (hliv q this).mpr b, hkr q z c⟩
  · rcases hk q c hc with ⟨a1, a2⟩ | ⟨a1, a2⟩
    · rw [a1]; exact hhx
    · have : q ≠ x := fun e => by rw [e, v3] at a2; cases a2
      rw [hh c a1]
      exact w7 q ((hliv q this).mp hq) c a2
  · have h1 : t_i T z = some y := e
    have h2 := w8 z y h1
    have : z ≠ x := fun e => by rw [e, v4] at h1; cases h1
    exact ⟨by rw [hh z this]; exact h2.1, h2.2⟩
theorem apM_k (x p i : Nat) (T : Tr) (q c : Nat) : c ∈ t_k (apM x p i T) q ↔ (c = x ∧ q = p) ∨ (c ≠ x ∧ c ∈ t_k T q) := by
  show c ∈ u_1 (fun q => rmv (t_k T q) x) p (insA (rmv (t_k T p) x) i x) q ↔ _
  by_cases e : q = p
  · rw [e, u1_s, mem_ins, mem_rmv]
    constructor
    · rintro (h | ⟨h, h'⟩)
      · exact Or.inl ⟨h, rfl⟩
      · exact Or.inr ⟨h', h⟩
    · rintro (⟨h, -⟩ | ⟨h, h'⟩)
      · exact Or.inl h
      · exact Or.inr ⟨h', h⟩
  · rw [u1_n _ _ e, mem_rmv]
    constructor
    · rintro ⟨h, h'⟩
      exact Or.inr ⟨h', h⟩
    · rintro (⟨-, h⟩ | ⟨h, h'⟩)
      · exact absurd h e
      · exact ⟨h', h⟩
theorem Wf_M {x p i : Nat} (hW : Wf n kd T) (hv : VM T x p i) : Wf n kd (apM x p i T) := by
  obtain ⟨v1, v2, v3, v4⟩ := hv
  have hn := hW.1
  have hxn := hW.h_lt v1
  obtain ⟨w1, w2, w3, w4, ⟨dp, hd⟩, w6, w7, w8, w9⟩ := id hW
  refine ⟨w1, fun q c hc => ?_, fun q => ?_, fun q r c h1 h2 => ?_, ⟨fun z => if bel T x z = true then dp z + (dp p + 1) - dp x else dp z, fun q c hc => ?_⟩, fun z hz => ?_, fun q hq c hc => ?_, w8, w9⟩
  · rcases (apM_k x p i T q c).mp hc with ⟨a1, a2⟩ | ⟨a1, a2⟩
    · exact ⟨by omega, by rw [a2]; exact hW.liv_n v2⟩
    · exact w2 q c a2
  · show (u_1 (fun q => rmv (t_k T q) x) p (insA (rmv (t_k T p) x) i x) q).Nodup
    by_cases e : q = p
    · rw [e, u1_s]
      exact ins_nd (rmv_nd (w3 p)) (fun h => (mem_rmv.mp h).2 rfl)
    · rw [u1_n _ _ e]
      exact rmv_nd (w3 q)
  · rcases (apM_k x p i T q c).mp h1 with ⟨a1, a2⟩ | ⟨a1, a2⟩
    · rcases (apM_k x p i T r c).mp h2 with ⟨b1, b2⟩ | ⟨b1, b2⟩
      · rw [a2, b2]
      · exact absurd a1 b1
    · rcases (apM_k x p i T r c).mp h2 with ⟨b1, b2⟩ | ⟨b1, b2⟩
      · exact absurd b1 a1
      · exact w4 q r c a2 b2
  · show (if bel T x c = true then dp c + (dp p + 1) - dp x else dp c) = (if bel T x q = true then dp q + (dp p + 1) - dp x else dp q) + 1
    rcases (apM_k x p i T q c).mp hc with ⟨a1, a2⟩ | ⟨a1, a2⟩
    · rw [a1, a2, v3, if_pos bel_self, if_neg (by decide)]
      omega
    · rw [bel_kid hW a2 a1]
      have h1 := hd q c a2
      cases e : bel T x q with
      | false => rw [if_neg (by decide), if_neg (by decide)]; exact h1
      | true =>
        have := bel_dp hd e
        rw [if_pos rfl, if_pos rfl]
        omega
  · by_cases e : z = x
    · exact ⟨by omega, p, v2, (apM_k x p i T p z).mpr (Or.inl ⟨e, rfl⟩)⟩
    · obtain ⟨a, q, b, c⟩ := w6 z hz
      exact ⟨a, q, b, (apM_k x p i T q z).mpr (Or.inr ⟨e, c⟩)⟩
  · rcases (apM_k x p i T q c).mp hc with ⟨a1, a2⟩ | ⟨a1, a2⟩
    · rw [a1]; exact v1
    · exact w7 q hq c a2
theorem Wf_C {x : Nat} (hW : Wf n kd T) (hv : t_h T x = true) : Wf n kd (apC x T) := by
  have hn := hW.1
  have hxn := hW.h_lt hv
  obtain ⟨w1, w2, w3, w4, ⟨dp, hd⟩, w6, w7, w8, w9⟩ := id hW
  have hh : ∀ z, t_h (apC x T) z = true ↔ t_h T z = true ∧ bel T x z = false := by
    intro z
    show (t_h T z && !bel T x z) = true ↔ _
    simp
  have hk : ∀ q c, c ∈ t_k (apC x T) q ↔ c ∈ t_k T q ∧ c ≠ x := fun q c => mem_rmv
  refine ⟨w1, fun q c hc => w2 q c ((hk q c).mp hc).1, fun q => rmv_nd (w3 q), fun q r c h1 h2 => w4 q r c ((hk q c).mp h1).1 ((hk r c).mp h2).1, ⟨dp, fun q c hc => hd q c ((hk q c).mp hc).1⟩, fun z hz => ?_, fun q hq c hc => ?_, fun z y e => ?_, w9⟩
  · obtain ⟨z1, z2⟩ := (hh z).mp hz
    have hzx : z ≠ x := fun e => by rw [e, bel_self] at z2; cases z2
    obtain ⟨a, q, b, c⟩ := w6 z z1
    refine ⟨a, q, ?_, (hk q z).mpr ⟨c, hzx⟩⟩
    rcases b with b | b
    · exact Or.inl b
    · exact Or.inr ((hh q).mpr ⟨b, by rw [← bel_kid hW c hzx]; exact z2⟩)
  · obtain ⟨c1, c2⟩ := (hk q c).mp hc
    refine (hh c).mpr ?_
    rcases hq with rfl | hq
    · exact ⟨w7 120 (Or.inl rfl) c c1, by rw [bel_kid hW c1 c2]; exact bel_120 hW hxn⟩
    · obtain ⟨q1, q2⟩ := (hh q).mp hq
      exact ⟨w7 q (Or.inr q1) c c1, by rw [bel_kid hW c1 c2]; exact q2⟩
  · have h2 := w8 z y e
    refine ⟨?_, h2.2⟩
    show (t_h T z && !bel T x z) = false
    rw [h2.1]; rfl
theorem apJ_k (hW : Wf n kd T) {x y p : Nat} (hxy : x ≠ y) (hy : y ∈ t_k T p) (hpx : p ≠ x) (hpy : p ≠ y) (q c : Nat) : c ∈ t_k (apJ x y T) q ↔ c ≠ y ∧ ((q = x ∧ c ∈ t_k T y) ∨ (q ≠ y ∧ c ∈ t_k T q)) := by
  have u := hW.2.2.2.1
  show c ∈ (if q = x then t_k T x ++ t_k T y else if q = y then [] else rmv (t_k T q) y) ↔ _
  by_cases e : q = x
  · rw [if_pos e, List.mem_append, e]
    constructor
    · rintro (h | h)
      · exact ⟨fun w => hpx (u p x y hy (w ▸ h)), Or.inr ⟨hxy, h⟩⟩
      · exact ⟨fun w => hpy (u p y y hy (w ▸ h)), Or.inl ⟨rfl, h⟩⟩
    · rintro ⟨-, ⟨-, h⟩ | ⟨-, h⟩⟩
      · exact Or.inr h
      · exact Or.inl h
  · rw [if_neg e]
    by_cases e2 : q = y
    · rw [if_pos e2]
      constructor
      · intro h; cases h
      · rintro ⟨-, ⟨h, -⟩ | ⟨h, -⟩⟩
        · exact absurd h e
        · exact absurd e2 h
    · rw [if_neg e2, mem_rmv]
      constructor
      · rintro ⟨h1, h2⟩
        exact ⟨h2, Or.inr ⟨e2, h1⟩⟩
      · rintro ⟨h1, ⟨h, -⟩ | ⟨-, h⟩⟩
        · exact absurd h e
        · exact ⟨h, h1⟩
theorem VJ.ne (hW : Wf n kd T) {x y : Nat} (hv : VJ kd T x y) : x ≠ y ∧ ∃ p i, liv T p ∧ (t_k T p)[i]? = some x ∧ (t_k T p)[i + 1]? = some y ∧ x ∈ t_k T p ∧ y ∈ t_k T p ∧ p ≠ x ∧ p ≠ y := by
  obtain ⟨v1, v2, v3, p, i, v4, v5, v6⟩ := hv
  have hx := List.mem_of_getElem? v5
  have hy := List.mem_of_getElem? v6
  obtain ⟨dp, hd⟩ := hW.2.2.2.2.1
  have d1 := hd _ _ hx
  have d2 := hd _ _ hy
  refine ⟨?_, p, i, v4, v5, v6, hx, hy, fun e => by rw [e] at d1; omega, fun e => by rw [e] at d2; omega⟩
  rintro rfl
  have hi : i < (t_k T p).length := by
    by_cases a : i < (t_k T p).length
    · exact a
    · rw [List.getElem?_eq_none (by omega)] at v5; cases v5
  have := (List.getElem?_inj hi (hW.2.2.1 p)).mp (v5.trans v6.symm)
  omega
theorem Wf_J {x y : Nat} (hW : Wf n kd T) (hv : VJ kd T x y) : Wf n kd (apJ x y T) := by
  obtain ⟨hxy, p, i, p1, p2, p3, hx, hy, hpx, hpy⟩ := VJ.ne hW hv
  obtain ⟨v1, v2, v3, -⟩ := hv
  have hn := hW.1
  have hxn := hW.h_lt v1
  have hyn := hW.h_lt v2
  have hk := apJ_k hW hxy hy hpx hpy
  obtain ⟨w1, w2, w3, w4, ⟨dp, hd⟩, w6, w7, w8, ⟨rk, hr⟩⟩ := id hW
  have hh : ∀ z, z ≠ y → t_h (apJ x y T) z = t_h T z := fun z hz => u1_n _ _ hz
  have hhy : t_h (apJ x y T) y = false := u1_s _ _ _
  have hix : t_i T x = none := by
    cases e : t_i T x with
    | none => rfl
    | some w => rw [(w8 x w e).1] at v1; cases v1
  have d1 := hd _ _ hx
  have d2 := hd _ _ hy
  have hyy : y ∉ t_k T y := fun h => hpy (w4 p y y hy h)
  refine ⟨w1, fun q c hc => ?_, fun q => ?_, fun q r c h1 h2 => ?_, ⟨dp, fun q c hc => ?_⟩, fun z hz => ?_, fun q hq c hc => ?_, fun z w e => ?_, ⟨fun z => if z = x then 0 else rk z + 1, fun z w e => ?_⟩⟩
  · rcases (hk q c).mp hc with ⟨-, ⟨a1, a2⟩ | ⟨a1, a2⟩⟩
    · exact ⟨(w2 y c a2).1, by omega⟩
    · exact w2 q c a2
  · show (if q = x then t_k T x ++ t_k T y else if q = y then [] else rmv (t_k T q) y).Nodup
    by_cases e : q = x
    · rw [if_pos e]
      refine List.nodup_append.mpr ⟨w3 x, w3 y, fun a ha b hb e2 => ?_⟩
      subst e2
      exact hxy (w4 x y a ha hb)
    · rw [if_neg e]
      by_cases e2 : q = y
      · rw [if_pos e2]; exact List.nodup_nil
      · rw [if_neg e2]; exact rmv_nd (w3 q)
  · rcases (hk q c).mp h1 with ⟨-, ⟨a1, a2⟩ | ⟨a1, a2⟩⟩
    · rcases (hk r c).mp h2 with ⟨-, ⟨b1, b2⟩ | ⟨b1, b2⟩⟩
      · rw [a1, b1]
      · exact absurd (w4 r y c b2 a2) b1
    · rcases (hk r c).mp h2 with ⟨-, ⟨b1, b2⟩ | ⟨b1, b2⟩⟩
      · exact absurd (w4 q y c a2 b2) a1
      · exact w4 q r c a2 b2
  · rcases (hk q c).mp hc with ⟨-, ⟨a1, a2⟩ | ⟨a1, a2⟩⟩
    · have := hd _ _ a2
      rw [a1]; omega
    · exact hd q c a2
  · by_cases e : z = y
    · rw [e, hhy] at hz; cases hz
    · rw [hh z e] at hz
      obtain ⟨a, q, b, c⟩ := w6 z hz
      refine ⟨a, ?_⟩
      by_cases e2 : q = y
      · exact ⟨x, Or.inr (by rw [hh x hxy]; exact v1), (hk x z).mpr ⟨e, Or.inl ⟨rfl, e2 ▸ c⟩⟩⟩
      · refine ⟨q, ?_, (hk q z).mpr ⟨e, Or.inr ⟨e2, c⟩⟩⟩
        rcases b with b | b
        · exact Or.inl b
        · exact Or.inr (by rw [hh q e2]; exact b)
  · obtain ⟨c1, c2⟩ := (hk q c).mp hc
    rw [hh c c1]
    rcases c2 with ⟨a1, a2⟩ | ⟨a1, a2⟩
    · exact w7 y (Or.inr v2) c a2
    · rcases hq with hq | hq
      · exact w7 q (Or.inl hq) c a2
      · rw [hh q a1] at hq
        exact w7 q (Or.inr hq) c a2
  · by_cases e2 : z = y
    · change u_1 (t_i T) y (some x) z = some w at e
      rw [e2, u1_s] at e
      have := Option.some.inj e
      subst this
      rw [e2]
      exact ⟨hhy, hyn, hxn, v3.symm⟩
    · change u_1 (t_i T) y (some x) z = some w at e
      rw [u1_n _ _ e2] at e
      have := w8 z w e
      exact ⟨by rw [hh z e2]; exact this.1, this.2⟩
  · change u_1 (t_i T) y (some x) z = some w at e
    show (if w = x then 0 else rk w + 1) < (if z = x then 0 else rk z + 1)
    by_cases e2 : z = y
    · rw [e2, u1_s] at e
      have := Option.some.inj e
      subst this
      rw [if_pos rfl, e2, if_neg hxy.symm]
      omega
    · rw [u1_n _ _ e2] at e
      have h1 := hr z w e
      have h2 : z ≠ x := fun q => by rw [q, hix] at e; cases e
      rw [if_neg h2]
      by_cases e3 : w = x
      · rw [if_pos e3]; omega
      · rw [if_neg e3]; omega
end TR
end
section
/-! ===== the reference: what does() does to the tree ===== -/
abbrev En : Type := Nat × Nat × Nat × Nat
def ap (e : En) (T : Tr) : Tr := if e.1 = 1 then apA e.2.1 e.2.2.1 e.2.2.2 T else if e.1 = 2 then apM e.2.1 e.2.2.1 e.2.2.2 T else if e.1 = 3 then apC e.2.1 T else apJ e.2.1 e.2.2.1 T
def Va (n : Nat) (kd : Nat → Nat) (e : En) (T : Tr) : Prop :=
  (e.1 = 1 ∧ VA n T e.2.1 e.2.2.1 e.2.2.2) ∨ (e.1 = 2 ∧ VM T e.2.1 e.2.2.1 e.2.2.2) ∨ (e.1 = 3 ∧ t_h T e.2.1 = true ∧ e.2.2.1 = 0) ∨ (e.1 = 4 ∧ VJ kd T e.2.1 e.2.2.1)
def eB (e : En) : Int32 := if e.1 < 3 then cd e.2.2.1 else nI e.2.2.1
def dR (e : En) (T : Tr) : Nat := if e.1 = 1 then e.2.1 else if e.1 = 2 then 0 else if e.1 = 3 then (pre T 121 e.2.1).length else (t_k T e.2.1).length + (t_k T e.2.2.1).length
theorem Wf_ap {n : Nat} {kd : Nat → Nat} {T : Tr} {e : En} (hW : Wf n kd T) (hv : Va n kd e T) : Wf n kd (ap e T) := by
  unfold ap
  rcases hv with ⟨h, v⟩ | ⟨h, v⟩ | ⟨h, v, -⟩ | ⟨h, v⟩
  · rw [if_pos h]; exact Wf_A hW v
  · rw [if_neg (by omega), if_pos h]; exact Wf_M hW v
  · rw [if_neg (by omega), if_neg (by omega), if_pos h]; exact Wf_C hW v
  · rw [if_neg (by omega), if_neg (by omega), if_neg (by omega)]; exact Wf_J hW v
section TR
variable {n : Nat} {kd : Nat → Nat} {T : Tr}
theorem onT_eq {g : Nat → Int32} (hW : Wf n kd T) (h1 : ∀ z, z < n → t_h T z = false → g z = -9) (h2 : ∀ q z, liv T q → z ∈ t_k T q → g z = cd q) (h3 : ∀ z, n ≤ z → g z = 0) : g = onT n T := by
  funext z
  by_cases a : z < n
  · cases e : t_h T z with
    | false => rw [onT_off a e, h1 z a e]
    | true =>
      obtain ⟨q, l1, l2, -⟩ := hW.h_par e
      rw [onT_on hW l1 l2, h2 q z l1 l2]
  · rw [onT, if_neg a, h3 z (by omega)]
theorem getE_lt {l : List Nat} {j z : Nat} (h : l[j]? = some z) : j < l.length := by
  by_cases a : j < l.length
  · exact a
  · rw [List.getElem?_eq_none (by omega)] at h; cases h
/-- places behind a thing that is put in -/
theorem pl_U {L : Nat → Prop} {Kb : Nat → List Nat} {on1 pl1 : Nat → Int32} {x p i : Nat} (hP : ∀ q j z, L q → (Kb q)[j]? = some z → z ≠ x ∧ z < n ∧ on1 z = cd q ∧ pl1 z = nI j) (hl : ∀ q, L q → (Kb q).length ≤ 120 ∧ q ≤ 120) (hp : L p) (hi : i ≤ (Kb p).length) :
    ∀ q j z, L q → (u_1 Kb p (insA (Kb p) i x) q)[j]? = some z → upd (plUp on1 pl1 (cd p) (nI i) n) x (nI i) z = nI j := by
  intro q j z hq hz
  have l1 := hl p hp
  have l2 := hl q hq
  by_cases e : q = p
  · rw [e, u1_s, ins_at hi] at hz
    by_cases a : j < i
    · rw [if_pos a] at hz
      obtain ⟨z1, z2, z3, z4⟩ := hP p j z hp hz
      rw [upd_n _ _ z1, plUp, if_neg ?_]
      · exact z4
      · rintro ⟨-, -, w⟩
        rw [z4] at w
        exact nI_ge a (by omega) w
    · rw [if_neg a] at hz
      by_cases b : j = i
      · rw [if_pos b] at hz
        rw [← Option.some.inj hz, upd_s, b]
      · rw [if_neg b] at hz
        have hj := getE_lt hz
        obtain ⟨z1, z2, z3, z4⟩ := hP p (j - 1) z hp hz
        rw [upd_n _ _ z1, plUp, if_pos ⟨z2, z3, by rw [z4]; exact nI_le (by omega) (by omega)⟩, z4, nI_add]
        congr 1
        omega
  · rw [u1_n _ _ e] at hz
    obtain ⟨z1, z2, z3, z4⟩ := hP q j z hq hz
    rw [upd_n _ _ z1, plUp, if_neg ?_]
    · exact z4
    · rintro ⟨-, w, -⟩
      rw [z3] at w
      exact e (cd_inj l2.2 l1.2 w)
/-- places behind a thing that is taken out -/
theorem pl_D {L : Nat → Prop} {Kb : Nat → List Nat} {on1 pl1 : Nat → Int32} {x p k : Nat} (hP : ∀ q j z, L q → (Kb q)[j]? = some z → z < n ∧ on1 z = cd q ∧ pl1 z = nI j) (hl : ∀ q, L q → (Kb q).Nodup ∧ (Kb q).length ≤ 240 ∧ q ≤ 120) (hp : L p) (hk : (Kb p)[k]? = some x) :
    ∀ q j z, L q → (rmv (Kb q) x)[j]? = some z → plDn on1 pl1 x n z = nI j := by
  intro q j z hq hz
  have l1 := hl p hp
  have l2 := hl q hq
  obtain ⟨x1, x2, x3⟩ := hP p k x hp hk
  have hkl := getE_lt hk
  by_cases e : q = p
  · rw [e, rmv_at l1.1 hk] at hz
    by_cases a : j < k
    · rw [if_pos a] at hz
      obtain ⟨z2, z3, z4⟩ := hP p j z hp hz
      rw [plDn, if_neg ?_]
      · exact z4
      · rintro ⟨-, -, w⟩
        rw [z4, x3] at w
        exact nI_nlt (by omega) (by omega) w
    · rw [if_neg a] at hz
      have hj := getE_lt hz
      obtain ⟨z2, z3, z4⟩ := hP p (j + 1) z hp hz
      rw [plDn, if_pos ⟨z2, z3.trans x2.symm, by rw [z4, x3]; exact nI_lt (by omega) (by omega)⟩, z4]
      exact pk_sub (by omega)
  · have hx : x ∉ Kb q := by
      intro h
      obtain ⟨m, hm, e2⟩ := List.getElem_of_mem h
      have := (hP q m x hq (by rw [List.getElem?_eq_getElem hm, e2])).2.1
      rw [x2] at this
      exact e (cd_inj l1.2.2 l2.2.2 this).symm
    rw [rmv_no hx] at hz
    obtain ⟨z2, z3, z4⟩ := hP q j z hq hz
    rw [plDn, if_neg ?_]
    · exact z4
    · rintro ⟨-, w, -⟩
      rw [z3, x2] at w
      exact e (cd_inj l2.2.2 l1.2.2 w)
theorem up_liv2 (hW : Wf n kd T) {x : Nat} (hx : liv T x) : ∀ (f z : Nat), x ∈ upl T f z → liv T z := by
  intro f
  induction f with
  | zero => intro z hz; cases hz
  | succ f ih =>
    intro z hz
    rw [upl_s] at hz
    rcases List.mem_cons.mp hz with rfl | hz
    · exact hx
    · cases e : par T z with
      | none => rw [e] at hz; cases hz
      | some p =>
        rw [e] at hz
        exact Or.inr (hW.kid (ih p hz) (par_mem e).1)
theorem sub_iff (hW : Wf n kd T) {x : Nat} (hx : t_h T x = true) (z : Nat) : z ∈ pre T 121 x ↔ z < n ∧ (t_h T z && bel T x z) = true := by
  have hn := hW.1
  have hxn := hW.h_lt hx
  constructor
  · intro h
    obtain ⟨h1, h2⟩ := pre_up hW _ _ _ h (by omega)
    have h3 := up_liv2 hW (Or.inr hx) _ _ h2
    rcases h3 with h3 | h3
    · have := bel_120 hW hxn
      rw [h3] at h2
      unfold bel at this
      rw [decide_eq_true h2] at this
      cases this
    · refine ⟨hW.h_lt h3, ?_⟩
      unfold bel
      rw [h3, decide_eq_true h2]
      rfl
  · rintro ⟨h1, h2⟩
    simp only [Bool.and_eq_true] at h2
    exact (pre_iff hW (by omega) (by omega)).mpr (of_decide_eq_true h2.2)
end TR
section MC
variable {l : Launch} {D : DD} {σ : Hp} {o n : Nat} {kd : Nat → Nat} {T : Tr}
theorem RT.P (hW : Wf n kd T) (h : RT σ o n kd T) : ∀ q j z, liv T q → (t_k T q)[j]? = some z → z < n ∧ h_X σ (o + 1 + 7) z = cd q ∧ h_X σ (o + 1 + 8) z = nI j := by
  intro q j z hq hz
  have hm := List.mem_of_getElem? hz
  exact ⟨hW.k_lt hm, by rw [h.2.2.2.2.1]; exact onT_on hW hq hm, h.2.2.2.2.2.1 q hq j z hz⟩
theorem Wf.pos (hW : Wf n kd T) {x : Nat} (hx : t_h T x = true) : ∃ (p k : Nat), liv T p ∧ (t_k T p)[k]? = some x ∧ par T x = some p := by
  obtain ⟨p, h1, h2, h3⟩ := hW.h_par hx
  obtain ⟨k, hk, e⟩ := List.getElem_of_mem h2
  exact ⟨p, k, h1, by rw [List.getElem?_eq_getElem hk, e], h3⟩
set_option maxHeartbeats 1000000 in
theorem c_M_doesT {e : En} (hM : ML σ o) (hW : Wf n kd T) (hR : RT σ o n kd T) (hv : Va n kd e T) : Cn l D m_M_does 0 0 [va_rf (some o), .int (nI e.1), .int (nI e.2.1), .int (eB e), .int (nI e.2.2.2)] σ
    (fun r τ => r = some (.int (nI (dR e T))) ∧ RT τ o n kd (ap e T) ∧ h_I τ 721 o = nI 0 ∧ MFr [7, 8, 9] [721] σ τ o) := by
  have hW' := Wf_ap hW hv
  have hn := hW.1
  have hP := RT.P hW hR
  obtain ⟨r1, r2, r3, r4, r5, r6, r7⟩ := id hR
  obtain ⟨c, x, p, i⟩ := e
  have h0 : ∀ z, n ≤ z → onT n T z = 0 := fun z hz => by rw [onT, if_neg (by omega)]
  rcases hv with ⟨h, v⟩ | ⟨h, v⟩ | ⟨h, v, h3⟩ | ⟨h, v⟩
  · -- add
    have h : c = 1 := h
    subst h
    have hap : ap (1, x, p, i) T = apA x p i T := by rw [ap, if_pos rfl]
    rw [hap] at hW' ⊢
    have v : VA n T x p i := v
    obtain ⟨v1, v2, v3, v4, v5, v6, v7⟩ := id v
    have hpx : p ≠ x := by
      rintro rfl
      rcases v6 with q | q
      · omega
      · rw [v2] at q; cases q
    change Cn l D m_M_does 0 0 [va_rf (some o), .int (nI 1), .int (nI x), .int (cd p), .int (nI i)] σ (fun r τ => r = some (.int (nI x)) ∧ _)
    refine Cn.mono (c_M_does1 hM r1 hn (by omega)) ?_
    rintro r τ ⟨rfl, rfl⟩
    have hlv : ∀ q, q ≠ x → (liv (apA x p i T) q ↔ liv T q) := by
      intro q hq
      unfold liv
      rw [show t_h (apA x p i T) q = t_h T q from u1_n _ _ hq]
    have hkx : t_k (apA x p i T) x = [] := by
      show u_1 (t_k T) p (insA (t_k T p) i x) x = []
      rw [u1_n _ _ hpx.symm]
      exact v3
    refine ⟨rfl, ⟨?_, ?_, r3, r4, ?_, ?_, ?_⟩, ?_, ?_⟩
    · rw [hI_wX, hI_wX, hI_n _ _ (by decide)]
      exact r1
    · rw [hX_n _ _ (by omega), hX_n _ _ (by omega)]
      exact r2
    · rw [hX_n _ _ (by omega), hX_w]
      refine onT_eq hW' (fun z hz hh => ?_) (fun q z hq hz => ?_) (fun z hz => ?_)
      · have hzx : z ≠ x := fun e => by
          rw [e, show t_h (apA x p i T) x = true from u1_s _ _ _] at hh; cases hh
        rw [upd_n _ _ hzx, r5]
        exact onT_off hz (by rw [← hh]; exact (u1_n _ _ hzx).symm)
      · have hqx : q ≠ x := fun e => by rw [e, hkx] at hz; cases hz
        have hz : z ∈ u_1 (t_k T) p (insA (t_k T p) i x) q := hz
        by_cases e : q = p
        · rw [e, u1_s] at hz
          rcases mem_ins.mp hz with w | w
          · rw [w, upd_s, e]
          · rw [upd_n _ _ (show z ≠ x from fun e2 => v5 p (by rw [← e2]; exact w)), r5, e]
            exact onT_on hW v6 w
        · rw [u1_n _ _ e] at hz
          rw [upd_n _ _ (show z ≠ x from fun e2 => v5 q (by rw [← e2]; exact hz)), r5]
          exact onT_on hW ((hlv q hqx).mp hq) hz
      · rw [upd_n _ _ (by omega), r5]
        exact h0 z hz
    · intro q hq j z hz
      rw [hX_w]
      have hqx : q ≠ x := fun e => by rw [e, hkx] at hz; cases hz
      exact pl_U (L := liv T) (Kb := t_k T) (fun q j z hq hz => ⟨fun e => v5 q (by rw [← e]; exact List.mem_of_getElem? hz), hP q j z hq hz⟩) (fun q hq => ⟨by have := hW.len q; omega, hW.liv_le hq⟩) v6 v7 q j z ((hlv q hqx).mp hq) hz
    · intro z hz
      rw [hX_n _ _ (by omega), hX_n _ _ (by omega)]
      exact r7 z hz
    · rw [hI_wX, hI_wX, hI_w]
    · exact ((MFr.I _ _ (by decide)).tr (MFr.X _ _ (by decide))).tr (MFr.X _ _ (by decide))
  · -- move
    have h : c = 2 := h
    subst h
    have hap : ap (2, x, p, i) T = apM x p i T := rfl
    rw [hap] at hW' ⊢
    have v : VM T x p i := v
    obtain ⟨v1, v2, v3, v4⟩ := id v
    have hxn := hW.h_lt v1
    obtain ⟨p0, k0, l0, k1, k2⟩ := hW.pos v1
    change Cn l D m_M_does 0 0 [va_rf (some o), .int (nI 2), .int (nI x), .int (cd p), .int (nI i)] σ (fun r τ => r = some (.int (nI 0)) ∧ _)
    refine Cn.mono (c_M_does2 hM r1 hn (by omega)) ?_
    rintro r τ ⟨rfl, rfl⟩
    refine ⟨rfl, ⟨?_, ?_, r3, r4, ?_, ?_, ?_⟩, ?_, ?_⟩
    · rw [hI_wX, hI_wX, hI_n _ _ (by decide)]
      exact r1
    · rw [hX_n _ _ (by omega), hX_n _ _ (by omega)]
      exact r2
    · rw [hX_n _ _ (by omega), hX_w]
      refine onT_eq hW' (fun z hz hh => ?_) (fun q z hq hz => ?_) (fun z hz => ?_)
      · have hh : t_h T z = false := hh
        have hzx : z ≠ x := fun e => by rw [e, v1] at hh; cases hh
        rw [upd_n _ _ hzx, upd_n _ _ hzx, r5]
        exact onT_off hz hh
      · rcases (apM_k x p i T q z).mp hz with ⟨a1, a2⟩ | ⟨a1, a2⟩
        · rw [a1, upd_s, a2]
        · rw [upd_n _ _ a1, upd_n _ _ a1, r5]
          exact onT_on hW hq a2
      · rw [upd_n _ _ (by omega), upd_n _ _ (by omega), r5]
        exact h0 z hz
    · intro q hq j z hz
      rw [hX_w]
      refine pl_U (L := liv T) (Kb := fun q => rmv (t_k T q) x) (fun q j z hq hz => ?_) (fun q hq => ⟨?_, hW.liv_le hq⟩) v2 v4 q j z hq hz
      · have hm := mem_rmv.mp (List.mem_of_getElem? hz)
        refine ⟨hm.2, hW.k_lt hm.1, ?_, ?_⟩
        · rw [upd_n _ _ hm.2, r5]
          exact onT_on hW hq hm.1
        · exact pl_D (L := liv T) (Kb := t_k T) hP (fun q hq => ⟨hW.2.2.1 q, by have := hW.len q; omega, hW.liv_le hq⟩) l0 k1 q j z hq hz
      · have := nodup_len (rmv_nd (x := x) (hW.2.2.1 q)) (m := n) (fun z hz => hW.k_lt (mem_rmv.mp hz).1)
        show (rmv (t_k T q) x).length ≤ 120
        omega
    · intro z hz
      rw [hX_n _ _ (by omega), hX_n _ _ (by omega)]
      exact r7 z hz
    · rw [hI_wX, hI_wX, hI_w]
    · exact ((MFr.I _ _ (by decide)).tr (MFr.X _ _ (by decide))).tr (MFr.X _ _ (by decide))
  · -- cut
    have h : c = 3 := h
    subst h
    have h3 : p = 0 := h3
    subst h3
    have v : t_h T x = true := v
    have hap : ap (3, x, 0, i) T = apC x T := rfl
    rw [hap] at hW' ⊢
    have hxn := hW.h_lt v
    obtain ⟨p0, k0, l0, k1, k2⟩ := hW.pos v
    obtain ⟨dp, hd⟩ := hW.2.2.2.2.1
    have hcnt : cntB (fun z => t_h T z && bel T x z) n = (pre T 121 x).length := cntB_len (pre_nd hW _ _ (by omega)) (sub_iff hW v)
    change Cn l D m_M_does 0 0 [va_rf (some o), .int (nI 3), .int (nI x), .int (nI 0), .int (nI i)] σ (fun r τ => r = some (.int (nI (pre T 121 x).length)) ∧ _)
    refine Cn.mono (c_M_does3 (B := fun z => t_h T z && bel T x z) (rk := dp) hM r1 hn hxn (by rw [v, bel_self]; rfl) (fun y hy => ?_)) ?_
    · rw [r5]
      cases e : t_h T y with
      | false => exact Or.inl ⟨onT_off hy e, rfl⟩
      | true =>
        obtain ⟨q, l1, l2, -⟩ := hW.h_par e
        rw [onT_on hW l1 l2]
        rcases l1 with rfl | l1
        · refine Or.inr (Or.inl ⟨rfl, ?_⟩)
          by_cases a : y = x
          · exact Or.inl a
          · exact Or.inr (by rw [bel_kid hW l2 a, bel_120 hW hxn]; rfl)
        · have hqn := hW.h_lt l1
          refine Or.inr (Or.inr ⟨q, hqn, cd_n (by omega), fun w => ?_, by have := hd _ _ l2; omega, ?_⟩)
          · rw [(onT_9 hW hqn).mp w] at l1; cases l1
          · by_cases a : y = x
            · exact Or.inl a
            · exact Or.inr (by show (true && bel T x y) = (t_h T q && bel T x q); rw [bel_kid hW l2 a, l1])
    · rintro r τ ⟨rfl, rfl⟩
      refine ⟨by rw [hcnt], ⟨?_, ?_, r3, r4, ?_, ?_, ?_⟩, ?_, ?_⟩
      · rw [hI_wX, hI_wX, hI_n _ _ (by decide)]
        exact r1
      · rw [hX_n _ _ (by omega), hX_n _ _ (by omega)]
        exact r2
      · rw [hX_n _ _ (by omega), hX_w]
        refine onT_eq hW' (fun z hz hh => ?_) (fun q z hq hz => ?_) (fun z hz => ?_)
        · have hh : (t_h T z && !bel T x z) = false := hh
          rw [offB]
          by_cases e : z < n ∧ (t_h T z && bel T x z) = true
          · rw [if_pos e]
          · rw [if_neg e, r5]
            refine onT_off hz ?_
            cases e1 : t_h T z with
            | false => rfl
            | true =>
              rw [e1] at e hh
              cases e2 : bel T x z with
              | true => rw [e2] at e; exact absurd ⟨hz, rfl⟩ e
              | false => rw [e2] at hh; cases hh
        · obtain ⟨z1, z2⟩ := mem_rmv.mp (show z ∈ rmv (t_k T q) x from hz)
          have hq2 : liv T q ∧ bel T x q = false := by
            rcases hq with rfl | hq
            · exact ⟨Or.inl rfl, bel_120 hW hxn⟩
            · have hq : (t_h T q && !bel T x q) = true := hq
              simp only [Bool.and_eq_true, Bool.not_eq_true'] at hq
              exact ⟨Or.inr hq.1, hq.2⟩
          rw [offB, if_neg (fun w => by rw [bel_kid hW z1 z2, hq2.2, Bool.and_false] at w; cases w.2), r5]
          exact onT_on hW hq2.1 z1
        · rw [offB, if_neg (fun w => by omega), r5]
          exact h0 z hz
      · intro q hq j z hz
        rw [hX_w]
        have hq2 : liv T q := by
          rcases hq with rfl | hq
          · exact Or.inl rfl
          · have hq : (t_h T q && !bel T x q) = true := hq
            simp only [Bool.and_eq_true] at hq
            exact Or.inr hq.1
        exact pl_D (L := liv T) (Kb := t_k T) hP (fun q hq => ⟨hW.2.2.1 q, by have := hW.len q; omega, hW.liv_le hq⟩) l0 k1 q j z hq2 hz
      · intro z hz
        rw [hX_n _ _ (by omega), hX_n _ _ (by omega)]
        exact r7 z hz
      · rw [hI_wX, hI_wX, hI_w]
      · exact ((MFr.I _ _ (by decide)).tr (MFr.X _ _ (by decide))).tr (MFr.X _ _ (by decide))
  · -- join
    have h : c = 4 := h
    subst h
    have v : VJ kd T x p := v
    have hap : ap (4, x, p, i) T = apJ x p T := rfl
    rw [hap] at hW' ⊢
    obtain ⟨hxy, p0, k0, l0, k1, k2, hx0, hy0, hpx, hpy⟩ := VJ.ne hW v
    obtain ⟨v1, v2, v3, -⟩ := id v
    have hxn := hW.h_lt v1
    have hyn := hW.h_lt v2
    have hk := apJ_k hW hxy hy0 hpx hpy
    have hcx : cntB (fun z => decide (h_X σ (o + 1 + 7) z = nI x)) n = (t_k T x).length := by
      rw [r5, ← cd_n (show x ≠ 120 by omega)]
      exact hang_T hW (Or.inr v1)
    have hcy : cntB (fun z => decide (h_X σ (o + 1 + 7) z = nI p)) n = (t_k T p).length := by
      rw [r5, ← cd_n (show p ≠ 120 by omega)]
      exact hang_T hW (Or.inr v2)
    change Cn l D m_M_does 0 0 [va_rf (some o), .int (nI 4), .int (nI x), .int (nI p), .int (nI i)] σ (fun r τ => r = some (.int (nI ((t_k T x).length + (t_k T p).length))) ∧ _)
    refine Cn.mono (c_M_does4 hM r1 hn (by omega) (by omega)) ?_
    rintro r τ ⟨rfl, rfl⟩
    rw [hcx, hcy]
    have hj : ∀ q z, liv T q → z ∈ t_k T q → jnO (h_X σ (o + 1 + 7)) x p n z = if q = p then nI x else cd q := by
      intro q z hq hz
      rw [jnO, r5, onT_on hW hq hz]
      by_cases e : q = p
      · rw [if_pos ⟨hW.k_lt hz, by rw [e]; exact cd_n (by omega)⟩, if_pos e]
      · rw [if_neg (fun w => e (cd_inj (hW.liv_le hq) (by omega) (by rw [w.2, cd_n (show p ≠ 120 by omega)]))), if_neg e]
    have hlv : ∀ q, liv (apJ x p T) q → liv T q ∧ q ≠ p := by
      intro q hq
      rcases hq with rfl | hq
      · exact ⟨Or.inl rfl, by omega⟩
      · have hqp : q ≠ p := fun e => by rw [e, show t_h (apJ x p T) p = false from u1_s _ _ _] at hq; cases hq
        rw [show t_h (apJ x p T) q = t_h T q from u1_n _ _ hqp] at hq
        exact ⟨Or.inr hq, hqp⟩
    refine ⟨rfl, ⟨?_, ?_, r3, r4, ?_, ?_, ?_⟩, ?_, ?_⟩
    · rw [hI_wX, hI_wX, hI_wX, hI_n _ _ (by decide)]
      exact r1
    · rw [hX_n _ _ (by omega), hX_n _ _ (by omega), hX_n _ _ (by omega)]
      exact r2
    · rw [hX_n _ _ (by omega), hX_n _ _ (by omega), hX_w]
      refine onT_eq hW' (fun z hz hh => ?_) (fun q z hq hz => ?_) (fun z hz => ?_)
      · by_cases e : z = p
        · rw [e, upd_s]
        · rw [show t_h (apJ x p T) z = t_h T z from u1_n _ _ e] at hh
          rw [upd_n _ _ e, jnO, r5, onT_off hz hh, if_neg (fun w => nI_pos (show p < 2 ^ 31 by omega) (by rw [← w.2]; decide))]
      · obtain ⟨hq1, hq2⟩ := hlv q hq
        obtain ⟨z1, z2⟩ := (hk q z).mp hz
        rw [upd_n _ _ z1]
        rcases z2 with ⟨a1, a2⟩ | ⟨a1, a2⟩
        · rw [hj p z (Or.inr v2) a2, if_pos rfl, a1, cd_n (by omega)]
        · rw [hj q z hq1 a2, if_neg hq2]
      · rw [upd_n _ _ (by omega), jnO, if_neg (by omega), r5]
        exact h0 z hz
    · intro q hq j z hz
      rw [hX_n _ _ (by omega), hX_w]
      obtain ⟨hq1, hq2⟩ := hlv q hq
      have e1 : t_k (apJ x p T) q = rmv (if q = x then t_k T x ++ t_k T p else t_k T q) p := by
        show (if q = x then t_k T x ++ t_k T p else if q = p then [] else rmv (t_k T q) p) = _
        by_cases e : q = x
        · rw [if_pos e, if_pos e]
          refine (rmv_no (fun w => ?_)).symm
          rcases List.mem_append.mp w with w | w
          · exact hpx (hW.2.2.2.1 _ _ _ hy0 w)
          · exact hpy (hW.2.2.2.1 _ _ _ hy0 w)
        · rw [if_neg e, if_neg e, if_neg hq2]
      rw [e1] at hz
      refine pl_D (L := fun q => liv T q ∧ q ≠ p) (Kb := fun q => if q = x then t_k T x ++ t_k T p else t_k T q) (p := p0) (k := k0 + 1) (fun q j z hq hz => ?_) (fun q hq => ?_) ⟨l0, hpy⟩ (by show (if p0 = x then _ else t_k T p0)[k0 + 1]? = some p; rw [if_neg hpx]; exact k2) q j z ⟨hq1, hq2⟩ hz
      · have hz : (if q = x then t_k T x ++ t_k T p else t_k T q)[j]? = some z := hz
        by_cases e : q = x
        · rw [if_pos e] at hz
          by_cases a : j < (t_k T x).length
          · rw [List.getElem?_append_left a] at hz
            have hm := List.mem_of_getElem? hz
            refine ⟨hW.k_lt hm, ?_, ?_⟩
            · rw [hj x z (Or.inr v1) hm, if_neg hxy, e]
            · rw [jnP, r5, onT_on hW (Or.inr v1) hm, if_neg (fun w => hxy (cd_inj (by omega) (by omega) (by rw [w.2, cd_n (show p ≠ 120 by omega)])))]
              exact r6 x (Or.inr v1) j z hz
          · rw [List.getElem?_append_right (by omega)] at hz
            have hm := List.mem_of_getElem? hz
            refine ⟨hW.k_lt hm, ?_, ?_⟩
            · rw [hj p z (Or.inr v2) hm, if_pos rfl, e, cd_n (by omega)]
            · rw [jnP, r5, onT_on hW (Or.inr v2) hm, if_pos ⟨hW.k_lt hm, cd_n (by omega)⟩, r6 p (Or.inr v2) _ z hz, nI_add]
              congr 1
              omega
        · rw [if_neg e] at hz
          have hm := List.mem_of_getElem? hz
          refine ⟨hW.k_lt hm, ?_, ?_⟩
          · rw [hj q z hq.1 hm, if_neg hq.2]
          · rw [jnP, r5, onT_on hW hq.1 hm, if_neg (fun w => hq.2 (cd_inj (hW.liv_le hq.1) (by omega) (by rw [w.2, cd_n (show p ≠ 120 by omega)])))]
            exact r6 q hq.1 j z hz
      · show (if q = x then t_k T x ++ t_k T p else t_k T q).Nodup ∧ (if q = x then t_k T x ++ t_k T p else t_k T q).length ≤ 240 ∧ q ≤ 120
        have g1 := hW.len x
        have g2 := hW.len p
        have g3 := hW.len q
        by_cases e : q = x
        · rw [if_pos e]
          refine ⟨List.nodup_append.mpr ⟨hW.2.2.1 x, hW.2.2.1 p, fun a ha b hb e2 => ?_⟩, by rw [List.length_append]; omega, by omega⟩
          subst e2
          exact hxy (hW.2.2.2.1 x p a ha hb)
        · rw [if_neg e]
          exact ⟨hW.2.2.1 q, by omega, hW.liv_le hq.1⟩
    · intro z hz
      rw [hX_w]
      show upd (h_X σ (o + 1 + 9)) p (nI x) z = oI (u_1 (t_i T) p (some x) z)
      by_cases e : z = p
      · rw [e, upd_s, u1_s]; rfl
      · rw [upd_n _ _ e, u1_n _ _ e]
        exact r7 z hz
    · rw [hI_wX, hI_wX, hI_wX, hI_w]
    · exact (((MFr.I _ _ (by decide)).tr (MFr.X _ _ (by decide))).tr (MFr.X _ _ (by decide))).tr (MFr.X _ _ (by decide))
end MC
end
section
/-! ===== the state that both keep, and the reference's picture of it ===== -/
abbrev Mn : Type := Nat × Nat × Nat × Nat × List Nat
abbrev Ed : Type := Nat → Option (List Int32 × List Int32)
abbrev Fi : Type := Nat × Nat × Nat × Nat × Option Nat
/-- tape, words, forms, (things, kinds, log), mentions, editions, findings -/
abbrev Sp : Type := List Int32 × (Nat → List Int32) × (Nat → Nat × Nat × Nat) × (Nat × (Nat → Nat) × List En) × List Mn × List Ed × List Fi
def s_t (S : Sp) : List Int32 := S.1
def s_w (S : Sp) : Nat → List Int32 := S.2.1
def s_f (S : Sp) : Nat → Nat × Nat × Nat := S.2.2.1
def s_g (S : Sp) : Nat × (Nat → Nat) × List En := S.2.2.2.1
def s_m (S : Sp) : List Mn := S.2.2.2.2.1
def s_e (S : Sp) : List Ed := S.2.2.2.2.2.1
def s_d (S : Sp) : List Fi := S.2.2.2.2.2.2
def s_n (S : Sp) : Nat := (s_g S).1
def s_k (S : Sp) : Nat → Nat := (s_g S).2.1
def s_l (S : Sp) : List En := (s_g S).2.2
def f_c (f : Nat → Nat × Nat × Nat) (k : Nat) : Nat := (f k).1
def f_y (f : Nat → Nat × Nat × Nat) (k : Nat) : Nat := (f k).2.1
def f_j (f : Nat → Nat × Nat × Nat) (k : Nat) : Nat := (f k).2.2
def rp : List En → Tr
  | [] => T0
  | e :: l => ap e (rp l)
def LogOk (n : Nat) (kd : Nat → Nat) : List En → Prop
  | [] => True
  | e :: l => LogOk n kd l ∧ Va n kd e (rp l)
def s_T (S : Sp) : Tr := rp (s_l S)
theorem LogOk.wf {n : Nat} {kd : Nat → Nat} (hn : n ≤ 120) : ∀ {l : List En}, LogOk n kd l → Wf n kd (rp l)
  | [], _ => Wf_T0 hn
  | _ :: _, h => Wf_ap (LogOk.wf hn h.1) h.2
theorem Va.more {n m : Nat} {kd kd' : Nat → Nat} {e : En} {T : Tr} (hW : Wf n kd T) (h : n ≤ m) (hk : ∀ x, x < n → kd' x = kd x) (hv : Va n kd e T) : Va m kd' e T := by
  rcases hv with ⟨a, v⟩ | ⟨a, v⟩ | ⟨a, v⟩ | ⟨a, v⟩
  · exact Or.inl ⟨a, by have := v.1; omega, v.2⟩
  · exact Or.inr (Or.inl ⟨a, v⟩)
  · exact Or.inr (Or.inr (Or.inl ⟨a, v⟩))
  · refine Or.inr (Or.inr (Or.inr ⟨a, v.1, v.2.1, ?_, v.2.2.2⟩))
    rw [hk _ (hW.h_lt v.1), hk _ (hW.h_lt v.2.1)]
    exact v.2.2.1
theorem LogOk.more {n m : Nat} {kd kd' : Nat → Nat} (hn : n ≤ 120) (h : n ≤ m) (hk : ∀ x, x < n → kd' x = kd x) : ∀ {l : List En}, LogOk n kd l → LogOk m kd' l
  | [], _ => trivial
  | _ :: _, g => ⟨LogOk.more hn h hk g.1, Va.more (LogOk.wf hn g.1) h hk g.2⟩
/-- what is true of every state -/
def SOk (S : Sp) : Prop :=
  s_n S ≤ 120 ∧ (∀ x, x < s_n S → s_k S x < 6) ∧ LogOk (s_n S) (s_k S) (s_l S) ∧ (s_l S).length ≤ 200 ∧ (∀ k, k < 6 → (s_w S k).length ≤ 10 ∧ (s_w S k).all isL = true) ∧
  (∀ k, k < 6 → f_c (s_f S) k < 8 ∧ f_y (s_f S) k < 5 ∧ f_j (s_f S) k < 3) ∧ (s_t S).length ≤ 600 ∧ (s_m S).length ≤ 100 ∧ (s_e S).length ≤ 8 ∧
  (∀ i k f e m, (i, k, f, e, m) ∈ s_m S → i < s_n S ∧ k < 5 ∧ (k = 0 → f < s_n S) ∧ (k = 1 → f < 6) ∧ (k = 2 → f < 6) ∧ (k = 3 → f < 6) ∧ (k = 4 → f < s_n S ∧ ∃ d, (s_e S)[e]? = some d ∧ d f ≠ none) ∧ (k ≠ 1 → m = []) ∧ m.length ≤ 12 ∧ ∀ x ∈ m, x < s_n S ∧ s_k S x = f) ∧
  (∀ d, d ∈ s_e S → ∀ x td nm, d x = some (td, nm) → x < s_n S ∧ td.length ≤ 60 ∧ nm.length ≤ td.length ∧ nm = td.drop (td.length - nm.length) ∧ ∀ v ∈ td, b8 v = v)
theorem SOk.wf {S : Sp} (h : SOk S) : Wf (s_n S) (s_k S) (s_T S) := LogOk.wf h.1 h.2.2.1
/-! the reference's rows -/
def RF (σ : Hp) (o : Nat) (f : Nat → Nat × Nat × Nat) : Prop := ∀ k, k < 6 → h_X σ (o + 1 + 3) k = nI (f_c f k) ∧ h_X σ (o + 1 + 4) k = nI (f_y f k) ∧ h_X σ (o + 1 + 5) k = nI (f_j f k)
def RL (σ : Hp) (o : Nat) (l : List En) : Prop := h_I σ 716 o = nI l.length ∧ ∀ k e, l.reverse[k]? = some e → h_X σ (o + 1 + 10) k = nI e.1 ∧ h_X σ (o + 1 + 11) k = nI e.2.1 ∧ h_X σ (o + 1 + 12) k = eB e ∧ h_X σ (o + 1 + 13) k = nI e.2.2.2
def RG (σ : Hp) (o : Nat) (g : Nat × (Nat → Nat) × List En) : Prop := RT σ o g.1 g.2.1 (rp g.2.2) ∧ RL σ o g.2.2
def RU (σ : Hp) (o : Nat) (f : Nat → Nat × Nat × Nat) (g : Nat × (Nat → Nat) × List En) : Prop := h_I σ 721 o = nI 1 ∧ mkD σ o g.1 (onT g.1 (rp g.2.2)) (fun x => nI (g.2.1 x)) (f_c f) (f_y f) (f_j f) (ordT (rp g.2.2)) ∨ h_I σ 721 o = nI 0
def RMe (σ : Hp) (o : Nat) (ms : List Mn) : Prop := h_I σ 733 o = nI ms.length ∧ ∀ q i k f e m, ms[q]? = some (i, k, f, e, m) → h_X σ (o + 1 + 24) q = nI i ∧ h_X σ (o + 1 + 25) q = nI k ∧ h_X σ (o + 1 + 26) q = nI f ∧ (k = 4 → h_X σ (o + 1 + 27) q = nI e) ∧ h_X σ (o + 1 + 28) q = nI m.length ∧ ∀ j, j < m.length → h_X σ (o + 1 + 29) (12 * q + j) = nI (m.getD j 0)
def RE1 (σ : Hp) (o e : Nat) (d : Ed) : Prop := ∀ x, x < 120 → (d x = none → h_X σ (o + 1 + 34) (120 * e + x) = -1) ∧ ∀ td nm, d x = some (td, nm) → h_X σ (o + 1 + 33) (120 * e + x) = nI td.length ∧ h_X σ (o + 1 + 34) (120 * e + x) = nI (td.length - nm.length) ∧ ∀ i, i < td.length → h_X σ (o + 1 + 32) (60 * (120 * e + x) + i) = td.getD i 0
def RE (σ : Hp) (o : Nat) (es : List Ed) : Prop := h_I σ 744 o = nI es.length ∧ ∀ e d, es[e]? = some d → RE1 σ o e d
def RFi (σ : Hp) (o : Nat) (fs : List Fi) : Prop := h_I σ 748 o = nI (min 40 fs.length) ∧ ∀ i f t k m q, i < 40 → fs[i]? = some (f, t, k, m, q) → h_X σ (o + 1 + 35) i = nI f ∧ h_X σ (o + 1 + 36) i = nI t ∧ h_X σ (o + 1 + 37) i = nI k ∧ h_X σ (o + 1 + 38) i = nI m ∧ h_X σ (o + 1 + 39) i = oI q
def RM (σ : Hp) (o : Nat) (S : Sp) : Prop := ML σ o ∧ SOk S ∧ Tp σ o (s_t S) ∧ (∀ k, k < 6 → Wd σ o k (s_w S k)) ∧ RF σ o (s_f S) ∧ RG σ o (s_g S) ∧ RU σ o (s_f S) (s_g S) ∧ RMe σ o (s_m S) ∧ RE σ o (s_e S) ∧ RFi σ o (s_d S)
abbrev mAR : List Nat := [0, 1, 2, 3, 4, 5, 6, 7, 8, 9, 10, 11, 12, 13, 14, 15, 16, 17, 18, 19, 20, 21, 22, 23, 24, 25, 26, 27, 28, 29, 30, 31, 32, 33, 34, 35, 36, 37, 38, 39]
abbrev mAI : List Nat := [705, 711, 716, 721, 724, 733, 741, 742, 744, 748, 749, 755, 756]
theorem MFr.wide {R1 F1 R2 F2 : List Nat} {σ τ : Hp} {o : Nat} (h : MFr R1 F1 σ τ o) (h1 : ∀ j ∈ R1, j ∈ R2) (h2 : ∀ f ∈ F1, f ∈ F2) : MFr R2 F2 σ τ o := by
  obtain ⟨a, b, c, d, e, f, g⟩ := h
  exact ⟨a, b, c, d, e, fun f' b' q => f f' b' (fun w => q ⟨w.1, h2 _ w.2⟩), fun b' q => g b' (fun j hj => q j (h1 j hj))⟩
section KP
variable {R F : List Nat} {σ τ : Hp} {o : Nat}
theorem Tp.kp {xs : List Int32} (h : MFr R F σ τ o) (h0 : 0 ∉ R) (h1 : 705 ∉ F) (g : Tp σ o xs) : Tp τ o xs := by
  unfold Tp at g ⊢
  rw [h.row h0, h.fld h1]
  exact g
theorem Wd.kp {k : Nat} {ws : List Int32} (h : MFr R F σ τ o) (h0 : 1 ∉ R) (h1 : 2 ∉ R) (g : Wd σ o k ws) : Wd τ o k ws := by
  unfold Wd at g ⊢
  rw [h.row h0, h.row h1]
  exact g
theorem RF.kp {f : Nat → Nat × Nat × Nat} (h : MFr R F σ τ o) (h0 : 3 ∉ R) (h1 : 4 ∉ R) (h2 : 5 ∉ R) (g : RF σ o f) : RF τ o f := by
  unfold RF at g ⊢
  rw [h.row h0, h.row h1, h.row h2]
  exact g
theorem RT.kp {n : Nat} {kd : Nat → Nat} {T : Tr} (h : MFr R F σ τ o) (h0 : 6 ∉ R) (h1 : 7 ∉ R) (h2 : 8 ∉ R) (h3 : 9 ∉ R) (h4 : 711 ∉ F) (g : RT σ o n kd T) : RT τ o n kd T := by
  unfold RT at g ⊢
  rw [h.row h0, h.row h1, h.row h2, h.row h3, h.fld h4]
  exact g
theorem RL.kp {l : List En} (h : MFr R F σ τ o) (h0 : 10 ∉ R) (h1 : 11 ∉ R) (h2 : 12 ∉ R) (h3 : 13 ∉ R) (h4 : 716 ∉ F) (g : RL σ o l) : RL τ o l := by
  unfold RL at g ⊢
  rw [h.row h0, h.row h1, h.row h2, h.row h3, h.fld h4]
  exact g
theorem RG.kp {g' : Nat × (Nat → Nat) × List En} (h : MFr R F σ τ o) (hr : ∀ j, 6 ≤ j → j < 14 → j ∉ R) (h4 : 711 ∉ F) (h5 : 716 ∉ F) (g : RG σ o g') : RG τ o g' :=
  ⟨g.1.kp h (hr 6 (by omega) (by omega)) (hr 7 (by omega) (by omega)) (hr 8 (by omega) (by omega)) (hr 9 (by omega) (by omega)) h4, g.2.kp h (hr 10 (by omega) (by omega)) (hr 11 (by omega) (by omega)) (hr 12 (by omega) (by omega)) (hr 13 (by omega) (by omega)) h5⟩
theorem RU.kp {f : Nat → Nat × Nat × Nat} {g' : Nat × (Nat → Nat) × List En} (h : MFr R F σ τ o) (hr : ∀ j, 14 ≤ j → j < 22 → j ∉ R) (h4 : 721 ∉ F) (h5 : 724 ∉ F) (g : RU σ o f g') : RU τ o f g' := by
  unfold RU mkD Tx at g ⊢
  rw [h.row (hr 14 (by omega) (by omega)), h.row (hr 15 (by omega) (by omega)), h.row (hr 16 (by omega) (by omega)), h.row (hr 17 (by omega) (by omega)), h.row (hr 18 (by omega) (by omega)), h.row (hr 19 (by omega) (by omega)), h.row (hr 20 (by omega) (by omega)), h.row (hr 21 (by omega) (by omega)), h.fld h4, h.fld h5]
  exact g
theorem RMe.kp {ms : List Mn} (h : MFr R F σ τ o) (hr : ∀ j, 24 ≤ j → j < 30 → j ∉ R) (h4 : 733 ∉ F) (g : RMe σ o ms) : RMe τ o ms := by
  unfold RMe at g ⊢
  rw [h.row (hr 24 (by omega) (by omega)), h.row (hr 25 (by omega) (by omega)), h.row (hr 26 (by omega) (by omega)), h.row (hr 27 (by omega) (by omega)), h.row (hr 28 (by omega) (by omega)), h.row (hr 29 (by omega) (by omega)), h.fld h4]
  exact g
theorem RE1.kp {e : Nat} {d : Ed} (h : MFr R F σ τ o) (hr : ∀ j, 32 ≤ j → j < 35 → j ∉ R) (g : RE1 σ o e d) : RE1 τ o e d := by
  unfold RE1 at g ⊢
  rw [h.row (hr 32 (by omega) (by omega)), h.row (hr 33 (by omega) (by omega)), h.row (hr 34 (by omega) (by omega))]
  exact g
theorem RE.kp {es : List Ed} (h : MFr R F σ τ o) (hr : ∀ j, 32 ≤ j → j < 35 → j ∉ R) (h4 : 744 ∉ F) (g : RE σ o es) : RE τ o es :=
  ⟨by rw [h.fld h4]; exact g.1, fun e d hd => (g.2 e d hd).kp h hr⟩
theorem RFi.kp {fs : List Fi} (h : MFr R F σ τ o) (hr : ∀ j, 35 ≤ j → j < 40 → j ∉ R) (h4 : 748 ∉ F) (g : RFi σ o fs) : RFi τ o fs := by
  unfold RFi at g ⊢
  rw [h.row (hr 35 (by omega) (by omega)), h.row (hr 36 (by omega) (by omega)), h.row (hr 37 (by omega) (by omega)), h.row (hr 38 (by omega) (by omega)), h.row (hr 39 (by omega) (by omega)), h.fld h4]
  exact g
end KP
section MC
variable {l : Launch} {D : DD} {σ : Hp} {o : Nat}
theorem onT_lt {n : Nat} {kd : Nat → Nat} {T : Tr} (hW : Wf n kd T) {x : Nat} (hx : t_h T x = true) : ∃ p, liv T p ∧ x ∈ t_k T p ∧ onT n T x = cd p := by
  obtain ⟨p, h1, h2, -⟩ := hW.h_par hx
  exact ⟨p, h1, h2, onT_on hW h1 h2⟩
theorem mkP_T {S : Sp} (h : RM σ o S) : mkP σ o (s_n S) (f_c (s_f S)) (f_y (s_f S)) (f_j (s_f S)) (ordT (s_T S)) := by
  obtain ⟨-, hS, -, -, hF, ⟨⟨r1, r2, r3, r4, r5, r6, r7⟩, -⟩, -⟩ := h
  have hW := hS.wf
  have hn := hW.1
  have r5 : h_X σ (o + 1 + 7) = onT (s_n S) (s_T S) := r5
  have r2 : h_X σ (o + 1 + 6) = fun x => nI (s_k S x) := r2
  have r6 : ∀ p, liv (s_T S) p → ∀ i z, (t_k (s_T S) p)[i]? = some z → h_X σ (o + 1 + 8) z = nI i := r6
  have k31 : ∀ x, x < s_n S → s_k S x < 2 ^ 31 := fun x hx => by have := hS.2.1 x hx; omega
  refine ⟨hn, r1, ?_, by have := ord_len hW; omega, ord_nd hW, fun x hx => ⟨s_k S x, hS.2.1 x hx, by rw [r2]⟩, fun k hk => ?_, fun x hx => ?_⟩
  · rw [r5]
    exact isW_T hW r6
  · have a := hF k hk
    have b := hS.2.2.2.2.2.1 k hk
    exact ⟨a.1, b.1, a.2.1, b.2.1, a.2.2, b.2.2⟩
  · have hx := (ord_mem hW).mp hx
    have hxn := hW.h_lt hx
    obtain ⟨p, p1, p2, p3⟩ := onT_lt hW hx
    rw [r5, r2]
    refine ⟨hxn, clS_T hW 200 x (fuel hW (by omega)) hx, fun c => ?_, fun t => ?_, ?_⟩
    · rw [p3]
      exact abS_T hW 200 p (fuel hW (hW.liv_le p1)) p1
    · rw [← cd_n (show x ≠ 120 by omega)]
      exact upS_T hW 200 x (fuel hW (by omega)) (Or.inr hx)
    · have hkx := hS.2.1 x hxn
      have hsc := (hS.2.2.2.2.2.1 _ hkx).1
      unfold b0O
      rw [nI_clamp (by omega)]
      by_cases e : 1 < f_c (s_f S) (s_k S x)
      · rw [if_pos e, abv_T hW (by omega) k31 hx]
        cases e2 : abT (s_T S) (s_k S) (f_c (s_f S) (s_k S x) - 2) x with
        | none => exact Or.inl (by decide)
        | some q =>
          obtain ⟨-, q2, q3, -⟩ := abT_le hW hx e2
          exact Or.inr ⟨q, hW.h_lt q2, q3, rfl⟩
      · rw [if_neg e, p3]
        rcases p1 with rfl | p1
        · exact Or.inl (by decide)
        · have hpn := hW.h_lt p1
          obtain ⟨dp, hd⟩ := hW.2.2.2.2.1
          exact Or.inr ⟨p, hpn, fun e => by have := hd _ _ p2; rw [e] at this; omega, cd_n (by omega)⟩
/-- behind make(): all is made -/
def RMd (σ : Hp) (o : Nat) (S : Sp) : Prop := RM σ o S ∧ h_I σ 721 o = nI 1 ∧ mkD σ o (s_n S) (onT (s_n S) (s_T S)) (fun x => nI (s_k S x)) (f_c (s_f S)) (f_y (s_f S)) (f_j (s_f S)) (ordT (s_T S))
theorem RM.kp {R F : List Nat} {τ : Hp} {S : Sp} (h : MFr R F σ τ o) (hR : ∀ j ∈ R, j ∈ [22, 23, 30, 31]) (hF : ∀ f ∈ F, f ∈ [741, 742, 749, 755, 756]) (g : RM σ o S) : RM τ o S := by
  have nr : ∀ j, j ∉ [22, 23, 30, 31] → j ∉ R := fun j hj q => hj (hR j q)
  have nf : ∀ f, f ∉ [741, 742, 749, 755, 756] → f ∉ F := fun f hf q => hf (hF f q)
  obtain ⟨g1, g2, g3, g4, g5, g6, g7, g8, g9, g10⟩ := g
  refine ⟨h.mL g1, g2, g3.kp h (nr _ (by decide)) (nf _ (by decide)), fun k hk => (g4 k hk).kp h (nr _ (by decide)) (nr _ (by decide)), g5.kp h (nr _ (by decide)) (nr _ (by decide)) (nr _ (by decide)), g6.kp h (fun j a b => nr j ?_) (nf _ (by decide)) (nf _ (by decide)), g7.kp h (fun j a b => nr j ?_) (nf _ (by decide)) (nf _ (by decide)), g8.kp h (fun j a b => nr j ?_) (nf _ (by decide)), g9.kp h (fun j a b => nr j ?_) (nf _ (by decide)), g10.kp h (fun j a b => nr j ?_) (nf _ (by decide))⟩
  all_goals simp only [List.mem_cons, List.not_mem_nil, or_false]; omega
theorem c_M_makeS {S : Sp} (h : RM σ o S) : Cn l D m_M_make 0 0 [va_rf (some o)] σ (fun r τ => r = none ∧ RMd τ o S ∧ MFr mkR mkI σ τ o) := by
  have hP := mkP_T h
  obtain ⟨g1, g2, g3, g4, g5, g6, g7, g8, g9, g10⟩ := id h
  have r5 : h_X σ (o + 1 + 7) = onT (s_n S) (s_T S) := g6.1.2.2.2.2.1
  have r2 : h_X σ (o + 1 + 6) = fun x => nI (s_k S x) := g6.1.2.1
  refine Cn.mono (c_M_make g1 hP (by rw [r5, r2]; exact g7)) ?_
  rintro r τ ⟨rfl, hf, h1, h2⟩
  rw [r5, r2] at h2
  refine ⟨rfl, ⟨⟨hf.mL g1, g2, g3.kp hf (by decide) (by decide), fun k hk => (g4 k hk).kp hf (by decide) (by decide), g5.kp hf (by decide) (by decide) (by decide), g6.kp hf (fun j a b => ?_) (by decide) (by decide), Or.inl ⟨h1, h2⟩, g8.kp hf (fun j a b => ?_) (by decide), g9.kp hf (fun j a b => ?_) (by decide), g10.kp hf (fun j a b => ?_) (by decide)⟩, h1, h2⟩, hf⟩
  all_goals simp only [List.mem_cons, List.not_mem_nil, or_false]; omega
end MC
end
section
/-! ===== the reference: add, cut, join, undo ===== -/
def sG (S : Sp) (g : Nat × (Nat → Nat) × List En) : Sp := (s_t S, s_w S, s_f S, g, s_m S, s_e S, s_d S)
def thI (S : Sp) (v : Int32) : Option Nat := if isTh (s_n S) (onT (s_n S) (s_T S)) v = true then some v.toNatClampNeg else none
def hoI (S : Sp) (v : Int32) : Option Nat := if v = -1 then some 120 else thI S v
def kiI (v : Int32) : Option Nat := if inB v 0 5 = true then some v.toNatClampNeg else none
theorem kiI_some {v : Int32} {k : Nat} (h : kiI v = some k) : v = nI k ∧ k < 6 := by
  unfold kiI at h
  by_cases a : inB v 0 5 = true
  · rw [if_pos a] at h
    obtain ⟨q, hq, rfl⟩ := inB_nI (m := 5) (by omega) a
    have := Option.some.inj h
    rw [nI_clamp (by omega)] at this
    exact ⟨by rw [this], by omega⟩
  · rw [if_neg a] at h; cases h
theorem kiI_nI {k : Nat} (h : k < 6) : kiI (nI k) = some k := by
  unfold kiI
  have : inB (nI k) 0 5 = true := by
    have h5 : (5 : Int32) = nI 5 := rfl
    unfold inB
    rw [decide_eq_true (nI_pos' (by omega)), h5, decide_eq_true (nI_le (by omega) (by omega))]
    rfl
  rw [if_pos this, nI_clamp (by omega)]
theorem isTh_some {S : Sp} (hS : SOk S) {v : Int32} (h : isTh (s_n S) (onT (s_n S) (s_T S)) v = true) : ∃ x, x < s_n S ∧ t_h (s_T S) x = true ∧ v = nI x ∧ thI S v = some x := by
  by_cases a : v < 0
  · rw [isTh_neg a] at h; cases h
  · obtain ⟨x, hx, rfl⟩ := nI_of a
    have h2 := h
    rw [isTh_T hS.wf hx] at h2
    simp only [Bool.and_eq_true, decide_eq_true_eq] at h2
    refine ⟨x, h2.1, h2.2, rfl, ?_⟩
    unfold thI
    rw [if_pos h, nI_clamp hx]
theorem isTh_none {S : Sp} {v : Int32} (h : isTh (s_n S) (onT (s_n S) (s_T S)) v = false) : thI S v = none := by
  unfold thI
  rw [h]
  rfl
theorem thI_some {S : Sp} (hS : SOk S) {v : Int32} {x : Nat} (h : thI S v = some x) : x < s_n S ∧ t_h (s_T S) x = true ∧ v = nI x := by
  unfold thI at h
  by_cases a : isTh (s_n S) (onT (s_n S) (s_T S)) v = true
  · obtain ⟨y, h1, h2, h3, h4⟩ := isTh_some hS a
    unfold thI at h4
    rw [h4] at h
    have := Option.some.inj h
    subst this
    exact ⟨h1, h2, h3⟩
  · rw [if_neg a] at h; cases h
def a_add (S : Sp) (k p i : Int32) : Int32 × Sp := match kiI k, hoI S p with
  | some k', some p' => if inB i 0 (nI (t_k (s_T S) p').length) = true then (if s_n S = 120 ∨ (s_l S).length = 200 then (-3, S) else (nI (s_n S), sG S (s_n S + 1, u_1 (s_k S) (s_n S) k', (1, s_n S, p', i.toNatClampNeg) :: s_l S))) else (-2, S)
  | _, _ => (-2, S)
def a_cut (S : Sp) (v : Int32) : Int32 × Sp := match thI S v with
  | some x => if (s_l S).length = 200 then (-3, S) else (nI (pre (s_T S) 121 x).length, sG S (s_n S, s_k S, (3, x, 0, 0) :: s_l S))
  | none => (-2, S)
def jnB (S : Sp) (x y : Nat) : Bool := decide (s_k S x = s_k S y) && decide (sib (s_T S) x = some y)
def a_join (S : Sp) (v w : Int32) : Int32 × Sp := match thI S v, thI S w with
  | some x, some y => if jnB S x y = true then (if (s_l S).length = 200 then (-3, S) else (nI ((t_k (s_T S) x).length + (t_k (s_T S) y).length), sG S (s_n S, s_k S, (4, x, y, 0) :: s_l S))) else (-2, S)
  | _, _ => (-2, S)
def a_undo (S : Sp) : Int32 × Sp := match s_l S with
  | [] => (-1, S)
  | _ :: l => (nI l.length, sG S (s_n S, s_k S, l))
theorem SOk.g {S : Sp} (h : SOk S) {n : Nat} {kd : Nat → Nat} {l : List En} (h1 : s_n S ≤ n) (h2 : n ≤ 120) (h3 : ∀ x, x < s_n S → kd x = s_k S x) (h4 : ∀ x, x < n → kd x < 6) (h5 : LogOk n kd l) (h6 : l.length ≤ 200) : SOk (sG S (n, kd, l)) := by
  obtain ⟨a1, a2, a3, a4, a5, a6, a7, a8, a9, a10, a11⟩ := h
  refine ⟨h2, h4, h5, h6, a5, a6, a7, a8, a9, fun i k f e m hm => ?_, fun d hd x td nm e => ?_⟩
  · obtain ⟨b1, b2, b3, b4, b5, b6, b7, b8, b9, b10⟩ := a10 i k f e m hm
    refine ⟨Nat.lt_of_lt_of_le b1 h1, b2, fun w => Nat.lt_of_lt_of_le (b3 w) h1, b4, b5, b6, fun w => ⟨Nat.lt_of_lt_of_le (b7 w).1 h1, (b7 w).2⟩, b8, b9, fun x hx => ?_⟩
    have c := b10 x hx
    exact ⟨Nat.lt_of_lt_of_le c.1 h1, by show kd x = f; rw [h3 x c.1]; exact c.2⟩
  · obtain ⟨b1, b2⟩ := a11 d hd x td nm e
    exact ⟨Nat.lt_of_lt_of_le b1 h1, b2⟩
section MC
variable {l : Launch} {D : DD} {σ : Hp} {o : Nat}
theorem RM.g {S : Sp} {τ : Hp} {g : Nat × (Nat → Nat) × List En} (h : RM σ o S) (hf : MFr [6, 7, 8, 9, 10, 11, 12, 13] [711, 716, 721] σ τ o) (h1 : RG τ o g) (h2 : h_I τ 721 o = nI 0) (h3 : SOk (sG S g)) : RM τ o (sG S g) := by
  obtain ⟨g1, g2, g3, g4, g5, g6, g7, g8, g9, g10⟩ := h
  refine ⟨hf.mL g1, h3, g3.kp hf (by decide) (by decide), fun k hk => (g4 k hk).kp hf (by decide) (by decide), g5.kp hf (by decide) (by decide) (by decide), h1, Or.inr h2, g8.kp hf (fun j a b => ?_) (by decide), g9.kp hf (fun j a b => ?_) (by decide), g10.kp hf (fun j a b => ?_) (by decide)⟩
  all_goals simp only [List.mem_cons, List.not_mem_nil, or_false]; omega
theorem c_M_changeT {e : En} {n : Nat} {kd : Nat → Nat} {lg : List En} (hM : ML σ o) (hn : n ≤ 120) (hG : RG σ o (n, kd, lg)) (hL : LogOk n kd lg) (h200 : lg.length < 200) (hv : Va n kd e (rp lg)) :
    Cn l D m_M_change 0 0 [va_rf (some o), .int (nI e.1), .int (nI e.2.1), .int (eB e), .int (nI e.2.2.2)] σ (fun r τ => r = some (.int (nI (dR e (rp lg)))) ∧ RG τ o (n, kd, e :: lg) ∧ h_I τ 721 o = nI 0 ∧ MFr [6, 7, 8, 9, 10, 11, 12, 13] [711, 716, 721] σ τ o) := by
  have hW := LogOk.wf hn hL
  obtain ⟨hR, hl1, hl2⟩ := hG
  have fc : MFr [10, 11, 12, 13] [716] σ (chg σ o lg.length (nI e.1) (nI e.2.1) (eB e) (nI e.2.2.2)) o :=
    ((((MFr.X _ _ (by decide)).tr (MFr.X _ _ (by decide))).tr (MFr.X _ _ (by decide))).tr (MFr.X _ _ (by decide))).tr (MFr.I _ _ (by decide))
  have hc := c_M_doesT (l := l) (D := D) (e := e) (fc.mL hM) hW (hR.kp fc (by decide) (by decide) (by decide) (by decide) (by decide)) hv
  refine c_M_change hM hl1 h200 (fun r τ q => ⟨_, q.1⟩) (Cn.mono hc ?_)
  rintro r τ ⟨rfl, t1, t2, t3⟩
  refine ⟨rfl, ⟨t1, ?_, fun k e' hk => ?_⟩, t2, (fc.wide (by decide) (by decide)).tr (t3.wide (by decide) (by decide))⟩
  · rw [t3.fld (by decide)]
    exact hI_w _ _ _ _
  · rw [t3.row (j := 10) (by decide), t3.row (j := 11) (by decide), t3.row (j := 12) (by decide), t3.row (j := 13) (by decide)]
    have e10 : h_X (chg σ o lg.length (nI e.1) (nI e.2.1) (eB e) (nI e.2.2.2)) (o + 1 + 10) = upd (h_X σ (o + 1 + 10)) lg.length (nI e.1) := by
      unfold chg
      rw [hX_wI, hX_n _ _ (by omega), hX_n _ _ (by omega), hX_n _ _ (by omega), hX_w]
    have e11 : h_X (chg σ o lg.length (nI e.1) (nI e.2.1) (eB e) (nI e.2.2.2)) (o + 1 + 11) = upd (h_X σ (o + 1 + 11)) lg.length (nI e.2.1) := by
      unfold chg
      rw [hX_wI, hX_n _ _ (by omega), hX_n _ _ (by omega), hX_w]
    have e12 : h_X (chg σ o lg.length (nI e.1) (nI e.2.1) (eB e) (nI e.2.2.2)) (o + 1 + 12) = upd (h_X σ (o + 1 + 12)) lg.length (eB e) := by
      unfold chg
      rw [hX_wI, hX_n _ _ (by omega), hX_w]
    have e13 : h_X (chg σ o lg.length (nI e.1) (nI e.2.1) (eB e) (nI e.2.2.2)) (o + 1 + 13) = upd (h_X σ (o + 1 + 13)) lg.length (nI e.2.2.2) := by
      unfold chg
      rw [hX_wI, hX_w]
    rw [e10, e11, e12, e13]
    rw [List.reverse_cons] at hk
    by_cases a : k < lg.length
    · rw [List.getElem?_append_left (by rw [List.length_reverse]; omega)] at hk
      rw [upd_n _ _ (by omega), upd_n _ _ (by omega), upd_n _ _ (by omega), upd_n _ _ (by omega)]
      exact hl2 k e' hk
    · rw [List.getElem?_append_right (by rw [List.length_reverse]; omega), List.length_reverse] at hk
      by_cases b : k = lg.length
      · rw [b, Nat.sub_self] at hk
        have : e = e' := Option.some.inj hk
        rw [b, upd_s, upd_s, upd_s, upd_s, this]
        exact ⟨rfl, rfl, rfl, rfl⟩
      · rw [show k - lg.length = (k - lg.length - 1) + 1 by omega] at hk
        cases hk
theorem c_M_cutS {S : Sp} {v : Int32} (h : RM σ o S) : Cn l D m_M_cut 0 0 [va_rf (some o), .int v] σ (fun r τ => r = some (.int (a_cut S v).1) ∧ RM τ o (a_cut S v).2 ∧ MFr mAR mAI σ τ o) := by
  have hM := h.1
  have hS := h.2.1
  have hG : RG σ o (s_n S, s_k S, s_l S) := h.2.2.2.2.2.1
  have hn : h_I σ 711 o = nI (s_n S) := hG.1.1
  have r5 : h_X σ (o + 1 + 7) = onT (s_n S) (s_T S) := hG.1.2.2.2.2.1
  refine Cn.of (by decide) (by repeat (first | exact ca_0 | refine ca_i ?_ | refine ca_r ?_)) (Nat.le_of_ble_eq_true rfl) ?_
  refine r_aload_n rfl rfl ?_
  refine r_iload_n rfl rfl ?_
  refine r_callV (As := [_]) rfl (by decide) rfl (by first | exact hM.1 | assumption) rfl rfl (Nat.le_of_ble_eq_true rfl) ⟨Nat.le_of_ble_eq_true rfl, Nat.le_of_ble_eq_true rfl⟩ (c_M_isThere hM hn hS.1) (kc' := 0) (ks' := 0) (by omega) (by omega) (by decide) ?_
  rintro r σ ⟨rfl, rfl⟩
  rw [r5]
  refine r_ifneB rfl (fun q => ?_) (fun q => ?_)
  · obtain ⟨x, x1, x2, rfl, x4⟩ := isTh_some hS q
    have hl := hS.2.2.2.1
    have he : h_I σ 716 o = nI (s_l S).length := hG.2.1
    refine r_aload_n rfl rfl ?_
    (first | refine r_getIv rfl hM.1 rfl (by assumption) ?_ | refine r_getI rfl hM.1 rfl ?_)
    refine r_sipush (v := nI 200) rfl (by decide) ?_
    unfold a_cut
    rw [x4]
    refine r_neN rfl (by omega) (by omega) (fun w => ?_) (fun w => ?_)
    · refine r_aload_n rfl rfl ?_
      refine r_iconst (v := nI 3) rfl (by decide) ?_
      refine r_iload_n rfl rfl ?_
      refine r_iconst (v := nI 0) rfl (by decide) ?_
      refine r_iconst (v := nI 0) rfl (by decide) ?_
      refine r_callV (As := [_, _, _, _]) rfl (by decide) rfl (by first | exact hM.1 | assumption) rfl rfl (Nat.le_of_ble_eq_true rfl) ⟨Nat.le_of_ble_eq_true rfl, Nat.le_of_ble_eq_true rfl⟩ (c_M_changeT (e := (3, x, 0, 0)) hM hS.1 hG hS.2.2.1 (by omega) (Or.inr (Or.inr (Or.inl ⟨rfl, x2, rfl⟩)))) (kc' := 0) (ks' := 0) (by omega) (by omega) (by decide) ?_
      rintro r τ ⟨rfl, t1, t2, t3⟩
      refine r_iret rfl rfl ?_
      show some (Value.int (nI (pre (rp (s_l S)) 121 x).length)) = some (Value.int (if (s_l S).length = 200 then ((-3 : Int32), S) else _).1) ∧ RM τ o (if (s_l S).length = 200 then ((-3 : Int32), S) else _).2 ∧ _
      rw [if_neg w]
      exact ⟨rfl, h.g t3 t1 t2 (hS.g (Nat.le_refl _) hS.1 (fun _ _ => rfl) hS.2.1 ⟨hS.2.2.1, Or.inr (Or.inr (Or.inl ⟨rfl, x2, rfl⟩))⟩ (by show (s_l S).length + 1 ≤ 200; omega)), t3.wide (by decide) (by decide)⟩
    · refine r_bipush (v := -3) rfl (by decide) ?_
      refine r_goto rfl ?_
      refine r_iret rfl rfl ?_
      show some (Value.int (-3)) = some (Value.int (if (s_l S).length = 200 then ((-3 : Int32), S) else _).1) ∧ RM σ o (if (s_l S).length = 200 then ((-3 : Int32), S) else _).2 ∧ _
      rw [if_pos w]
      exact ⟨rfl, h, MFr.rf _ _ _ _⟩
  · refine r_bipush (v := -2) rfl (by decide) ?_
    refine r_iret rfl rfl ?_
    unfold a_cut
    rw [isTh_none q]
    exact ⟨rfl, h, MFr.rf _ _ _ _⟩
end MC
end
section
/-! ===== the reference: add, join, undo ===== -/
theorem sib_pos {n : Nat} {kd : Nat → Nat} {T : Tr} (hW : Wf n kd T) {p i x : Nat} (h : (t_k T p)[i]? = some x) : sib T x = (t_k T p)[i + 1]? := by
  have hi := getE_lt h
  have e : (t_k T p)[i] = x := by rw [List.getElem?_eq_getElem hi] at h; exact Option.some.inj h
  unfold sib
  rw [par_of hW (List.mem_of_getElem? h)]
  show (t_k T p)[(t_k T p).idxOf x + 1]? = _
  rw [← e, List.Nodup.idxOf_getElem (hW.2.2.1 p) i hi]
theorem rp_drop {lg : List En} {k : Nat} {e : En} (h : lg.reverse[k]? = some e) : lg.drop (lg.length - (k + 1)) = e :: lg.drop (lg.length - k) := by
  have hk : k < lg.length := by
    by_cases a : k < lg.length
    · exact a
    · rw [List.getElem?_eq_none (by rw [List.length_reverse]; omega)] at h; cases h
  rw [List.getElem?_reverse hk] at h
  have h2 : lg.length - 1 - k < lg.length := by omega
  rw [List.getElem?_eq_getElem h2] at h
  rw [show lg.length - (k + 1) = lg.length - 1 - k by omega, List.drop_eq_getElem_cons h2, Option.some.inj h, show lg.length - 1 - k + 1 = lg.length - k by omega]
theorem LogOk.drop {n : Nat} {kd : Nat → Nat} : ∀ {l : List En} (j : Nat), LogOk n kd l → LogOk n kd (l.drop j)
  | [], j, _ => by rw [List.drop_nil]; trivial
  | e :: l, 0, h => h
  | e :: l, j + 1, h => LogOk.drop j h.1
section MC
variable {l : Launch} {D : DD} {σ : Hp} {o : Nat}
set_option maxHeartbeats 1000000 in
theorem c_M_addS {S : Sp} {k v i : Int32} (h : RM σ o S) : Cn l D m_M_add 0 0 [va_rf (some o), .int k, .int v, .int i] σ (fun r τ => r = some (.int (a_add S k v i).1) ∧ RM τ o (a_add S k v i).2 ∧ MFr mAR mAI σ τ o) := by
  have hM := h.1
  have hS := h.2.1
  have hW := hS.wf
  have hn9 := hS.1
  have hG : RG σ o (s_n S, s_k S, s_l S) := h.2.2.2.2.2.1
  have hn : h_I σ 711 o = nI (s_n S) := hG.1.1
  have he : h_I σ 716 o = nI (s_l S).length := hG.2.1
  have hl := hS.2.2.2.1
  obtain ⟨-, r2, r3, r4, r5, r6, r7⟩ := hG.1
  have r5 : h_X σ (o + 1 + 7) = onT (s_n S) (s_T S) := r5
  generalize hQ : (fun (r : Option Value) (τ : Hp) => r = some (.int (a_add S k v i).1) ∧ RM τ o (a_add S k v i).2 ∧ MFr mAR mAI σ τ o) = Q
  refine Cn.of (by decide) (by repeat (first | exact ca_0 | refine ca_i ?_ | refine ca_r ?_)) (Nat.le_of_ble_eq_true rfl) ?_
  have no : a_add S k v i = (-2, S) → Gm l D m_M_add 0 0 Q 33 [some (va_rf (some o)), some (.int k), some (.int v), some (.int i)] [] σ 0 0 := by
    intro e
    refine r_bipush (v := -2) rfl (by decide) ?_
    refine r_iret rfl rfl ?_
    rw [← hQ]
    show _ = some (Value.int (a_add S k v i).1) ∧ RM σ o (a_add S k v i).2 ∧ _
    rw [e]
    exact ⟨rfl, h, MFr.rf _ _ _ _⟩
  refine r_iload_n rfl rfl ?_
  refine r_callS (As := [_]) rfl (by decide) rfl rfl rfl (Nat.le_of_ble_eq_true rfl) ⟨Nat.le_of_ble_eq_true rfl, Nat.le_of_ble_eq_true rfl⟩ (c_M_isKind) (kc' := 0) (ks' := 0) (by omega) (by omega) ?_
  rintro r σ ⟨rfl, rfl⟩
  refine r_ifeqB rfl (fun q => no (by unfold a_add kiI; rw [q]; rfl)) (fun q1 => ?_)
  obtain ⟨k', hk, rfl⟩ := inB_nI (m := 5) (by omega) q1
  have hki := kiI_nI (show k' < 6 by omega)
  have cont : ∀ p, hoI S v = some p → v = cd p → liv (s_T S) p → Gm l D m_M_add 0 0 Q 20 [some (va_rf (some o)), some (.int (nI k')), some (.int v), some (.int i)] [] σ 0 0 := by
    intro p hp1 hp2 hp3
    refine r_iload_n rfl rfl ?_
    refine r_iconst (v := nI 0) rfl (by decide) ?_
    refine r_aload_n rfl rfl ?_
    refine r_iload_n rfl rfl ?_
    refine r_callV (As := [_]) rfl (by decide) rfl (by first | exact hM.1 | assumption) rfl rfl (Nat.le_of_ble_eq_true rfl) ⟨Nat.le_of_ble_eq_true rfl, Nat.le_of_ble_eq_true rfl⟩ (c_M_hanging hM hn hn9) (kc' := 0) (ks' := 0) (by omega) (by omega) (by decide) ?_
    rintro r σ ⟨rfl, rfl⟩
    rw [r5, hp2, hang_T hW hp3]
    refine r_callS (As := [_, _, _]) rfl (by decide) rfl rfl rfl (Nat.le_of_ble_eq_true rfl) ⟨Nat.le_of_ble_eq_true rfl, Nat.le_of_ble_eq_true rfl⟩ (c_M_in) (kc' := 0) (ks' := 0) (by omega) (by omega) ?_
    rintro r σ ⟨rfl, rfl⟩
    rw [show nI 0 = 0 from rfl]
    refine r_ifneB rfl (fun q2 => ?_) (fun q2 => by rw [← hp2]; exact no (by unfold a_add; rw [hki, hp1]; show (if inB i 0 (nI (t_k (s_T S) p).length) = true then _ else _) = _; rw [q2]; rfl))
    have hlen := hW.len p
    obtain ⟨i', hi, rfl⟩ := inB_nI (m := (t_k (s_T S) p).length) (by omega) q2
    have ea : a_add S (nI k') v (nI i') = if s_n S = 120 ∨ (s_l S).length = 200 then (-3, S) else (nI (s_n S), sG S (s_n S + 1, u_1 (s_k S) (s_n S) k', (1, s_n S, p, i') :: s_l S)) := by
      unfold a_add
      rw [hki, hp1]
      show (if inB (nI i') 0 (nI (t_k (s_T S) p).length) = true then _ else _) = _
      rw [if_pos q2, nI_clamp (by omega)]
    rw [hp2] at ea
    have full : (s_n S = 120 ∨ (s_l S).length = 200) → Gm l D m_M_add 0 0 Q 55 [some (va_rf (some o)), some (.int (nI k')), some (.int (cd p)), some (.int (nI i'))] [] σ 0 0 := by
      intro w
      refine r_bipush (v := -3) rfl (by decide) ?_
      refine r_iret rfl rfl ?_
      rw [← hQ]
      show _ = some (Value.int (a_add S (nI k') v (nI i')).1) ∧ RM σ o (a_add S (nI k') v (nI i')).2 ∧ _
      rw [hp2, ea, if_pos w]
      exact ⟨rfl, h, MFr.rf _ _ _ _⟩
    refine r_aload_n rfl rfl ?_
    (first | refine r_getIv rfl hM.1 rfl (by assumption) ?_ | refine r_getI rfl hM.1 rfl ?_)
    refine r_bipush (v := nI 120) rfl (by decide) ?_
    refine r_eqN rfl (by omega) (by omega) (fun w => full (Or.inl w)) (fun w1 => ?_)
    refine r_aload_n rfl rfl ?_
    (first | refine r_getIv rfl hM.1 rfl (by assumption) ?_ | refine r_getI rfl hM.1 rfl ?_)
    refine r_sipush (v := nI 200) rfl (by decide) ?_
    refine r_neN rfl (by omega) (by omega) (fun w2 => ?_) (fun w => full (Or.inr w))
    refine r_aload_n rfl rfl ?_
    refine r_mg (j := 6) hM rfl rfl (by decide) ?_
    refine r_aload_n rfl rfl ?_
    (first | refine r_getIv rfl hM.1 rfl (by assumption) ?_ | refine r_getI rfl hM.1 rfl ?_)
    refine r_iload_n rfl rfl ?_
    refine r_mis (j := 6) hM rfl rfl (by decide) (by first | rfl | assumption) (show _ < 120 by omega) ?_
    refine r_aload_n rfl rfl ?_
    refine r_mg (j := 7) hM rfl rfl (by decide) ?_
    refine r_aload_n rfl rfl ?_
    (first | refine r_getIv rfl hM.1 rfl (by assumption) ?_ | refine r_getI rfl hM.1 rfl ?_)
    refine r_bipush (v := -9) rfl (by decide) ?_
    refine r_mis (j := 7) hM rfl rfl (by decide) (by first | rfl | assumption) (show _ < 120 by omega) ?_
    refine r_aload_n rfl rfl ?_
    refine r_mg (j := 9) hM rfl rfl (by decide) ?_
    refine r_aload_n rfl rfl ?_
    (first | refine r_getIv rfl hM.1 rfl (by assumption) ?_ | refine r_getI rfl hM.1 rfl ?_)
    refine r_iconst (v := -1) rfl (by decide) ?_
    refine r_mis (j := 9) hM rfl rfl (by decide) (by first | rfl | assumption) (show _ < 120 by omega) ?_
    refine r_aload_n rfl rfl ?_
    refine r_dup rfl (by first | rfl | exact rf_cat _) ?_
    (first | refine r_getIv rfl hM.1 rfl (by assumption) ?_ | refine r_getI rfl hM.1 rfl ?_)
    refine r_iconst (v := nI 1) rfl (by decide) ?_
    (first | refine r_iaddN rfl ?_ | refine r_iadd rfl ?_)
    refine r_putI rfl hM.1 rfl (Or.inl rfl) (by first | rfl | decide) (by first | rfl | decide) ?_
    refine r_aload_n rfl rfl ?_
    refine r_iconst (v := nI 1) rfl (by decide) ?_
    refine r_aload_n rfl rfl ?_
    (first | refine r_getIv rfl hM.1 rfl (by assumption) ?_ | refine r_getI rfl hM.1 rfl ?_)
    generalize hτ : w_I (w_X (w_X (w_X σ (o + 1 + 6) (upd (h_X σ (o + 1 + 6)) (s_n S) (nI k'))) (o + 1 + 7) (upd (h_X (w_X σ (o + 1 + 6) (upd (h_X σ (o + 1 + 6)) (s_n S) (nI k'))) (o + 1 + 7)) (s_n S) (-9))) (o + 1 + 9) (upd (h_X (w_X (w_X σ (o + 1 + 6) (upd (h_X σ (o + 1 + 6)) (s_n S) (nI k'))) (o + 1 + 7) (upd (h_X (w_X σ (o + 1 + 6) (upd (h_X σ (o + 1 + 6)) (s_n S) (nI k'))) (o + 1 + 7)) (s_n S) (-9))) (o + 1 + 9)) (s_n S) (-1))) 711 o (nI (s_n S + 1)) = τ
    have ft : MFr [6, 7, 8, 9, 10, 11, 12, 13] [711, 716, 721] σ τ o := by
      rw [← hτ]
      exact (((MFr.X _ _ (by decide)).tr (MFr.X _ _ (by decide))).tr (MFr.X _ _ (by decide))).tr (MFr.I _ _ (by decide))
    have ht711 : h_I τ 711 o = nI (s_n S + 1) := by rw [← hτ]; exact hI_w _ _ _ _
    have e6 : h_X τ (o + 1 + 6) = fun x => nI (u_1 (s_k S) (s_n S) k' x) := by
      rw [← hτ, hX_wI, hX_n _ _ (by omega), hX_n _ _ (by omega), hX_w]
      funext x
      have r2 : h_X σ (o + 1 + 6) = fun x => nI (s_k S x) := r2
      rw [r2]
      by_cases e : x = s_n S
      · rw [e, upd_s, u1_s]
      · rw [upd_n _ _ e, u1_n _ _ e]
    have hW2 : Wf (s_n S + 1) (u_1 (s_k S) (s_n S) k') (s_T S) := hW.more (by omega) (by omega) (fun x hx => u1_n _ _ (by omega))
    have hoff : t_h (s_T S) (s_n S) = false := by
      cases e : t_h (s_T S) (s_n S) with
      | false => rfl
      | true => have := hW.h_lt e; omega
    have e7 : h_X τ (o + 1 + 7) = onT (s_n S + 1) (s_T S) := by
      rw [← hτ, hX_wI, hX_n _ _ (by omega), hX_w, hX_n _ _ (by omega), r5]
      refine onT_eq hW2 (fun z hz hh => ?_) (fun q z hq hz => ?_) (fun z hz => ?_)
      · by_cases e : z = s_n S
        · rw [e, upd_s]
        · rw [upd_n _ _ e]
          exact onT_off (by omega) hh
      · have := hW.k_lt hz
        rw [upd_n _ _ (by omega)]
        exact onT_on hW hq hz
      · rw [upd_n _ _ (by omega), onT, if_neg (by omega)]
    have hlg := LogOk.more (m := s_n S + 1) (kd' := u_1 (s_k S) (s_n S) k') hn9 (by omega) (fun x hx => u1_n _ _ (by omega)) hS.2.2.1
    have hG2 : RG τ o (s_n S + 1, u_1 (s_k S) (s_n S) k', s_l S) := by
      refine ⟨⟨ht711, e6, fun x hx => ?_, fun x hx => ?_, e7, fun p hp i z hz => ?_, fun x hx => ?_⟩, ?_, fun q e hq => ?_⟩
      · by_cases e : x = s_n S
        · show u_1 (s_k S) (s_n S) k' x < 6
          rw [e, u1_s]; omega
        · show u_1 (s_k S) (s_n S) k' x < 6
          rw [u1_n _ _ e]
          have hx : x < s_n S + 1 := hx
          exact r3 x (by show x < s_n S; omega)
      · have hx : s_n S + 1 ≤ x := hx
        show u_1 (s_k S) (s_n S) k' x = 0
        rw [u1_n _ _ (by omega)]
        exact r4 x (by show s_n S ≤ x; omega)
      · rw [← hτ, hX_wI, hX_n _ _ (by omega), hX_n _ _ (by omega), hX_n _ _ (by omega)]
        exact r6 p hp i z hz
      · rw [← hτ, hX_wI, hX_w, hX_n _ _ (by omega), hX_n _ _ (by omega)]
        by_cases e : x = s_n S
        · rw [e, upd_s]
          show (-1 : Int32) = oI (t_i (s_T S) (s_n S))
          cases e2 : t_i (s_T S) (s_n S) with
          | none => rfl
          | some w => have := (hW.2.2.2.2.2.2.2.1 _ _ e2).2.1; omega
        · rw [upd_n _ _ e]
          have hx : x < s_n S + 1 := hx
          exact r7 x (by show x < s_n S; omega)
      · rw [← hτ, hI_n _ _ (by decide)]
        exact he
      · rw [← hτ, hX_wI, hX_n _ _ (by omega), hX_n _ _ (by omega), hX_n _ _ (by omega), hX_n _ _ (by omega), hX_n _ _ (by omega), hX_n _ _ (by omega), hX_n _ _ (by omega), hX_n _ _ (by omega), hX_n _ _ (by omega), hX_n _ _ (by omega), hX_n _ _ (by omega), hX_n _ _ (by omega)]
        exact hG.2.2 q e hq
    have hv : Va (s_n S + 1) (u_1 (s_k S) (s_n S) k') (1, s_n S, p, i') (rp (s_l S)) := by
      refine Or.inl ⟨rfl, by show s_n S < s_n S + 1; omega, hoff, ?_, ?_, fun q hq => ?_, hp3, hi⟩
      · show t_k (s_T S) (s_n S) = []
        cases e : t_k (s_T S) (s_n S) with
        | nil => rfl
        | cons c ks =>
          have := hW.2.1 (s_n S) c (by rw [e]; exact List.mem_cons_self)
          omega
      · show t_i (s_T S) (s_n S) = none
        cases e2 : t_i (s_T S) (s_n S) with
        | none => rfl
        | some w => have := (hW.2.2.2.2.2.2.2.1 _ _ e2).2.1; omega
      · have := hW.k_lt (show s_n S ∈ t_k (s_T S) q from hq)
        omega
    have hMt : ML τ o := ft.mL hM
    rw [ht711]
    refine r_iconst (v := nI 1) rfl (by decide) ?_
    refine r_isubN rfl (by omega) ?_
    rw [show s_n S + 1 - 1 = s_n S by omega]
    refine r_iload_n rfl rfl ?_
    refine r_iload_n rfl rfl ?_
    refine r_callV (As := [_, _, _, _]) rfl (by decide) rfl hMt.1 rfl rfl (Nat.le_of_ble_eq_true rfl) ⟨Nat.le_of_ble_eq_true rfl, Nat.le_of_ble_eq_true rfl⟩ (c_M_changeT (e := (1, s_n S, p, i')) hMt (by omega) hG2 hlg (by omega) hv) (kc' := 0) (ks' := 0) (by omega) (by omega) (by decide) ?_
    rintro r ρ ⟨rfl, t1, t2, t3⟩
    refine r_iret rfl rfl ?_
    rw [← hQ]
    show _ = some (Value.int (a_add S (nI k') v (nI i')).1) ∧ RM ρ o (a_add S (nI k') v (nI i')).2 ∧ _
    rw [hp2, ea, if_neg (fun w => w.elim w1 w2)]
    refine ⟨rfl, h.g (ft.tr t3) t1 t2 (hS.g (by omega) (by omega) (fun x hx => u1_n _ _ (by omega)) (fun x hx => ?_) ⟨hlg, hv⟩ (by show (s_l S).length + 1 ≤ 200; omega)), (ft.tr t3).wide (by decide) (by decide)⟩
    by_cases e : x = s_n S
    · rw [e, u1_s]; omega
    · rw [u1_n _ _ e]
      exact hS.2.1 x (by omega)
  refine r_iload_n rfl rfl ?_
  refine r_iconst (v := -1) rfl (by decide) ?_
  refine r_icmp_eq rfl (fun q => cont 120 (by unfold hoI; rw [if_pos q]) q (Or.inl rfl)) (fun q => ?_)
  refine r_aload_n rfl rfl ?_
  refine r_iload_n rfl rfl ?_
  refine r_callV (As := [_]) rfl (by decide) rfl (by first | exact hM.1 | assumption) rfl rfl (Nat.le_of_ble_eq_true rfl) ⟨Nat.le_of_ble_eq_true rfl, Nat.le_of_ble_eq_true rfl⟩ (c_M_isThere hM hn hn9) (kc' := 0) (ks' := 0) (by omega) (by omega) (by decide) ?_
  rintro r σ ⟨rfl, rfl⟩
  rw [r5]
  refine r_ifeqB rfl (fun q2 => no (by unfold a_add hoI; rw [hki, if_neg q, isTh_none q2])) (fun q2 => ?_)
  obtain ⟨x, x1, x2, rfl, x4⟩ := isTh_some hS q2
  exact cont x (by unfold hoI; rw [if_neg q]; exact x4) (cd_n (by omega)).symm (Or.inr x2)
end MC
end
section
/-! ===== the reference: join, undo ===== -/
theorem join_iff {n : Nat} {kd : Nat → Nat} {T : Tr} (hW : Wf n kd T) {pl : Nat → Int32} (hp : ∀ p, liv T p → ∀ i z, (t_k T p)[i]? = some z → pl z = nI i) {x y : Nat} (hx : t_h T x = true) (hy : t_h T y = true) : (onT n T x = onT n T y ∧ pl y = pl x + nI 1) ↔ sib T x = some y := by
  obtain ⟨p, i, p1, p2, p3⟩ := hW.pos hx
  obtain ⟨q, j, q1, q2, q3⟩ := hW.pos hy
  have hi := getE_lt p2
  have hj := getE_lt q2
  have l1 := hW.len p
  have l2 := hW.len q
  have hn := hW.1
  rw [onT_on hW p1 (List.mem_of_getElem? p2), onT_on hW q1 (List.mem_of_getElem? q2), hp p p1 i x p2, hp q q1 j y q2, sib_pos hW p2, nI_add]
  constructor
  · rintro ⟨a, b⟩
    have a := cd_inj (hW.liv_le p1) (hW.liv_le q1) a
    have b := (nI_eq (by omega) (by omega)).mp b
    rw [a, ← b]
    exact q2
  · intro h
    have a := par_of hW (List.mem_of_getElem? h)
    rw [a] at q3
    have a := Option.some.inj q3
    subst a
    refine ⟨rfl, ?_⟩
    have := (List.getElem?_inj hj (hW.2.2.1 p)).mp (q2.trans h.symm)
    rw [this]
theorem jn_VJ {n : Nat} {kd : Nat → Nat} {T : Tr} (hW : Wf n kd T) {x y : Nat} (hx : t_h T x = true) (hy : t_h T y = true) (hk : kd x = kd y) (h : sib T x = some y) : VJ kd T x y := by
  obtain ⟨p, i, p1, p2, p3⟩ := hW.pos hx
  rw [sib_pos hW p2] at h
  exact ⟨hx, hy, hk, p, i, p1, p2, h⟩
section MC
variable {l : Launch} {D : DD} {σ : Hp} {o : Nat}
set_option maxHeartbeats 1000000 in
theorem c_M_joinS {S : Sp} {v w : Int32} (h : RM σ o S) : Cn l D m_M_join 0 0 [va_rf (some o), .int v, .int w] σ (fun r τ => r = some (.int (a_join S v w).1) ∧ RM τ o (a_join S v w).2 ∧ MFr mAR mAI σ τ o) := by
  have hM := h.1
  have hS := h.2.1
  have hW := hS.wf
  have hn9 := hS.1
  have hG : RG σ o (s_n S, s_k S, s_l S) := h.2.2.2.2.2.1
  have hn : h_I σ 711 o = nI (s_n S) := hG.1.1
  have he : h_I σ 716 o = nI (s_l S).length := hG.2.1
  have hl := hS.2.2.2.1
  obtain ⟨-, r2, r3, r4, r5, r6, r7⟩ := hG.1
  have r5 : h_X σ (o + 1 + 7) = onT (s_n S) (s_T S) := r5
  have r2 : h_X σ (o + 1 + 6) = fun x => nI (s_k S x) := r2
  have r6 : ∀ p, liv (s_T S) p → ∀ i z, (t_k (s_T S) p)[i]? = some z → h_X σ (o + 1 + 8) z = nI i := r6
  generalize hQ : (fun (r : Option Value) (τ : Hp) => r = some (.int (a_join S v w).1) ∧ RM τ o (a_join S v w).2 ∧ MFr mAR mAI σ τ o) = Q
  refine Cn.of (by decide) (by repeat (first | exact ca_0 | refine ca_i ?_ | refine ca_r ?_)) (Nat.le_of_ble_eq_true rfl) ?_
  have no : a_join S v w = (-2, S) → Gm l D m_M_join 0 0 Q 68 [some (va_rf (some o)), some (.int v), some (.int w)] [] σ 0 0 := by
    intro e
    refine r_bipush (v := -2) rfl (by decide) ?_
    refine r_iret rfl rfl ?_
    rw [← hQ]
    show _ = some (Value.int (a_join S v w).1) ∧ RM σ o (a_join S v w).2 ∧ _
    rw [e]
    exact ⟨rfl, h, MFr.rf _ _ _ _⟩
  refine r_aload_n rfl rfl ?_
  refine r_iload_n rfl rfl ?_
  refine r_callV (As := [_]) rfl (by decide) rfl (by first | exact hM.1 | assumption) rfl rfl (Nat.le_of_ble_eq_true rfl) ⟨Nat.le_of_ble_eq_true rfl, Nat.le_of_ble_eq_true rfl⟩ (c_M_isThere hM hn hn9) (kc' := 0) (ks' := 0) (by omega) (by omega) (by decide) ?_
  rintro r σ ⟨rfl, rfl⟩
  rw [r5]
  refine r_ifeqB rfl (fun q => no (by unfold a_join; rw [isTh_none q])) (fun q1 => ?_)
  obtain ⟨x, x1, x2, rfl, x4⟩ := isTh_some hS q1
  refine r_aload_n rfl rfl ?_
  refine r_iload_n rfl rfl ?_
  refine r_callV (As := [_]) rfl (by decide) rfl (by first | exact hM.1 | assumption) rfl rfl (Nat.le_of_ble_eq_true rfl) ⟨Nat.le_of_ble_eq_true rfl, Nat.le_of_ble_eq_true rfl⟩ (c_M_isThere hM hn hn9) (kc' := 0) (ks' := 0) (by omega) (by omega) (by decide) ?_
  rintro r σ ⟨rfl, rfl⟩
  rw [r5]
  refine r_ifeqB rfl (fun q => no (by unfold a_join; rw [x4, isTh_none q])) (fun q2 => ?_)
  obtain ⟨y, y1, y2, rfl, y4⟩ := isTh_some hS q2
  have hji := join_iff hW r6 x2 y2
  have ea : a_join S (nI x) (nI y) = if jnB S x y = true then (if (s_l S).length = 200 then (-3, S) else (nI ((t_k (s_T S) x).length + (t_k (s_T S) y).length), sG S (s_n S, s_k S, (4, x, y, 0) :: s_l S))) else (-2, S) := by
    unfold a_join
    rw [x4, y4]
  refine r_iload_n rfl rfl ?_
  refine r_iload_n rfl rfl ?_
  refine r_eqN rfl (by omega) (by omega) (fun q => no ?_) (fun q3 => ?_)
  · rw [ea, if_neg ?_]
    intro w
    simp only [jnB, Bool.and_eq_true, decide_eq_true_eq] at w
    subst q
    obtain ⟨p, i, p1, p2, p3⟩ := hW.pos x2
    have := w.2
    rw [sib_pos hW p2] at this
    have := (List.getElem?_inj (getE_lt p2) (hW.2.2.1 p)).mp (p2.trans this.symm)
    omega
  refine r_aload_n rfl rfl ?_
  refine r_mg (j := 6) hM rfl rfl (by decide) ?_
  refine r_iload_n rfl rfl ?_
  refine r_mi (j := 6) hM rfl rfl (by decide) (by first | rfl | assumption) (show _ < 120 by omega) ?_
  refine r_aload_n rfl rfl ?_
  refine r_mg (j := 6) hM rfl rfl (by decide) ?_
  refine r_iload_n rfl rfl ?_
  refine r_mi (j := 6) hM rfl rfl (by decide) (by first | rfl | assumption) (show _ < 120 by omega) ?_
  rw [r2]
  refine r_neN rfl (by have := hS.2.1 x x1; omega) (by have := hS.2.1 y y1; omega) (fun q => no ?_) (fun q4 => ?_)
  · rw [ea, if_neg (fun w => ?_)]
    simp only [jnB, Bool.and_eq_true, decide_eq_true_eq] at w
    exact q w.1
  refine r_aload_n rfl rfl ?_
  refine r_mg (j := 7) hM rfl rfl (by decide) ?_
  refine r_iload_n rfl rfl ?_
  refine r_mi (j := 7) hM rfl rfl (by decide) (by first | rfl | assumption) (show _ < 120 by omega) ?_
  refine r_aload_n rfl rfl ?_
  refine r_mg (j := 7) hM rfl rfl (by decide) ?_
  refine r_iload_n rfl rfl ?_
  refine r_mi (j := 7) hM rfl rfl (by decide) (by first | rfl | assumption) (show _ < 120 by omega) ?_
  rw [r5]
  refine r_icmp_ne rfl (fun q => no ?_) (fun q5 => ?_)
  · rw [ea, if_neg (fun w => ?_)]
    simp only [jnB, Bool.and_eq_true, decide_eq_true_eq] at w
    exact q (hji.mpr w.2).1
  refine r_aload_n rfl rfl ?_
  refine r_mg (j := 8) hM rfl rfl (by decide) ?_
  refine r_iload_n rfl rfl ?_
  refine r_mi (j := 8) hM rfl rfl (by decide) (by first | rfl | assumption) (show _ < 120 by omega) ?_
  refine r_aload_n rfl rfl ?_
  refine r_mg (j := 8) hM rfl rfl (by decide) ?_
  refine r_iload_n rfl rfl ?_
  refine r_mi (j := 8) hM rfl rfl (by decide) (by first | rfl | assumption) (show _ < 120 by omega) ?_
  refine r_iconst (v := nI 1) rfl (by decide) ?_
  refine r_iadd rfl ?_
  refine r_icmp_eq rfl (fun q6 => ?_) (fun q => no ?_)
  · have hs := hji.mp ⟨q5, q6⟩
    have hj : jnB S x y = true := by
      unfold jnB
      rw [decide_eq_true q4, decide_eq_true hs]
      rfl
    rw [if_pos hj] at ea
    refine r_aload_n rfl rfl ?_
    (first | refine r_getIv rfl hM.1 rfl (by assumption) ?_ | refine r_getI rfl hM.1 rfl ?_)
    refine r_sipush (v := nI 200) rfl (by decide) ?_
    refine r_neN rfl (by omega) (by omega) (fun w => ?_) (fun w => ?_)
    · refine r_aload_n rfl rfl ?_
      refine r_iconst (v := nI 4) rfl (by decide) ?_
      refine r_iload_n rfl rfl ?_
      refine r_iload_n rfl rfl ?_
      refine r_iconst (v := nI 0) rfl (by decide) ?_
      refine r_callV (As := [_, _, _, _]) rfl (by decide) rfl (by first | exact hM.1 | assumption) rfl rfl (Nat.le_of_ble_eq_true rfl) ⟨Nat.le_of_ble_eq_true rfl, Nat.le_of_ble_eq_true rfl⟩ (c_M_changeT (e := (4, x, y, 0)) hM hS.1 hG hS.2.2.1 (by omega) (Or.inr (Or.inr (Or.inr ⟨rfl, jn_VJ hW x2 y2 q4 hs⟩)))) (kc' := 0) (ks' := 0) (by omega) (by omega) (by decide) ?_
      rintro r τ ⟨rfl, t1, t2, t3⟩
      refine r_iret rfl rfl ?_
      rw [← hQ]
      show _ = some (Value.int (a_join S (nI x) (nI y)).1) ∧ RM τ o (a_join S (nI x) (nI y)).2 ∧ _
      rw [ea, if_neg w]
      exact ⟨rfl, h.g t3 t1 t2 (hS.g (Nat.le_refl _) hS.1 (fun _ _ => rfl) hS.2.1 ⟨hS.2.2.1, Or.inr (Or.inr (Or.inr ⟨rfl, jn_VJ hW x2 y2 q4 hs⟩))⟩ (by show (s_l S).length + 1 ≤ 200; omega)), t3.wide (by decide) (by decide)⟩
    · refine r_bipush (v := -3) rfl (by decide) ?_
      refine r_goto rfl ?_
      refine r_iret rfl rfl ?_
      rw [← hQ]
      show _ = some (Value.int (a_join S (nI x) (nI y)).1) ∧ RM σ o (a_join S (nI x) (nI y)).2 ∧ _
      rw [ea, if_pos w]
      exact ⟨rfl, h, MFr.rf _ _ _ _⟩
  · rw [ea, if_neg (fun w => ?_)]
    simp only [jnB, Bool.and_eq_true, decide_eq_true_eq] at w
    exact q (hji.mpr w.2).2
set_option maxHeartbeats 1000000 in
theorem c_M_undoS {S : Sp} (h : RM σ o S) : Cn l D m_M_undo 0 0 [va_rf (some o)] σ (fun r τ => r = some (.int (a_undo S).1) ∧ RM τ o (a_undo S).2 ∧ MFr mAR mAI σ τ o) := by
  have hM := h.1
  have hS := h.2.1
  have hn9 := hS.1
  have hG : RG σ o (s_n S, s_k S, s_l S) := h.2.2.2.2.2.1
  have hn : h_I σ 711 o = nI (s_n S) := hG.1.1
  have he : h_I σ 716 o = nI (s_l S).length := hG.2.1
  have hl := hS.2.2.2.1
  obtain ⟨-, r2, r3, r4, r5, r6, r7⟩ := hG.1
  have hlog := hS.2.2.1
  generalize hQ : (fun (r : Option Value) (τ : Hp) => r = some (.int (a_undo S).1) ∧ RM τ o (a_undo S).2 ∧ MFr mAR mAI σ τ o) = Q
  refine Cn.of (by decide) (by repeat (first | exact ca_0 | refine ca_i ?_ | refine ca_r ?_)) (Nat.le_of_ble_eq_true rfl) ?_
  cases hlg : s_l S with
  | nil =>
    rw [hlg] at he
    refine r_aload_n rfl rfl ?_
    (first | refine r_getIv rfl hM.1 rfl (by assumption) ?_ | refine r_getI rfl hM.1 rfl ?_)
    refine r_if_ne rfl (fun q => absurd rfl q) (fun q => ?_)
    refine r_iconst (v := -1) rfl (by decide) ?_
    refine r_iret rfl rfl ?_
    rw [← hQ]
    unfold a_undo
    rw [hlg]
    exact ⟨rfl, h, MFr.rf _ _ _ _⟩
  | cons e lg =>
    rw [hlg] at he hl hlog hG
    rw [List.length_cons] at he hl
    have hrl := hG.2.2
    refine r_aload_n rfl rfl ?_
    (first | refine r_getIv rfl hM.1 rfl (by assumption) ?_ | refine r_getI rfl hM.1 rfl ?_)
    refine r_if_ne rfl (fun _ => ?_) (fun q => absurd q (nI_ne0 (by omega) (by omega)))
    refine r_aload_n rfl rfl ?_
    refine r_dup rfl (by first | rfl | exact rf_cat _) ?_
    (first | refine r_getIv rfl hM.1 rfl (by assumption) ?_ | refine r_getI rfl hM.1 rfl ?_)
    refine r_iconst (v := nI 1) rfl (by decide) ?_
    refine r_isubN rfl (by omega) ?_
    rw [show lg.length + 1 - 1 = lg.length by omega]
    refine r_putI rfl hM.1 rfl (Or.inl rfl) (by first | rfl | decide) (by first | rfl | decide) ?_
    refine r_iconst (v := nI 0) rfl (by decide) ?_
    refine r_istore_n rfl (by decide) ?_
    have hn2 : ∀ (g7 g9 : Nat → Int32), h_I (w_X (w_X (w_I σ 716 o (nI lg.length)) (o + 1 + 7) g7) (o + 1 + 9) g9) 711 o = nI (s_n S) := fun _ _ => by
      rw [hI_wX, hI_wX, hI_n _ _ (by decide)]
      exact hn
    -- the second loop
    have lp2 : ∀ (d k : Nat) (τ : Hp) (z : Option Value), k + d = lg.length → RT τ o (s_n S) (s_k S) (rp (lg.drop (lg.length - k))) → MFr [7, 8, 9] [716, 721] σ τ o → h_I τ 716 o = nI lg.length → Gm l D m_M_undo 0 0 Q 52 [some (va_rf (some o)), some (.int (nI k)), z] [] τ 0 0 := by
      intro d
      induction d with
      | zero =>
        intro k τ z hk hR hf h716
        have hM : ML τ o := hf.mL hM
        refine r_iload_n rfl rfl ?_
        refine r_aload_n rfl rfl ?_
        (first | refine r_getIv rfl hM.1 rfl (by assumption) ?_ | refine r_getI rfl hM.1 rfl ?_)
        refine r_geN rfl (by omega) (by omega) (fun _ => ?_) (fun q => by omega)
        refine r_aload_n rfl rfl ?_
        refine r_iconst (v := nI 0) rfl (by decide) ?_
        refine r_putI rfl hM.1 rfl (Or.inl rfl) (by first | rfl | decide) (by first | rfl | decide) ?_
        have h716' : h_I (w_I τ 721 o (nI 0)) 716 o = nI lg.length := (hI_n _ _ (by decide)).trans h716
        refine r_aload_n rfl rfl ?_
        (first | refine r_getIv rfl hM.1 rfl (by assumption) ?_ | refine r_getI rfl hM.1 rfl ?_)
        refine r_iret rfl rfl ?_
        rw [← hQ]
        show _ = some (Value.int (a_undo S).1) ∧ RM _ o (a_undo S).2 ∧ _
        have ea : a_undo S = (nI lg.length, sG S (s_n S, s_k S, lg)) := by
          unfold a_undo
          rw [hlg]
        rw [ea]
        have hf2 : MFr [6, 7, 8, 9, 10, 11, 12, 13] [711, 716, 721] σ (w_I τ 721 o (nI 0)) o := (hf.wide (by decide) (by decide)).tr (MFr.I _ _ (by decide))
        have hf3 : MFr [7, 8, 9] [716, 721] σ (w_I τ 721 o (nI 0)) o := hf.tr (MFr.I _ _ (by decide))
        refine ⟨rfl, h.g hf2 ⟨?_, h716', fun q e' hq => ?_⟩ (hI_w _ _ _ _) (hS.g (Nat.le_refl _) hn9 (fun _ _ => rfl) hS.2.1 hlog.1 (by omega)), hf2.wide (by decide) (by decide)⟩
        · rw [show lg.length - k = 0 by omega, List.drop_zero] at hR
          have : MFr ([] : List Nat) [721] τ (w_I τ 721 o (nI 0)) o := MFr.I _ _ (by decide)
          exact hR.kp this (by decide) (by decide) (by decide) (by decide) (by decide)
        · rw [hf3.row (j := 10) (by decide), hf3.row (j := 11) (by decide), hf3.row (j := 12) (by decide), hf3.row (j := 13) (by decide)]
          refine hrl q e' ?_
          rw [List.reverse_cons, List.getElem?_append_left]
          · exact hq
          · by_cases a : q < lg.reverse.length
            · exact a
            · have hq : lg.reverse[q]? = some e' := hq
              rw [List.getElem?_eq_none (by omega)] at hq; cases hq
      | succ d ih =>
        intro k τ z hk hR hf h716
        have hM : ML τ o := hf.mL hM
        have hlen : k < lg.reverse.length := by rw [List.length_reverse]; omega
        obtain ⟨e', he'⟩ : ∃ e', lg.reverse[k]? = some e' := ⟨_, List.getElem?_eq_getElem hlen⟩
        obtain ⟨w1, w2, w3, w4⟩ := hrl k e' (by rw [List.reverse_cons, List.getElem?_append_left hlen]; exact he')
        rw [← hf.row (j := 10) (by decide)] at w1
        rw [← hf.row (j := 11) (by decide)] at w2
        rw [← hf.row (j := 12) (by decide)] at w3
        rw [← hf.row (j := 13) (by decide)] at w4
        have hd := rp_drop he'
        have hlk := LogOk.drop (lg.length - (k + 1)) hlog.1
        rw [hd] at hlk
        refine r_iload_n rfl rfl ?_
        refine r_aload_n rfl rfl ?_
        (first | refine r_getIv rfl hM.1 rfl (by assumption) ?_ | refine r_getI rfl hM.1 rfl ?_)
        refine r_geN rfl (by omega) (by omega) (fun q => by omega) (fun _ => ?_)
        refine r_aload_n rfl rfl ?_
        refine r_aload_n rfl rfl ?_
        refine r_mg (j := 10) hM rfl rfl (by decide) ?_
        refine r_iload_n rfl rfl ?_
        refine r_mi (j := 10) hM rfl rfl (by decide) (by first | rfl | assumption) (show _ < 200 by omega) ?_
        refine r_aload_n rfl rfl ?_
        refine r_mg (j := 11) hM rfl rfl (by decide) ?_
        refine r_iload_n rfl rfl ?_
        refine r_mi (j := 11) hM rfl rfl (by decide) (by first | rfl | assumption) (show _ < 200 by omega) ?_
        refine r_aload_n rfl rfl ?_
        refine r_mg (j := 12) hM rfl rfl (by decide) ?_
        refine r_iload_n rfl rfl ?_
        refine r_mi (j := 12) hM rfl rfl (by decide) (by first | rfl | assumption) (show _ < 200 by omega) ?_
        refine r_aload_n rfl rfl ?_
        refine r_mg (j := 13) hM rfl rfl (by decide) ?_
        refine r_iload_n rfl rfl ?_
        refine r_mi (j := 13) hM rfl rfl (by decide) (by first | rfl | assumption) (show _ < 200 by omega) ?_
        rw [w1, w2, w3, w4]
        refine r_callV (As := [_, _, _, _]) rfl (by decide) rfl (by first | exact hM.1 | assumption) rfl rfl (Nat.le_of_ble_eq_true rfl) ⟨Nat.le_of_ble_eq_true rfl, Nat.le_of_ble_eq_true rfl⟩ (c_M_doesT hM (LogOk.wf hn9 hlk.1) hR hlk.2) (kc' := 0) (ks' := 0) (by omega) (by omega) (by decide) ?_
        rintro r ρ ⟨rfl, t1, t2, t3⟩
        refine r_istore_n rfl (by decide) ?_
        refine r_iinc rfl rfl (nI_inc _) ?_
        refine r_goto rfl ?_
        refine ih (k + 1) ρ _ (by omega) ?_ (hf.tr (t3.wide (by decide) (by decide))) (by rw [t3.fld (by decide)]; exact h716)
        rw [hd]
        exact t1
    -- the first loop
    have lp1 : ∀ (d i : Nat) (g7 g9 : Nat → Int32), i + d = s_n S → (∀ z, z < i → g7 z = -9 ∧ g9 z = -1) → (∀ z, i ≤ z → g7 z = h_X σ (o + 1 + 7) z) → Gm l D m_M_undo 0 0 Q 21 [some (va_rf (some o)), some (.int (nI i)), none] [] (w_X (w_X (w_I σ 716 o (nI lg.length)) (o + 1 + 7) g7) (o + 1 + 9) g9) 0 0 := by
      intro d
      induction d with
      | zero =>
        intro i g7 g9 hi h1 h2
        have h711 := hn2 g7 g9
        refine r_iload_n rfl rfl ?_
        refine r_aload_n rfl rfl ?_
        (first | refine r_getIv rfl hM.1 rfl (by assumption) ?_ | refine r_getI rfl hM.1 rfl ?_)
        refine r_geN rfl (by omega) (by omega) (fun _ => ?_) (fun q => by omega)
        refine r_iconst (v := nI 0) rfl (by decide) ?_
        refine r_istore_n rfl (by decide) ?_
        have hf : MFr [7, 8, 9] [716, 721] σ (w_X (w_X (w_I σ 716 o (nI lg.length)) (o + 1 + 7) g7) (o + 1 + 9) g9) o := ((MFr.I _ _ (by decide)).tr (MFr.X _ _ (by decide))).tr (MFr.X _ _ (by decide))
        refine lp2 lg.length 0 _ none (by omega) ?_ hf (hI_w _ _ _ _)
        rw [Nat.sub_zero, List.drop_eq_nil_of_le (Nat.le_refl _)]
        refine ⟨h711, ?_, r3, r4, ?_, fun p hp i z hz => ?_, fun x hx => ?_⟩
        · rw [hf.row (j := 6) (by decide)]
          exact r2
        · rw [hX_n _ _ (by omega), hX_w]
          refine onT_eq (kd := s_k S) (Wf_T0 hn9) (fun z hz _ => (h1 z (by omega)).1) (fun q z _ hz => by cases hz) (fun z hz => ?_)
          rw [h2 z (by omega), r5]
          show onT (s_n S) (rp (s_l S)) z = 0
          rw [onT, if_neg (by omega)]
        · cases i <;> cases hz
        · rw [hX_w]
          exact (h1 x (by omega)).2
      | succ d ih =>
        intro i g7 g9 hi h1 h2
        have h711 := hn2 g7 g9
        refine r_iload_n rfl rfl ?_
        refine r_aload_n rfl rfl ?_
        (first | refine r_getIv rfl hM.1 rfl (by assumption) ?_ | refine r_getI rfl hM.1 rfl ?_)
        refine r_geN rfl (by omega) (by omega) (fun q => by omega) (fun _ => ?_)
        refine r_aload_n rfl rfl ?_
        refine r_mg (j := 7) hM rfl rfl (by decide) ?_
        refine r_iload_n rfl rfl ?_
        refine r_bipush (v := -9) rfl (by decide) ?_
        refine r_mis (j := 7) hM rfl rfl (by decide) (by first | rfl | assumption) (show _ < 120 by omega) ?_
        refine r_aload_n rfl rfl ?_
        refine r_mg (j := 9) hM rfl rfl (by decide) ?_
        refine r_iload_n rfl rfl ?_
        refine r_iconst (v := -1) rfl (by decide) ?_
        refine r_mis (j := 9) hM rfl rfl (by decide) (by first | rfl | assumption) (show _ < 120 by omega) ?_
        refine r_iinc rfl rfl (nI_inc _) ?_
        refine r_goto rfl ?_
        rw [hX_n _ _ (show o + 1 + 7 ≠ o + 1 + 9 by omega), hX_w, wX_comm (w_X (w_I σ 716 o (nI lg.length)) (o + 1 + 7) g7) _ _ (show o + 1 + 9 ≠ o + 1 + 7 by omega), wX_same, hX_w, wX_same]
        refine ih (i + 1) _ _ (by omega) (fun z hz => ?_) (fun z hz => ?_)
        · by_cases e2 : z = i
          · rw [e2, upd_s, upd_s]
            exact ⟨rfl, rfl⟩
          · rw [upd_n _ _ e2, upd_n _ _ e2]
            exact h1 z (by omega)
        · rw [upd_n _ _ (by omega)]
          exact h2 z (by omega)
    have e1 : w_X (w_X (w_I σ 716 o (nI lg.length)) (o + 1 + 7) (h_X (w_I σ 716 o (nI lg.length)) (o + 1 + 7))) (o + 1 + 9) (h_X (w_I σ 716 o (nI lg.length)) (o + 1 + 9)) = w_I σ 716 o (nI lg.length) := by
      rw [wX_self]
      exact wX_self _ _
    have := lp1 (s_n S) 0 (h_X (w_I σ 716 o (nI lg.length)) (o + 1 + 7)) (h_X (w_I σ 716 o (nI lg.length)) (o + 1 + 9)) (by omega) (fun z hz => by omega) (fun z _ => rfl)
    rw [e1] at this
    exact this
end MC
end
section
/-! ===== the reference: move ===== -/
def n_mk (S : Sp) : (Nat → Int32) × (Nat → List Int32) := mkO (onT (s_n S) (s_T S)) (fun x => nI (s_k S x)) (f_c (s_f S)) (f_y (s_f S)) (f_j (s_f S)) (ordT (s_T S)) (ordT (s_T S)).length
def n_b (S : Sp) (x : Nat) : Int32 := (n_mk S).1 x
def n_n (S : Sp) (x : Nat) : List Int32 := (n_mk S).2 x
def n_c (S : Sp) (i : Nat) : Nat := ctO (onT (s_n S) (s_T S)) (fun x => nI (s_k S x)) (f_c (s_f S)) (ordT (s_T S)) i
def a_move (S : Sp) (v p i : Int32) : Int32 × Sp := match thI S v, hoI S p with
  | some x, some p' => if bel (s_T S) x p' = true then (-2, S) else if inB i 0 (nI (rmv (t_k (s_T S) p') x).length) = true then (if (s_l S).length = 200 then (-3, S) else
      (nI (cntB (fun y => t_h (s_T S) y && decide (n_n S y ≠ n_n (sG S (s_n S, s_k S, (2, x, p', i.toNatClampNeg) :: s_l S)) y)) (s_n S)), sG S (s_n S, s_k S, (2, x, p', i.toNatClampNeg) :: s_l S))) else (-2, S)
  | _, _ => (-2, S)
theorem list_ne {A B : List Int32} {q : Nat} (hl : A.length = B.length) (hq : q < A.length) (h : A.getD q 0 ≠ B.getD q 0) : A ≠ B := fun e => h (by rw [e])
section MC
variable {l : Launch} {D : DD} {σ : Hp} {o : Nat}
theorem RMd.tx {S : Sp} (h : RMd σ o S) {x : Nat} (hx : x < s_n S) : Tx σ o 18 19 x (n_n S x) := h.2.2.2.2.2.2.2.2.2.1 x hx
set_option maxRecDepth 10000 in
set_option maxHeartbeats 4000000 in
theorem c_M_moveS {S : Sp} {v w i : Int32} (h : RM σ o S) : Cn l D m_M_move 0 0 [va_rf (some o), .int v, .int w, .int i] σ (fun r τ => r = some (.int (a_move S v w i).1) ∧ RM τ o (a_move S v w i).2 ∧ MFr mAR mAI σ τ o) := by
  have hM := h.1
  have hS := h.2.1
  have hW := hS.wf
  have hn9 := hS.1
  have hG : RG σ o (s_n S, s_k S, s_l S) := h.2.2.2.2.2.1
  have hn : h_I σ 711 o = nI (s_n S) := hG.1.1
  have he : h_I σ 716 o = nI (s_l S).length := hG.2.1
  have hl := hS.2.2.2.1
  have r5 : h_X σ (o + 1 + 7) = onT (s_n S) (s_T S) := hG.1.2.2.2.2.1
  generalize hQ : (fun (r : Option Value) (τ : Hp) => r = some (.int (a_move S v w i).1) ∧ RM τ o (a_move S v w i).2 ∧ MFr mAR mAI σ τ o) = Q
  refine Cn.of (by decide) (by repeat (first | exact ca_0 | refine ca_i ?_ | refine ca_r ?_)) (Nat.le_of_ble_eq_true rfl) ?_
  have no : a_move S v w i = (-2, S) → Gm l D m_M_move 0 0 Q 59 [some (va_rf (some o)), some (.int v), some (.int w), some (.int i), none, none, none, none] [] σ 0 0 := by
    intro e
    refine r_bipush (v := -2) rfl (by decide) ?_
    refine r_iret rfl rfl ?_
    rw [← hQ]
    show _ = some (Value.int (a_move S v w i).1) ∧ RM σ o (a_move S v w i).2 ∧ _
    rw [e]
    exact ⟨rfl, h, MFr.rf _ _ _ _⟩
  refine r_aload_n rfl rfl ?_
  refine r_iload_n rfl rfl ?_
  refine r_callV (As := [_]) rfl (by decide) rfl (by first | exact hM.1 | assumption) rfl rfl (Nat.le_of_ble_eq_true rfl) ⟨Nat.le_of_ble_eq_true rfl, Nat.le_of_ble_eq_true rfl⟩ (c_M_isThere hM hn hn9) (kc' := 0) (ks' := 0) (by omega) (by omega) (by decide) ?_
  rintro r σ ⟨rfl, rfl⟩
  rw [r5]
  refine r_ifeqB rfl (fun q => no (by unfold a_move; rw [isTh_none q])) (fun q1 => ?_)
  obtain ⟨x, x1, x2, rfl, x4⟩ := isTh_some hS q1
  have cont : ∀ p, hoI S w = some p → w = cd p → liv (s_T S) p → bel (s_T S) x p = false → Gm l D m_M_move 0 0 Q 30 [some (va_rf (some o)), some (.int (nI x)), some (.int w), some (.int i), none, none, none, none] [] σ 0 0 := by
    intro p hp1 hp2 hp3 hp4
    have hlen := hW.len p
    have hlen2 : (if onT (s_n S) (s_T S) x = w then (t_k (s_T S) p).length - 1 else (t_k (s_T S) p).length) = (rmv (t_k (s_T S) p) x).length ∧ (onT (s_n S) (s_T S) x = w → 0 < (t_k (s_T S) p).length) := by
      by_cases e : onT (s_n S) (s_T S) x = w
      · have hm := (onT_iff hW x1 hp3).mp (e.trans hp2)
        obtain ⟨k, hk, e2⟩ := List.getElem_of_mem hm
        have := rmv_len (hW.2.2.1 p) (show (t_k (s_T S) p)[k]? = some x by rw [List.getElem?_eq_getElem hk, e2])
        rw [if_pos e]
        exact ⟨by omega, fun _ => by omega⟩
      · rw [if_neg e, rmv_no (fun hm => e ((onT_on hW hp3 hm).trans hp2.symm))]
        exact ⟨rfl, fun q => absurd q e⟩
    have hrl : (rmv (t_k (s_T S) p) x).length ≤ 120 := by
      have := nodup_len (rmv_nd (x := x) (hW.2.2.1 p)) (m := s_n S) (fun z hz => hW.k_lt (mem_rmv.mp hz).1)
      omega
    have go : Gm l D m_M_move 0 0 Q 53 [some (va_rf (some o)), some (.int (nI x)), some (.int w), some (.int i), none, none, none, none] [.int (nI (rmv (t_k (s_T S) p) x).length), .int 0, .int i] σ 0 0 := by
      refine r_callS (As := [_, _, _]) rfl (by decide) rfl rfl rfl (Nat.le_of_ble_eq_true rfl) ⟨Nat.le_of_ble_eq_true rfl, Nat.le_of_ble_eq_true rfl⟩ (c_M_in) (kc' := 0) (ks' := 0) (by omega) (by omega) ?_
      rintro r σ ⟨rfl, rfl⟩
      refine r_ifneB rfl (fun q2 => ?_) (fun q2 => no (by unfold a_move; rw [x4, hp1]; show (if bel (s_T S) x p = true then _ else if inB i 0 (nI (rmv (t_k (s_T S) p) x).length) = true then _ else _) = _; rw [hp4, if_neg (by decide), q2]; rfl))
      obtain ⟨i', hi, rfl⟩ := inB_nI (m := (rmv (t_k (s_T S) p) x).length) (by omega) q2
      have ea : a_move S (nI x) w (nI i') = if (s_l S).length = 200 then (-3, S) else (nI (cntB (fun y => t_h (s_T S) y && decide (n_n S y ≠ n_n (sG S (s_n S, s_k S, (2, x, p, i') :: s_l S)) y)) (s_n S)), sG S (s_n S, s_k S, (2, x, p, i') :: s_l S)) := by
        unfold a_move
        rw [x4, hp1]
        show (if bel (s_T S) x p = true then _ else if inB (nI i') 0 (nI (rmv (t_k (s_T S) p) x).length) = true then _ else _) = _
        rw [hp4, if_neg (by decide), if_pos q2, nI_clamp (by omega)]
      refine r_aload_n rfl rfl ?_
      (first | refine r_getIv rfl hM.1 rfl (by assumption) ?_ | refine r_getI rfl hM.1 rfl ?_)
      refine r_sipush (v := nI 200) rfl (by decide) ?_
      refine r_neN rfl (by omega) (by omega) (fun w2 => ?_) (fun w2 => ?_)
      · rw [if_neg w2] at ea
        refine r_aload_n rfl rfl ?_
        refine r_callV (As := []) rfl (by decide) rfl (by first | exact hM.1 | assumption) rfl rfl (Nat.le_of_ble_eq_true rfl) ⟨Nat.le_of_ble_eq_true rfl, Nat.le_of_ble_eq_true rfl⟩ (c_M_makeS h) (kc' := 0) (ks' := 0) (by omega) (by omega) (by decide) ?_
        rintro r τ ⟨rfl, hd, hf⟩
        have hM := hd.1.1
        have hn : h_I τ 711 o = nI (s_n S) := by rw [hf.fld (by decide)]; exact hn
        have hG : RG τ o (s_n S, s_k S, s_l S) := hd.1.2.2.2.2.2.1
        have htx : ∀ y, y < s_n S → Tx τ o 18 19 y (n_n S y) := fun y hy => hd.tx hy
        refine g_fits (fun hfit _ _ => ?_)
        refine r_iconst (v := nI 0) rfl (by decide) ?_
        refine r_istore rfl (by decide) ?_
        generalize hS' : sG S (s_n S, s_k S, (2, x, p, i') :: s_l S) = S' at ea
        have hv : Va (s_n S) (s_k S) (2, x, p, i') (rp (s_l S)) := Or.inr (Or.inl ⟨rfl, x2, hp3, hp4, hi⟩)
        have hSS : SOk S' := by
          rw [← hS']
          exact hS.g (Nat.le_refl _) hn9 (fun _ _ => rfl) hS.2.1 ⟨hS.2.2.1, hv⟩ (by show (s_l S).length + 1 ≤ 200; omega)
        have sn : s_n S' = s_n S := by rw [← hS']; rfl
        have sh : ∀ y, t_h (s_T S') y = t_h (s_T S) y := by
          intro y
          rw [← hS']
          rfl
        -- from the change on
        have part2 : ∀ (ρ : Hp) (z5 : Option Value), MFr [22, 23] [] τ ρ o → (∀ y, y < s_n S → Tx ρ o 22 23 y (n_n S y)) → ∀ (u4 : Option Value), Gm l D m_M_move 0 0 Q 158 [some (va_rf (some o)), some (.int (nI x)), some (.int w), some (.int (nI i')), u4, z5, none, none] [] ρ 0 0 := by
          intro ρ z5 hf2 hold u4
          have hdr := RM.kp hf2 (by decide) (by decide) hd.1
          have hM := hdr.1
          have hGr : RG ρ o (s_n S, s_k S, s_l S) := hdr.2.2.2.2.2.1
          refine r_aload_n rfl rfl ?_
          refine r_iconst (v := nI 2) rfl (by decide) ?_
          refine r_iload_n rfl rfl ?_
          refine r_iload_n rfl rfl ?_
          refine r_iload_n rfl rfl ?_
          rw [hp2]
          refine r_callV (As := [_, _, _, _]) rfl (by decide) rfl (by first | exact hM.1 | assumption) rfl rfl (Nat.le_of_ble_eq_true rfl) ⟨Nat.le_of_ble_eq_true rfl, Nat.le_of_ble_eq_true rfl⟩ (c_M_changeT (e := (2, x, p, i')) hM hn9 hGr hS.2.2.1 (by omega) hv) (kc' := 0) (ks' := 0) (by omega) (by omega) (by decide) ?_
          rintro r ρ2 ⟨rfl, t1, t2, t3⟩
          have hR2 : RM ρ2 o S' := by
            rw [← hS'] at hSS ⊢
            exact hdr.g t3 t1 t2 hSS
          have hM := hR2.1
          refine r_istore rfl (by decide) ?_
          refine r_aload_n rfl rfl ?_
          refine r_callV (As := []) rfl (by decide) rfl (by first | exact hM.1 | assumption) rfl rfl (Nat.le_of_ble_eq_true rfl) ⟨Nat.le_of_ble_eq_true rfl, Nat.le_of_ble_eq_true rfl⟩ (c_M_makeS hR2) (kc' := 0) (ks' := 0) (by omega) (by omega) (by decide) ?_
          rintro r ρ3 ⟨rfl, hd3, hf3⟩
          have hM := hd3.1.1
          have hold3 : ∀ y, y < s_n S → Tx ρ3 o 22 23 y (n_n S y) := by
            intro y hy
            have := hold y hy
            unfold Tx at this ⊢
            rw [hf3.row (j := 22) (by decide), hf3.row (j := 23) (by decide), t3.row (j := 22) (by decide), t3.row (j := 23) (by decide)]
            exact this
          have hnew : ∀ y, y < s_n S → Tx ρ3 o 18 19 y (n_n S' y) := fun y hy => hd3.tx (by rw [sn]; exact hy)
          have hn3 : h_I ρ3 711 o = nI (s_n S) := by
            have := hd3.1.2.2.2.2.2.1.1.1
            rw [show (s_g S').1 = s_n S' from rfl, sn] at this
            exact this
          have r53 : h_X ρ3 (o + 1 + 7) = onT (s_n S') (s_T S') := hd3.1.2.2.2.2.2.1.1.2.2.2.2.1
          have hall : MFr mAR mAI σ ρ3 o := (((hf.wide (by decide) (by decide)).tr (hf2.wide (by decide) (by decide))).tr (t3.wide (by decide) (by decide))).tr (hf3.wide (by decide) (by decide))
          refine r_iconst (v := nI 0) rfl (by decide) ?_
          refine r_istore rfl (by decide) ?_
          have lp : ∀ (d y c : Nat) (z6 z7 : Option Value), y + d = s_n S → c = cntB (fun y => t_h (s_T S) y && decide (n_n S y ≠ n_n S' y)) y → Gm l D m_M_move 0 0 Q 175 [some (va_rf (some o)), some (.int (nI x)), some (.int (cd p)), some (.int (nI i')), some (.int (nI c)), some (.int (nI y)), z6, z7] [] ρ3 0 0 := by
            intro d
            induction d with
            | zero =>
              intro y c z6 z7 hy hc
              refine r_iload rfl rfl ?_
              refine r_aload_n rfl rfl ?_
              (first | refine r_getIv rfl hM.1 rfl (by assumption) ?_ | refine r_getI rfl hM.1 rfl ?_)
              refine r_geN rfl (by omega) (by omega) (fun _ => ?_) (fun q => by omega)
              refine r_iload rfl rfl ?_
              refine r_iret rfl rfl ?_
              rw [← hQ]
              show _ = some (Value.int (a_move S (nI x) w (nI i')).1) ∧ RM ρ3 o (a_move S (nI x) w (nI i')).2 ∧ _
              rw [ea]
              refine ⟨?_, hd3.1, hall⟩
              rw [hc, show y = s_n S by omega]
            | succ d ih =>
              intro y c z6 z7 hy hc
              have hyn : y < s_n S := by omega
              obtain ⟨a1, a2, a3⟩ := hold3 y hyn
              obtain ⟨b1, b2, b3⟩ := hnew y hyn
              refine r_iload rfl rfl ?_
              refine r_aload_n rfl rfl ?_
              (first | refine r_getIv rfl hM.1 rfl (by assumption) ?_ | refine r_getI rfl hM.1 rfl ?_)
              refine r_geN rfl (by omega) (by omega) (fun q => by omega) (fun _ => ?_)
              refine r_aload_n rfl rfl ?_
              refine r_iload rfl rfl ?_
              refine r_callV (As := [_]) rfl (by decide) rfl (by first | exact hM.1 | assumption) rfl rfl (Nat.le_of_ble_eq_true rfl) ⟨Nat.le_of_ble_eq_true rfl, Nat.le_of_ble_eq_true rfl⟩ (c_M_isThere hM hn3 hn9) (kc' := 0) (ks' := 0) (by omega) (by omega) (by decide) ?_
              rintro r ρ3 ⟨rfl, rfl⟩
              rw [r53, ← sn, isTh_T hSS.wf (by omega), sn, decide_eq_true hyn, Bool.true_and, sh]
              refine r_ifneB rfl (fun q3 => ?_) (fun q3 => ?_)
              · have fin : ∀ (b : Bool) (z7 : Option Value), b = decide (n_n S y = n_n S' y) → Gm l D m_M_move 0 0 Q 282 [some (va_rf (some o)), some (.int (nI x)), some (.int (cd p)), some (.int (nI i')), some (.int (nI c)), some (.int (nI y)), some (.int (nI b.toNat)), z7] [] ρ3 0 0 := by
                  intro b z7 hb
                  refine r_iload rfl rfl ?_
                  refine r_iload rfl rfl ?_
                  refine r_ifeqB rfl (fun e => ?_) (fun e => ?_)
                  · refine r_iconst (v := nI 1) rfl (by decide) ?_
                    (first | refine r_iaddN rfl ?_ | refine r_iadd rfl ?_)
                    refine r_istore rfl (by decide) ?_
                    refine r_iinc rfl rfl (nI_inc _) ?_
                    refine r_goto rfl ?_
                    refine ih (y + 1) (c + 1) _ _ (by omega) ?_
                    rw [cntB, ← hc, q3]
                    rw [hb] at e
                    rw [decide_eq_true (show n_n S y ≠ n_n S' y from of_decide_eq_false e)]
                    rfl
                  · refine r_iconst (v := nI 0) rfl (by decide) ?_
                    refine r_goto rfl ?_
                    (first | refine r_iaddN rfl ?_ | refine r_iadd rfl ?_)
                    refine r_istore rfl (by decide) ?_
                    refine r_iinc rfl rfl (nI_inc _) ?_
                    refine r_goto rfl ?_
                    refine ih (y + 1) (c + 0) _ _ (by omega) ?_
                    rw [cntB, ← hc, q3]
                    rw [hb] at e
                    rw [decide_eq_false (fun w => w (of_decide_eq_true e))]
                    rfl
                refine r_aload_n rfl rfl ?_
                refine r_mg (j := 23) hM rfl rfl (by decide) ?_
                refine r_iload rfl rfl ?_
                refine r_mi (j := 23) hM rfl rfl (by decide) (by first | rfl | assumption) (show _ < 120 by omega) ?_
                refine r_aload_n rfl rfl ?_
                refine r_mg (j := 19) hM rfl rfl (by decide) ?_
                refine r_iload rfl rfl ?_
                refine r_mi (j := 19) hM rfl rfl (by decide) (by first | rfl | assumption) (show _ < 120 by omega) ?_
                rw [a1, b1]
                refine r_neN rfl (by omega) (by omega) (fun q4 => ?_) (fun q4 => ?_)
                · refine r_iconst (v := nI 0) rfl (by decide) ?_
                  refine r_istore rfl (by decide) ?_
                  refine r_iconst (v := nI 0) rfl (by decide) ?_
                  refine r_istore rfl (by decide) ?_
                  refine r_iload rfl rfl ?_
                  refine r_aload_n rfl rfl ?_
                  refine r_mg (j := 19) hM rfl rfl (by decide) ?_
                  refine r_iload rfl rfl ?_
                  refine r_mi (j := 19) hM rfl rfl (by decide) (by first | rfl | assumption) (show _ < 120 by omega) ?_
                  rw [b1]
                  have hb : false = decide (n_n S y = n_n S' y) := (decide_eq_false (fun e => q4 (by rw [e]))).symm
                  refine r_geN rfl (by omega) (by omega) (fun _ => fin false _ hb) (fun _ => ?_)
                  refine r_iload rfl rfl ?_
                  exact r_if_eq rfl (fun _ => fin false _ hb) (fun q => absurd rfl q)
                · refine r_iconst (v := nI 1) rfl (by decide) ?_
                  refine r_goto rfl ?_
                  refine r_istore rfl (by decide) ?_
                  refine r_iconst (v := nI 0) rfl (by decide) ?_
                  refine r_istore rfl (by decide) ?_
                  have inn : ∀ (d q : Nat), q + d = (n_n S y).length → (∀ j, j < q → (n_n S y).getD j 0 = (n_n S' y).getD j 0) → Gm l D m_M_move 0 0 Q 223 [some (va_rf (some o)), some (.int (nI x)), some (.int (cd p)), some (.int (nI i')), some (.int (nI c)), some (.int (nI y)), some (.int (nI 1)), some (.int (nI q))] [] ρ3 0 0 := by
                    intro d
                    induction d with
                    | zero =>
                      intro q hq hj
                      refine r_iload rfl rfl ?_
                      refine r_aload_n rfl rfl ?_
                      refine r_mg (j := 19) hM rfl rfl (by decide) ?_
                      refine r_iload rfl rfl ?_
                      refine r_mi (j := 19) hM rfl rfl (by decide) (by first | rfl | assumption) (show _ < 120 by omega) ?_
                      rw [b1]
                      refine r_geN rfl (by omega) (by omega) (fun _ => ?_) (fun q => by omega)
                      refine fin true _ (decide_eq_true ?_).symm
                      refine List.ext_getElem q4 (fun j h1 h2 => ?_)
                      have := hj j (by omega)
                      rwa [getD_at h1, getD_at h2] at this
                    | succ d ih2 =>
                      intro q hq hj
                      refine r_iload rfl rfl ?_
                      refine r_aload_n rfl rfl ?_
                      refine r_mg (j := 19) hM rfl rfl (by decide) ?_
                      refine r_iload rfl rfl ?_
                      refine r_mi (j := 19) hM rfl rfl (by decide) (by first | rfl | assumption) (show _ < 120 by omega) ?_
                      rw [b1]
                      refine r_geN rfl (by omega) (by omega) (fun w => by omega) (fun _ => ?_)
                      refine r_iload rfl rfl ?_
                      refine r_if_eq rfl (fun q => absurd q (by decide)) (fun _ => ?_)
                      refine r_aload_n rfl rfl ?_
                      refine r_mg (j := 22) hM rfl rfl (by decide) ?_
                      refine r_bipush (v := nI 60) rfl (by decide) ?_
                      refine r_iload rfl rfl ?_
                      (first | refine r_imulN rfl ?_ | refine r_imul rfl ?_)
                      refine r_iload rfl rfl ?_
                      (first | refine r_iaddN rfl ?_ | refine r_iadd rfl ?_)
                      refine r_mb (j := 22) hM rfl rfl (by decide) (by first | rfl | assumption) (show _ < 7200 by omega) ?_
                      refine r_aload_n rfl rfl ?_
                      refine r_mg (j := 18) hM rfl rfl (by decide) ?_
                      refine r_bipush (v := nI 60) rfl (by decide) ?_
                      refine r_iload rfl rfl ?_
                      (first | refine r_imulN rfl ?_ | refine r_imul rfl ?_)
                      refine r_iload rfl rfl ?_
                      (first | refine r_iaddN rfl ?_ | refine r_iadd rfl ?_)
                      refine r_mb (j := 18) hM rfl rfl (by decide) (by first | rfl | assumption) (show _ < 7200 by omega) ?_
                      rw [a3 q (by omega), b3 q (by omega)]
                      refine r_icmp_ne rfl (fun q5 => ?_) (fun q5 => ?_)
                      · refine r_iconst (v := nI 0) rfl (by decide) ?_
                        refine r_istore rfl (by decide) ?_
                        refine r_iinc rfl rfl (nI_inc _) ?_
                        refine r_goto rfl ?_
                        refine r_iload rfl rfl ?_
                        refine r_aload_n rfl rfl ?_
                        refine r_mg (j := 19) hM rfl rfl (by decide) ?_
                        refine r_iload rfl rfl ?_
                        refine r_mi (j := 19) hM rfl rfl (by decide) (by first | rfl | assumption) (show _ < 120 by omega) ?_
                        rw [b1]
                        have hb : false = decide (n_n S y = n_n S' y) := (decide_eq_false (list_ne q4 (by omega) q5)).symm
                        refine r_geN rfl (by omega) (by omega) (fun _ => fin false _ hb) (fun _ => ?_)
                        refine r_iload rfl rfl ?_
                        exact r_if_eq rfl (fun _ => fin false _ hb) (fun q => absurd rfl q)
                      · refine r_iconst (v := nI 1) rfl (by decide) ?_
                        refine r_goto rfl ?_
                        refine r_istore rfl (by decide) ?_
                        refine r_iinc rfl rfl (nI_inc _) ?_
                        refine r_goto rfl ?_
                        refine ih2 (q + 1) (by omega) (fun j hj2 => ?_)
                        by_cases e : j = q
                        · rw [e]; exact q5
                        · exact hj j (by omega)
                  exact inn (n_n S y).length 0 (by omega) (fun j hj => by omega)
              · refine r_goto rfl ?_
                refine r_iinc rfl rfl (nI_inc _) ?_
                refine r_goto rfl ?_
                refine ih (y + 1) c _ _ (by omega) ?_
                rw [cntB, ← hc, q3]
                rfl
          exact lp (s_n S) 0 0 none none (by omega) rfl
        -- the old numbers
        have lp0 : ∀ (d y : Nat) (gT gS : Nat → Int32) (z5 : Option Value), y + d = s_n S → (∀ z, z < y → gS z = nI (n_n S z).length ∧ ∀ j, j < (n_n S z).length → gT (60 * z + j) = (n_n S z).getD j 0) → Gm l D m_M_move 0 0 Q 82 [some (va_rf (some o)), some (.int (nI x)), some (.int w), some (.int (nI i')), some (.int (nI y)), z5, none, none] [] (w_X (w_X τ (o + 1 + 22) gT) (o + 1 + 23) gS) 0 0 := by
          intro d
          induction d with
          | zero =>
            intro y gT gS z5 hy h1
            have hn : h_I (w_X (w_X τ (o + 1 + 22) gT) (o + 1 + 23) gS) 711 o = nI (s_n S) := hn
            refine r_iload rfl rfl ?_
            refine r_aload_n rfl rfl ?_
            (first | refine r_getIv rfl hM.1 rfl (by assumption) ?_ | refine r_getI rfl hM.1 rfl ?_)
            refine r_geN rfl (by omega) (by omega) (fun _ => ?_) (fun q => by omega)
            refine part2 _ z5 ((MFr.X _ _ (by decide)).tr (MFr.X _ _ (by decide))) (fun z hz => ?_) _
            obtain ⟨c1, c2⟩ := h1 z (by omega)
            refine ⟨by rw [hX_w]; exact c1, (htx z hz).2.1, fun j hj => ?_⟩
            rw [hX_n _ _ (by omega), hX_w]
            exact c2 j hj
          | succ d ih =>
            intro y gT gS z5 hy h1
            have hyn : y < s_n S := by omega
            obtain ⟨b1, b2, b3⟩ := htx y hyn
            have hn : h_I (w_X (w_X τ (o + 1 + 22) gT) (o + 1 + 23) gS) 711 o = nI (s_n S) := hn
            refine r_iload rfl rfl ?_
            refine r_aload_n rfl rfl ?_
            (first | refine r_getIv rfl hM.1 rfl (by assumption) ?_ | refine r_getI rfl hM.1 rfl ?_)
            refine r_geN rfl (by omega) (by omega) (fun q => by omega) (fun _ => ?_)
            refine r_aload_n rfl rfl ?_
            refine r_mg (j := 23) hM rfl rfl (by decide) ?_
            refine r_iload rfl rfl ?_
            refine r_aload_n rfl rfl ?_
            refine r_mg (j := 19) hM rfl rfl (by decide) ?_
            refine r_iload rfl rfl ?_
            refine r_mi (j := 19) hM rfl rfl (by decide) (by first | rfl | assumption) (show _ < 120 by omega) ?_
            rw [hX_n _ _ (show o + 1 + 19 ≠ o + 1 + 23 by omega), hX_n _ _ (show o + 1 + 19 ≠ o + 1 + 22 by omega), b1]
            refine r_mis (j := 23) hM rfl rfl (by decide) rfl (show _ < 120 by omega) ?_
            refine r_iconst (v := nI 0) rfl (by decide) ?_
            refine r_istore rfl (by decide) ?_
            rw [wX_same, hX_w]
            have inn : ∀ (d q : Nat) (gT : Nat → Int32), q + d = (n_n S y).length → (∀ z, z < y → ∀ j, j < (n_n S z).length → gT (60 * z + j) = (n_n S z).getD j 0) → (∀ j, j < q → gT (60 * y + j) = (n_n S y).getD j 0) → Gm l D m_M_move 0 0 Q 108 [some (va_rf (some o)), some (.int (nI x)), some (.int w), some (.int (nI i')), some (.int (nI y)), some (.int (nI q)), none, none] [] (w_X (w_X τ (o + 1 + 22) gT) (o + 1 + 23) (upd gS y (nI (n_n S y).length))) 0 0 := by
              intro d
              induction d with
              | zero =>
                intro q gT hq g1 g2
                refine r_iload rfl rfl ?_
                refine r_aload_n rfl rfl ?_
                refine r_mg (j := 19) hM rfl rfl (by decide) ?_
                refine r_iload rfl rfl ?_
                refine r_mi (j := 19) hM rfl rfl (by decide) (by first | rfl | assumption) (show _ < 120 by omega) ?_
                rw [hX_n _ _ (show o + 1 + 19 ≠ o + 1 + 23 by omega), hX_n _ _ (show o + 1 + 19 ≠ o + 1 + 22 by omega), b1]
                refine r_geN rfl (by omega) (by omega) (fun _ => ?_) (fun w => by omega)
                refine r_iinc rfl rfl (nI_inc _) ?_
                refine r_goto rfl ?_
                refine ih (y + 1) gT _ _ (by omega) (fun z hz => ?_)
                by_cases e : z = y
                · rw [e, upd_s]
                  exact ⟨rfl, fun j hj => g2 j (by omega)⟩
                · rw [upd_n _ _ e]
                  exact ⟨(h1 z (by omega)).1, g1 z (by omega)⟩
              | succ d ih2 =>
                intro q gT hq g1 g2
                have hfv : fits .byte (.int ((n_n S y).getD q 0)) = true := by
                  rw [← b3 q (by omega)]
                  exact hfit _ (hM.2 18 (by decide)).2.1 _
                have hnv : narrow .byte (.int ((n_n S y).getD q 0)) = .int ((n_n S y).getD q 0) := by
                  show Value.int (b8 ((n_n S y).getD q 0)) = _
                  rw [fit_b8 hfv]
                refine r_iload rfl rfl ?_
                refine r_aload_n rfl rfl ?_
                refine r_mg (j := 19) hM rfl rfl (by decide) ?_
                refine r_iload rfl rfl ?_
                refine r_mi (j := 19) hM rfl rfl (by decide) (by first | rfl | assumption) (show _ < 120 by omega) ?_
                rw [hX_n _ _ (show o + 1 + 19 ≠ o + 1 + 23 by omega), hX_n _ _ (show o + 1 + 19 ≠ o + 1 + 22 by omega), b1]
                refine r_geN rfl (by omega) (by omega) (fun w => by omega) (fun _ => ?_)
                refine r_aload_n rfl rfl ?_
                refine r_mg (j := 22) hM rfl rfl (by decide) ?_
                refine r_bipush (v := nI 60) rfl (by decide) ?_
                refine r_iload rfl rfl ?_
                (first | refine r_imulN rfl ?_ | refine r_imul rfl ?_)
                refine r_iload rfl rfl ?_
                (first | refine r_iaddN rfl ?_ | refine r_iadd rfl ?_)
                refine r_aload_n rfl rfl ?_
                refine r_mg (j := 18) hM rfl rfl (by decide) ?_
                refine r_bipush (v := nI 60) rfl (by decide) ?_
                refine r_iload rfl rfl ?_
                (first | refine r_imulN rfl ?_ | refine r_imul rfl ?_)
                refine r_iload rfl rfl ?_
                (first | refine r_iaddN rfl ?_ | refine r_iadd rfl ?_)
                refine r_mb (j := 18) hM rfl rfl (by decide) (by first | rfl | assumption) (show _ < 7200 by omega) ?_
                rw [hX_n _ _ (show o + 1 + 18 ≠ o + 1 + 23 by omega), hX_n _ _ (show o + 1 + 18 ≠ o + 1 + 22 by omega), b3 q (by omega)]
                refine r_mbs (j := 22) hM rfl rfl (by decide) rfl (show _ < 7200 by omega) hnv hfv ?_
                rw [hX_n _ _ (show o + 1 + 22 ≠ o + 1 + 23 by omega), hX_w, wX_comm (w_X τ (o + 1 + 22) gT) _ _ (show o + 1 + 23 ≠ o + 1 + 22 by omega), wX_same]
                refine r_iinc rfl rfl (nI_inc _) ?_
                refine r_goto rfl ?_
                refine ih2 (q + 1) _ (by omega) (fun z hz j hj => ?_) (fun j hj => ?_)
                · have := (htx z (by omega)).2.1
                  rw [upd_n _ _ (by omega)]
                  exact g1 z hz j hj
                · by_cases e : j = q
                  · rw [e, upd_s]
                  · rw [upd_n _ _ (by omega)]
                    exact g2 j (by omega)
            exact inn (n_n S y).length 0 gT (by omega) (fun z hz => (h1 z hz).2) (fun j hj => by omega)
        have e0 : w_X (w_X τ (o + 1 + 22) (h_X τ (o + 1 + 22))) (o + 1 + 23) (h_X τ (o + 1 + 23)) = τ := by rw [wX_self, wX_self]
        have := lp0 (s_n S) 0 (h_X τ (o + 1 + 22)) (h_X τ (o + 1 + 23)) none (by omega) (fun z hz => by omega)
        rw [e0] at this
        exact this
      · rw [if_pos w2] at ea
        refine r_bipush (v := -3) rfl (by decide) ?_
        refine r_iret rfl rfl ?_
        rw [← hQ]
        show _ = some (Value.int (a_move S (nI x) w (nI i')).1) ∧ RM σ o (a_move S (nI x) w (nI i')).2 ∧ _
        rw [ea]
        exact ⟨rfl, h, MFr.rf _ _ _ _⟩
    refine r_iload_n rfl rfl ?_
    refine r_iconst (v := nI 0) rfl (by decide) ?_
    refine r_aload_n rfl rfl ?_
    refine r_iload_n rfl rfl ?_
    refine r_callV (As := [_]) rfl (by decide) rfl (by first | exact hM.1 | assumption) rfl rfl (Nat.le_of_ble_eq_true rfl) ⟨Nat.le_of_ble_eq_true rfl, Nat.le_of_ble_eq_true rfl⟩ (c_M_hanging hM hn hn9) (kc' := 0) (ks' := 0) (by omega) (by omega) (by decide) ?_
    rintro r σ ⟨rfl, rfl⟩
    rw [r5, hp2, hang_T hW hp3, ← hp2]
    refine r_aload_n rfl rfl ?_
    refine r_mg (j := 7) hM rfl rfl (by decide) ?_
    refine r_iload_n rfl rfl ?_
    refine r_mi (j := 7) hM rfl rfl (by decide) (by first | rfl | assumption) (show _ < 120 by omega) ?_
    refine r_iload_n rfl rfl ?_
    rw [r5]
    refine r_icmp_ne rfl (fun q => ?_) (fun q => ?_)
    · refine r_iconst (v := nI 0) rfl (by decide) ?_
      rw [if_neg q] at hlen2
      refine r_isubN rfl (by omega) ?_
      rw [Nat.sub_zero, hlen2.1]
      exact go
    · refine r_iconst (v := nI 1) rfl (by decide) ?_
      refine r_goto rfl ?_
      rw [if_pos q] at hlen2
      refine r_isubN rfl (by have := hlen2.2 q; omega) ?_
      rw [hlen2.1]
      exact go
  refine r_iload_n rfl rfl ?_
  refine r_iconst (v := -1) rfl (by decide) ?_
  refine r_icmp_eq rfl (fun q => cont 120 (by unfold hoI; rw [if_pos q]) q (Or.inl rfl) (bel_120 hW x1)) (fun q => ?_)
  refine r_aload_n rfl rfl ?_
  refine r_iload_n rfl rfl ?_
  refine r_callV (As := [_]) rfl (by decide) rfl (by first | exact hM.1 | assumption) rfl rfl (Nat.le_of_ble_eq_true rfl) ⟨Nat.le_of_ble_eq_true rfl, Nat.le_of_ble_eq_true rfl⟩ (c_M_isThere hM hn hn9) (kc' := 0) (ks' := 0) (by omega) (by omega) (by decide) ?_
  rintro r σ ⟨rfl, rfl⟩
  rw [r5]
  refine r_ifeqB rfl (fun q2 => no (by unfold a_move hoI; rw [x4, if_neg q, isTh_none q2])) (fun q2 => ?_)
  obtain ⟨p, p1, p2, rfl, p4⟩ := isTh_some hS q2
  have hho : hoI S (nI p) = some p := by unfold hoI; rw [if_neg q]; exact p4
  refine r_aload_n rfl rfl ?_
  refine r_iload_n rfl rfl ?_
  refine r_iload_n rfl rfl ?_
  have hup := upS_T hW (top := cd x) 200 p (fuel hW (by omega)) (Or.inr p2)
  rw [cd_n (show x ≠ 120 by omega), cd_n (show p ≠ 120 by omega), ← r5] at hup
  refine r_callV (As := [_, _]) rfl (by decide) rfl (by first | exact hM.1 | assumption) rfl rfl (Nat.le_of_ble_eq_true rfl) ⟨Nat.le_of_ble_eq_true rfl, Nat.le_of_ble_eq_true rfl⟩ (c_M_isBelow hM hup) (kc' := 0) (ks' := 0) (by omega) (by omega) (by decide) ?_
  rintro r σ ⟨rfl, rfl⟩
  have hbe := below_T hW (x := x) (by omega) (Or.inr p2)
  rw [cd_n (show x ≠ 120 by omega), cd_n (show p ≠ 120 by omega)] at hbe
  rw [r5, hbe]
  refine r_ifneB rfl (fun q3 => no ?_) (fun q3 => cont p hho (cd_n (by omega)).symm (Or.inr p2) q3)
  unfold a_move
  rw [x4, hho]
  show (if bel (s_T S) x p = true then _ else _) = _
  rw [if_pos q3]
end MC
end
section
/-! ===== the reference: thing, at, told, twins, count ===== -/
def nuI (S : Sp) (v : Int32) : Option Nat := if (decide (0 ≤ v) && decide (v < nI (s_n S))) = true then some v.toNatClampNeg else none
def ixT (T : Tr) (x : Nat) : Nat := match par T x with
  | some p => (t_k T p).idxOf x
  | none => 0
def a_thN (S : Sp) (x : Nat) : Nat → Int32
  | 0 => nI (s_k S x)
  | 1 => onT (s_n S) (s_T S) x
  | 2 => if t_h (s_T S) x = true then nI (ixT (s_T S) x) else -9
  | 3 => if t_h (s_T S) x = true then nI (t_k (s_T S) x).length else 0
  | 4 => if t_h (s_T S) x = true then nI (n_c S ((ordT (s_T S)).idxOf x)) else 0
  | 5 => if t_h (s_T S) x = true then nI ((ordT (s_T S)).idxOf x) else -1
  | 6 => nI (t_h (s_T S) x).toNat
  | 7 => oI (t_i (s_T S) x)
  | 8 => n_b S x
  | _ => -10
def a_thing (S : Sp) (v w : Int32) : Int32 := match nuI S v with
  | none => -10
  | some x => if w < 0 then -10 else a_thN S x w.toNatClampNeg
def a_at (S : Sp) (v : Int32) : Int32 := if v < 0 then -1 else oI ((ordT (s_T S))[v.toNatClampNeg]?)
def tdT (S : Sp) (x : Nat) : List Int32 := toldL (s_w S (s_k S x)) (n_n S x)
def byI (xs : List Int32) (i : Int32) : Int32 := if i < 0 then -1 else xs.getD i.toNatClampNeg (-1)
def a_told (S : Sp) (v i : Int32) : Int32 := match thI S v with
  | none => -1
  | some x => byI (tdT S x) i
def twB (S : Sp) (x y : Nat) : Bool := t_h (s_T S) x && t_h (s_T S) y && decide (s_k S x = s_k S y) && decide (n_n S x = n_n S y)
/-- how many y from a up to b have it -/
def cntR (p : Nat → Bool) (a b : Nat) : Nat := ((List.range b).filter (fun y => decide (a ≤ y) && p y)).length
def sumN (f : Nat → Nat) : Nat → Nat
  | 0 => 0
  | n + 1 => sumN f n + f n
def a_twins (S : Sp) : Int32 := nI (sumN (fun x => cntB (fun y => decide (x < y) && twB S x y) (s_n S)) (s_n S))
def a_coN (S : Sp) : Nat → Int32
  | 0 => nI (s_n S)
  | 1 => nI (ordT (s_T S)).length
  | 2 => nI (s_m S).length
  | 3 => nI (s_e S).length
  | 4 => nI (s_l S).length
  | 5 => nI (s_t S).length
  | w => if 10 ≤ w ∧ w ≤ 15 then nI (f_c (s_f S) (w - 10)) else if 20 ≤ w ∧ w ≤ 25 then nI (f_y (s_f S) (w - 20)) else if 30 ≤ w ∧ w ≤ 35 then nI (f_j (s_f S) (w - 30)) else if 40 ≤ w ∧ w ≤ 45 then nI (s_w S (w - 40)).length else -1
def a_count (S : Sp) (w : Int32) : Int32 := if w < 0 then -1 else a_coN S w.toNatClampNeg
theorem sw_in {w : Int32} (m : Nat) (hm : m < 2 ^ 31) : (w.toInt < 0 ∨ (m : Int) < w.toInt) ∧ (w < 0 ∨ ∃ j, m < j ∧ j < 2 ^ 31 ∧ w = nI j) ∨ ∃ j, j ≤ m ∧ w = nI j := by
  by_cases a : w < 0
  · refine Or.inl ⟨Or.inl ?_, Or.inl a⟩
    have := Int32.lt_iff_toInt_lt.mp a
    simpa using this
  · obtain ⟨j, hj, rfl⟩ := nI_of a
    by_cases b : j ≤ m
    · exact Or.inr ⟨j, b, rfl⟩
    · refine Or.inl ⟨Or.inr ?_, Or.inr ⟨j, by omega, hj, rfl⟩⟩
      rw [nI_toInt hj]
      omega
theorem nuI_some {S : Sp} (hn : s_n S ≤ 120) {v : Int32} (h : (decide (0 ≤ v) && decide (v < nI (s_n S))) = true) : ∃ x, x < s_n S ∧ v = nI x ∧ nuI S v = some x := by
  have h' := h
  simp only [Bool.and_eq_true, decide_eq_true_eq] at h'
  obtain ⟨j, hj, rfl⟩ := nI_of (Int32.not_lt.mpr h'.1)
  refine ⟨j, (nI_ltI hj (by omega)).mp h'.2, rfl, ?_⟩
  unfold nuI
  rw [if_pos h, nI_clamp hj]
theorem idx_of {L : List Nat} (hn : L.Nodup) {i x : Nat} (h : L[i]? = some x) : L.idxOf x = i := by
  have hi := getE_lt h
  have e : L[i] = x := by rw [List.getElem?_eq_getElem hi] at h; exact Option.some.inj h
  rw [← e]
  exact List.Nodup.idxOf_getElem hn i hi
theorem idx_at {L : List Nat} {x : Nat} (h : x ∈ L) : L.idxOf x < L.length ∧ L.getD (L.idxOf x) 0 = x ∧ L[L.idxOf x]? = some x := by
  have h1 := List.idxOf_lt_length_of_mem h
  have h2 : L[L.idxOf x]? = some x := by rw [List.getElem?_eq_getElem h1, List.getElem_idxOf h1]
  exact ⟨h1, by rw [List.getD_eq_getElem?_getD, h2]; rfl, h2⟩
section MC
variable {l : Launch} {D : DD} {σ : Hp} {o : Nat}
theorem RM.rt {S : Sp} (h : RM σ o S) : h_I σ 711 o = nI (s_n S) ∧ h_X σ (o + 1 + 6) = (fun x => nI (s_k S x)) ∧ h_X σ (o + 1 + 7) = onT (s_n S) (s_T S) ∧ (∀ p, liv (s_T S) p → ∀ i z, (t_k (s_T S) p)[i]? = some z → h_X σ (o + 1 + 8) z = nI i) ∧ (∀ x, x < s_n S → h_X σ (o + 1 + 9) x = oI (t_i (s_T S) x)) := by
  obtain ⟨-, -, -, -, -, ⟨⟨r1, r2, r3, r4, r5, r6, r7⟩, -⟩, -⟩ := h
  exact ⟨r1, r2, r5, r6, r7⟩
set_option maxRecDepth 10000 in
set_option maxHeartbeats 1000000 in
theorem c_M_thingS {S : Sp} {v w : Int32} (h : RM σ o S) : Cn l D m_M_thing 0 0 [va_rf (some o), .int v, .int w] σ (fun r τ => r = some (.int (a_thing S v w)) ∧ RM τ o S ∧ MFr mAR mAI σ τ o) := by
  have hM := h.1
  have hS := h.2.1
  have hW := hS.wf
  have hn9 := hS.1
  have hn := h.rt.1
  refine Cn.of (by decide) (by repeat (first | exact ca_0 | refine ca_i ?_ | refine ca_r ?_)) (Nat.le_of_ble_eq_true rfl) ?_
  refine r_iload_n rfl rfl ?_
  refine r_iconst (v := nI 0) rfl (by decide) ?_
  refine r_aload_n rfl rfl ?_
  (first | refine r_getIv rfl hM.1 rfl (by assumption) ?_ | refine r_getI rfl hM.1 rfl ?_)
  refine r_iconst (v := nI 1) rfl (by decide) ?_
  refine r_isub rfl ?_
  refine r_callS (As := [_, _, _]) rfl (by decide) rfl rfl rfl (Nat.le_of_ble_eq_true rfl) ⟨Nat.le_of_ble_eq_true rfl, Nat.le_of_ble_eq_true rfl⟩ (c_M_in) (kc' := 0) (ks' := 0) (by omega) (by omega) ?_
  rintro r σ ⟨rfl, rfl⟩
  rw [show nI 0 = 0 from rfl, inB_n (by omega)]
  refine r_ifneB rfl (fun q => ?_) (fun q => ?_)
  · obtain ⟨x, x1, rfl, x3⟩ := nuI_some hn9 q
    refine r_aload_n rfl rfl ?_
    refine r_callV (As := []) rfl (by decide) rfl (by first | exact hM.1 | assumption) rfl rfl (Nat.le_of_ble_eq_true rfl) ⟨Nat.le_of_ble_eq_true rfl, Nat.le_of_ble_eq_true rfl⟩ (c_M_makeS h) (kc' := 0) (ks' := 0) (by omega) (by omega) (by decide) ?_
    rintro r τ ⟨rfl, hd, hf⟩
    have hM := hd.1.1
    obtain ⟨t1, t2, t3, t4, t5⟩ := hd.1.rt
    obtain ⟨hR, -, d1, d2, d3, d4, d5, d6, d7, d8, d9⟩ := hd
    have hfw : MFr mAR mAI σ τ o := hf.wide (by decide) (by decide)
    refine r_iload_n rfl rfl ?_
    have fin : ∀ (u : Int32), (∀ (ea : a_thing S (nI x) w = if w < 0 then -10 else a_thN S x w.toNatClampNeg), u = a_thing S (nI x) w) → (some (Value.int u) = some (.int (a_thing S (nI x) w)) ∧ RM τ o S ∧ MFr mAR mAI σ τ o) := by
      intro u hu
      refine ⟨by rw [hu (by unfold a_thing; rw [x3])], hR, hfw⟩
    rcases sw_in (w := w) 8 (by decide) with ⟨w1, w2⟩ | ⟨j, j1, rfl⟩
    · refine r_tswOut rfl w1 (tgt := 175) (by decide) ?_
      refine r_bipush (v := -10) rfl (by decide) ?_
      refine r_iret rfl rfl (fin _ (fun ea => ?_))
      rw [ea]
      rcases w2 with w2 | ⟨j, j1, j2, rfl⟩
      · rw [if_pos w2]
      · rw [if_neg (nI_pos j2), nI_clamp j2]
        match j, j1 with
        | j + 9, _ => rfl
    · have fin : ∀ (u : Int32), u = a_thN S x j → (some (Value.int u) = some (.int (a_thing S (nI x) (nI j))) ∧ RM τ o S ∧ MFr mAR mAI σ τ o) := fun u hu => fin u (fun ea => by rw [ea, if_neg (nI_pos (by omega)), nI_clamp (by omega), hu])
      match j, j1, fin with
      | 0, _, fin =>
        refine r_tswIn rfl (by decide) (by decide) (off := 50) (by decide) (tgt := 72) (by decide) ?_
        refine r_aload_n rfl rfl ?_
        refine r_mg (j := 6) hM rfl rfl (by decide) ?_
        refine r_iload_n rfl rfl ?_
        refine r_mi (j := 6) hM rfl rfl (by decide) (by first | rfl | assumption) (show _ < 120 by omega) ?_
        refine r_iret rfl rfl (fin _ ?_)
        rw [t2]; rfl
      | 1, _, fin =>
        refine r_tswIn rfl (by decide) (by decide) (off := 57) (by decide) (tgt := 79) (by decide) ?_
        refine r_aload_n rfl rfl ?_
        refine r_mg (j := 7) hM rfl rfl (by decide) ?_
        refine r_iload_n rfl rfl ?_
        refine r_mi (j := 7) hM rfl rfl (by decide) (by first | rfl | assumption) (show _ < 120 by omega) ?_
        refine r_iret rfl rfl (fin _ ?_)
        rw [t3]; rfl
      | 2, _, fin =>
        refine r_tswIn rfl (by decide) (by decide) (off := 64) (by decide) (tgt := 86) (by decide) ?_
        refine r_aload_n rfl rfl ?_
        refine r_mg (j := 7) hM rfl rfl (by decide) ?_
        refine r_iload_n rfl rfl ?_
        refine r_mi (j := 7) hM rfl rfl (by decide) (by first | rfl | assumption) (show _ < 120 by omega) ?_
        refine r_bipush (v := -9) rfl (by decide) ?_
        rw [t3]
        refine r_icmp_ne rfl (fun q => ?_) (fun q => ?_)
        · refine r_aload_n rfl rfl ?_
          refine r_mg (j := 8) hM rfl rfl (by decide) ?_
          refine r_iload_n rfl rfl ?_
          refine r_mi (j := 8) hM rfl rfl (by decide) (by first | rfl | assumption) (show _ < 120 by omega) ?_
          have hx : t_h (s_T S) x = true := by
            cases e : t_h (s_T S) x with
            | true => rfl
            | false => exact absurd (onT_off x1 e) q
          refine r_iret rfl rfl (fin _ ?_)
          show _ = if t_h (s_T S) x = true then nI (ixT (s_T S) x) else -9
          rw [if_pos hx]
          obtain ⟨p, i, p1, p2, p3⟩ := hW.pos hx
          rw [t4 p p1 i x p2]
          unfold ixT
          rw [p3]
          show _ = nI ((t_k (s_T S) p).idxOf x)
          rw [idx_of (hW.2.2.1 p) p2]
        · refine r_bipush (v := -9) rfl (by decide) ?_
          refine r_goto rfl ?_
          refine r_iret rfl rfl (fin _ ?_)
          show _ = if t_h (s_T S) x = true then nI (ixT (s_T S) x) else -9
          rw [(onT_9 hW x1).mp q]
          rfl
      | 3, _, fin =>
        refine r_tswIn rfl (by decide) (by decide) (off := 87) (by decide) (tgt := 109) (by decide) ?_
        refine r_aload_n rfl rfl ?_
        refine r_mg (j := 7) hM rfl rfl (by decide) ?_
        refine r_iload_n rfl rfl ?_
        refine r_mi (j := 7) hM rfl rfl (by decide) (by first | rfl | assumption) (show _ < 120 by omega) ?_
        refine r_bipush (v := -9) rfl (by decide) ?_
        rw [t3]
        refine r_icmp_ne rfl (fun q => ?_) (fun q => ?_)
        · have hx : t_h (s_T S) x = true := by
            cases e : t_h (s_T S) x with
            | true => rfl
            | false => exact absurd (onT_off x1 e) q
          refine r_aload_n rfl rfl ?_
          refine r_iload_n rfl rfl ?_
          refine r_callV (As := [_]) rfl (by decide) rfl (by first | exact hM.1 | assumption) rfl rfl (Nat.le_of_ble_eq_true rfl) ⟨Nat.le_of_ble_eq_true rfl, Nat.le_of_ble_eq_true rfl⟩ (c_M_hanging hM t1 hn9) (kc' := 0) (ks' := 0) (by omega) (by omega) (by decide) ?_
          rintro r τ ⟨rfl, rfl⟩
          have hh := hang_T hW (Or.inr hx)
          rw [cd_n (show x ≠ 120 by omega)] at hh
          rw [t3, hh]
          refine r_iret rfl rfl (fin _ ?_)
          show _ = if t_h (s_T S) x = true then nI (t_k (s_T S) x).length else 0
          rw [if_pos hx]
        · refine r_iconst (v := nI 0) rfl (by decide) ?_
          refine r_goto rfl ?_
          refine r_iret rfl rfl (fin _ ?_)
          show _ = if t_h (s_T S) x = true then nI (t_k (s_T S) x).length else 0
          rw [(onT_9 hW x1).mp q]
          rfl
      | 4, _, fin =>
        refine r_tswIn rfl (by decide) (by decide) (off := 108) (by decide) (tgt := 130) (by decide) ?_
        refine r_aload_n rfl rfl ?_
        refine r_mg (j := 16) hM rfl rfl (by decide) ?_
        refine r_iload_n rfl rfl ?_
        refine r_mi (j := 16) hM rfl rfl (by decide) (by first | rfl | assumption) (show _ < 120 by omega) ?_
        refine r_iret rfl rfl (fin _ ?_)
        show _ = if t_h (s_T S) x = true then nI (n_c S ((ordT (s_T S)).idxOf x)) else 0
        by_cases e : t_h (s_T S) x = true
        · obtain ⟨i1, i2, -⟩ := idx_at ((ord_mem hW).mpr e)
          have := d5 _ i1
          rw [i2] at this
          rw [if_pos e, this]
          rfl
        · rw [if_neg e]
          exact d6 x x1 (fun q => e ((ord_mem hW).mp q))
      | 5, _, fin =>
        refine r_tswIn rfl (by decide) (by decide) (off := 115) (by decide) (tgt := 137) (by decide) ?_
        refine r_aload_n rfl rfl ?_
        refine r_mg (j := 15) hM rfl rfl (by decide) ?_
        refine r_iload_n rfl rfl ?_
        refine r_mi (j := 15) hM rfl rfl (by decide) (by first | rfl | assumption) (show _ < 120 by omega) ?_
        refine r_iret rfl rfl (fin _ ?_)
        show _ = if t_h (s_T S) x = true then nI ((ordT (s_T S)).idxOf x) else -1
        by_cases e : t_h (s_T S) x = true
        · obtain ⟨i1, i2, -⟩ := idx_at ((ord_mem hW).mpr e)
          have := d3 _ i1
          rw [i2] at this
          rw [if_pos e, this]
        · rw [if_neg e]
          exact d4 x x1 (fun q => e ((ord_mem hW).mp q))
      | 6, _, fin =>
        refine r_tswIn rfl (by decide) (by decide) (off := 122) (by decide) (tgt := 144) (by decide) ?_
        refine r_aload_n rfl rfl ?_
        refine r_mg (j := 7) hM rfl rfl (by decide) ?_
        refine r_iload_n rfl rfl ?_
        refine r_mi (j := 7) hM rfl rfl (by decide) (by first | rfl | assumption) (show _ < 120 by omega) ?_
        refine r_bipush (v := -9) rfl (by decide) ?_
        rw [t3]
        refine r_icmp_ne rfl (fun q => ?_) (fun q => ?_)
        · have hx : t_h (s_T S) x = true := by
            cases e : t_h (s_T S) x with
            | true => rfl
            | false => exact absurd (onT_off x1 e) q
          refine r_iconst (v := nI 1) rfl (by decide) ?_
          refine r_iret rfl rfl (fin _ ?_)
          show _ = nI (t_h (s_T S) x).toNat
          rw [hx]; rfl
        · refine r_iconst (v := nI 0) rfl (by decide) ?_
          refine r_goto rfl ?_
          refine r_iret rfl rfl (fin _ ?_)
          show _ = nI (t_h (s_T S) x).toNat
          rw [(onT_9 hW x1).mp q]
          rfl
      | 7, _, fin =>
        refine r_tswIn rfl (by decide) (by decide) (off := 139) (by decide) (tgt := 161) (by decide) ?_
        refine r_aload_n rfl rfl ?_
        refine r_mg (j := 9) hM rfl rfl (by decide) ?_
        refine r_iload_n rfl rfl ?_
        refine r_mi (j := 9) hM rfl rfl (by decide) (by first | rfl | assumption) (show _ < 120 by omega) ?_
        refine r_iret rfl rfl (fin _ ?_)
        exact t5 x x1
      | 8, _, fin =>
        refine r_tswIn rfl (by decide) (by decide) (off := 146) (by decide) (tgt := 168) (by decide) ?_
        refine r_aload_n rfl rfl ?_
        refine r_mg (j := 17) hM rfl rfl (by decide) ?_
        refine r_iload_n rfl rfl ?_
        refine r_mi (j := 17) hM rfl rfl (by decide) (by first | rfl | assumption) (show _ < 120 by omega) ?_
        refine r_iret rfl rfl (fin _ ?_)
        exact d7 x x1
      | j + 9, h9, _ => omega
  · refine r_bipush (v := -10) rfl (by decide) ?_
    refine r_iret rfl rfl ⟨?_, h, MFr.rf _ _ _ _⟩
    unfold a_thing nuI
    rw [if_neg (by rw [q]; decide)]
theorem c_M_atS {S : Sp} {v : Int32} (h : RM σ o S) : Cn l D m_M_at 0 0 [va_rf (some o), .int v] σ (fun r τ => r = some (.int (a_at S v)) ∧ RM τ o S ∧ MFr mAR mAI σ τ o) := by
  have hM := h.1
  have hW := h.2.1.wf
  have hl := ord_len hW
  have hn := hW.1
  refine Cn.of (by decide) (by repeat (first | exact ca_0 | refine ca_i ?_ | refine ca_r ?_)) (Nat.le_of_ble_eq_true rfl) ?_
  refine r_aload_n rfl rfl ?_
  refine r_callV (As := []) rfl (by decide) rfl (by first | exact hM.1 | assumption) rfl rfl (Nat.le_of_ble_eq_true rfl) ⟨Nat.le_of_ble_eq_true rfl, Nat.le_of_ble_eq_true rfl⟩ (c_M_makeS h) (kc' := 0) (ks' := 0) (by omega) (by omega) (by decide) ?_
  rintro r τ ⟨rfl, hd, hf⟩
  have hfw : MFr mAR mAI σ τ o := hf.wide (by decide) (by decide)
  have hM := hd.1.1
  obtain ⟨hR, -, d1, d2, -⟩ := hd
  refine r_iload_n rfl rfl ?_
  refine r_iconst (v := nI 0) rfl (by decide) ?_
  refine r_aload_n rfl rfl ?_
  (first | refine r_getIv rfl hM.1 rfl (by assumption) ?_ | refine r_getI rfl hM.1 rfl ?_)
  refine r_iconst (v := nI 1) rfl (by decide) ?_
  refine r_isub rfl ?_
  refine r_callS (As := [_, _, _]) rfl (by decide) rfl rfl rfl (Nat.le_of_ble_eq_true rfl) ⟨Nat.le_of_ble_eq_true rfl, Nat.le_of_ble_eq_true rfl⟩ (c_M_in) (kc' := 0) (ks' := 0) (by omega) (by omega) ?_
  rintro r τ ⟨rfl, rfl⟩
  rw [show nI 0 = 0 from rfl, inB_n (by omega)]
  refine r_ifeqB rfl (fun q => ?_) (fun q => ?_)
  · refine r_iconst (v := -1) rfl (by decide) ?_
    refine r_iret rfl rfl ⟨?_, hR, hfw⟩
    unfold a_at
    by_cases a : v < 0
    · rw [if_pos a]
    · rw [if_neg a]
      obtain ⟨j, hj, rfl⟩ := nI_of a
      rw [decide_eq_true (nI_pos' hj), Bool.true_and, decide_eq_false_iff_not, nI_ltI hj (by omega)] at q
      rw [nI_clamp hj, List.getElem?_eq_none (by omega)]
      rfl
  · simp only [Bool.and_eq_true, decide_eq_true_eq] at q
    obtain ⟨j, hj, rfl⟩ := nI_of (Int32.not_lt.mpr q.1)
    have hjl := (nI_ltI hj (by omega)).mp q.2
    refine r_aload_n rfl rfl ?_
    refine r_mg (j := 14) hM rfl rfl (by decide) ?_
    refine r_iload_n rfl rfl ?_
    refine r_mi (j := 14) hM rfl rfl (by decide) (by first | rfl | assumption) (show _ < 120 by omega) ?_
    refine r_goto rfl ?_
    refine r_iret rfl rfl ⟨?_, hR, hfw⟩
    unfold a_at
    rw [if_neg (nI_pos hj), nI_clamp hj, d2 j hjl, List.getD_eq_getElem?_getD]
    rw [List.getElem?_eq_getElem hjl]
    rfl
theorem c_M_toldS {S : Sp} {v i : Int32} (h : RM σ o S) : Cn l D m_M_told 0 0 [va_rf (some o), .int v, .int i] σ (fun r τ => r = some (.int (a_told S v i)) ∧ RM τ o S ∧ MFr mAR mAI σ τ o) := by
  have hM := h.1
  have hS := h.2.1
  have hW := hS.wf
  have hn9 := hS.1
  obtain ⟨hn, -, r5, -⟩ := h.rt
  refine Cn.of (by decide) (by repeat (first | exact ca_0 | refine ca_i ?_ | refine ca_r ?_)) (Nat.le_of_ble_eq_true rfl) ?_
  refine r_aload_n rfl rfl ?_
  refine r_iload_n rfl rfl ?_
  refine r_callV (As := [_]) rfl (by decide) rfl (by first | exact hM.1 | assumption) rfl rfl (Nat.le_of_ble_eq_true rfl) ⟨Nat.le_of_ble_eq_true rfl, Nat.le_of_ble_eq_true rfl⟩ (c_M_isThere hM hn hn9) (kc' := 0) (ks' := 0) (by omega) (by omega) (by decide) ?_
  rintro r σ ⟨rfl, rfl⟩
  rw [r5]
  refine r_ifneB rfl (fun q => ?_) (fun q => ?_)
  · obtain ⟨x, x1, x2, rfl, x4⟩ := isTh_some hS q
    refine r_aload_n rfl rfl ?_
    refine r_callV (As := []) rfl (by decide) rfl (by first | exact hM.1 | assumption) rfl rfl (Nat.le_of_ble_eq_true rfl) ⟨Nat.le_of_ble_eq_true rfl, Nat.le_of_ble_eq_true rfl⟩ (c_M_makeS h) (kc' := 0) (ks' := 0) (by omega) (by omega) (by decide) ?_
    rintro r τ ⟨rfl, hd, hf⟩
    have hfw : MFr mAR mAI σ τ o := hf.wide (by decide) (by decide)
    have hM := hd.1.1
    have hR := hd.1
    have hk := hS.2.1 x x1
    have hwd := hd.1.2.2.2.1 (s_k S x) hk
    have htx := hd.tx x1
    have t2 : h_X τ (o + 1 + 6) x = nI (s_k S x) := by rw [hd.1.rt.2.1]
    have hlen : (tdT S x).length ≤ 71 := by
      unfold tdT toldL
      have := hwd.2.1
      have := htx.2.1
      split <;> simp <;> omega
    refine r_iload_n rfl rfl ?_
    refine r_iconst (v := nI 0) rfl (by decide) ?_
    refine r_aload_n rfl rfl ?_
    refine r_iload_n rfl rfl ?_
    refine r_callV (As := [_]) rfl (by decide) rfl (by first | exact hM.1 | assumption) rfl rfl (Nat.le_of_ble_eq_true rfl) ⟨Nat.le_of_ble_eq_true rfl, Nat.le_of_ble_eq_true rfl⟩ (c_M_toldSize hM (by omega) t2 hk hwd htx) (kc' := 0) (ks' := 0) (by omega) (by omega) (by decide) ?_
    rintro r τ ⟨rfl, rfl⟩
    refine r_iconst (v := nI 1) rfl (by decide) ?_
    refine r_isub rfl ?_
    refine r_callS (As := [_, _, _]) rfl (by decide) rfl rfl rfl (Nat.le_of_ble_eq_true rfl) ⟨Nat.le_of_ble_eq_true rfl, Nat.le_of_ble_eq_true rfl⟩ (c_M_in) (kc' := 0) (ks' := 0) (by omega) (by omega) ?_
    rintro r τ ⟨rfl, rfl⟩
    rw [show nI 0 = 0 from rfl, inB_n (by unfold tdT at hlen; omega)]
    have ea : a_told S (nI x) i = byI (tdT S x) i := by unfold a_told; rw [x4]
    refine r_ifeqB rfl (fun q => ?_) (fun q => ?_)
    · refine r_iconst (v := -1) rfl (by decide) ?_
      refine r_iret rfl rfl ⟨?_, hR, hfw⟩
      rw [ea]
      unfold byI
      by_cases a : i < 0
      · rw [if_pos a]
      · rw [if_neg a]
        obtain ⟨j, hj, rfl⟩ := nI_of a
        rw [decide_eq_true (nI_pos' hj), Bool.true_and, decide_eq_false_iff_not, nI_ltI hj (by unfold tdT at hlen; omega)] at q
        rw [nI_clamp hj, List.getD_eq_getElem?_getD, List.getElem?_eq_none (by unfold tdT; omega)]
        rfl
    · simp only [Bool.and_eq_true, decide_eq_true_eq] at q
      obtain ⟨j, hj, rfl⟩ := nI_of (Int32.not_lt.mpr q.1)
      have hjl := (nI_ltI hj (by unfold tdT at hlen; omega)).mp q.2
      refine r_aload_n rfl rfl ?_
      refine r_iload_n rfl rfl ?_
      refine r_iload_n rfl rfl ?_
      refine r_callV (As := [_, _]) rfl (by decide) rfl (by first | exact hM.1 | assumption) rfl rfl (Nat.le_of_ble_eq_true rfl) ⟨Nat.le_of_ble_eq_true rfl, Nat.le_of_ble_eq_true rfl⟩ (c_M_toldByte hM (by omega) t2 hk hwd htx hjl) (kc' := 0) (ks' := 0) (by omega) (by omega) (by decide) ?_
      rintro r τ ⟨rfl, rfl⟩
      refine r_goto rfl ?_
      refine r_iret rfl rfl ⟨?_, hR, hfw⟩
      rw [ea]
      unfold byI
      rw [if_neg (nI_pos hj), nI_clamp hj]
      unfold tdT
      rw [List.getD_eq_getElem?_getD, List.getD_eq_getElem?_getD, List.getElem?_eq_getElem hjl]
      rfl
  · refine r_iconst (v := -1) rfl (by decide) ?_
    refine r_iret rfl rfl ⟨?_, h, MFr.rf _ _ _ _⟩
    unfold a_told
    rw [isTh_none q]
end MC
end
section
/-! ===== the reference: twins, count, mention, frozen, leads ===== -/
theorem cntB_no {p : Nat → Bool} {n : Nat} (h : ∀ y, y < n → p y = false) : cntB p n = 0 := by
  induction n with
  | zero => rfl
  | succ n ih => rw [cntB, ih (fun y hy => h y (by omega)), h n (by omega)]; rfl
theorem sumN_le {f : Nat → Nat} {m : Nat} (n : Nat) (h : ∀ x, f x ≤ m) : sumN f n ≤ n * m := by
  induction n with
  | zero => exact Nat.zero_le _
  | succ n ih =>
    rw [sumN, Nat.succ_mul]
    have := h n
    omega
section MC
variable {l : Launch} {D : DD} {σ : Hp} {o : Nat}
set_option maxHeartbeats 1000000 in
theorem c_M_twinsS {S : Sp} (h : RM σ o S) : Cn l D m_M_twins 0 0 [va_rf (some o)] σ (fun r τ => r = some (.int (a_twins S)) ∧ RM τ o S ∧ MFr mAR mAI σ τ o) := by
  have hM := h.1
  have hS := h.2.1
  have hW := hS.wf
  have hn9 := hS.1
  generalize hQ : (fun (r : Option Value) (τ : Hp) => r = some (.int (a_twins S)) ∧ RM τ o S ∧ MFr mAR mAI σ τ o) = Q
  refine Cn.of (by decide) (by repeat (first | exact ca_0 | refine ca_i ?_ | refine ca_r ?_)) (Nat.le_of_ble_eq_true rfl) ?_
  refine r_aload_n rfl rfl ?_
  refine r_callV (As := []) rfl (by decide) rfl (by first | exact hM.1 | assumption) rfl rfl (Nat.le_of_ble_eq_true rfl) ⟨Nat.le_of_ble_eq_true rfl, Nat.le_of_ble_eq_true rfl⟩ (c_M_makeS h) (kc' := 0) (ks' := 0) (by omega) (by omega) (by decide) ?_
  rintro r τ ⟨rfl, hd, hf⟩
  have hfw : MFr mAR mAI σ τ o := hf.wide (by decide) (by decide)
  have hM := hd.1.1
  have hR := hd.1
  obtain ⟨t1, t2, t3, t4, t5⟩ := hd.1.rt
  have htx : ∀ x, x < s_n S → Tx τ o 18 19 x (n_n S x) := fun x hx => hd.tx hx
  refine r_iconst (v := nI 0) rfl (by decide) ?_
  refine r_istore_n rfl (by decide) ?_
  refine r_iconst (v := nI 0) rfl (by decide) ?_
  refine r_istore_n rfl (by decide) ?_
  have lp : ∀ (d x : Nat) (z3 : Option Value), x + d = s_n S → Gm l D m_M_twins 0 0 Q 8 [some (va_rf (some o)), some (.int (nI (sumN (fun x => cntB (fun y => decide (x < y) && twB S x y) (s_n S)) x))), some (.int (nI x)), z3] [] τ 0 0 := by
    intro d
    induction d with
    | zero =>
      intro x z3 hx
      refine r_iload_n rfl rfl ?_
      refine r_aload_n rfl rfl ?_
      (first | refine r_getIv rfl hM.1 rfl (by assumption) ?_ | refine r_getI rfl hM.1 rfl ?_)
      refine r_geN rfl (by omega) (by omega) (fun _ => ?_) (fun q => by omega)
      refine r_iload_n rfl rfl ?_
      refine r_iret rfl rfl ?_
      rw [← hQ]
      refine ⟨?_, hR, hfw⟩
      rw [show x = s_n S by omega]
      rfl
    | succ d ih =>
      intro x z3 hx
      refine r_iload_n rfl rfl ?_
      refine r_aload_n rfl rfl ?_
      (first | refine r_getIv rfl hM.1 rfl (by assumption) ?_ | refine r_getI rfl hM.1 rfl ?_)
      refine r_geN rfl (by omega) (by omega) (fun q => by omega) (fun _ => ?_)
      refine r_iload_n rfl rfl ?_
      refine r_iconst (v := nI 1) rfl (by decide) ?_
      (first | refine r_iaddN rfl ?_ | refine r_iadd rfl ?_)
      refine r_istore_n rfl (by decide) ?_
      have inn : ∀ (e y : Nat), y + e = s_n S → x < y → Gm l D m_M_twins 0 0 Q 20 [some (va_rf (some o)), some (.int (nI (sumN (fun x => cntB (fun y => decide (x < y) && twB S x y) (s_n S)) x + cntB (fun y => decide (x < y) && twB S x y) y))), some (.int (nI x)), some (.int (nI y))] [] τ 0 0 := by
        intro e
        induction e with
        | zero =>
          intro y hy hxy
          refine r_iload_n rfl rfl ?_
          refine r_aload_n rfl rfl ?_
          (first | refine r_getIv rfl hM.1 rfl (by assumption) ?_ | refine r_getI rfl hM.1 rfl ?_)
          refine r_geN rfl (by omega) (by omega) (fun _ => ?_) (fun q => by omega)
          refine r_iinc rfl rfl (nI_inc _) ?_
          refine r_goto rfl ?_
          have := ih (x + 1) (some (.int (nI y))) (by omega)
          rw [sumN, show cntB (fun y => decide (x < y) && twB S x y) (s_n S) = cntB (fun y => decide (x < y) && twB S x y) y by rw [show y = s_n S by omega]] at this
          exact this
        | succ e ih2 =>
          intro y hy hxy
          have ih2 := ih2 (y + 1) (by omega) (by omega)
          have hcn : cntB (fun y => decide (x < y) && twB S x y) (y + 1) = cntB (fun y => decide (x < y) && twB S x y) y + (twB S x y).toNat := by
            rw [cntB, decide_eq_true hxy, Bool.true_and]
          rw [hcn, ← Nat.add_assoc] at ih2
          generalize sumN (fun x => cntB (fun y => decide (x < y) && twB S x y) (s_n S)) x + cntB (fun y => decide (x < y) && twB S x y) y = c at ih2 ⊢
          have fin : ∀ (b : Bool), twB S x y = b → Gm l D m_M_twins 0 0 Q 74 [some (va_rf (some o)), some (.int (nI c)), some (.int (nI x)), some (.int (nI y))] [.int (nI b.toNat), .int (nI c)] τ 0 0 := by
            intro b hb
            rw [hb] at ih2
            (first | refine r_iaddN rfl ?_ | refine r_iadd rfl ?_)
            refine r_istore_n rfl (by decide) ?_
            refine r_iinc rfl rfl (nI_inc _) ?_
            refine r_goto rfl ?_
            exact ih2
          have no : twB S x y = false → Gm l D m_M_twins 0 0 Q 73 [some (va_rf (some o)), some (.int (nI c)), some (.int (nI x)), some (.int (nI y))] [.int (nI c)] τ 0 0 := by
            intro hb
            refine r_iconst (v := nI 0) rfl (by decide) ?_
            exact fin false hb
          refine r_iload_n rfl rfl ?_
          refine r_aload_n rfl rfl ?_
          (first | refine r_getIv rfl hM.1 rfl (by assumption) ?_ | refine r_getI rfl hM.1 rfl ?_)
          refine r_geN rfl (by omega) (by omega) (fun q => by omega) (fun _ => ?_)
          refine r_iload_n rfl rfl ?_
          refine r_aload_n rfl rfl ?_
          refine r_iload_n rfl rfl ?_
          refine r_callV (As := [_]) rfl (by decide) rfl (by first | exact hM.1 | assumption) rfl rfl (Nat.le_of_ble_eq_true rfl) ⟨Nat.le_of_ble_eq_true rfl, Nat.le_of_ble_eq_true rfl⟩ (c_M_isThere hM t1 hn9) (kc' := 0) (ks' := 0) (by omega) (by omega) (by decide) ?_
          rintro r τ ⟨rfl, rfl⟩
          rw [t3, isTh_T hW (by omega), decide_eq_true (show x < s_n S by omega), Bool.true_and]
          refine r_ifeqB rfl (fun q => no (by unfold twB; rw [q]; rfl)) (fun q1 => ?_)
          refine r_aload_n rfl rfl ?_
          refine r_iload_n rfl rfl ?_
          refine r_callV (As := [_]) rfl (by decide) rfl (by first | exact hM.1 | assumption) rfl rfl (Nat.le_of_ble_eq_true rfl) ⟨Nat.le_of_ble_eq_true rfl, Nat.le_of_ble_eq_true rfl⟩ (c_M_isThere hM t1 hn9) (kc' := 0) (ks' := 0) (by omega) (by omega) (by decide) ?_
          rintro r τ ⟨rfl, rfl⟩
          rw [t3, isTh_T hW (by omega), decide_eq_true (show y < s_n S by omega), Bool.true_and]
          refine r_ifeqB rfl (fun q => no (by unfold twB; rw [q, Bool.and_false]; rfl)) (fun q2 => ?_)
          refine r_aload_n rfl rfl ?_
          refine r_mg (j := 6) hM rfl rfl (by decide) ?_
          refine r_iload_n rfl rfl ?_
          refine r_mi (j := 6) hM rfl rfl (by decide) (by first | rfl | assumption) (show _ < 120 by omega) ?_
          refine r_aload_n rfl rfl ?_
          refine r_mg (j := 6) hM rfl rfl (by decide) ?_
          refine r_iload_n rfl rfl ?_
          refine r_mi (j := 6) hM rfl rfl (by decide) (by first | rfl | assumption) (show _ < 120 by omega) ?_
          rw [t2]
          refine r_neN rfl (by have := hS.2.1 x (by omega); omega) (by have := hS.2.1 y (by omega); omega) (fun q => no (by unfold twB; rw [decide_eq_false q, Bool.and_false]; rfl)) (fun q3 => ?_)
          refine r_aload_n rfl rfl ?_
          refine r_iload_n rfl rfl ?_
          refine r_iload_n rfl rfl ?_
          refine r_callV (As := [_, _]) rfl (by decide) rfl (by first | exact hM.1 | assumption) rfl rfl (Nat.le_of_ble_eq_true rfl) ⟨Nat.le_of_ble_eq_true rfl, Nat.le_of_ble_eq_true rfl⟩ (c_M_sameNumber hM (by omega) (by omega) (htx x (by omega)) (htx y (by omega))) (kc' := 0) (ks' := 0) (by omega) (by omega) (by decide) ?_
          rintro r τ ⟨rfl, rfl⟩
          refine r_ifeqB rfl (fun q => no (by unfold twB; rw [q, Bool.and_false])) (fun q4 => ?_)
          refine r_iconst (v := nI 1) rfl (by decide) ?_
          refine r_goto rfl ?_
          exact fin true (by unfold twB; rw [q1, q2, decide_eq_true q3, q4]; rfl)
      have := inn (s_n S - (x + 1)) (x + 1) (by omega) (by omega)
      rw [cntB_no (p := fun y => decide (x < y) && twB S x y) (n := x + 1) (fun y hy => by rw [decide_eq_false (by omega)]; rfl)] at this
      exact this
  exact lp (s_n S) 0 none (by omega)
set_option maxRecDepth 10000 in
set_option maxHeartbeats 1000000 in
theorem c_M_countS {S : Sp} {w : Int32} (h : RM σ o S) : Cn l D m_M_count 0 0 [va_rf (some o), .int w] σ (fun r τ => r = some (.int (a_count S w)) ∧ RM τ o S ∧ MFr mAR mAI σ τ o) := by
  have hM := h.1
  obtain ⟨-, hS, hT, hWd, hF, hG, -, hMe, hE, -⟩ := id h
  have hn := h.rt.1
  have h733 := hMe.1
  have h744 := hE.1
  have h716 : h_I σ 716 o = nI (s_l S).length := hG.2.1
  have h705 := hT.1
  have i0 : ∀ j, j < 2 ^ 31 → a_count S (nI j) = a_coN S j := fun j hj => by unfold a_count; rw [if_neg (nI_pos hj), nI_clamp hj]
  have oth : ∀ j, a_coN S (j + 6) = if 10 ≤ (j + 6) ∧ (j + 6) ≤ 15 then nI (f_c (s_f S) ((j + 6) - 10)) else if 20 ≤ (j + 6) ∧ (j + 6) ≤ 25 then nI (f_y (s_f S) ((j + 6) - 20)) else if 30 ≤ (j + 6) ∧ (j + 6) ≤ 35 then nI (f_j (s_f S) ((j + 6) - 30)) else if 40 ≤ (j + 6) ∧ (j + 6) ≤ 45 then nI (s_w S ((j + 6) - 40)).length else -1 := fun j => rfl
  have rng : ∀ (a : Nat), a < 1000 → inB w (nI a) (nI (a + 5)) = true → ∃ k, k < 6 ∧ w = nI (a + k) := by
    intro a ha q
    unfold inB at q
    simp only [Bool.and_eq_true, decide_eq_true_eq] at q
    have : ¬ w < 0 := by
      intro q0
      have h1 := Int32.le_iff_toInt_le.mp q.1
      have h2 := Int32.lt_iff_toInt_lt.mp q0
      rw [nI_toInt (by omega)] at h1
      have h2 : w.toInt < 0 := by simpa using h2
      omega
    obtain ⟨j, hj, rfl⟩ := nI_of this
    have h1 := (nI_leI (by omega) hj).mp q.1
    have h2 := (nI_leI hj (by omega)).mp q.2
    exact ⟨j - a, by omega, by congr 1; omega⟩
  have rng2 : ∀ (a j : Nat), a < 1000 → j < 2 ^ 31 → inB (nI j) (nI a) (nI (a + 5)) = false → ¬ (a ≤ j ∧ j ≤ a + 5) := by
    intro a j ha hj q w
    unfold inB at q
    rw [decide_eq_true (nI_le w.1 hj), decide_eq_true (nI_le w.2 (by omega))] at q
    cases q
  refine Cn.of (by decide) (by repeat (first | exact ca_0 | refine ca_i ?_ | refine ca_r ?_)) (Nat.le_of_ble_eq_true rfl) ?_
  refine r_iload_n rfl rfl ?_
  have out : (w < 0 ∨ ∃ j, 5 < j ∧ j < 2 ^ 31 ∧ w = nI j) → Gm l D m_M_count 0 0 (fun r τ => r = some (.int (a_count S w)) ∧ RM τ o S ∧ MFr mAR mAI σ τ o) 74 [some (va_rf (some o)), some (.int w)] [] σ 0 0 := by
    intro hw
    refine r_iload_n rfl rfl ?_
    refine r_bipush (v := nI 10) rfl (by decide) ?_
    refine r_bipush (v := nI 15) rfl (by decide) ?_
    refine r_callS (As := [_, _, _]) rfl (by decide) rfl rfl rfl (Nat.le_of_ble_eq_true rfl) ⟨Nat.le_of_ble_eq_true rfl, Nat.le_of_ble_eq_true rfl⟩ (c_M_in) (kc' := 0) (ks' := 0) (by omega) (by omega) ?_
    rintro r σ ⟨rfl, rfl⟩
    refine r_ifeqB rfl (fun q1 => ?_) (fun q1 => ?_)
    · refine r_iload_n rfl rfl ?_
      refine r_bipush (v := nI 20) rfl (by decide) ?_
      refine r_bipush (v := nI 25) rfl (by decide) ?_
      refine r_callS (As := [_, _, _]) rfl (by decide) rfl rfl rfl (Nat.le_of_ble_eq_true rfl) ⟨Nat.le_of_ble_eq_true rfl, Nat.le_of_ble_eq_true rfl⟩ (c_M_in) (kc' := 0) (ks' := 0) (by omega) (by omega) ?_
      rintro r σ ⟨rfl, rfl⟩
      refine r_ifeqB rfl (fun q2 => ?_) (fun q2 => ?_)
      · refine r_iload_n rfl rfl ?_
        refine r_bipush (v := nI 30) rfl (by decide) ?_
        refine r_bipush (v := nI 35) rfl (by decide) ?_
        refine r_callS (As := [_, _, _]) rfl (by decide) rfl rfl rfl (Nat.le_of_ble_eq_true rfl) ⟨Nat.le_of_ble_eq_true rfl, Nat.le_of_ble_eq_true rfl⟩ (c_M_in) (kc' := 0) (ks' := 0) (by omega) (by omega) ?_
        rintro r σ ⟨rfl, rfl⟩
        refine r_ifeqB rfl (fun q3 => ?_) (fun q3 => ?_)
        · refine r_iload_n rfl rfl ?_
          refine r_bipush (v := nI 40) rfl (by decide) ?_
          refine r_bipush (v := nI 45) rfl (by decide) ?_
          refine r_callS (As := [_, _, _]) rfl (by decide) rfl rfl rfl (Nat.le_of_ble_eq_true rfl) ⟨Nat.le_of_ble_eq_true rfl, Nat.le_of_ble_eq_true rfl⟩ (c_M_in) (kc' := 0) (ks' := 0) (by omega) (by omega) ?_
          rintro r σ ⟨rfl, rfl⟩
          refine r_ifeqB rfl (fun q4 => ?_) (fun q4 => ?_)
          · refine r_iconst (v := -1) rfl (by decide) ?_
            refine r_iret rfl rfl ⟨?_, h, MFr.rf _ _ _ _⟩
            rcases hw with hw | ⟨j, j1, j2, rfl⟩
            · unfold a_count
              rw [if_pos hw]
            · have n1 := rng2 10 j (by decide) j2 q1
              have n2 := rng2 20 j (by decide) j2 q2
              have n3 := rng2 30 j (by decide) j2 q3
              have n4 := rng2 40 j (by decide) j2 q4
              rw [i0 j j2]
              obtain ⟨i, rfl⟩ : ∃ i, j = i + 6 := ⟨j - 6, by omega⟩
              rw [oth, if_neg n1, if_neg n2, if_neg n3, if_neg n4]
          · obtain ⟨k, k1, rfl⟩ := rng 40 (by decide) q4
            refine r_aload_n rfl rfl ?_
            refine r_mg (j := 2) hM rfl rfl (by decide) ?_
            refine r_iload_n rfl rfl ?_
            refine r_bipush (v := nI 40) rfl (by decide) ?_
            refine r_isubN rfl (by omega) ?_
            rw [show 40 + k - 40 = k by omega]
            refine r_mi (j := 2) hM rfl rfl (by decide) rfl (show _ < 6 by omega) ?_
            rw [(hWd k k1).1]
            refine r_goto rfl ?_
            refine r_iret rfl rfl ⟨?_, h, MFr.rf _ _ _ _⟩
            rw [i0 _ (by omega), show 40 + k = (34 + k) + 6 by omega, oth, if_neg (by omega), if_neg (by omega), if_neg (by omega), if_pos (by omega), show 34 + k + 6 - 40 = k by omega]
        · obtain ⟨k, k1, rfl⟩ := rng 30 (by decide) q3
          refine r_aload_n rfl rfl ?_
          refine r_mg (j := 5) hM rfl rfl (by decide) ?_
          refine r_iload_n rfl rfl ?_
          refine r_bipush (v := nI 30) rfl (by decide) ?_
          refine r_isubN rfl (by omega) ?_
          rw [show 30 + k - 30 = k by omega]
          refine r_mi (j := 5) hM rfl rfl (by decide) rfl (show _ < 6 by omega) ?_
          rw [(hF k k1).2.2]
          refine r_iret rfl rfl ⟨?_, h, MFr.rf _ _ _ _⟩
          rw [i0 _ (by omega), show 30 + k = (24 + k) + 6 by omega, oth, if_neg (by omega), if_neg (by omega), if_pos (by omega), show 24 + k + 6 - 30 = k by omega]
      · obtain ⟨k, k1, rfl⟩ := rng 20 (by decide) q2
        refine r_aload_n rfl rfl ?_
        refine r_mg (j := 4) hM rfl rfl (by decide) ?_
        refine r_iload_n rfl rfl ?_
        refine r_bipush (v := nI 20) rfl (by decide) ?_
        refine r_isubN rfl (by omega) ?_
        rw [show 20 + k - 20 = k by omega]
        refine r_mi (j := 4) hM rfl rfl (by decide) rfl (show _ < 6 by omega) ?_
        rw [(hF k k1).2.1]
        refine r_iret rfl rfl ⟨?_, h, MFr.rf _ _ _ _⟩
        rw [i0 _ (by omega), show 20 + k = (14 + k) + 6 by omega, oth, if_neg (by omega), if_pos (by omega), show 14 + k + 6 - 20 = k by omega]
    · obtain ⟨k, k1, rfl⟩ := rng 10 (by decide) q1
      refine r_aload_n rfl rfl ?_
      refine r_mg (j := 3) hM rfl rfl (by decide) ?_
      refine r_iload_n rfl rfl ?_
      refine r_bipush (v := nI 10) rfl (by decide) ?_
      refine r_isubN rfl (by omega) ?_
      rw [show 10 + k - 10 = k by omega]
      refine r_mi (j := 3) hM rfl rfl (by decide) rfl (show _ < 6 by omega) ?_
      rw [(hF k k1).1]
      refine r_iret rfl rfl ⟨?_, h, MFr.rf _ _ _ _⟩
      rw [i0 _ (by omega), show 10 + k = (4 + k) + 6 by omega, oth, if_pos (by omega), show 4 + k + 6 - 10 = k by omega]
  rcases sw_in (w := w) 5 (by decide) with ⟨w1, w2⟩ | ⟨j, j1, rfl⟩
  · exact r_tswOut rfl w1 (tgt := 74) (by decide) (out w2)
  · clear out rng rng2 oth
    match j, j1 with
    | 0, _ =>
      refine r_tswIn rfl (by decide) (by decide) (off := 39) (by decide) (tgt := 40) (by decide) ?_
      refine r_aload_n rfl rfl ?_
      (first | refine r_getIv rfl hM.1 rfl (by assumption) ?_ | refine r_getI rfl hM.1 rfl ?_)
      exact r_iret rfl rfl ⟨by rw [i0 0 (by decide)]; rfl, h, MFr.rf _ _ _ _⟩
    | 1, _ =>
      refine r_tswIn rfl (by decide) (by decide) (off := 44) (by decide) (tgt := 45) (by decide) ?_
      refine r_aload_n rfl rfl ?_
      refine r_callV (As := []) rfl (by decide) rfl (by first | exact hM.1 | assumption) rfl rfl (Nat.le_of_ble_eq_true rfl) ⟨Nat.le_of_ble_eq_true rfl, Nat.le_of_ble_eq_true rfl⟩ (c_M_makeS h) (kc' := 0) (ks' := 0) (by omega) (by omega) (by decide) ?_
      rintro r τ ⟨rfl, hd, hf⟩
      have hM := hd.1.1
      have h724 := hd.2.2.1
      refine r_aload_n rfl rfl ?_
      (first | refine r_getIv rfl hM.1 rfl (by assumption) ?_ | refine r_getI rfl hM.1 rfl ?_)
      exact r_iret rfl rfl ⟨by rw [i0 1 (by decide)]; rfl, hd.1, hf.wide (by decide) (by decide)⟩
    | 2, _ =>
      refine r_tswIn rfl (by decide) (by decide) (off := 53) (by decide) (tgt := 54) (by decide) ?_
      refine r_aload_n rfl rfl ?_
      (first | refine r_getIv rfl hM.1 rfl (by assumption) ?_ | refine r_getI rfl hM.1 rfl ?_)
      exact r_iret rfl rfl ⟨by rw [i0 2 (by decide)]; rfl, h, MFr.rf _ _ _ _⟩
    | 3, _ =>
      refine r_tswIn rfl (by decide) (by decide) (off := 58) (by decide) (tgt := 59) (by decide) ?_
      refine r_aload_n rfl rfl ?_
      (first | refine r_getIv rfl hM.1 rfl (by assumption) ?_ | refine r_getI rfl hM.1 rfl ?_)
      exact r_iret rfl rfl ⟨by rw [i0 3 (by decide)]; rfl, h, MFr.rf _ _ _ _⟩
    | 4, _ =>
      refine r_tswIn rfl (by decide) (by decide) (off := 63) (by decide) (tgt := 64) (by decide) ?_
      refine r_aload_n rfl rfl ?_
      (first | refine r_getIv rfl hM.1 rfl (by assumption) ?_ | refine r_getI rfl hM.1 rfl ?_)
      exact r_iret rfl rfl ⟨by rw [i0 4 (by decide)]; rfl, h, MFr.rf _ _ _ _⟩
    | 5, _ =>
      refine r_tswIn rfl (by decide) (by decide) (off := 68) (by decide) (tgt := 69) (by decide) ?_
      refine r_aload_n rfl rfl ?_
      (first | refine r_getIv rfl hM.1 rfl (by assumption) ?_ | refine r_getI rfl hM.1 rfl ?_)
      exact r_iret rfl rfl ⟨by rw [i0 5 (by decide)]; rfl, h, MFr.rf _ _ _ _⟩
    | j + 6, h9 => omega
end MC
end
