section
-- ===== PART A: goes FIRST, ahead of the names: the tables' words, and 'selects' of the private methods out of them =====
/-- a private method of a class that the tables say can be made, by its rows of tables_1 -/
def lw_okq (q : MethodName × Nat) : Prop := (q.1.cls ≠ "java/lang/invoke/MethodHandle" ∧ q.1.cls ≠ "java/lang/invoke/VarHandle") ∧ Cond.instantiable q.1.cls q.2 ∈ tables_1 ∧ Cond.privateMethod q.1 ∈ tables_1 ∧ Cond.instanceMethod q.1 ∈ tables_1
theorem lw_p0 : lw_okq (⟨"HayBoard$Common", "isClear", "(III)Z"⟩, 14) := ⟨⟨by decide +kernel, by decide +kernel⟩, List.mem_of_getElem? (i := 178) (by decide +kernel), List.mem_of_getElem? (i := 372) (by decide +kernel), List.mem_of_getElem? (i := 373) (by decide +kernel)⟩
theorem lw_p1 : lw_okq (⟨"HayBoard", "setPlace", "(II)I"⟩, 11) := ⟨⟨by decide +kernel, by decide +kernel⟩, List.mem_of_getElem? (i := 18) (by decide +kernel), List.mem_of_getElem? (i := 396) (by decide +kernel), List.mem_of_getElem? (i := 397) (by decide +kernel)⟩
theorem lw_p2 : lw_okq (⟨"HayBoard", "lookTwoAhead", "(I)V"⟩, 11) := ⟨⟨by decide +kernel, by decide +kernel⟩, List.mem_of_getElem? (i := 18) (by decide +kernel), List.mem_of_getElem? (i := 482) (by decide +kernel), List.mem_of_getElem? (i := 483) (by decide +kernel)⟩
theorem lw_p3 : lw_okq (⟨"HayBoard$Common", "graze", "()V"⟩, 14) := ⟨⟨by decide +kernel, by decide +kernel⟩, List.mem_of_getElem? (i := 178) (by decide +kernel), List.mem_of_getElem? (i := 537) (by decide +kernel), List.mem_of_getElem? (i := 538) (by decide +kernel)⟩
theorem lw_p4 : lw_okq (⟨"HayBoard$Common", "rainFalls", "()V"⟩, 14) := ⟨⟨by decide +kernel, by decide +kernel⟩, List.mem_of_getElem? (i := 178) (by decide +kernel), List.mem_of_getElem? (i := 542) (by decide +kernel), List.mem_of_getElem? (i := 543) (by decide +kernel)⟩
theorem lw_p5 : lw_okq (⟨"HayBoard", "thinkGone", "(I)V"⟩, 11) := ⟨⟨by decide +kernel, by decide +kernel⟩, List.mem_of_getElem? (i := 18) (by decide +kernel), List.mem_of_getElem? (i := 568) (by decide +kernel), List.mem_of_getElem? (i := 569) (by decide +kernel)⟩
theorem lw_p6 : lw_okq (⟨"HayBoard$Tape", "passTo", "(I)V"⟩, 4) := ⟨⟨by decide +kernel, by decide +kernel⟩, List.mem_of_getElem? (i := 28) (by decide +kernel), List.mem_of_getElem? (i := 638) (by decide +kernel), List.mem_of_getElem? (i := 639) (by decide +kernel)⟩
theorem lw_p7 : lw_okq (⟨"HayBoard$Tape", "byteAt", "(I)I"⟩, 4) := ⟨⟨by decide +kernel, by decide +kernel⟩, List.mem_of_getElem? (i := 28) (by decide +kernel), List.mem_of_getElem? (i := 642) (by decide +kernel), List.mem_of_getElem? (i := 643) (by decide +kernel)⟩
theorem lw_p8 : lw_okq (⟨"HayBoard$Tape", "readKey", "()Z"⟩, 4) := ⟨⟨by decide +kernel, by decide +kernel⟩, List.mem_of_getElem? (i := 28) (by decide +kernel), List.mem_of_getElem? (i := 647) (by decide +kernel), List.mem_of_getElem? (i := 648) (by decide +kernel)⟩
theorem lw_p9 : lw_okq (⟨"HayBoard$Tape", "isWord", "(Ljava/lang/String;)Z"⟩, 4) := ⟨⟨by decide +kernel, by decide +kernel⟩, List.mem_of_getElem? (i := 28) (by decide +kernel), List.mem_of_getElem? (i := 652) (by decide +kernel), List.mem_of_getElem? (i := 653) (by decide +kernel)⟩
theorem lw_p10 : lw_okq (⟨"HayBoard$Tape", "wordEnd", "()I"⟩, 4) := ⟨⟨by decide +kernel, by decide +kernel⟩, List.mem_of_getElem? (i := 28) (by decide +kernel), List.mem_of_getElem? (i := 656) (by decide +kernel), List.mem_of_getElem? (i := 657) (by decide +kernel)⟩
theorem lw_p11 : lw_okq (⟨"HayBoard$Tape", "readLevel", "(III)Z"⟩, 4) := ⟨⟨by decide +kernel, by decide +kernel⟩, List.mem_of_getElem? (i := 28) (by decide +kernel), List.mem_of_getElem? (i := 716) (by decide +kernel), List.mem_of_getElem? (i := 717) (by decide +kernel)⟩
theorem lw_p12 : lw_okq (⟨"HayBoard$Tape", "readPiece", "(II)Z"⟩, 4) := ⟨⟨by decide +kernel, by decide +kernel⟩, List.mem_of_getElem? (i := 28) (by decide +kernel), List.mem_of_getElem? (i := 720) (by decide +kernel), List.mem_of_getElem? (i := 721) (by decide +kernel)⟩
theorem lw_p13 : lw_okq (⟨"HayBoard$Tape", "readNot", "(II)Z"⟩, 4) := ⟨⟨by decide +kernel, by decide +kernel⟩, List.mem_of_getElem? (i := 28) (by decide +kernel), List.mem_of_getElem? (i := 724) (by decide +kernel), List.mem_of_getElem? (i := 725) (by decide +kernel)⟩
theorem lw_p14 : lw_okq (⟨"HayBoard$Law", "addStep", "(I)V"⟩, 5) := ⟨⟨by decide +kernel, by decide +kernel⟩, List.mem_of_getElem? (i := 34) (by decide +kernel), List.mem_of_getElem? (i := 732) (by decide +kernel), List.mem_of_getElem? (i := 733) (by decide +kernel)⟩
theorem lw_p15 : lw_okq (⟨"HayBoard$Tape", "readInner", "(II)Z"⟩, 4) := ⟨⟨by decide +kernel, by decide +kernel⟩, List.mem_of_getElem? (i := 28) (by decide +kernel), List.mem_of_getElem? (i := 736) (by decide +kernel), List.mem_of_getElem? (i := 737) (by decide +kernel)⟩
def lw_privs_1 : List (MethodName × Nat) := [(⟨"HayBoard$Common", "isClear", "(III)Z"⟩, 14), (⟨"HayBoard", "setPlace", "(II)I"⟩, 11), (⟨"HayBoard", "lookTwoAhead", "(I)V"⟩, 11), (⟨"HayBoard$Common", "graze", "()V"⟩, 14), (⟨"HayBoard$Common", "rainFalls", "()V"⟩, 14), (⟨"HayBoard", "thinkGone", "(I)V"⟩, 11), (⟨"HayBoard$Tape", "passTo", "(I)V"⟩, 4), (⟨"HayBoard$Tape", "byteAt", "(I)I"⟩, 4), (⟨"HayBoard$Tape", "readKey", "()Z"⟩, 4), (⟨"HayBoard$Tape", "isWord", "(Ljava/lang/String;)Z"⟩, 4), (⟨"HayBoard$Tape", "wordEnd", "()I"⟩, 4), (⟨"HayBoard$Tape", "readLevel", "(III)Z"⟩, 4), (⟨"HayBoard$Tape", "readPiece", "(II)Z"⟩, 4), (⟨"HayBoard$Tape", "readNot", "(II)Z"⟩, 4), (⟨"HayBoard$Law", "addStep", "(I)V"⟩, 5), (⟨"HayBoard$Tape", "readInner", "(II)Z"⟩, 4)]
theorem lw_r1 : ∀ q ∈ lw_privs_1, lw_okq q := List.forall_mem_cons.mpr ⟨lw_p0, List.forall_mem_cons.mpr ⟨lw_p1, List.forall_mem_cons.mpr ⟨lw_p2, List.forall_mem_cons.mpr ⟨lw_p3, List.forall_mem_cons.mpr ⟨lw_p4, List.forall_mem_cons.mpr ⟨lw_p5, List.forall_mem_cons.mpr ⟨lw_p6, List.forall_mem_cons.mpr ⟨lw_p7, List.forall_mem_cons.mpr ⟨lw_p8, List.forall_mem_cons.mpr ⟨lw_p9, List.forall_mem_cons.mpr ⟨lw_p10, List.forall_mem_cons.mpr ⟨lw_p11, List.forall_mem_cons.mpr ⟨lw_p12, List.forall_mem_cons.mpr ⟨lw_p13, List.forall_mem_cons.mpr ⟨lw_p14, List.forall_mem_cons.mpr ⟨lw_p15, fun _ h => absurd h List.not_mem_nil⟩⟩⟩⟩⟩⟩⟩⟩⟩⟩⟩⟩⟩⟩⟩⟩
theorem lw_p16 : lw_okq (⟨"HayBoard$Tape", "readNumber", "()Z"⟩, 4) := ⟨⟨by decide +kernel, by decide +kernel⟩, List.mem_of_getElem? (i := 28) (by decide +kernel), List.mem_of_getElem? (i := 743) (by decide +kernel), List.mem_of_getElem? (i := 744) (by decide +kernel)⟩
theorem lw_p17 : lw_okq (⟨"HayBoard$Tape", "readName", "()Z"⟩, 4) := ⟨⟨by decide +kernel, by decide +kernel⟩, List.mem_of_getElem? (i := 28) (by decide +kernel), List.mem_of_getElem? (i := 751) (by decide +kernel), List.mem_of_getElem? (i := 752) (by decide +kernel)⟩
theorem lw_p18 : lw_okq (⟨"HayBoard", "isWaiting", "(III)Z"⟩, 11) := ⟨⟨by decide +kernel, by decide +kernel⟩, List.mem_of_getElem? (i := 18) (by decide +kernel), List.mem_of_getElem? (i := 906) (by decide +kernel), List.mem_of_getElem? (i := 907) (by decide +kernel)⟩
theorem lw_p19 : lw_okq (⟨"HayBoardModel", "holder", "(I)I"⟩, 36) := ⟨⟨by decide +kernel, by decide +kernel⟩, List.mem_of_getElem? (i := 922) (by decide +kernel), List.mem_of_getElem? (i := 1050) (by decide +kernel), List.mem_of_getElem? (i := 1051) (by decide +kernel)⟩
theorem lw_p20 : lw_okq (⟨"HayBoardModel", "of", "(II)I"⟩, 36) := ⟨⟨by decide +kernel, by decide +kernel⟩, List.mem_of_getElem? (i := 922) (by decide +kernel), List.mem_of_getElem? (i := 1054) (by decide +kernel), List.mem_of_getElem? (i := 1055) (by decide +kernel)⟩
theorem lw_p21 : lw_okq (⟨"HayBoardModel", "comes", "(IIII)I"⟩, 36) := ⟨⟨by decide +kernel, by decide +kernel⟩, List.mem_of_getElem? (i := 922) (by decide +kernel), List.mem_of_getElem? (i := 1060) (by decide +kernel), List.mem_of_getElem? (i := 1061) (by decide +kernel)⟩
theorem lw_p22 : lw_okq (⟨"HayBoardModel", "put", "(III)V"⟩, 36) := ⟨⟨by decide +kernel, by decide +kernel⟩, List.mem_of_getElem? (i := 922) (by decide +kernel), List.mem_of_getElem? (i := 1064) (by decide +kernel), List.mem_of_getElem? (i := 1065) (by decide +kernel)⟩
theorem lw_p23 : lw_okq (⟨"HayBoardModel", "isBale", "(I)Z"⟩, 36) := ⟨⟨by decide +kernel, by decide +kernel⟩, List.mem_of_getElem? (i := 922) (by decide +kernel), List.mem_of_getElem? (i := 1072) (by decide +kernel), List.mem_of_getElem? (i := 1073) (by decide +kernel)⟩
theorem lw_p24 : lw_okq (⟨"HayBoardModel", "valueOf", "(I)I"⟩, 36) := ⟨⟨by decide +kernel, by decide +kernel⟩, List.mem_of_getElem? (i := 922) (by decide +kernel), List.mem_of_getElem? (i := 1076) (by decide +kernel), List.mem_of_getElem? (i := 1077) (by decide +kernel)⟩
theorem lw_p25 : lw_okq (⟨"HayBoardModel", "counts", "(I)I"⟩, 36) := ⟨⟨by decide +kernel, by decide +kernel⟩, List.mem_of_getElem? (i := 922) (by decide +kernel), List.mem_of_getElem? (i := 1080) (by decide +kernel), List.mem_of_getElem? (i := 1081) (by decide +kernel)⟩
theorem lw_p26 : lw_okq (⟨"HayBoardModel", "worksOut", "(I)I"⟩, 36) := ⟨⟨by decide +kernel, by decide +kernel⟩, List.mem_of_getElem? (i := 922) (by decide +kernel), List.mem_of_getElem? (i := 1084) (by decide +kernel), List.mem_of_getElem? (i := 1085) (by decide +kernel)⟩
theorem lw_p27 : lw_okq (⟨"HayBoardModel", "eatenOf", "(I)I"⟩, 36) := ⟨⟨by decide +kernel, by decide +kernel⟩, List.mem_of_getElem? (i := 922) (by decide +kernel), List.mem_of_getElem? (i := 1094) (by decide +kernel), List.mem_of_getElem? (i := 1095) (by decide +kernel)⟩
theorem lw_p28 : lw_okq (⟨"HayBoardModel", "worthOf", "(I)I"⟩, 36) := ⟨⟨by decide +kernel, by decide +kernel⟩, List.mem_of_getElem? (i := 922) (by decide +kernel), List.mem_of_getElem? (i := 1098) (by decide +kernel), List.mem_of_getElem? (i := 1099) (by decide +kernel)⟩
theorem lw_p29 : lw_okq (⟨"HayBoardModel", "does", "(II)Z"⟩, 36) := ⟨⟨by decide +kernel, by decide +kernel⟩, List.mem_of_getElem? (i := 922) (by decide +kernel), List.mem_of_getElem? (i := 1114) (by decide +kernel), List.mem_of_getElem? (i := 1115) (by decide +kernel)⟩
theorem lw_p30 : lw_okq (⟨"HayBoardModel", "isClear", "(II)Z"⟩, 36) := ⟨⟨by decide +kernel, by decide +kernel⟩, List.mem_of_getElem? (i := 922) (by decide +kernel), List.mem_of_getElem? (i := 1121) (by decide +kernel), List.mem_of_getElem? (i := 1122) (by decide +kernel)⟩
theorem lw_p31 : lw_okq (⟨"HayBoardModel", "becomes", "(II)I"⟩, 36) := ⟨⟨by decide +kernel, by decide +kernel⟩, List.mem_of_getElem? (i := 922) (by decide +kernel), List.mem_of_getElem? (i := 1137) (by decide +kernel), List.mem_of_getElem? (i := 1138) (by decide +kernel)⟩
def lw_privs_2 : List (MethodName × Nat) := [(⟨"HayBoard$Tape", "readNumber", "()Z"⟩, 4), (⟨"HayBoard$Tape", "readName", "()Z"⟩, 4), (⟨"HayBoard", "isWaiting", "(III)Z"⟩, 11), (⟨"HayBoardModel", "holder", "(I)I"⟩, 36), (⟨"HayBoardModel", "of", "(II)I"⟩, 36), (⟨"HayBoardModel", "comes", "(IIII)I"⟩, 36), (⟨"HayBoardModel", "put", "(III)V"⟩, 36), (⟨"HayBoardModel", "isBale", "(I)Z"⟩, 36), (⟨"HayBoardModel", "valueOf", "(I)I"⟩, 36), (⟨"HayBoardModel", "counts", "(I)I"⟩, 36), (⟨"HayBoardModel", "worksOut", "(I)I"⟩, 36), (⟨"HayBoardModel", "eatenOf", "(I)I"⟩, 36), (⟨"HayBoardModel", "worthOf", "(I)I"⟩, 36), (⟨"HayBoardModel", "does", "(II)Z"⟩, 36), (⟨"HayBoardModel", "isClear", "(II)Z"⟩, 36), (⟨"HayBoardModel", "becomes", "(II)I"⟩, 36)]
theorem lw_r2 : ∀ q ∈ lw_privs_2, lw_okq q := List.forall_mem_cons.mpr ⟨lw_p16, List.forall_mem_cons.mpr ⟨lw_p17, List.forall_mem_cons.mpr ⟨lw_p18, List.forall_mem_cons.mpr ⟨lw_p19, List.forall_mem_cons.mpr ⟨lw_p20, List.forall_mem_cons.mpr ⟨lw_p21, List.forall_mem_cons.mpr ⟨lw_p22, List.forall_mem_cons.mpr ⟨lw_p23, List.forall_mem_cons.mpr ⟨lw_p24, List.forall_mem_cons.mpr ⟨lw_p25, List.forall_mem_cons.mpr ⟨lw_p26, List.forall_mem_cons.mpr ⟨lw_p27, List.forall_mem_cons.mpr ⟨lw_p28, List.forall_mem_cons.mpr ⟨lw_p29, List.forall_mem_cons.mpr ⟨lw_p30, List.forall_mem_cons.mpr ⟨lw_p31, fun _ h => absurd h List.not_mem_nil⟩⟩⟩⟩⟩⟩⟩⟩⟩⟩⟩⟩⟩⟩⟩⟩
theorem lw_p32 : lw_okq (⟨"HayBoardModel", "draw", "()I"⟩, 36) := ⟨⟨by decide +kernel, by decide +kernel⟩, List.mem_of_getElem? (i := 922) (by decide +kernel), List.mem_of_getElem? (i := 1153) (by decide +kernel), List.mem_of_getElem? (i := 1154) (by decide +kernel)⟩
theorem lw_p33 : lw_okq (⟨"HayBoardModel", "makes", "(II)I"⟩, 36) := ⟨⟨by decide +kernel, by decide +kernel⟩, List.mem_of_getElem? (i := 922) (by decide +kernel), List.mem_of_getElem? (i := 1166) (by decide +kernel), List.mem_of_getElem? (i := 1167) (by decide +kernel)⟩
theorem lw_p34 : lw_okq (⟨"HayBoardModel", "bestOf", "(I[I)I"⟩, 36) := ⟨⟨by decide +kernel, by decide +kernel⟩, List.mem_of_getElem? (i := 922) (by decide +kernel), List.mem_of_getElem? (i := 1178) (by decide +kernel), List.mem_of_getElem? (i := 1179) (by decide +kernel)⟩
theorem lw_p35 : lw_okq (⟨"HayBoardModel", "saves", "([I)V"⟩, 36) := ⟨⟨by decide +kernel, by decide +kernel⟩, List.mem_of_getElem? (i := 922) (by decide +kernel), List.mem_of_getElem? (i := 1182) (by decide +kernel), List.mem_of_getElem? (i := 1183) (by decide +kernel)⟩
theorem lw_p36 : lw_okq (⟨"HayBoardModel", "leadOf", "(I)I"⟩, 36) := ⟨⟨by decide +kernel, by decide +kernel⟩, List.mem_of_getElem? (i := 922) (by decide +kernel), List.mem_of_getElem? (i := 1186) (by decide +kernel), List.mem_of_getElem? (i := 1187) (by decide +kernel)⟩
theorem lw_p37 : lw_okq (⟨"HayBoardModel", "isOn", "(I)Z"⟩, 36) := ⟨⟨by decide +kernel, by decide +kernel⟩, List.mem_of_getElem? (i := 922) (by decide +kernel), List.mem_of_getElem? (i := 1190) (by decide +kernel), List.mem_of_getElem? (i := 1191) (by decide +kernel)⟩
theorem lw_p38 : lw_okq (⟨"HayBoardModel", "loads", "([I)V"⟩, 36) := ⟨⟨by decide +kernel, by decide +kernel⟩, List.mem_of_getElem? (i := 922) (by decide +kernel), List.mem_of_getElem? (i := 1194) (by decide +kernel), List.mem_of_getElem? (i := 1195) (by decide +kernel)⟩
theorem lw_p39 : lw_okq (⟨"HayBoardModel", "bestOfTwo", "(I)I"⟩, 36) := ⟨⟨by decide +kernel, by decide +kernel⟩, List.mem_of_getElem? (i := 922) (by decide +kernel), List.mem_of_getElem? (i := 1198) (by decide +kernel), List.mem_of_getElem? (i := 1199) (by decide +kernel)⟩
theorem lw_p40 : lw_okq (⟨"HayBoardModel", "manyOn", "()I"⟩, 36) := ⟨⟨by decide +kernel, by decide +kernel⟩, List.mem_of_getElem? (i := 922) (by decide +kernel), List.mem_of_getElem? (i := 1214) (by decide +kernel), List.mem_of_getElem? (i := 1215) (by decide +kernel)⟩
theorem lw_p41 : lw_okq (⟨"HayBoardModel", "goesOn", "(I)V"⟩, 36) := ⟨⟨by decide +kernel, by decide +kernel⟩, List.mem_of_getElem? (i := 922) (by decide +kernel), List.mem_of_getElem? (i := 1218) (by decide +kernel), List.mem_of_getElem? (i := 1219) (by decide +kernel)⟩
theorem lw_p42 : lw_okq (⟨"HayBoardModel", "day", "()V"⟩, 36) := ⟨⟨by decide +kernel, by decide +kernel⟩, List.mem_of_getElem? (i := 922) (by decide +kernel), List.mem_of_getElem? (i := 1222) (by decide +kernel), List.mem_of_getElem? (i := 1223) (by decide +kernel)⟩
theorem lw_p43 : lw_okq (⟨"HayBoardModel", "grazes", "(I)V"⟩, 36) := ⟨⟨by decide +kernel, by decide +kernel⟩, List.mem_of_getElem? (i := 922) (by decide +kernel), List.mem_of_getElem? (i := 1226) (by decide +kernel), List.mem_of_getElem? (i := 1227) (by decide +kernel)⟩
theorem lw_p44 : lw_okq (⟨"HayBoardModel", "rains", "()V"⟩, 36) := ⟨⟨by decide +kernel, by decide +kernel⟩, List.mem_of_getElem? (i := 922) (by decide +kernel), List.mem_of_getElem? (i := 1230) (by decide +kernel), List.mem_of_getElem? (i := 1231) (by decide +kernel)⟩
theorem lw_p45 : lw_okq (⟨"HayBoardModel", "thinks", "()V"⟩, 36) := ⟨⟨by decide +kernel, by decide +kernel⟩, List.mem_of_getElem? (i := 922) (by decide +kernel), List.mem_of_getElem? (i := 1238) (by decide +kernel), List.mem_of_getElem? (i := 1239) (by decide +kernel)⟩
theorem lw_p46 : lw_okq (⟨"HayBoardModel", "allHay", "()I"⟩, 36) := ⟨⟨by decide +kernel, by decide +kernel⟩, List.mem_of_getElem? (i := 922) (by decide +kernel), List.mem_of_getElem? (i := 1242) (by decide +kernel), List.mem_of_getElem? (i := 1243) (by decide +kernel)⟩
theorem lw_p47 : lw_okq (⟨"HayBoardModel", "putsBack", "()V"⟩, 36) := ⟨⟨by decide +kernel, by decide +kernel⟩, List.mem_of_getElem? (i := 922) (by decide +kernel), List.mem_of_getElem? (i := 1246) (by decide +kernel), List.mem_of_getElem? (i := 1247) (by decide +kernel)⟩
def lw_privs_3 : List (MethodName × Nat) := [(⟨"HayBoardModel", "draw", "()I"⟩, 36), (⟨"HayBoardModel", "makes", "(II)I"⟩, 36), (⟨"HayBoardModel", "bestOf", "(I[I)I"⟩, 36), (⟨"HayBoardModel", "saves", "([I)V"⟩, 36), (⟨"HayBoardModel", "leadOf", "(I)I"⟩, 36), (⟨"HayBoardModel", "isOn", "(I)Z"⟩, 36), (⟨"HayBoardModel", "loads", "([I)V"⟩, 36), (⟨"HayBoardModel", "bestOfTwo", "(I)I"⟩, 36), (⟨"HayBoardModel", "manyOn", "()I"⟩, 36), (⟨"HayBoardModel", "goesOn", "(I)V"⟩, 36), (⟨"HayBoardModel", "day", "()V"⟩, 36), (⟨"HayBoardModel", "grazes", "(I)V"⟩, 36), (⟨"HayBoardModel", "rains", "()V"⟩, 36), (⟨"HayBoardModel", "thinks", "()V"⟩, 36), (⟨"HayBoardModel", "allHay", "()I"⟩, 36), (⟨"HayBoardModel", "putsBack", "()V"⟩, 36)]
theorem lw_r3 : ∀ q ∈ lw_privs_3, lw_okq q := List.forall_mem_cons.mpr ⟨lw_p32, List.forall_mem_cons.mpr ⟨lw_p33, List.forall_mem_cons.mpr ⟨lw_p34, List.forall_mem_cons.mpr ⟨lw_p35, List.forall_mem_cons.mpr ⟨lw_p36, List.forall_mem_cons.mpr ⟨lw_p37, List.forall_mem_cons.mpr ⟨lw_p38, List.forall_mem_cons.mpr ⟨lw_p39, List.forall_mem_cons.mpr ⟨lw_p40, List.forall_mem_cons.mpr ⟨lw_p41, List.forall_mem_cons.mpr ⟨lw_p42, List.forall_mem_cons.mpr ⟨lw_p43, List.forall_mem_cons.mpr ⟨lw_p44, List.forall_mem_cons.mpr ⟨lw_p45, List.forall_mem_cons.mpr ⟨lw_p46, List.forall_mem_cons.mpr ⟨lw_p47, fun _ h => absurd h List.not_mem_nil⟩⟩⟩⟩⟩⟩⟩⟩⟩⟩⟩⟩⟩⟩⟩⟩
theorem lw_p48 : lw_okq (⟨"HayBoardModel", "isOver", "()Z"⟩, 36) := ⟨⟨by decide +kernel, by decide +kernel⟩, List.mem_of_getElem? (i := 922) (by decide +kernel), List.mem_of_getElem? (i := 1254) (by decide +kernel), List.mem_of_getElem? (i := 1255) (by decide +kernel)⟩
theorem lw_p49 : lw_okq (⟨"HayBoardModel", "offNow", "(I)J"⟩, 36) := ⟨⟨by decide +kernel, by decide +kernel⟩, List.mem_of_getElem? (i := 922) (by decide +kernel), List.mem_of_getElem? (i := 1274) (by decide +kernel), List.mem_of_getElem? (i := 1275) (by decide +kernel)⟩
theorem lw_p50 : lw_okq (⟨"HayBoardModel", "go", "()V"⟩, 36) := ⟨⟨by decide +kernel, by decide +kernel⟩, List.mem_of_getElem? (i := 922) (by decide +kernel), List.mem_of_getElem? (i := 1298) (by decide +kernel), List.mem_of_getElem? (i := 1299) (by decide +kernel)⟩
theorem lw_p51 : lw_okq (⟨"HayBoardModel", "isLetter", "(I)Z"⟩, 36) := ⟨⟨by decide +kernel, by decide +kernel⟩, List.mem_of_getElem? (i := 922) (by decide +kernel), List.mem_of_getElem? (i := 1302) (by decide +kernel), List.mem_of_getElem? (i := 1303) (by decide +kernel)⟩
theorem lw_p52 : lw_okq (⟨"HayBoardModel", "isFigure", "(I)Z"⟩, 36) := ⟨⟨by decide +kernel, by decide +kernel⟩, List.mem_of_getElem? (i := 922) (by decide +kernel), List.mem_of_getElem? (i := 1306) (by decide +kernel), List.mem_of_getElem? (i := 1307) (by decide +kernel)⟩
theorem lw_p53 : lw_okq (⟨"HayBoardModel", "takesKey", "()Z"⟩, 36) := ⟨⟨by decide +kernel, by decide +kernel⟩, List.mem_of_getElem? (i := 922) (by decide +kernel), List.mem_of_getElem? (i := 1310) (by decide +kernel), List.mem_of_getElem? (i := 1311) (by decide +kernel)⟩
theorem lw_p54 : lw_okq (⟨"HayBoardModel", "takesE", "()Z"⟩, 36) := ⟨⟨by decide +kernel, by decide +kernel⟩, List.mem_of_getElem? (i := 922) (by decide +kernel), List.mem_of_getElem? (i := 1314) (by decide +kernel), List.mem_of_getElem? (i := 1315) (by decide +kernel)⟩
theorem lw_p55 : lw_okq (⟨"HayBoardModel", "takesPart", "()Z"⟩, 36) := ⟨⟨by decide +kernel, by decide +kernel⟩, List.mem_of_getElem? (i := 922) (by decide +kernel), List.mem_of_getElem? (i := 1318) (by decide +kernel), List.mem_of_getElem? (i := 1319) (by decide +kernel)⟩
theorem lw_p56 : lw_okq (⟨"HayBoardModel", "nameOf", "(I)I"⟩, 36) := ⟨⟨by decide +kernel, by decide +kernel⟩, List.mem_of_getElem? (i := 922) (by decide +kernel), List.mem_of_getElem? (i := 1322) (by decide +kernel), List.mem_of_getElem? (i := 1323) (by decide +kernel)⟩
theorem lw_p57 : lw_okq (⟨"HayBoardModel", "settle", "(I)V"⟩, 36) := ⟨⟨by decide +kernel, by decide +kernel⟩, List.mem_of_getElem? (i := 922) (by decide +kernel), List.mem_of_getElem? (i := 1326) (by decide +kernel), List.mem_of_getElem? (i := 1327) (by decide +kernel)⟩
theorem lw_p58 : lw_okq (⟨"HayBoardModel", "notsOpen", "()I"⟩, 36) := ⟨⟨by decide +kernel, by decide +kernel⟩, List.mem_of_getElem? (i := 922) (by decide +kernel), List.mem_of_getElem? (i := 1333) (by decide +kernel), List.mem_of_getElem? (i := 1334) (by decide +kernel)⟩
theorem lw_p59 : lw_okq (⟨"HayBoardModel", "signHere", "()I"⟩, 36) := ⟨⟨by decide +kernel, by decide +kernel⟩, List.mem_of_getElem? (i := 922) (by decide +kernel), List.mem_of_getElem? (i := 1337) (by decide +kernel), List.mem_of_getElem? (i := 1338) (by decide +kernel)⟩
def lw_privs_4 : List (MethodName × Nat) := [(⟨"HayBoardModel", "isOver", "()Z"⟩, 36), (⟨"HayBoardModel", "offNow", "(I)J"⟩, 36), (⟨"HayBoardModel", "go", "()V"⟩, 36), (⟨"HayBoardModel", "isLetter", "(I)Z"⟩, 36), (⟨"HayBoardModel", "isFigure", "(I)Z"⟩, 36), (⟨"HayBoardModel", "takesKey", "()Z"⟩, 36), (⟨"HayBoardModel", "takesE", "()Z"⟩, 36), (⟨"HayBoardModel", "takesPart", "()Z"⟩, 36), (⟨"HayBoardModel", "nameOf", "(I)I"⟩, 36), (⟨"HayBoardModel", "settle", "(I)V"⟩, 36), (⟨"HayBoardModel", "notsOpen", "()I"⟩, 36), (⟨"HayBoardModel", "signHere", "()I"⟩, 36)]
theorem lw_r4 : ∀ q ∈ lw_privs_4, lw_okq q := List.forall_mem_cons.mpr ⟨lw_p48, List.forall_mem_cons.mpr ⟨lw_p49, List.forall_mem_cons.mpr ⟨lw_p50, List.forall_mem_cons.mpr ⟨lw_p51, List.forall_mem_cons.mpr ⟨lw_p52, List.forall_mem_cons.mpr ⟨lw_p53, List.forall_mem_cons.mpr ⟨lw_p54, List.forall_mem_cons.mpr ⟨lw_p55, List.forall_mem_cons.mpr ⟨lw_p56, List.forall_mem_cons.mpr ⟨lw_p57, List.forall_mem_cons.mpr ⟨lw_p58, List.forall_mem_cons.mpr ⟨lw_p59, fun _ h => absurd h List.not_mem_nil⟩⟩⟩⟩⟩⟩⟩⟩⟩⟩⟩⟩
def lw_privs : List (MethodName × Nat) := lw_privs_1 ++ (lw_privs_2 ++ (lw_privs_3 ++ (lw_privs_4)))
def lw_tbl : List Cond := k2_sels lw_privs ++ tables_1
theorem lw_privs_ok : ∀ q ∈ lw_privs, lw_okq q := by
  show ∀ q ∈ lw_privs_1 ++ (lw_privs_2 ++ (lw_privs_3 ++ (lw_privs_4))), lw_okq q
  exact List.forall_mem_append.mpr ⟨lw_r1, List.forall_mem_append.mpr ⟨lw_r2, List.forall_mem_append.mpr ⟨lw_r3, lw_r4⟩⟩⟩
-- ===== end of PART A; then your names; then what follows =====
end
section
-- names, tables and the abstract code; written by wip/gen/gen1.py out of the Statement
def hy_C : List String := ["HayBoardLaw", "HayBoard", "HayBoard$Tape", "HayBoard$Law", "HayBoard$Choice", "HayBoard$Sheet", "HayBoard$Slot", "HayBoard$Common", "HayBoard$Bale", "HayBoardModel", "java/lang/String", "java/lang/StringLatin1", "jdk/internal/util/Preconditions"]
def hy_cn (k : Nat) : String := hy_C.getD k ""
def hy_F1 : List (String × String × String × Bool) := [("HayBoard", "laws", "[LHayBoard$Law;", true), ("HayBoard", "tape", "LHayBoard$Tape;", true), ("HayBoard", "now", "LHayBoard$Common;", true), ("HayBoard", "thought", "LHayBoard$Common;", true), ("HayBoard", "image", "LHayBoard$Common;", true), ("HayBoard", "imageKept", "Z", false), ("HayBoard", "choice", "LHayBoard$Choice;", true), ("HayBoard", "sheets", "[LHayBoard$Sheet;", true), ("HayBoard", "slots", "[LHayBoard$Slot;", true), ("HayBoard", "waiting", "[I", true), ("HayBoard", "waits", "I", false)]
def hy_F2 : List (String × String × String × Bool) := [("HayBoard$Tape", "bytes", "[I", true), ("HayBoard$Tape", "draft", "LHayBoard$Law;", true), ("HayBoard$Tape", "length", "I", false), ("HayBoard$Tape", "at", "I", false)]
def hy_F3 : List (String × String × String × Bool) := [("HayBoard$Law", "steps", "[I", true), ("HayBoard$Law", "pile", "[I", true), ("HayBoard$Law", "length", "I", false), ("HayBoard$Law", "key", "I", false), ("HayBoard$Law", "pieces", "I", false)]
def hy_F4 : List (String × String × String × Bool) := [("HayBoard$Choice", "which", "I", false), ("HayBoard$Choice", "least", "I", false), ("HayBoard$Choice", "lead", "I", false)]
def hy_F5 : List (String × String × String × Bool) := [("HayBoard$Sheet", "row", "[I", true), ("HayBoard$Sheet", "sort", "I", false), ("HayBoard$Sheet", "places", "I", false)]
def hy_F6 : List (String × String × String × Bool) := [("HayBoard$Slot", "bale", "LHayBoard$Bale;", true), ("HayBoard$Slot", "sheet", "LHayBoard$Sheet;", true), ("HayBoard$Slot", "thing", "I", false), ("HayBoard$Slot", "number", "I", false)]
def hy_F7 : List (String × String × String × Bool) := [("HayBoard$Common", "laws", "[LHayBoard$Law;", true), ("HayBoard$Common", "bales", "[LHayBoard$Bale;", true), ("HayBoard$Common", "on", "[I", true), ("HayBoard$Common", "counting", "[I", true), ("HayBoard$Common", "moveList", "[I", true), ("HayBoard$Common", "values", "[I", true), ("HayBoard$Common", "best", "LHayBoard$Choice;", true), ("HayBoard$Common", "many", "I", false), ("HayBoard$Common", "turn", "I", false), ("HayBoard$Common", "rain", "I", false), ("HayBoard$Common", "cattle", "I", false), ("HayBoard$Common", "day", "I", false), ("HayBoard$Common", "z", "I", false), ("HayBoard$Common", "texts", "I", false)]
def hy_F8 : List (String × String × String × Bool) := [("HayBoard$Bale", "kind", "I", false), ("HayBoard$Bale", "farm", "I", false), ("HayBoard$Bale", "place", "I", false), ("HayBoard$Bale", "hay", "I", false), ("HayBoard$Bale", "went", "I", false), ("HayBoard$Bale", "took", "I", false)]
def hy_F9 : List (String × String × String × Bool) := [("HayBoardModel", "now", "[I", true), ("HayBoardModel", "image", "[I", true), ("HayBoardModel", "aside", "[I", true), ("HayBoardModel", "hasImage", "Z", false), ("HayBoardModel", "first", "[I", true), ("HayBoardModel", "second", "[I", true), ("HayBoardModel", "bestLead", "I", false), ("HayBoardModel", "before", "[I", true), ("HayBoardModel", "tape", "[I", true), ("HayBoardModel", "taped", "I", false), ("HayBoardModel", "next", "I", false), ("HayBoardModel", "from", "I", false), ("HayBoardModel", "token", "I", false), ("HayBoardModel", "value", "I", false), ("HayBoardModel", "ended", "I", false), ("HayBoardModel", "key", "I", false), ("HayBoardModel", "keys", "[C", true), ("HayBoardModel", "keyAt", "[I", true), ("HayBoardModel", "code", "[I", true), ("HayBoardModel", "codes", "I", false), ("HayBoardModel", "atoms", "I", false), ("HayBoardModel", "waits", "[I", true), ("HayBoardModel", "held", "I", false), ("HayBoardModel", "tested", "[Z", true), ("HayBoardModel", "stack", "[I", true), ("HayBoardModel", "facts", "[I", true), ("HayBoardModel", "sorts", "[I", true), ("HayBoardModel", "sizes", "[I", true), ("HayBoardModel", "cells", "[I", true), ("HayBoardModel", "holds", "[I", true), ("HayBoardModel", "holdsA", "[I", true), ("HayBoardModel", "holdsB", "[I", true), ("HayBoardModel", "heldCells", "[I", true), ("HayBoardModel", "moved", "[I", true), ("HayBoardModel", "tells", "[I", true), ("HayBoardModel", "waiting", "I", false)]
def hy_F : List (List (String × String × String × Bool)) := [[], hy_F1, hy_F2, hy_F3, hy_F4, hy_F5, hy_F6, hy_F7, hy_F8, hy_F9]
def hy_T (kd : Nat) : u_T := fun k => (hy_F.getD kd []).getD k ("", "", "", false)
def hy_N (kd : Nat) : Nat := (hy_F.getD kd []).length
def hy_Y1 : List FieldType := [(.array (.object "HayBoard$Law")), (.object "HayBoard$Tape"), (.object "HayBoard$Common"), (.object "HayBoard$Common"), (.object "HayBoard$Common"), .boolean, (.object "HayBoard$Choice"), (.array (.object "HayBoard$Sheet")), (.array (.object "HayBoard$Slot")), (.array .int), .int]
def hy_Y2 : List FieldType := [(.array .int), (.object "HayBoard$Law"), .int, .int]
def hy_Y3 : List FieldType := [(.array .int), (.array .int), .int, .int, .int]
def hy_Y4 : List FieldType := [.int, .int, .int]
def hy_Y5 : List FieldType := [(.array .int), .int, .int]
def hy_Y6 : List FieldType := [(.object "HayBoard$Bale"), (.object "HayBoard$Sheet"), .int, .int]
def hy_Y7 : List FieldType := [(.array (.object "HayBoard$Law")), (.array (.object "HayBoard$Bale")), (.array .int), (.array .int), (.array .int), (.array .int), (.object "HayBoard$Choice"), .int, .int, .int, .int, .int, .int, .int]
def hy_Y8 : List FieldType := [.int, .int, .int, .int, .int, .int]
def hy_Y9 : List FieldType := [(.array .int), (.array .int), (.array .int), .boolean, (.array .int), (.array .int), .int, (.array .int), (.array .int), .int, .int, .int, .int, .int, .int, .int, (.array .char), (.array .int), (.array .int), .int, .int, (.array .int), .int, (.array .boolean), (.array .int), (.array .int), (.array .int), (.array .int), (.array .int), (.array .int), (.array .int), (.array .int), (.array .int), (.array .int), (.array .int), .int]
def hy_Y : List (List FieldType) := [[], hy_Y1, hy_Y2, hy_Y3, hy_Y4, hy_Y5, hy_Y6, hy_Y7, hy_Y8, hy_Y9]
def hy_ty (kd : Nat) : Nat → FieldType := fun k => (hy_Y.getD kd []).getD k .int
def hy_cl : List vw_C := [(hy_cn 1, hy_T 1, 11), (hy_cn 2, hy_T 2, 4), (hy_cn 3, hy_T 3, 5), (hy_cn 4, hy_T 4, 3), (hy_cn 5, hy_T 5, 3), (hy_cn 6, hy_T 6, 4), (hy_cn 7, hy_T 7, 14), (hy_cn 8, hy_T 8, 6), (hy_cn 9, hy_T 9, 36)]
def hy_LP : List (List Nat) := [[], [315, 317, 319, 321, 323, 325, 327, 329, 331, 333, 335], [125, 127, 129, 131], [107, 109, 111, 113, 115], [145, 147, 149], [170, 172, 174], [228, 230, 232, 234], [275, 277, 279, 281, 283, 285, 287, 289, 291, 293, 295, 297, 299, 301], [206, 208, 210, 212, 214, 216], [1023, 1025, 1027, 1029, 1031, 1033, 1035, 1037, 1039, 1041, 1043, 1045, 1047, 1049, 1051, 1053, 1055, 1057, 1059, 1061, 1063, 1065, 1067, 1069, 1071, 1073, 1075, 1077, 1079, 1081, 1083, 1085, 1087, 1089, 1091, 1093]]
theorem hy_lp_ok : ((List.range 10).all fun kd => (List.range (hy_N kd)).all fun k => decide (lw_tbl[(hy_LP.getD kd []).getD k 0]? = some (u_lay (hy_cn kd) (hy_T kd) k))) = true := by decide +kernel
theorem hy_ty_ok : ((List.range 10).all fun kd => (List.range (hy_N kd)).all fun k => decide (parseFieldDescriptor (hy_T kd k).2.2.1 = some (hy_ty kd k))) = true := by decide +kernel
theorem hy_nm_ok : ((List.range 10).all fun kd => (List.range (hy_N kd)).all fun a => (List.range (hy_N kd)).all fun b => decide (a ≠ b → (hy_T kd a).2.1 ≠ (hy_T kd b).2.1)) = true := by decide +kernel
def hy_M : List (MethodName × Nat × Option FieldType × Nat × Nat) := [
  (⟨"HayBoardLaw", "law", "([I)Z"⟩, 4, some .boolean, 1, 0),
  (⟨"HayBoard", "bale", "(IIII)I"⟩, 5, some .int, 5, 1),
  (⟨"HayBoard", "isKind", "(I)Z"⟩, 1, some .boolean, 1, 1),
  (⟨"HayBoard", "isWithin", "(III)Z"⟩, 3, some .boolean, 3, 1),
  (⟨"HayBoard", "isFarm", "(I)Z"⟩, 1, some .boolean, 1, 1),
  (⟨"HayBoard", "isPlace", "(I)Z"⟩, 1, some .boolean, 1, 1),
  (⟨"HayBoard", "isHay", "(I)Z"⟩, 1, some .boolean, 1, 1),
  (⟨"HayBoard$Common", "adds", "(IIII)I"⟩, 7, some .int, 5, 7),
  (⟨"HayBoard$Common", "puts", "(II)V"⟩, 3, (none : Option FieldType), 3, 7),
  (⟨"HayBoard$Common", "isOn", "(I)Z"⟩, 2, some .boolean, 2, 7),
  (⟨"HayBoard", "told", "(II)I"⟩, 4, some .int, 3, 1),
  (⟨"HayBoard$Common", "has", "(I)Z"⟩, 2, some .boolean, 2, 7),
  (⟨"HayBoard$Common", "valueWith", "(IIII)I"⟩, 8, some .int, 5, 7),
  (⟨"HayBoard", "isText", "(I)Z"⟩, 1, some .boolean, 1, 1),
  (⟨"HayBoard$Law", "gives", "(III)I"⟩, 7, some .int, 4, 3),
  (⟨"HayBoard$Law", "workOut", "(III)I"⟩, 3, some .int, 3, 3),
  (⟨"HayBoard", "held", "(III)I"⟩, 3, some .int, 3, 1),
  (⟨"HayBoard$Bale", "eaten", "()I"⟩, 1, some .int, 1, 8),
  (⟨"HayBoard$Bale", "worth", "()I"⟩, 1, some .int, 1, 8),
  (⟨"HayBoard", "at", "(I)I"⟩, 2, some .int, 2, 1),
  (⟨"HayBoard", "goes", "(II)I"⟩, 3, some .int, 3, 1),
  (⟨"HayBoard$Common", "mayGo", "(II)Z"⟩, 8, some .boolean, 3, 7),
  (⟨"HayBoard$Common", "isClear", "(III)Z"⟩, 6, some .boolean, 4, 7),
  (⟨"HayBoard", "as", "(II)I"⟩, 4, some .int, 3, 1),
  (⟨"HayBoard$Bale", "isOf", "(I)Z"⟩, 2, some .boolean, 2, 8),
  (⟨"HayBoard", "turns", "(II)I"⟩, 4, some .int, 3, 1),
  (⟨"HayBoard", "set", "(III)I"⟩, 4, some .int, 4, 1),
  (⟨"HayBoard", "setFarm", "(LHayBoard$Bale;I)I"⟩, 3, some .int, 2, 1),
  (⟨"HayBoard", "setPlace", "(II)I"⟩, 4, some .int, 3, 1),
  (⟨"HayBoard", "setHay", "(LHayBoard$Bale;I)I"⟩, 3, some .int, 2, 1),
  (⟨"HayBoard", "rule", "(II)I"⟩, 4, some .int, 3, 1),
  (⟨"HayBoard", "deal", "(I)I"⟩, 4, some .int, 2, 1),
  (⟨"HayBoard$Common", "addsDrawn", "()V"⟩, 5, (none : Option FieldType), 1, 7),
  (⟨"HayBoard$Common", "draw", "()I"⟩, 1, some .int, 1, 7),
  (⟨"HayBoard", "seed", "(I)I"⟩, 3, some .int, 2, 1),
  (⟨"HayBoard", "move", "(II)I"⟩, 4, some .int, 3, 1),
  (⟨"HayBoard$Common", "makes", "(II)I"⟩, 5, some .int, 3, 7),
  (⟨"HayBoard$Bale", "hayWith", "(LHayBoard$Bale;)I"⟩, 2, some .int, 2, 8),
  (⟨"HayBoard$Common", "turnGoesOn", "()V"⟩, 1, (none : Option FieldType), 1, 7),
  (⟨"HayBoard", "moves", "(I)I"⟩, 2, some .int, 2, 1),
  (⟨"HayBoard$Common", "listMoves", "(I)I"⟩, 5, some .int, 2, 7),
  (⟨"HayBoard$Common", "isOnOf", "(II)Z"⟩, 3, some .boolean, 3, 7),
  (⟨"HayBoard", "best", "(III)I"⟩, 4, some .int, 4, 1),
  (⟨"HayBoard$Common", "findBest", "(I)V"⟩, 11, (none : Option FieldType), 2, 7),
  (⟨"HayBoard$Choice", "clear", "()V"⟩, 1, (none : Option FieldType), 1, 4),
  (⟨"HayBoard$Common", "leadOf", "(I)I"⟩, 5, some .int, 2, 7),
  (⟨"HayBoard$Choice", "offer", "(III)V"⟩, 4, (none : Option FieldType), 4, 4),
  (⟨"HayBoard$Choice", "tells", "(I)I"⟩, 2, some .int, 2, 4),
  (⟨"HayBoard", "lookTwoAhead", "(I)V"⟩, 6, (none : Option FieldType), 2, 1),
  (⟨"HayBoard$Common", "becomes", "(LHayBoard$Common;)V"⟩, 3, (none : Option FieldType), 2, 7),
  (⟨"HayBoard$Bale", "becomes", "(LHayBoard$Bale;)V"⟩, 2, (none : Option FieldType), 2, 8),
  (⟨"HayBoard$Common", "makesBest", "(I)V"⟩, 2, (none : Option FieldType), 2, 7),
  (⟨"HayBoard", "threats", "(I)I"⟩, 4, some .int, 2, 1),
  (⟨"HayBoard$Common", "isThreatened", "(I)Z"⟩, 3, some .boolean, 2, 7),
  (⟨"HayBoard", "lead", "(I)I"⟩, 2, some .int, 2, 1),
  (⟨"HayBoard", "days", "(I)I"⟩, 3, some .int, 2, 1),
  (⟨"HayBoard$Common", "manyOn", "()I"⟩, 1, some .int, 1, 7),
  (⟨"HayBoard$Common", "manyOnOf", "(I)I"⟩, 4, some .int, 2, 7),
  (⟨"HayBoard$Common", "passDays", "(I)V"⟩, 3, (none : Option FieldType), 2, 7),
  (⟨"HayBoard$Common", "graze", "()V"⟩, 3, (none : Option FieldType), 1, 7),
  (⟨"HayBoard$Common", "rainFalls", "()V"⟩, 2, (none : Option FieldType), 1, 7),
  (⟨"HayBoard$Bale", "getsWet", "()V"⟩, 1, (none : Option FieldType), 1, 8),
  (⟨"HayBoard", "behind", "(II)I"⟩, 3, some .int, 3, 1),
  (⟨"HayBoard$Common", "hayOn", "()I"⟩, 3, some .int, 1, 7),
  (⟨"HayBoard", "ends", "()I"⟩, 2, some .int, 1, 1),
  (⟨"HayBoard", "spared", "(II)I"⟩, 5, some .int, 3, 1),
  (⟨"HayBoard", "thinkGone", "(I)V"⟩, 2, (none : Option FieldType), 2, 1),
  (⟨"HayBoard", "given", "(II)I"⟩, 5, some .int, 3, 1),
  (⟨"HayBoard", "storm", "(III)I"⟩, 6, some .int, 4, 1),
  (⟨"HayBoard", "isSheet", "(I)Z"⟩, 1, some .boolean, 1, 1),
  (⟨"HayBoard$Sheet", "isMissing", "()Z"⟩, 1, some .boolean, 1, 5),
  (⟨"HayBoard$Common", "differencesFrom", "(LHayBoard$Sheet;)I"⟩, 5, some .int, 2, 7),
  (⟨"HayBoard$Sheet", "isNumber", "(I)Z"⟩, 2, some .boolean, 2, 5),
  (⟨"HayBoard$Sheet", "has", "(I)Z"⟩, 2, some .boolean, 2, 5),
  (⟨"HayBoard", "fee", "()I"⟩, 2, some .int, 1, 1),
  (⟨"HayBoard", "fine", "(I)I"⟩, 4, some .int, 2, 1),
  (⟨"HayBoard", "feed", "(III)I"⟩, 4, some .int, 4, 1),
  (⟨"HayBoard$Tape", "adds", "(I)V"⟩, 3, (none : Option FieldType), 2, 2),
  (⟨"HayBoard", "trim", "(I)I"⟩, 2, some .int, 2, 1),
  (⟨"HayBoard", "text", "()I"⟩, 3, some .int, 1, 1),
  (⟨"HayBoard$Tape", "read", "()I"⟩, 2, some .int, 1, 2),
  (⟨"HayBoard$Law", "clear", "()V"⟩, 1, (none : Option FieldType), 1, 3),
  (⟨"HayBoard$Tape", "passTo", "(I)V"⟩, 2, (none : Option FieldType), 2, 2),
  (⟨"HayBoard$Tape", "byteAt", "(I)I"⟩, 2, some .int, 2, 2),
  (⟨"HayBoard$Tape", "readKey", "()Z"⟩, 2, some .boolean, 1, 2),
  (⟨"HayBoard$Tape", "isWord", "(Ljava/lang/String;)Z"⟩, 3, some .boolean, 2, 2),
  (⟨"HayBoard$Tape", "wordEnd", "()I"⟩, 3, some .int, 1, 2),
  (⟨"HayBoard$Tape", "isLetter", "(I)Z"⟩, 1, some .boolean, 1, 2),
  (⟨"HayBoard$Tape", "isDigit", "(I)Z"⟩, 1, some .boolean, 1, 2),
  (⟨"HayBoard$Tape", "readLevel", "(III)Z"⟩, 7, some .boolean, 4, 2),
  (⟨"HayBoard$Tape", "readPiece", "(II)Z"⟩, 4, some .boolean, 3, 2),
  (⟨"HayBoard$Tape", "readNot", "(II)Z"⟩, 3, some .boolean, 3, 2),
  (⟨"HayBoard$Law", "addSign", "(I)V"⟩, 2, (none : Option FieldType), 2, 3),
  (⟨"HayBoard$Law", "addStep", "(I)V"⟩, 2, (none : Option FieldType), 2, 3),
  (⟨"HayBoard$Tape", "readInner", "(II)Z"⟩, 3, some .boolean, 3, 2),
  (⟨"HayBoard$Tape", "isWordByte", "(I)Z"⟩, 1, some .boolean, 1, 2),
  (⟨"HayBoard$Tape", "readNumber", "()Z"⟩, 4, some .boolean, 1, 2),
  (⟨"HayBoard$Law", "addNumber", "(I)V"⟩, 2, (none : Option FieldType), 2, 3),
  (⟨"HayBoard$Tape", "readName", "()Z"⟩, 4, some .boolean, 1, 2),
  (⟨"HayBoard$Law", "addName", "(I)V"⟩, 2, (none : Option FieldType), 2, 3),
  (⟨"HayBoard$Tape", "levelOf", "(I)I"⟩, 1, some .int, 1, 2),
  (⟨"HayBoard$Law", "becomes", "(LHayBoard$Law;)V"⟩, 2, (none : Option FieldType), 2, 3),
  (⟨"HayBoard", "textTold", "(II)I"⟩, 3, some .int, 3, 1),
  (⟨"HayBoard", "why", "(I)I"⟩, 2, some .int, 2, 1),
  (⟨"HayBoard", "sheet", "(III)I"⟩, 4, some .int, 4, 1),
  (⟨"HayBoard$Sheet", "clear", "(II)V"⟩, 4, (none : Option FieldType), 3, 5),
  (⟨"HayBoard", "mark", "(III)I"⟩, 5, some .int, 4, 1),
  (⟨"HayBoard", "pour", "(I)I"⟩, 6, some .int, 2, 1),
  (⟨"HayBoard", "reads", "(I)I"⟩, 4, some .int, 2, 1),
  (⟨"HayBoard", "copy", "(IIIII)I"⟩, 8, some .int, 6, 1),
  (⟨"HayBoard$Sheet", "hasMany", "(II)Z"⟩, 3, some .boolean, 3, 5),
  (⟨"HayBoard", "lay", "(III)I"⟩, 6, some .int, 4, 1),
  (⟨"HayBoard", "isSlot", "(I)Z"⟩, 1, some .boolean, 1, 1),
  (⟨"HayBoard$Sheet", "becomes", "(LHayBoard$Sheet;)V"⟩, 2, (none : Option FieldType), 2, 5),
  (⟨"HayBoard", "ask", "(II)I"⟩, 5, some .int, 3, 1),
  (⟨"HayBoard", "findingOf", "(LHayBoard$Slot;I)I"⟩, 2, some .int, 2, 1),
  (⟨"HayBoard", "item", "(II)I"⟩, 5, some .int, 3, 1),
  (⟨"HayBoard", "rest", "(II)I"⟩, 4, some .int, 3, 1),
  (⟨"HayBoard", "tell", "(I)I"⟩, 2, some .int, 2, 1),
  (⟨"HayBoard", "check", "(I)I"⟩, 6, some .int, 2, 1),
  (⟨"HayBoard", "isWaiting", "(III)Z"⟩, 4, some .boolean, 4, 1),
  (⟨"HayBoard", "keep", "()I"⟩, 1, some .int, 1, 1),
  (⟨"HayBoard", "back", "()I"⟩, 1, some .int, 1, 1),
  (⟨"HayBoard", "count", "(I)I"⟩, 2, some .int, 2, 1),
  (⟨"HayBoardModel", "bale", "(IIII)I"⟩, 5, some .int, 5, 9),
  (⟨"HayBoardModel", "in", "(III)Z"⟩, 3, some .boolean, 3, 9),
  (⟨"HayBoardModel", "isPlace", "(I)Z"⟩, 1, some .boolean, 1, 9),
  (⟨"HayBoardModel", "holder", "(I)I"⟩, 4, some .int, 2, 9),
  (⟨"HayBoardModel", "of", "(II)I"⟩, 3, some .int, 3, 9),
  (⟨"HayBoardModel", "comes", "(IIII)I"⟩, 6, some .int, 5, 9),
  (⟨"HayBoardModel", "put", "(III)V"⟩, 4, (none : Option FieldType), 4, 9),
  (⟨"HayBoardModel", "told", "(II)I"⟩, 3, some .int, 3, 9),
  (⟨"HayBoardModel", "isBale", "(I)Z"⟩, 2, some .boolean, 2, 9),
  (⟨"HayBoardModel", "valueOf", "(I)I"⟩, 4, some .int, 2, 9),
  (⟨"HayBoardModel", "counts", "(I)I"⟩, 3, some .int, 2, 9),
  (⟨"HayBoardModel", "worksOut", "(I)I"⟩, 6, some .int, 2, 9),
  (⟨"HayBoardModel", "two", "(III)I"⟩, 3, some .int, 3, 9),
  (⟨"HayBoardModel", "within", "(III)I"⟩, 3, some .int, 3, 9),
  (⟨"HayBoardModel", "eatenOf", "(I)I"⟩, 2, some .int, 2, 9),
  (⟨"HayBoardModel", "worthOf", "(I)I"⟩, 3, some .int, 2, 9),
  (⟨"HayBoardModel", "at", "(I)I"⟩, 2, some .int, 2, 9),
  (⟨"HayBoardModel", "told0", "(I)I"⟩, 1, some .int, 1, 9),
  (⟨"HayBoardModel", "goes", "(II)I"⟩, 3, some .int, 3, 9),
  (⟨"HayBoardModel", "does", "(II)Z"⟩, 10, some .boolean, 3, 9),
  (⟨"HayBoardModel", "apart", "(II)I"⟩, 2, some .int, 2, 9),
  (⟨"HayBoardModel", "isClear", "(II)Z"⟩, 6, some .boolean, 3, 9),
  (⟨"HayBoardModel", "as", "(II)I"⟩, 3, some .int, 3, 9),
  (⟨"HayBoardModel", "isUnder", "(II)Z"⟩, 2, some .boolean, 2, 9),
  (⟨"HayBoardModel", "turns", "(II)I"⟩, 3, some .int, 3, 9),
  (⟨"HayBoardModel", "becomes", "(II)I"⟩, 4, some .int, 3, 9),
  (⟨"HayBoardModel", "set", "(III)I"⟩, 4, some .int, 4, 9),
  (⟨"HayBoardModel", "rule", "(II)I"⟩, 3, some .int, 3, 9),
  (⟨"HayBoardModel", "deal", "(I)I"⟩, 7, some .int, 2, 9),
  (⟨"HayBoardModel", "draw", "()I"⟩, 1, some .int, 1, 9),
  (⟨"HayBoardModel", "seed", "(I)I"⟩, 2, some .int, 2, 9),
  (⟨"HayBoardModel", "move", "(II)I"⟩, 3, some .int, 3, 9),
  (⟨"HayBoardModel", "makes", "(II)I"⟩, 4, some .int, 3, 9),
  (⟨"HayBoardModel", "moves", "(I)I"⟩, 4, some .int, 2, 9),
  (⟨"HayBoardModel", "best", "(III)I"⟩, 5, some .int, 4, 9),
  (⟨"HayBoardModel", "bestOf", "(I[I)I"⟩, 8, some .int, 3, 9),
  (⟨"HayBoardModel", "saves", "([I)V"⟩, 3, (none : Option FieldType), 2, 9),
  (⟨"HayBoardModel", "leadOf", "(I)I"⟩, 5, some .int, 2, 9),
  (⟨"HayBoardModel", "isOn", "(I)Z"⟩, 2, some .boolean, 2, 9),
  (⟨"HayBoardModel", "loads", "([I)V"⟩, 3, (none : Option FieldType), 2, 9),
  (⟨"HayBoardModel", "bestOfTwo", "(I)I"⟩, 9, some .int, 2, 9),
  (⟨"HayBoardModel", "threats", "(I)I"⟩, 6, some .int, 2, 9),
  (⟨"HayBoardModel", "lead", "(I)I"⟩, 2, some .int, 2, 9),
  (⟨"HayBoardModel", "days", "(I)I"⟩, 3, some .int, 2, 9),
  (⟨"HayBoardModel", "manyOn", "()I"⟩, 3, some .int, 1, 9),
  (⟨"HayBoardModel", "goesOn", "(I)V"⟩, 3, (none : Option FieldType), 2, 9),
  (⟨"HayBoardModel", "day", "()V"⟩, 3, (none : Option FieldType), 1, 9),
  (⟨"HayBoardModel", "grazes", "(I)V"⟩, 3, (none : Option FieldType), 2, 9),
  (⟨"HayBoardModel", "rains", "()V"⟩, 2, (none : Option FieldType), 1, 9),
  (⟨"HayBoardModel", "behind", "(II)I"⟩, 4, some .int, 3, 9),
  (⟨"HayBoardModel", "thinks", "()V"⟩, 2, (none : Option FieldType), 1, 9),
  (⟨"HayBoardModel", "allHay", "()I"⟩, 3, some .int, 1, 9),
  (⟨"HayBoardModel", "putsBack", "()V"⟩, 2, (none : Option FieldType), 1, 9),
  (⟨"HayBoardModel", "ends", "()I"⟩, 2, some .int, 1, 9),
  (⟨"HayBoardModel", "isOver", "()Z"⟩, 3, some .boolean, 1, 9),
  (⟨"HayBoardModel", "spared", "(II)I"⟩, 8, some .int, 3, 9),
  (⟨"HayBoardModel", "given", "(II)I"⟩, 7, some .int, 3, 9),
  (⟨"HayBoardModel", "storm", "(III)I"⟩, 10, some .int, 4, 9),
  (⟨"HayBoardModel", "isSheet", "(I)Z"⟩, 1, some .boolean, 1, 9),
  (⟨"HayBoardModel", "offNow", "(I)J"⟩, 8, some .long, 2, 9),
  (⟨"HayBoardModel", "fee", "()I"⟩, 2, some .int, 1, 9),
  (⟨"HayBoardModel", "fine", "(I)I"⟩, 3, some .int, 2, 9),
  (⟨"HayBoardModel", "feed", "(III)I"⟩, 6, some .int, 4, 9),
  (⟨"HayBoardModel", "trim", "(I)I"⟩, 2, some .int, 2, 9),
  (⟨"HayBoardModel", "text", "()I"⟩, 4, some .int, 1, 9),
  (⟨"HayBoardModel", "go", "()V"⟩, 2, (none : Option FieldType), 1, 9),
  (⟨"HayBoardModel", "isLetter", "(I)Z"⟩, 2, some .boolean, 2, 9),
  (⟨"HayBoardModel", "isFigure", "(I)Z"⟩, 2, some .boolean, 2, 9),
  (⟨"HayBoardModel", "takesKey", "()Z"⟩, 5, some .boolean, 1, 9),
  (⟨"HayBoardModel", "takesE", "()Z"⟩, 5, some .boolean, 1, 9),
  (⟨"HayBoardModel", "takesPart", "()Z"⟩, 2, some .boolean, 1, 9),
  (⟨"HayBoardModel", "nameOf", "(I)I"⟩, 2, some .int, 2, 9),
  (⟨"HayBoardModel", "settle", "(I)V"⟩, 2, (none : Option FieldType), 2, 9),
  (⟨"HayBoardModel", "rank", "(I)I"⟩, 1, some .int, 1, 9),
  (⟨"HayBoardModel", "notsOpen", "()I"⟩, 3, some .int, 1, 9),
  (⟨"HayBoardModel", "signHere", "()I"⟩, 1, some .int, 1, 9),
  (⟨"HayBoardModel", "textTold", "(II)I"⟩, 3, some .int, 3, 9),
  (⟨"HayBoardModel", "why", "(I)I"⟩, 3, some .int, 2, 9),
  (⟨"HayBoardModel", "sheet", "(III)I"⟩, 5, some .int, 4, 9),
  (⟨"HayBoardModel", "mark", "(III)I"⟩, 4, some .int, 4, 9),
  (⟨"HayBoardModel", "pour", "(I)I"⟩, 6, some .int, 2, 9),
  (⟨"HayBoardModel", "reads", "(I)I"⟩, 4, some .int, 2, 9),
  (⟨"HayBoardModel", "copy", "(IIIII)I"⟩, 7, some .int, 6, 9),
  (⟨"HayBoardModel", "lay", "(III)I"⟩, 6, some .int, 4, 9),
  (⟨"HayBoardModel", "isSlot", "(I)Z"⟩, 1, some .boolean, 1, 9),
  (⟨"HayBoardModel", "ask", "(II)I"⟩, 3, some .int, 3, 9),
  (⟨"HayBoardModel", "item", "(II)I"⟩, 4, some .int, 3, 9),
  (⟨"HayBoardModel", "rest", "(II)I"⟩, 3, some .int, 3, 9),
  (⟨"HayBoardModel", "tell", "(I)I"⟩, 2, some .int, 2, 9),
  (⟨"HayBoardModel", "check", "(I)I"⟩, 6, some .int, 2, 9),
  (⟨"HayBoardModel", "copyAll", "([I[I)V"⟩, 3, (none : Option FieldType), 2, 9),
  (⟨"HayBoardModel", "keep", "()I"⟩, 1, some .int, 1, 9),
  (⟨"HayBoardModel", "back", "()I"⟩, 1, some .int, 1, 9),
  (⟨"HayBoardModel", "count", "(I)I"⟩, 2, some .int, 2, 9),
  (⟨"java/lang/String", "length", "()I"⟩, 1, some .int, 1, 10),
  (⟨"java/lang/String", "coder", "()B"⟩, 1, some .byte, 1, 10),
  (⟨"java/lang/String", "charAt", "(I)C"⟩, 2, some .char, 2, 10),
  (⟨"java/lang/String", "isLatin1", "()Z"⟩, 1, some .boolean, 1, 10),
  (⟨"java/lang/StringLatin1", "charAt", "([BI)C"⟩, 2, some .char, 2, 11),
  (⟨"java/lang/String", "checkIndex", "(II)V"⟩, 2, (none : Option FieldType), 2, 10),
  (⟨"jdk/internal/util/Preconditions", "checkIndex", "(IILjava/util/function/BiFunction;)I"⟩, 3, some .int, 3, 12),
  (⟨"java/lang/String", "indexOf", "(I)I"⟩, 2, some .int, 2, 10),
  (⟨"java/lang/String", "indexOf", "(II)I"⟩, 3, some .int, 3, 10),
  (⟨"java/lang/StringLatin1", "indexOf", "([BIII)I"⟩, 4, some .int, 4, 11),
  (⟨"java/lang/StringLatin1", "canEncode", "(I)Z"⟩, 1, some .boolean, 1, 11),
  (⟨"java/lang/StringLatin1", "indexOfChar", "([BIII)I"⟩, 6, some .int, 4, 11)]
def hy_m (y : Nat) : MethodName × Nat × Option FieldType × Nat × Nat := hy_M.getD y (⟨"", "", ""⟩, 0, none, 0, 99)
def hy_MP : List (Nat × Nat × Nat × Nat) := [(0, 0, 0, 0), (341, 61, 339, 340), (344, 61, 343, 343), (347, 61, 346, 346), (350, 61, 349, 349), (353, 61, 352, 352), (356, 61, 355, 355), (364, 68, 362, 363), (368, 68, 366, 367), (372, 68, 370, 371), (377, 61, 375, 376), (381, 68, 379, 380), (386, 68, 384, 385), (389, 61, 388, 388), (393, 63, 391, 392), (396, 63, 395, 395), (399, 61, 398, 398), (411, 67, 409, 410), (415, 67, 413, 414), (419, 61, 417, 418), (423, 61, 421, 422), (427, 68, 425, 426), (434, 68, 433, 0), (438, 61, 436, 437), (442, 67, 440, 441), (447, 61, 445, 446), (451, 61, 449, 450), (454, 61, 453, 453), (458, 61, 457, 1), (462, 61, 461, 461), (466, 61, 464, 465), (470, 61, 468, 469), (474, 68, 472, 473), (478, 68, 476, 477), (484, 61, 482, 483), (488, 61, 486, 487), (492, 68, 490, 491), (496, 67, 494, 495), (501, 68, 499, 500), (505, 61, 503, 504), (509, 68, 507, 508), (513, 68, 511, 512), (518, 61, 516, 517), (522, 68, 520, 521), (526, 64, 524, 525), (530, 68, 528, 529), (536, 64, 534, 535), (540, 64, 538, 539), (544, 61, 543, 2), (549, 68, 547, 548), (553, 67, 551, 552), (560, 68, 558, 559), (568, 61, 566, 567), (573, 68, 571, 572), (577, 61, 575, 576), (581, 61, 579, 580), (585, 68, 583, 584), (589, 68, 587, 588), (593, 68, 591, 592), (599, 68, 598, 3), (604, 68, 603, 4), (608, 67, 606, 607), (612, 61, 610, 611), (616, 68, 614, 615), (620, 61, 618, 619), (625, 61, 623, 624), (630, 61, 629, 5), (634, 61, 632, 633), (639, 61, 637, 638), (642, 61, 641, 641), (646, 65, 644, 645), (651, 68, 649, 650), (655, 65, 653, 654), (659, 65, 657, 658), (666, 61, 664, 665), (672, 61, 670, 671), (676, 61, 674, 675), (680, 62, 678, 679), (684, 61, 682, 683), (688, 61, 686, 687), (692, 62, 690, 691), (696, 63, 694, 695), (700, 62, 699, 6), (704, 62, 703, 7), (709, 62, 708, 8), (714, 62, 713, 9), (718, 62, 717, 10), (721, 62, 720, 720), (724, 62, 723, 723), (778, 62, 777, 11), (782, 62, 781, 12), (786, 62, 785, 13), (790, 63, 788, 789), (794, 63, 793, 14), (798, 62, 797, 15), (801, 62, 800, 800), (805, 62, 804, 16), (809, 63, 807, 808), (813, 62, 812, 17), (875, 63, 873, 874), (878, 62, 877, 877), (882, 63, 880, 881), (888, 61, 886, 887), (892, 61, 890, 891), (896, 61, 894, 895), (900, 65, 898, 899), (905, 61, 903, 904), (913, 61, 911, 912), (919, 61, 917, 918), (923, 61, 921, 922), (927, 65, 925, 926), (932, 61, 930, 931), (935, 61, 934, 934), (940, 65, 938, 939), (945, 61, 943, 944), (948, 61, 947, 947), (952, 61, 950, 951), (956, 61, 954, 955), (960, 61, 958, 959), (964, 61, 962, 963), (968, 61, 967, 18), (972, 61, 970, 971), (976, 61, 974, 975), (980, 61, 978, 979), (1101, 69, 1099, 1100), (1104, 69, 1103, 1103), (1107, 69, 1106, 1106), (1112, 69, 1111, 19), (1116, 69, 1115, 20), (1122, 69, 1121, 21), (1126, 69, 1125, 22), (1130, 69, 1128, 1129), (1134, 69, 1133, 23), (1138, 69, 1137, 24), (1142, 69, 1141, 25), (1146, 69, 1145, 26), (1149, 69, 1148, 1148), (1152, 69, 1151, 1151), (1156, 69, 1155, 27), (1160, 69, 1159, 28), (1164, 69, 1162, 1163), (1167, 69, 1166, 1166), (1172, 69, 1170, 1171), (1176, 69, 1175, 29), (1179, 69, 1178, 1178), (1183, 69, 1182, 30), (1187, 69, 1185, 1186), (1190, 69, 1189, 1189), (1195, 69, 1193, 1194), (1199, 69, 1198, 31), (1203, 69, 1201, 1202), (1207, 69, 1205, 1206), (1211, 69, 1209, 1210), (1215, 69, 1214, 32), (1220, 69, 1218, 1219), (1224, 69, 1222, 1223), (1228, 69, 1227, 33), (1232, 69, 1230, 1231), (1236, 69, 1234, 1235), (1240, 69, 1239, 34), (1244, 69, 1243, 35), (1248, 69, 1247, 36), (1252, 69, 1251, 37), (1256, 69, 1255, 38), (1260, 69, 1259, 39), (1264, 69, 1262, 1263), (1268, 69, 1266, 1267), (1272, 69, 1270, 1271), (1276, 69, 1275, 40), (1280, 69, 1279, 41), (1284, 69, 1283, 42), (1288, 69, 1287, 43), (1292, 69, 1291, 44), (1296, 69, 1294, 1295), (1300, 69, 1299, 45), (1304, 69, 1303, 46), (1308, 69, 1307, 47), (1312, 69, 1310, 1311), (1316, 69, 1315, 48), (1320, 69, 1318, 1319), (1324, 69, 1322, 1323), (1328, 69, 1326, 1327), (1331, 69, 1330, 1330), (1336, 69, 1335, 49), (1340, 69, 1338, 1339), (1344, 69, 1342, 1343), (1348, 69, 1346, 1347), (1352, 69, 1350, 1351), (1356, 69, 1354, 1355), (1360, 69, 1359, 50), (1364, 69, 1363, 51), (1368, 69, 1367, 52), (1372, 69, 1371, 53), (1376, 69, 1375, 54), (1380, 69, 1379, 55), (1384, 69, 1383, 56), (1388, 69, 1387, 57), (1391, 69, 1390, 1390), (1395, 69, 1394, 58), (1399, 69, 1398, 59), (1403, 69, 1401, 1402), (1407, 69, 1405, 1406), (1411, 69, 1409, 1410), (1416, 69, 1414, 1415), (1423, 69, 1421, 1422), (1427, 69, 1425, 1426), (1431, 69, 1429, 1430), (1435, 69, 1433, 1434), (1438, 69, 1437, 1437), (1442, 69, 1440, 1441), (1446, 69, 1444, 1445), (1450, 69, 1448, 1449), (1454, 69, 1452, 1453), (1458, 69, 1456, 1457), (1461, 69, 1460, 1460), (1465, 69, 1463, 1464), (1469, 69, 1467, 1468), (1473, 69, 1471, 1472), (728, 72, 726, 727), (732, 72, 730, 731), (738, 72, 736, 737), (742, 72, 740, 741), (745, 73, 744, 744), (748, 72, 747, 747), (753, 74, 752, 752), (820, 72, 818, 819), (824, 72, 822, 823), (828, 73, 827, 827), (831, 73, 830, 830), (836, 73, 835, 835)]
def hy_isSt : List Bool := [true, false, true, true, true, true, true, false, false, false, false, false, false, true, false, true, true, false, false, false, false, false, false, false, false, false, false, true, false, true, false, false, false, false, false, false, false, false, false, false, false, false, false, false, false, false, false, false, false, false, false, false, false, false, false, false, false, false, false, false, false, false, false, false, false, false, false, false, false, true, false, false, false, false, false, false, false, false, false, false, false, false, false, false, false, false, false, true, true, false, false, false, false, false, false, true, false, false, false, false, true, false, false, false, false, false, false, false, false, false, false, false, true, false, false, true, false, false, false, false, false, false, false, false, false, true, true, false, false, false, false, false, false, false, false, false, true, true, false, false, false, true, false, false, true, false, false, true, false, false, false, false, false, false, false, false, false, false, false, false, false, false, false, false, false, false, false, false, false, false, false, false, false, false, false, false, false, false, false, false, false, false, true, false, false, false, false, false, false, false, false, false, false, false, false, false, false, true, false, false, false, false, false, false, false, false, false, false, true, false, false, false, false, false, true, false, false, false, false, false, false, false, true, true, true, false, false, true, true, true]
def hy_wAt (i : Nat) (w : Jvm.Cond) : Bool := decide (lw_tbl[i]? = some w) && goodWord w
def hy_wM (i : Nat) (w : Jvm.Cond) : Bool := decide (lw_tbl[i]? = some w)
/-- a method's bytes, as the tables have them -/
def hy_b (y : Nat) : ByteArray := match y with
  | 0 => code
  | y + 1 => match lw_tbl[(hy_MP.getD (y + 1) (0, 0, 0, 0)).1]? with
    | some (.code _ b _ _) => b
    | _ => ⟨#[]⟩
def hy_cdOK (y : Nat) : Bool := match lw_tbl[(hy_MP.getD y (0, 0, 0, 0)).1]? with
  | some (.code n _ mx rt) => decide (n = (hy_m y).1 ∧ mx = (hy_m y).2.1 ∧ rt = (hy_m y).2.2.1)
  | _ => false
def hy_mp1 (y : Nat) : Bool :=
  let q := hy_MP.getD y (0, 0, 0, 0)
  hy_wAt q.2.1 (.initialized (hy_m y).1.cls)
def hy_mp2 (y : Nat) : Bool :=
  let q := hy_MP.getD y (0, 0, 0, 0)
  bif hy_isSt.getD y false then hy_wAt q.2.2.1 (.static (hy_m y).1) else hy_wAt q.2.2.1 (.instanceMethod (hy_m y).1) && hy_wAt q.2.2.2 (.selects (hy_m y).1.cls (hy_m y).1 (hy_m y).1)
def hy_mp3 (y : Nat) : Bool := decide (hy_cn (hy_m y).2.2.2.2 = (hy_m y).1.cls)
def hy_mp4 (y : Nat) : Bool := plainName (hy_m y).1.cls && decide ((hy_m y).1.cls ≠ "java/lang/invoke/MethodHandle" ∧ (hy_m y).1.cls ≠ "java/lang/invoke/VarHandle")
def hy_mp5 (y : Nat) : Bool := decide ((parseMethodDescriptor (hy_m y).1.desc).map (fun d => d.parameters.length) = some ((hy_m y).2.2.2.1 - (bif hy_isSt.getD y false then 0 else 1)))
theorem hy_cdOK_all : (List.range 230).all (fun y => Nat.beq y 0 || hy_cdOK y) = true := by decide +kernel
theorem hy_mp1_all : (List.range 230).all (fun y => Nat.beq y 0 || hy_mp1 y) = true := by decide +kernel
theorem hy_mp2_all : (List.range 230).all (fun y => Nat.beq y 0 || hy_mp2 y) = true := by decide +kernel
theorem hy_mp3_all : (List.range 230).all (fun y => Nat.beq y 0 || hy_mp3 y) = true := by decide +kernel
theorem hy_mp4_all : (List.range 230).all (fun y => Nat.beq y 0 || hy_mp4 y) = true := by decide +kernel
theorem hy_mp5_all : (List.range 230).all (fun y => Nat.beq y 0 || hy_mp5 y) = true := by decide +kernel
def hy_FL : List (Nat × Nat × Nat × Nat) := [(3, 9, 192, 99), (3, 15, 193, 100), (3, 22, 194, 101), (3, 31, 195, 102), (2, 55, 195, 103), (1, 288, 195, 104), (3, 18, 196, 105), (1, 291, 196, 106), (2, 9, 128, 119), (2, 18, 129, 120), (1, 281, 129, 121), (2, 22, 130, 122), (1, 270, 130, 123), (2, 41, 131, 124), (4, 10, 256, 141), (7, 179, 256, 142), (4, 16, 257, 143), (4, 19, 258, 144), (5, 9, 320, 162), (7, 214, 320, 163), (1, 302, 320, 164), (5, 15, 321, 165), (1, 299, 321, 166), (5, 19, 322, 167), (7, 203, 322, 168), (1, 313, 322, 169), (8, 18, 512, 188), (1, 98, 512, 189), (7, 103, 512, 190), (8, 21, 513, 191), (1, 103, 513, 192), (7, 89, 513, 193), (8, 9, 514, 194), (1, 106, 514, 195), (7, 79, 514, 196), (8, 15, 515, 197), (1, 109, 515, 198), (7, 100, 515, 199), (8, 24, 516, 200), (1, 112, 516, 201), (7, 106, 516, 202), (8, 27, 517, 203), (1, 115, 517, 204), (7, 109, 517, 205), (6, 12, 384, 221), (1, 328, 384, 222), (6, 21, 385, 223), (1, 335, 385, 224), (6, 25, 386, 225), (1, 345, 386, 226), (1, 342, 387, 227), (7, 41, 448, 249), (7, 11, 449, 250), (1, 94, 449, 251), (7, 17, 450, 252), (1, 77, 450, 253), (7, 21, 451, 254), (1, 260, 451, 255), (7, 24, 452, 256), (1, 201, 452, 257), (7, 27, 453, 258), (7, 33, 454, 259), (1, 189, 454, 260), (7, 47, 455, 261), (1, 82, 455, 262), (7, 60, 456, 263), (1, 155, 456, 264), (7, 63, 457, 265), (1, 158, 457, 266), (7, 66, 458, 267), (1, 161, 458, 268), (7, 69, 459, 269), (1, 227, 459, 270), (7, 37, 460, 271), (1, 172, 460, 272), (7, 72, 461, 273), (1, 278, 461, 274), (1, 11, 64, 304), (1, 18, 65, 305), (1, 53, 66, 306), (1, 57, 67, 307), (1, 60, 68, 308), (1, 355, 69, 309), (1, 25, 70, 310), (1, 31, 71, 311), (1, 37, 72, 312), (1, 41, 73, 313), (1, 352, 74, 314), (9, 9, 576, 987), (9, 13, 577, 988), (9, 16, 578, 989), (9, 296, 579, 990), (9, 19, 580, 991), (9, 22, 581, 992), (9, 172, 582, 993), (9, 25, 583, 994), (9, 28, 584, 995), (9, 220, 585, 996), (9, 223, 586, 997), (9, 226, 587, 998), (9, 232, 588, 999), (9, 238, 589, 1000), (9, 229, 590, 1001), (9, 244, 591, 1002), (9, 31, 592, 1003), (9, 35, 593, 1004), (9, 38, 594, 1005), (9, 256, 595, 1006), (9, 262, 596, 1007), (9, 41, 597, 1008), (9, 250, 598, 1009), (9, 44, 599, 1010), (9, 48, 600, 1011), (9, 51, 601, 1012), (9, 54, 602, 1013), (9, 57, 603, 1014), (9, 60, 604, 1015), (9, 63, 605, 1016), (9, 66, 606, 1017), (9, 69, 607, 1018), (9, 72, 608, 1019), (9, 75, 609, 1020), (9, 78, 610, 1021), (9, 293, 611, 1022)]
def hy_ML : List (Nat × Nat × Nat × Nat) := [(0, 13, 2, 338), (1, 63, 4, 342), (1, 151, 6, 345), (1, 67, 8, 348), (1, 70, 10, 351), (1, 73, 12, 354), (1, 87, 14, 361), (7, 112, 16, 365), (7, 86, 18, 369), (7, 82, 11, 373), (0, 18, 20, 374), (1, 91, 22, 378), (7, 75, 7, 382), (1, 118, 24, 383), (7, 140, 27, 387), (7, 143, 28, 390), (3, 38, 30, 394), (7, 149, 33, 397), (1, 121, 34, 408), (1, 125, 36, 412), (0, 23, 38, 416), (0, 28, 40, 420), (1, 128, 42, 424), (7, 130, 44, 431), (0, 32, 46, 435), (1, 132, 48, 439), (0, 36, 50, 444), (0, 40, 52, 448), (1, 136, 54, 452), (1, 140, 56, 455), (1, 147, 16, 459), (1, 144, 58, 460), (0, 45, 60, 463), (0, 49, 62, 467), (1, 169, 64, 471), (7, 116, 66, 475), (7, 120, 14, 480), (0, 53, 68, 481), (0, 57, 70, 485), (1, 175, 72, 489), (7, 136, 74, 493), (1, 178, 76, 498), (0, 61, 78, 502), (1, 181, 80, 506), (7, 96, 82, 510), (7, 133, 42, 514), (0, 65, 84, 515), (1, 185, 86, 519), (7, 162, 88, 523), (7, 165, 90, 527), (7, 159, 24, 531), (7, 168, 80, 532), (7, 171, 92, 533), (1, 192, 94, 537), (1, 195, 96, 541), (1, 198, 88, 545), (1, 204, 98, 546), (7, 50, 100, 550), (1, 208, 102, 557), (7, 175, 86, 561), (7, 182, 72, 562), (1, 211, 90, 563), (1, 214, 92, 564), (0, 69, 104, 565), (1, 218, 82, 569), (1, 221, 106, 570), (0, 73, 108, 574), (0, 77, 110, 578), (1, 224, 112, 582), (7, 92, 114, 586), (1, 230, 116, 590), (7, 185, 102, 594), (7, 188, 76, 595), (7, 191, 118, 596), (7, 197, 34, 600), (7, 194, 120, 601), (7, 200, 122, 605), (0, 81, 124, 609), (1, 233, 126, 613), (0, 85, 128, 617), (1, 236, 114, 621), (0, 90, 130, 622), (1, 239, 18, 626), (1, 242, 132, 627), (0, 94, 134, 631), (0, 98, 136, 636), (1, 248, 138, 640), (1, 251, 140, 643), (1, 256, 142, 648), (7, 208, 144, 652), (5, 32, 146, 656), (5, 28, 7, 660), (7, 211, 22, 662), (0, 102, 148, 663), (1, 263, 26, 667), (1, 266, 28, 668), (0, 106, 150, 669), (0, 110, 152, 673), (1, 273, 154, 677), (0, 114, 156, 681), (0, 118, 158, 685), (1, 275, 160, 689), (2, 26, 162, 693), (2, 29, 164, 697), (2, 66, 166, 701), (2, 33, 168, 706), (2, 47, 170, 711), (2, 58, 172, 715), (2, 92, 174, 719), (2, 86, 176, 722), (2, 115, 436, 725), (10, 335, 438, 729), (2, 117, 440, 735), (10, 492, 442, 739), (10, 495, 444, 743), (11, 9, 446, 746), (10, 1059, 448, 751), (2, 37, 178, 775), (2, 62, 180, 779), (2, 76, 182, 783), (2, 73, 184, 787), (3, 34, 186, 791), (2, 79, 188, 795), (2, 82, 190, 799), (2, 89, 192, 802), (2, 98, 194, 806), (2, 95, 196, 810), (2, 107, 450, 817), (10, 633, 452, 821), (10, 505, 436, 825), (10, 637, 454, 826), (11, 88, 456, 829), (11, 95, 458, 834), (2, 112, 198, 872), (2, 70, 200, 876), (1, 285, 202, 879), (0, 122, 204, 885), (0, 126, 206, 889), (0, 130, 208, 893), (1, 294, 210, 897), (0, 134, 212, 902), (1, 297, 146, 906), (0, 138, 214, 910), (1, 307, 144, 914), (1, 310, 32, 915), (0, 142, 216, 916), (0, 146, 218, 920), (1, 316, 220, 924), (0, 151, 222, 929), (1, 325, 224, 933), (1, 332, 100, 936), (1, 339, 226, 937), (0, 155, 228, 942), (1, 348, 230, 946), (0, 159, 232, 949), (0, 163, 234, 953), (0, 167, 236, 957), (0, 171, 238, 961), (1, 359, 240, 965), (0, 175, 242, 969), (0, 179, 244, 973), (0, 183, 246, 977), (0, 17, 248, 1098), (9, 82, 250, 1102), (9, 94, 252, 1105), (9, 99, 254, 1109), (9, 86, 256, 1113), (9, 105, 258, 1119), (9, 90, 260, 1123), (0, 22, 262, 1127), (9, 119, 264, 1131), (9, 122, 266, 1135), (9, 109, 268, 1139), (9, 112, 270, 1143), (9, 283, 272, 1147), (9, 115, 274, 1150), (9, 125, 276, 1153), (9, 128, 278, 1157), (0, 27, 280, 1161), (9, 131, 282, 1165), (0, 31, 284, 1169), (9, 141, 286, 1173), (9, 134, 288, 1177), (9, 137, 290, 1180), (0, 35, 292, 1184), (9, 144, 294, 1188), (0, 39, 296, 1192), (9, 148, 298, 1196), (0, 44, 300, 1200), (0, 48, 302, 1204), (0, 52, 304, 1208), (9, 152, 306, 1212), (0, 56, 308, 1217), (0, 60, 310, 1221), (9, 163, 312, 1225), (0, 64, 314, 1229), (0, 68, 316, 1233), (9, 176, 318, 1237), (9, 159, 320, 1241), (9, 166, 322, 1245), (9, 156, 324, 1249), (9, 169, 326, 1253), (9, 180, 328, 1257), (0, 72, 330, 1261), (0, 76, 332, 1265), (0, 80, 334, 1269), (9, 193, 336, 1273), (9, 196, 338, 1277), (9, 190, 340, 1281), (9, 183, 342, 1285), (9, 187, 344, 1289), (0, 84, 346, 1293), (9, 199, 348, 1297), (9, 202, 350, 1301), (9, 205, 352, 1305), (0, 89, 354, 1309), (9, 208, 356, 1313), (0, 93, 358, 1317), (0, 97, 360, 1321), (0, 101, 362, 1325), (9, 212, 364, 1329), (9, 216, 366, 1333), (0, 105, 368, 1337), (0, 109, 370, 1341), (0, 113, 372, 1345), (0, 117, 374, 1349), (0, 121, 376, 1353), (9, 247, 378, 1357), (9, 235, 380, 1361), (9, 241, 382, 1365), (9, 277, 384, 1369), (9, 280, 386, 1373), (9, 268, 388, 1377), (9, 259, 390, 1381), (9, 265, 392, 1385), (9, 253, 394, 1389), (9, 271, 396, 1392), (9, 274, 398, 1396), (0, 125, 400, 1400), (0, 129, 402, 1404), (0, 133, 404, 1408), (0, 137, 406, 1413), (0, 141, 408, 1420), (0, 145, 410, 1424), (0, 150, 412, 1428), (0, 154, 414, 1432), (9, 290, 416, 1436), (0, 158, 418, 1439), (0, 162, 420, 1443), (0, 166, 422, 1447), (0, 170, 424, 1451), (0, 174, 426, 1455), (9, 300, 428, 1459), (0, 178, 430, 1462), (0, 182, 432, 1466), (0, 186, 434, 1470)]
def hy_SL : List (Nat × Nat × Nat × Nat) := [(10, 9, 1984, 1474), (10, 15, 1985, 1475)]
def hy_GS : List (Nat × Nat × Nat × Nat) := [(10, 38, 0, 733), (10, 1053, 1, 749)]
def hy_SP : List (Nat × Nat × Nat × Nat) := [(1, 164, 1, 400), (1, 362, 0, 403), (7, 152, 1, 406), (7, 156, 0, 407), (7, 125, 2, 428), (8, 30, 1, 497), (7, 54, 3, 554), (1, 245, 2, 635), (11, 92, 0, 832), (11, 38, 1, 833), (3, 25, 3, 883), (1, 319, 3, 928), (5, 22, 3, 941)]
theorem hy_fl_ok : hy_FL.all (fun q => hy_wAt q.2.2.2 (.fieldLink (hy_cn q.1) q.2.1 (hy_cn (q.2.2.1 / 64)) (hy_T (q.2.2.1 / 64) (q.2.2.1 % 64)).2.1 (hy_T (q.2.2.1 / 64) (q.2.2.1 % 64)).2.2.1)) = true := by decide +kernel
theorem hy_ml_ok : hy_ML.all (fun q => hy_wM q.2.2.2 (bif Nat.beq (q.2.2.1 % 2) 1 then .methodLinkNest (hy_cn q.1) q.2.1 (hy_m (q.2.2.1 / 2)).1 "HayBoard" else .methodLink (hy_cn q.1) q.2.1 (hy_m (q.2.2.1 / 2)).1)) = true := by decide +kernel
def hy_SF : List (String × String) := [("value", "[B"), ("coder", "B")]
theorem hy_sl_ok : hy_SL.all (fun q => hy_wAt q.2.2.2 (.fieldLink (hy_cn q.1) q.2.1 "java/lang/String" (hy_SF.getD (q.2.2.1 % 64) ("", "")).1 (hy_SF.getD (q.2.2.1 % 64) ("", "")).2)) = true := by decide +kernel
def hy_GF : List (String × String × String) := [("java/lang/String", "COMPACT_STRINGS", "Z"), ("jdk/internal/util/Preconditions", "SIOOBE_FORMATTER", "Ljava/util/function/BiFunction;")]
theorem hy_gs_ok : hy_GS.all (fun q => hy_wAt q.2.2.2 (.fieldLink (hy_cn q.1) q.2.1 (hy_GF.getD q.2.2.1 ("", "", "")).1 (hy_GF.getD q.2.2.1 ("", "", "")).2.1 (hy_GF.getD q.2.2.1 ("", "", "")).2.2)) = true := by decide +kernel
def hy_SN : List MethodName := [Lib.Math.max.name, Lib.Math.min.name, Lib.Math.abs.name, arraycopyName]
theorem hy_sp_ok : hy_SP.all (fun q => hy_wAt q.2.2.2 (.methodLink (hy_cn q.1) q.2.1 (hy_SN.getD q.2.2.1 ⟨"", "", ""⟩))) = true := by decide +kernel
def hy_CT : List (Nat × Nat × Int × Nat) := [(1, 76, (-1000000001), 357), (1, 80, (-1000000005), 358), (1, 81, (-1000000002), 359), (1, 86, (-1000000003), 360), (1, 135, (-1000000012), 443), (1, 255, (-1000000011), 647), (1, 296, (-1000000014), 901), (1, 298, (-1000000013), 907), (1, 305, (-99999), 908), (1, 306, 99999, 909), (2, 44, (-1000000005), 705), (4, 9, (-1000000005), 140), (5, 36, (-1000000005), 661), (7, 46, (-1000000005), 248), (7, 124, 1103515245, 479), (9, 81, (-1000000005), 1168), (9, 98, (-1000000001), 1108), (9, 103, (-1000000002), 1117), (9, 104, (-1000000003), 1118), (9, 147, (-1000000012), 1191), (9, 151, 1103515245, 1216), (9, 215, (-1000000011), 1332), (9, 286, (-1000000014), 1412), (9, 287, (-1000000013), 1417), (9, 288, (-99999), 1418), (9, 289, 99999, 1419)]
theorem hy_ct_ok : hy_CT.all (fun q => hy_wAt q.2.2.2 (.constant (hy_cn q.1) q.2.1 (Int32.ofInt q.2.2.1))) = true := by decide +kernel
def hy_ST : List (Nat × Nat × Nat × Nat) := [(2, 45, 0, 710), (2, 51, 1, 773), (2, 53, 2, 774), (2, 101, 3, 814), (2, 103, 4, 815), (2, 105, 5, 816)]
def hy_TX : List String := ["hay", "fee", "fine", "hpw", "dt", "wh"]
theorem hy_st_ok : hy_ST.all (fun q => hy_wM q.2.2.2 (.stringRef (hy_cn q.1) q.2.1 (hy_TX.getD q.2.2.1 ""))) = true := by decide +kernel
def hy_B0_0 : List Instr := []
def hy_B0_1 : List Instr := [.iload 3, .aload 0, .arraylength, .bipush 6, .isub, .if_icmp .gt 45, .aload 0, .iload 3, .iaload, .bipush 63, .iand, .tableswitch 44 0 41 #[2, 3, 4, 5, 6, 7, 8, 9, 10, 11, 12, 13, 14, 15, 16, 17, 18, 19, 20, 21, 22, 23, 24, 25, 26, 27, 28, 29, 30, 31, 32, 33, 34, 35, 36, 37, 38, 39, 40, 41, 42, 43]]
def hy_B0_2 : List Instr := [.aload 1, .aload 0, .iload 3, .bipush 1, .iadd, .iaload, .aload 0, .iload 3, .bipush 2, .iadd, .iaload, .aload 0, .iload 3, .bipush 3, .iadd, .iaload, .aload 0, .iload 3, .bipush 4, .iadd, .iaload, .invokevirtual 1, .aload 2, .aload 0, .iload 3, .bipush 1, .iadd, .iaload, .aload 0, .iload 3, .bipush 2, .iadd, .iaload, .aload 0, .iload 3, .bipush 3, .iadd, .iaload, .aload 0, .iload 3, .bipush 4, .iadd, .iaload, .invokevirtual 124, .if_icmp .eq 44, .bipush 0, .ireturn]
def hy_B0_3 : List Instr := [.aload 1, .aload 0, .iload 3, .bipush 1, .iadd, .iaload, .aload 0, .iload 3, .bipush 2, .iadd, .iaload, .invokevirtual 10, .aload 2, .aload 0, .iload 3, .bipush 1, .iadd, .iaload, .aload 0, .iload 3, .bipush 2, .iadd, .iaload, .invokevirtual 131, .if_icmp .eq 44, .bipush 0, .ireturn]
def hy_B0_4 : List Instr := [.aload 1, .aload 0, .iload 3, .bipush 1, .iadd, .iaload, .invokevirtual 19, .aload 2, .aload 0, .iload 3, .bipush 1, .iadd, .iaload, .invokevirtual 140, .if_icmp .eq 44, .bipush 0, .ireturn]
def hy_B0_5 : List Instr := [.aload 1, .aload 0, .iload 3, .bipush 1, .iadd, .iaload, .aload 0, .iload 3, .bipush 2, .iadd, .iaload, .invokevirtual 20, .aload 2, .aload 0, .iload 3, .bipush 1, .iadd, .iaload, .aload 0, .iload 3, .bipush 2, .iadd, .iaload, .invokevirtual 142, .if_icmp .eq 44, .bipush 0, .ireturn]
def hy_B0_6 : List Instr := [.aload 1, .aload 0, .iload 3, .bipush 1, .iadd, .iaload, .aload 0, .iload 3, .bipush 2, .iadd, .iaload, .invokevirtual 23, .aload 2, .aload 0, .iload 3, .bipush 1, .iadd, .iaload, .aload 0, .iload 3, .bipush 2, .iadd, .iaload, .invokevirtual 146, .if_icmp .eq 44, .bipush 0, .ireturn]
def hy_B0_7 : List Instr := [.aload 1, .aload 0, .iload 3, .bipush 1, .iadd, .iaload, .aload 0, .iload 3, .bipush 2, .iadd, .iaload, .invokevirtual 25, .aload 2, .aload 0, .iload 3, .bipush 1, .iadd, .iaload, .aload 0, .iload 3, .bipush 2, .iadd, .iaload, .invokevirtual 148, .if_icmp .eq 44, .bipush 0, .ireturn]
def hy_B0_8 : List Instr := [.aload 1, .aload 0, .iload 3, .bipush 1, .iadd, .iaload, .aload 0, .iload 3, .bipush 2, .iadd, .iaload, .aload 0, .iload 3, .bipush 3, .iadd, .iaload, .invokevirtual 26, .aload 2, .aload 0, .iload 3, .bipush 1, .iadd, .iaload, .aload 0, .iload 3, .bipush 2, .iadd, .iaload, .aload 0, .iload 3, .bipush 3, .iadd, .iaload, .invokevirtual 150, .if_icmp .eq 44, .bipush 0, .ireturn]
def hy_B0_9 : List Instr := [.aload 1, .aload 0, .iload 3, .bipush 1, .iadd, .iaload, .aload 0, .iload 3, .bipush 2, .iadd, .iaload, .invokevirtual 30, .aload 2, .aload 0, .iload 3, .bipush 1, .iadd, .iaload, .aload 0, .iload 3, .bipush 2, .iadd, .iaload, .invokevirtual 151, .if_icmp .eq 44, .bipush 0, .ireturn]
def hy_B0_10 : List Instr := [.aload 1, .aload 0, .iload 3, .bipush 1, .iadd, .iaload, .invokevirtual 31, .aload 2, .aload 0, .iload 3, .bipush 1, .iadd, .iaload, .invokevirtual 152, .if_icmp .eq 44, .bipush 0, .ireturn]
def hy_B0_11 : List Instr := [.aload 1, .aload 0, .iload 3, .bipush 1, .iadd, .iaload, .invokevirtual 34, .aload 2, .aload 0, .iload 3, .bipush 1, .iadd, .iaload, .invokevirtual 154, .if_icmp .eq 44, .bipush 0, .ireturn]
def hy_B0_12 : List Instr := [.aload 1, .aload 0, .iload 3, .bipush 1, .iadd, .iaload, .aload 0, .iload 3, .bipush 2, .iadd, .iaload, .invokevirtual 35, .aload 2, .aload 0, .iload 3, .bipush 1, .iadd, .iaload, .aload 0, .iload 3, .bipush 2, .iadd, .iaload, .invokevirtual 155, .if_icmp .eq 44, .bipush 0, .ireturn]
def hy_B0_13 : List Instr := [.aload 1, .aload 0, .iload 3, .bipush 1, .iadd, .iaload, .invokevirtual 39, .aload 2, .aload 0, .iload 3, .bipush 1, .iadd, .iaload, .invokevirtual 157, .if_icmp .eq 44, .bipush 0, .ireturn]
def hy_B0_14 : List Instr := [.aload 1, .aload 0, .iload 3, .bipush 1, .iadd, .iaload, .aload 0, .iload 3, .bipush 2, .iadd, .iaload, .aload 0, .iload 3, .bipush 3, .iadd, .iaload, .invokevirtual 42, .aload 2, .aload 0, .iload 3, .bipush 1, .iadd, .iaload, .aload 0, .iload 3, .bipush 2, .iadd, .iaload, .aload 0, .iload 3, .bipush 3, .iadd, .iaload, .invokevirtual 158, .if_icmp .eq 44, .bipush 0, .ireturn]
def hy_B0_15 : List Instr := [.aload 1, .aload 0, .iload 3, .bipush 1, .iadd, .iaload, .invokevirtual 52, .aload 2, .aload 0, .iload 3, .bipush 1, .iadd, .iaload, .invokevirtual 165, .if_icmp .eq 44, .bipush 0, .ireturn]
def hy_B0_16 : List Instr := [.aload 1, .aload 0, .iload 3, .bipush 1, .iadd, .iaload, .invokevirtual 54, .aload 2, .aload 0, .iload 3, .bipush 1, .iadd, .iaload, .invokevirtual 166, .if_icmp .eq 44, .bipush 0, .ireturn]
def hy_B0_17 : List Instr := [.aload 1, .aload 0, .iload 3, .bipush 1, .iadd, .iaload, .invokevirtual 55, .aload 2, .aload 0, .iload 3, .bipush 1, .iadd, .iaload, .invokevirtual 167, .if_icmp .eq 44, .bipush 0, .ireturn]
def hy_B0_18 : List Instr := [.aload 1, .aload 0, .iload 3, .bipush 1, .iadd, .iaload, .aload 0, .iload 3, .bipush 2, .iadd, .iaload, .invokevirtual 62, .aload 2, .aload 0, .iload 3, .bipush 1, .iadd, .iaload, .aload 0, .iload 3, .bipush 2, .iadd, .iaload, .invokevirtual 173, .if_icmp .eq 44, .bipush 0, .ireturn]
def hy_B0_19 : List Instr := [.aload 1, .invokevirtual 64, .aload 2, .invokevirtual 177, .if_icmp .eq 44, .bipush 0, .ireturn]
def hy_B0_20 : List Instr := [.aload 1, .aload 0, .iload 3, .bipush 1, .iadd, .iaload, .aload 0, .iload 3, .bipush 2, .iadd, .iaload, .invokevirtual 65, .aload 2, .aload 0, .iload 3, .bipush 1, .iadd, .iaload, .aload 0, .iload 3, .bipush 2, .iadd, .iaload, .invokevirtual 179, .if_icmp .eq 44, .bipush 0, .ireturn]
def hy_B0_21 : List Instr := [.aload 1, .aload 0, .iload 3, .bipush 1, .iadd, .iaload, .aload 0, .iload 3, .bipush 2, .iadd, .iaload, .invokevirtual 67, .aload 2, .aload 0, .iload 3, .bipush 1, .iadd, .iaload, .aload 0, .iload 3, .bipush 2, .iadd, .iaload, .invokevirtual 180, .if_icmp .eq 44, .bipush 0, .ireturn]
def hy_B0_22 : List Instr := [.aload 1, .aload 0, .iload 3, .bipush 1, .iadd, .iaload, .aload 0, .iload 3, .bipush 2, .iadd, .iaload, .aload 0, .iload 3, .bipush 3, .iadd, .iaload, .invokevirtual 68, .aload 2, .aload 0, .iload 3, .bipush 1, .iadd, .iaload, .aload 0, .iload 3, .bipush 2, .iadd, .iaload, .aload 0, .iload 3, .bipush 3, .iadd, .iaload, .invokevirtual 181, .if_icmp .eq 44, .bipush 0, .ireturn]
def hy_B0_23 : List Instr := [.aload 1, .invokevirtual 74, .aload 2, .invokevirtual 184, .if_icmp .eq 44, .bipush 0, .ireturn]
def hy_B0_24 : List Instr := [.aload 1, .aload 0, .iload 3, .bipush 1, .iadd, .iaload, .invokevirtual 75, .aload 2, .aload 0, .iload 3, .bipush 1, .iadd, .iaload, .invokevirtual 185, .if_icmp .eq 44, .bipush 0, .ireturn]
def hy_B0_25 : List Instr := [.aload 1, .aload 0, .iload 3, .bipush 1, .iadd, .iaload, .aload 0, .iload 3, .bipush 2, .iadd, .iaload, .aload 0, .iload 3, .bipush 3, .iadd, .iaload, .invokevirtual 76, .aload 2, .aload 0, .iload 3, .bipush 1, .iadd, .iaload, .aload 0, .iload 3, .bipush 2, .iadd, .iaload, .aload 0, .iload 3, .bipush 3, .iadd, .iaload, .invokevirtual 186, .if_icmp .eq 44, .bipush 0, .ireturn]
def hy_B0_26 : List Instr := [.aload 1, .aload 0, .iload 3, .bipush 1, .iadd, .iaload, .invokevirtual 78, .aload 2, .aload 0, .iload 3, .bipush 1, .iadd, .iaload, .invokevirtual 187, .if_icmp .eq 44, .bipush 0, .ireturn]
def hy_B0_27 : List Instr := [.aload 1, .invokevirtual 79, .aload 2, .invokevirtual 188, .if_icmp .eq 44, .bipush 0, .ireturn]
def hy_B0_28 : List Instr := [.aload 1, .aload 0, .iload 3, .bipush 1, .iadd, .iaload, .aload 0, .iload 3, .bipush 2, .iadd, .iaload, .invokevirtual 102, .aload 2, .aload 0, .iload 3, .bipush 1, .iadd, .iaload, .aload 0, .iload 3, .bipush 2, .iadd, .iaload, .invokevirtual 200, .if_icmp .eq 44, .bipush 0, .ireturn]
def hy_B0_29 : List Instr := [.aload 1, .aload 0, .iload 3, .bipush 1, .iadd, .iaload, .invokevirtual 103, .aload 2, .aload 0, .iload 3, .bipush 1, .iadd, .iaload, .invokevirtual 201, .if_icmp .eq 44, .bipush 0, .ireturn]
def hy_B0_30 : List Instr := [.aload 1, .aload 0, .iload 3, .bipush 1, .iadd, .iaload, .aload 0, .iload 3, .bipush 2, .iadd, .iaload, .aload 0, .iload 3, .bipush 3, .iadd, .iaload, .invokevirtual 104, .aload 2, .aload 0, .iload 3, .bipush 1, .iadd, .iaload, .aload 0, .iload 3, .bipush 2, .iadd, .iaload, .aload 0, .iload 3, .bipush 3, .iadd, .iaload, .invokevirtual 202, .if_icmp .eq 44, .bipush 0, .ireturn]
def hy_B0_31 : List Instr := [.aload 1, .aload 0, .iload 3, .bipush 1, .iadd, .iaload, .aload 0, .iload 3, .bipush 2, .iadd, .iaload, .aload 0, .iload 3, .bipush 3, .iadd, .iaload, .invokevirtual 106, .aload 2, .aload 0, .iload 3, .bipush 1, .iadd, .iaload, .aload 0, .iload 3, .bipush 2, .iadd, .iaload, .aload 0, .iload 3, .bipush 3, .iadd, .iaload, .invokevirtual 203, .if_icmp .eq 44, .bipush 0, .ireturn]
def hy_B0_32 : List Instr := [.aload 1, .aload 0, .iload 3, .bipush 1, .iadd, .iaload, .invokevirtual 107, .aload 2, .aload 0, .iload 3, .bipush 1, .iadd, .iaload, .invokevirtual 204, .if_icmp .eq 44, .bipush 0, .ireturn]
def hy_B0_33 : List Instr := [.aload 1, .aload 0, .iload 3, .bipush 1, .iadd, .iaload, .invokevirtual 108, .aload 2, .aload 0, .iload 3, .bipush 1, .iadd, .iaload, .invokevirtual 205, .if_icmp .eq 44, .bipush 0, .ireturn]
def hy_B0_34 : List Instr := [.aload 1, .aload 0, .iload 3, .bipush 1, .iadd, .iaload, .aload 0, .iload 3, .bipush 2, .iadd, .iaload, .aload 0, .iload 3, .bipush 3, .iadd, .iaload, .aload 0, .iload 3, .bipush 4, .iadd, .iaload, .aload 0, .iload 3, .bipush 5, .iadd, .iaload, .invokevirtual 109, .aload 2, .aload 0, .iload 3, .bipush 1, .iadd, .iaload, .aload 0, .iload 3, .bipush 2, .iadd, .iaload, .aload 0, .iload 3, .bipush 3, .iadd, .iaload, .aload 0, .iload 3, .bipush 4, .iadd, .iaload, .aload 0, .iload 3, .bipush 5, .iadd, .iaload, .invokevirtual 206, .if_icmp .eq 44, .bipush 0, .ireturn]
def hy_B0_35 : List Instr := [.aload 1, .aload 0, .iload 3, .bipush 1, .iadd, .iaload, .aload 0, .iload 3, .bipush 2, .iadd, .iaload, .aload 0, .iload 3, .bipush 3, .iadd, .iaload, .invokevirtual 111, .aload 2, .aload 0, .iload 3, .bipush 1, .iadd, .iaload, .aload 0, .iload 3, .bipush 2, .iadd, .iaload, .aload 0, .iload 3, .bipush 3, .iadd, .iaload, .invokevirtual 207, .if_icmp .eq 44, .bipush 0, .ireturn]
def hy_B0_36 : List Instr := [.aload 1, .aload 0, .iload 3, .bipush 1, .iadd, .iaload, .aload 0, .iload 3, .bipush 2, .iadd, .iaload, .invokevirtual 114, .aload 2, .aload 0, .iload 3, .bipush 1, .iadd, .iaload, .aload 0, .iload 3, .bipush 2, .iadd, .iaload, .invokevirtual 209, .if_icmp .eq 44, .bipush 0, .ireturn]
def hy_B0_37 : List Instr := [.aload 1, .aload 0, .iload 3, .bipush 1, .iadd, .iaload, .aload 0, .iload 3, .bipush 2, .iadd, .iaload, .invokevirtual 116, .aload 2, .aload 0, .iload 3, .bipush 1, .iadd, .iaload, .aload 0, .iload 3, .bipush 2, .iadd, .iaload, .invokevirtual 210, .if_icmp .eq 44, .bipush 0, .ireturn]
def hy_B0_38 : List Instr := [.aload 1, .aload 0, .iload 3, .bipush 1, .iadd, .iaload, .aload 0, .iload 3, .bipush 2, .iadd, .iaload, .invokevirtual 117, .aload 2, .aload 0, .iload 3, .bipush 1, .iadd, .iaload, .aload 0, .iload 3, .bipush 2, .iadd, .iaload, .invokevirtual 211, .if_icmp .eq 44, .bipush 0, .ireturn]
def hy_B0_39 : List Instr := [.aload 1, .aload 0, .iload 3, .bipush 1, .iadd, .iaload, .invokevirtual 118, .aload 2, .aload 0, .iload 3, .bipush 1, .iadd, .iaload, .invokevirtual 212, .if_icmp .eq 44, .bipush 0, .ireturn]
def hy_B0_40 : List Instr := [.aload 1, .aload 0, .iload 3, .bipush 1, .iadd, .iaload, .invokevirtual 119, .aload 2, .aload 0, .iload 3, .bipush 1, .iadd, .iaload, .invokevirtual 213, .if_icmp .eq 44, .bipush 0, .ireturn]
def hy_B0_41 : List Instr := [.aload 1, .invokevirtual 121, .aload 2, .invokevirtual 215, .if_icmp .eq 44, .bipush 0, .ireturn]
def hy_B0_42 : List Instr := [.aload 1, .invokevirtual 122, .aload 2, .invokevirtual 216, .if_icmp .eq 44, .bipush 0, .ireturn]
def hy_B0_43 : List Instr := [.aload 1, .aload 0, .iload 3, .bipush 1, .iadd, .iaload, .invokevirtual 123, .aload 2, .aload 0, .iload 3, .bipush 1, .iadd, .iaload, .invokevirtual 217, .if_icmp .eq 44, .bipush 0, .ireturn]
def hy_B0_44 : List Instr := [.iinc 3 6, .goto 1]
def hy_B0_45 : List Instr := [.bipush 1, .ireturn]
def hy_K0 : List (Nat × List Instr) := [(0, hy_B0_0), (18, hy_B0_1), (216, hy_B0_2), (269, hy_B0_3), (302, hy_B0_4), (325, hy_B0_5), (358, hy_B0_6), (391, hy_B0_7), (424, hy_B0_8), (467, hy_B0_9), (500, hy_B0_10), (523, hy_B0_11), (546, hy_B0_12), (579, hy_B0_13), (602, hy_B0_14), (645, hy_B0_15), (668, hy_B0_16), (691, hy_B0_17), (714, hy_B0_18), (747, hy_B0_19), (760, hy_B0_20), (793, hy_B0_21), (826, hy_B0_22), (869, hy_B0_23), (882, hy_B0_24), (905, hy_B0_25), (948, hy_B0_26), (971, hy_B0_27), (984, hy_B0_28), (1017, hy_B0_29), (1040, hy_B0_30), (1083, hy_B0_31), (1126, hy_B0_32), (1149, hy_B0_33), (1172, hy_B0_34), (1235, hy_B0_35), (1278, hy_B0_36), (1311, hy_B0_37), (1344, hy_B0_38), (1377, hy_B0_39), (1400, hy_B0_40), (1423, hy_B0_41), (1436, hy_B0_42), (1449, hy_B0_43), (1472, hy_B0_44), (1478, hy_B0_45)]
def hy_B1_0 : List Instr := [.iload 1, .invokestatic 2, .ifCond .eq 1, .iload 2, .invokestatic 4, .ifCond .eq 1, .iload 3, .invokestatic 5, .ifCond .eq 1, .iload 4, .invokestatic 6, .ifCond .ne 2, .goto_w 1]
def hy_B1_1 : List Instr := [.bipush (-1000000001), .ireturn]
def hy_B1_2 : List Instr := [.aload 0, .getfield 66, .getfield 450, .iload 3, .iaload, .bipush (-1000000005), .if_icmp .eq 3, .bipush (-1000000002), .ireturn]
def hy_B1_3 : List Instr := [.aload 0, .getfield 66, .getfield 455, .bipush 12, .if_icmp .lt 4, .bipush (-1000000003), .ireturn]
def hy_B1_4 : List Instr := [.aload 0, .getfield 66, .iload 1, .iload 2, .iload 3, .iload 4, .invokevirtual 7, .ireturn]
def hy_K1 : List (Nat × List Instr) := [(0, hy_B1_0), (29, hy_B1_1), (32, hy_B1_2), (49, hy_B1_3), (64, hy_B1_4)]
def hy_B2_0 : List Instr := [.iload 0, .bipush 0, .bipush 5, .invokestatic 3, .ireturn]
def hy_K2 : List (Nat × List Instr) := [(0, hy_B2_0)]
def hy_B3_0 : List Instr := [.iload 0, .iload 1, .if_icmp .lt 1, .iload 0, .iload 2, .if_icmp .gt 1, .bipush 1, .goto 2]
def hy_B3_1 : List Instr := [.bipush 0, .goto_w 2]
def hy_B3_2 : List Instr := [.ireturn]
def hy_K3 : List (Nat × List Instr) := [(0, hy_B3_0), (14, hy_B3_1), (15, hy_B3_2)]
def hy_B4_0 : List Instr := [.iload 0, .bipush 0, .bipush 1, .invokestatic 3, .ireturn]
def hy_K4 : List (Nat × List Instr) := [(0, hy_B4_0)]
def hy_B5_0 : List Instr := [.iload 0, .ifCond .lt 1, .iload 0, .bipush 36, .if_icmp .ge 1, .bipush 1, .goto 2]
def hy_B5_1 : List Instr := [.bipush 0, .goto_w 2]
def hy_B5_2 : List Instr := [.ireturn]
def hy_K5 : List (Nat × List Instr) := [(0, hy_B5_0), (14, hy_B5_1), (15, hy_B5_2)]
def hy_B6_0 : List Instr := [.iload 0, .bipush 1, .bipush 99, .invokestatic 3, .ireturn]
def hy_K6 : List (Nat × List Instr) := [(0, hy_B6_0)]
def hy_B7_0 : List Instr := [.aload 0, .getfield 455, .istore 5, .aload 0, .getfield 449, .iload 5, .aaload, .astore 6, .aload 6, .iload 1, .putfield 512, .aload 6, .iload 2, .putfield 513, .aload 6, .iload 4, .putfield 515, .aload 6, .bipush 0, .putfield 516, .aload 6, .bipush 0, .putfield 517, .aload 6, .bipush 36, .putfield 514, .aload 0, .iload 5, .iload 3, .invokevirtual 8, .aload 0, .dup, .getfield 455, .bipush 1, .iadd, .putfield 455, .iload 5, .ireturn]
def hy_K7 : List (Nat × List Instr) := [(0, hy_B7_0)]
def hy_B8_0 : List Instr := [.aload 0, .iload 1, .invokevirtual 9, .ifCond .eq 1, .aload 0, .getfield 450, .aload 0, .getfield 449, .iload 1, .aaload, .getfield 514, .bipush (-1000000005), .iastore, .goto_w 1]
def hy_B8_1 : List Instr := [.aload 0, .getfield 449, .iload 1, .aaload, .iload 2, .putfield 514, .iload 2, .invokestatic 5, .ifCond .eq 2, .aload 0, .getfield 450, .iload 2, .iload 1, .iastore, .goto_w 2]
def hy_B8_2 : List Instr := [.return_]
def hy_K8 : List (Nat × List Instr) := [(0, hy_B8_0), (24, hy_B8_1), (48, hy_B8_2)]
def hy_B9_0 : List Instr := [.aload 0, .getfield 449, .iload 1, .aaload, .getfield 514, .invokestatic 5, .ireturn]
def hy_K9 : List (Nat × List Instr) := [(0, hy_B9_0)]
def hy_B10_0 : List Instr := [.aload 0, .getfield 66, .iload 1, .invokevirtual 11, .ifCond .ne 1, .bipush (-1000000001), .ireturn]
def hy_B10_1 : List Instr := [.aload 0, .getfield 66, .getfield 449, .iload 1, .aaload, .astore 3, .iload 2, .tableswitch 11 0 8 #[2, 3, 4, 5, 6, 7, 8, 9, 10]]
def hy_B10_2 : List Instr := [.aload 3, .getfield 512, .ireturn]
def hy_B10_3 : List Instr := [.aload 3, .getfield 513, .ireturn]
def hy_B10_4 : List Instr := [.aload 3, .getfield 514, .ireturn]
def hy_B10_5 : List Instr := [.aload 3, .getfield 515, .ireturn]
def hy_B10_6 : List Instr := [.aload 3, .getfield 516, .ireturn]
def hy_B10_7 : List Instr := [.aload 3, .getfield 517, .ireturn]
def hy_B10_8 : List Instr := [.aload 0, .getfield 66, .aload 3, .getfield 512, .aload 3, .getfield 515, .aload 3, .getfield 514, .aload 3, .getfield 516, .invokevirtual 12, .ireturn]
def hy_B10_9 : List Instr := [.aload 3, .invokevirtual 17, .ireturn]
def hy_B10_10 : List Instr := [.aload 3, .invokevirtual 18, .ireturn]
def hy_B10_11 : List Instr := [.bipush (-1000000001), .ireturn]
def hy_K10 : List (Nat × List Instr) := [(0, hy_B10_0), (14, hy_B10_1), (76, hy_B10_2), (81, hy_B10_3), (86, hy_B10_4), (91, hy_B10_5), (96, hy_B10_6), (101, hy_B10_7), (106, hy_B10_8), (130, hy_B10_9), (135, hy_B10_10), (140, hy_B10_11)]
def hy_B11_0 : List Instr := [.iload 1, .bipush 0, .aload 0, .getfield 455, .bipush 1, .isub, .invokestatic 3, .ireturn]
def hy_K11 : List (Nat × List Instr) := [(0, hy_B11_0)]
def hy_B12_0 : List Instr := [.aload 0, .getfield 451, .bipush 0, .iaload, .istore 5, .iload 5, .invokestatic 13, .ifCond .eq 1, .aload 0, .getfield 448, .iload 5, .aaload, .iload 2, .iload 3, .iload 4, .invokevirtual 14, .bipush 0, .bipush 999, .invokestatic 16, .goto 2]
def hy_B12_1 : List Instr := [.iload 2, .goto_w 2]
def hy_B12_2 : List Instr := [.istore 6, .bipush 2, .iload 6, .imul, .bipush 999, .invokedynamic 1, .istore 7, .iload 1, .tableswitch 8 1 5 #[3, 5, 4, 6, 7]]
def hy_B12_3 : List Instr := [.iload 6, .bipush 9, .iadd, .ireturn]
def hy_B12_4 : List Instr := [.iload 6, .bipush 9, .iadd, .bipush 20, .iadd, .bipush 2, .idiv, .ireturn]
def hy_B12_5 : List Instr := [.iload 7, .ireturn]
def hy_B12_6 : List Instr := [.iload 7, .bipush 5, .isub, .bipush 0, .invokedynamic 0, .ireturn]
def hy_B12_7 : List Instr := [.bipush 1, .ireturn]
def hy_B12_8 : List Instr := [.iload 6, .ireturn]
def hy_K12 : List (Nat × List Instr) := [(0, hy_B12_0), (40, hy_B12_1), (41, hy_B12_2), (92, hy_B12_3), (98, hy_B12_4), (109, hy_B12_5), (112, hy_B12_6), (121, hy_B12_7), (123, hy_B12_8)]
def hy_B13_0 : List Instr := [.iload 0, .bipush 0, .bipush 13, .invokestatic 3, .ireturn]
def hy_K13 : List (Nat × List Instr) := [(0, hy_B13_0)]
def hy_B14_0 : List Instr := [.bipush 0, .istore 4, .bipush 0, .istore 5, .goto_w 1]
def hy_B14_1 : List Instr := [.iload 5, .aload 0, .getfield 194, .if_icmp .ge 11, .aload 0, .getfield 192, .iload 5, .iaload, .istore 6, .iload 6, .bipush (-3), .if_icmp .lt 6, .aload 0, .getfield 193, .iload 4, .iload 6, .ifCond .lt 2, .iload 6, .goto 5]
def hy_B14_2 : List Instr := [.iload 6, .bipush (-1), .if_icmp .ne 3, .iload 1, .goto 5]
def hy_B14_3 : List Instr := [.iload 6, .bipush (-2), .if_icmp .ne 4, .iload 2, .goto 5]
def hy_B14_4 : List Instr := [.iload 3, .goto_w 5]
def hy_B14_5 : List Instr := [.iastore, .iinc 4 1, .goto 10]
def hy_B14_6 : List Instr := [.iload 6, .bipush (-33), .if_icmp .ne 9, .iload 4, .ifCond .le 10, .aload 0, .getfield 193, .iload 4, .bipush 1, .isub, .aload 0, .getfield 193, .iload 4, .bipush 1, .isub, .iaload, .ifCond .ne 7, .bipush 1, .goto 8]
def hy_B14_7 : List Instr := [.bipush 0, .goto_w 8]
def hy_B14_8 : List Instr := [.iastore, .goto 10]
def hy_B14_9 : List Instr := [.iload 4, .bipush 1, .if_icmp .le 10, .iinc 4 (-1), .aload 0, .getfield 193, .iload 4, .bipush 1, .isub, .iload 6, .ineg, .aload 0, .getfield 193, .iload 4, .bipush 1, .isub, .iaload, .aload 0, .getfield 193, .iload 4, .iaload, .invokestatic 15, .iastore, .goto_w 10]
def hy_B14_10 : List Instr := [.iinc 5 1, .goto 1]
def hy_B14_11 : List Instr := [.aload 0, .getfield 193, .bipush 0, .iaload, .ireturn]
def hy_K14 : List (Nat × List Instr) := [(0, hy_B14_0), (6, hy_B14_1), (47, hy_B14_2), (57, hy_B14_3), (68, hy_B14_4), (69, hy_B14_5), (76, hy_B14_6), (112, hy_B14_7), (113, hy_B14_8), (117, hy_B14_9), (157, hy_B14_10), (163, hy_B14_11)]
def hy_B15_0 : List Instr := [.iload 0, .lookupswitch 20 #[(38, 5), (42, 19), (43, 17), (45, 18), (60, 8), (61, 11), (62, 14), (124, 1)]]
def hy_B15_1 : List Instr := [.iload 1, .ifCond .ne 2, .iload 2, .ifCond .eq 3, .goto_w 2]
def hy_B15_2 : List Instr := [.bipush 1, .goto 4]
def hy_B15_3 : List Instr := [.bipush 0, .goto_w 4]
def hy_B15_4 : List Instr := [.ireturn]
def hy_B15_5 : List Instr := [.iload 1, .ifCond .eq 6, .iload 2, .ifCond .eq 6, .bipush 1, .goto 7]
def hy_B15_6 : List Instr := [.bipush 0, .goto_w 7]
def hy_B15_7 : List Instr := [.ireturn]
def hy_B15_8 : List Instr := [.iload 1, .iload 2, .if_icmp .ge 9, .bipush 1, .goto 10]
def hy_B15_9 : List Instr := [.bipush 0, .goto_w 10]
def hy_B15_10 : List Instr := [.ireturn]
def hy_B15_11 : List Instr := [.iload 1, .iload 2, .if_icmp .ne 12, .bipush 1, .goto 13]
def hy_B15_12 : List Instr := [.bipush 0, .goto_w 13]
def hy_B15_13 : List Instr := [.ireturn]
def hy_B15_14 : List Instr := [.iload 1, .iload 2, .if_icmp .le 15, .bipush 1, .goto 16]
def hy_B15_15 : List Instr := [.bipush 0, .goto_w 16]
def hy_B15_16 : List Instr := [.ireturn]
def hy_B15_17 : List Instr := [.iload 1, .iload 2, .iadd, .ireturn]
def hy_B15_18 : List Instr := [.iload 1, .iload 2, .isub, .ireturn]
def hy_B15_19 : List Instr := [.iload 1, .iload 2, .imul, .ireturn]
def hy_B15_20 : List Instr := [.iload 2, .ifCond .ne 21, .bipush 0, .goto 22]
def hy_B15_21 : List Instr := [.iload 1, .iload 2, .idiv, .goto_w 22]
def hy_B15_22 : List Instr := [.ireturn]
def hy_K15 : List (Nat × List Instr) := [(0, hy_B15_0), (76, hy_B15_1), (84, hy_B15_2), (88, hy_B15_3), (89, hy_B15_4), (90, hy_B15_5), (102, hy_B15_6), (103, hy_B15_7), (104, hy_B15_8), (113, hy_B15_9), (114, hy_B15_10), (115, hy_B15_11), (124, hy_B15_12), (125, hy_B15_13), (126, hy_B15_14), (135, hy_B15_15), (136, hy_B15_16), (137, hy_B15_17), (141, hy_B15_18), (145, hy_B15_19), (149, hy_B15_20), (157, hy_B15_21), (160, hy_B15_22)]
def hy_B16_0 : List Instr := [.iload 1, .iload 0, .iload 2, .invokedynamic 1, .invokedynamic 0, .ireturn]
def hy_K16 : List (Nat × List Instr) := [(0, hy_B16_0)]
def hy_B17_0 : List Instr := [.aload 0, .getfield 512, .tableswitch 4 2 5 #[1, 4, 2, 3]]
def hy_B17_1 : List Instr := [.bipush 3, .ireturn]
def hy_B17_2 : List Instr := [.bipush 4, .ireturn]
def hy_B17_3 : List Instr := [.bipush 0, .ireturn]
def hy_B17_4 : List Instr := [.bipush 5, .ireturn]
def hy_K17 : List (Nat × List Instr) := [(0, hy_B17_0), (36, hy_B17_1), (38, hy_B17_2), (40, hy_B17_3), (42, hy_B17_4)]
def hy_B18_0 : List Instr := [.aload 0, .getfield 512, .tableswitch 6 1 5 #[1, 3, 2, 4, 5]]
def hy_B18_1 : List Instr := [.aload 0, .getfield 515, .bipush 4, .iadd, .ireturn]
def hy_B18_2 : List Instr := [.bipush 2, .aload 0, .getfield 515, .bipush 4, .iadd, .imul, .ireturn]
def hy_B18_3 : List Instr := [.bipush 99, .aload 0, .getfield 515, .isub, .ireturn]
def hy_B18_4 : List Instr := [.bipush 99, .aload 0, .getfield 515, .isub, .bipush 7, .isub, .ireturn]
def hy_B18_5 : List Instr := [.bipush 2, .ireturn]
def hy_B18_6 : List Instr := [.aload 0, .getfield 515, .ireturn]
def hy_K18 : List (Nat × List Instr) := [(0, hy_B18_0), (40, hy_B18_1), (47, hy_B18_2), (56, hy_B18_3), (64, hy_B18_4), (75, hy_B18_5), (77, hy_B18_6)]
def hy_B19_0 : List Instr := [.iload 1, .invokestatic 5, .ifCond .eq 1, .aload 0, .getfield 66, .getfield 450, .iload 1, .iaload, .goto 2]
def hy_B19_1 : List Instr := [.bipush (-1000000001), .goto_w 2]
def hy_B19_2 : List Instr := [.ireturn]
def hy_K19 : List (Nat × List Instr) := [(0, hy_B19_0), (19, hy_B19_1), (21, hy_B19_2)]
def hy_B20_0 : List Instr := [.aload 0, .getfield 66, .iload 1, .invokevirtual 11, .ifCond .eq 1, .iload 2, .invokestatic 5, .ifCond .ne 2, .goto_w 1]
def hy_B20_1 : List Instr := [.bipush (-1000000001), .ireturn]
def hy_B20_2 : List Instr := [.aload 0, .getfield 66, .iload 1, .iload 2, .invokevirtual 21, .ifCond .eq 3, .bipush 1, .goto 4]
def hy_B20_3 : List Instr := [.bipush 0, .goto_w 4]
def hy_B20_4 : List Instr := [.ireturn]
def hy_K20 : List (Nat × List Instr) := [(0, hy_B20_0), (18, hy_B20_1), (21, hy_B20_2), (37, hy_B20_3), (38, hy_B20_4)]
def hy_B21_0 : List Instr := [.aload 0, .getfield 449, .iload 1, .aaload, .astore 3, .aload 3, .getfield 514, .istore 4, .iload 4, .invokestatic 5, .ifCond .eq 1, .iload 4, .iload 2, .if_icmp .ne 2, .goto_w 1]
def hy_B21_1 : List Instr := [.bipush 0, .ireturn]
def hy_B21_2 : List Instr := [.aload 0, .getfield 450, .iload 2, .iaload, .bipush (-1000000005), .if_icmp .eq 3, .aload 0, .getfield 449, .aload 0, .getfield 450, .iload 2, .iaload, .aaload, .getfield 513, .aload 3, .getfield 513, .if_icmp .ne 3, .bipush 0, .ireturn]
def hy_B21_3 : List Instr := [.iload 2, .bipush 6, .idiv, .iload 4, .bipush 6, .idiv, .isub, .invokedynamic 2, .istore 5, .iload 2, .bipush 6, .irem, .iload 4, .bipush 6, .irem, .isub, .invokedynamic 2, .istore 6, .iload 5, .ifCond .eq 4, .iload 6, .ifCond .ne 5, .goto_w 4]
def hy_B21_4 : List Instr := [.bipush 1, .goto 6]
def hy_B21_5 : List Instr := [.bipush 0, .goto_w 6]
def hy_B21_6 : List Instr := [.istore 7, .aload 3, .getfield 512, .tableswitch 20 1 5 #[7, 13, 10, 16, 19]]
def hy_B21_7 : List Instr := [.iload 7, .ifCond .eq 8, .aload 0, .iload 4, .iload 2, .iload 5, .iload 6, .iadd, .invokevirtual 22, .ifCond .eq 8, .bipush 1, .goto 9]
def hy_B21_8 : List Instr := [.bipush 0, .goto_w 9]
def hy_B21_9 : List Instr := [.ireturn]
def hy_B21_10 : List Instr := [.iload 7, .ifCond .eq 11, .iload 5, .iload 6, .iadd, .bipush 3, .if_icmp .gt 11, .aload 0, .iload 4, .iload 2, .iload 5, .iload 6, .iadd, .invokevirtual 22, .ifCond .eq 11, .bipush 1, .goto 12]
def hy_B21_11 : List Instr := [.bipush 0, .goto_w 12]
def hy_B21_12 : List Instr := [.ireturn]
def hy_B21_13 : List Instr := [.iload 5, .bipush 1, .if_icmp .ne 14, .iload 6, .bipush 1, .if_icmp .ne 14, .bipush 1, .goto 15]
def hy_B21_14 : List Instr := [.bipush 0, .goto_w 15]
def hy_B21_15 : List Instr := [.ireturn]
def hy_B21_16 : List Instr := [.iload 5, .bipush 1, .if_icmp .gt 17, .iload 6, .bipush 1, .if_icmp .gt 17, .bipush 1, .goto 18]
def hy_B21_17 : List Instr := [.bipush 0, .goto_w 18]
def hy_B21_18 : List Instr := [.ireturn]
def hy_B21_19 : List Instr := [.bipush 0, .ireturn]
def hy_B21_20 : List Instr := [.iload 5, .iload 6, .iadd, .bipush 1, .if_icmp .ne 21, .bipush 1, .goto 22]
def hy_B21_21 : List Instr := [.bipush 0, .goto_w 22]
def hy_B21_22 : List Instr := [.ireturn]
def hy_K21 : List (Nat × List Instr) := [(0, hy_B21_0), (27, hy_B21_1), (29, hy_B21_2), (63, hy_B21_3), (103, hy_B21_4), (107, hy_B21_5), (108, hy_B21_6), (148, hy_B21_7), (172, hy_B21_8), (173, hy_B21_9), (174, hy_B21_10), (207, hy_B21_11), (208, hy_B21_12), (209, hy_B21_13), (225, hy_B21_14), (226, hy_B21_15), (227, hy_B21_16), (243, hy_B21_17), (244, hy_B21_18), (245, hy_B21_19), (247, hy_B21_20), (260, hy_B21_21), (261, hy_B21_22)]
def hy_B22_0 : List Instr := [.iload 3, .ifCond .ne 1, .bipush 0, .goto 2]
def hy_B22_1 : List Instr := [.iload 2, .iload 1, .isub, .iload 3, .idiv, .goto_w 2]
def hy_B22_2 : List Instr := [.istore 4, .bipush 1, .istore 5, .goto_w 3]
def hy_B22_3 : List Instr := [.iload 5, .iload 3, .if_icmp .ge 5, .aload 0, .getfield 450, .iload 1, .iload 5, .iload 4, .imul, .iadd, .iaload, .bipush (-1000000005), .if_icmp .eq 4, .bipush 0, .ireturn]
def hy_B22_4 : List Instr := [.iinc 5 1, .goto 3]
def hy_B22_5 : List Instr := [.bipush 1, .ireturn]
def hy_K22 : List (Nat × List Instr) := [(0, hy_B22_0), (8, hy_B22_1), (13, hy_B22_2), (18, hy_B22_3), (43, hy_B22_4), (49, hy_B22_5)]
def hy_B23_0 : List Instr := [.aload 0, .getfield 66, .iload 1, .invokevirtual 11, .ifCond .eq 1, .iload 2, .invokestatic 2, .ifCond .ne 2, .goto_w 1]
def hy_B23_1 : List Instr := [.bipush (-1000000001), .ireturn]
def hy_B23_2 : List Instr := [.aload 0, .getfield 66, .getfield 449, .iload 1, .aaload, .astore 3, .aload 3, .iload 2, .invokevirtual 24, .ifCond .eq 3, .aload 3, .getfield 515, .goto 4]
def hy_B23_3 : List Instr := [.bipush (-1000000012), .goto_w 4]
def hy_B23_4 : List Instr := [.ireturn]
def hy_K23 : List (Nat × List Instr) := [(0, hy_B23_0), (18, hy_B23_1), (21, hy_B23_2), (46, hy_B23_3), (48, hy_B23_4)]
def hy_B24_0 : List Instr := [.iload 1, .ifCond .eq 2, .iload 1, .aload 0, .getfield 512, .if_icmp .eq 2, .iload 1, .bipush 1, .if_icmp .ne 1, .aload 0, .getfield 512, .bipush 3, .if_icmp .eq 2, .goto_w 1]
def hy_B24_1 : List Instr := [.iload 1, .bipush 2, .if_icmp .ne 3, .aload 0, .getfield 512, .bipush 4, .if_icmp .ne 3, .goto_w 2]
def hy_B24_2 : List Instr := [.bipush 1, .goto 4]
def hy_B24_3 : List Instr := [.bipush 0, .goto_w 4]
def hy_B24_4 : List Instr := [.ireturn]
def hy_K24 : List (Nat × List Instr) := [(0, hy_B24_0), (25, hy_B24_1), (38, hy_B24_2), (42, hy_B24_3), (43, hy_B24_4)]
def hy_B25_0 : List Instr := [.aload 0, .getfield 66, .iload 1, .invokevirtual 11, .ifCond .eq 1, .iload 2, .invokestatic 2, .ifCond .ne 2, .goto_w 1]
def hy_B25_1 : List Instr := [.bipush (-1000000001), .ireturn]
def hy_B25_2 : List Instr := [.aload 0, .getfield 66, .getfield 449, .iload 1, .aaload, .getfield 512, .istore 3, .aload 0, .getfield 66, .getfield 449, .iload 1, .aaload, .iload 2, .putfield 512, .iload 3, .ireturn]
def hy_K25 : List (Nat × List Instr) := [(0, hy_B25_0), (18, hy_B25_1), (21, hy_B25_2)]
def hy_B26_0 : List Instr := [.aload 0, .getfield 66, .iload 1, .invokevirtual 11, .ifCond .ne 1, .bipush (-1000000001), .ireturn]
def hy_B26_1 : List Instr := [.iload 2, .tableswitch 5 1 3 #[2, 3, 4]]
def hy_B26_2 : List Instr := [.aload 0, .getfield 66, .getfield 449, .iload 1, .aaload, .iload 3, .invokestatic 27, .ireturn]
def hy_B26_3 : List Instr := [.aload 0, .iload 1, .iload 3, .invokevirtual 28, .ireturn]
def hy_B26_4 : List Instr := [.aload 0, .getfield 66, .getfield 449, .iload 1, .aaload, .iload 3, .invokestatic 29, .ireturn]
def hy_B26_5 : List Instr := [.bipush (-1000000001), .ireturn]
def hy_K26 : List (Nat × List Instr) := [(0, hy_B26_0), (14, hy_B26_1), (40, hy_B26_2), (54, hy_B26_3), (61, hy_B26_4), (75, hy_B26_5)]
def hy_B27_0 : List Instr := [.iload 1, .invokestatic 4, .ifCond .ne 1, .bipush (-1000000001), .ireturn]
def hy_B27_1 : List Instr := [.aload 0, .getfield 513, .istore 2, .aload 0, .iload 1, .putfield 513, .iload 2, .ireturn]
def hy_K27 : List (Nat × List Instr) := [(0, hy_B27_0), (10, hy_B27_1)]
def hy_B28_0 : List Instr := [.iload 2, .invokestatic 5, .ifCond .ne 1, .iload 2, .bipush 36, .if_icmp .eq 1, .bipush (-1000000001), .ireturn]
def hy_B28_1 : List Instr := [.iload 2, .invokestatic 5, .ifCond .eq 2, .aload 0, .getfield 66, .getfield 450, .iload 2, .iaload, .bipush (-1000000005), .if_icmp .eq 2, .aload 0, .getfield 66, .getfield 450, .iload 2, .iaload, .iload 1, .if_icmp .eq 2, .bipush (-1000000002), .ireturn]
def hy_B28_2 : List Instr := [.aload 0, .getfield 66, .getfield 449, .iload 1, .aaload, .getfield 514, .istore 3, .aload 0, .getfield 66, .iload 1, .iload 2, .invokevirtual 8, .iload 3, .ireturn]
def hy_K28 : List (Nat × List Instr) := [(0, hy_B28_0), (16, hy_B28_1), (53, hy_B28_2)]
def hy_B29_0 : List Instr := [.iload 1, .invokestatic 6, .ifCond .ne 1, .bipush (-1000000001), .ireturn]
def hy_B29_1 : List Instr := [.aload 0, .getfield 515, .istore 2, .aload 0, .iload 1, .putfield 515, .iload 2, .ireturn]
def hy_K29 : List (Nat × List Instr) := [(0, hy_B29_0), (10, hy_B29_1)]
def hy_B30_0 : List Instr := [.iload 2, .bipush 0, .iload 1, .ifCond .ne 1, .bipush 1, .goto 2]
def hy_B30_1 : List Instr := [.bipush 100, .goto_w 2]
def hy_B30_2 : List Instr := [.invokestatic 3, .ifCond .ne 3, .bipush (-1000000001), .ireturn]
def hy_B30_3 : List Instr := [.iload 1, .tableswitch 7 0 2 #[4, 5, 6]]
def hy_B30_4 : List Instr := [.aload 0, .getfield 66, .getfield 456, .istore 3, .aload 0, .getfield 66, .iload 2, .putfield 456, .iload 3, .ireturn]
def hy_B30_5 : List Instr := [.aload 0, .getfield 66, .getfield 457, .istore 3, .aload 0, .getfield 66, .iload 2, .putfield 457, .iload 3, .ireturn]
def hy_B30_6 : List Instr := [.aload 0, .getfield 66, .getfield 458, .istore 3, .aload 0, .getfield 66, .iload 2, .putfield 458, .iload 3, .ireturn]
def hy_B30_7 : List Instr := [.bipush (-1000000001), .ireturn]
def hy_K30 : List (Nat × List Instr) := [(0, hy_B30_0), (10, hy_B30_1), (12, hy_B30_2), (21, hy_B30_3), (48, hy_B30_4), (66, hy_B30_5), (84, hy_B30_6), (102, hy_B30_7)]
def hy_B31_0 : List Instr := [.iload 1, .bipush 1, .bipush 12, .invokestatic 3, .ifCond .ne 1, .bipush (-1000000001), .ireturn]
def hy_B31_1 : List Instr := [.iload 1, .bipush 12, .aload 0, .getfield 66, .getfield 455, .isub, .invokedynamic 1, .istore 2, .bipush 0, .istore 3, .goto_w 2]
def hy_B31_2 : List Instr := [.iload 3, .iload 2, .if_icmp .ge 3, .aload 0, .getfield 66, .invokevirtual 32, .iinc 3 1, .goto 2]
def hy_B31_3 : List Instr := [.iload 2, .ireturn]
def hy_K31 : List (Nat × List Instr) := [(0, hy_B31_0), (13, hy_B31_1), (30, hy_B31_2), (48, hy_B31_3)]
def hy_B32_0 : List Instr := [.aload 0, .invokevirtual 33, .bipush 6, .irem, .istore 1, .aload 0, .invokevirtual 33, .bipush 2, .irem, .istore 2, .aload 0, .invokevirtual 33, .bipush 36, .irem, .istore 3, .bipush 0, .istore 4, .goto_w 1]
def hy_B32_1 : List Instr := [.iload 4, .bipush 36, .if_icmp .ge 2, .aload 0, .getfield 450, .iload 3, .iaload, .bipush (-1000000005), .if_icmp .eq 2, .iload 3, .bipush 1, .iadd, .bipush 36, .irem, .istore 3, .iinc 4 1, .goto 1]
def hy_B32_2 : List Instr := [.aload 0, .iload 1, .iload 2, .iload 3, .bipush 1, .aload 0, .invokevirtual 33, .bipush 60, .irem, .iadd, .invokevirtual 7, .pop, .return_]
def hy_K32 : List (Nat × List Instr) := [(0, hy_B32_0), (26, hy_B32_1), (57, hy_B32_2)]
def hy_B33_0 : List Instr := [.aload 0, .aload 0, .getfield 460, .bipush 1103515245, .imul, .bipush 12345, .iadd, .putfield 460, .aload 0, .getfield 460, .bipush 8, .iushr, .ireturn]
def hy_K33 : List (Nat × List Instr) := [(0, hy_B33_0)]
def hy_B34_0 : List Instr := [.aload 0, .getfield 66, .getfield 460, .istore 2, .aload 0, .getfield 66, .iload 1, .putfield 460, .iload 2, .ireturn]
def hy_K34 : List (Nat × List Instr) := [(0, hy_B34_0)]
def hy_B35_0 : List Instr := [.aload 0, .getfield 66, .iload 1, .invokevirtual 11, .ifCond .eq 1, .iload 2, .invokestatic 5, .ifCond .ne 2, .goto_w 1]
def hy_B35_1 : List Instr := [.bipush (-1000000001), .ireturn]
def hy_B35_2 : List Instr := [.aload 0, .getfield 66, .getfield 449, .iload 1, .aaload, .getfield 513, .aload 0, .getfield 66, .getfield 456, .if_icmp .ne 3, .aload 0, .getfield 66, .iload 1, .iload 2, .invokevirtual 21, .ifCond .ne 4, .goto_w 3]
def hy_B35_3 : List Instr := [.bipush (-1000000002), .ireturn]
def hy_B35_4 : List Instr := [.aload 0, .getfield 66, .iload 1, .iload 2, .invokevirtual 36, .istore 3, .aload 0, .getfield 66, .invokevirtual 38, .iload 3, .ireturn]
def hy_K35 : List (Nat × List Instr) := [(0, hy_B35_0), (18, hy_B35_1), (21, hy_B35_2), (55, hy_B35_3), (58, hy_B35_4)]
def hy_B36_0 : List Instr := [.aload 0, .getfield 449, .iload 1, .aaload, .astore 3, .aload 0, .getfield 450, .iload 2, .iaload, .istore 4, .iload 4, .bipush (-1000000005), .if_icmp .eq 1, .aload 3, .aload 3, .aload 0, .getfield 449, .iload 4, .aaload, .invokevirtual 37, .putfield 515, .aload 3, .dup, .getfield 517, .bipush 1, .iadd, .putfield 517, .aload 0, .iload 4, .bipush 36, .invokevirtual 8, .goto_w 1]
def hy_B36_1 : List Instr := [.aload 0, .iload 1, .iload 2, .invokevirtual 8, .aload 3, .dup, .getfield 516, .bipush 1, .iadd, .putfield 516, .iload 4, .ireturn]
def hy_K36 : List (Nat × List Instr) := [(0, hy_B36_0), (55, hy_B36_1)]
def hy_B37_0 : List Instr := [.aload 0, .getfield 515, .aload 1, .getfield 515, .bipush 2, .idiv, .iadd, .bipush 99, .invokedynamic 1, .ireturn]
def hy_K37 : List (Nat × List Instr) := [(0, hy_B37_0)]
def hy_B38_0 : List Instr := [.aload 0, .bipush 1, .aload 0, .getfield 456, .isub, .putfield 456, .return_]
def hy_K38 : List (Nat × List Instr) := [(0, hy_B38_0)]
def hy_B39_0 : List Instr := [.iload 1, .invokestatic 4, .ifCond .eq 1, .aload 0, .getfield 66, .iload 1, .invokevirtual 40, .goto 2]
def hy_B39_1 : List Instr := [.bipush (-1000000001), .goto_w 2]
def hy_B39_2 : List Instr := [.ireturn]
def hy_K39 : List (Nat × List Instr) := [(0, hy_B39_0), (18, hy_B39_1), (20, hy_B39_2)]
def hy_B40_0 : List Instr := [.bipush 0, .istore 2, .bipush 0, .istore 3, .goto_w 1]
def hy_B40_1 : List Instr := [.iload 3, .aload 0, .getfield 455, .if_icmp .ge 5, .bipush 0, .istore 4, .goto_w 2]
def hy_B40_2 : List Instr := [.iload 4, .bipush 36, .if_icmp .ge 4, .aload 0, .iload 3, .iload 1, .invokevirtual 41, .ifCond .eq 4, .aload 0, .iload 3, .iload 4, .invokevirtual 21, .ifCond .eq 3, .aload 0, .getfield 452, .iload 2, .bipush 100, .iload 3, .imul, .iload 4, .iadd, .iastore, .iinc 2 1, .goto_w 3]
def hy_B40_3 : List Instr := [.iinc 4 1, .goto 2]
def hy_B40_4 : List Instr := [.iinc 3 1, .goto 1]
def hy_B40_5 : List Instr := [.iload 2, .ireturn]
def hy_K40 : List (Nat × List Instr) := [(0, hy_B40_0), (4, hy_B40_1), (15, hy_B40_2), (57, hy_B40_3), (63, hy_B40_4), (69, hy_B40_5)]
def hy_B41_0 : List Instr := [.aload 0, .iload 1, .invokevirtual 9, .ifCond .eq 1, .aload 0, .getfield 449, .iload 1, .aaload, .getfield 513, .iload 2, .if_icmp .ne 1, .bipush 1, .goto 2]
def hy_B41_1 : List Instr := [.bipush 0, .goto_w 2]
def hy_B41_2 : List Instr := [.ireturn]
def hy_K41 : List (Nat × List Instr) := [(0, hy_B41_0), (25, hy_B41_1), (26, hy_B41_2)]
def hy_B42_0 : List Instr := [.iload 1, .invokestatic 4, .ifCond .eq 1, .iload 2, .bipush 1, .bipush 2, .invokestatic 3, .ifCond .eq 1, .iload 3, .bipush 0, .bipush 1, .invokestatic 3, .ifCond .ne 2, .goto_w 1]
def hy_B42_1 : List Instr := [.bipush (-1000000001), .ireturn]
def hy_B42_2 : List Instr := [.iload 2, .bipush 1, .if_icmp .ne 3, .aload 0, .getfield 66, .iload 1, .invokevirtual 43, .aload 0, .getfield 66, .getfield 454, .iload 3, .invokevirtual 47, .ireturn]
def hy_B42_3 : List Instr := [.aload 0, .iload 1, .invokevirtual 48, .aload 0, .getfield 70, .iload 3, .invokevirtual 47, .ireturn]
def hy_K42 : List (Nat × List Instr) := [(0, hy_B42_0), (25, hy_B42_1), (28, hy_B42_2), (53, hy_B42_3)]
def hy_B43_0 : List Instr := [.aload 0, .getfield 454, .invokevirtual 44, .aload 0, .iload 1, .invokevirtual 45, .istore 2, .aload 0, .iload 1, .invokevirtual 40, .istore 3, .bipush 0, .istore 4, .goto_w 1]
def hy_B43_1 : List Instr := [.iload 4, .iload 3, .if_icmp .ge 5, .aload 0, .getfield 452, .iload 4, .iaload, .bipush 100, .idiv, .istore 5, .aload 0, .getfield 452, .iload 4, .iaload, .bipush 100, .irem, .istore 6, .aload 0, .getfield 449, .iload 5, .aaload, .astore 7, .aload 0, .getfield 450, .iload 6, .iaload, .istore 8, .iload 8, .bipush (-1000000005), .if_icmp .ne 2, .aload 7, .getfield 515, .goto 3]
def hy_B43_2 : List Instr := [.aload 7, .aload 0, .getfield 449, .iload 8, .aaload, .invokevirtual 37, .goto_w 3]
def hy_B43_3 : List Instr := [.istore 9, .iload 2, .aload 0, .getfield 453, .iload 5, .iaload, .isub, .aload 0, .aload 7, .getfield 512, .iload 9, .iload 6, .aload 7, .getfield 516, .bipush 1, .iadd, .invokevirtual 12, .iadd, .istore 10, .iload 8, .bipush (-1000000005), .if_icmp .eq 4, .iload 10, .aload 0, .getfield 453, .iload 8, .iaload, .iadd, .istore 10, .goto_w 4]
def hy_B43_4 : List Instr := [.aload 0, .getfield 454, .aload 0, .getfield 452, .iload 4, .iaload, .iload 10, .ineg, .iload 10, .invokevirtual 46, .iinc 4 1, .goto 1]
def hy_B43_5 : List Instr := [.return_]
def hy_K43 : List (Nat × List Instr) := [(0, hy_B43_0), (22, hy_B43_1), (85, hy_B43_2), (97, hy_B43_3), (150, hy_B43_4), (175, hy_B43_5)]
def hy_B44_0 : List Instr := [.aload 0, .bipush (-1000000005), .putfield 256, .return_]
def hy_K44 : List (Nat × List Instr) := [(0, hy_B44_0)]
def hy_B45_0 : List Instr := [.bipush 0, .istore 2, .bipush 0, .istore 3, .goto_w 1]
def hy_B45_1 : List Instr := [.iload 3, .aload 0, .getfield 455, .if_icmp .ge 5, .aload 0, .getfield 449, .iload 3, .aaload, .astore 4, .aload 0, .iload 3, .invokevirtual 9, .ifCond .eq 4, .aload 0, .getfield 453, .iload 3, .aload 0, .aload 4, .getfield 512, .aload 4, .getfield 515, .aload 4, .getfield 514, .aload 4, .getfield 516, .invokevirtual 12, .iastore, .iload 2, .aload 4, .getfield 513, .iload 1, .if_icmp .ne 2, .aload 0, .getfield 453, .iload 3, .iaload, .goto 3]
def hy_B45_2 : List Instr := [.aload 0, .getfield 453, .iload 3, .iaload, .ineg, .goto_w 3]
def hy_B45_3 : List Instr := [.iadd, .istore 2, .goto_w 4]
def hy_B45_4 : List Instr := [.iinc 3 1, .goto 1]
def hy_B45_5 : List Instr := [.iload 2, .ireturn]
def hy_K45 : List (Nat × List Instr) := [(0, hy_B45_0), (4, hy_B45_1), (77, hy_B45_2), (84, hy_B45_3), (86, hy_B45_4), (92, hy_B45_5)]
def hy_B46_0 : List Instr := [.aload 0, .getfield 256, .bipush (-1000000005), .if_icmp .eq 1, .iload 2, .aload 0, .getfield 257, .if_icmp .ge 2, .goto_w 1]
def hy_B46_1 : List Instr := [.aload 0, .iload 1, .putfield 256, .aload 0, .iload 2, .putfield 257, .aload 0, .iload 3, .putfield 258, .goto_w 2]
def hy_B46_2 : List Instr := [.return_]
def hy_K46 : List (Nat × List Instr) := [(0, hy_B46_0), (17, hy_B46_1), (32, hy_B46_2)]
def hy_B47_0 : List Instr := [.aload 0, .getfield 256, .bipush (-1000000005), .if_icmp .eq 1, .iload 1, .ifCond .ne 2, .goto_w 1]
def hy_B47_1 : List Instr := [.aload 0, .getfield 256, .goto 3]
def hy_B47_2 : List Instr := [.aload 0, .getfield 258, .goto_w 3]
def hy_B47_3 : List Instr := [.ireturn]
def hy_K47 : List (Nat × List Instr) := [(0, hy_B47_0), (13, hy_B47_1), (20, hy_B47_2), (24, hy_B47_3)]
def hy_B48_0 : List Instr := [.aload 0, .getfield 70, .invokevirtual 44, .aload 0, .getfield 66, .iload 1, .invokevirtual 40, .istore 2, .bipush 0, .istore 3, .goto_w 1]
def hy_B48_1 : List Instr := [.iload 3, .iload 2, .if_icmp .ge 2, .aload 0, .getfield 66, .getfield 452, .iload 3, .iaload, .istore 4, .aload 0, .getfield 67, .aload 0, .getfield 66, .invokevirtual 49, .aload 0, .getfield 67, .iload 4, .bipush 100, .idiv, .iload 4, .bipush 100, .irem, .invokevirtual 36, .pop, .aload 0, .getfield 67, .bipush 1, .iload 1, .isub, .invokevirtual 51, .aload 0, .getfield 67, .iload 1, .invokevirtual 45, .istore 5, .aload 0, .getfield 70, .iload 4, .iload 5, .ineg, .iload 5, .invokevirtual 46, .iinc 3 1, .goto 1]
def hy_B48_2 : List Instr := [.return_]
def hy_K48 : List (Nat × List Instr) := [(0, hy_B48_0), (18, hy_B48_1), (103, hy_B48_2)]
def hy_B49_0 : List Instr := [.bipush 0, .istore 2, .goto_w 1]
def hy_B49_1 : List Instr := [.iload 2, .aload 1, .getfield 455, .if_icmp .ge 2, .aload 0, .getfield 449, .iload 2, .aaload, .aload 1, .getfield 449, .iload 2, .aaload, .invokevirtual 50, .iinc 2 1, .goto 1]
def hy_B49_2 : List Instr := [.aload 1, .getfield 450, .bipush 0, .aload 0, .getfield 450, .bipush 0, .bipush 36, .invokedynamic 3, .aload 1, .getfield 451, .bipush 0, .aload 0, .getfield 451, .bipush 0, .bipush 3, .invokedynamic 3, .aload 0, .aload 1, .getfield 455, .putfield 455, .aload 0, .aload 1, .getfield 456, .putfield 456, .aload 0, .aload 1, .getfield 457, .putfield 457, .aload 0, .aload 1, .getfield 458, .putfield 458, .aload 0, .aload 1, .getfield 459, .putfield 459, .aload 0, .aload 1, .getfield 460, .putfield 460, .aload 0, .aload 1, .getfield 461, .putfield 461, .return_]
def hy_K49 : List (Nat × List Instr) := [(0, hy_B49_0), (2, hy_B49_1), (31, hy_B49_2)]
def hy_B50_0 : List Instr := [.aload 0, .aload 1, .getfield 512, .putfield 512, .aload 0, .aload 1, .getfield 513, .putfield 513, .aload 0, .aload 1, .getfield 514, .putfield 514, .aload 0, .aload 1, .getfield 515, .putfield 515, .aload 0, .aload 1, .getfield 516, .putfield 516, .aload 0, .aload 1, .getfield 517, .putfield 517, .return_]
def hy_K50 : List (Nat × List Instr) := [(0, hy_B50_0)]
def hy_B51_0 : List Instr := [.aload 0, .iload 1, .invokevirtual 43, .aload 0, .getfield 454, .getfield 256, .bipush (-1000000005), .if_icmp .eq 1, .aload 0, .aload 0, .getfield 454, .getfield 256, .bipush 100, .idiv, .aload 0, .getfield 454, .getfield 256, .bipush 100, .irem, .invokevirtual 36, .pop, .goto_w 1]
def hy_B51_1 : List Instr := [.return_]
def hy_K51 : List (Nat × List Instr) := [(0, hy_B51_0), (42, hy_B51_1)]
def hy_B52_0 : List Instr := [.iload 1, .invokestatic 4, .ifCond .ne 1, .bipush (-1000000001), .ireturn]
def hy_B52_1 : List Instr := [.bipush 0, .istore 2, .bipush 0, .istore 3, .goto_w 2]
def hy_B52_2 : List Instr := [.iload 3, .aload 0, .getfield 66, .getfield 455, .if_icmp .ge 4, .aload 0, .getfield 66, .iload 3, .iload 1, .invokevirtual 41, .ifCond .eq 3, .aload 0, .getfield 66, .iload 3, .invokevirtual 53, .ifCond .eq 3, .iload 2, .bipush 1, .iload 3, .ishl, .ior, .istore 2, .goto_w 3]
def hy_B52_3 : List Instr := [.iinc 3 1, .goto 2]
def hy_B52_4 : List Instr := [.iload 2, .ireturn]
def hy_K52 : List (Nat × List Instr) := [(0, hy_B52_0), (10, hy_B52_1), (14, hy_B52_2), (54, hy_B52_3), (60, hy_B52_4)]
def hy_B53_0 : List Instr := [.bipush 0, .istore 2, .goto_w 1]
def hy_B53_1 : List Instr := [.iload 2, .aload 0, .getfield 455, .if_icmp .ge 3, .aload 0, .iload 2, .aload 0, .getfield 449, .iload 1, .aaload, .getfield 514, .invokevirtual 21, .ifCond .eq 2, .bipush 1, .ireturn]
def hy_B53_2 : List Instr := [.iinc 2 1, .goto 1]
def hy_B53_3 : List Instr := [.bipush 0, .ireturn]
def hy_K53 : List (Nat × List Instr) := [(0, hy_B53_0), (2, hy_B53_1), (29, hy_B53_2), (35, hy_B53_3)]
def hy_B54_0 : List Instr := [.iload 1, .invokestatic 4, .ifCond .eq 1, .aload 0, .getfield 66, .iload 1, .invokevirtual 45, .goto 2]
def hy_B54_1 : List Instr := [.bipush (-1000000001), .goto_w 2]
def hy_B54_2 : List Instr := [.ireturn]
def hy_K54 : List (Nat × List Instr) := [(0, hy_B54_0), (18, hy_B54_1), (20, hy_B54_2)]
def hy_B55_0 : List Instr := [.iload 1, .bipush 1, .bipush 40, .invokestatic 3, .ifCond .ne 1, .bipush (-1000000001), .ireturn]
def hy_B55_1 : List Instr := [.aload 0, .getfield 66, .invokevirtual 56, .istore 2, .aload 0, .getfield 66, .iload 1, .bipush 9999, .aload 0, .getfield 66, .getfield 459, .isub, .invokedynamic 1, .invokevirtual 58, .iload 2, .aload 0, .getfield 66, .invokevirtual 56, .isub, .ireturn]
def hy_K55 : List (Nat × List Instr) := [(0, hy_B55_0), (13, hy_B55_1)]
def hy_B56_0 : List Instr := [.aload 0, .bipush 0, .invokevirtual 57, .aload 0, .bipush 1, .invokevirtual 57, .iadd, .ireturn]
def hy_K56 : List (Nat × List Instr) := [(0, hy_B56_0)]
def hy_B57_0 : List Instr := [.bipush 0, .istore 2, .bipush 0, .istore 3, .goto_w 1]
def hy_B57_1 : List Instr := [.iload 3, .aload 0, .getfield 455, .if_icmp .ge 3, .aload 0, .iload 3, .iload 1, .invokevirtual 41, .ifCond .eq 2, .iinc 2 1, .goto_w 2]
def hy_B57_2 : List Instr := [.iinc 3 1, .goto 1]
def hy_B57_3 : List Instr := [.iload 2, .ireturn]
def hy_K57 : List (Nat × List Instr) := [(0, hy_B57_0), (4, hy_B57_1), (24, hy_B57_2), (30, hy_B57_3)]
def hy_B58_0 : List Instr := [.bipush 0, .istore 2, .goto_w 1]
def hy_B58_1 : List Instr := [.iload 2, .iload 1, .if_icmp .ge 2, .aload 0, .aload 0, .getfield 456, .invokevirtual 51, .aload 0, .invokevirtual 38, .aload 0, .invokevirtual 59, .aload 0, .invokevirtual 60, .aload 0, .dup, .getfield 459, .bipush 1, .iadd, .putfield 459, .iinc 2 1, .goto 1]
def hy_B58_2 : List Instr := [.return_]
def hy_K58 : List (Nat × List Instr) := [(0, hy_B58_0), (2, hy_B58_1), (43, hy_B58_2)]
def hy_B59_0 : List Instr := [.aload 0, .invokevirtual 33, .bipush 100, .irem, .aload 0, .getfield 458, .if_icmp .lt 1, .return_]
def hy_B59_1 : List Instr := [.aload 0, .getfield 450, .aload 0, .invokevirtual 33, .bipush 36, .irem, .iaload, .istore 1, .iload 1, .bipush (-1000000005), .if_icmp .ne 2, .return_]
def hy_B59_2 : List Instr := [.aload 0, .getfield 449, .iload 1, .aaload, .astore 2, .aload 2, .dup, .getfield 515, .aload 2, .invokevirtual 17, .isub, .putfield 515, .aload 2, .getfield 515, .bipush 1, .if_icmp .ge 3, .aload 2, .bipush 1, .putfield 515, .aload 0, .iload 1, .bipush 36, .invokevirtual 8, .goto_w 3]
def hy_B59_3 : List Instr := [.return_]
def hy_K59 : List (Nat × List Instr) := [(0, hy_B59_0), (15, hy_B59_1), (35, hy_B59_2), (75, hy_B59_3)]
def hy_B60_0 : List Instr := [.aload 0, .invokevirtual 33, .bipush 100, .irem, .aload 0, .getfield 457, .if_icmp .lt 1, .return_]
def hy_B60_1 : List Instr := [.bipush 0, .istore 1, .goto_w 2]
def hy_B60_2 : List Instr := [.iload 1, .aload 0, .getfield 455, .if_icmp .ge 4, .aload 0, .iload 1, .invokevirtual 9, .ifCond .eq 3, .aload 0, .getfield 449, .iload 1, .aaload, .invokevirtual 61, .goto_w 3]
def hy_B60_3 : List Instr := [.iinc 1 1, .goto 2]
def hy_B60_4 : List Instr := [.return_]
def hy_K60 : List (Nat × List Instr) := [(0, hy_B60_0), (15, hy_B60_1), (17, hy_B60_2), (42, hy_B60_3), (48, hy_B60_4)]
def hy_B61_0 : List Instr := [.aload 0, .dup, .getfield 515, .bipush 1, .isub, .putfield 515, .aload 0, .getfield 515, .bipush 1, .if_icmp .ge 1, .aload 0, .bipush 1, .putfield 515, .aload 0, .bipush 5, .putfield 512, .goto_w 1]
def hy_B61_1 : List Instr := [.return_]
def hy_K61 : List (Nat × List Instr) := [(0, hy_B61_0), (28, hy_B61_1)]
def hy_B62_0 : List Instr := [.iload 1, .bipush 0, .bipush 40, .invokestatic 3, .ifCond .eq 1, .iload 2, .bipush 0, .bipush 3, .aload 0, .getfield 66, .getfield 455, .iadd, .bipush 1, .isub, .invokestatic 3, .ifCond .ne 2, .goto_w 1]
def hy_B62_1 : List Instr := [.bipush (-1000000001), .ireturn]
def hy_B62_2 : List Instr := [.aload 0, .getfield 67, .aload 0, .getfield 66, .invokevirtual 49, .aload 0, .getfield 67, .iload 1, .invokevirtual 58, .iload 2, .tableswitch 6 0 2 #[3, 4, 5]]
def hy_B62_3 : List Instr := [.aload 0, .getfield 67, .bipush 0, .invokevirtual 45, .ireturn]
def hy_B62_4 : List Instr := [.aload 0, .getfield 67, .invokevirtual 56, .ireturn]
def hy_B62_5 : List Instr := [.aload 0, .getfield 67, .invokevirtual 63, .ireturn]
def hy_B62_6 : List Instr := [.aload 0, .getfield 67, .getfield 449, .iload 2, .bipush 3, .isub, .aaload, .getfield 514, .ireturn]
def hy_K62 : List (Nat × List Instr) := [(0, hy_B62_0), (29, hy_B62_1), (32, hy_B62_2), (80, hy_B62_3), (89, hy_B62_4), (97, hy_B62_5), (105, hy_B62_6)]
def hy_B63_0 : List Instr := [.bipush 0, .istore 1, .bipush 0, .istore 2, .goto_w 1]
def hy_B63_1 : List Instr := [.iload 2, .aload 0, .getfield 455, .if_icmp .ge 3, .aload 0, .iload 2, .invokevirtual 9, .ifCond .eq 2, .iload 1, .aload 0, .getfield 449, .iload 2, .aaload, .getfield 515, .iadd, .istore 1, .goto_w 2]
def hy_B63_2 : List Instr := [.iinc 2 1, .goto 1]
def hy_B63_3 : List Instr := [.iload 1, .ireturn]
def hy_K63 : List (Nat × List Instr) := [(0, hy_B63_0), (4, hy_B63_1), (32, hy_B63_2), (38, hy_B63_3)]
def hy_B64_0 : List Instr := [.aload 0, .getfield 67, .aload 0, .getfield 66, .invokevirtual 49, .bipush 0, .istore 1, .goto_w 1]
def hy_B64_1 : List Instr := [.iload 1, .bipush 100, .if_icmp .gt 4, .aload 0, .getfield 67, .bipush 0, .invokevirtual 57, .ifCond .eq 2, .aload 0, .getfield 67, .bipush 1, .invokevirtual 57, .ifCond .ne 3, .goto_w 2]
def hy_B64_2 : List Instr := [.iload 1, .ireturn]
def hy_B64_3 : List Instr := [.aload 0, .getfield 67, .bipush 1, .invokevirtual 58, .iinc 1 1, .goto 1]
def hy_B64_4 : List Instr := [.bipush (-1000000005), .ireturn]
def hy_K64 : List (Nat × List Instr) := [(0, hy_B64_0), (13, hy_B64_1), (41, hy_B64_2), (43, hy_B64_3), (57, hy_B64_4)]
def hy_B65_0 : List Instr := [.iload 1, .bipush 1, .bipush 12, .invokestatic 3, .ifCond .eq 1, .iload 2, .bipush 0, .bipush 1, .invokestatic 3, .ifCond .ne 2, .goto_w 1]
def hy_B65_1 : List Instr := [.bipush (-1000000001), .ireturn]
def hy_B65_2 : List Instr := [.aload 0, .getfield 70, .invokevirtual 44, .bipush 0, .istore 3, .goto_w 3]
def hy_B65_3 : List Instr := [.iload 3, .aload 0, .getfield 66, .getfield 455, .if_icmp .ge 5, .aload 0, .getfield 66, .iload 3, .invokevirtual 9, .ifCond .eq 4, .aload 0, .iload 3, .invokevirtual 66, .aload 0, .getfield 67, .iload 1, .invokevirtual 58, .aload 0, .getfield 67, .aload 0, .getfield 66, .getfield 449, .iload 3, .aaload, .getfield 513, .invokevirtual 45, .istore 4, .aload 0, .getfield 70, .iload 3, .iload 4, .iload 4, .invokevirtual 46, .goto_w 4]
def hy_B65_4 : List Instr := [.iinc 3 1, .goto 3]
def hy_B65_5 : List Instr := [.aload 0, .getfield 70, .iload 2, .invokevirtual 47, .ireturn]
def hy_K65 : List (Nat × List Instr) := [(0, hy_B65_0), (19, hy_B65_1), (22, hy_B65_2), (31, hy_B65_3), (99, hy_B65_4), (105, hy_B65_5)]
def hy_B66_0 : List Instr := [.aload 0, .getfield 67, .aload 0, .getfield 66, .invokevirtual 49, .aload 0, .getfield 67, .iload 1, .bipush 36, .invokevirtual 8, .return_]
def hy_K66 : List (Nat × List Instr) := [(0, hy_B66_0)]
def hy_B67_0 : List Instr := [.iload 1, .bipush 1, .bipush 12, .invokestatic 3, .ifCond .eq 1, .iload 2, .bipush 0, .bipush 1, .invokestatic 3, .ifCond .ne 2, .goto_w 1]
def hy_B67_1 : List Instr := [.bipush (-1000000001), .ireturn]
def hy_B67_2 : List Instr := [.aload 0, .getfield 70, .invokevirtual 44, .bipush 0, .istore 3, .goto_w 3]
def hy_B67_3 : List Instr := [.iload 3, .aload 0, .getfield 66, .getfield 455, .if_icmp .ge 5, .aload 0, .getfield 66, .iload 3, .bipush 0, .invokevirtual 41, .ifCond .eq 4, .aload 0, .getfield 67, .aload 0, .getfield 66, .invokevirtual 49, .aload 0, .getfield 67, .getfield 449, .iload 3, .aaload, .bipush 1, .putfield 513, .aload 0, .getfield 67, .iload 1, .invokevirtual 58, .aload 0, .getfield 67, .bipush 0, .invokevirtual 45, .istore 4, .aload 0, .getfield 70, .iload 3, .iload 4, .invokedynamic 2, .iload 4, .invokevirtual 46, .goto_w 4]
def hy_B67_4 : List Instr := [.iinc 3 1, .goto 3]
def hy_B67_5 : List Instr := [.aload 0, .getfield 70, .iload 2, .invokevirtual 47, .ireturn]
def hy_K67 : List (Nat × List Instr) := [(0, hy_B67_0), (19, hy_B67_1), (22, hy_B67_2), (31, hy_B67_3), (111, hy_B67_4), (117, hy_B67_5)]
def hy_B68_0 : List Instr := [.iload 1, .invokestatic 69, .ifCond .eq 1, .iload 2, .bipush 0, .bipush 12, .invokestatic 3, .ifCond .eq 1, .iload 3, .bipush 0, .bipush 1, .invokestatic 3, .ifCond .ne 2, .goto_w 1]
def hy_B68_1 : List Instr := [.bipush (-1000000001), .ireturn]
def hy_B68_2 : List Instr := [.aload 0, .getfield 71, .iload 1, .aaload, .invokevirtual 70, .ifCond .eq 3, .bipush (-1000000011), .ireturn]
def hy_B68_3 : List Instr := [.aload 0, .getfield 70, .invokevirtual 44, .bipush 0, .istore 4, .goto_w 4]
def hy_B68_4 : List Instr := [.iload 4, .aload 0, .getfield 66, .getfield 455, .if_icmp .ge 6, .aload 0, .getfield 66, .iload 4, .invokevirtual 9, .ifCond .eq 5, .aload 0, .iload 4, .invokevirtual 66, .aload 0, .getfield 67, .iload 2, .invokevirtual 58, .aload 0, .getfield 67, .aload 0, .getfield 71, .iload 1, .aaload, .invokevirtual 71, .istore 5, .aload 0, .getfield 70, .iload 4, .iload 5, .iload 5, .invokevirtual 46, .goto_w 5]
def hy_B68_5 : List Instr := [.iinc 4 1, .goto 4]
def hy_B68_6 : List Instr := [.aload 0, .getfield 70, .iload 3, .invokevirtual 47, .ireturn]
def hy_K68 : List (Nat × List Instr) := [(0, hy_B68_0), (26, hy_B68_1), (29, hy_B68_2), (44, hy_B68_3), (54, hy_B68_4), (120, hy_B68_5), (126, hy_B68_6)]
def hy_B69_0 : List Instr := [.iload 0, .bipush 0, .bipush 3, .invokestatic 3, .ireturn]
def hy_K69 : List (Nat × List Instr) := [(0, hy_B69_0)]
def hy_B70_0 : List Instr := [.aload 0, .getfield 321, .bipush (-1), .if_icmp .ne 1, .bipush 1, .goto 2]
def hy_B70_1 : List Instr := [.bipush 0, .goto_w 2]
def hy_B70_2 : List Instr := [.ireturn]
def hy_K70 : List (Nat × List Instr) := [(0, hy_B70_0), (12, hy_B70_1), (13, hy_B70_2)]
def hy_B71_0 : List Instr := [.bipush 0, .istore 2, .bipush 0, .istore 3, .goto_w 1]
def hy_B71_1 : List Instr := [.iload 3, .aload 1, .getfield 322, .if_icmp .ge 5, .aload 1, .iload 3, .invokevirtual 72, .ifCond .eq 4, .aload 0, .iload 3, .invokevirtual 11, .ifCond .eq 2, .aload 0, .getfield 449, .iload 3, .aaload, .getfield 514, .goto 3]
def hy_B71_2 : List Instr := [.bipush 0, .goto_w 3]
def hy_B71_3 : List Instr := [.istore 4, .iload 2, .iload 4, .aload 1, .getfield 320, .iload 3, .iaload, .isub, .invokedynamic 2, .iadd, .istore 2, .goto_w 4]
def hy_B71_4 : List Instr := [.iinc 3 1, .goto 1]
def hy_B71_5 : List Instr := [.iload 2, .ireturn]
def hy_K71 : List (Nat × List Instr) := [(0, hy_B71_0), (4, hy_B71_1), (40, hy_B71_2), (41, hy_B71_3), (58, hy_B71_4), (64, hy_B71_5)]
def hy_B72_0 : List Instr := [.aload 0, .iload 1, .invokevirtual 73, .ifCond .eq 1, .aload 0, .getfield 320, .iload 1, .iaload, .bipush (-1000000005), .if_icmp .eq 1, .bipush 1, .goto 2]
def hy_B72_1 : List Instr := [.bipush 0, .goto_w 2]
def hy_B72_2 : List Instr := [.ireturn]
def hy_K72 : List (Nat × List Instr) := [(0, hy_B72_0), (23, hy_B72_1), (24, hy_B72_2)]
def hy_B73_0 : List Instr := [.iload 1, .bipush 0, .aload 0, .getfield 322, .bipush 1, .isub, .invokestatic 3, .ireturn]
def hy_K73 : List (Nat × List Instr) := [(0, hy_B73_0)]
def hy_B74_0 : List Instr := [.aload 0, .getfield 66, .getfield 451, .bipush 1, .iaload, .istore 1, .iload 1, .invokestatic 13, .ifCond .eq 1, .aload 0, .getfield 64, .iload 1, .aaload, .aload 0, .getfield 66, .getfield 459, .aload 0, .getfield 66, .getfield 456, .bipush 0, .invokevirtual 14, .goto 2]
def hy_B74_1 : List Instr := [.aload 0, .getfield 66, .getfield 459, .goto_w 2]
def hy_B74_2 : List Instr := [.ireturn]
def hy_K74 : List (Nat × List Instr) := [(0, hy_B74_0), (44, hy_B74_1), (51, hy_B74_2)]
def hy_B75_0 : List Instr := [.aload 0, .getfield 66, .iload 1, .invokevirtual 11, .ifCond .ne 1, .bipush (-1000000001), .ireturn]
def hy_B75_1 : List Instr := [.aload 0, .getfield 66, .getfield 449, .iload 1, .aaload, .astore 2, .aload 0, .getfield 66, .getfield 451, .bipush 2, .iaload, .istore 3, .iload 3, .invokestatic 13, .ifCond .eq 2, .aload 0, .getfield 64, .iload 3, .aaload, .aload 2, .getfield 516, .aload 2, .getfield 515, .bipush 0, .invokevirtual 14, .goto 3]
def hy_B75_2 : List Instr := [.aload 2, .getfield 516, .goto_w 3]
def hy_B75_3 : List Instr := [.ireturn]
def hy_K75 : List (Nat × List Instr) := [(0, hy_B75_0), (14, hy_B75_1), (62, hy_B75_2), (66, hy_B75_3)]
def hy_B76_0 : List Instr := [.aload 0, .getfield 65, .getfield 130, .bipush 12, .iadd, .bipush 96, .if_icmp .le 1, .bipush (-1000000003), .ireturn]
def hy_B76_1 : List Instr := [.aload 0, .getfield 65, .iload 1, .invokevirtual 77, .aload 0, .getfield 65, .iload 2, .invokevirtual 77, .aload 0, .getfield 65, .iload 3, .invokevirtual 77, .aload 0, .getfield 65, .getfield 130, .ireturn]
def hy_K76 : List (Nat × List Instr) := [(0, hy_B76_0), (18, hy_B76_1)]
def hy_B77_0 : List Instr := [.bipush 24, .istore 2, .goto_w 1]
def hy_B77_1 : List Instr := [.iload 2, .ifCond .lt 2, .aload 0, .getfield 128, .aload 0, .getfield 130, .iload 1, .iload 2, .iushr, .bipush 255, .iand, .iastore, .aload 0, .dup, .getfield 130, .bipush 1, .iadd, .putfield 130, .iinc 2 (-8), .goto 1]
def hy_B77_2 : List Instr := [.return_]
def hy_K77 : List (Nat × List Instr) := [(0, hy_B77_0), (3, hy_B77_1), (39, hy_B77_2)]
def hy_B78_0 : List Instr := [.iload 1, .bipush 0, .aload 0, .getfield 65, .getfield 130, .invokestatic 3, .ifCond .ne 1, .bipush (-1000000001), .ireturn]
def hy_B78_1 : List Instr := [.aload 0, .getfield 65, .iload 1, .putfield 130, .iload 1, .ireturn]
def hy_K78 : List (Nat × List Instr) := [(0, hy_B78_0), (18, hy_B78_1)]
def hy_B79_0 : List Instr := [.aload 0, .getfield 65, .invokevirtual 80, .istore 1, .iload 1, .bipush (-1000000005), .if_icmp .eq 1, .bipush (-100), .iload 1, .isub, .ireturn]
def hy_B79_1 : List Instr := [.aload 0, .getfield 66, .getfield 461, .istore 2, .iload 2, .invokestatic 13, .ifCond .ne 2, .bipush (-1000000003), .ireturn]
def hy_B79_2 : List Instr := [.aload 0, .getfield 64, .iload 2, .aaload, .aload 0, .getfield 65, .getfield 129, .invokevirtual 101, .aload 0, .getfield 66, .getfield 451, .aload 0, .getfield 65, .getfield 129, .getfield 195, .iload 2, .iastore, .aload 0, .getfield 66, .dup, .getfield 461, .bipush 1, .iadd, .putfield 461, .iload 2, .ireturn]
def hy_K79 : List (Nat × List Instr) := [(0, hy_B79_0), (19, hy_B79_1), (37, hy_B79_2)]
def hy_B80_0 : List Instr := [.aload 0, .getfield 129, .invokevirtual 81, .aload 0, .bipush 0, .invokevirtual 82, .aload 0, .invokevirtual 84, .ifCond .eq 1, .aload 0, .bipush 0, .bipush 0, .bipush 0, .invokevirtual 89, .ifCond .eq 1, .aload 0, .getfield 131, .aload 0, .getfield 130, .if_icmp .ne 1, .bipush 1, .goto 2]
def hy_B80_1 : List Instr := [.bipush 0, .goto_w 2]
def hy_B80_2 : List Instr := [.istore 1, .aload 0, .bipush 0, .putfield 130, .iload 1, .ifCond .eq 3, .bipush (-1000000005), .goto 4]
def hy_B80_3 : List Instr := [.aload 0, .getfield 131, .goto_w 4]
def hy_B80_4 : List Instr := [.ireturn]
def hy_K80 : List (Nat × List Instr) := [(0, hy_B80_0), (44, hy_B80_1), (45, hy_B80_2), (60, hy_B80_3), (64, hy_B80_4)]
def hy_B81_0 : List Instr := [.aload 0, .bipush 0, .putfield 196, .aload 0, .bipush 0, .putfield 194, .return_]
def hy_K81 : List (Nat × List Instr) := [(0, hy_B81_0)]
def hy_B82_0 : List Instr := [.aload 0, .iload 1, .putfield 131, .goto_w 1]
def hy_B82_1 : List Instr := [.aload 0, .getfield 131, .aload 0, .getfield 130, .if_icmp .ge 2, .aload 0, .aload 0, .getfield 131, .invokevirtual 83, .bipush 32, .if_icmp .ne 2, .aload 0, .dup, .getfield 131, .bipush 1, .iadd, .putfield 131, .goto 1]
def hy_B82_2 : List Instr := [.return_]
def hy_K82 : List (Nat × List Instr) := [(0, hy_B82_0), (5, hy_B82_1), (42, hy_B82_2)]
def hy_B83_0 : List Instr := [.iload 1, .ifCond .lt 1, .iload 1, .aload 0, .getfield 130, .if_icmp .ge 1, .aload 0, .getfield 128, .iload 1, .iaload, .goto 2]
def hy_B83_1 : List Instr := [.bipush (-1000000005), .goto_w 2]
def hy_B83_2 : List Instr := [.ireturn]
def hy_K83 : List (Nat × List Instr) := [(0, hy_B83_0), (21, hy_B83_1), (23, hy_B83_2)]
def hy_B84_0 : List Instr := [.aload 0, .ldc 0, .invokevirtual 85, .ifCond .eq 1, .bipush 0, .goto 4]
def hy_B84_1 : List Instr := [.aload 0, .ldc 1, .invokevirtual 85, .ifCond .eq 2, .bipush 1, .goto 4]
def hy_B84_2 : List Instr := [.aload 0, .ldc 2, .invokevirtual 85, .ifCond .eq 3, .bipush 2, .goto 4]
def hy_B84_3 : List Instr := [.bipush (-1000000005), .goto_w 4]
def hy_B84_4 : List Instr := [.istore 1, .iload 1, .bipush (-1000000005), .if_icmp .ne 5, .bipush 0, .ireturn]
def hy_B84_5 : List Instr := [.aload 0, .getfield 129, .iload 1, .putfield 195, .aload 0, .aload 0, .invokevirtual 86, .invokevirtual 82, .bipush 1, .ireturn]
def hy_K84 : List (Nat × List Instr) := [(0, hy_B84_0), (13, hy_B84_1), (26, hy_B84_2), (39, hy_B84_3), (41, hy_B84_4), (50, hy_B84_5)]
def hy_B85_0 : List Instr := [.aload 0, .invokevirtual 86, .aload 0, .getfield 131, .isub, .aload 1, .invokevirtual 218, .if_icmp .eq 1, .bipush 0, .ireturn]
def hy_B85_1 : List Instr := [.bipush 0, .istore 2, .goto_w 2]
def hy_B85_2 : List Instr := [.iload 2, .aload 1, .invokevirtual 218, .if_icmp .ge 4, .aload 0, .aload 0, .getfield 131, .iload 2, .iadd, .invokevirtual 83, .aload 1, .iload 2, .invokevirtual 220, .if_icmp .eq 3, .bipush 0, .ireturn]
def hy_B85_3 : List Instr := [.iinc 2 1, .goto 2]
def hy_B85_4 : List Instr := [.bipush 1, .ireturn]
def hy_K85 : List (Nat × List Instr) := [(0, hy_B85_0), (18, hy_B85_1), (20, hy_B85_2), (48, hy_B85_3), (54, hy_B85_4)]
def hy_B86_0 : List Instr := [.aload 0, .aload 0, .getfield 131, .invokevirtual 83, .invokestatic 87, .istore 1, .aload 0, .getfield 131, .istore 2, .goto_w 1]
def hy_B86_1 : List Instr := [.iload 2, .aload 0, .getfield 130, .if_icmp .ge 4, .iload 1, .ifCond .eq 2, .aload 0, .iload 2, .invokevirtual 83, .invokestatic 87, .ifCond .eq 4, .goto 3]
def hy_B86_2 : List Instr := [.aload 0, .iload 2, .invokevirtual 83, .invokestatic 88, .ifCond .eq 4, .goto_w 3]
def hy_B86_3 : List Instr := [.iinc 2 1, .goto 1]
def hy_B86_4 : List Instr := [.iload 2, .ireturn]
def hy_K86 : List (Nat × List Instr) := [(0, hy_B86_0), (17, hy_B86_1), (43, hy_B86_2), (54, hy_B86_3), (60, hy_B86_4)]
def hy_B87_0 : List Instr := [.iload 0, .bipush 97, .if_icmp .lt 1, .iload 0, .bipush 122, .if_icmp .gt 1, .bipush 1, .goto 2]
def hy_B87_1 : List Instr := [.bipush 0, .goto_w 2]
def hy_B87_2 : List Instr := [.ireturn]
def hy_K87 : List (Nat × List Instr) := [(0, hy_B87_0), (16, hy_B87_1), (17, hy_B87_2)]
def hy_B88_0 : List Instr := [.iload 0, .bipush 48, .if_icmp .lt 1, .iload 0, .bipush 57, .if_icmp .gt 1, .bipush 1, .goto 2]
def hy_B88_1 : List Instr := [.bipush 0, .goto_w 2]
def hy_B88_2 : List Instr := [.ireturn]
def hy_K88 : List (Nat × List Instr) := [(0, hy_B88_0), (16, hy_B88_1), (17, hy_B88_2)]
def hy_B89_0 : List Instr := [.iload 1, .bipush 5, .if_icmp .lt 1, .aload 0, .iload 2, .iload 3, .invokevirtual 90, .ireturn]
def hy_B89_1 : List Instr := [.aload 0, .iload 1, .bipush 1, .iadd, .iload 2, .iload 3, .invokevirtual 89, .ifCond .ne 2, .bipush 0, .ireturn]
def hy_B89_2 : List Instr := [.iload 1, .bipush 2, .if_icmp .ne 3, .bipush 1, .goto 4]
def hy_B89_3 : List Instr := [.bipush 96, .goto_w 4]
def hy_B89_4 : List Instr := [.istore 4, .bipush 0, .istore 5, .goto_w 5]
def hy_B89_5 : List Instr := [.iload 5, .iload 4, .if_icmp .ge 7, .aload 0, .aload 0, .getfield 131, .invokevirtual 83, .invokestatic 100, .iload 1, .if_icmp .ne 7, .aload 0, .aload 0, .getfield 131, .invokevirtual 83, .istore 6, .aload 0, .aload 0, .getfield 131, .bipush 1, .iadd, .invokevirtual 82, .aload 0, .iload 1, .bipush 1, .iadd, .iload 2, .iload 3, .invokevirtual 89, .ifCond .ne 6, .bipush 0, .ireturn]
def hy_B89_6 : List Instr := [.aload 0, .getfield 129, .iload 6, .invokevirtual 92, .iinc 5 1, .goto 5]
def hy_B89_7 : List Instr := [.bipush 1, .ireturn]
def hy_K89 : List (Nat × List Instr) := [(0, hy_B89_0), (12, hy_B89_1), (26, hy_B89_2), (35, hy_B89_3), (37, hy_B89_4), (42, hy_B89_5), (98, hy_B89_6), (113, hy_B89_7)]
def hy_B90_0 : List Instr := [.aload 0, .aload 0, .getfield 131, .invokevirtual 83, .istore 3, .iload 3, .bipush 33, .if_icmp .ne 3, .iload 2, .bipush 8, .if_icmp .ge 1, .aload 0, .iload 1, .iload 2, .bipush 1, .iadd, .invokevirtual 91, .ifCond .eq 1, .bipush 1, .goto 2]
def hy_B90_1 : List Instr := [.bipush 0, .goto_w 2]
def hy_B90_2 : List Instr := [.ireturn]
def hy_B90_3 : List Instr := [.iload 3, .bipush 40, .if_icmp .ne 6, .iload 1, .bipush 8, .if_icmp .ge 4, .aload 0, .iload 1, .bipush 1, .iadd, .iload 2, .invokevirtual 94, .ifCond .eq 4, .bipush 1, .goto 5]
def hy_B90_4 : List Instr := [.bipush 0, .goto_w 5]
def hy_B90_5 : List Instr := [.ireturn]
def hy_B90_6 : List Instr := [.aload 0, .aload 0, .getfield 131, .bipush 1, .isub, .invokevirtual 83, .invokestatic 95, .ifCond .eq 7, .bipush 0, .ireturn]
def hy_B90_7 : List Instr := [.iload 3, .invokestatic 88, .ifCond .eq 8, .aload 0, .invokevirtual 96, .goto 10]
def hy_B90_8 : List Instr := [.iload 3, .invokestatic 87, .ifCond .eq 9, .aload 0, .invokevirtual 98, .ifCond .eq 9, .bipush 1, .goto 10]
def hy_B90_9 : List Instr := [.bipush 0, .goto_w 10]
def hy_B90_10 : List Instr := [.ireturn]
def hy_K90 : List (Nat × List Instr) := [(0, hy_B90_0), (36, hy_B90_1), (37, hy_B90_2), (38, hy_B90_3), (65, hy_B90_4), (66, hy_B90_5), (67, hy_B90_6), (85, hy_B90_7), (99, hy_B90_8), (117, hy_B90_9), (118, hy_B90_10)]
def hy_B91_0 : List Instr := [.aload 0, .aload 0, .getfield 131, .bipush 1, .iadd, .invokevirtual 82, .aload 0, .iload 1, .iload 2, .invokevirtual 90, .ifCond .ne 1, .bipush 0, .ireturn]
def hy_B91_1 : List Instr := [.aload 0, .getfield 129, .bipush 33, .invokevirtual 92, .bipush 1, .ireturn]
def hy_K91 : List (Nat × List Instr) := [(0, hy_B91_0), (21, hy_B91_1)]
def hy_B92_0 : List Instr := [.aload 0, .iload 1, .ineg, .invokevirtual 93, .return_]
def hy_K92 : List (Nat × List Instr) := [(0, hy_B92_0)]
def hy_B93_0 : List Instr := [.aload 0, .getfield 194, .bipush 96, .if_icmp .ge 1, .aload 0, .getfield 192, .aload 0, .getfield 194, .iload 1, .iastore, .aload 0, .dup, .getfield 194, .bipush 1, .iadd, .putfield 194, .goto_w 1]
def hy_B93_1 : List Instr := [.return_]
def hy_K93 : List (Nat × List Instr) := [(0, hy_B93_0), (29, hy_B93_1)]
def hy_B94_0 : List Instr := [.aload 0, .aload 0, .getfield 131, .bipush 1, .iadd, .invokevirtual 82, .aload 0, .bipush 0, .iload 1, .iload 2, .invokevirtual 89, .ifCond .eq 1, .aload 0, .aload 0, .getfield 131, .invokevirtual 83, .bipush 41, .if_icmp .eq 2, .goto_w 1]
def hy_B94_1 : List Instr := [.bipush 0, .ireturn]
def hy_B94_2 : List Instr := [.aload 0, .aload 0, .getfield 131, .bipush 1, .iadd, .invokevirtual 82, .bipush 1, .ireturn]
def hy_K94 : List (Nat × List Instr) := [(0, hy_B94_0), (33, hy_B94_1), (35, hy_B94_2)]
def hy_B95_0 : List Instr := [.iload 0, .invokestatic 87, .ifCond .ne 1, .iload 0, .invokestatic 88, .ifCond .eq 2, .goto_w 1]
def hy_B95_1 : List Instr := [.bipush 1, .goto 3]
def hy_B95_2 : List Instr := [.bipush 0, .goto_w 3]
def hy_B95_3 : List Instr := [.ireturn]
def hy_K95 : List (Nat × List Instr) := [(0, hy_B95_0), (14, hy_B95_1), (18, hy_B95_2), (19, hy_B95_3)]
def hy_B96_0 : List Instr := [.aload 0, .invokevirtual 86, .istore 1, .iload 1, .aload 0, .getfield 131, .isub, .bipush 4, .if_icmp .le 1, .bipush 0, .ireturn]
def hy_B96_1 : List Instr := [.bipush 0, .istore 2, .aload 0, .getfield 131, .istore 3, .goto_w 2]
def hy_B96_2 : List Instr := [.iload 3, .iload 1, .if_icmp .ge 3, .bipush 10, .iload 2, .imul, .aload 0, .iload 3, .invokevirtual 83, .iadd, .bipush 48, .isub, .istore 2, .iinc 3 1, .goto 2]
def hy_B96_3 : List Instr := [.aload 0, .getfield 129, .iload 2, .invokevirtual 97, .aload 0, .iload 1, .invokevirtual 82, .bipush 1, .ireturn]
def hy_K96 : List (Nat × List Instr) := [(0, hy_B96_0), (17, hy_B96_1), (24, hy_B96_2), (49, hy_B96_3)]
def hy_B97_0 : List Instr := [.aload 0, .iload 1, .invokevirtual 93, .aload 0, .dup, .getfield 196, .bipush 1, .iadd, .putfield 196, .return_]
def hy_K97 : List (Nat × List Instr) := [(0, hy_B97_0)]
def hy_B98_0 : List Instr := [.aload 0, .invokevirtual 86, .istore 1, .aload 0, .getfield 129, .getfield 195, .ifCond .ne 1, .ldc 3, .goto 3]
def hy_B98_1 : List Instr := [.aload 0, .getfield 129, .getfield 195, .bipush 1, .if_icmp .ne 2, .ldc 4, .goto 3]
def hy_B98_2 : List Instr := [.ldc 5, .goto_w 3]
def hy_B98_3 : List Instr := [.astore 2, .aload 2, .aload 0, .aload 0, .getfield 131, .invokevirtual 83, .i2c, .invokevirtual 225, .istore 3, .iload 1, .aload 0, .getfield 131, .isub, .bipush 1, .if_icmp .ne 4, .iload 3, .ifCond .ge 5, .goto_w 4]
def hy_B98_4 : List Instr := [.bipush 0, .ireturn]
def hy_B98_5 : List Instr := [.aload 0, .getfield 129, .iload 3, .invokevirtual 99, .aload 0, .iload 1, .invokevirtual 82, .bipush 1, .ireturn]
def hy_K98 : List (Nat × List Instr) := [(0, hy_B98_0), (20, hy_B98_1), (36, hy_B98_2), (38, hy_B98_3), (67, hy_B98_4), (69, hy_B98_5)]
def hy_B99_0 : List Instr := [.aload 0, .bipush (-1), .iload 1, .isub, .invokevirtual 93, .aload 0, .dup, .getfield 196, .bipush 1, .iadd, .putfield 196, .return_]
def hy_K99 : List (Nat × List Instr) := [(0, hy_B99_0)]
def hy_B100_0 : List Instr := [.iload 0, .lookupswitch 6 #[(38, 2), (42, 5), (43, 4), (45, 4), (47, 5), (60, 3), (61, 3), (62, 3), (124, 1)]]
def hy_B100_1 : List Instr := [.bipush 0, .ireturn]
def hy_B100_2 : List Instr := [.bipush 1, .ireturn]
def hy_B100_3 : List Instr := [.bipush 2, .ireturn]
def hy_B100_4 : List Instr := [.bipush 3, .ireturn]
def hy_B100_5 : List Instr := [.bipush 4, .ireturn]
def hy_B100_6 : List Instr := [.bipush (-1), .ireturn]
def hy_K100 : List (Nat × List Instr) := [(0, hy_B100_0), (84, hy_B100_1), (86, hy_B100_2), (88, hy_B100_3), (90, hy_B100_4), (92, hy_B100_5), (94, hy_B100_6)]
def hy_B101_0 : List Instr := [.aload 1, .getfield 192, .bipush 0, .aload 0, .getfield 192, .bipush 0, .bipush 96, .invokedynamic 3, .aload 0, .aload 1, .getfield 195, .putfield 195, .aload 0, .aload 1, .getfield 196, .putfield 196, .aload 0, .aload 1, .getfield 194, .putfield 194, .return_]
def hy_K101 : List (Nat × List Instr) := [(0, hy_B101_0)]
def hy_B102_0 : List Instr := [.iload 1, .bipush 0, .aload 0, .getfield 66, .getfield 461, .bipush 1, .isub, .invokestatic 3, .ifCond .eq 1, .iload 2, .bipush 0, .bipush 1, .invokestatic 3, .ifCond .ne 2, .goto_w 1]
def hy_B102_1 : List Instr := [.bipush (-1000000001), .ireturn]
def hy_B102_2 : List Instr := [.iload 2, .ifCond .ne 3, .aload 0, .getfield 64, .iload 1, .aaload, .getfield 195, .goto 4]
def hy_B102_3 : List Instr := [.aload 0, .getfield 64, .iload 1, .aaload, .getfield 196, .goto_w 4]
def hy_B102_4 : List Instr := [.ireturn]
def hy_K102 : List (Nat × List Instr) := [(0, hy_B102_0), (26, hy_B102_1), (29, hy_B102_2), (45, hy_B102_3), (54, hy_B102_4)]
def hy_B103_0 : List Instr := [.iload 1, .bipush 0, .bipush 2, .invokestatic 3, .ifCond .eq 1, .aload 0, .getfield 66, .getfield 451, .iload 1, .iaload, .goto 2]
def hy_B103_1 : List Instr := [.bipush (-1000000001), .goto_w 2]
def hy_B103_2 : List Instr := [.ireturn]
def hy_K103 : List (Nat × List Instr) := [(0, hy_B103_0), (21, hy_B103_1), (23, hy_B103_2)]
def hy_B104_0 : List Instr := [.iload 1, .invokestatic 69, .ifCond .eq 1, .iload 2, .bipush (-1), .bipush 1, .invokestatic 3, .ifCond .ne 2, .goto_w 1]
def hy_B104_1 : List Instr := [.bipush (-1000000001), .ireturn]
def hy_B104_2 : List Instr := [.iload 2, .bipush (-1), .if_icmp .ne 3, .aload 0, .getfield 71, .iload 1, .aaload, .bipush (-1), .bipush 0, .invokevirtual 105, .bipush 0, .ireturn]
def hy_B104_3 : List Instr := [.iload 3, .bipush 24, .if_icmp .le 4, .bipush (-1000000001), .ireturn]
def hy_B104_4 : List Instr := [.iload 3, .ifCond .ge 5, .bipush (-1000000014), .ireturn]
def hy_B104_5 : List Instr := [.aload 0, .getfield 71, .iload 1, .aaload, .iload 2, .iload 3, .invokevirtual 105, .iload 3, .ireturn]
def hy_K104 : List (Nat × List Instr) := [(0, hy_B104_0), (16, hy_B104_1), (19, hy_B104_2), (37, hy_B104_3), (46, hy_B104_4), (54, hy_B104_5)]
def hy_B105_0 : List Instr := [.aload 0, .iload 1, .putfield 321, .aload 0, .iload 2, .putfield 322, .bipush 0, .istore 3, .goto_w 1]
def hy_B105_1 : List Instr := [.iload 3, .bipush 24, .if_icmp .ge 2, .aload 0, .getfield 320, .iload 3, .bipush 0, .iastore, .iinc 3 1, .goto 1]
def hy_B105_2 : List Instr := [.return_]
def hy_K105 : List (Nat × List Instr) := [(0, hy_B105_0), (12, hy_B105_1), (31, hy_B105_2)]
def hy_B106_0 : List Instr := [.iload 1, .invokestatic 69, .ifCond .ne 1, .bipush (-1000000001), .ireturn]
def hy_B106_1 : List Instr := [.aload 0, .getfield 71, .iload 1, .aaload, .astore 4, .aload 4, .invokevirtual 70, .ifCond .eq 2, .bipush (-1000000011), .ireturn]
def hy_B106_2 : List Instr := [.aload 4, .iload 2, .invokevirtual 73, .ifCond .ne 3, .bipush (-1000000013), .ireturn]
def hy_B106_3 : List Instr := [.aload 4, .getfield 321, .ifCond .ne 5, .iload 3, .bipush (-1000000005), .if_icmp .ne 4, .bipush (-1000000012), .ireturn]
def hy_B106_4 : List Instr := [.aload 4, .getfield 320, .iload 2, .iload 3, .i2s, .iastore, .bipush 1, .ireturn]
def hy_B106_5 : List Instr := [.iload 3, .bipush (-1000000005), .if_icmp .eq 6, .iload 3, .bipush (-99999), .bipush 99999, .invokestatic 3, .ifCond .ne 6, .bipush (-1000000001), .ireturn]
def hy_B106_6 : List Instr := [.aload 4, .getfield 320, .iload 2, .iload 3, .iastore, .bipush 1, .ireturn]
def hy_K106 : List (Nat × List Instr) := [(0, hy_B106_0), (10, hy_B106_1), (29, hy_B106_2), (42, hy_B106_3), (59, hy_B106_4), (70, hy_B106_5), (92, hy_B106_6)]
def hy_B107_0 : List Instr := [.iload 1, .invokestatic 69, .ifCond .ne 1, .bipush (-1000000001), .ireturn]
def hy_B107_1 : List Instr := [.aload 0, .getfield 71, .iload 1, .aaload, .astore 2, .aload 2, .invokevirtual 70, .ifCond .eq 2, .bipush (-1000000011), .ireturn]
def hy_B107_2 : List Instr := [.bipush 0, .istore 3, .bipush 0, .istore 4, .goto_w 3]
def hy_B107_3 : List Instr := [.iload 4, .aload 0, .getfield 66, .getfield 455, .if_icmp .ge 6, .aload 0, .getfield 66, .getfield 449, .iload 4, .aaload, .getfield 515, .istore 5, .aload 2, .iload 4, .invokevirtual 72, .ifCond .eq 4, .aload 0, .getfield 66, .getfield 449, .iload 4, .aaload, .aload 2, .getfield 320, .iload 4, .iaload, .bipush 1, .bipush 99, .invokestatic 16, .putfield 515, .goto_w 4]
def hy_B107_4 : List Instr := [.aload 0, .getfield 66, .getfield 449, .iload 4, .aaload, .getfield 515, .iload 5, .if_icmp .eq 5, .iinc 3 1, .goto_w 5]
def hy_B107_5 : List Instr := [.iinc 4 1, .goto 3]
def hy_B107_6 : List Instr := [.iload 3, .ireturn]
def hy_K107 : List (Nat × List Instr) := [(0, hy_B107_0), (10, hy_B107_1), (27, hy_B107_2), (32, hy_B107_3), (94, hy_B107_4), (115, hy_B107_5), (121, hy_B107_6)]
def hy_B108_0 : List Instr := [.iload 1, .invokestatic 69, .ifCond .ne 1, .bipush (-1000000001), .ireturn]
def hy_B108_1 : List Instr := [.aload 0, .getfield 71, .iload 1, .aaload, .astore 2, .aload 2, .invokevirtual 70, .ifCond .eq 2, .bipush (-1000000011), .ireturn]
def hy_B108_2 : List Instr := [.bipush 0, .istore 3, .goto_w 3]
def hy_B108_3 : List Instr := [.iload 3, .aload 2, .getfield 322, .if_icmp .ge 6, .aload 2, .iload 3, .invokevirtual 72, .ifCond .eq 5, .aload 0, .getfield 66, .iload 3, .invokevirtual 11, .ifCond .eq 4, .aload 0, .getfield 66, .getfield 449, .iload 3, .aaload, .getfield 514, .aload 2, .getfield 320, .iload 3, .iaload, .if_icmp .eq 5, .goto_w 4]
def hy_B108_4 : List Instr := [.iload 3, .ireturn]
def hy_B108_5 : List Instr := [.iinc 3 1, .goto 3]
def hy_B108_6 : List Instr := [.bipush (-1000000005), .ireturn]
def hy_K108 : List (Nat × List Instr) := [(0, hy_B108_0), (10, hy_B108_1), (27, hy_B108_2), (29, hy_B108_3), (77, hy_B108_4), (79, hy_B108_5), (85, hy_B108_6)]
def hy_B109_0 : List Instr := [.iload 1, .invokestatic 69, .ifCond .eq 1, .iload 3, .invokestatic 69, .ifCond .ne 2, .goto_w 1]
def hy_B109_1 : List Instr := [.bipush (-1000000001), .ireturn]
def hy_B109_2 : List Instr := [.aload 0, .getfield 71, .iload 1, .aaload, .astore 6, .aload 0, .getfield 71, .iload 3, .aaload, .astore 7, .aload 6, .invokevirtual 70, .ifCond .ne 3, .aload 7, .invokevirtual 70, .ifCond .eq 4, .goto_w 3]
def hy_B109_3 : List Instr := [.bipush (-1000000011), .ireturn]
def hy_B109_4 : List Instr := [.aload 6, .getfield 321, .aload 7, .getfield 321, .if_icmp .eq 5, .bipush (-1000000012), .ireturn]
def hy_B109_5 : List Instr := [.aload 6, .iload 2, .iload 5, .invokevirtual 110, .ifCond .eq 6, .aload 7, .iload 4, .iload 5, .invokevirtual 110, .ifCond .ne 7, .goto_w 6]
def hy_B109_6 : List Instr := [.bipush (-1000000013), .ireturn]
def hy_B109_7 : List Instr := [.aload 6, .getfield 320, .iload 2, .aload 7, .getfield 320, .iload 4, .iload 5, .invokedynamic 3, .iload 5, .ireturn]
def hy_K109 : List (Nat × List Instr) := [(0, hy_B109_0), (14, hy_B109_1), (17, hy_B109_2), (49, hy_B109_3), (52, hy_B109_4), (68, hy_B109_5), (91, hy_B109_6), (95, hy_B109_7)]
def hy_B110_0 : List Instr := [.iload 1, .ifCond .lt 1, .iload 2, .ifCond .lt 1, .iload 1, .aload 0, .getfield 322, .iload 2, .isub, .if_icmp .gt 1, .bipush 1, .goto 2]
def hy_B110_1 : List Instr := [.bipush 0, .goto_w 2]
def hy_B110_2 : List Instr := [.ireturn]
def hy_K110 : List (Nat × List Instr) := [(0, hy_B110_0), (22, hy_B110_1), (23, hy_B110_2)]
def hy_B111_0 : List Instr := [.iload 1, .invokestatic 112, .ifCond .eq 1, .iload 2, .bipush 0, .bipush 3, .invokestatic 3, .ifCond .ne 2, .goto_w 1]
def hy_B111_1 : List Instr := [.bipush (-1000000001), .ireturn]
def hy_B111_2 : List Instr := [.aload 0, .getfield 72, .iload 1, .aaload, .astore 4, .iload 2, .bipush 1, .if_icmp .ne 4, .aload 0, .getfield 66, .iload 3, .invokevirtual 11, .ifCond .ne 3, .bipush (-1000000001), .ireturn]
def hy_B111_3 : List Instr := [.aload 4, .getfield 384, .aload 0, .getfield 66, .getfield 449, .iload 3, .aaload, .invokevirtual 50, .goto_w 4]
def hy_B111_4 : List Instr := [.iload 2, .bipush 2, .if_icmp .ne 7, .iload 3, .invokestatic 69, .ifCond .ne 5, .bipush (-1000000001), .ireturn]
def hy_B111_5 : List Instr := [.aload 0, .getfield 71, .iload 3, .aaload, .invokevirtual 70, .ifCond .eq 6, .bipush (-1000000011), .ireturn]
def hy_B111_6 : List Instr := [.aload 4, .getfield 385, .aload 0, .getfield 71, .iload 3, .aaload, .invokevirtual 113, .goto_w 7]
def hy_B111_7 : List Instr := [.iload 2, .bipush 3, .if_icmp .ne 8, .aload 4, .iload 3, .putfield 387, .goto_w 8]
def hy_B111_8 : List Instr := [.aload 4, .getfield 386, .istore 5, .aload 4, .iload 2, .putfield 386, .iload 5, .ireturn]
def hy_K111 : List (Nat × List Instr) := [(0, hy_B111_0), (16, hy_B111_1), (19, hy_B111_2), (46, hy_B111_3), (63, hy_B111_4), (78, hy_B111_5), (93, hy_B111_6), (107, hy_B111_7), (118, hy_B111_8)]
def hy_B112_0 : List Instr := [.iload 0, .bipush 0, .bipush 4, .invokestatic 3, .ireturn]
def hy_K112 : List (Nat × List Instr) := [(0, hy_B112_0)]
def hy_B113_0 : List Instr := [.aload 1, .getfield 320, .bipush 0, .aload 0, .getfield 320, .bipush 0, .bipush 24, .invokedynamic 3, .aload 0, .aload 1, .getfield 321, .putfield 321, .aload 0, .aload 1, .getfield 322, .putfield 322, .return_]
def hy_K113 : List (Nat × List Instr) := [(0, hy_B113_0)]
def hy_B114_0 : List Instr := [.iload 1, .invokestatic 112, .ifCond .eq 1, .iload 2, .invokestatic 2, .ifCond .ne 2, .goto_w 1]
def hy_B114_1 : List Instr := [.bipush (-1000000001), .ireturn]
def hy_B114_2 : List Instr := [.aload 0, .getfield 72, .iload 1, .aaload, .bipush 1, .invokestatic 115, .istore 3, .iload 3, .bipush (-1000000005), .if_icmp .eq 3, .iload 3, .ireturn]
def hy_B114_3 : List Instr := [.aload 0, .getfield 72, .iload 1, .aaload, .getfield 384, .astore 4, .aload 4, .iload 2, .invokevirtual 24, .ifCond .eq 4, .aload 4, .invokevirtual 18, .goto 5]
def hy_B114_4 : List Instr := [.bipush (-1000000012), .goto_w 5]
def hy_B114_5 : List Instr := [.ireturn]
def hy_K114 : List (Nat × List Instr) := [(0, hy_B114_0), (14, hy_B114_1), (17, hy_B114_2), (36, hy_B114_3), (64, hy_B114_4), (66, hy_B114_5)]
def hy_B115_0 : List Instr := [.aload 0, .getfield 386, .ifCond .ne 1, .bipush (-1000000011), .ireturn]
def hy_B115_1 : List Instr := [.aload 0, .getfield 386, .iload 1, .if_icmp .ne 2, .bipush (-1000000005), .goto 3]
def hy_B115_2 : List Instr := [.bipush (-1000000012), .goto_w 3]
def hy_B115_3 : List Instr := [.ireturn]
def hy_K115 : List (Nat × List Instr) := [(0, hy_B115_0), (10, hy_B115_1), (23, hy_B115_2), (25, hy_B115_3)]
def hy_B116_0 : List Instr := [.iload 1, .invokestatic 112, .ifCond .ne 1, .bipush (-1000000001), .ireturn]
def hy_B116_1 : List Instr := [.aload 0, .getfield 72, .iload 1, .aaload, .bipush 2, .invokestatic 115, .istore 3, .iload 3, .bipush (-1000000005), .if_icmp .eq 2, .iload 3, .ireturn]
def hy_B116_2 : List Instr := [.aload 0, .getfield 72, .iload 1, .aaload, .getfield 385, .astore 4, .aload 4, .iload 2, .invokevirtual 73, .ifCond .ne 3, .bipush (-1000000013), .ireturn]
def hy_B116_3 : List Instr := [.aload 4, .iload 2, .invokevirtual 72, .ifCond .eq 4, .aload 4, .getfield 320, .iload 2, .iaload, .goto 5]
def hy_B116_4 : List Instr := [.bipush (-1000000012), .goto_w 5]
def hy_B116_5 : List Instr := [.ireturn]
def hy_K116 : List (Nat × List Instr) := [(0, hy_B116_0), (10, hy_B116_1), (29, hy_B116_2), (53, hy_B116_3), (72, hy_B116_4), (74, hy_B116_5)]
def hy_B117_0 : List Instr := [.iload 1, .invokestatic 112, .ifCond .ne 1, .bipush (-1000000001), .ireturn]
def hy_B117_1 : List Instr := [.aload 0, .getfield 72, .iload 1, .aaload, .bipush 3, .invokestatic 115, .istore 3, .iload 3, .bipush (-1000000005), .if_icmp .eq 2, .iload 3, .ireturn]
def hy_B117_2 : List Instr := [.iload 2, .ifCond .ne 3, .bipush (-1000000002), .goto 4]
def hy_B117_3 : List Instr := [.aload 0, .getfield 72, .iload 1, .aaload, .getfield 387, .iload 2, .irem, .goto_w 4]
def hy_B117_4 : List Instr := [.ireturn]
def hy_K117 : List (Nat × List Instr) := [(0, hy_B117_0), (10, hy_B117_1), (29, hy_B117_2), (38, hy_B117_3), (49, hy_B117_4)]
def hy_B118_0 : List Instr := [.aload 0, .getfield 74, .bipush 60, .if_icmp .lt 1, .bipush (-1000000003), .ireturn]
def hy_B118_1 : List Instr := [.aload 0, .getfield 73, .aload 0, .getfield 74, .iload 1, .iastore, .aload 0, .dup, .getfield 74, .bipush 1, .iadd, .putfield 74, .aload 0, .getfield 74, .ireturn]
def hy_K118 : List (Nat × List Instr) := [(0, hy_B118_0), (12, hy_B118_1)]
def hy_B119_0 : List Instr := [.aload 0, .getfield 74, .istore 2, .aload 0, .bipush 0, .putfield 74, .iload 1, .bipush 1, .bipush 30, .invokestatic 3, .ifCond .ne 1, .bipush (-1000000001), .ireturn]
def hy_B119_1 : List Instr := [.aload 0, .getfield 69, .ifCond .ne 2, .bipush (-1000000002), .ireturn]
def hy_B119_2 : List Instr := [.aload 0, .getfield 67, .aload 0, .getfield 68, .invokevirtual 49, .iload 1, .bipush 9999, .aload 0, .getfield 68, .getfield 459, .isub, .invokedynamic 1, .istore 3, .bipush 0, .istore 4, .bipush 0, .istore 5, .goto_w 3]
def hy_B119_3 : List Instr := [.iload 5, .iload 3, .if_icmp .ge 6, .aload 0, .getfield 67, .bipush 1, .invokevirtual 58, .aload 0, .iload 4, .iload 2, .aload 0, .getfield 67, .bipush 0, .invokevirtual 45, .invokevirtual 120, .ifCond .ne 4, .bipush 1, .iload 4, .iadd, .ireturn]
def hy_B119_4 : List Instr := [.iinc 4 1, .aload 0, .iload 4, .iload 2, .aload 0, .getfield 67, .invokevirtual 63, .invokevirtual 120, .ifCond .ne 5, .bipush 1, .iload 4, .iadd, .ireturn]
def hy_B119_5 : List Instr := [.iinc 4 1, .iinc 5 1, .goto 3]
def hy_B119_6 : List Instr := [.iload 4, .iload 2, .if_icmp .ne 7, .bipush 0, .goto 8]
def hy_B119_7 : List Instr := [.bipush 1, .iload 4, .iadd, .goto_w 8]
def hy_B119_8 : List Instr := [.ireturn]
def hy_K119 : List (Nat × List Instr) := [(0, hy_B119_0), (23, hy_B119_1), (33, hy_B119_2), (66, hy_B119_3), (103, hy_B119_4), (128, hy_B119_5), (137, hy_B119_6), (147, hy_B119_7), (151, hy_B119_8)]
def hy_B120_0 : List Instr := [.iload 1, .iload 2, .if_icmp .ge 1, .aload 0, .getfield 73, .iload 1, .iaload, .iload 3, .if_icmp .ne 1, .bipush 1, .goto 2]
def hy_B120_1 : List Instr := [.bipush 0, .goto_w 2]
def hy_B120_2 : List Instr := [.ireturn]
def hy_K120 : List (Nat × List Instr) := [(0, hy_B120_0), (19, hy_B120_1), (20, hy_B120_2)]
def hy_B121_0 : List Instr := [.aload 0, .getfield 68, .aload 0, .getfield 66, .invokevirtual 49, .aload 0, .bipush 1, .putfield 69, .aload 0, .getfield 68, .getfield 455, .ireturn]
def hy_K121 : List (Nat × List Instr) := [(0, hy_B121_0)]
def hy_B122_0 : List Instr := [.aload 0, .getfield 69, .ifCond .ne 1, .bipush (-1000000002), .ireturn]
def hy_B122_1 : List Instr := [.aload 0, .getfield 66, .aload 0, .getfield 68, .invokevirtual 49, .aload 0, .getfield 66, .getfield 455, .ireturn]
def hy_K122 : List (Nat × List Instr) := [(0, hy_B122_0), (10, hy_B122_1)]
def hy_B123_0 : List Instr := [.iload 1, .tableswitch 11 0 9 #[1, 2, 3, 4, 5, 6, 7, 8, 9, 10]]
def hy_B123_1 : List Instr := [.aload 0, .getfield 66, .getfield 455, .ireturn]
def hy_B123_2 : List Instr := [.aload 0, .getfield 66, .getfield 459, .ireturn]
def hy_B123_3 : List Instr := [.aload 0, .getfield 66, .getfield 456, .ireturn]
def hy_B123_4 : List Instr := [.aload 0, .getfield 66, .getfield 457, .ireturn]
def hy_B123_5 : List Instr := [.aload 0, .getfield 66, .getfield 458, .ireturn]
def hy_B123_6 : List Instr := [.aload 0, .getfield 66, .invokevirtual 56, .ireturn]
def hy_B123_7 : List Instr := [.aload 0, .getfield 66, .getfield 461, .ireturn]
def hy_B123_8 : List Instr := [.aload 0, .getfield 74, .ireturn]
def hy_B123_9 : List Instr := [.aload 0, .getfield 65, .getfield 130, .ireturn]
def hy_B123_10 : List Instr := [.aload 0, .getfield 66, .getfield 460, .ireturn]
def hy_B123_11 : List Instr := [.bipush (-1000000001), .ireturn]
def hy_K123 : List (Nat × List Instr) := [(0, hy_B123_0), (56, hy_B123_1), (64, hy_B123_2), (72, hy_B123_3), (80, hy_B123_4), (88, hy_B123_5), (96, hy_B123_6), (104, hy_B123_7), (112, hy_B123_8), (117, hy_B123_9), (125, hy_B123_10), (133, hy_B123_11)]
def hy_B124_0 : List Instr := [.iload 1, .bipush 0, .bipush 5, .invokestatic 125, .ifCond .eq 1, .iload 2, .bipush 0, .bipush 1, .invokestatic 125, .ifCond .eq 1, .iload 3, .invokestatic 126, .ifCond .eq 1, .iload 4, .bipush 1, .bipush 99, .invokestatic 125, .ifCond .ne 2, .goto_w 1]
def hy_B124_1 : List Instr := [.bipush (-1000000001), .ireturn]
def hy_B124_2 : List Instr := [.aload 0, .iload 3, .invokevirtual 127, .ifCond .lt 3, .bipush (-1000000002), .ireturn]
def hy_B124_3 : List Instr := [.aload 0, .getfield 576, .bipush 1, .iaload, .bipush 12, .if_icmp .ne 4, .bipush (-1000000003), .goto 5]
def hy_B124_4 : List Instr := [.aload 0, .iload 1, .iload 2, .iload 3, .iload 4, .invokevirtual 129, .goto_w 5]
def hy_B124_5 : List Instr := [.ireturn]
def hy_K124 : List (Nat × List Instr) := [(0, hy_B124_0), (36, hy_B124_1), (39, hy_B124_2), (50, hy_B124_3), (66, hy_B124_4), (75, hy_B124_5)]
def hy_B125_0 : List Instr := [.iload 0, .iload 1, .if_icmp .lt 1, .iload 0, .iload 2, .if_icmp .gt 1, .bipush 1, .goto 2]
def hy_B125_1 : List Instr := [.bipush 0, .goto_w 2]
def hy_B125_2 : List Instr := [.ireturn]
def hy_K125 : List (Nat × List Instr) := [(0, hy_B125_0), (14, hy_B125_1), (15, hy_B125_2)]
def hy_B126_0 : List Instr := [.iload 0, .bipush 0, .bipush 35, .invokestatic 125, .ireturn]
def hy_K126 : List (Nat × List Instr) := [(0, hy_B126_0)]
def hy_B127_0 : List Instr := [.bipush (-1), .istore 2, .bipush 0, .istore 3, .goto_w 1]
def hy_B127_1 : List Instr := [.iload 3, .aload 0, .getfield 576, .bipush 1, .iaload, .if_icmp .ge 4, .aload 0, .iload 3, .bipush 2, .invokevirtual 128, .iload 1, .if_icmp .ne 2, .iload 3, .goto 3]
def hy_B127_2 : List Instr := [.iload 2, .goto_w 3]
def hy_B127_3 : List Instr := [.istore 2, .iinc 3 1, .goto 1]
def hy_B127_4 : List Instr := [.iload 2, .ireturn]
def hy_K127 : List (Nat × List Instr) := [(0, hy_B127_0), (4, hy_B127_1), (28, hy_B127_2), (29, hy_B127_3), (36, hy_B127_4)]
def hy_B128_0 : List Instr := [.aload 0, .getfield 576, .bipush 7, .bipush 6, .iload 1, .imul, .iadd, .iload 2, .iadd, .iaload, .ireturn]
def hy_K128 : List (Nat × List Instr) := [(0, hy_B128_0)]
def hy_B129_0 : List Instr := [.aload 0, .getfield 576, .bipush 1, .iaload, .istore 5, .aload 0, .getfield 576, .bipush 1, .dup2, .iaload, .bipush 1, .iadd, .iastore, .aload 0, .iload 5, .bipush 0, .iload 1, .invokevirtual 130, .aload 0, .iload 5, .bipush 1, .iload 2, .invokevirtual 130, .aload 0, .iload 5, .bipush 2, .iload 3, .invokevirtual 130, .aload 0, .iload 5, .bipush 3, .iload 4, .invokevirtual 130, .aload 0, .iload 5, .bipush 4, .bipush 0, .invokevirtual 130, .aload 0, .iload 5, .bipush 5, .bipush 0, .invokevirtual 130, .iload 5, .ireturn]
def hy_K129 : List (Nat × List Instr) := [(0, hy_B129_0)]
def hy_B130_0 : List Instr := [.aload 0, .getfield 576, .bipush 7, .bipush 6, .iload 1, .imul, .iadd, .iload 2, .iadd, .iload 3, .iastore, .return_]
def hy_K130 : List (Nat × List Instr) := [(0, hy_B130_0)]
def hy_B131_0 : List Instr := [.aload 0, .iload 1, .invokevirtual 132, .ifCond .eq 1, .iload 2, .bipush 0, .bipush 8, .invokestatic 125, .ifCond .ne 2, .goto_w 1]
def hy_B131_1 : List Instr := [.bipush (-1000000001), .ireturn]
def hy_B131_2 : List Instr := [.iload 2, .bipush 6, .if_icmp .ge 3, .aload 0, .iload 1, .iload 2, .invokevirtual 128, .goto 6]
def hy_B131_3 : List Instr := [.iload 2, .bipush 6, .if_icmp .ne 4, .aload 0, .iload 1, .invokevirtual 133, .goto 6]
def hy_B131_4 : List Instr := [.iload 2, .bipush 7, .if_icmp .ne 5, .aload 0, .iload 1, .invokevirtual 138, .goto 6]
def hy_B131_5 : List Instr := [.aload 0, .iload 1, .invokevirtual 139, .goto_w 6]
def hy_B131_6 : List Instr := [.ireturn]
def hy_K131 : List (Nat × List Instr) := [(0, hy_B131_0), (18, hy_B131_1), (21, hy_B131_2), (36, hy_B131_3), (50, hy_B131_4), (64, hy_B131_5), (69, hy_B131_6)]
def hy_B132_0 : List Instr := [.iload 1, .bipush 0, .aload 0, .getfield 576, .bipush 1, .iaload, .bipush 1, .isub, .invokestatic 125, .ireturn]
def hy_K132 : List (Nat × List Instr) := [(0, hy_B132_0)]
def hy_B133_0 : List Instr := [.aload 0, .bipush 0, .invokevirtual 134, .istore 2, .aload 0, .getfield 601, .bipush 0, .aload 0, .iload 1, .bipush 3, .invokevirtual 128, .iastore, .aload 0, .getfield 601, .bipush 1, .aload 0, .iload 1, .bipush 2, .invokevirtual 128, .iastore, .aload 0, .getfield 601, .bipush 2, .aload 0, .iload 1, .bipush 4, .invokevirtual 128, .iastore, .iload 2, .ifCond .ge 1, .aload 0, .iload 1, .bipush 3, .invokevirtual 128, .goto 2]
def hy_B133_1 : List Instr := [.aload 0, .iload 2, .invokevirtual 135, .bipush 0, .bipush 999, .invokestatic 137, .goto_w 2]
def hy_B133_2 : List Instr := [.istore 3, .aload 0, .iload 1, .bipush 0, .invokevirtual 128, .tableswitch 8 1 5 #[3, 4, 5, 6, 7]]
def hy_B133_3 : List Instr := [.iload 3, .bipush 9, .iadd, .ireturn]
def hy_B133_4 : List Instr := [.bipush 2, .iload 3, .imul, .bipush 0, .bipush 999, .invokestatic 137, .ireturn]
def hy_B133_5 : List Instr := [.iload 3, .bipush 29, .iadd, .bipush 2, .idiv, .ireturn]
def hy_B133_6 : List Instr := [.bipush 2, .iload 3, .imul, .bipush 0, .bipush 999, .invokestatic 137, .bipush 5, .isub, .bipush 0, .bipush 999, .invokestatic 137, .ireturn]
def hy_B133_7 : List Instr := [.bipush 1, .ireturn]
def hy_B133_8 : List Instr := [.iload 3, .ireturn]
def hy_K133 : List (Nat × List Instr) := [(0, hy_B133_0), (55, hy_B133_1), (67, hy_B133_2), (108, hy_B133_3), (113, hy_B133_4), (124, hy_B133_5), (131, hy_B133_6), (151, hy_B133_7), (153, hy_B133_8)]
def hy_B134_0 : List Instr := [.aload 0, .getfield 576, .bipush 6, .iaload, .bipush 1, .isub, .istore 2, .goto_w 1]
def hy_B134_1 : List Instr := [.iload 2, .ifCond .lt 3, .aload 0, .getfield 576, .bipush 79, .bipush 2, .iload 2, .imul, .iadd, .iaload, .bipush 1000, .idiv, .iload 1, .if_icmp .ne 2, .iload 2, .ireturn]
def hy_B134_2 : List Instr := [.iinc 2 (-1), .goto 1]
def hy_B134_3 : List Instr := [.bipush (-1), .ireturn]
def hy_K134 : List (Nat × List Instr) := [(0, hy_B134_0), (10, hy_B134_1), (35, hy_B134_2), (41, hy_B134_3)]
def hy_B135_0 : List Instr := [.bipush 0, .istore 2, .aload 0, .getfield 576, .bipush 79, .bipush 2, .iload 1, .imul, .iadd, .iaload, .bipush 1000, .irem, .istore 3, .bipush 0, .istore 4, .goto_w 1]
def hy_B135_1 : List Instr := [.iload 4, .iload 3, .if_icmp .ge 9, .aload 0, .getfield 576, .bipush 107, .bipush 96, .iload 1, .imul, .iadd, .iload 4, .iadd, .iaload, .istore 5, .iload 5, .ifCond .lt 4, .aload 0, .getfield 600, .iload 2, .iload 5, .bipush 10000, .if_icmp .ge 2, .iload 5, .goto 3]
def hy_B135_2 : List Instr := [.aload 0, .getfield 601, .iload 5, .bipush 10000, .isub, .iaload, .goto_w 3]
def hy_B135_3 : List Instr := [.iastore, .iinc 2 1, .goto 8]
def hy_B135_4 : List Instr := [.iload 5, .bipush (-10), .if_icmp .ne 7, .aload 0, .getfield 600, .iload 2, .bipush 1, .isub, .aload 0, .getfield 600, .iload 2, .bipush 1, .isub, .iaload, .ifCond .ne 5, .bipush 1, .goto 6]
def hy_B135_5 : List Instr := [.bipush 0, .goto_w 6]
def hy_B135_6 : List Instr := [.iastore, .goto 8]
def hy_B135_7 : List Instr := [.iinc 2 (-1), .aload 0, .getfield 600, .iload 2, .bipush 1, .isub, .iload 5, .aload 0, .getfield 600, .iload 2, .bipush 1, .isub, .iaload, .aload 0, .getfield 600, .iload 2, .iaload, .invokestatic 136, .iastore, .goto_w 8]
def hy_B135_8 : List Instr := [.iinc 4 1, .goto 1]
def hy_B135_9 : List Instr := [.aload 0, .getfield 600, .bipush 0, .iaload, .ireturn]
def hy_K135 : List (Nat × List Instr) := [(0, hy_B135_0), (21, hy_B135_1), (67, hy_B135_2), (78, hy_B135_3), (85, hy_B135_4), (114, hy_B135_5), (115, hy_B135_6), (119, hy_B135_7), (149, hy_B135_8), (155, hy_B135_9)]
def hy_B136_0 : List Instr := [.iload 0, .tableswitch 20 (-8) (-1) #[19, 18, 17, 14, 11, 8, 5, 1]]
def hy_B136_1 : List Instr := [.iload 1, .ifCond .ne 2, .iload 2, .ifCond .eq 3, .goto_w 2]
def hy_B136_2 : List Instr := [.bipush 1, .goto 4]
def hy_B136_3 : List Instr := [.bipush 0, .goto_w 4]
def hy_B136_4 : List Instr := [.ireturn]
def hy_B136_5 : List Instr := [.iload 1, .ifCond .eq 6, .iload 2, .ifCond .eq 6, .bipush 1, .goto 7]
def hy_B136_6 : List Instr := [.bipush 0, .goto_w 7]
def hy_B136_7 : List Instr := [.ireturn]
def hy_B136_8 : List Instr := [.iload 1, .iload 2, .if_icmp .ge 9, .bipush 1, .goto 10]
def hy_B136_9 : List Instr := [.bipush 0, .goto_w 10]
def hy_B136_10 : List Instr := [.ireturn]
def hy_B136_11 : List Instr := [.iload 1, .iload 2, .if_icmp .ne 12, .bipush 1, .goto 13]
def hy_B136_12 : List Instr := [.bipush 0, .goto_w 13]
def hy_B136_13 : List Instr := [.ireturn]
def hy_B136_14 : List Instr := [.iload 1, .iload 2, .if_icmp .le 15, .bipush 1, .goto 16]
def hy_B136_15 : List Instr := [.bipush 0, .goto_w 16]
def hy_B136_16 : List Instr := [.ireturn]
def hy_B136_17 : List Instr := [.iload 1, .iload 2, .iadd, .ireturn]
def hy_B136_18 : List Instr := [.iload 1, .iload 2, .isub, .ireturn]
def hy_B136_19 : List Instr := [.iload 1, .iload 2, .imul, .ireturn]
def hy_B136_20 : List Instr := [.iload 2, .ifCond .ne 21, .bipush 0, .goto 22]
def hy_B136_21 : List Instr := [.iload 1, .iload 2, .idiv, .goto_w 22]
def hy_B136_22 : List Instr := [.ireturn]
def hy_K136 : List (Nat × List Instr) := [(0, hy_B136_0), (48, hy_B136_1), (56, hy_B136_2), (60, hy_B136_3), (61, hy_B136_4), (62, hy_B136_5), (74, hy_B136_6), (75, hy_B136_7), (76, hy_B136_8), (85, hy_B136_9), (86, hy_B136_10), (87, hy_B136_11), (96, hy_B136_12), (97, hy_B136_13), (98, hy_B136_14), (107, hy_B136_15), (108, hy_B136_16), (109, hy_B136_17), (113, hy_B136_18), (117, hy_B136_19), (121, hy_B136_20), (129, hy_B136_21), (132, hy_B136_22)]
def hy_B137_0 : List Instr := [.iload 0, .iload 1, .if_icmp .ge 1, .iload 1, .goto 3]
def hy_B137_1 : List Instr := [.iload 0, .iload 2, .if_icmp .le 2, .iload 2, .goto 3]
def hy_B137_2 : List Instr := [.iload 0, .goto_w 3]
def hy_B137_3 : List Instr := [.ireturn]
def hy_K137 : List (Nat × List Instr) := [(0, hy_B137_0), (9, hy_B137_1), (18, hy_B137_2), (19, hy_B137_3)]
def hy_B138_0 : List Instr := [.aload 0, .iload 1, .bipush 0, .invokevirtual 128, .tableswitch 4 2 5 #[1, 4, 2, 3]]
def hy_B138_1 : List Instr := [.bipush 3, .ireturn]
def hy_B138_2 : List Instr := [.bipush 4, .ireturn]
def hy_B138_3 : List Instr := [.bipush 0, .ireturn]
def hy_B138_4 : List Instr := [.bipush 5, .ireturn]
def hy_K138 : List (Nat × List Instr) := [(0, hy_B138_0), (36, hy_B138_1), (38, hy_B138_2), (40, hy_B138_3), (42, hy_B138_4)]
def hy_B139_0 : List Instr := [.aload 0, .iload 1, .bipush 3, .invokevirtual 128, .istore 2, .aload 0, .iload 1, .bipush 0, .invokevirtual 128, .tableswitch 6 1 5 #[1, 2, 3, 4, 5]]
def hy_B139_1 : List Instr := [.iload 2, .bipush 4, .iadd, .ireturn]
def hy_B139_2 : List Instr := [.bipush 99, .iload 2, .isub, .ireturn]
def hy_B139_3 : List Instr := [.bipush 2, .iload 2, .bipush 4, .iadd, .imul, .ireturn]
def hy_B139_4 : List Instr := [.bipush 92, .iload 2, .isub, .ireturn]
def hy_B139_5 : List Instr := [.bipush 2, .ireturn]
def hy_B139_6 : List Instr := [.iload 2, .ireturn]
def hy_K139 : List (Nat × List Instr) := [(0, hy_B139_0), (48, hy_B139_1), (52, hy_B139_2), (57, hy_B139_3), (63, hy_B139_4), (68, hy_B139_5), (70, hy_B139_6)]
def hy_B140_0 : List Instr := [.iload 1, .invokestatic 126, .ifCond .eq 1, .aload 0, .iload 1, .invokevirtual 127, .invokestatic 141, .goto 2]
def hy_B140_1 : List Instr := [.bipush (-1000000001), .goto_w 2]
def hy_B140_2 : List Instr := [.ireturn]
def hy_K140 : List (Nat × List Instr) := [(0, hy_B140_0), (18, hy_B140_1), (20, hy_B140_2)]
def hy_B141_0 : List Instr := [.iload 0, .ifCond .ge 1, .bipush (-1000000005), .goto 2]
def hy_B141_1 : List Instr := [.iload 0, .goto_w 2]
def hy_B141_2 : List Instr := [.ireturn]
def hy_K141 : List (Nat × List Instr) := [(0, hy_B141_0), (9, hy_B141_1), (10, hy_B141_2)]
def hy_B142_0 : List Instr := [.aload 0, .iload 1, .invokevirtual 132, .ifCond .eq 1, .iload 2, .invokestatic 126, .ifCond .ne 2, .goto_w 1]
def hy_B142_1 : List Instr := [.bipush (-1000000001), .ireturn]
def hy_B142_2 : List Instr := [.aload 0, .iload 1, .iload 2, .invokevirtual 143, .ifCond .eq 3, .bipush 1, .goto 4]
def hy_B142_3 : List Instr := [.bipush 0, .goto_w 4]
def hy_B142_4 : List Instr := [.ireturn]
def hy_K142 : List (Nat × List Instr) := [(0, hy_B142_0), (15, hy_B142_1), (18, hy_B142_2), (31, hy_B142_3), (32, hy_B142_4)]
def hy_B143_0 : List Instr := [.aload 0, .iload 1, .bipush 2, .invokevirtual 128, .istore 3, .aload 0, .iload 2, .invokevirtual 127, .istore 4, .iload 3, .bipush 36, .if_icmp .eq 1, .iload 3, .iload 2, .if_icmp .eq 1, .iload 4, .ifCond .lt 2, .aload 0, .iload 4, .bipush 1, .invokevirtual 128, .aload 0, .iload 1, .bipush 1, .invokevirtual 128, .if_icmp .ne 2, .goto_w 1]
def hy_B143_1 : List Instr := [.bipush 0, .ireturn]
def hy_B143_2 : List Instr := [.iload 3, .bipush 6, .idiv, .iload 2, .bipush 6, .idiv, .invokestatic 144, .istore 5, .iload 3, .bipush 6, .irem, .iload 2, .bipush 6, .irem, .invokestatic 144, .istore 6, .iload 5, .ifCond .eq 3, .iload 6, .ifCond .ne 4, .goto_w 3]
def hy_B143_3 : List Instr := [.bipush 1, .goto 5]
def hy_B143_4 : List Instr := [.bipush 0, .goto_w 5]
def hy_B143_5 : List Instr := [.istore 7, .iload 5, .iload 6, .iadd, .bipush 1, .if_icmp .ne 6, .bipush 1, .goto 7]
def hy_B143_6 : List Instr := [.bipush 0, .goto_w 7]
def hy_B143_7 : List Instr := [.istore 8, .iload 5, .bipush 1, .if_icmp .ne 8, .iload 6, .bipush 1, .if_icmp .ne 8, .bipush 1, .goto 9]
def hy_B143_8 : List Instr := [.bipush 0, .goto_w 9]
def hy_B143_9 : List Instr := [.istore 9, .aload 0, .iload 1, .bipush 0, .invokevirtual 128, .tableswitch 22 1 5 #[10, 13, 14, 17, 21]]
def hy_B143_10 : List Instr := [.iload 7, .ifCond .eq 11, .aload 0, .iload 3, .iload 2, .invokevirtual 145, .ifCond .eq 11, .bipush 1, .goto 12]
def hy_B143_11 : List Instr := [.bipush 0, .goto_w 12]
def hy_B143_12 : List Instr := [.ireturn]
def hy_B143_13 : List Instr := [.iload 9, .ireturn]
def hy_B143_14 : List Instr := [.iload 7, .ifCond .eq 15, .iload 5, .iload 6, .iadd, .bipush 4, .if_icmp .ge 15, .aload 0, .iload 3, .iload 2, .invokevirtual 145, .ifCond .eq 15, .bipush 1, .goto 16]
def hy_B143_15 : List Instr := [.bipush 0, .goto_w 16]
def hy_B143_16 : List Instr := [.ireturn]
def hy_B143_17 : List Instr := [.iload 9, .ifCond .ne 18, .iload 8, .ifCond .eq 19, .goto_w 18]
def hy_B143_18 : List Instr := [.bipush 1, .goto 20]
def hy_B143_19 : List Instr := [.bipush 0, .goto_w 20]
def hy_B143_20 : List Instr := [.ireturn]
def hy_B143_21 : List Instr := [.bipush 0, .ireturn]
def hy_B143_22 : List Instr := [.iload 8, .ireturn]
def hy_K143 : List (Nat × List Instr) := [(0, hy_B143_0), (46, hy_B143_1), (48, hy_B143_2), (84, hy_B143_3), (88, hy_B143_4), (89, hy_B143_5), (104, hy_B143_6), (105, hy_B143_7), (123, hy_B143_8), (124, hy_B143_9), (168, hy_B143_10), (186, hy_B143_11), (187, hy_B143_12), (188, hy_B143_13), (191, hy_B143_14), (218, hy_B143_15), (219, hy_B143_16), (220, hy_B143_17), (230, hy_B143_18), (234, hy_B143_19), (235, hy_B143_20), (236, hy_B143_21), (238, hy_B143_22)]
def hy_B144_0 : List Instr := [.iload 0, .iload 1, .if_icmp .ge 1, .iload 1, .iload 0, .isub, .goto 2]
def hy_B144_1 : List Instr := [.iload 0, .iload 1, .isub, .goto_w 2]
def hy_B144_2 : List Instr := [.ireturn]
def hy_K144 : List (Nat × List Instr) := [(0, hy_B144_0), (11, hy_B144_1), (14, hy_B144_2)]
def hy_B145_0 : List Instr := [.iload 1, .bipush 6, .idiv, .iload 2, .bipush 6, .idiv, .if_icmp .ne 2, .iload 1, .iload 2, .if_icmp .ge 1, .bipush 1, .goto 4]
def hy_B145_1 : List Instr := [.bipush (-1), .goto 4]
def hy_B145_2 : List Instr := [.iload 1, .iload 2, .if_icmp .ge 3, .bipush 6, .goto 4]
def hy_B145_3 : List Instr := [.bipush (-6), .goto_w 4]
def hy_B145_4 : List Instr := [.istore 3, .bipush 1, .istore 4, .iload 1, .iload 3, .iadd, .istore 5, .goto_w 5]
def hy_B145_5 : List Instr := [.iload 5, .iload 2, .if_icmp .eq 8, .iload 4, .ifCond .eq 6, .aload 0, .iload 5, .invokevirtual 127, .ifCond .ge 6, .bipush 1, .goto 7]
def hy_B145_6 : List Instr := [.bipush 0, .goto_w 7]
def hy_B145_7 : List Instr := [.istore 4, .iload 5, .iload 3, .iadd, .istore 5, .goto 5]
def hy_B145_8 : List Instr := [.iload 4, .ireturn]
def hy_K145 : List (Nat × List Instr) := [(0, hy_B145_0), (20, hy_B145_1), (24, hy_B145_2), (34, hy_B145_3), (36, hy_B145_4), (45, hy_B145_5), (69, hy_B145_6), (70, hy_B145_7), (81, hy_B145_8)]
def hy_B146_0 : List Instr := [.aload 0, .iload 1, .invokevirtual 132, .ifCond .eq 1, .iload 2, .bipush 0, .bipush 5, .invokestatic 125, .ifCond .ne 2, .goto_w 1]
def hy_B146_1 : List Instr := [.bipush (-1000000001), .ireturn]
def hy_B146_2 : List Instr := [.aload 0, .iload 1, .bipush 0, .invokevirtual 128, .iload 2, .invokestatic 147, .ifCond .eq 3, .aload 0, .iload 1, .bipush 3, .invokevirtual 128, .goto 4]
def hy_B146_3 : List Instr := [.bipush (-1000000012), .goto_w 4]
def hy_B146_4 : List Instr := [.ireturn]
def hy_K146 : List (Nat × List Instr) := [(0, hy_B146_0), (17, hy_B146_1), (20, hy_B146_2), (42, hy_B146_3), (44, hy_B146_4)]
def hy_B147_0 : List Instr := [.iload 1, .ifCond .eq 2, .iload 0, .iload 1, .if_icmp .eq 2, .iload 1, .bipush 1, .if_icmp .ne 1, .iload 0, .bipush 3, .if_icmp .eq 2, .goto_w 1]
def hy_B147_1 : List Instr := [.iload 1, .bipush 2, .if_icmp .ne 3, .iload 0, .bipush 4, .if_icmp .ne 3, .goto_w 2]
def hy_B147_2 : List Instr := [.bipush 1, .goto 4]
def hy_B147_3 : List Instr := [.bipush 0, .goto_w 4]
def hy_B147_4 : List Instr := [.ireturn]
def hy_K147 : List (Nat × List Instr) := [(0, hy_B147_0), (19, hy_B147_1), (29, hy_B147_2), (33, hy_B147_3), (34, hy_B147_4)]
def hy_B148_0 : List Instr := [.aload 0, .iload 1, .invokevirtual 132, .ifCond .eq 1, .iload 2, .bipush 0, .bipush 5, .invokestatic 125, .ifCond .eq 1, .aload 0, .bipush 7, .bipush 6, .iload 1, .imul, .iadd, .iload 2, .invokevirtual 149, .goto 2]
def hy_B148_1 : List Instr := [.bipush (-1000000001), .goto_w 2]
def hy_B148_2 : List Instr := [.ireturn]
def hy_K148 : List (Nat × List Instr) := [(0, hy_B148_0), (32, hy_B148_1), (34, hy_B148_2)]
def hy_B149_0 : List Instr := [.aload 0, .getfield 576, .iload 1, .iaload, .istore 3, .aload 0, .getfield 576, .iload 1, .iload 2, .iastore, .iload 3, .ireturn]
def hy_K149 : List (Nat × List Instr) := [(0, hy_B149_0)]
def hy_B150_0 : List Instr := [.aload 0, .iload 1, .invokevirtual 132, .ifCond .eq 6, .iload 2, .bipush 1, .bipush 3, .invokestatic 125, .ifCond .eq 6, .iload 3, .iload 2, .bipush 3, .if_icmp .ne 1, .bipush 1, .goto 2]
def hy_B150_1 : List Instr := [.bipush 0, .goto_w 2]
def hy_B150_2 : List Instr := [.iload 2, .bipush 1, .if_icmp .ne 3, .bipush 1, .goto 5]
def hy_B150_3 : List Instr := [.iload 2, .bipush 2, .if_icmp .ne 4, .bipush 36, .goto 5]
def hy_B150_4 : List Instr := [.bipush 99, .goto_w 5]
def hy_B150_5 : List Instr := [.invokestatic 125, .ifCond .ne 7, .goto_w 6]
def hy_B150_6 : List Instr := [.bipush (-1000000001), .ireturn]
def hy_B150_7 : List Instr := [.iload 2, .bipush 2, .if_icmp .ne 8, .iload 3, .bipush 36, .if_icmp .ge 8, .aload 0, .iload 3, .invokevirtual 127, .ifCond .lt 8, .aload 0, .iload 3, .invokevirtual 127, .iload 1, .if_icmp .eq 8, .bipush (-1000000002), .ireturn]
def hy_B150_8 : List Instr := [.aload 0, .bipush 7, .bipush 6, .iload 1, .imul, .iadd, .iload 2, .iadd, .iload 3, .invokevirtual 149, .ireturn]
def hy_K150 : List (Nat × List Instr) := [(0, hy_B150_0), (27, hy_B150_1), (28, hy_B150_2), (37, hy_B150_3), (47, hy_B150_4), (49, hy_B150_5), (55, hy_B150_6), (58, hy_B150_7), (89, hy_B150_8)]
def hy_B151_0 : List Instr := [.iload 1, .bipush 0, .bipush 2, .invokestatic 125, .ifCond .eq 3, .iload 2, .bipush 0, .iload 1, .ifCond .ne 1, .bipush 1, .goto 2]
def hy_B151_1 : List Instr := [.bipush 100, .goto_w 2]
def hy_B151_2 : List Instr := [.invokestatic 125, .ifCond .eq 3, .aload 0, .bipush 3, .iload 1, .iadd, .iload 2, .invokevirtual 149, .goto 4]
def hy_B151_3 : List Instr := [.bipush (-1000000001), .goto_w 4]
def hy_B151_4 : List Instr := [.ireturn]
def hy_K151 : List (Nat × List Instr) := [(0, hy_B151_0), (19, hy_B151_1), (21, hy_B151_2), (38, hy_B151_3), (40, hy_B151_4)]
def hy_B152_0 : List Instr := [.iload 1, .bipush 1, .bipush 12, .invokestatic 125, .ifCond .ne 1, .bipush (-1000000001), .ireturn]
def hy_B152_1 : List Instr := [.bipush 0, .istore 2, .goto_w 2]
def hy_B152_2 : List Instr := [.iload 2, .iload 1, .if_icmp .ge 5, .aload 0, .getfield 576, .bipush 1, .iaload, .bipush 12, .if_icmp .ge 5, .aload 0, .invokevirtual 153, .bipush 6, .irem, .istore 3, .aload 0, .invokevirtual 153, .bipush 2, .irem, .istore 4, .aload 0, .invokevirtual 153, .bipush 36, .irem, .istore 5, .goto_w 3]
def hy_B152_3 : List Instr := [.aload 0, .iload 5, .invokevirtual 127, .ifCond .lt 4, .iload 5, .bipush 1, .iadd, .bipush 36, .irem, .istore 5, .goto 3]
def hy_B152_4 : List Instr := [.aload 0, .iload 3, .iload 4, .iload 5, .bipush 1, .aload 0, .invokevirtual 153, .bipush 60, .irem, .iadd, .invokevirtual 129, .istore 6, .iinc 2 1, .goto 2]
def hy_B152_5 : List Instr := [.iload 2, .ireturn]
def hy_K152 : List (Nat × List Instr) := [(0, hy_B152_0), (13, hy_B152_1), (15, hy_B152_2), (56, hy_B152_3), (77, hy_B152_4), (103, hy_B152_5)]
def hy_B153_0 : List Instr := [.aload 0, .getfield 576, .bipush 0, .aload 0, .getfield 576, .bipush 0, .iaload, .bipush 1103515245, .imul, .bipush 12345, .iadd, .iastore, .aload 0, .getfield 576, .bipush 0, .iaload, .bipush 8, .iushr, .ireturn]
def hy_K153 : List (Nat × List Instr) := [(0, hy_B153_0)]
def hy_B154_0 : List Instr := [.aload 0, .bipush 0, .iload 1, .invokevirtual 149, .ireturn]
def hy_K154 : List (Nat × List Instr) := [(0, hy_B154_0)]
def hy_B155_0 : List Instr := [.aload 0, .iload 1, .invokevirtual 132, .ifCond .eq 1, .iload 2, .invokestatic 126, .ifCond .ne 2, .goto_w 1]
def hy_B155_1 : List Instr := [.bipush (-1000000001), .ireturn]
def hy_B155_2 : List Instr := [.aload 0, .iload 1, .bipush 1, .invokevirtual 128, .aload 0, .getfield 576, .bipush 3, .iaload, .if_icmp .ne 3, .aload 0, .iload 1, .iload 2, .invokevirtual 143, .ifCond .ne 4, .goto_w 3]
def hy_B155_3 : List Instr := [.bipush (-1000000002), .ireturn]
def hy_B155_4 : List Instr := [.aload 0, .getfield 576, .bipush 3, .bipush 1, .aload 0, .getfield 576, .bipush 3, .iaload, .isub, .iastore, .aload 0, .iload 1, .iload 2, .invokevirtual 156, .invokestatic 141, .ireturn]
def hy_K155 : List (Nat × List Instr) := [(0, hy_B155_0), (15, hy_B155_1), (18, hy_B155_2), (42, hy_B155_3), (45, hy_B155_4)]
def hy_B156_0 : List Instr := [.aload 0, .iload 2, .invokevirtual 127, .istore 3, .aload 0, .iload 1, .bipush 2, .iload 2, .invokevirtual 130, .aload 0, .iload 1, .bipush 4, .aload 0, .iload 1, .bipush 4, .invokevirtual 128, .bipush 1, .iadd, .invokevirtual 130, .iload 3, .ifCond .lt 1, .aload 0, .iload 3, .bipush 2, .bipush 36, .invokevirtual 130, .aload 0, .iload 1, .bipush 5, .aload 0, .iload 1, .bipush 5, .invokevirtual 128, .bipush 1, .iadd, .invokevirtual 130, .aload 0, .iload 1, .bipush 3, .aload 0, .iload 1, .bipush 3, .invokevirtual 128, .aload 0, .iload 3, .bipush 3, .invokevirtual 128, .bipush 2, .idiv, .iadd, .bipush 1, .bipush 99, .invokestatic 137, .invokevirtual 130, .goto_w 1]
def hy_B156_1 : List Instr := [.iload 3, .ireturn]
def hy_K156 : List (Nat × List Instr) := [(0, hy_B156_0), (80, hy_B156_1)]
def hy_B157_0 : List Instr := [.iload 1, .bipush 0, .bipush 1, .invokestatic 125, .ifCond .ne 1, .bipush (-1000000001), .ireturn]
def hy_B157_1 : List Instr := [.bipush 0, .istore 2, .bipush 0, .istore 3, .goto_w 2]
def hy_B157_2 : List Instr := [.iload 3, .bipush 36, .aload 0, .getfield 576, .bipush 1, .iaload, .imul, .if_icmp .ge 5, .iload 2, .aload 0, .iload 3, .bipush 36, .idiv, .bipush 1, .invokevirtual 128, .iload 1, .if_icmp .ne 3, .aload 0, .iload 3, .bipush 36, .idiv, .iload 3, .bipush 36, .irem, .invokevirtual 143, .ifCond .eq 3, .bipush 1, .goto 4]
def hy_B157_3 : List Instr := [.bipush 0, .goto_w 4]
def hy_B157_4 : List Instr := [.iadd, .istore 2, .iinc 3 1, .goto 2]
def hy_B157_5 : List Instr := [.iload 2, .ireturn]
def hy_K157 : List (Nat × List Instr) := [(0, hy_B157_0), (12, hy_B157_1), (16, hy_B157_2), (62, hy_B157_3), (63, hy_B157_4), (71, hy_B157_5)]
def hy_B158_0 : List Instr := [.iload 1, .bipush 0, .bipush 1, .invokestatic 125, .ifCond .eq 1, .iload 2, .bipush 1, .bipush 2, .invokestatic 125, .ifCond .eq 1, .iload 3, .bipush 0, .bipush 1, .invokestatic 125, .ifCond .ne 2, .goto_w 1]
def hy_B158_1 : List Instr := [.bipush (-1000000001), .ireturn]
def hy_B158_2 : List Instr := [.iload 2, .bipush 1, .if_icmp .ne 3, .aload 0, .iload 1, .aload 0, .getfield 580, .invokevirtual 159, .goto 4]
def hy_B158_3 : List Instr := [.aload 0, .iload 1, .invokevirtual 164, .goto_w 4]
def hy_B158_4 : List Instr := [.istore 4, .iload 4, .ifCond .ge 5, .bipush (-1000000005), .goto 7]
def hy_B158_5 : List Instr := [.iload 3, .ifCond .ne 6, .iload 4, .goto 7]
def hy_B158_6 : List Instr := [.aload 0, .getfield 582, .goto_w 7]
def hy_B158_7 : List Instr := [.ireturn]
def hy_K158 : List (Nat × List Instr) := [(0, hy_B158_0), (27, hy_B158_1), (30, hy_B158_2), (47, hy_B158_3), (52, hy_B158_4), (64, hy_B158_5), (73, hy_B158_6), (77, hy_B158_7)]
def hy_B159_0 : List Instr := [.bipush (-1), .istore 3, .aload 0, .aload 2, .invokevirtual 160, .bipush 0, .istore 4, .goto_w 1]
def hy_B159_1 : List Instr := [.iload 4, .bipush 36, .aload 0, .getfield 576, .bipush 1, .iaload, .imul, .if_icmp .ge 4, .iload 4, .bipush 36, .idiv, .istore 5, .aload 0, .iload 5, .bipush 1, .invokevirtual 128, .iload 1, .if_icmp .ne 3, .aload 0, .iload 5, .iload 4, .bipush 36, .irem, .invokevirtual 143, .ifCond .eq 3, .aload 0, .iload 5, .iload 4, .bipush 36, .irem, .invokevirtual 156, .istore 6, .aload 0, .iload 1, .invokevirtual 161, .istore 7, .aload 0, .aload 2, .invokevirtual 163, .iload 3, .ifCond .lt 2, .iload 7, .aload 0, .getfield 582, .if_icmp .le 3, .goto_w 2]
def hy_B159_2 : List Instr := [.bipush 100, .iload 5, .imul, .iload 4, .bipush 36, .irem, .iadd, .istore 3, .aload 0, .iload 7, .putfield 582, .goto_w 3]
def hy_B159_3 : List Instr := [.iinc 4 1, .goto 1]
def hy_B159_4 : List Instr := [.iload 3, .ireturn]
def hy_K159 : List (Nat × List Instr) := [(0, hy_B159_0), (10, hy_B159_1), (94, hy_B159_2), (112, hy_B159_3), (118, hy_B159_4)]
def hy_B160_0 : List Instr := [.bipush 0, .istore 2, .goto_w 1]
def hy_B160_1 : List Instr := [.iload 2, .bipush 72, .if_icmp .ge 2, .aload 1, .iload 2, .aload 0, .getfield 576, .bipush 7, .iload 2, .iadd, .iaload, .iastore, .iinc 2 1, .goto 1]
def hy_B160_2 : List Instr := [.return_]
def hy_K160 : List (Nat × List Instr) := [(0, hy_B160_0), (2, hy_B160_1), (26, hy_B160_2)]
def hy_B161_0 : List Instr := [.bipush 0, .istore 2, .bipush 0, .istore 3, .goto_w 1]
def hy_B161_1 : List Instr := [.iload 3, .aload 0, .getfield 576, .bipush 1, .iaload, .if_icmp .ge 6, .aload 0, .iload 3, .invokevirtual 162, .ifCond .eq 2, .aload 0, .iload 3, .invokevirtual 133, .goto 3]
def hy_B161_2 : List Instr := [.bipush 0, .goto_w 3]
def hy_B161_3 : List Instr := [.istore 4, .iload 2, .aload 0, .iload 3, .bipush 1, .invokevirtual 128, .iload 1, .if_icmp .ne 4, .iload 4, .goto 5]
def hy_B161_4 : List Instr := [.iload 4, .ineg, .goto_w 5]
def hy_B161_5 : List Instr := [.iadd, .istore 2, .iinc 3 1, .goto 1]
def hy_B161_6 : List Instr := [.iload 2, .ireturn]
def hy_K161 : List (Nat × List Instr) := [(0, hy_B161_0), (4, hy_B161_1), (30, hy_B161_2), (31, hy_B161_3), (49, hy_B161_4), (52, hy_B161_5), (60, hy_B161_6)]
def hy_B162_0 : List Instr := [.aload 0, .iload 1, .bipush 2, .invokevirtual 128, .bipush 36, .if_icmp .ge 1, .bipush 1, .goto 2]
def hy_B162_1 : List Instr := [.bipush 0, .goto_w 2]
def hy_B162_2 : List Instr := [.ireturn]
def hy_K162 : List (Nat × List Instr) := [(0, hy_B162_0), (15, hy_B162_1), (16, hy_B162_2)]
def hy_B163_0 : List Instr := [.bipush 0, .istore 2, .goto_w 1]
def hy_B163_1 : List Instr := [.iload 2, .bipush 72, .if_icmp .ge 2, .aload 0, .getfield 576, .bipush 7, .iload 2, .iadd, .aload 1, .iload 2, .iaload, .iastore, .iinc 2 1, .goto 1]
def hy_B163_2 : List Instr := [.return_]
def hy_K163 : List (Nat × List Instr) := [(0, hy_B163_0), (2, hy_B163_1), (26, hy_B163_2)]
def hy_B164_0 : List Instr := [.bipush (-1), .istore 2, .bipush 0, .istore 3, .aload 0, .aload 0, .getfield 580, .invokevirtual 160, .bipush 0, .istore 4, .goto_w 1]
def hy_B164_1 : List Instr := [.iload 4, .bipush 36, .aload 0, .getfield 576, .bipush 1, .iaload, .imul, .if_icmp .ge 5, .iload 4, .bipush 36, .idiv, .istore 5, .aload 0, .iload 5, .bipush 1, .invokevirtual 128, .iload 1, .if_icmp .ne 4, .aload 0, .iload 5, .iload 4, .bipush 36, .irem, .invokevirtual 143, .ifCond .eq 4, .aload 0, .iload 5, .iload 4, .bipush 36, .irem, .invokevirtual 156, .istore 6, .aload 0, .bipush 1, .iload 1, .isub, .aload 0, .getfield 581, .invokevirtual 159, .istore 7, .iload 7, .ifCond .lt 2, .aload 0, .iload 7, .bipush 100, .idiv, .iload 7, .bipush 100, .irem, .invokevirtual 156, .istore 6, .goto_w 2]
def hy_B164_2 : List Instr := [.aload 0, .iload 1, .invokevirtual 161, .istore 8, .aload 0, .aload 0, .getfield 580, .invokevirtual 163, .iload 2, .ifCond .lt 3, .iload 8, .iload 3, .if_icmp .le 4, .goto_w 3]
def hy_B164_3 : List Instr := [.bipush 100, .iload 5, .imul, .iload 4, .bipush 36, .irem, .iadd, .istore 2, .iload 8, .istore 3, .goto_w 4]
def hy_B164_4 : List Instr := [.iinc 4 1, .goto 1]
def hy_B164_5 : List Instr := [.aload 0, .iload 3, .putfield 582, .iload 2, .ireturn]
def hy_K164 : List (Nat × List Instr) := [(0, hy_B164_0), (15, hy_B164_1), (108, hy_B164_2), (133, hy_B164_3), (148, hy_B164_4), (154, hy_B164_5)]
def hy_B165_0 : List Instr := [.iload 1, .bipush 0, .bipush 1, .invokestatic 125, .ifCond .ne 1, .bipush (-1000000001), .ireturn]
def hy_B165_1 : List Instr := [.bipush 0, .istore 2, .bipush 0, .istore 3, .goto_w 2]
def hy_B165_2 : List Instr := [.iload 3, .aload 0, .getfield 576, .bipush 1, .iaload, .if_icmp .ge 9, .bipush 0, .istore 4, .goto_w 3]
def hy_B165_3 : List Instr := [.iload 4, .aload 0, .getfield 576, .bipush 1, .iaload, .if_icmp .ge 8, .aload 0, .iload 3, .bipush 1, .invokevirtual 128, .iload 1, .if_icmp .ne 4, .aload 0, .iload 3, .invokevirtual 162, .ifCond .eq 4, .aload 0, .iload 4, .bipush 1, .invokevirtual 128, .iload 1, .if_icmp .eq 4, .aload 0, .iload 4, .aload 0, .iload 3, .bipush 2, .invokevirtual 128, .invokevirtual 143, .ifCond .eq 4, .bipush 1, .goto 5]
def hy_B165_4 : List Instr := [.bipush 0, .goto_w 5]
def hy_B165_5 : List Instr := [.istore 5, .iload 2, .iload 5, .ifCond .eq 6, .bipush 1, .iload 3, .ishl, .goto 7]
def hy_B165_6 : List Instr := [.bipush 0, .goto_w 7]
def hy_B165_7 : List Instr := [.ior, .istore 2, .iinc 4 1, .goto 3]
def hy_B165_8 : List Instr := [.iinc 3 1, .goto 2]
def hy_B165_9 : List Instr := [.iload 2, .ireturn]
def hy_K165 : List (Nat × List Instr) := [(0, hy_B165_0), (12, hy_B165_1), (16, hy_B165_2), (29, hy_B165_3), (88, hy_B165_4), (89, hy_B165_5), (103, hy_B165_6), (104, hy_B165_7), (112, hy_B165_8), (118, hy_B165_9)]
def hy_B166_0 : List Instr := [.iload 1, .bipush 0, .bipush 1, .invokestatic 125, .ifCond .eq 1, .aload 0, .iload 1, .invokevirtual 161, .goto 2]
def hy_B166_1 : List Instr := [.bipush (-1000000001), .goto_w 2]
def hy_B166_2 : List Instr := [.ireturn]
def hy_K166 : List (Nat × List Instr) := [(0, hy_B166_0), (17, hy_B166_1), (19, hy_B166_2)]
def hy_B167_0 : List Instr := [.iload 1, .bipush 1, .bipush 40, .invokestatic 125, .ifCond .ne 1, .bipush (-1000000001), .ireturn]
def hy_B167_1 : List Instr := [.aload 0, .invokevirtual 168, .istore 2, .aload 0, .bipush 9999, .aload 0, .getfield 576, .bipush 2, .iaload, .isub, .bipush 0, .iload 1, .invokestatic 137, .invokevirtual 169, .iload 2, .aload 0, .invokevirtual 168, .isub, .ireturn]
def hy_K167 : List (Nat × List Instr) := [(0, hy_B167_0), (13, hy_B167_1)]
def hy_B168_0 : List Instr := [.bipush 0, .istore 1, .bipush 0, .istore 2, .goto_w 1]
def hy_B168_1 : List Instr := [.iload 2, .aload 0, .getfield 576, .bipush 1, .iaload, .if_icmp .ge 4, .iload 1, .aload 0, .iload 2, .invokevirtual 162, .ifCond .eq 2, .bipush 1, .goto 3]
def hy_B168_2 : List Instr := [.bipush 0, .goto_w 3]
def hy_B168_3 : List Instr := [.iadd, .istore 1, .iinc 2 1, .goto 1]
def hy_B168_4 : List Instr := [.iload 1, .ireturn]
def hy_K168 : List (Nat × List Instr) := [(0, hy_B168_0), (4, hy_B168_1), (27, hy_B168_2), (28, hy_B168_3), (36, hy_B168_4)]
def hy_B169_0 : List Instr := [.bipush 0, .istore 2, .goto_w 1]
def hy_B169_1 : List Instr := [.iload 2, .iload 1, .if_icmp .ge 2, .aload 0, .invokevirtual 170, .iinc 2 1, .goto 1]
def hy_B169_2 : List Instr := [.return_]
def hy_K169 : List (Nat × List Instr) := [(0, hy_B169_0), (2, hy_B169_1), (17, hy_B169_2)]
def hy_B170_0 : List Instr := [.aload 0, .aload 0, .getfield 576, .bipush 3, .iaload, .aload 0, .getfield 580, .invokevirtual 159, .istore 1, .iload 1, .ifCond .lt 1, .aload 0, .iload 1, .bipush 100, .idiv, .iload 1, .bipush 100, .irem, .invokevirtual 156, .istore 2, .goto_w 1]
def hy_B170_1 : List Instr := [.aload 0, .getfield 576, .bipush 3, .bipush 1, .aload 0, .getfield 576, .bipush 3, .iaload, .isub, .iastore, .aload 0, .invokevirtual 153, .bipush 100, .irem, .aload 0, .getfield 576, .bipush 5, .iaload, .if_icmp .ge 2, .aload 0, .aload 0, .invokevirtual 153, .bipush 36, .irem, .invokevirtual 127, .istore 2, .iload 2, .ifCond .lt 2, .aload 0, .iload 2, .invokevirtual 171, .goto_w 2]
def hy_B170_2 : List Instr := [.aload 0, .invokevirtual 153, .bipush 100, .irem, .aload 0, .getfield 576, .bipush 4, .iaload, .if_icmp .ge 3, .aload 0, .invokevirtual 172, .goto_w 3]
def hy_B170_3 : List Instr := [.aload 0, .getfield 576, .bipush 2, .dup2, .iaload, .bipush 1, .iadd, .iastore, .return_]
def hy_K170 : List (Nat × List Instr) := [(0, hy_B170_0), (32, hy_B170_1), (83, hy_B170_2), (103, hy_B170_3)]
def hy_B171_0 : List Instr := [.aload 0, .iload 1, .bipush 3, .invokevirtual 128, .aload 0, .iload 1, .invokevirtual 138, .isub, .istore 2, .aload 0, .iload 1, .bipush 3, .iload 2, .bipush 1, .bipush 99, .invokestatic 137, .invokevirtual 130, .iload 2, .bipush 1, .if_icmp .ge 1, .aload 0, .iload 1, .bipush 2, .bipush 36, .invokevirtual 130, .goto_w 1]
def hy_B171_1 : List Instr := [.return_]
def hy_K171 : List (Nat × List Instr) := [(0, hy_B171_0), (39, hy_B171_1)]
def hy_B172_0 : List Instr := [.bipush 0, .istore 1, .goto_w 1]
def hy_B172_1 : List Instr := [.iload 1, .aload 0, .getfield 576, .bipush 1, .iaload, .if_icmp .ge 4, .aload 0, .iload 1, .invokevirtual 162, .ifCond .eq 2, .aload 0, .iload 1, .bipush 3, .invokevirtual 128, .bipush 1, .if_icmp .le 2, .aload 0, .iload 1, .bipush 3, .aload 0, .iload 1, .bipush 3, .invokevirtual 128, .bipush 1, .isub, .invokevirtual 130, .goto 3]
def hy_B172_2 : List Instr := [.aload 0, .iload 1, .invokevirtual 162, .ifCond .eq 3, .aload 0, .iload 1, .bipush 0, .bipush 5, .invokevirtual 130, .goto_w 3]
def hy_B172_3 : List Instr := [.iinc 1 1, .goto 1]
def hy_B172_4 : List Instr := [.return_]
def hy_K172 : List (Nat × List Instr) := [(0, hy_B172_0), (2, hy_B172_1), (47, hy_B172_2), (62, hy_B172_3), (68, hy_B172_4)]
def hy_B173_0 : List Instr := [.iload 1, .bipush 0, .bipush 40, .invokestatic 125, .ifCond .eq 1, .iload 2, .ifCond .lt 1, .iload 2, .bipush 2, .if_icmp .le 2, .aload 0, .iload 2, .bipush 3, .isub, .invokevirtual 132, .ifCond .ne 2, .goto_w 1]
def hy_B173_1 : List Instr := [.bipush (-1000000001), .ireturn]
def hy_B173_2 : List Instr := [.aload 0, .invokevirtual 174, .aload 0, .iload 1, .invokevirtual 169, .iload 2, .ifCond .ne 3, .aload 0, .bipush 0, .invokevirtual 161, .goto 6]
def hy_B173_3 : List Instr := [.iload 2, .bipush 1, .if_icmp .ne 4, .aload 0, .invokevirtual 168, .goto 6]
def hy_B173_4 : List Instr := [.iload 2, .bipush 2, .if_icmp .ne 5, .aload 0, .invokevirtual 175, .goto 6]
def hy_B173_5 : List Instr := [.aload 0, .iload 2, .bipush 3, .isub, .bipush 2, .invokevirtual 128, .goto_w 6]
def hy_B173_6 : List Instr := [.istore 3, .aload 0, .invokevirtual 176, .iload 3, .ireturn]
def hy_K173 : List (Nat × List Instr) := [(0, hy_B173_0), (29, hy_B173_1), (32, hy_B173_2), (53, hy_B173_3), (65, hy_B173_4), (77, hy_B173_5), (85, hy_B173_6)]
def hy_B174_0 : List Instr := [.bipush 0, .istore 1, .goto_w 1]
def hy_B174_1 : List Instr := [.iload 1, .bipush 79, .if_icmp .ge 2, .aload 0, .getfield 583, .iload 1, .aload 0, .getfield 576, .iload 1, .iaload, .iastore, .iinc 1 1, .goto 1]
def hy_B174_2 : List Instr := [.return_]
def hy_K174 : List (Nat × List Instr) := [(0, hy_B174_0), (2, hy_B174_1), (26, hy_B174_2)]
def hy_B175_0 : List Instr := [.bipush 0, .istore 1, .bipush 0, .istore 2, .goto_w 1]
def hy_B175_1 : List Instr := [.iload 2, .aload 0, .getfield 576, .bipush 1, .iaload, .if_icmp .ge 4, .iload 1, .aload 0, .iload 2, .invokevirtual 162, .ifCond .eq 2, .aload 0, .iload 2, .bipush 3, .invokevirtual 128, .goto 3]
def hy_B175_2 : List Instr := [.bipush 0, .goto_w 3]
def hy_B175_3 : List Instr := [.iadd, .istore 1, .iinc 2 1, .goto 1]
def hy_B175_4 : List Instr := [.iload 1, .ireturn]
def hy_K175 : List (Nat × List Instr) := [(0, hy_B175_0), (4, hy_B175_1), (32, hy_B175_2), (33, hy_B175_3), (41, hy_B175_4)]
def hy_B176_0 : List Instr := [.bipush 0, .istore 1, .goto_w 1]
def hy_B176_1 : List Instr := [.iload 1, .bipush 79, .if_icmp .ge 2, .aload 0, .getfield 576, .iload 1, .aload 0, .getfield 583, .iload 1, .iaload, .iastore, .iinc 1 1, .goto 1]
def hy_B176_2 : List Instr := [.return_]
def hy_K176 : List (Nat × List Instr) := [(0, hy_B176_0), (2, hy_B176_1), (26, hy_B176_2)]
def hy_B177_0 : List Instr := [.aload 0, .invokevirtual 174, .bipush 0, .istore 1, .goto_w 1]
def hy_B177_1 : List Instr := [.iload 1, .bipush 100, .if_icmp .gt 2, .aload 0, .invokevirtual 178, .ifCond .ne 2, .aload 0, .invokevirtual 170, .iinc 1 1, .goto 1]
def hy_B177_2 : List Instr := [.aload 0, .invokevirtual 176, .iload 1, .bipush 100, .if_icmp .le 3, .bipush (-1000000005), .goto 4]
def hy_B177_3 : List Instr := [.iload 1, .goto_w 4]
def hy_B177_4 : List Instr := [.ireturn]
def hy_K177 : List (Nat × List Instr) := [(0, hy_B177_0), (6, hy_B177_1), (29, hy_B177_2), (44, hy_B177_3), (45, hy_B177_4)]
def hy_B178_0 : List Instr := [.bipush 0, .istore 1, .bipush 0, .istore 2, .goto_w 1]
def hy_B178_1 : List Instr := [.iload 2, .aload 0, .getfield 576, .bipush 1, .iaload, .if_icmp .ge 4, .iload 1, .aload 0, .iload 2, .invokevirtual 162, .ifCond .eq 2, .bipush 1, .aload 0, .iload 2, .bipush 1, .invokevirtual 128, .ishl, .goto 3]
def hy_B178_2 : List Instr := [.bipush 0, .goto_w 3]
def hy_B178_3 : List Instr := [.ior, .istore 1, .iinc 2 1, .goto 1]
def hy_B178_4 : List Instr := [.iload 1, .bipush 3, .if_icmp .ge 5, .bipush 1, .goto 6]
def hy_B178_5 : List Instr := [.bipush 0, .goto_w 6]
def hy_B178_6 : List Instr := [.ireturn]
def hy_K178 : List (Nat × List Instr) := [(0, hy_B178_0), (4, hy_B178_1), (34, hy_B178_2), (35, hy_B178_3), (43, hy_B178_4), (52, hy_B178_5), (53, hy_B178_6)]
def hy_B179_0 : List Instr := [.iload 1, .bipush 1, .bipush 12, .invokestatic 125, .ifCond .eq 1, .iload 2, .bipush 0, .bipush 1, .invokestatic 125, .ifCond .ne 2, .goto_w 1]
def hy_B179_1 : List Instr := [.bipush (-1000000001), .ireturn]
def hy_B179_2 : List Instr := [.aload 0, .invokevirtual 174, .bipush (-1), .istore 3, .bipush 0, .istore 4, .bipush 0, .istore 5, .goto_w 3]
def hy_B179_3 : List Instr := [.iload 5, .aload 0, .getfield 576, .bipush 1, .iaload, .if_icmp .ge 6, .aload 0, .iload 5, .invokevirtual 162, .ifCond .eq 5, .aload 0, .iload 5, .bipush 1, .invokevirtual 128, .istore 6, .aload 0, .iload 5, .bipush 2, .bipush 36, .invokevirtual 130, .aload 0, .iload 1, .invokevirtual 169, .aload 0, .iload 6, .invokevirtual 161, .istore 7, .aload 0, .invokevirtual 176, .iload 3, .ifCond .lt 4, .iload 7, .iload 4, .if_icmp .ge 5, .goto_w 4]
def hy_B179_4 : List Instr := [.iload 5, .istore 3, .iload 7, .istore 4, .goto_w 5]
def hy_B179_5 : List Instr := [.iinc 5 1, .goto 3]
def hy_B179_6 : List Instr := [.iload 3, .ifCond .ge 7, .bipush (-1000000005), .goto 9]
def hy_B179_7 : List Instr := [.iload 2, .ifCond .ne 8, .iload 3, .goto 9]
def hy_B179_8 : List Instr := [.iload 4, .goto_w 9]
def hy_B179_9 : List Instr := [.ireturn]
def hy_K179 : List (Nat × List Instr) := [(0, hy_B179_0), (19, hy_B179_1), (22, hy_B179_2), (34, hy_B179_3), (100, hy_B179_4), (107, hy_B179_5), (113, hy_B179_6), (122, hy_B179_7), (130, hy_B179_8), (132, hy_B179_9)]
def hy_B180_0 : List Instr := [.iload 1, .bipush 1, .bipush 12, .invokestatic 125, .ifCond .eq 1, .iload 2, .bipush 0, .bipush 1, .invokestatic 125, .ifCond .ne 2, .goto_w 1]
def hy_B180_1 : List Instr := [.bipush (-1000000001), .ireturn]
def hy_B180_2 : List Instr := [.aload 0, .invokevirtual 174, .bipush (-1), .istore 3, .bipush 0, .istore 4, .bipush 0, .istore 5, .goto_w 3]
def hy_B180_3 : List Instr := [.iload 5, .aload 0, .getfield 576, .bipush 1, .iaload, .if_icmp .ge 6, .aload 0, .iload 5, .invokevirtual 162, .ifCond .eq 5, .aload 0, .iload 5, .bipush 1, .invokevirtual 128, .ifCond .ne 5, .aload 0, .iload 5, .bipush 1, .bipush 1, .invokevirtual 130, .aload 0, .iload 1, .invokevirtual 169, .aload 0, .bipush 0, .invokevirtual 161, .istore 6, .aload 0, .invokevirtual 176, .iload 3, .ifCond .lt 4, .iload 6, .bipush 0, .invokestatic 144, .iload 4, .bipush 0, .invokestatic 144, .if_icmp .ge 5, .goto_w 4]
def hy_B180_4 : List Instr := [.iload 5, .istore 3, .iload 6, .istore 4, .goto_w 5]
def hy_B180_5 : List Instr := [.iinc 5 1, .goto 3]
def hy_B180_6 : List Instr := [.iload 3, .ifCond .ge 7, .bipush (-1000000005), .goto 9]
def hy_B180_7 : List Instr := [.iload 2, .ifCond .ne 8, .iload 3, .goto 9]
def hy_B180_8 : List Instr := [.iload 4, .goto_w 9]
def hy_B180_9 : List Instr := [.ireturn]
def hy_K180 : List (Nat × List Instr) := [(0, hy_B180_0), (19, hy_B180_1), (22, hy_B180_2), (34, hy_B180_3), (107, hy_B180_4), (114, hy_B180_5), (120, hy_B180_6), (129, hy_B180_7), (137, hy_B180_8), (139, hy_B180_9)]
def hy_B181_0 : List Instr := [.iload 1, .invokestatic 182, .ifCond .eq 1, .iload 2, .bipush 0, .bipush 12, .invokestatic 125, .ifCond .eq 1, .iload 3, .bipush 0, .bipush 1, .invokestatic 125, .ifCond .ne 2, .goto_w 1]
def hy_B181_1 : List Instr := [.bipush (-1000000001), .ireturn]
def hy_B181_2 : List Instr := [.aload 0, .getfield 602, .iload 1, .iaload, .ifCond .ge 3, .bipush (-1000000011), .ireturn]
def hy_B181_3 : List Instr := [.aload 0, .invokevirtual 174, .bipush (-1), .istore 4, .lconst 0, .lstore 5, .bipush 0, .istore 7, .goto_w 4]
def hy_B181_4 : List Instr := [.iload 7, .aload 0, .getfield 576, .bipush 1, .iaload, .if_icmp .ge 7, .aload 0, .iload 7, .invokevirtual 162, .ifCond .eq 6, .aload 0, .iload 7, .bipush 2, .bipush 36, .invokevirtual 130, .aload 0, .iload 2, .invokevirtual 169, .aload 0, .iload 1, .invokevirtual 183, .lstore 8, .aload 0, .invokevirtual 176, .iload 4, .ifCond .lt 5, .lload 8, .lload 5, .lcmp, .ifCond .ge 6, .goto_w 5]
def hy_B181_5 : List Instr := [.iload 7, .istore 4, .lload 8, .lstore 5, .goto_w 6]
def hy_B181_6 : List Instr := [.iinc 7 1, .goto 4]
def hy_B181_7 : List Instr := [.iload 4, .ifCond .ge 8, .bipush (-1000000005), .goto 10]
def hy_B181_8 : List Instr := [.iload 3, .ifCond .ne 9, .iload 4, .goto 10]
def hy_B181_9 : List Instr := [.lload 5, .l2i, .goto_w 10]
def hy_B181_10 : List Instr := [.ireturn]
def hy_K181 : List (Nat × List Instr) := [(0, hy_B181_0), (26, hy_B181_1), (29, hy_B181_2), (41, hy_B181_3), (54, hy_B181_4), (112, hy_B181_5), (120, hy_B181_6), (126, hy_B181_7), (136, hy_B181_8), (145, hy_B181_9), (148, hy_B181_10)]
def hy_B182_0 : List Instr := [.iload 0, .bipush 0, .bipush 3, .invokestatic 125, .ireturn]
def hy_K182 : List (Nat × List Instr) := [(0, hy_B182_0)]
def hy_B183_0 : List Instr := [.lconst 0, .lstore 2, .bipush 0, .istore 4, .goto_w 1]
def hy_B183_1 : List Instr := [.iload 4, .aload 0, .getfield 603, .iload 1, .iaload, .if_icmp .ge 7, .aload 0, .getfield 604, .bipush 24, .iload 1, .imul, .iload 4, .iadd, .iaload, .istore 5, .iload 5, .i2l, .aload 0, .iload 4, .invokevirtual 132, .ifCond .eq 2, .aload 0, .iload 4, .bipush 2, .invokevirtual 128, .goto 3]
def hy_B183_2 : List Instr := [.bipush 0, .goto_w 3]
def hy_B183_3 : List Instr := [.i2l, .lsub, .lstore 6, .lload 2, .iload 5, .bipush (-1000000005), .if_icmp .ne 4, .lconst 0, .goto 6]
def hy_B183_4 : List Instr := [.lload 6, .lconst 0, .lcmp, .ifCond .ge 5, .lload 6, .lneg, .goto 6]
def hy_B183_5 : List Instr := [.lload 6, .goto_w 6]
def hy_B183_6 : List Instr := [.ladd, .lstore 2, .iinc 4 1, .goto 1]
def hy_B183_7 : List Instr := [.lload 2, .lreturn]
def hy_K183 : List (Nat × List Instr) := [(0, hy_B183_0), (5, hy_B183_1), (52, hy_B183_2), (53, hy_B183_3), (69, hy_B183_4), (82, hy_B183_5), (84, hy_B183_6), (92, hy_B183_7)]
def hy_B184_0 : List Instr := [.aload 0, .bipush 1, .invokevirtual 134, .istore 1, .aload 0, .getfield 601, .bipush 0, .aload 0, .getfield 576, .bipush 2, .iaload, .iastore, .aload 0, .getfield 601, .bipush 1, .aload 0, .getfield 576, .bipush 3, .iaload, .iastore, .iload 1, .ifCond .ge 1, .aload 0, .getfield 576, .bipush 2, .iaload, .goto 2]
def hy_B184_1 : List Instr := [.aload 0, .iload 1, .invokevirtual 135, .goto_w 2]
def hy_B184_2 : List Instr := [.ireturn]
def hy_K184 : List (Nat × List Instr) := [(0, hy_B184_0), (43, hy_B184_1), (48, hy_B184_2)]
def hy_B185_0 : List Instr := [.aload 0, .iload 1, .invokevirtual 132, .ifCond .ne 1, .bipush (-1000000001), .ireturn]
def hy_B185_1 : List Instr := [.aload 0, .bipush 2, .invokevirtual 134, .istore 2, .aload 0, .getfield 601, .bipush 0, .aload 0, .iload 1, .bipush 4, .invokevirtual 128, .iastore, .aload 0, .getfield 601, .bipush 1, .aload 0, .iload 1, .bipush 3, .invokevirtual 128, .iastore, .iload 2, .ifCond .ge 2, .aload 0, .iload 1, .bipush 4, .invokevirtual 128, .goto 3]
def hy_B185_2 : List Instr := [.aload 0, .iload 2, .invokevirtual 135, .goto_w 3]
def hy_B185_3 : List Instr := [.ireturn]
def hy_K185 : List (Nat × List Instr) := [(0, hy_B185_0), (11, hy_B185_1), (54, hy_B185_2), (59, hy_B185_3)]
def hy_B186_0 : List Instr := [.aload 0, .getfield 585, .bipush 12, .iadd, .bipush 96, .if_icmp .le 1, .bipush (-1000000003), .ireturn]
def hy_B186_1 : List Instr := [.bipush 0, .istore 4, .goto_w 2]
def hy_B186_2 : List Instr := [.iload 4, .bipush 12, .if_icmp .ge 6, .iload 4, .bipush 4, .if_icmp .ge 3, .iload 1, .goto 5]
def hy_B186_3 : List Instr := [.iload 4, .bipush 8, .if_icmp .ge 4, .iload 2, .goto 5]
def hy_B186_4 : List Instr := [.iload 3, .goto_w 5]
def hy_B186_5 : List Instr := [.istore 5, .aload 0, .getfield 584, .aload 0, .getfield 585, .iload 4, .iadd, .iload 5, .bipush 24, .bipush 8, .iload 4, .bipush 4, .irem, .imul, .isub, .ishr, .bipush 255, .iand, .iastore, .iinc 4 1, .goto 2]
def hy_B186_6 : List Instr := [.aload 0, .dup, .getfield 585, .bipush 12, .iadd, .putfield 585, .aload 0, .getfield 585, .ireturn]
def hy_K186 : List (Nat × List Instr) := [(0, hy_B186_0), (15, hy_B186_1), (18, hy_B186_2), (35, hy_B186_3), (46, hy_B186_4), (47, hy_B186_5), (84, hy_B186_6)]
def hy_B187_0 : List Instr := [.iload 1, .bipush 0, .aload 0, .getfield 585, .invokestatic 125, .ifCond .ne 1, .bipush (-1000000001), .ireturn]
def hy_B187_1 : List Instr := [.aload 0, .iload 1, .putfield 585, .iload 1, .ireturn]
def hy_K187 : List (Nat × List Instr) := [(0, hy_B187_0), (15, hy_B187_1)]
def hy_B188_0 : List Instr := [.aload 0, .bipush 0, .putfield 586, .aload 0, .bipush (-1), .putfield 590, .aload 0, .invokevirtual 189, .aload 0, .invokevirtual 192, .ifCond .eq 1, .aload 0, .invokevirtual 193, .ifCond .eq 1, .bipush 1, .goto 2]
def hy_B188_1 : List Instr := [.bipush 0, .goto_w 2]
def hy_B188_2 : List Instr := [.istore 1, .aload 0, .bipush 0, .putfield 585, .iload 1, .ifCond .ne 3, .bipush (-100), .aload 0, .getfield 587, .isub, .ireturn]
def hy_B188_3 : List Instr := [.aload 0, .getfield 576, .bipush 6, .iaload, .bipush 14, .if_icmp .ne 4, .bipush (-1000000003), .ireturn]
def hy_B188_4 : List Instr := [.aload 0, .getfield 576, .bipush 6, .iaload, .istore 2, .aload 0, .getfield 576, .bipush 79, .bipush 2, .iload 2, .imul, .iadd, .bipush 1000, .aload 0, .getfield 591, .imul, .aload 0, .getfield 595, .iadd, .iastore, .aload 0, .getfield 576, .bipush 79, .bipush 2, .iload 2, .imul, .iadd, .bipush 1, .iadd, .aload 0, .getfield 596, .iastore, .bipush 0, .istore 3, .goto_w 5]
def hy_B188_5 : List Instr := [.iload 3, .aload 0, .getfield 595, .if_icmp .ge 6, .aload 0, .getfield 576, .bipush 107, .bipush 96, .iload 2, .imul, .iadd, .iload 3, .iadd, .aload 0, .getfield 594, .iload 3, .iaload, .iastore, .iinc 3 1, .goto 5]
def hy_B188_6 : List Instr := [.aload 0, .getfield 576, .bipush 6, .dup2, .iaload, .bipush 1, .iadd, .iastore, .iload 2, .ireturn]
def hy_K188 : List (Nat × List Instr) := [(0, hy_B188_0), (32, hy_B188_1), (33, hy_B188_2), (51, hy_B188_3), (66, hy_B188_4), (117, hy_B188_5), (151, hy_B188_6)]
def hy_B189_0 : List Instr := [.aload 0, .getfield 586, .aload 0, .getfield 585, .if_icmp .ge 1, .aload 0, .getfield 584, .aload 0, .getfield 586, .iaload, .bipush 32, .if_icmp .ne 1, .aload 0, .dup, .getfield 586, .bipush 1, .iadd, .putfield 586, .goto 0]
def hy_B189_1 : List Instr := [.aload 0, .aload 0, .getfield 586, .putfield 587, .aload 0, .getfield 587, .aload 0, .getfield 590, .if_icmp .ne 2, .bipush 1, .goto 3]
def hy_B189_2 : List Instr := [.bipush 0, .goto_w 3]
def hy_B189_3 : List Instr := [.istore 1, .aload 0, .getfield 587, .aload 0, .getfield 585, .if_icmp .ne 4, .aload 0, .bipush 0, .putfield 588, .goto 18]
def hy_B189_4 : List Instr := [.aload 0, .aload 0, .getfield 587, .invokevirtual 190, .ifCond .eq 9, .goto_w 5]
def hy_B189_5 : List Instr := [.aload 0, .aload 0, .getfield 586, .invokevirtual 190, .ifCond .eq 6, .aload 0, .dup, .getfield 586, .bipush 1, .iadd, .putfield 586, .goto 5]
def hy_B189_6 : List Instr := [.aload 0, .iload 1, .ifCond .eq 7, .bipush 4, .goto 8]
def hy_B189_7 : List Instr := [.bipush 1, .goto_w 8]
def hy_B189_8 : List Instr := [.putfield 588, .aload 0, .aload 0, .getfield 584, .aload 0, .getfield 587, .iaload, .putfield 589, .aload 0, .aload 0, .getfield 586, .putfield 590, .goto 18]
def hy_B189_9 : List Instr := [.aload 0, .aload 0, .getfield 587, .invokevirtual 191, .ifCond .eq 17, .aload 0, .bipush 0, .putfield 589, .goto_w 10]
def hy_B189_10 : List Instr := [.aload 0, .aload 0, .getfield 586, .invokevirtual 191, .ifCond .eq 13, .aload 0, .aload 0, .getfield 586, .aload 0, .getfield 587, .isub, .bipush 4, .if_icmp .ge 11, .bipush 10, .aload 0, .getfield 589, .imul, .aload 0, .getfield 584, .aload 0, .getfield 586, .iaload, .iadd, .bipush 48, .isub, .goto 12]
def hy_B189_11 : List Instr := [.aload 0, .getfield 589, .goto_w 12]
def hy_B189_12 : List Instr := [.putfield 589, .aload 0, .dup, .getfield 586, .bipush 1, .iadd, .putfield 586, .goto 10]
def hy_B189_13 : List Instr := [.aload 0, .iload 1, .ifCond .ne 14, .aload 0, .getfield 586, .aload 0, .getfield 587, .isub, .bipush 4, .if_icmp .le 15, .goto_w 14]
def hy_B189_14 : List Instr := [.bipush 4, .goto 16]
def hy_B189_15 : List Instr := [.bipush 2, .goto_w 16]
def hy_B189_16 : List Instr := [.putfield 588, .aload 0, .aload 0, .getfield 586, .putfield 590, .goto 18]
def hy_B189_17 : List Instr := [.aload 0, .bipush 3, .putfield 588, .aload 0, .aload 0, .getfield 584, .aload 0, .getfield 587, .iaload, .putfield 589, .aload 0, .dup, .getfield 586, .bipush 1, .iadd, .putfield 586, .goto_w 18]
def hy_B189_18 : List Instr := [.return_]
def hy_K189 : List (Nat × List Instr) := [(0, hy_B189_0), (38, hy_B189_1), (61, hy_B189_2), (62, hy_B189_3), (82, hy_B189_4), (93, hy_B189_5), (117, hy_B189_6), (126, hy_B189_7), (127, hy_B189_8), (154, hy_B189_9), (170, hy_B189_10), (218, hy_B189_11), (222, hy_B189_12), (238, hy_B189_13), (256, hy_B189_14), (260, hy_B189_15), (261, hy_B189_16), (275, hy_B189_17), (303, hy_B189_18)]
def hy_B190_0 : List Instr := [.iload 1, .aload 0, .getfield 585, .if_icmp .ge 1, .aload 0, .getfield 584, .iload 1, .iaload, .bipush 97, .if_icmp .lt 1, .aload 0, .getfield 584, .iload 1, .iaload, .bipush 122, .if_icmp .gt 1, .bipush 1, .goto 2]
def hy_B190_1 : List Instr := [.bipush 0, .goto_w 2]
def hy_B190_2 : List Instr := [.ireturn]
def hy_K190 : List (Nat × List Instr) := [(0, hy_B190_0), (34, hy_B190_1), (35, hy_B190_2)]
def hy_B191_0 : List Instr := [.iload 1, .aload 0, .getfield 585, .if_icmp .ge 1, .aload 0, .getfield 584, .iload 1, .iaload, .bipush 48, .if_icmp .lt 1, .aload 0, .getfield 584, .iload 1, .iaload, .bipush 57, .if_icmp .gt 1, .bipush 1, .goto 2]
def hy_B191_1 : List Instr := [.bipush 0, .goto_w 2]
def hy_B191_2 : List Instr := [.ireturn]
def hy_K191 : List (Nat × List Instr) := [(0, hy_B191_0), (34, hy_B191_1), (35, hy_B191_2)]
def hy_B192_0 : List Instr := [.aload 0, .getfield 588, .bipush 1, .if_icmp .eq 1, .bipush 0, .ireturn]
def hy_B192_1 : List Instr := [.bipush 0, .istore 1, .goto_w 2]
def hy_B192_2 : List Instr := [.iload 1, .bipush 3, .if_icmp .ge 10, .aload 0, .getfield 593, .iload 1, .bipush 1, .iadd, .iaload, .aload 0, .getfield 593, .iload 1, .iaload, .isub, .istore 2, .iload 2, .aload 0, .getfield 586, .aload 0, .getfield 587, .isub, .if_icmp .ne 3, .bipush 1, .goto 4]
def hy_B192_3 : List Instr := [.bipush 0, .goto_w 4]
def hy_B192_4 : List Instr := [.istore 3, .bipush 0, .istore 4, .goto_w 5]
def hy_B192_5 : List Instr := [.iload 4, .iload 2, .if_icmp .ge 8, .iload 3, .ifCond .eq 8, .aload 0, .getfield 584, .aload 0, .getfield 587, .iload 4, .iadd, .iaload, .aload 0, .getfield 592, .aload 0, .getfield 593, .iload 1, .iaload, .iload 4, .iadd, .caload, .if_icmp .ne 6, .bipush 1, .goto 7]
def hy_B192_6 : List Instr := [.bipush 0, .goto_w 7]
def hy_B192_7 : List Instr := [.istore 3, .iinc 4 1, .goto 5]
def hy_B192_8 : List Instr := [.iload 3, .ifCond .eq 9, .aload 0, .iload 1, .putfield 591, .aload 0, .invokevirtual 189, .bipush 1, .ireturn]
def hy_B192_9 : List Instr := [.iinc 1 1, .goto 2]
def hy_B192_10 : List Instr := [.bipush 0, .ireturn]
def hy_K192 : List (Nat × List Instr) := [(0, hy_B192_0), (10, hy_B192_1), (12, hy_B192_2), (50, hy_B192_3), (51, hy_B192_4), (55, hy_B192_5), (98, hy_B192_6), (99, hy_B192_7), (106, hy_B192_8), (121, hy_B192_9), (127, hy_B192_10)]
def hy_B193_0 : List Instr := [.bipush 0, .istore 1, .bipush 0, .istore 2, .bipush 1, .istore 3, .aload 0, .bipush 0, .putfield 595, .aload 0, .bipush 0, .putfield 596, .aload 0, .bipush 0, .putfield 598, .aload 0, .getfield 599, .bipush 0, .bipush 0, .bastore, .goto_w 1]
def hy_B193_1 : List Instr := [.iload 3, .ifCond .ne 2, .aload 0, .getfield 588, .ifCond .eq 14, .goto_w 2]
def hy_B193_2 : List Instr := [.iload 3, .ifCond .eq 7, .aload 0, .getfield 588, .bipush 3, .if_icmp .ne 3, .aload 0, .getfield 589, .bipush 33, .if_icmp .ne 3, .iload 2, .bipush 8, .if_icmp .ge 3, .aload 0, .getfield 597, .aload 0, .getfield 598, .bipush (-10), .iastore, .aload 0, .dup, .getfield 598, .bipush 1, .iadd, .putfield 598, .iinc 2 1, .aload 0, .invokevirtual 189, .goto 6]
def hy_B193_3 : List Instr := [.aload 0, .getfield 588, .bipush 3, .if_icmp .ne 4, .aload 0, .getfield 589, .bipush 40, .if_icmp .ne 4, .iload 1, .bipush 8, .if_icmp .ge 4, .aload 0, .getfield 597, .aload 0, .getfield 598, .bipush (-11), .iastore, .aload 0, .dup, .getfield 598, .bipush 1, .iadd, .putfield 598, .iinc 1 1, .aload 0, .getfield 599, .iload 1, .bipush 0, .bastore, .aload 0, .invokevirtual 189, .goto 6]
def hy_B193_4 : List Instr := [.aload 0, .invokevirtual 194, .ifCond .eq 5, .bipush 0, .istore 3, .goto 6]
def hy_B193_5 : List Instr := [.bipush 0, .ireturn]
def hy_B193_6 : List Instr := [.aload 0, .invokevirtual 198, .istore 2, .goto 1]
def hy_B193_7 : List Instr := [.aload 0, .getfield 588, .bipush 3, .if_icmp .ne 8, .aload 0, .getfield 589, .bipush 41, .if_icmp .ne 8, .iload 1, .ifCond .le 8, .aload 0, .bipush 0, .invokevirtual 196, .aload 0, .dup, .getfield 598, .bipush 1, .isub, .putfield 598, .iinc 1 (-1), .aload 0, .bipush 6, .invokevirtual 196, .aload 0, .invokevirtual 198, .istore 2, .aload 0, .invokevirtual 189, .goto 1]
def hy_B193_8 : List Instr := [.aload 0, .invokevirtual 199, .istore 4, .iload 4, .ifCond .eq 9, .iload 4, .invokestatic 197, .bipush 3, .if_icmp .ne 10, .aload 0, .getfield 599, .iload 1, .baload, .ifCond .eq 10, .goto_w 9]
def hy_B193_9 : List Instr := [.bipush 0, .ireturn]
def hy_B193_10 : List Instr := [.aload 0, .getfield 599, .iload 1, .iload 4, .invokestatic 197, .bipush 3, .if_icmp .eq 11, .iload 4, .invokestatic 197, .bipush 3, .if_icmp .le 12, .aload 0, .getfield 599, .iload 1, .baload, .ifCond .eq 12, .goto_w 11]
def hy_B193_11 : List Instr := [.bipush 1, .goto 13]
def hy_B193_12 : List Instr := [.bipush 0, .goto_w 13]
def hy_B193_13 : List Instr := [.bastore, .aload 0, .iload 4, .invokestatic 197, .invokevirtual 196, .aload 0, .getfield 597, .aload 0, .getfield 598, .iload 4, .iastore, .aload 0, .dup, .getfield 598, .bipush 1, .iadd, .putfield 598, .bipush 1, .istore 3, .aload 0, .invokevirtual 189, .goto 1]
def hy_B193_14 : List Instr := [.aload 0, .bipush 0, .invokevirtual 196, .iload 1, .ifCond .ne 15, .bipush 1, .goto 16]
def hy_B193_15 : List Instr := [.bipush 0, .goto_w 16]
def hy_B193_16 : List Instr := [.ireturn]
def hy_K193 : List (Nat × List Instr) := [(0, hy_B193_0), (28, hy_B193_1), (39, hy_B193_2), (97, hy_B193_3), (158, hy_B193_4), (170, hy_B193_5), (172, hy_B193_6), (180, hy_B193_7), (237, hy_B193_8), (266, hy_B193_9), (268, hy_B193_10), (300, hy_B193_11), (304, hy_B193_12), (305, hy_B193_13), (345, hy_B193_14), (358, hy_B193_15), (359, hy_B193_16)]
def hy_B194_0 : List Instr := [.aload 0, .getfield 588, .bipush 1, .if_icmp .ne 1, .aload 0, .getfield 586, .aload 0, .getfield 587, .isub, .bipush 1, .if_icmp .ne 1, .aload 0, .aload 0, .getfield 589, .invokevirtual 195, .ifCond .lt 1, .bipush 1, .goto 2]
def hy_B194_1 : List Instr := [.bipush 0, .goto_w 2]
def hy_B194_2 : List Instr := [.istore 1, .aload 0, .getfield 588, .bipush 2, .if_icmp .eq 3, .iload 1, .ifCond .ne 3, .bipush 0, .ireturn]
def hy_B194_3 : List Instr := [.aload 0, .getfield 594, .aload 0, .getfield 595, .aload 0, .getfield 588, .bipush 2, .if_icmp .ne 4, .aload 0, .getfield 589, .goto 5]
def hy_B194_4 : List Instr := [.bipush 10000, .aload 0, .aload 0, .getfield 589, .invokevirtual 195, .iadd, .goto_w 5]
def hy_B194_5 : List Instr := [.iastore, .aload 0, .dup, .getfield 595, .bipush 1, .iadd, .putfield 595, .aload 0, .dup, .getfield 596, .bipush 1, .iadd, .putfield 596, .aload 0, .bipush 6, .invokevirtual 196, .aload 0, .invokevirtual 189, .bipush 1, .ireturn]
def hy_K194 : List (Nat × List Instr) := [(0, hy_B194_0), (36, hy_B194_1), (37, hy_B194_2), (52, hy_B194_3), (75, hy_B194_4), (87, hy_B194_5)]
def hy_B195_0 : List Instr := [.aload 0, .getfield 591, .lookupswitch 10 #[(0, 1), (1, 6)]]
def hy_B195_1 : List Instr := [.iload 1, .bipush 104, .if_icmp .ne 2, .bipush 0, .goto 5]
def hy_B195_2 : List Instr := [.iload 1, .bipush 112, .if_icmp .ne 3, .bipush 1, .goto 5]
def hy_B195_3 : List Instr := [.iload 1, .bipush 119, .if_icmp .ne 4, .bipush 2, .goto 5]
def hy_B195_4 : List Instr := [.bipush (-1), .goto_w 5]
def hy_B195_5 : List Instr := [.ireturn]
def hy_B195_6 : List Instr := [.iload 1, .bipush 100, .if_icmp .ne 7, .bipush 0, .goto 9]
def hy_B195_7 : List Instr := [.iload 1, .bipush 116, .if_icmp .ne 8, .bipush 1, .goto 9]
def hy_B195_8 : List Instr := [.bipush (-1), .goto_w 9]
def hy_B195_9 : List Instr := [.ireturn]
def hy_B195_10 : List Instr := [.iload 1, .bipush 119, .if_icmp .ne 11, .bipush 0, .goto 13]
def hy_B195_11 : List Instr := [.iload 1, .bipush 104, .if_icmp .ne 12, .bipush 1, .goto 13]
def hy_B195_12 : List Instr := [.bipush (-1), .goto_w 13]
def hy_B195_13 : List Instr := [.ireturn]
def hy_K195 : List (Nat × List Instr) := [(0, hy_B195_0), (32, hy_B195_1), (42, hy_B195_2), (52, hy_B195_3), (62, hy_B195_4), (63, hy_B195_5), (64, hy_B195_6), (74, hy_B195_7), (84, hy_B195_8), (85, hy_B195_9), (86, hy_B195_10), (96, hy_B195_11), (106, hy_B195_12), (107, hy_B195_13)]
def hy_B196_0 : List Instr := [.aload 0, .getfield 598, .ifCond .le 1, .aload 0, .getfield 597, .aload 0, .getfield 598, .bipush 1, .isub, .iaload, .bipush (-11), .if_icmp .eq 1, .aload 0, .getfield 597, .aload 0, .getfield 598, .bipush 1, .isub, .iaload, .invokestatic 197, .iload 1, .if_icmp .lt 1, .aload 0, .dup, .getfield 598, .bipush 1, .isub, .putfield 598, .aload 0, .getfield 594, .aload 0, .getfield 595, .aload 0, .getfield 597, .aload 0, .getfield 598, .iaload, .iastore, .aload 0, .dup, .getfield 595, .bipush 1, .iadd, .putfield 595, .goto 0]
def hy_B196_1 : List Instr := [.return_]
def hy_K196 : List (Nat × List Instr) := [(0, hy_B196_0), (82, hy_B196_1)]
def hy_B197_0 : List Instr := [.iload 0, .bipush (-1), .if_icmp .ne 1, .bipush 1, .goto 6]
def hy_B197_1 : List Instr := [.iload 0, .bipush (-2), .if_icmp .ne 2, .bipush 2, .goto 6]
def hy_B197_2 : List Instr := [.iload 0, .bipush (-5), .if_icmp .lt 3, .bipush 3, .goto 6]
def hy_B197_3 : List Instr := [.iload 0, .bipush (-7), .if_icmp .lt 4, .bipush 4, .goto 6]
def hy_B197_4 : List Instr := [.iload 0, .bipush (-9), .if_icmp .lt 5, .bipush 5, .goto 6]
def hy_B197_5 : List Instr := [.bipush 6, .goto_w 6]
def hy_B197_6 : List Instr := [.ireturn]
def hy_K197 : List (Nat × List Instr) := [(0, hy_B197_0), (9, hy_B197_1), (19, hy_B197_2), (29, hy_B197_3), (39, hy_B197_4), (49, hy_B197_5), (51, hy_B197_6)]
def hy_B198_0 : List Instr := [.bipush 0, .istore 1, .bipush 0, .istore 2, .goto_w 1]
def hy_B198_1 : List Instr := [.iload 2, .aload 0, .getfield 598, .if_icmp .ge 4, .iload 1, .aload 0, .getfield 597, .iload 2, .iaload, .bipush (-10), .if_icmp .ne 2, .bipush 1, .goto 3]
def hy_B198_2 : List Instr := [.bipush 0, .goto_w 3]
def hy_B198_3 : List Instr := [.iadd, .istore 1, .iinc 2 1, .goto 1]
def hy_B198_4 : List Instr := [.iload 1, .ireturn]
def hy_K198 : List (Nat × List Instr) := [(0, hy_B198_0), (4, hy_B198_1), (28, hy_B198_2), (29, hy_B198_3), (37, hy_B198_4)]
def hy_B199_0 : List Instr := [.aload 0, .getfield 588, .bipush 3, .if_icmp .eq 1, .bipush 0, .ireturn]
def hy_B199_1 : List Instr := [.aload 0, .getfield 589, .lookupswitch 11 #[(38, 3), (42, 9), (43, 7), (45, 8), (47, 10), (60, 4), (61, 5), (62, 6), (124, 2)]]
def hy_B199_2 : List Instr := [.bipush (-1), .ireturn]
def hy_B199_3 : List Instr := [.bipush (-2), .ireturn]
def hy_B199_4 : List Instr := [.bipush (-3), .ireturn]
def hy_B199_5 : List Instr := [.bipush (-4), .ireturn]
def hy_B199_6 : List Instr := [.bipush (-5), .ireturn]
def hy_B199_7 : List Instr := [.bipush (-6), .ireturn]
def hy_B199_8 : List Instr := [.bipush (-7), .ireturn]
def hy_B199_9 : List Instr := [.bipush (-8), .ireturn]
def hy_B199_10 : List Instr := [.bipush (-9), .ireturn]
def hy_B199_11 : List Instr := [.bipush 0, .ireturn]
def hy_K199 : List (Nat × List Instr) := [(0, hy_B199_0), (10, hy_B199_1), (96, hy_B199_2), (98, hy_B199_3), (101, hy_B199_4), (104, hy_B199_5), (107, hy_B199_6), (110, hy_B199_7), (113, hy_B199_8), (116, hy_B199_9), (119, hy_B199_10), (122, hy_B199_11)]
def hy_B200_0 : List Instr := [.iload 1, .bipush 0, .aload 0, .getfield 576, .bipush 6, .iaload, .bipush 1, .isub, .invokestatic 125, .ifCond .eq 1, .iload 2, .bipush 0, .bipush 1, .invokestatic 125, .ifCond .ne 2, .goto_w 1]
def hy_B200_1 : List Instr := [.bipush (-1000000001), .ireturn]
def hy_B200_2 : List Instr := [.iload 2, .ifCond .ne 3, .aload 0, .getfield 576, .bipush 79, .bipush 2, .iload 1, .imul, .iadd, .iaload, .bipush 1000, .idiv, .goto 4]
def hy_B200_3 : List Instr := [.aload 0, .getfield 576, .bipush 79, .bipush 2, .iload 1, .imul, .iadd, .bipush 1, .iadd, .iaload, .goto_w 4]
def hy_B200_4 : List Instr := [.ireturn]
def hy_K200 : List (Nat × List Instr) := [(0, hy_B200_0), (26, hy_B200_1), (29, hy_B200_2), (51, hy_B200_3), (64, hy_B200_4)]
def hy_B201_0 : List Instr := [.iload 1, .bipush 0, .bipush 2, .invokestatic 125, .ifCond .ne 1, .bipush (-1000000001), .ireturn]
def hy_B201_1 : List Instr := [.aload 0, .iload 1, .invokevirtual 134, .istore 2, .iload 2, .ifCond .ge 2, .bipush (-1000000005), .goto 3]
def hy_B201_2 : List Instr := [.iload 2, .goto_w 3]
def hy_B201_3 : List Instr := [.ireturn]
def hy_K201 : List (Nat × List Instr) := [(0, hy_B201_0), (12, hy_B201_1), (27, hy_B201_2), (28, hy_B201_3)]
def hy_B202_0 : List Instr := [.iload 1, .invokestatic 182, .ifCond .eq 1, .iload 2, .bipush (-1), .bipush 1, .invokestatic 125, .ifCond .eq 1, .iload 2, .ifCond .lt 2, .iload 3, .bipush 24, .if_icmp .le 2, .goto_w 1]
def hy_B202_1 : List Instr := [.bipush (-1000000001), .ireturn]
def hy_B202_2 : List Instr := [.iload 2, .ifCond .lt 3, .iload 3, .ifCond .ge 3, .bipush (-1000000014), .ireturn]
def hy_B202_3 : List Instr := [.aload 0, .getfield 602, .iload 1, .iload 2, .iastore, .aload 0, .getfield 603, .iload 1, .iload 2, .ifCond .ge 4, .bipush 0, .goto 5]
def hy_B202_4 : List Instr := [.iload 3, .goto_w 5]
def hy_B202_5 : List Instr := [.iastore, .bipush 0, .istore 4, .goto_w 6]
def hy_B202_6 : List Instr := [.iload 4, .bipush 24, .if_icmp .ge 7, .aload 0, .getfield 604, .bipush 24, .iload 1, .imul, .iload 4, .iadd, .bipush 0, .iastore, .iinc 4 1, .goto 6]
def hy_B202_7 : List Instr := [.aload 0, .getfield 603, .iload 1, .iaload, .ireturn]
def hy_K202 : List (Nat × List Instr) := [(0, hy_B202_0), (26, hy_B202_1), (29, hy_B202_2), (41, hy_B202_3), (61, hy_B202_4), (62, hy_B202_5), (66, hy_B202_6), (92, hy_B202_7)]
def hy_B203_0 : List Instr := [.iload 1, .invokestatic 182, .ifCond .ne 1, .bipush (-1000000001), .ireturn]
def hy_B203_1 : List Instr := [.aload 0, .getfield 602, .iload 1, .iaload, .ifCond .ge 2, .bipush (-1000000011), .ireturn]
def hy_B203_2 : List Instr := [.iload 2, .bipush 0, .aload 0, .getfield 603, .iload 1, .iaload, .bipush 1, .isub, .invokestatic 125, .ifCond .ne 3, .bipush (-1000000013), .ireturn]
def hy_B203_3 : List Instr := [.aload 0, .getfield 602, .iload 1, .iaload, .ifCond .ne 4, .iload 3, .bipush (-1000000005), .if_icmp .ne 4, .bipush (-1000000012), .ireturn]
def hy_B203_4 : List Instr := [.aload 0, .getfield 602, .iload 1, .iaload, .bipush 1, .if_icmp .ne 5, .iload 3, .bipush (-1000000005), .if_icmp .eq 5, .iload 3, .bipush (-99999), .bipush 99999, .invokestatic 125, .ifCond .ne 5, .bipush (-1000000001), .ireturn]
def hy_B203_5 : List Instr := [.aload 0, .getfield 604, .bipush 24, .iload 1, .imul, .iload 2, .iadd, .aload 0, .getfield 602, .iload 1, .iaload, .ifCond .ne 6, .iload 3, .i2s, .goto 7]
def hy_B203_6 : List Instr := [.iload 3, .goto_w 7]
def hy_B203_7 : List Instr := [.iastore, .bipush 1, .ireturn]
def hy_K203 : List (Nat × List Instr) := [(0, hy_B203_0), (10, hy_B203_1), (22, hy_B203_2), (42, hy_B203_3), (60, hy_B203_4), (92, hy_B203_5), (116, hy_B203_6), (117, hy_B203_7)]
def hy_B204_0 : List Instr := [.iload 1, .invokestatic 182, .ifCond .ne 1, .bipush (-1000000001), .ireturn]
def hy_B204_1 : List Instr := [.aload 0, .getfield 602, .iload 1, .iaload, .ifCond .ge 2, .bipush (-1000000011), .ireturn]
def hy_B204_2 : List Instr := [.bipush 0, .istore 2, .bipush 0, .istore 3, .goto_w 3]
def hy_B204_3 : List Instr := [.iload 3, .aload 0, .getfield 603, .iload 1, .iaload, .if_icmp .ge 8, .iload 3, .aload 0, .getfield 576, .bipush 1, .iaload, .if_icmp .ge 8, .aload 0, .getfield 604, .bipush 24, .iload 1, .imul, .iload 3, .iadd, .iaload, .istore 4, .iload 4, .bipush (-1000000005), .if_icmp .ne 4, .aload 0, .iload 3, .bipush 3, .invokevirtual 128, .goto 5]
def hy_B204_4 : List Instr := [.iload 4, .bipush 1, .bipush 99, .invokestatic 137, .goto_w 5]
def hy_B204_5 : List Instr := [.istore 5, .iload 2, .aload 0, .bipush 7, .bipush 6, .iload 3, .imul, .iadd, .bipush 3, .iadd, .iload 5, .invokevirtual 149, .iload 5, .if_icmp .ne 6, .bipush 0, .goto 7]
def hy_B204_6 : List Instr := [.bipush 1, .goto_w 7]
def hy_B204_7 : List Instr := [.iadd, .istore 2, .iinc 3 1, .goto 3]
def hy_B204_8 : List Instr := [.iload 2, .ireturn]
def hy_K204 : List (Nat × List Instr) := [(0, hy_B204_0), (10, hy_B204_1), (22, hy_B204_2), (26, hy_B204_3), (75, hy_B204_4), (83, hy_B204_5), (110, hy_B204_6), (111, hy_B204_7), (119, hy_B204_8)]
def hy_B205_0 : List Instr := [.iload 1, .invokestatic 182, .ifCond .ne 1, .bipush (-1000000001), .ireturn]
def hy_B205_1 : List Instr := [.aload 0, .getfield 602, .iload 1, .iaload, .ifCond .ge 2, .bipush (-1000000011), .ireturn]
def hy_B205_2 : List Instr := [.bipush 0, .istore 2, .goto_w 3]
def hy_B205_3 : List Instr := [.iload 2, .aload 0, .getfield 603, .iload 1, .iaload, .if_icmp .ge 6, .aload 0, .getfield 604, .bipush 24, .iload 1, .imul, .iload 2, .iadd, .iaload, .istore 3, .iload 3, .bipush (-1000000005), .if_icmp .eq 5, .aload 0, .iload 2, .invokevirtual 132, .ifCond .eq 4, .iload 3, .aload 0, .iload 2, .bipush 2, .invokevirtual 128, .if_icmp .eq 5, .goto_w 4]
def hy_B205_4 : List Instr := [.iload 2, .ireturn]
def hy_B205_5 : List Instr := [.iinc 2 1, .goto 3]
def hy_B205_6 : List Instr := [.bipush (-1000000005), .ireturn]
def hy_K205 : List (Nat × List Instr) := [(0, hy_B205_0), (10, hy_B205_1), (22, hy_B205_2), (24, hy_B205_3), (70, hy_B205_4), (72, hy_B205_5), (78, hy_B205_6)]
def hy_B206_0 : List Instr := [.iload 1, .invokestatic 182, .ifCond .eq 1, .iload 3, .invokestatic 182, .ifCond .ne 2, .goto_w 1]
def hy_B206_1 : List Instr := [.bipush (-1000000001), .ireturn]
def hy_B206_2 : List Instr := [.aload 0, .getfield 602, .iload 1, .iaload, .ifCond .lt 3, .aload 0, .getfield 602, .iload 3, .iaload, .ifCond .ge 4, .goto_w 3]
def hy_B206_3 : List Instr := [.bipush (-1000000011), .ireturn]
def hy_B206_4 : List Instr := [.aload 0, .getfield 602, .iload 1, .iaload, .aload 0, .getfield 602, .iload 3, .iaload, .if_icmp .eq 5, .bipush (-1000000012), .ireturn]
def hy_B206_5 : List Instr := [.iload 2, .ifCond .lt 6, .iload 4, .ifCond .lt 6, .iload 5, .ifCond .lt 6, .iload 2, .aload 0, .getfield 603, .iload 1, .iaload, .iload 5, .isub, .if_icmp .gt 6, .iload 4, .aload 0, .getfield 603, .iload 3, .iaload, .iload 5, .isub, .if_icmp .le 7, .goto_w 6]
def hy_B206_6 : List Instr := [.bipush (-1000000013), .ireturn]
def hy_B206_7 : List Instr := [.bipush 0, .istore 6, .goto_w 8]
def hy_B206_8 : List Instr := [.iload 6, .iload 5, .if_icmp .ge 9, .aload 0, .getfield 609, .iload 6, .aload 0, .getfield 604, .bipush 24, .iload 1, .imul, .iload 2, .iadd, .iload 6, .iadd, .iaload, .iastore, .iinc 6 1, .goto 8]
def hy_B206_9 : List Instr := [.bipush 0, .istore 6, .goto_w 10]
def hy_B206_10 : List Instr := [.iload 6, .iload 5, .if_icmp .ge 11, .aload 0, .getfield 604, .bipush 24, .iload 3, .imul, .iload 4, .iadd, .iload 6, .iadd, .aload 0, .getfield 609, .iload 6, .iaload, .iastore, .iinc 6 1, .goto 10]
def hy_B206_11 : List Instr := [.iload 5, .ireturn]
def hy_K206 : List (Nat × List Instr) := [(0, hy_B206_0), (14, hy_B206_1), (17, hy_B206_2), (35, hy_B206_3), (38, hy_B206_4), (56, hy_B206_5), (97, hy_B206_6), (101, hy_B206_7), (104, hy_B206_8), (138, hy_B206_9), (141, hy_B206_10), (176, hy_B206_11)]
def hy_B207_0 : List Instr := [.iload 1, .invokestatic 208, .ifCond .eq 2, .iload 2, .bipush 0, .bipush 3, .invokestatic 125, .ifCond .eq 2, .iload 2, .bipush 1, .if_icmp .ne 1, .aload 0, .iload 3, .invokevirtual 132, .ifCond .eq 2, .goto_w 1]
def hy_B207_1 : List Instr := [.iload 2, .bipush 2, .if_icmp .ne 3, .iload 3, .invokestatic 182, .ifCond .ne 3, .goto_w 2]
def hy_B207_2 : List Instr := [.bipush (-1000000001), .ireturn]
def hy_B207_3 : List Instr := [.iload 2, .bipush 2, .if_icmp .ne 4, .aload 0, .getfield 602, .iload 3, .iaload, .ifCond .ge 4, .bipush (-1000000011), .ireturn]
def hy_B207_4 : List Instr := [.aload 0, .getfield 605, .iload 1, .iaload, .istore 4, .aload 0, .getfield 605, .iload 1, .iload 2, .iastore, .aload 0, .getfield 606, .iload 1, .iload 2, .bipush 1, .if_icmp .ne 5, .aload 0, .iload 3, .bipush 0, .invokevirtual 128, .goto 7]
def hy_B207_5 : List Instr := [.iload 2, .bipush 2, .if_icmp .ne 6, .aload 0, .getfield 603, .iload 3, .iaload, .goto 7]
def hy_B207_6 : List Instr := [.iload 3, .goto_w 7]
def hy_B207_7 : List Instr := [.iastore, .aload 0, .getfield 607, .iload 1, .iload 2, .bipush 1, .if_icmp .ne 8, .aload 0, .iload 3, .invokevirtual 139, .goto 9]
def hy_B207_8 : List Instr := [.bipush 0, .goto_w 9]
def hy_B207_9 : List Instr := [.iastore, .bipush 0, .istore 5, .goto_w 10]
def hy_B207_10 : List Instr := [.iload 5, .bipush 24, .if_icmp .ge 11, .iload 2, .bipush 2, .if_icmp .ne 11, .aload 0, .getfield 608, .bipush 24, .iload 1, .imul, .iload 5, .iadd, .aload 0, .getfield 604, .bipush 24, .iload 3, .imul, .iload 5, .iadd, .iaload, .iastore, .iinc 5 1, .goto 10]
def hy_B207_11 : List Instr := [.iload 4, .ireturn]
def hy_K207 : List (Nat × List Instr) := [(0, hy_B207_0), (29, hy_B207_1), (41, hy_B207_2), (44, hy_B207_3), (61, hy_B207_4), (95, hy_B207_5), (109, hy_B207_6), (110, hy_B207_7), (129, hy_B207_8), (130, hy_B207_9), (134, hy_B207_10), (176, hy_B207_11)]
def hy_B208_0 : List Instr := [.iload 0, .bipush 0, .bipush 4, .invokestatic 125, .ireturn]
def hy_K208 : List (Nat × List Instr) := [(0, hy_B208_0)]
def hy_B209_0 : List Instr := [.iload 1, .invokestatic 208, .ifCond .eq 1, .iload 2, .bipush 0, .bipush 5, .invokestatic 125, .ifCond .ne 2, .goto_w 1]
def hy_B209_1 : List Instr := [.bipush (-1000000001), .ireturn]
def hy_B209_2 : List Instr := [.aload 0, .getfield 605, .iload 1, .iaload, .ifCond .ne 3, .bipush (-1000000011), .ireturn]
def hy_B209_3 : List Instr := [.aload 0, .getfield 605, .iload 1, .iaload, .bipush 1, .if_icmp .ne 4, .aload 0, .getfield 606, .iload 1, .iaload, .iload 2, .invokestatic 147, .ifCond .eq 4, .aload 0, .getfield 607, .iload 1, .iaload, .goto 5]
def hy_B209_4 : List Instr := [.bipush (-1000000012), .goto_w 5]
def hy_B209_5 : List Instr := [.ireturn]
def hy_K209 : List (Nat × List Instr) := [(0, hy_B209_0), (16, hy_B209_1), (19, hy_B209_2), (31, hy_B209_3), (63, hy_B209_4), (65, hy_B209_5)]
def hy_B210_0 : List Instr := [.iload 1, .invokestatic 208, .ifCond .ne 1, .bipush (-1000000001), .ireturn]
def hy_B210_1 : List Instr := [.aload 0, .getfield 605, .iload 1, .iaload, .ifCond .ne 2, .bipush (-1000000011), .ireturn]
def hy_B210_2 : List Instr := [.aload 0, .getfield 605, .iload 1, .iaload, .bipush 2, .if_icmp .eq 3, .bipush (-1000000012), .ireturn]
def hy_B210_3 : List Instr := [.iload 2, .bipush 0, .aload 0, .getfield 606, .iload 1, .iaload, .bipush 1, .isub, .invokestatic 125, .ifCond .ne 4, .bipush (-1000000013), .ireturn]
def hy_B210_4 : List Instr := [.aload 0, .getfield 608, .bipush 24, .iload 1, .imul, .iload 2, .iadd, .iaload, .istore 3, .iload 3, .bipush (-1000000005), .if_icmp .ne 5, .bipush (-1000000012), .goto 6]
def hy_B210_5 : List Instr := [.iload 3, .goto_w 6]
def hy_B210_6 : List Instr := [.ireturn]
def hy_K210 : List (Nat × List Instr) := [(0, hy_B210_0), (10, hy_B210_1), (22, hy_B210_2), (35, hy_B210_3), (55, hy_B210_4), (78, hy_B210_5), (79, hy_B210_6)]
def hy_B211_0 : List Instr := [.iload 1, .invokestatic 208, .ifCond .ne 1, .bipush (-1000000001), .ireturn]
def hy_B211_1 : List Instr := [.aload 0, .getfield 605, .iload 1, .iaload, .ifCond .ne 2, .bipush (-1000000011), .ireturn]
def hy_B211_2 : List Instr := [.aload 0, .getfield 605, .iload 1, .iaload, .bipush 3, .if_icmp .eq 3, .bipush (-1000000012), .ireturn]
def hy_B211_3 : List Instr := [.iload 2, .ifCond .ne 4, .bipush (-1000000002), .goto 6]
def hy_B211_4 : List Instr := [.iload 2, .bipush (-1), .if_icmp .ne 5, .bipush 0, .goto 6]
def hy_B211_5 : List Instr := [.aload 0, .getfield 606, .iload 1, .iaload, .iload 2, .irem, .goto_w 6]
def hy_B211_6 : List Instr := [.ireturn]
def hy_K211 : List (Nat × List Instr) := [(0, hy_B211_0), (10, hy_B211_1), (22, hy_B211_2), (35, hy_B211_3), (44, hy_B211_4), (53, hy_B211_5), (61, hy_B211_6)]
def hy_B212_0 : List Instr := [.aload 0, .getfield 611, .bipush 60, .if_icmp .ne 1, .bipush (-1000000003), .ireturn]
def hy_B212_1 : List Instr := [.aload 0, .getfield 610, .aload 0, .getfield 611, .iload 1, .iastore, .aload 0, .dup, .getfield 611, .bipush 1, .iadd, .putfield 611, .aload 0, .getfield 611, .ireturn]
def hy_K212 : List (Nat × List Instr) := [(0, hy_B212_0), (12, hy_B212_1)]
def hy_B213_0 : List Instr := [.aload 0, .getfield 611, .istore 2, .aload 0, .bipush 0, .putfield 611, .iload 1, .bipush 1, .bipush 30, .invokestatic 125, .ifCond .ne 1, .bipush (-1000000001), .ireturn]
def hy_B213_1 : List Instr := [.aload 0, .getfield 579, .ifCond .ne 2, .bipush (-1000000002), .ireturn]
def hy_B213_2 : List Instr := [.aload 0, .getfield 576, .aload 0, .getfield 578, .invokestatic 214, .aload 0, .getfield 577, .aload 0, .getfield 576, .invokestatic 214, .bipush 2, .bipush 9999, .aload 0, .getfield 576, .bipush 2, .iaload, .isub, .bipush 0, .iload 1, .invokestatic 137, .imul, .istore 3, .bipush 0, .istore 4, .bipush 0, .istore 5, .goto_w 3]
def hy_B213_3 : List Instr := [.bipush 2, .iload 5, .imul, .iload 3, .if_icmp .ge 8, .iload 4, .bipush 2, .iload 5, .imul, .if_icmp .ne 8, .aload 0, .invokevirtual 170, .iload 4, .iload 4, .iload 2, .if_icmp .ge 4, .aload 0, .getfield 610, .iload 4, .iaload, .aload 0, .bipush 0, .invokevirtual 161, .if_icmp .ne 4, .bipush 1, .goto 5]
def hy_B213_4 : List Instr := [.bipush 0, .goto_w 5]
def hy_B213_5 : List Instr := [.iadd, .istore 4, .iload 4, .iload 4, .bipush 2, .iload 5, .imul, .bipush 1, .iadd, .if_icmp .ne 6, .iload 4, .iload 2, .if_icmp .ge 6, .aload 0, .getfield 610, .iload 4, .iaload, .aload 0, .invokevirtual 175, .if_icmp .ne 6, .bipush 1, .goto 7]
def hy_B213_6 : List Instr := [.bipush 0, .goto_w 7]
def hy_B213_7 : List Instr := [.iadd, .istore 4, .iinc 5 1, .goto 3]
def hy_B213_8 : List Instr := [.aload 0, .getfield 578, .aload 0, .getfield 576, .invokestatic 214, .iload 4, .iload 2, .if_icmp .ne 9, .iload 4, .iload 3, .if_icmp .ne 9, .bipush 0, .goto 10]
def hy_B213_9 : List Instr := [.bipush 1, .iload 4, .iadd, .goto_w 10]
def hy_B213_10 : List Instr := [.ireturn]
def hy_K213 : List (Nat × List Instr) := [(0, hy_B213_0), (23, hy_B213_1), (33, hy_B213_2), (79, hy_B213_3), (127, hy_B213_4), (128, hy_B213_5), (168, hy_B213_6), (169, hy_B213_7), (178, hy_B213_8), (205, hy_B213_9), (209, hy_B213_10)]
def hy_B214_0 : List Instr := [.bipush 0, .istore 2, .goto_w 1]
def hy_B214_1 : List Instr := [.iload 2, .bipush 1451, .if_icmp .ge 2, .aload 1, .iload 2, .aload 0, .iload 2, .iaload, .iastore, .iinc 2 1, .goto 1]
def hy_B214_2 : List Instr := [.return_]
def hy_K214 : List (Nat × List Instr) := [(0, hy_B214_0), (2, hy_B214_1), (21, hy_B214_2)]
def hy_B215_0 : List Instr := [.aload 0, .getfield 576, .aload 0, .getfield 577, .invokestatic 214, .aload 0, .bipush 1, .putfield 579, .aload 0, .getfield 576, .bipush 1, .iaload, .ireturn]
def hy_K215 : List (Nat × List Instr) := [(0, hy_B215_0)]
def hy_B216_0 : List Instr := [.aload 0, .getfield 579, .ifCond .ne 1, .bipush (-1000000002), .ireturn]
def hy_B216_1 : List Instr := [.aload 0, .getfield 577, .aload 0, .getfield 576, .invokestatic 214, .aload 0, .getfield 576, .bipush 1, .iaload, .ireturn]
def hy_K216 : List (Nat × List Instr) := [(0, hy_B216_0), (10, hy_B216_1)]
def hy_B217_0 : List Instr := [.iload 1, .tableswitch 9 0 9 #[1, 2, 3, 3, 3, 4, 5, 6, 7, 8]]
def hy_B217_1 : List Instr := [.aload 0, .getfield 576, .bipush 1, .iaload, .ireturn]
def hy_B217_2 : List Instr := [.aload 0, .getfield 576, .bipush 2, .iaload, .ireturn]
def hy_B217_3 : List Instr := [.aload 0, .getfield 576, .bipush 3, .iload 1, .iadd, .bipush 2, .isub, .iaload, .ireturn]
def hy_B217_4 : List Instr := [.aload 0, .invokevirtual 168, .ireturn]
def hy_B217_5 : List Instr := [.aload 0, .getfield 576, .bipush 6, .iaload, .ireturn]
def hy_B217_6 : List Instr := [.aload 0, .getfield 611, .ireturn]
def hy_B217_7 : List Instr := [.aload 0, .getfield 585, .ireturn]
def hy_B217_8 : List Instr := [.aload 0, .getfield 576, .bipush 0, .iaload, .ireturn]
def hy_B217_9 : List Instr := [.bipush (-1000000001), .ireturn]
def hy_K217 : List (Nat × List Instr) := [(0, hy_B217_0), (56, hy_B217_1), (63, hy_B217_2), (70, hy_B217_3), (81, hy_B217_4), (86, hy_B217_5), (94, hy_B217_6), (99, hy_B217_7), (104, hy_B217_8), (111, hy_B217_9)]
def hy_B218_0 : List Instr := [.aload 0, .getfield 1984, .arraylength, .aload 0, .invokevirtual 219, .ishr, .ireturn]
def hy_K218 : List (Nat × List Instr) := [(0, hy_B218_0)]
def hy_B219_0 : List Instr := [.getstatic 0, .ifCond .eq 1, .aload 0, .getfield 1985, .goto 2]
def hy_B219_1 : List Instr := [.bipush 1, .goto_w 2]
def hy_B219_2 : List Instr := [.ireturn]
def hy_K219 : List (Nat × List Instr) := [(0, hy_B219_0), (13, hy_B219_1), (14, hy_B219_2)]
def hy_B220_0 : List Instr := [.aload 0, .invokevirtual 221, .ifCond .eq 1, .aload 0, .getfield 1984, .iload 1, .invokestatic 222, .ireturn]
def hy_B220_1 : List Instr := [.aload 0, .getfield 1984, .iload 1]
def hy_K220 : List (Nat × List Instr) := [(0, hy_B220_0), (16, hy_B220_1)]
def hy_B221_0 : List Instr := [.getstatic 0, .ifCond .eq 1, .aload 0, .getfield 1985, .ifCond .ne 1, .bipush 1, .goto 2]
def hy_B221_1 : List Instr := [.bipush 0, .goto_w 2]
def hy_B221_2 : List Instr := [.ireturn]
def hy_K221 : List (Nat × List Instr) := [(0, hy_B221_0), (17, hy_B221_1), (18, hy_B221_2)]
def hy_B222_0 : List Instr := [.iload 1, .aload 0, .arraylength, .invokestatic 223, .aload 0, .iload 1, .baload, .bipush 255, .iand, .i2c, .ireturn]
def hy_K222 : List (Nat × List Instr) := [(0, hy_B222_0)]
def hy_B223_0 : List Instr := [.iload 0, .iload 1, .getstatic 1, .invokestatic 224, .pop, .return_]
def hy_K223 : List (Nat × List Instr) := [(0, hy_B223_0)]
def hy_B224_0 : List Instr := [.iload 0, .ifCond .lt 1, .iload 0, .iload 1, .if_icmp .lt 2, .goto_w 1]
def hy_B224_1 : List Instr := [.aload 2, .iload 0, .iload 1]
def hy_B224_2 : List Instr := [.iload 0, .ireturn]
def hy_K224 : List (Nat × List Instr) := [(0, hy_B224_0), (9, hy_B224_1), (16, hy_B224_2)]
def hy_B225_0 : List Instr := [.aload 0, .iload 1, .bipush 0, .invokevirtual 226, .ireturn]
def hy_K225 : List (Nat × List Instr) := [(0, hy_B225_0)]
def hy_B226_0 : List Instr := [.aload 0, .invokevirtual 221, .ifCond .eq 1, .aload 0, .getfield 1984, .iload 1, .iload 2, .aload 0, .invokevirtual 218, .invokestatic 227, .goto 2]
def hy_B226_1 : List Instr := [.aload 0, .getfield 1984, .iload 1, .iload 2, .aload 0, .invokevirtual 218]
def hy_B226_2 : List Instr := [.ireturn]
def hy_K226 : List (Nat × List Instr) := [(0, hy_B226_0), (23, hy_B226_1), (36, hy_B226_2)]
def hy_B227_0 : List Instr := [.iload 1, .invokestatic 228, .ifCond .ne 1, .bipush (-1), .ireturn]
def hy_B227_1 : List Instr := [.iload 2, .bipush 0, .invokedynamic 0, .istore 2, .iload 3, .aload 0, .arraylength, .invokedynamic 1, .istore 3, .iload 2, .iload 3, .if_icmp .lt 2, .bipush (-1), .ireturn]
def hy_B227_2 : List Instr := [.aload 0, .iload 1, .iload 2, .iload 3, .invokestatic 229, .ireturn]
def hy_K227 : List (Nat × List Instr) := [(0, hy_B227_0), (9, hy_B227_1), (29, hy_B227_2)]
def hy_B228_0 : List Instr := [.iload 0, .ifCond .lt 1, .iload 0, .bipush 255, .if_icmp .gt 1, .bipush 1, .goto 2]
def hy_B228_1 : List Instr := [.bipush 0, .goto_w 2]
def hy_B228_2 : List Instr := [.ireturn]
def hy_K228 : List (Nat × List Instr) := [(0, hy_B228_0), (15, hy_B228_1), (16, hy_B228_2)]
def hy_B229_0 : List Instr := [.iload 1, .i2b, .istore 4, .iload 2, .istore 5, .goto_w 1]
def hy_B229_1 : List Instr := [.iload 5, .iload 3, .if_icmp .ge 3, .aload 0, .iload 5, .baload, .iload 4, .if_icmp .ne 2, .iload 5, .ireturn]
def hy_B229_2 : List Instr := [.iinc 5 1, .goto 1]
def hy_B229_3 : List Instr := [.bipush (-1), .ireturn]
def hy_K229 : List (Nat × List Instr) := [(0, hy_B229_0), (7, hy_B229_1), (25, hy_B229_2), (31, hy_B229_3)]
def hy_K : List (List (Nat × List Instr)) := [hy_K0, hy_K1, hy_K2, hy_K3, hy_K4, hy_K5, hy_K6, hy_K7, hy_K8, hy_K9, hy_K10, hy_K11, hy_K12, hy_K13, hy_K14, hy_K15, hy_K16, hy_K17, hy_K18, hy_K19, hy_K20, hy_K21, hy_K22, hy_K23, hy_K24, hy_K25, hy_K26, hy_K27, hy_K28, hy_K29, hy_K30, hy_K31, hy_K32, hy_K33, hy_K34, hy_K35, hy_K36, hy_K37, hy_K38, hy_K39, hy_K40, hy_K41, hy_K42, hy_K43, hy_K44, hy_K45, hy_K46, hy_K47, hy_K48, hy_K49, hy_K50, hy_K51, hy_K52, hy_K53, hy_K54, hy_K55, hy_K56, hy_K57, hy_K58, hy_K59, hy_K60, hy_K61, hy_K62, hy_K63, hy_K64, hy_K65, hy_K66, hy_K67, hy_K68, hy_K69, hy_K70, hy_K71, hy_K72, hy_K73, hy_K74, hy_K75, hy_K76, hy_K77, hy_K78, hy_K79, hy_K80, hy_K81, hy_K82, hy_K83, hy_K84, hy_K85, hy_K86, hy_K87, hy_K88, hy_K89, hy_K90, hy_K91, hy_K92, hy_K93, hy_K94, hy_K95, hy_K96, hy_K97, hy_K98, hy_K99, hy_K100, hy_K101, hy_K102, hy_K103, hy_K104, hy_K105, hy_K106, hy_K107, hy_K108, hy_K109, hy_K110, hy_K111, hy_K112, hy_K113, hy_K114, hy_K115, hy_K116, hy_K117, hy_K118, hy_K119, hy_K120, hy_K121, hy_K122, hy_K123, hy_K124, hy_K125, hy_K126, hy_K127, hy_K128, hy_K129, hy_K130, hy_K131, hy_K132, hy_K133, hy_K134, hy_K135, hy_K136, hy_K137, hy_K138, hy_K139, hy_K140, hy_K141, hy_K142, hy_K143, hy_K144, hy_K145, hy_K146, hy_K147, hy_K148, hy_K149, hy_K150, hy_K151, hy_K152, hy_K153, hy_K154, hy_K155, hy_K156, hy_K157, hy_K158, hy_K159, hy_K160, hy_K161, hy_K162, hy_K163, hy_K164, hy_K165, hy_K166, hy_K167, hy_K168, hy_K169, hy_K170, hy_K171, hy_K172, hy_K173, hy_K174, hy_K175, hy_K176, hy_K177, hy_K178, hy_K179, hy_K180, hy_K181, hy_K182, hy_K183, hy_K184, hy_K185, hy_K186, hy_K187, hy_K188, hy_K189, hy_K190, hy_K191, hy_K192, hy_K193, hy_K194, hy_K195, hy_K196, hy_K197, hy_K198, hy_K199, hy_K200, hy_K201, hy_K202, hy_K203, hy_K204, hy_K205, hy_K206, hy_K207, hy_K208, hy_K209, hy_K210, hy_K211, hy_K212, hy_K213, hy_K214, hy_K215, hy_K216, hy_K217, hy_K218, hy_K219, hy_K220, hy_K221, hy_K222, hy_K223, hy_K224, hy_K225, hy_K226, hy_K227, hy_K228, hy_K229]
end
section
/-! THE SMALL MACHINE: the abstract code of part 02 over a store of ints (place of an object, slot); references are places, each with its kind. What it answers, the bytecode answers (part 04). -/
abbrev Vl := Value × Nat
abbrev Sg := Nat → Nat → Int32
abbrev Rs := Option (Vl × Sg)
def hy_up (σ : Sg) (a k : Nat) (v : Int32) : Sg := fun a' => if a' = a then upd (σ a) k v else σ a'
abbrev hy_ib (i : Int32) (n : Int) : Prop := 0 ≤ i.toInt ∧ i.toInt < n
def hy_ix (i : Int32) : Nat := i.toNatClampNeg
/-- the kinds of the places 0 .. 161 -/
def hy_KT : List Nat := [1, 10, 2, 14, 3, 14, 14, 4, 11, 12, 20] ++ (List.replicate 14 [3, 14, 14]).flatten ++ (List.replicate 4 [5, 15]).flatten ++ (List.replicate 5 [6, 8, 5, 15]).flatten ++ (List.replicate 3 ([7, 13, 16, 17, 18, 19, 4] ++ List.replicate 12 8)).flatten ++ [9, 21, 21, 21, 22, 22, 23, 14, 27, 24, 14, 14, 28, 14, 24, 24, 24, 14, 25, 25, 25, 26, 15, 20]
def hy_NN : Nat := 162
theorem hy_KT_len : hy_KT.length = hy_NN := by decide +kernel
def hy_ka (a : Nat) : Nat := if a < 162 then hy_KT.getD a 0 else if 1000 ≤ a ∧ a < 1006 then 31 else if 1010 ≤ a ∧ a < 1016 then 32 else if a = 1999 then 33 else if a = 2000 then 30 else 0
/-- fields that are references: the kind of what they hold and how far it lies (from 1000 on: its place, and 1000) -/
def hy_FRT : List (List (Option (Nat × Nat))) := [[],
  [some (10, 1), some (2, 2), some (7, 81), some (7, 100), some (7, 119), none, some (4, 7), some (11, 8), some (12, 9), some (20, 10), none],
  [some (14, 1), some (3, 2), none, none],
  [some (14, 1), some (14, 2), none, none, none],
  [none, none, none],
  [some (15, 1), none, none],
  [some (8, 1), some (5, 2), none, none],
  [some (10, 1001), some (13, 1), some (16, 2), some (17, 3), some (18, 4), some (19, 5), some (4, 6), none, none, none, none, none, none, none],
  [none, none, none, none, none, none],
  [some (21, 1), some (21, 2), some (21, 3), none, some (22, 4), some (22, 5), none, some (23, 6), some (14, 7), none, none, none, none, none, none, none, some (27, 8), some (24, 9), some (14, 10), none, none, some (14, 11), none, some (28, 12), some (14, 13), some (24, 14), some (24, 15), some (24, 16), some (14, 17), some (25, 18), some (25, 19), some (25, 20), some (26, 21), some (15, 22), some (20, 23), none]]
def hy_fr (p : Nat) : Option (Nat × Nat) := bif Nat.beq p 1984 then some (32, 10) else (hy_FRT.getD (p / 64) []).getD (p % 64) none
def hy_ad (off a : Nat) : Nat := bif Nat.ble 1000 off then off - 1000 else a + off
def hy_ra (kd : Nat) : Option (Int × Nat × Nat × Nat) := match kd with
  | 10 => some (14, 3, 10, 3)
  | 11 => some (4, 5, 45, 2)
  | 12 => some (5, 6, 52, 4)
  | 13 => some (12, 8, 6, 1)
  | _ => none
/-- arrays of ints (0), chars (1), booleans (2): sort and length -/
def hy_al (kd : Nat) : Option (Nat × Int) := (([(0, 96), (0, 24), (0, 36), (0, 3), (0, 432), (0, 12), (0, 60), (0, 1451), (0, 72), (0, 79), (0, 4), (0, 5), (0, 120), (1, 10), (2, 10)] : List (Nat × Int))[kd - 14]?).bind fun q => bif Nat.ble 14 kd then some q else none
/-- the length of an array that is none of those -/
def hy_dl (σ : Sg) (a : Nat) : Int32 := σ a 5000
def hy_cpS (σ : Sg) (a0 a1 : Nat) (sp dp n : Int32) : Sg := fun a => if a = a1 then va_cpy (σ a0) (σ a1) (hy_ix sp) (hy_ix dp) (hy_ix n) else σ a
def hy_ltb (c : Jvm.ClassFile.Cond) (x y : Int32) (t f : Rs) : Rs := match c with
  | .eq => if x = y then t else f
  | .ne => if x = y then f else t
  | .lt => if x < y then t else f
  | .ge => if y ≤ x then t else f
  | .gt => if y < x then t else f
  | .le => if x ≤ y then t else f
def hy_push (r : Value) (st : List Vl) : List Vl := match r with
  | .null => st
  | r => (r, 0) :: st
def hy_exp (as : List Vl) : List Vl := as.flatMap fun v => match v.1 with | .long _ => [v, (.null, 0)] | _ => [v]
def hy_ent (maxl : Nat) (as : List Vl) : List Vl := hy_exp as ++ List.replicate (maxl - (hy_exp as).length) (.null, 0)
def hy_wds : List Vl → Nat
  | [] => 0
  | v :: l => (match v.1 with | .long _ => 2 | .double _ => 2 | _ => 1) + hy_wds l
def hy_own (q : Nat) : Nat := (hy_m q).2.2.2.2
def hy_na (q : Nat) : Nat := (hy_m q).2.2.2.1
def hy_mx (q : Nat) : Nat := (hy_m q).2.1
def hy_rt (q : Nat) : Nat := match (hy_m q).2.2.1 with
  | some .boolean => 1
  | some .byte => 2
  | some .char => 3
  | _ => 0
def hy_tab (lo : Int) (x : Int32) (offs : List Int) (dflt : Int) : Nat := if x.toInt < lo then dflt.toNat else ((offs[(x.toInt - lo).toNat]?).getD dflt).toNat
def hy_look (x : Int32) (ps : List (Int × Int)) (dflt : Int) (rc : Nat → Rs) : Rs := match ps with
  | [] => rc dflt.toNat
  | p :: ps => if x = Int32.ofInt p.1 then rc p.2.toNat else hy_look x ps dflt rc
/-- one instruction: rt is what the method answers, dz whether a further frame may be had, rc goes to a block of the method, cl calls a method, k goes on -/
def hy_sem (rt : Nat) (dz : Bool) (rc : Nat → List Vl → List Vl → Sg → Rs) (cl : Nat → List Vl → Sg → Rs) (op : Instr) (k : List Vl → List Vl → Sg → Rs) (lv st : List Vl) (σ : Sg) : Rs :=
  match op with
  | .bipush n => k lv ((.int (Int32.ofInt n), 0) :: st) σ
  | .lconst n => k lv ((.long (Int64.ofNat (n : Nat)), 0) :: st) σ
  | .ldc i => k lv ((.ref (1000 + i), 31) :: st) σ
  | .getstatic i => match i with
    | 0 => k lv ((.int 1, 0) :: st) σ
    | _ => k lv ((.float 0, 33) :: st) σ
  | .iload i => match lv[i]? with
    | some (.int x, _) => k lv ((.int x, 0) :: st) σ
    | _ => none
  | .lload i => match lv[i]? with
    | some (.long x, _) => k lv ((.long x, 0) :: st) σ
    | _ => none
  | .aload i => match lv[i]? with
    | some (.ref x, kd) => k lv ((.ref x, kd) :: st) σ
    | _ => none
  | .istore i => match st with
    | (.int x, _) :: st => match lv[i - 1]? with
      | some (.long _, _) => none
      | _ => bif Nat.blt i lv.length then k (lv.set i (.int x, 0)) st σ else none
    | _ => none
  | .astore i => match st with
    | (.ref x, kd) :: st => match lv[i - 1]? with
      | some (.long _, _) => none
      | _ => bif Nat.blt i lv.length then k (lv.set i (.ref x, kd)) st σ else none
    | _ => none
  | .lstore i => match st with
    | (.long x, _) :: st => match lv[i - 1]? with
      | some (.long _, _) => none
      | _ => bif Nat.blt (i + 1) lv.length then k ((lv.set i (.long x, 0)).set (i + 1) (.null, 0)) st σ else none
    | _ => none
  | .iinc i n => match lv[i]? with
    | some (.int x, _) => match lv[i - 1]? with
      | some (.long _, _) => none
      | _ => k (lv.set i (.int (x + Int32.ofInt n), 0)) st σ
    | _ => none
  | .iadd => match st with
    | (.int y, _) :: (.int x, _) :: st => k lv ((.int (x + y), 0) :: st) σ
    | _ => none
  | .isub => match st with
    | (.int y, _) :: (.int x, _) :: st => k lv ((.int (x - y), 0) :: st) σ
    | _ => none
  | .imul => match st with
    | (.int y, _) :: (.int x, _) :: st => k lv ((.int (x * y), 0) :: st) σ
    | _ => none
  | .idiv => match st with
    | (.int y, _) :: (.int x, _) :: st => if y = 0 then none else k lv ((.int (x / y), 0) :: st) σ
    | _ => none
  | .irem => match st with
    | (.int y, _) :: (.int x, _) :: st => if y = 0 then none else k lv ((.int (x - x / y * y), 0) :: st) σ
    | _ => none
  | .iand => match st with
    | (.int y, _) :: (.int x, _) :: st => k lv ((.int (x &&& y), 0) :: st) σ
    | _ => none
  | .ior => match st with
    | (.int y, _) :: (.int x, _) :: st => k lv ((.int (x ||| y), 0) :: st) σ
    | _ => none
  | .ishl => match st with
    | (.int y, _) :: (.int x, _) :: st => k lv ((.int (x <<< (y &&& 31)), 0) :: st) σ
    | _ => none
  | .ishr => match st with
    | (.int y, _) :: (.int x, _) :: st => k lv ((.int (x >>> (y &&& 31)), 0) :: st) σ
    | _ => none
  | .iushr => match st with
    | (.int y, _) :: (.int x, _) :: st => k lv ((.int (x.toUInt32 >>> (y.toUInt32 &&& Int32.toUInt32 31)).toInt32, 0) :: st) σ
    | _ => none
  | .ineg => match st with
    | (.int x, _) :: st => k lv ((.int (-x), 0) :: st) σ
    | _ => none
  | .i2s => match st with
    | (.int x, _) :: st => k lv ((.int x.toInt16.toInt32, 0) :: st) σ
    | _ => none
  | .i2b => match st with
    | (.int x, _) :: st => k lv ((.int x.toInt8.toInt32, 0) :: st) σ
    | _ => none
  | .i2c => match st with
    | (.int x, _) :: st => k lv ((.int (x.toUInt32 % 65536).toInt32, 0) :: st) σ
    | _ => none
  | .i2l => match st with
    | (.int x, _) :: st => k lv ((.long x.toInt64, 0) :: st) σ
    | _ => none
  | .l2i => match st with
    | (.long x, _) :: st => k lv ((.int x.toInt32, 0) :: st) σ
    | _ => none
  | .ladd => match st with
    | (.long y, _) :: (.long x, _) :: st => k lv ((.long (x + y), 0) :: st) σ
    | _ => none
  | .lsub => match st with
    | (.long y, _) :: (.long x, _) :: st => k lv ((.long (x - y), 0) :: st) σ
    | _ => none
  | .lneg => match st with
    | (.long x, _) :: st => k lv ((.long (-x), 0) :: st) σ
    | _ => none
  | .lcmp => match st with
    | (.long y, _) :: (.long x, _) :: st => k lv ((.int (lg_cmp x y), 0) :: st) σ
    | _ => none
  | .dup => match st with
    | (.int x, q) :: st => k lv ((.int x, q) :: (.int x, q) :: st) σ
    | (.ref x, q) :: st => k lv ((.ref x, q) :: (.ref x, q) :: st) σ
    | _ => none
  | .dup2 => match st with
    | (.int x, q) :: (.ref y, q') :: st => k lv ((.int x, q) :: (.ref y, q') :: (.int x, q) :: (.ref y, q') :: st) σ
    | _ => none
  | .pop => match st with
    | (.int _, _) :: st => k lv st σ
    | _ => none
  | .getfield p => match st with
    | (.ref a, kd) :: st => bif Nat.beq kd (p / 64) then (match hy_fr p with
      | some (kd', off) => k lv ((.ref (hy_ad off a), kd') :: st) σ
      | none => k lv ((.int (σ a (p % 64)), 0) :: st) σ) else none
    | _ => none
  | .putfield p => match st with
    | (.int x, _) :: (.ref a, kd) :: st => bif Nat.beq kd (p / 64) then (match hy_fr p with
      | some _ => none
      | none => bif Nat.beq p 69 || Nat.beq p 579 then (if x = 0 ∨ x = 1 then k lv st (hy_up σ a (p % 64) x) else none) else k lv st (hy_up σ a (p % 64) x)) else none
    | _ => none
  | .iaload => match st with
    | (.int i, _) :: (.ref a, kd) :: st => match hy_al kd with
      | some (0, n) => if hy_ib i n then k lv ((.int (σ a (hy_ix i)), 0) :: st) σ else none
      | _ => bif Nat.beq kd 30 then (if hy_ib i (hy_dl σ a).toInt then k lv ((.int (σ a (hy_ix i)), 0) :: st) σ else none) else none
    | _ => none
  | .caload => match st with
    | (.int i, _) :: (.ref a, kd) :: st => match hy_al kd with
      | some (1, n) => if hy_ib i n then k lv ((.int (σ a (hy_ix i)), 0) :: st) σ else none
      | _ => none
    | _ => none
  | .baload => match st with
    | (.int i, _) :: (.ref a, kd) :: st => match hy_al kd with
      | some (2, n) => if hy_ib i n then k lv ((.int (σ a (hy_ix i)), 0) :: st) σ else none
      | _ => bif Nat.beq kd 32 then (if hy_ib i (hy_dl σ a).toInt then k lv ((.int (σ a (hy_ix i)), 0) :: st) σ else none) else none
    | _ => none
  | .aaload => match st with
    | (.int i, _) :: (.ref a, kd) :: st => match hy_ra kd with
      | some (n, kd', off, sd) => if hy_ib i n then k lv ((.ref (a + off + sd * hy_ix i), kd') :: st) σ else none
      | none => none
    | _ => none
  | .iastore => match st with
    | (.int x, _) :: (.int i, _) :: (.ref a, kd) :: st => match hy_al kd with
      | some (0, n) => if hy_ib i n then k lv st (hy_up σ a (hy_ix i) x) else none
      | _ => none
    | _ => none
  | .bastore => match st with
    | (.int x, _) :: (.int i, _) :: (.ref a, kd) :: st => match hy_al kd with
      | some (2, n) => if hy_ib i n then (if x = 0 ∨ x = 1 then k lv st (hy_up σ a (hy_ix i) x) else none) else none
      | _ => none
    | _ => none
  | .arraylength => match st with
    | (.ref a, kd) :: st => bif Nat.beq kd 30 || Nat.beq kd 32 then k lv ((.int (hy_dl σ a), 0) :: st) σ else none
    | _ => none
  | .ifCond c b => match st with
    | (.int x, _) :: st => hy_ltb c x 0 (rc b.toNat lv st σ) (k lv st σ)
    | _ => none
  | .if_icmp c b => match st with
    | (.int y, _) :: (.int x, _) :: st => hy_ltb c x y (rc b.toNat lv st σ) (k lv st σ)
    | _ => none
  | .goto b => rc b.toNat lv st σ
  | .goto_w b => rc b.toNat lv st σ
  | .tableswitch dflt lo _ offs => match st with
    | (.int x, _) :: st => rc (hy_tab lo x offs.toList dflt) lv st σ
    | _ => none
  | .lookupswitch dflt ps => match st with
    | (.int x, _) :: st => hy_look x ps.toList dflt fun b => rc b lv st σ
    | _ => none
  | .invokedynamic j => bif dz then (match j with
    | 0 => match st with
      | (.int y, _) :: (.int x, _) :: st => bif Nat.ble st.length 4 then k lv ((.int (if x < y then y else x), 0) :: st) σ else none
      | _ => none
    | 1 => match st with
      | (.int y, _) :: (.int x, _) :: st => bif Nat.ble st.length 4 then k lv ((.int (if y < x then y else x), 0) :: st) σ else none
      | _ => none
    | 2 => match st with
      | (.int x, _) :: st => bif Nat.ble st.length 4 then k lv ((.int (if 0 ≤ x then x else 0 - x), 0) :: st) σ else none
      | _ => none
    | 3 => match st with
      | (.int n, _) :: (.int dp, _) :: (.ref a1, k1) :: (.int sp, _) :: (.ref a0, k0) :: st => bif Nat.ble st.length 4 then (match hy_al k0, hy_al k1 with
        | some (0, n0), some (0, n1) => if (0 ≤ sp.toInt ∧ 0 ≤ dp.toInt ∧ 0 ≤ n.toInt) ∧ sp.toInt + n.toInt ≤ n0 ∧ dp.toInt + n.toInt ≤ n1 then k lv st (hy_cpS σ a0 a1 sp dp n) else none
        | _, _ => none) else none
      | _ => none
    | _ => none) else none
  | .invokestatic q => bif Nat.ble (hy_na q) st.length && Nat.ble (hy_wds (st.drop (hy_na q))) 8 then (cl q (st.take (hy_na q)).reverse σ).bind fun r => k lv (hy_push r.1.1 (st.drop (hy_na q))) r.2 else none
  | .invokevirtual q => bif Nat.ble (hy_na q) st.length && Nat.ble (hy_wds (st.drop (hy_na q))) 8 then (match (st.take (hy_na q)).reverse with
    | (.ref a, kd) :: as => bif (Nat.beq kd (hy_own q) && (Nat.ble 1 kd && Nat.ble kd 9)) || (Nat.beq kd 31 && Nat.beq (hy_own q) 10) then (cl q ((.ref a, kd) :: as) σ).bind fun r => k lv (hy_push r.1.1 (st.drop (hy_na q))) r.2 else none
    | _ => none) else none
  | .ireturn => match st with
    | [(.int x, _)] => match rt with
      | 1 => if x = 0 ∨ x = 1 then some ((.int x, 0), σ) else none
      | 2 => if x.toInt8.toInt32 = x then some ((.int x, 0), σ) else none
      | 3 => if (x.toUInt32 % 65536).toInt32 = x then some ((.int x, 0), σ) else none
      | _ => some ((.int x, 0), σ)
    | _ => none
  | .lreturn => match st with
    | [(.long x, _)] => some ((.long x, 0), σ)
    | _ => none
  | .return_ => match st with
    | [] => some ((.null, 0), σ)
    | _ => none
  | _ => none
def hy_blk (y b : Nat) : Nat × List Instr := (hy_K.getD y []).getD b (0, [])
def hy_ex (rt : Nat) (dz : Bool) (rc : Nat → List Vl → List Vl → Sg → Rs) (cl : Nat → List Vl → Sg → Rs) : List Instr → List Vl → List Vl → Sg → Rs
  | [] => fun _ _ _ => none
  | op :: ops => hy_sem rt dz rc cl op (hy_ex rt dz rc cl ops)
/-- fuel n, frames d: method y from its block b on -/
def hy_run : Nat → Nat → Nat → Nat → List Vl → List Vl → Sg → Rs
  | 0, _, _, _ => fun _ _ _ => none
  | n + 1, d, y, b => hy_ex (hy_rt y) (Nat.blt 0 d) (hy_run n d y) (fun q as σ => match d with
    | 0 => none
    | d' + 1 => bif Nat.beq (hy_ent (hy_mx q) as).length (hy_mx q) then hy_run n d' q 0 (hy_ent (hy_mx q) as) [] σ else none) (hy_blk y b).2
/-! the abstract code against the bytes -/
def hy_has (l : List (Nat × Nat × Nat × Nat)) (own idx v : Nat) : Bool := l.any fun q => Nat.beq q.1 own && (Nat.beq q.2.1 idx && Nat.beq q.2.2.1 v)
def hy_ok (y pc : Nat) (op ins : Instr) (len : Nat) : Bool :=
  let own := hy_own y
  match op with
  | .bipush n => decide ((ins, len) = (.iconst n, 1)) || decide ((ins, len) = (.bipush n, 2) ∧ (Int8.ofInt n).toInt32 = Int32.ofInt n) || decide ((ins, len) = (.sipush n, 3) ∧ (Int16.ofInt n).toInt32 = Int32.ofInt n) ||
      hy_CT.any fun q => decide (q.1 = own ∧ q.2.2.1 = n) && (decide ((ins, len) = (.ldc q.2.1, 2)) || decide ((ins, len) = (.ldc_w q.2.1, 3)))
  | .ldc i => hy_ST.any fun q => decide (q.1 = own ∧ q.2.2.1 = i ∧ i < 6) && decide ((ins, len) = (.ldc q.2.1, 2))
  | .getstatic i => hy_GS.any fun q => decide (q.1 = own ∧ q.2.2.1 = i ∧ i < 2) && decide ((ins, len) = (.getstatic q.2.1, 3))
  | .iload i => decide ((ins, len) = (.iload i, 2)) || (List.range 4).any fun j => decide (j = i ∧ (ins, len) = (.iload_n (Fin.ofNat 4 j), 1))
  | .lload i => decide ((ins, len) = (.lload i, 2)) || (List.range 4).any fun j => decide (j = i ∧ (ins, len) = (.lload_n (Fin.ofNat 4 j), 1))
  | .aload i => decide ((ins, len) = (.aload i, 2)) || (List.range 4).any fun j => decide (j = i ∧ (ins, len) = (.aload_n (Fin.ofNat 4 j), 1))
  | .istore i => decide ((ins, len) = (.istore i, 2)) || (List.range 4).any fun j => decide (j = i ∧ (ins, len) = (.istore_n (Fin.ofNat 4 j), 1))
  | .lstore i => decide ((ins, len) = (.lstore i, 2)) || (List.range 4).any fun j => decide (j = i ∧ (ins, len) = (.lstore_n (Fin.ofNat 4 j), 1))
  | .astore i => decide ((ins, len) = (.astore i, 2)) || (List.range 4).any fun j => decide (j = i ∧ (ins, len) = (.astore_n (Fin.ofNat 4 j), 1))
  | .iinc i n => decide ((ins, len) = (.iinc i n, 3))
  | .getfield p => (hy_FL.any fun q => decide (q.1 = own ∧ q.2.2.1 = p) && decide ((ins, len) = (.getfield q.2.1, 3))) || (hy_SL.any fun q => decide (q.1 = own ∧ q.2.2.1 = p) && decide ((ins, len) = (.getfield q.2.1, 3)))
  | .putfield p => hy_FL.any fun q => decide (q.1 = own ∧ q.2.2.1 = p) && decide ((ins, len) = (.putfield q.2.1, 3))
  | .ifCond c b => decide (len = 3) && match ins with
    | .ifCond c' off => decide (c = c' ∧ 0 ≤ b ∧ (pc : Int) + off = ((hy_blk y b.toNat).1 : Nat))
    | _ => false
  | .if_icmp c b => decide (len = 3) && match ins with
    | .if_icmp c' off => decide (c = c' ∧ 0 ≤ b ∧ (pc : Int) + off = ((hy_blk y b.toNat).1 : Nat))
    | _ => false
  | .goto b => decide (len = 3) && match ins with
    | .goto off => decide (0 ≤ b ∧ (pc : Int) + off = ((hy_blk y b.toNat).1 : Nat))
    | _ => false
  | .tableswitch dflt lo hi offs => match ins with
    | .tableswitch dflt' lo' hi' offs' => decide (lo' = lo ∧ hi' = hi ∧ 0 ≤ dflt ∧ (pc : Int) + dflt' = ((hy_blk y dflt.toNat).1 : Nat) ∧ offs'.toList.length = offs.toList.length ∧ (offs.toList.length : Int) = hi + 1 - lo) && (List.range offs.toList.length).all fun j => decide (0 ≤ offs.toList.getD j 0 ∧ (pc : Int) + offs'.toList.getD j 0 = ((hy_blk y (offs.toList.getD j 0).toNat).1 : Nat))
    | _ => false
  | .lookupswitch dflt ps => match ins with
    | .lookupswitch dflt' ps' => decide ((pc : Int) + dflt' = ((hy_blk y dflt.toNat).1 : Nat)) && (ps'.toList.zip (ps'.toList.drop 1)).all (fun (a, next) => decide (a.1 < next.1)) && decide (ps'.toList.length = ps.toList.length) && (ps.toList.zip ps'.toList).all fun q => decide (q.1.1 = q.2.1 ∧ -2147483648 ≤ q.1.1 ∧ q.1.1 < 2147483648 ∧ (pc : Int) + q.2.2 = ((hy_blk y q.1.2.toNat).1 : Nat))
    | _ => false
  | .invokedynamic j => hy_SP.any fun q => decide (q.1 = own ∧ q.2.2.1 = j) && decide ((ins, len) = (.invokestatic q.2.1, 3))
  | .invokestatic z => decide (0 < z ∧ z < 230) && (hy_isSt.getD z false) && hy_ML.any fun q => decide (q.1 = own ∧ q.2.2.1 / 2 = z) && decide ((ins, len) = (.invokestatic q.2.1, 3))
  | .invokevirtual z => decide (0 < z ∧ z < 230) && !(hy_isSt.getD z false) && hy_ML.any fun q => decide (q.1 = own ∧ q.2.2.1 = 2 * z) && decide ((ins, len) = (.invokevirtual q.2.1, 3))
  | .ireturn => decide ((ins, len) = (.ireturn, 1)) && decide ((hy_m y).2.2.1 = some .int ∨ (hy_m y).2.2.1 = some .boolean ∨ (hy_m y).2.2.1 = some .byte ∨ (hy_m y).2.2.1 = some .char)
  | .lreturn => decide ((ins, len) = (.lreturn, 1)) && decide ((hy_m y).2.2.1 = some .long)
  | .return_ => decide ((ins, len) = (.return_, 1)) && decide ((hy_m y).2.2.1 = none)
  | op => decide ((ins, len) = (op, 1))
/-- the place behind an instruction, if it is that at this place -/
def hy_at (y pc : Nat) (op : Instr) : Option Nat := match op with
  | .goto_w b => if 0 ≤ b ∧ (hy_blk y b.toNat).1 = pc then some pc else none
  | op => match decode (hy_b y) pc with
    | .ok (ins, len) => bif hy_ok y pc op ins len then some (pc + len) else none
    | .error _ => none
def hy_chk (y : Nat) : Nat → List Instr → Bool
  | _, [] => true
  | pc, op :: ops => match hy_at y pc op with
    | some pc' => hy_chk y pc' ops
    | none => false
def hy_chkM (y : Nat) : Bool := (hy_K.getD y []).all fun q => hy_chk y q.1 q.2
end
section
/-! THE SMALL MACHINE AGAINST THE JVM: pictures of the heap, contexts -/
abbrev hy_G := (Nat → ClassId) × (Nat → Nat → Nat) × (Nat → ClassId) × (Nat → Nat) × Nat × Nat × (Nat → Int32)
abbrev hy_D (G : hy_G) : va_G := (G.1, G.2.1)
abbrev hy_cy (G : hy_G) : Nat → ClassId := G.2.2.1
abbrev hy_adr (G : hy_G) : Nat → Nat := G.2.2.2.1
abbrev hy_base (G : hy_G) : Nat := G.2.2.2.2.1
abbrev hy_L (G : hy_G) : Nat := G.2.2.2.2.2.1
abbrev hy_xs (G : hy_G) : Nat → Int32 := G.2.2.2.2.2.2
def hy_A (G : hy_G) : Nat → Prop := fun q => hy_base G ≤ q
def hy_tys (G : hy_G) : List (ClassId × FieldType) := [(hy_cy G 0, .int), (hy_cy G 1, .char), (hy_cy G 2, .boolean), (hy_cy G 10, .object "HayBoard$Law"), (hy_cy G 11, .object "HayBoard$Sheet"), (hy_cy G 12, .object "HayBoard$Slot"), (hy_cy G 13, .object "HayBoard$Bale")]
def hy_fv (G : hy_G) : Value := bif Nat.beq (hy_adr G 1998) 0 then .ref (hy_adr G 1999) else .null
def hy_cv (G : hy_G) (v : Vl) : Value := match v.1 with
  | .ref a => .ref (hy_adr G a)
  | .float _ => hy_fv G
  | w => w
def hy_VT (v : Vl) : Prop := (∀ a, v.1 = .ref a → hy_ka a = v.2) ∧ ∀ x, v.1 ≠ .double x
def hy_fld (G : hy_G) (σ : Sg) (a kd k : Nat) : Value := match hy_fr (kd * 64 + k) with
  | some (_, off) => .ref (hy_adr G (hy_ad off a))
  | none => .int (σ a k)
def hy_cell (G : hy_G) (σ : Sg) (a : Nat) : va_E :=
  let kd := hy_ka a
  if 1 ≤ kd ∧ kd ≤ 9 then .inr (kd - 1, (List.range (hy_N kd)).map (hy_fld G σ a kd))
  else match hy_ra kd with
    | some (n, _, off, sd) => .inl (hy_cy G kd, n.toNat, .inr (.inr (.inr (.inr fun i => some (hy_adr G (a + off + sd * i))))))
    | none => match hy_al kd with
      | some (so, n) => .inl (hy_cy G so, n.toNat, .inl (σ a))
      | none => .inl (hy_cy G 0, 0, .inl (σ a))
def hy_wl (G : hy_G) (σ : Sg) : va_W := (List.range 162).map fun a => (hy_adr G a, hy_cell G σ a)
def hy_SBl : List (List Int32) := [[104, 97, 121], [102, 101, 101], [102, 105, 110, 101], [104, 112, 119], [100, 116], [119, 104]]
def hy_SLn : List Nat := [3, 3, 4, 3, 2, 2]
def hy_Sp (G : hy_G) (σ : Sg) : Prop := (∀ i, i < 6 → (∀ j, j < hy_SLn.getD i 0 → σ (1010 + i) j = (hy_SBl.getD i []).getD j 0) ∧ σ (1010 + i) 5000 = Int32.ofNat (hy_SLn.getD i 0) ∧ σ (1000 + i) 1 = 0) ∧ (∀ j, j < hy_L G → σ 2000 j = hy_xs G j) ∧ σ 2000 5000 = Int32.ofNat (hy_L G)
def hy_HR (G : hy_G) (σ : Sg) (H : Heap) : Prop := va_P (hy_D G) hy_cl (hy_wl G σ) H ∧ va_D (hy_A G) (hy_wl G σ) ∧ hy_Sp G σ
def hy_KU (G : hy_G) (U : State) : Prop :=
  va_K (hy_D G) hy_cl (hy_tys G) U ∧ (∀ a, a < 162 → hy_adr G a = hy_base G + a) ∧ hy_base G ≤ U.heap.size ∧ hy_adr G 2000 < hy_base G ∧ hy_L G < 2 ^ 31 ∧ va_X (hy_adr G 2000) (hy_L G) (hy_xs G) U U.heap ∧
  vk_S 6 hy_SLn hy_SBl (fun i => hy_adr G (1000 + i)) (fun i => hy_adr G (1010 + i)) (hy_A G) U U.heap ∧ (∀ q ∈ hy_ST, vk_R (hy_cn q.1) q.2.1 (hy_TX.getD q.2.2.1 "") (hy_adr G (1000 + q.2.2.1)) U) ∧
  (∀ q ∈ hy_ML, q.2.2.1 % 2 = 1 → va_Nw (.methodLinkNest (hy_cn q.1) q.2.1 (hy_m (q.2.2.1 / 2)).1 "HayBoard") U) ∧
  va_Z "java/lang/String" "COMPACT_STRINGS" "Z" (.int 1) (hy_A G) U U.heap ∧ va_Z "jdk/internal/util/Preconditions" "SIOOBE_FORMATTER" "Ljava/util/function/BiFunction;" (hy_fv G) (hy_A G) U U.heap
def hy_TB : List Jvm.Cond := lw_tbl.filter goodWord
def hy_ws (y : Nat) : List Jvm.Cond := .code (hy_m y).1 (hy_b y) (hy_mx y) (hy_m y).2.2.1 :: hy_TB
def hy_LV (G : hy_G) (ls : Array Slot) (nL : Nat) (lv : List Vl) : Prop := lv.length = nL ∧ ls.size = nL ∧ lv_wf ls ∧ ∀ (i : Nat) (v : Vl), lv[i]? = some v → v.1 ≠ .null → ls[i]? = some (.val (hy_cv G v))
theorem hy_goodTB {w : Jvm.Cond} (h : w ∈ hy_TB) : goodWord w = true := (List.mem_filter.mp h).2
theorem hy_wAt_mem {i : Nat} {w : Jvm.Cond} (h : hy_wAt i w = true) : w ∈ hy_TB := by
  unfold hy_wAt at h
  rw [Bool.and_eq_true, decide_eq_true_eq] at h
  exact List.mem_filter.mpr ⟨List.mem_of_getElem? h.1, h.2⟩
theorem hy_wl_get (G : hy_G) (σ : Sg) {a : Nat} (h : a < 162) : (hy_wl G σ)[a]? = some (hy_adr G a, hy_cell G σ a) := by
  unfold hy_wl
  rw [List.getElem?_map, List.getElem?_range h]
  rfl
theorem hy_wl_len (G : hy_G) (σ : Sg) : (hy_wl G σ).length = 162 := by simp [hy_wl]
theorem hy_cell_congr (G : hy_G) {σ σ' : Sg} {a : Nat} (h : σ' a = σ a) : hy_cell G σ' a = hy_cell G σ a := by
  unfold hy_cell hy_fld
  rw [h]
theorem hy_wl_set (G : hy_G) (σ σ' : Sg) {a : Nat} (ha : a < 162) {e : va_E} (he : hy_cell G σ' a = e) (ho : ∀ j, j ≠ a → σ' j = σ j) : (hy_wl G σ).set a (hy_adr G a, e) = hy_wl G σ' := by
  apply List.ext_getElem?
  intro j
  by_cases hj : j = a
  · subst hj
    rw [List.getElem?_set_self (by rw [hy_wl_len]; exact ha), hy_wl_get G σ' ha, he]
  · rw [List.getElem?_set_ne (Ne.symm hj)]
    by_cases hl : j < 162
    · rw [hy_wl_get G σ hl, hy_wl_get G σ' hl, hy_cell_congr G (ho j hj)]
    · rw [List.getElem?_eq_none (by rw [hy_wl_len]; omega), List.getElem?_eq_none (by rw [hy_wl_len]; omega)]
theorem hy_up_ne (σ : Sg) {a k : Nat} {v : Int32} {j : Nat} (h : j ≠ a) : hy_up σ a k v j = σ j := by simp [hy_up, h]
theorem hy_up_eq (σ : Sg) {a k : Nat} {v : Int32} : hy_up σ a k v a = upd (σ a) k v := by simp [hy_up]
theorem hy_Sp_keep {G : hy_G} {σ σ' : Sg} (h : hy_Sp G σ) (ho : ∀ j, 162 ≤ j → σ' j = σ j) : hy_Sp G σ' := by
  obtain ⟨h1, h2, h3⟩ := h
  refine ⟨fun i hi => ?_, fun j hj => ?_, ?_⟩
  · obtain ⟨a, b, c⟩ := h1 i hi
    refine ⟨fun j hj => ?_, ?_, ?_⟩
    · rw [ho _ (by omega)]; exact a j hj
    · rw [ho _ (by omega)]; exact b
    · rw [ho _ (by omega)]; exact c
  · rw [ho _ (by omega)]; exact h2 j hj
  · rw [ho _ (by omega)]; exact h3
theorem hy_ka_lt {a : Nat} (h1 : hy_ka a ≠ 0) (h2 : hy_ka a < 30) : a < 162 := by
  unfold hy_ka at h1 h2
  by_cases h : a < 162
  · exact h
  · rw [if_neg h] at h1 h2
    exfalso
    by_cases q1 : 1000 ≤ a ∧ a < 1006
    · rw [if_pos q1] at h2; omega
    · rw [if_neg q1] at h1 h2
      by_cases q2 : 1010 ≤ a ∧ a < 1016
      · rw [if_pos q2] at h2; omega
      · rw [if_neg q2] at h1 h2
        by_cases q3 : a = 1999
        · rw [if_pos q3] at h2; omega
        · rw [if_neg q3] at h1 h2
          by_cases q4 : a = 2000
          · rw [if_pos q4] at h2; omega
          · rw [if_neg q4] at h1; exact h1 rfl
/-- what lies where the layout says: kinds of the references' targets -/
theorem hy_lay_fr : ((List.range 162).all fun a => (List.range 64).all fun k => match hy_fr (hy_ka a * 64 + k) with
    | some (kd, off) => Nat.beq (hy_ka (hy_ad off a)) kd
    | none => true) = true := by decide +kernel
theorem hy_lay_ra : ((List.range 162).all fun a => match hy_ra (hy_ka a) with
    | some (n, kd, off, sd) => (List.range n.toNat).all fun i => Nat.beq (hy_ka (a + off + sd * i)) kd
    | none => true) = true := by decide +kernel
theorem hy_KU_moved {G : hy_G} {s U : State} {H : Heap} {locs : List Loc} (h : hy_KU G s) (hS : va_S (hy_A G) s.heap H locs) (hU : U.heap = H) (hW : s.WarmedH U.vm) : hy_KU G U := by
  obtain ⟨h1, h2, h3, h4, h5, h6, h7, h8, h9, h10, h11⟩ := h
  have hb : ∀ a, a < s.heap.size → ¬ hy_A G a → U.heap[a]? = s.heap[a]? := fun a q1 q2 => by rw [hU]; exact hS.2.1 a q1 q2
  refine ⟨va_K.moved hW.alike h1, h2, ?_, h4, h5, ?_, ?_, ?_, ?_, ?_, ?_⟩
  · rw [hU]; exact Nat.le_trans h3 hS.1
  · exact va_X.kept (va_X.moved hW.alike h6) (hb _ (by omega) (by unfold hy_A; omega))
  · exact vk_S.kept (vk_S.moved hW.alike h7) hb
  · exact fun q hq => vk_R.warm hW (h8 q hq)
  · exact fun q hq hn => va_Nw.warmM hW (h9 q hq hn)
  · exact va_Z.kept (va_Z.moved hW.alike h10) hb
  · exact va_Z.kept (va_Z.moved hW.alike h11) hb
/-- the world behind a store into one place -/
theorem hy_HR_set {G : hy_G} {σ σ' : Sg} {H1 : Heap} {a : Nat} (ha : a < 162) {e : va_E} (he : hy_cell G σ' a = e) (ho : ∀ j, j ≠ a → σ' j = σ j) (hP : va_P (hy_D G) hy_cl ((hy_wl G σ).set a (hy_adr G a, e)) H1) (hD : va_D (hy_A G) ((hy_wl G σ).set a (hy_adr G a, e))) (hs : hy_Sp G σ) : hy_HR G σ' H1 := by
  rw [hy_wl_set G σ σ' ha he ho] at hP hD
  exact ⟨hP, hD, hy_Sp_keep hs fun j hj => ho j (by omega)⟩
/-! the locals -/
def hy_asc (G : hy_G) (lv : List Vl) : List (Nat × Value) := (List.range lv.length).filterMap fun i => (lv[i]?).bind fun v => if v.1 = .null then none else some (i, hy_cv G v)
theorem hy_asc_has {G : hy_G} {ls : Array Slot} {nL : Nat} {lv : List Vl} (h : hy_LV G ls nL lv) : lv_has ls nL (hy_asc G lv) := by
  obtain ⟨h0, h1, h2, h3⟩ := h
  refine ⟨h1, h2, fun q hq => ?_⟩
  unfold hy_asc at hq
  obtain ⟨i, hi, he⟩ := List.mem_filterMap.mp hq
  cases hv : lv[i]? with
  | none => rw [hv] at he; cases he
  | some v =>
    rw [hv] at he
    simp only [Option.bind_some] at he
    by_cases hn : v.1 = .null
    · rw [if_pos hn] at he; cases he
    · rw [if_neg hn] at he
      cases he
      exact h3 i v hv hn
theorem hy_asc_mem {G : hy_G} {lv : List Vl} {i : Nat} {v : Vl} (h : lv[i]? = some v) (hn : v.1 ≠ .null) : (i, hy_cv G v) ∈ hy_asc G lv := by
  unfold hy_asc
  refine List.mem_filterMap.mpr ⟨i, List.mem_range.mpr (List.getElem?_eq_some_iff.mp h).1, ?_⟩
  rw [h]
  simp [hn]
theorem hy_fv_cat (G : hy_G) : (hy_fv G).category = 1 := by
  unfold hy_fv
  cases Nat.beq (hy_adr G 1998) 0 <;> rfl
theorem hy_cv_cat (G : hy_G) (v : Vl) : (hy_cv G v).category = v.1.category := by
  obtain ⟨w, k⟩ := v
  cases w <;> first | rfl | exact hy_fv_cat G
/-- a store of one word into place i, with no long ahead of it -/
theorem hy_LV_set {G : hy_G} {ls' : Array Slot} {nL i : Nat} {lv : List Vl} {v : Vl} (h0 : lv.length = nL) (hp : ∀ w, lv[i - 1]? = some w → w.1.category ≠ 2)
    (h : lv_has ls' nL ((i, hy_cv G v) :: (hy_asc G lv).filter (fun q => !(q.1 == i) && !(q.1 + 1 == i && q.2.category == 2)))) : hy_LV G ls' nL (lv.set i v) := by
  obtain ⟨h1, h2, h3⟩ := h
  refine ⟨by rw [List.length_set]; exact h0, h1, h2, fun j w hj hn => ?_⟩
  by_cases hji : i = j
  · subst hji
    have hl : i < lv.length := by
      have := (List.getElem?_eq_some_iff.mp hj).1
      rwa [List.length_set] at this
    rw [List.getElem?_set_self hl] at hj
    cases hj
    exact h3 (i, hy_cv G v) List.mem_cons_self
  · rw [List.getElem?_set_ne hji] at hj
    refine h3 (j, hy_cv G w) (List.mem_cons_of_mem _ (List.mem_filter.mpr ⟨hy_asc_mem hj hn, ?_⟩))
    have hne : (j == i) = false := by simp [Ne.symm hji]
    simp only [hne, Bool.not_false, Bool.true_and, Bool.not_eq_true', Bool.and_eq_false_iff]
    by_cases hq : j + 1 = i
    · right
      have e : i - 1 = j := by omega
      rw [hy_cv_cat]
      have := hp w (by rw [e]; exact hj)
      simp [this]
    · left
      simp [hq]
theorem hy_LV_at {G : hy_G} {ls : Array Slot} {nL i : Nat} {lv : List Vl} {v : Vl} (h : hy_LV G ls nL lv) (hv : lv[i]? = some v) (hn : v.1 ≠ .null) : ls[i]? = some (.val (hy_cv G v)) := h.2.2.2 i v hv hn
/-- a store of a long into places i, i + 1 -/
theorem hy_LV_set2 {G : hy_G} {ls' : Array Slot} {nL i : Nat} {lv : List Vl} {x : Int64} {q : Nat} (h0 : lv.length = nL) (hp : ∀ w, lv[i - 1]? = some w → w.1.category ≠ 2)
    (h : lv_has ls' nL ((i, .long x) :: (hy_asc G lv).filter (fun q => !(q.1 == i) && (!(q.1 == i + 1) && !(q.1 + 1 == i && q.2.category == 2))))) : hy_LV G ls' nL ((lv.set i (.long x, q)).set (i + 1) (.null, 0)) := by
  obtain ⟨h1, h2, h3⟩ := h
  refine ⟨by rw [List.length_set, List.length_set]; exact h0, h1, h2, fun j w hj hn => ?_⟩
  by_cases hj1 : i + 1 = j
  · subst hj1
    have hl : i + 1 < (lv.set i (.long x, q)).length := by
      have := (List.getElem?_eq_some_iff.mp hj).1
      rwa [List.length_set] at this
    rw [List.getElem?_set_self hl] at hj
    cases hj
    exact absurd rfl hn
  · rw [List.getElem?_set_ne hj1] at hj
    by_cases hji : i = j
    · subst hji
      have hl : i < lv.length := by
        have := (List.getElem?_eq_some_iff.mp hj).1
        rwa [List.length_set] at this
      rw [List.getElem?_set_self hl] at hj
      cases hj
      exact h3 (i, .long x) List.mem_cons_self
    · rw [List.getElem?_set_ne hji] at hj
      refine h3 (j, hy_cv G w) (List.mem_cons_of_mem _ (List.mem_filter.mpr ⟨hy_asc_mem hj hn, ?_⟩))
      have hne : (j == i) = false := by simp [Ne.symm hji]
      have hne1 : (j == i + 1) = false := by simp [Ne.symm hj1]
      simp only [hne, hne1, Bool.not_false, Bool.true_and, Bool.not_eq_true', Bool.and_eq_false_iff]
      by_cases hq : j + 1 = i
      · right
        have e : i - 1 = j := by omega
        rw [hy_cv_cat]
        have := hp w (by rw [e]; exact hj)
        simp [this]
      · left
        simp [hq]
end
section
/-! THE SMALL MACHINE AGAINST THE JVM: one instruction each; written by wip/gen/gen5.py -/
def hy_Kt (p : Program) (l : Launch) (e : Env) (R : Room) (s : State) (m : MethodId) (args : Array Value) (below : List Frame) (meth : Method) (c : Code) (cells slots : Nat) (Q : State → Prop) (y : Nat) (G : hy_G) (r : Vl) (σr : Sg) (k : List Vl → List Vl → Sg → Rs) (pc : Nat) : Prop :=
  ∀ (lv st : List Vl) (σ : Sg) (H : Heap) (locs : List Loc) (ls : Array Slot), k lv st σ = some (r, σr) → (∀ v ∈ lv, hy_VT v) → (∀ v ∈ st, hy_VT v) → hy_HR G σ H → va_S (hy_A G) s.heap H locs → hy_LV G ls (hy_mx y) lv →
    W p l e R s m args below meth c H locs cells slots Q (F0 m pc ls (st.map (hy_cv G)))
theorem hy_VTi (x : Int32) (q : Nat) : hy_VT (.int x, q) := ⟨fun a h => (by cases h), fun a h => (by cases h)⟩
theorem hy_VTl (x : Int64) (q : Nat) : hy_VT (.long x, q) := ⟨fun a h => (by cases h), fun a h => (by cases h)⟩
theorem hy_VTn (q : Nat) : hy_VT (.null, q) := ⟨fun a h => (by cases h), fun a h => (by cases h)⟩
theorem hy_VTr {a q : Nat} (h : hy_ka a = q) : hy_VT (.ref a, q) := ⟨fun b e => (by cases e; exact h), fun a h => (by cases h)⟩
theorem hy_vc {v : Vl} {st : List Vl} (hv : hy_VT v) (h : ∀ w ∈ st, hy_VT w) : ∀ w ∈ v :: st, hy_VT w := fun w hw => (List.mem_cons.mp hw).elim (fun e => e ▸ hv) (h w)
theorem hy_vt {v : Vl} {st : List Vl} (h : ∀ w ∈ v :: st, hy_VT w) : ∀ w ∈ st, hy_VT w := fun w hw => h w (List.mem_cons_of_mem _ hw)
theorem hy_v0 {v : Vl} {st : List Vl} (h : ∀ w ∈ v :: st, hy_VT w) : hy_VT v := h v List.mem_cons_self
theorem hy_vs {v : Vl} {lv : List Vl} {i : Nat} (hv : hy_VT v) (h : ∀ w ∈ lv, hy_VT w) : ∀ w ∈ lv.set i v, hy_VT w := fun w hw => (List.mem_or_eq_of_mem_set hw).elim (h w) (fun e => e ▸ hv)
section HYS
variable {p : Program} {l : Launch} {e : Env} {R : Room} {s : State} {m : MethodId} {args : Array Value} {below : List Frame} {meth : Method} {c : Code} {cells slots : Nat} {Q : State → Prop} {y : Nat} {G : hy_G} {r : Vl} {σr : Sg} {k : List Vl → List Vl → Sg → Rs} {pc : Nat}
variable {rt : Nat} {dz : Bool} {rc : Nat → List Vl → List Vl → Sg → Rs} {cl : Nat → List Vl → Sg → Rs}
theorem hy_s_iadd (hx : p.tables.exec = Jvm.exec) (hb : c.code = hy_b y) (hd : decode (hy_b y) pc = .ok (.iadd, 1)) (K : hy_Kt p l e R s m args below meth c cells slots Q y G r σr k (pc + 1)) : hy_Kt p l e R s m args below meth c cells slots Q y G r σr (hy_sem rt dz rc cl (.iadd) k) pc := by
  intro lv st σ H locs ls h v1 v2 hH hS hl
  dsimp only [hy_sem] at h
  split at h
  · exact lv_iadd hx hb hd (K _ _ _ _ _ _ h v1 (hy_vc (hy_VTi _ _) (hy_vt (hy_vt v2))) hH hS hl)
  · cases h
theorem hy_s_isub (hx : p.tables.exec = Jvm.exec) (hb : c.code = hy_b y) (hd : decode (hy_b y) pc = .ok (.isub, 1)) (K : hy_Kt p l e R s m args below meth c cells slots Q y G r σr k (pc + 1)) : hy_Kt p l e R s m args below meth c cells slots Q y G r σr (hy_sem rt dz rc cl (.isub) k) pc := by
  intro lv st σ H locs ls h v1 v2 hH hS hl
  dsimp only [hy_sem] at h
  split at h
  · exact lv_isub hx hb hd (K _ _ _ _ _ _ h v1 (hy_vc (hy_VTi _ _) (hy_vt (hy_vt v2))) hH hS hl)
  · cases h
theorem hy_s_imul (hx : p.tables.exec = Jvm.exec) (hb : c.code = hy_b y) (hd : decode (hy_b y) pc = .ok (.imul, 1)) (K : hy_Kt p l e R s m args below meth c cells slots Q y G r σr k (pc + 1)) : hy_Kt p l e R s m args below meth c cells slots Q y G r σr (hy_sem rt dz rc cl (.imul) k) pc := by
  intro lv st σ H locs ls h v1 v2 hH hS hl
  dsimp only [hy_sem] at h
  split at h
  · exact lv_imul hx hb hd (K _ _ _ _ _ _ h v1 (hy_vc (hy_VTi _ _) (hy_vt (hy_vt v2))) hH hS hl)
  · cases h
theorem hy_s_iand (hx : p.tables.exec = Jvm.exec) (hb : c.code = hy_b y) (hd : decode (hy_b y) pc = .ok (.iand, 1)) (K : hy_Kt p l e R s m args below meth c cells slots Q y G r σr k (pc + 1)) : hy_Kt p l e R s m args below meth c cells slots Q y G r σr (hy_sem rt dz rc cl (.iand) k) pc := by
  intro lv st σ H locs ls h v1 v2 hH hS hl
  dsimp only [hy_sem] at h
  split at h
  · exact lv_iand hx hb hd (K _ _ _ _ _ _ h v1 (hy_vc (hy_VTi _ _) (hy_vt (hy_vt v2))) hH hS hl)
  · cases h
theorem hy_s_ior (hx : p.tables.exec = Jvm.exec) (hb : c.code = hy_b y) (hd : decode (hy_b y) pc = .ok (.ior, 1)) (K : hy_Kt p l e R s m args below meth c cells slots Q y G r σr k (pc + 1)) : hy_Kt p l e R s m args below meth c cells slots Q y G r σr (hy_sem rt dz rc cl (.ior) k) pc := by
  intro lv st σ H locs ls h v1 v2 hH hS hl
  dsimp only [hy_sem] at h
  split at h
  · exact lv_ior hx hb hd (K _ _ _ _ _ _ h v1 (hy_vc (hy_VTi _ _) (hy_vt (hy_vt v2))) hH hS hl)
  · cases h
theorem hy_s_ishl (hx : p.tables.exec = Jvm.exec) (hb : c.code = hy_b y) (hd : decode (hy_b y) pc = .ok (.ishl, 1)) (K : hy_Kt p l e R s m args below meth c cells slots Q y G r σr k (pc + 1)) : hy_Kt p l e R s m args below meth c cells slots Q y G r σr (hy_sem rt dz rc cl (.ishl) k) pc := by
  intro lv st σ H locs ls h v1 v2 hH hS hl
  dsimp only [hy_sem] at h
  split at h
  · exact lv_ishl hx hb hd (K _ _ _ _ _ _ h v1 (hy_vc (hy_VTi _ _) (hy_vt (hy_vt v2))) hH hS hl)
  · cases h
theorem hy_s_ishr (hx : p.tables.exec = Jvm.exec) (hb : c.code = hy_b y) (hd : decode (hy_b y) pc = .ok (.ishr, 1)) (K : hy_Kt p l e R s m args below meth c cells slots Q y G r σr k (pc + 1)) : hy_Kt p l e R s m args below meth c cells slots Q y G r σr (hy_sem rt dz rc cl (.ishr) k) pc := by
  intro lv st σ H locs ls h v1 v2 hH hS hl
  dsimp only [hy_sem] at h
  split at h
  · exact lv_ishr hx hb hd (K _ _ _ _ _ _ h v1 (hy_vc (hy_VTi _ _) (hy_vt (hy_vt v2))) hH hS hl)
  · cases h
theorem hy_s_idiv (hx : p.tables.exec = Jvm.exec) (hb : c.code = hy_b y) (hd : decode (hy_b y) pc = .ok (.idiv, 1)) (K : hy_Kt p l e R s m args below meth c cells slots Q y G r σr k (pc + 1)) : hy_Kt p l e R s m args below meth c cells slots Q y G r σr (hy_sem rt dz rc cl (.idiv) k) pc := by
  intro lv st σ H locs ls h v1 v2 hH hS hl
  dsimp only [hy_sem] at h
  split at h
  · split at h
    · cases h
    · rename_i hne
      exact lv_idiv hx hb hd hne (K _ _ _ _ _ _ h v1 (hy_vc (hy_VTi _ _) (hy_vt (hy_vt v2))) hH hS hl)
  · cases h
theorem hy_s_irem (hx : p.tables.exec = Jvm.exec) (hb : c.code = hy_b y) (hd : decode (hy_b y) pc = .ok (.irem, 1)) (K : hy_Kt p l e R s m args below meth c cells slots Q y G r σr k (pc + 1)) : hy_Kt p l e R s m args below meth c cells slots Q y G r σr (hy_sem rt dz rc cl (.irem) k) pc := by
  intro lv st σ H locs ls h v1 v2 hH hS hl
  dsimp only [hy_sem] at h
  split at h
  · split at h
    · cases h
    · rename_i hne
      exact lv_irem hx hb hd hne (K _ _ _ _ _ _ h v1 (hy_vc (hy_VTi _ _) (hy_vt (hy_vt v2))) hH hS hl)
  · cases h
theorem hy_s_iushr (hx : p.tables.exec = Jvm.exec) (hb : c.code = hy_b y) (hd : decode (hy_b y) pc = .ok (.iushr, 1)) (K : hy_Kt p l e R s m args below meth c cells slots Q y G r σr k (pc + 1)) : hy_Kt p l e R s m args below meth c cells slots Q y G r σr (hy_sem rt dz rc cl (.iushr) k) pc := by
  intro lv st σ H locs ls h v1 v2 hH hS hl
  dsimp only [hy_sem] at h
  split at h
  · exact lv_iushr hx hb hd rfl (K _ _ _ _ _ _ h v1 (hy_vc (hy_VTi _ _) (hy_vt (hy_vt v2))) hH hS hl)
  · cases h
theorem hy_s_ladd (hx : p.tables.exec = Jvm.exec) (hb : c.code = hy_b y) (hd : decode (hy_b y) pc = .ok (.ladd, 1)) (K : hy_Kt p l e R s m args below meth c cells slots Q y G r σr k (pc + 1)) : hy_Kt p l e R s m args below meth c cells slots Q y G r σr (hy_sem rt dz rc cl (.ladd) k) pc := by
  intro lv st σ H locs ls h v1 v2 hH hS hl
  dsimp only [hy_sem] at h
  split at h
  · exact lv_ladd hx hb hd (K _ _ _ _ _ _ h v1 (hy_vc (hy_VTl _ _) (hy_vt (hy_vt v2))) hH hS hl)
  · cases h
theorem hy_s_lsub (hx : p.tables.exec = Jvm.exec) (hb : c.code = hy_b y) (hd : decode (hy_b y) pc = .ok (.lsub, 1)) (K : hy_Kt p l e R s m args below meth c cells slots Q y G r σr k (pc + 1)) : hy_Kt p l e R s m args below meth c cells slots Q y G r σr (hy_sem rt dz rc cl (.lsub) k) pc := by
  intro lv st σ H locs ls h v1 v2 hH hS hl
  dsimp only [hy_sem] at h
  split at h
  · exact lv_lsub hx hb hd (K _ _ _ _ _ _ h v1 (hy_vc (hy_VTl _ _) (hy_vt (hy_vt v2))) hH hS hl)
  · cases h
theorem hy_s_lcmp (hx : p.tables.exec = Jvm.exec) (hb : c.code = hy_b y) (hd : decode (hy_b y) pc = .ok (.lcmp, 1)) (K : hy_Kt p l e R s m args below meth c cells slots Q y G r σr k (pc + 1)) : hy_Kt p l e R s m args below meth c cells slots Q y G r σr (hy_sem rt dz rc cl (.lcmp) k) pc := by
  intro lv st σ H locs ls h v1 v2 hH hS hl
  dsimp only [hy_sem] at h
  split at h
  · exact W.lcmp hx hb hd (K _ _ _ _ _ _ h v1 (hy_vc (hy_VTi _ _) (hy_vt (hy_vt v2))) hH hS hl)
  · cases h
theorem hy_s_ineg (hx : p.tables.exec = Jvm.exec) (hb : c.code = hy_b y) (hd : decode (hy_b y) pc = .ok (.ineg, 1)) (K : hy_Kt p l e R s m args below meth c cells slots Q y G r σr k (pc + 1)) : hy_Kt p l e R s m args below meth c cells slots Q y G r σr (hy_sem rt dz rc cl (.ineg) k) pc := by
  intro lv st σ H locs ls h v1 v2 hH hS hl
  dsimp only [hy_sem] at h
  split at h
  · exact lv_ineg hx hb hd (K _ _ _ _ _ _ h v1 (hy_vc (hy_VTi _ _) (hy_vt v2)) hH hS hl)
  · cases h
theorem hy_s_lneg (hx : p.tables.exec = Jvm.exec) (hb : c.code = hy_b y) (hd : decode (hy_b y) pc = .ok (.lneg, 1)) (K : hy_Kt p l e R s m args below meth c cells slots Q y G r σr k (pc + 1)) : hy_Kt p l e R s m args below meth c cells slots Q y G r σr (hy_sem rt dz rc cl (.lneg) k) pc := by
  intro lv st σ H locs ls h v1 v2 hH hS hl
  dsimp only [hy_sem] at h
  split at h
  · exact lv_lneg hx hb hd (K _ _ _ _ _ _ h v1 (hy_vc (hy_VTl _ _) (hy_vt v2)) hH hS hl)
  · cases h
theorem hy_s_i2s (hx : p.tables.exec = Jvm.exec) (hb : c.code = hy_b y) (hd : decode (hy_b y) pc = .ok (.i2s, 1)) (K : hy_Kt p l e R s m args below meth c cells slots Q y G r σr k (pc + 1)) : hy_Kt p l e R s m args below meth c cells slots Q y G r σr (hy_sem rt dz rc cl (.i2s) k) pc := by
  intro lv st σ H locs ls h v1 v2 hH hS hl
  dsimp only [hy_sem] at h
  split at h
  · exact lv_i2s hx hb hd rfl (K _ _ _ _ _ _ h v1 (hy_vc (hy_VTi _ _) (hy_vt v2)) hH hS hl)
  · cases h
theorem hy_s_i2b (hx : p.tables.exec = Jvm.exec) (hb : c.code = hy_b y) (hd : decode (hy_b y) pc = .ok (.i2b, 1)) (K : hy_Kt p l e R s m args below meth c cells slots Q y G r σr k (pc + 1)) : hy_Kt p l e R s m args below meth c cells slots Q y G r σr (hy_sem rt dz rc cl (.i2b) k) pc := by
  intro lv st σ H locs ls h v1 v2 hH hS hl
  dsimp only [hy_sem] at h
  split at h
  · exact lv_i2b hx hb hd rfl (K _ _ _ _ _ _ h v1 (hy_vc (hy_VTi _ _) (hy_vt v2)) hH hS hl)
  · cases h
theorem hy_s_i2c (hx : p.tables.exec = Jvm.exec) (hb : c.code = hy_b y) (hd : decode (hy_b y) pc = .ok (.i2c, 1)) (K : hy_Kt p l e R s m args below meth c cells slots Q y G r σr k (pc + 1)) : hy_Kt p l e R s m args below meth c cells slots Q y G r σr (hy_sem rt dz rc cl (.i2c) k) pc := by
  intro lv st σ H locs ls h v1 v2 hH hS hl
  dsimp only [hy_sem] at h
  split at h
  · exact lv_i2c hx hb hd rfl (K _ _ _ _ _ _ h v1 (hy_vc (hy_VTi _ _) (hy_vt v2)) hH hS hl)
  · cases h
theorem hy_s_i2l (hx : p.tables.exec = Jvm.exec) (hb : c.code = hy_b y) (hd : decode (hy_b y) pc = .ok (.i2l, 1)) (K : hy_Kt p l e R s m args below meth c cells slots Q y G r σr k (pc + 1)) : hy_Kt p l e R s m args below meth c cells slots Q y G r σr (hy_sem rt dz rc cl (.i2l) k) pc := by
  intro lv st σ H locs ls h v1 v2 hH hS hl
  dsimp only [hy_sem] at h
  split at h
  · exact lv_i2l hx hb hd rfl (K _ _ _ _ _ _ h v1 (hy_vc (hy_VTl _ _) (hy_vt v2)) hH hS hl)
  · cases h
theorem hy_s_l2i (hx : p.tables.exec = Jvm.exec) (hb : c.code = hy_b y) (hd : decode (hy_b y) pc = .ok (.l2i, 1)) (K : hy_Kt p l e R s m args below meth c cells slots Q y G r σr k (pc + 1)) : hy_Kt p l e R s m args below meth c cells slots Q y G r σr (hy_sem rt dz rc cl (.l2i) k) pc := by
  intro lv st σ H locs ls h v1 v2 hH hS hl
  dsimp only [hy_sem] at h
  split at h
  · exact lv_l2i hx hb hd rfl (K _ _ _ _ _ _ h v1 (hy_vc (hy_VTi _ _) (hy_vt v2)) hH hS hl)
  · cases h
theorem hy_s_pop (hx : p.tables.exec = Jvm.exec) (hb : c.code = hy_b y) (hd : decode (hy_b y) pc = .ok (.pop, 1)) (K : hy_Kt p l e R s m args below meth c cells slots Q y G r σr k (pc + 1)) : hy_Kt p l e R s m args below meth c cells slots Q y G r σr (hy_sem rt dz rc cl (.pop) k) pc := by
  intro lv st σ H locs ls h v1 v2 hH hS hl
  dsimp only [hy_sem] at h
  split at h
  · exact lv_pop hx hb hd rfl (K _ _ _ _ _ _ h v1 (hy_vt v2) hH hS hl)
  · cases h
theorem hy_s_dup (hx : p.tables.exec = Jvm.exec) (hb : c.code = hy_b y) (hd : decode (hy_b y) pc = .ok (.dup, 1)) (K : hy_Kt p l e R s m args below meth c cells slots Q y G r σr k (pc + 1)) : hy_Kt p l e R s m args below meth c cells slots Q y G r σr (hy_sem rt dz rc cl (.dup) k) pc := by
  intro lv st σ H locs ls h v1 v2 hH hS hl
  dsimp only [hy_sem] at h
  split at h
  · exact lv_dup hx hb hd rfl (K _ _ _ _ _ _ h v1 (hy_vc (hy_v0 v2) v2) hH hS hl)
  · exact lv_dup hx hb hd rfl (K _ _ _ _ _ _ h v1 (hy_vc (hy_v0 v2) v2) hH hS hl)
  · cases h
theorem hy_s_dup2 (hx : p.tables.exec = Jvm.exec) (hb : c.code = hy_b y) (hd : decode (hy_b y) pc = .ok (.dup2, 1)) (K : hy_Kt p l e R s m args below meth c cells slots Q y G r σr k (pc + 1)) : hy_Kt p l e R s m args below meth c cells slots Q y G r σr (hy_sem rt dz rc cl (.dup2) k) pc := by
  intro lv st σ H locs ls h v1 v2 hH hS hl
  dsimp only [hy_sem] at h
  split at h
  · exact lv_dup2_11 hx hb hd rfl rfl (K _ _ _ _ _ _ h v1 (hy_vc (hy_v0 v2) (hy_vc (hy_v0 (hy_vt v2)) v2)) hH hS hl)
  · cases h
theorem hy_k_push {x : Int32} {n : Nat} (hr : ∀ (H : Heap) (locs : List Loc) (ls : Array Slot) (rest : List Value), W p l e R s m args below meth c H locs cells slots Q (F0 m (pc + n) ls (.int x :: rest)) → W p l e R s m args below meth c H locs cells slots Q (F0 m pc ls rest)) (K : hy_Kt p l e R s m args below meth c cells slots Q y G r σr k (pc + n)) : hy_Kt p l e R s m args below meth c cells slots Q y G r σr (fun lv st σ => k lv ((.int x, 0) :: st) σ) pc := fun lv st σ H locs ls h v1 v2 hH hS hl => hr H locs ls _ (K _ _ _ _ _ _ h v1 (hy_vc (hy_VTi _ _) v2) hH hS hl)
theorem hy_s_lconst {n : Fin 2} (hx : p.tables.exec = Jvm.exec) (hb : c.code = hy_b y) (hd : decode (hy_b y) pc = .ok (.lconst n, 1)) (K : hy_Kt p l e R s m args below meth c cells slots Q y G r σr k (pc + 1)) : hy_Kt p l e R s m args below meth c cells slots Q y G r σr (hy_sem rt dz rc cl (.lconst n) k) pc := by
  intro lv st σ H locs ls h v1 v2 hH hS hl
  dsimp only [hy_sem] at h
  exact lv_lconst hx hb hd rfl (K _ _ _ _ _ _ h v1 (hy_vc (hy_VTl _ _) v2) hH hS hl)
theorem hy_s_iload {i n : Nat} (hx : p.tables.exec = Jvm.exec) (hb : c.code = hy_b y) (hd : decode (hy_b y) pc = .ok (.iload i, 2) ∧ n = 2 ∨ ∃ j : Fin 4, (j : Nat) = i ∧ decode (hy_b y) pc = .ok (.iload_n j, 1) ∧ n = 1) (K : hy_Kt p l e R s m args below meth c cells slots Q y G r σr k (pc + n)) : hy_Kt p l e R s m args below meth c cells slots Q y G r σr (hy_sem rt dz rc cl (.iload i) k) pc := by
  intro lv st σ H locs ls h v1 v2 hH hS hl
  dsimp only [hy_sem] at h
  split at h
  · rename_i x q hi
    have hK := K _ _ _ _ _ _ h v1 (hy_vc (hy_VTi _ _) v2) hH hS hl
    have ha := hy_LV_at hl hi (fun z => by cases z)
    rcases hd with ⟨hd, rfl⟩ | ⟨j, hj, hd, rfl⟩
    · exact lv_iload hx hb hd ha hK
    · exact lv_iload_n hx hb hd hj ha hK
  · cases h
theorem hy_s_lload {i n : Nat} (hx : p.tables.exec = Jvm.exec) (hb : c.code = hy_b y) (hd : decode (hy_b y) pc = .ok (.lload i, 2) ∧ n = 2 ∨ ∃ j : Fin 4, (j : Nat) = i ∧ decode (hy_b y) pc = .ok (.lload_n j, 1) ∧ n = 1) (K : hy_Kt p l e R s m args below meth c cells slots Q y G r σr k (pc + n)) : hy_Kt p l e R s m args below meth c cells slots Q y G r σr (hy_sem rt dz rc cl (.lload i) k) pc := by
  intro lv st σ H locs ls h v1 v2 hH hS hl
  dsimp only [hy_sem] at h
  split at h
  · rename_i x q hi
    have hK := K _ _ _ _ _ _ h v1 (hy_vc (hy_VTl _ _) v2) hH hS hl
    have ha := hy_LV_at hl hi (fun z => by cases z)
    rcases hd with ⟨hd, rfl⟩ | ⟨j, hj, hd, rfl⟩
    · exact lv_lload hx hb hd ha hK
    · exact lv_lload_n hx hb hd hj ha hK
  · cases h
theorem hy_s_aload {i n : Nat} (hx : p.tables.exec = Jvm.exec) (hb : c.code = hy_b y) (hd : decode (hy_b y) pc = .ok (.aload i, 2) ∧ n = 2 ∨ ∃ j : Fin 4, (j : Nat) = i ∧ decode (hy_b y) pc = .ok (.aload_n j, 1) ∧ n = 1) (K : hy_Kt p l e R s m args below meth c cells slots Q y G r σr k (pc + n)) : hy_Kt p l e R s m args below meth c cells slots Q y G r σr (hy_sem rt dz rc cl (.aload i) k) pc := by
  intro lv st σ H locs ls h v1 v2 hH hS hl
  dsimp only [hy_sem] at h
  split at h
  · rename_i x q hi
    have hK := K _ _ _ _ _ _ h v1 (hy_vc (v1 _ (List.mem_of_getElem? hi)) v2) hH hS hl
    have ha := hy_LV_at hl hi (fun z => by cases z)
    rcases hd with ⟨hd, rfl⟩ | ⟨j, hj, hd, rfl⟩
    · exact lv_aload hx hb hd ha hK
    · exact lv_aload_n hx hb hd hj ha hK
  · cases h
theorem hy_noL {lv : List Vl} {i : Nat} (v1 : ∀ v ∈ lv, hy_VT v) (h : ∀ x q, lv[i]? = some (.long x, q) → False) : ∀ w, lv[i]? = some w → w.1.category ≠ 2 := by
  intro w hw hc
  obtain ⟨v, q⟩ := w
  cases v with
  | long x => exact h x q hw
  | double x => exact (v1 _ (List.mem_of_getElem? hw)).2 x rfl
  | _ => cases hc
theorem hy_s_istore {i n : Nat} (hx : p.tables.exec = Jvm.exec) (hb : c.code = hy_b y) (hd : decode (hy_b y) pc = .ok (.istore i, 2) ∧ n = 2 ∨ ∃ j : Fin 4, (j : Nat) = i ∧ decode (hy_b y) pc = .ok (.istore_n j, 1) ∧ n = 1) (K : hy_Kt p l e R s m args below meth c cells slots Q y G r σr k (pc + n)) : hy_Kt p l e R s m args below meth c cells slots Q y G r σr (hy_sem rt dz rc cl (.istore i) k) pc := by
  intro lv st σ H locs ls h v1 v2 hH hS hl
  dsimp only [hy_sem] at h
  split at h
  · split at h
    · cases h
    · rename_i hn
      cases hlt : Nat.blt i lv.length with
      | false => rw [hlt] at h; cases h
      | true =>
        rw [hlt] at h
        have hi : i < hy_mx y := by rw [← hl.1]; exact Nat.le_of_ble_eq_true hlt
        have hp := hy_noL v1 (fun x q z => hn x q z)
        have hK := fun ls' (h' : lv_has ls' (hy_mx y) _) => K _ _ _ _ _ _ h (hy_vs (hy_VTi _ 0) v1) (hy_vt v2) hH hS (hy_LV_set (ls' := ls') hl.1 hp h')
        rcases hd with ⟨hd, rfl⟩ | ⟨j, hj, hd, rfl⟩
        · exact lv_istore hx hb hd (hy_asc_has hl) hi rfl hK
        · exact lv_istore_n hx hb hd hj (hy_asc_has hl) hi rfl hK
  · cases h
theorem hy_s_astore {i n : Nat} (hx : p.tables.exec = Jvm.exec) (hb : c.code = hy_b y) (hd : decode (hy_b y) pc = .ok (.astore i, 2) ∧ n = 2 ∨ ∃ j : Fin 4, (j : Nat) = i ∧ decode (hy_b y) pc = .ok (.astore_n j, 1) ∧ n = 1) (K : hy_Kt p l e R s m args below meth c cells slots Q y G r σr k (pc + n)) : hy_Kt p l e R s m args below meth c cells slots Q y G r σr (hy_sem rt dz rc cl (.astore i) k) pc := by
  intro lv st σ H locs ls h v1 v2 hH hS hl
  dsimp only [hy_sem] at h
  split at h
  · split at h
    · cases h
    · rename_i hn
      cases hlt : Nat.blt i lv.length with
      | false => rw [hlt] at h; cases h
      | true =>
        rw [hlt] at h
        have hi : i < hy_mx y := by rw [← hl.1]; exact Nat.le_of_ble_eq_true hlt
        have hp := hy_noL v1 (fun x q z => hn x q z)
        have hK := fun ls' (h' : lv_has ls' (hy_mx y) _) => K _ _ _ _ _ _ h (hy_vs (hy_v0 v2) v1) (hy_vt v2) hH hS (hy_LV_set (ls' := ls') hl.1 hp h')
        rcases hd with ⟨hd, rfl⟩ | ⟨j, hj, hd, rfl⟩
        · exact lv_astore hx hb hd (hy_asc_has hl) hi rfl hK
        · exact lv_astore_n hx hb hd hj (hy_asc_has hl) hi rfl hK
  · cases h
theorem hy_s_lstore {i n : Nat} (hx : p.tables.exec = Jvm.exec) (hb : c.code = hy_b y) (hd : decode (hy_b y) pc = .ok (.lstore i, 2) ∧ n = 2 ∨ ∃ j : Fin 4, (j : Nat) = i ∧ decode (hy_b y) pc = .ok (.lstore_n j, 1) ∧ n = 1) (K : hy_Kt p l e R s m args below meth c cells slots Q y G r σr k (pc + n)) : hy_Kt p l e R s m args below meth c cells slots Q y G r σr (hy_sem rt dz rc cl (.lstore i) k) pc := by
  intro lv st σ H locs ls h v1 v2 hH hS hl
  dsimp only [hy_sem] at h
  split at h
  · split at h
    · cases h
    · rename_i hn
      cases hlt : Nat.blt (i + 1) lv.length with
      | false => rw [hlt] at h; cases h
      | true =>
        rw [hlt] at h
        have hi : i + 1 < hy_mx y := by rw [← hl.1]; exact Nat.le_of_ble_eq_true hlt
        have hp := hy_noL v1 (fun x q z => hn x q z)
        have hK := fun ls' (h' : lv_has ls' (hy_mx y) _) => K _ _ _ _ _ _ h (hy_vs (hy_VTn 0) (hy_vs (hy_VTl _ 0) v1)) (hy_vt v2) hH hS (hy_LV_set2 (ls' := ls') hl.1 hp h')
        rcases hd with ⟨hd, rfl⟩ | ⟨j, hj, hd, rfl⟩
        · exact lv_lstore hx hb hd (hy_asc_has hl) hi rfl hK
        · exact lv_lstore_n hx hb hd hj (hy_asc_has hl) hi rfl hK
  · cases h
theorem hy_s_iinc {i : Nat} {z : Int} (hx : p.tables.exec = Jvm.exec) (hb : c.code = hy_b y) (hd : decode (hy_b y) pc = .ok (.iinc i z, 3)) (K : hy_Kt p l e R s m args below meth c cells slots Q y G r σr k (pc + 3)) : hy_Kt p l e R s m args below meth c cells slots Q y G r σr (hy_sem rt dz rc cl (.iinc i z) k) pc := by
  intro lv st σ H locs ls h v1 v2 hH hS hl
  dsimp only [hy_sem] at h
  split at h
  · rename_i x q hi
    split at h
    · cases h
    · rename_i hn
      have hp := hy_noL v1 (fun x q z => hn x q z)
      obtain ⟨j, hj⟩ := List.getElem?_of_mem (hy_asc_mem (G := G) hi (fun z => by cases z))
      have hlt : i < hy_mx y := by rw [← hl.1]; exact (List.getElem?_eq_some_iff.mp hi).1
      exact lv_iinc hx hb hd (hy_asc_has hl) hj rfl hlt rfl (fun ls' h' => K _ _ _ _ _ _ h (hy_vs (hy_VTi _ 0) v1) v2 hH hS (hy_LV_set (ls' := ls') hl.1 hp h'))
  · cases h
theorem hy_s_ifCond {cc : Jvm.ClassFile.Cond} {b off : Int} (hx : p.tables.exec = Jvm.exec) (hb : c.code = hy_b y) (hd : decode (hy_b y) pc = .ok (.ifCond cc off, 3)) (ht : (pc : Int) + off = ((hy_blk y b.toNat).1 : Nat)) (Kb : hy_Kt p l e R s m args below meth c cells slots Q y G r σr (rc b.toNat) (hy_blk y b.toNat).1) (K : hy_Kt p l e R s m args below meth c cells slots Q y G r σr k (pc + 3)) : hy_Kt p l e R s m args below meth c cells slots Q y G r σr (hy_sem rt dz rc cl (.ifCond cc b) k) pc := by
  intro lv st σ H locs ls h v1 v2 hH hS hl
  dsimp only [hy_sem] at h
  split at h
  · have v3 := hy_vt v2
    cases cc with
    | eq =>
      dsimp only [hy_ltb] at h
      exact lv_if_eq hx hb hd ht (fun z => Kb _ _ _ _ _ _ (by first | rwa [if_pos z] at h | rwa [if_neg z] at h) v1 v3 hH hS hl) (fun z => K _ _ _ _ _ _ (by first | rwa [if_pos z] at h | rwa [if_neg z] at h) v1 v3 hH hS hl)
    | ne =>
      dsimp only [hy_ltb] at h
      exact lv_if_ne hx hb hd ht (fun z => Kb _ _ _ _ _ _ (by first | rwa [if_pos z] at h | rwa [if_neg z] at h) v1 v3 hH hS hl) (fun z => K _ _ _ _ _ _ (by first | rwa [if_pos z] at h | rwa [if_neg z] at h) v1 v3 hH hS hl)
    | lt =>
      dsimp only [hy_ltb] at h
      exact lv_if_lt hx hb hd ht (fun z => Kb _ _ _ _ _ _ (by first | rwa [if_pos z] at h | rwa [if_neg z] at h) v1 v3 hH hS hl) (fun z => K _ _ _ _ _ _ (by first | rwa [if_pos z] at h | rwa [if_neg z] at h) v1 v3 hH hS hl)
    | ge =>
      dsimp only [hy_ltb] at h
      exact lv_if_ge hx hb hd ht (fun z => Kb _ _ _ _ _ _ (by first | rwa [if_pos z] at h | rwa [if_neg z] at h) v1 v3 hH hS hl) (fun z => K _ _ _ _ _ _ (by first | rwa [if_pos z] at h | rwa [if_neg z] at h) v1 v3 hH hS hl)
    | gt =>
      dsimp only [hy_ltb] at h
      exact lv_if_gt hx hb hd ht (fun z => Kb _ _ _ _ _ _ (by first | rwa [if_pos z] at h | rwa [if_neg z] at h) v1 v3 hH hS hl) (fun z => K _ _ _ _ _ _ (by first | rwa [if_pos z] at h | rwa [if_neg z] at h) v1 v3 hH hS hl)
    | le =>
      dsimp only [hy_ltb] at h
      exact lv_if_le hx hb hd ht (fun z => Kb _ _ _ _ _ _ (by first | rwa [if_pos z] at h | rwa [if_neg z] at h) v1 v3 hH hS hl) (fun z => K _ _ _ _ _ _ (by first | rwa [if_pos z] at h | rwa [if_neg z] at h) v1 v3 hH hS hl)
  · cases h
theorem hy_s_if_icmp {cc : Jvm.ClassFile.Cond} {b off : Int} (hx : p.tables.exec = Jvm.exec) (hb : c.code = hy_b y) (hd : decode (hy_b y) pc = .ok (.if_icmp cc off, 3)) (ht : (pc : Int) + off = ((hy_blk y b.toNat).1 : Nat)) (Kb : hy_Kt p l e R s m args below meth c cells slots Q y G r σr (rc b.toNat) (hy_blk y b.toNat).1) (K : hy_Kt p l e R s m args below meth c cells slots Q y G r σr k (pc + 3)) : hy_Kt p l e R s m args below meth c cells slots Q y G r σr (hy_sem rt dz rc cl (.if_icmp cc b) k) pc := by
  intro lv st σ H locs ls h v1 v2 hH hS hl
  dsimp only [hy_sem] at h
  split at h
  · have v3 := hy_vt (hy_vt v2)
    cases cc with
    | eq =>
      dsimp only [hy_ltb] at h
      exact lv_icmp_eq hx hb hd ht (fun z => Kb _ _ _ _ _ _ (by first | rwa [if_pos z] at h | rwa [if_neg z] at h) v1 v3 hH hS hl) (fun z => K _ _ _ _ _ _ (by first | rwa [if_pos z] at h | rwa [if_neg z] at h) v1 v3 hH hS hl)
    | ne =>
      dsimp only [hy_ltb] at h
      exact lv_icmp_ne hx hb hd ht (fun z => Kb _ _ _ _ _ _ (by first | rwa [if_pos z] at h | rwa [if_neg z] at h) v1 v3 hH hS hl) (fun z => K _ _ _ _ _ _ (by first | rwa [if_pos z] at h | rwa [if_neg z] at h) v1 v3 hH hS hl)
    | lt =>
      dsimp only [hy_ltb] at h
      exact lv_icmp_lt hx hb hd ht (fun z => Kb _ _ _ _ _ _ (by first | rwa [if_pos z] at h | rwa [if_neg z] at h) v1 v3 hH hS hl) (fun z => K _ _ _ _ _ _ (by first | rwa [if_pos z] at h | rwa [if_neg z] at h) v1 v3 hH hS hl)
    | ge =>
      dsimp only [hy_ltb] at h
      exact lv_icmp_ge hx hb hd ht (fun z => Kb _ _ _ _ _ _ (by first | rwa [if_pos z] at h | rwa [if_neg z] at h) v1 v3 hH hS hl) (fun z => K _ _ _ _ _ _ (by first | rwa [if_pos z] at h | rwa [if_neg z] at h) v1 v3 hH hS hl)
    | gt =>
      dsimp only [hy_ltb] at h
      exact lv_icmp_gt hx hb hd ht (fun z => Kb _ _ _ _ _ _ (by first | rwa [if_pos z] at h | rwa [if_neg z] at h) v1 v3 hH hS hl) (fun z => K _ _ _ _ _ _ (by first | rwa [if_pos z] at h | rwa [if_neg z] at h) v1 v3 hH hS hl)
    | le =>
      dsimp only [hy_ltb] at h
      exact lv_icmp_le hx hb hd ht (fun z => Kb _ _ _ _ _ _ (by first | rwa [if_pos z] at h | rwa [if_neg z] at h) v1 v3 hH hS hl) (fun z => K _ _ _ _ _ _ (by first | rwa [if_pos z] at h | rwa [if_neg z] at h) v1 v3 hH hS hl)
  · cases h
theorem hy_s_goto {b off : Int} (hx : p.tables.exec = Jvm.exec) (hb : c.code = hy_b y) (hd : decode (hy_b y) pc = .ok (.goto off, 3)) (ht : (pc : Int) + off = ((hy_blk y b.toNat).1 : Nat)) (Kb : hy_Kt p l e R s m args below meth c cells slots Q y G r σr (rc b.toNat) (hy_blk y b.toNat).1) : hy_Kt p l e R s m args below meth c cells slots Q y G r σr (hy_sem rt dz rc cl (.goto b) k) pc := by
  intro lv st σ H locs ls h v1 v2 hH hS hl
  dsimp only [hy_sem] at h
  exact lv_goto hx hb hd ht (Kb _ _ _ _ _ _ h v1 v2 hH hS hl)
end HYS
end
section
/-! THE SMALL MACHINE AGAINST THE JVM: fields, arrays, switches, the library; written by wip/gen/gen6.py -/
theorem hy_lp_ok2 : ((List.range 10).all fun kd => (List.range (hy_N kd)).all fun k => hy_wAt ((hy_LP.getD kd []).getD k 0) (u_lay (hy_cn kd) (hy_T kd) k) && decide ((hy_T kd k).1 = hy_cn kd)) = true := by decide +kernel
theorem hy_all2 {f : Nat → Nat → Bool} {n : Nat} {N : Nat → Nat} (h : ((List.range n).all fun a => (List.range (N a)).all fun b => f a b) = true) {a b : Nat} (ha : a < n) (hb : b < N a) : f a b = true :=
  List.all_eq_true.mp (List.all_eq_true.mp h a (List.mem_range.mpr ha)) b (List.mem_range.mpr hb)
theorem hy_all1 {f : Nat → Bool} {n : Nat} (h : ((List.range n).all f) = true) {a : Nat} (ha : a < n) : f a = true := List.all_eq_true.mp h a (List.mem_range.mpr ha)
theorem hy_in {kd : Nat} (h : kd ≤ 9) : ∀ w ∈ u_ws (hy_cn kd) (hy_T kd) (hy_N kd), w ∈ hy_TB := by
  intro w hw
  obtain ⟨k, hk, rfl⟩ := List.mem_map.mp hw
  have h1 := hy_all2 hy_lp_ok2 (a := kd) (b := k) (by omega) (List.mem_range.mp hk)
  rw [Bool.and_eq_true] at h1
  exact hy_wAt_mem h1.1
theorem hy_decl {kd k : Nat} (h : kd ≤ 9) (hk : k < hy_N kd) : (hy_T kd k).1 = hy_cn kd := by
  have h1 := hy_all2 hy_lp_ok2 (a := kd) (b := k) (by omega) hk
  rw [Bool.and_eq_true] at h1
  exact of_decide_eq_true h1.2
theorem hy_tyk {kd : Nat} (h : kd ≤ 9) : ∀ k, k < hy_N kd → parseFieldDescriptor (hy_T kd k).2.2.1 = some (hy_ty kd k) := fun k hk => of_decide_eq_true (hy_all2 hy_ty_ok (a := kd) (b := k) (by omega) hk)
theorem hy_nmk {kd : Nat} (h : kd ≤ 9) : ∀ a, a < hy_N kd → ∀ b, b < hy_N kd → a ≠ b → (hy_T kd a).2.1 ≠ (hy_T kd b).2.1 := fun a ha b hb =>
  of_decide_eq_true (List.all_eq_true.mp (hy_all2 hy_nm_ok (a := kd) (b := a) (by omega) ha) b (List.mem_range.mpr hb))
theorem hy_clk {kd : Nat} (h1 : 1 ≤ kd) (h : kd ≤ 9) : hy_cl[kd - 1]? = some (hy_cn kd, hy_T kd, hy_N kd) := by
  match kd, h1, h with
  | 1, _, _ => rfl
  | 2, _, _ => rfl
  | 3, _, _ => rfl
  | 4, _, _ => rfl
  | 5, _, _ => rfl
  | 6, _, _ => rfl
  | 7, _, _ => rfl
  | 8, _, _ => rfl
  | 9, _, _ => rfl
theorem hy_FL_in : hy_FL.all (fun q => decide (1 ≤ q.2.2.1 / 64 ∧ q.2.2.1 / 64 ≤ 9 ∧ q.2.2.1 % 64 < hy_N (q.2.2.1 / 64) ∧ (hy_fr q.2.2.1 = none → ((hy_T (q.2.2.1 / 64) (q.2.2.1 % 64)).2.2.2 = false ∧ (hy_T (q.2.2.1 / 64) (q.2.2.1 % 64)).2.2.1 = (if q.2.2.1 = 69 ∨ q.2.2.1 = 579 then "Z" else "I"))))) = true := by decide +kernel
abbrev hy_Cx (p : Program) (c : Code) (s : State) (m : MethodId) (args : Array Value) (y : Nat) : Prop := p.tables.exec = Jvm.exec ∧ c.code = hy_b y ∧ s.vm.findClass (hy_cn (hy_own y)) = some m.cls ∧ ∀ w ∈ hy_TB, w.before args s = true
theorem hy_beq {a b : Nat} (h : Nat.beq a b = true) : a = b := Nat.eq_of_beq_eq_true h
theorem hy_cell_obj {G : hy_G} {σ : Sg} {a kd : Nat} (h : hy_ka a = kd) (h1 : 1 ≤ kd) (h9 : kd ≤ 9) : hy_cell G σ a = .inr (kd - 1, (List.range (hy_N kd)).map (hy_fld G σ a kd)) := by
  unfold hy_cell
  simp only [h]
  rw [if_pos ⟨h1, h9⟩]
theorem hy_al_in {kd so : Nat} {n : Int} (h : hy_al kd = some (so, n)) : 14 ≤ kd ∧ kd < 29 := by
  unfold hy_al at h
  cases hb : Nat.ble 14 kd with
  | false => rw [hb] at h; simp at h
  | true =>
    have h14 := Nat.le_of_ble_eq_true hb
    refine ⟨h14, ?_⟩
    rcases Nat.lt_or_ge kd 29 with q | q
    · exact q
    · rw [List.getElem?_eq_none (by simp; omega)] at h
      simp at h
theorem hy_ra_none {kd : Nat} (h : 14 ≤ kd) : hy_ra kd = none := by
  unfold hy_ra
  split
  · omega
  · omega
  · omega
  · omega
  · rfl
theorem hy_cell_arr {G : hy_G} {σ : Sg} {a so : Nat} {n : Int} (h : hy_al (hy_ka a) = some (so, n)) : hy_cell G σ a = .inl (hy_cy G so, n.toNat, .inl (σ a)) := by
  have hk := hy_al_in h
  unfold hy_cell
  simp only
  rw [if_neg (by omega), hy_ra_none hk.1, h]
theorem hy_cell_ref {G : hy_G} {σ : Sg} {a kd off sd : Nat} {n : Int} (h : hy_ra (hy_ka a) = some (n, kd, off, sd)) : hy_cell G σ a = .inl (hy_cy G (hy_ka a), n.toNat, .inr (.inr (.inr (.inr fun i => some (hy_adr G (a + off + sd * i)))))) := by
  have hk : ¬ (1 ≤ hy_ka a ∧ hy_ka a ≤ 9) := by
    intro z
    unfold hy_ra at h
    split at h
    · omega
    · omega
    · omega
    · omega
    · cases h
  unfold hy_cell
  simp only
  rw [if_neg hk, h]
theorem hy_vin {i : Int32} {n : Int} (h : hy_ib i n) : vp_in i n.toNat := vp_in_iff.mpr ⟨h.1, by have := h.1; have := h.2; omega⟩
theorem hy_ka_str {a : Nat} (h : hy_ka a = 31) : ∃ i, i < 6 ∧ a = 1000 + i := by
  unfold hy_ka at h
  by_cases q0 : a < 162
  · rw [if_pos q0] at h
    exact absurd h (by have := hy_all1 (f := fun a => decide (hy_KT.getD a 0 ≠ 31)) (n := 162) (by decide +kernel) q0; exact of_decide_eq_true this)
  · rw [if_neg q0] at h
    by_cases q1 : 1000 ≤ a ∧ a < 1006
    · exact ⟨a - 1000, by omega, by omega⟩
    · rw [if_neg q1] at h
      exfalso
      split at h
      · omega
      · split at h
        · omega
        · split at h <;> omega
theorem hy_ka_byt {a : Nat} (h : hy_ka a = 32) : ∃ i, i < 6 ∧ a = 1010 + i := by
  unfold hy_ka at h
  by_cases q0 : a < 162
  · rw [if_pos q0] at h
    exact absurd h (by have := hy_all1 (f := fun a => decide (hy_KT.getD a 0 ≠ 32)) (n := 162) (by decide +kernel) q0; exact of_decide_eq_true this)
  · rw [if_neg q0] at h
    by_cases q1 : 1000 ≤ a ∧ a < 1006
    · rw [if_pos q1] at h; omega
    · rw [if_neg q1] at h
      by_cases q2 : 1010 ≤ a ∧ a < 1016
      · exact ⟨a - 1010, by omega, by omega⟩
      · rw [if_neg q2] at h
        exfalso
        split at h
        · omega
        · split at h <;> omega
theorem hy_ka_scr {a : Nat} (h : hy_ka a = 30) : a = 2000 := by
  unfold hy_ka at h
  by_cases q0 : a < 162
  · rw [if_pos q0] at h
    exact absurd h (by have := hy_all1 (f := fun a => decide (hy_KT.getD a 0 ≠ 30)) (n := 162) (by decide +kernel) q0; exact of_decide_eq_true this)
  · rw [if_neg q0] at h
    split at h
    · omega
    · split at h
      · omega
      · split at h
        · omega
        · split at h
          · assumption
          · omega
theorem hy_al30 : hy_al 30 = none := by decide +kernel
theorem hy_al32 : hy_al 32 = none := by decide +kernel
theorem hy_SLn_small : ∀ i, i < 6 → hy_SLn.getD i 0 < 2 ^ 31 := by decide +kernel
section HYS
variable {p : Program} {l : Launch} {e : Env} {R : Room} {s : State} {m : MethodId} {args : Array Value} {below : List Frame} {meth : Method} {c : Code} {cells slots : Nat} {Q : State → Prop} {y : Nat} {G : hy_G} {r : Vl} {σr : Sg} {k : List Vl → List Vl → Sg → Rs} {pc : Nat}
variable {rt : Nat} {dz : Bool} {rc : Nat → List Vl → List Vl → Sg → Rs} {cl : Nat → List Vl → Sg → Rs}
theorem hy_s_getfield {pf : Nat} {q : Nat × Nat × Nat × Nat} (C : hy_Cx p c s m args y) (hU : hy_KU G s) (hq : q ∈ hy_FL) (hq1 : q.1 = hy_own y) (hq2 : q.2.2.1 = pf) (hd : decode (hy_b y) pc = .ok (.getfield q.2.1, 3)) (K : hy_Kt p l e R s m args below meth c cells slots Q y G r σr k (pc + 3)) : hy_Kt p l e R s m args below meth c cells slots Q y G r σr (hy_sem rt dz rc cl (.getfield pf) k) pc := by
  intro lv st σ H locs ls h v1 v2 hH hS hl
  dsimp only [hy_sem] at h
  obtain ⟨hx, hb, hown, hts⟩ := C
  subst hq2
  obtain ⟨hk1, hk9, hkN, -⟩ := of_decide_eq_true (List.all_eq_true.mp hy_FL_in q hq)
  have hw := hts _ (hy_wAt_mem (List.all_eq_true.mp hy_fl_ok q hq))
  split at h
  · rename_i a kd st
    cases hbq : Nat.beq kd (q.2.2.1 / 64) with
    | false => rw [hbq] at h; cases h
    | true =>
      rw [hbq] at h
      have hkd := hy_beq hbq
      have hka : hy_ka a = q.2.2.1 / 64 := ((hy_v0 v2).1 a rfl).trans hkd
      have ha : a < 162 := hy_ka_lt (by omega) (by omega)
      have he := hy_wl_get G σ ha
      rw [hy_cell_obj hka hk1 hk9] at he
      have hv : ((List.range (hy_N (q.2.2.1 / 64))).map (hy_fld G σ a (q.2.2.1 / 64)))[q.2.2.1 % 64]? = some (hy_fld G σ a (q.2.2.1 / 64) (q.2.2.1 % 64)) := by
        rw [List.getElem?_map, List.getElem?_range hkN]; rfl
      refine va_get (D := hy_D G) (C := hy_cn (q.2.2.1 / 64)) (T := hy_T (q.2.2.1 / 64)) (N := hy_N (q.2.2.1 / 64)) (own := hy_cn q.1) (ref := hy_cn (q.2.2.1 / 64)) hx hb hts (hy_in hk9) (by rw [hq1]; exact hown) hU.1 hH.1 a he (hy_clk hk1 hk9) (q.2.2.1 % 64) hkN hw (fun x hx => by rw [hy_decl hk9 hkN] at hx; exact hx) hv hd ?_
      have hpf : q.2.2.1 / 64 * 64 + q.2.2.1 % 64 = q.2.2.1 := by omega
      unfold hy_fld
      rw [hpf]
      cases hfr : hy_fr q.2.2.1 with
      | none =>
        rw [hfr] at h
        exact K _ _ _ _ _ _ h v1 (hy_vc (hy_VTi _ _) (hy_vt v2)) hH hS hl
      | some w =>
        obtain ⟨kd', off⟩ := w
        rw [hfr] at h
        have hl1 := hy_all2 hy_lay_fr (a := a) (b := q.2.2.1 % 64) ha (by omega)
        rw [hka, hpf, hfr] at hl1
        exact K _ _ _ _ _ _ h v1 (hy_vc (hy_VTr (hy_beq hl1)) (hy_vt v2)) hH hS hl
  · cases h
theorem hy_s_getfieldS {pf : Nat} {q : Nat × Nat × Nat × Nat} (C : hy_Cx p c s m args y) (hU : hy_KU G s) (hq : q ∈ hy_SL) (hq1 : q.1 = hy_own y) (hq2 : q.2.2.1 = pf) (hd : decode (hy_b y) pc = .ok (.getfield q.2.1, 3)) (K : hy_Kt p l e R s m args below meth c cells slots Q y G r σr k (pc + 3)) : hy_Kt p l e R s m args below meth c cells slots Q y G r σr (hy_sem rt dz rc cl (.getfield pf) k) pc := by
  intro lv st σ H locs ls h v1 v2 hH hS hl
  dsimp only [hy_sem] at h
  obtain ⟨hx, hb, hown, hts⟩ := C
  subst hq2
  have hw := hts _ (hy_wAt_mem (List.all_eq_true.mp hy_sl_ok q hq))
  have hpq : q.2.2.1 = 1984 ∨ q.2.2.1 = 1985 := of_decide_eq_true (List.all_eq_true.mp (show hy_SL.all (fun q => decide (q.2.2.1 = 1984 ∨ q.2.2.1 = 1985)) = true by decide +kernel) q hq)
  split at h
  · rename_i a kd st
    cases hbq : Nat.beq kd (q.2.2.1 / 64) with
    | false => rw [hbq] at h; cases h
    | true =>
      rw [hbq] at h
      have hkd := hy_beq hbq
      have hka : hy_ka a = 31 := ((hy_v0 v2).1 a rfl).trans (hkd.trans (by rcases hpq with z | z <;> rw [z]))
      obtain ⟨i, hi, rfl⟩ := hy_ka_str hka
      obtain ⟨-, -, -, -, -, -, hstr, -⟩ := hU
      obtain ⟨-, hco, hva, -⟩ := hstr.1 i hi
      have h1 : s.vm.findClass (hy_cn q.1) = some m.cls := by rw [hq1]; exact hown
      rcases hpq with z | z
      · rw [z] at h hw
        refine vk_getf hx hb hva hS h1 hw (fun _ h => h) hd ?_
        exact K _ _ _ _ _ _ h v1 (hy_vc (hy_VTr (show hy_ka (hy_ad 10 (1000 + i)) = 32 by
          show hy_ka (1000 + i + 10) = 32
          unfold hy_ka
          rw [if_neg (by omega), if_neg (by omega), if_pos (by omega)])) (hy_vt v2)) hH hS hl |> fun z => by
            have e : hy_cv G (.ref (hy_ad 10 (1000 + i)), 32) = .ref (hy_adr G (1010 + i)) := by
              show Value.ref (hy_adr G (1000 + i + 10)) = _
              rw [show 1000 + i + 10 = 1010 + i by omega]
            rw [List.map_cons, e] at z
            exact z
      · rw [z] at h hw
        refine vk_getf hx hb hco hS h1 hw (fun _ h => h) hd ?_
        have e0 : σ (1000 + i) 1 = 0 := ((hH.2.2.1 i hi).2.2)
        have h' : k lv ((.int (σ (1000 + i) 1), 0) :: st) σ = some (r, σr) := h
        rw [e0] at h'
        exact K _ _ _ _ _ _ h' v1 (hy_vc (hy_VTi _ _) (hy_vt v2)) hH hS hl
  · cases h
theorem hy_s_putfield {pf : Nat} {q : Nat × Nat × Nat × Nat} (C : hy_Cx p c s m args y) (hU : hy_KU G s) (hq : q ∈ hy_FL) (hq1 : q.1 = hy_own y) (hq2 : q.2.2.1 = pf) (hd : decode (hy_b y) pc = .ok (.putfield q.2.1, 3)) (K : hy_Kt p l e R s m args below meth c cells slots Q y G r σr k (pc + 3)) : hy_Kt p l e R s m args below meth c cells slots Q y G r σr (hy_sem rt dz rc cl (.putfield pf) k) pc := by
  intro lv st σ H locs ls h v1 v2 hH hS hl
  dsimp only [hy_sem] at h
  obtain ⟨hx, hb, hown, hts⟩ := C
  subst hq2
  obtain ⟨hk1, hk9, hkN, hkI⟩ := of_decide_eq_true (List.all_eq_true.mp hy_FL_in q hq)
  have hw := hts _ (hy_wAt_mem (List.all_eq_true.mp hy_fl_ok q hq))
  split at h
  · rename_i x q1 a kd st
    cases hbq : Nat.beq kd (q.2.2.1 / 64) with
    | false => rw [hbq] at h; cases h
    | true =>
      rw [hbq] at h
      have hkd := hy_beq hbq
      have hka : hy_ka a = q.2.2.1 / 64 := ((hy_v0 (hy_vt v2)).1 a rfl).trans hkd
      have ha : a < 162 := hy_ka_lt (by omega) (by omega)
      have he := hy_wl_get G σ ha
      rw [hy_cell_obj hka hk1 hk9] at he
      have hpf : q.2.2.1 / 64 * 64 + q.2.2.1 % 64 = q.2.2.1 := by omega
      cases hfr : hy_fr q.2.2.1 with
      | some w => rw [hfr] at h; cases h
      | none =>
        rw [hfr] at h
        dsimp only [cond_true] at h
        obtain ⟨hfin, hdesc⟩ := hkI hfr
        have hset : ((List.range (hy_N (q.2.2.1 / 64))).map (hy_fld G σ a (q.2.2.1 / 64))).set (q.2.2.1 % 64) (.int x) = (List.range (hy_N (q.2.2.1 / 64))).map (hy_fld G (hy_up σ a (q.2.2.1 % 64) x) a (q.2.2.1 / 64)) := by
          apply List.ext_getElem?
          intro j
          by_cases hj : q.2.2.1 % 64 = j
          · subst hj
            rw [List.getElem?_set_self (by simpa using hkN), List.getElem?_map, List.getElem?_range hkN]
            show _ = some (hy_fld G (hy_up σ a (q.2.2.1 % 64) x) a (q.2.2.1 / 64) (q.2.2.1 % 64))
            unfold hy_fld
            rw [hpf, hfr, hy_up_eq]
            simp [upd]
          · rw [List.getElem?_set_ne hj, List.getElem?_map, List.getElem?_map]
            by_cases hjN : j < hy_N (q.2.2.1 / 64)
            · rw [List.getElem?_range hjN]
              show some (hy_fld G σ a _ j) = some (hy_fld G (hy_up σ a (q.2.2.1 % 64) x) a _ j)
              unfold hy_fld
              rw [hy_up_eq]
              simp [upd, Ne.symm hj]
            · rw [List.getElem?_eq_none (by simp; omega)]
              rfl
        have hcell : hy_cell G (hy_up σ a (q.2.2.1 % 64) x) a = .inr (q.2.2.1 / 64 - 1, ((List.range (hy_N (q.2.2.1 / 64))).map (hy_fld G σ a (q.2.2.1 / 64))).set (q.2.2.1 % 64) (.int x)) := by
          rw [hset]; exact hy_cell_obj hka hk1 hk9
        have go : ∀ ty : FieldType, parseFieldDescriptor (hy_T (q.2.2.1 / 64) (q.2.2.1 % 64)).2.2.1 = some ty → narrow ty (.int x) = .int x → fits ty (.int x) = true → k lv st (hy_up σ a (q.2.2.1 % 64) x) = some (r, σr) → W p l e R s m args below meth c H locs cells slots Q (F0 m pc ls (((Value.int x, q1) :: (Value.ref a, kd) :: st).map (hy_cv G))) := by
          intro ty hd1 hn hf h
          refine va_put (D := hy_D G) (C := hy_cn (q.2.2.1 / 64)) (T := hy_T (q.2.2.1 / 64)) (N := hy_N (q.2.2.1 / 64)) (own := hy_cn q.1) (ref := hy_cn (q.2.2.1 / 64)) hx hb hts (hy_in hk9) (hy_ty (q.2.2.1 / 64)) (hy_tyk hk9) (hy_nmk hk9) (by rw [hq1]; exact hown) hU.1 hH.1 hH.2.1 hS a he (hy_clk hk1 hk9) (q.2.2.1 % 64) hkN hw (fun x hx => by rw [hy_decl hk9 hkN] at hx; exact hx) hfin hd1 hn hf (by simpa using hkN) hd (fun H1 locs1 hP hD hS1 => ?_)
          exact K _ _ _ _ _ _ h v1 (hy_vt (hy_vt v2)) (hy_HR_set ha hcell (fun j hj => hy_up_ne σ hj) hP hD hH.2.2) hS1 hl
        cases hbz : (Nat.beq q.2.2.1 69 || Nat.beq q.2.2.1 579) with
        | false =>
          rw [hbz] at h
          dsimp only [cond_false] at h
          have hne : ¬ (q.2.2.1 = 69 ∨ q.2.2.1 = 579) := fun z => by
            rcases z with z | z <;> rw [z] at hbz <;> exact absurd hbz (by decide)
          rw [if_neg hne] at hdesc
          exact go .int (by rw [hdesc]; decide) rfl rfl h
        | true =>
          rw [hbz] at h
          dsimp only [cond_true] at h
          have he : q.2.2.1 = 69 ∨ q.2.2.1 = 579 := by
            rw [Bool.or_eq_true] at hbz
            exact hbz.imp hy_beq hy_beq
          rw [if_pos he] at hdesc
          split at h
          · rename_i hx01
            exact go .boolean (by rw [hdesc]; decide) (by rcases hx01 with z | z <;> rw [z] <;> decide) (by rcases hx01 with z | z <;> rw [z] <;> decide) h
          · cases h
  · cases h
theorem hy_s_iaload  (C : hy_Cx p c s m args y) (hU : hy_KU G s) (hd : decode (hy_b y) pc = .ok (.iaload, 1)) (K : hy_Kt p l e R s m args below meth c cells slots Q y G r σr k (pc + 1)) : hy_Kt p l e R s m args below meth c cells slots Q y G r σr (hy_sem rt dz rc cl (.iaload) k) pc := by
  intro lv st σ H locs ls h v1 v2 hH hS hl
  dsimp only [hy_sem] at h
  obtain ⟨hx, hb, hown, hts⟩ := C
  split at h
  · rename_i i q1 a kd st
    have hka : hy_ka a = kd := (hy_v0 (hy_vt v2)).1 a rfl
    cases hal : hy_al kd with
    | none =>
      rw [hal] at h
      cases hbq : Nat.beq kd 30 with
      | false => rw [hbq] at h; cases h
      | true =>
        rw [hbq] at h
        dsimp only [cond_true] at h
        split at h
        · rename_i hi
          have hka' : hy_ka a = 30 := hka.trans (hy_beq hbq)
          have ea := hy_ka_scr hka'
          subst ea
          have hdl : hy_dl σ 2000 = Int32.ofNat (hy_L G) := hH.2.2.2.2
          have hLt : (hy_dl σ 2000).toInt = (hy_L G : Int) := by rw [hdl]; exact nI_toInt hU.2.2.2.2.1
          rw [hLt] at hi
          have hi' : vp_in i (hy_L G) := hy_vin hi
          have hix : hy_ix i < hy_L G := Nat.not_le.mp fun z => hi' (Or.inr z)
          have e0 : σ 2000 (hy_ix i) = hy_xs G (hy_ix i) := hH.2.2.2.1 _ hix
          rw [e0] at h
          obtain ⟨-, -, hbase, hb2, -, hX, -⟩ := hU
          exact va_sld hx hb hX (by omega) (by unfold hy_A; omega) hS hi' hd (K _ _ _ _ _ _ h v1 (hy_vc (hy_VTi _ _) (hy_vt (hy_vt v2))) hH hS hl)
        · cases h
    | some w =>
      obtain ⟨so, n⟩ := w
      have hin := hy_al_in hal
      rw [hal] at h
      match so, hal, h with
      | 0, hal, h =>
        have h : (if hy_ib i n then k lv ((.int (σ a (hy_ix i)), 0) :: st) σ else none) = some (r, σr) := h
        split at h
        · rename_i hi
          have ha : a < 162 := hy_ka_lt (by omega) (by omega)
          have he := hy_wl_get G σ ha
          rw [hy_cell_arr (by rw [hka]; exact hal)] at he
          exact va_iald (D := hy_D G) hx hb hU.1 hH.1 a 0 he rfl (hy_vin hi) hd (K _ _ _ _ _ _ h v1 (hy_vc (hy_VTi _ _) (hy_vt (hy_vt v2))) hH hS hl)
        · cases h
      | 1, hal, h => cases hbq : Nat.beq kd 30 with
        | false => simp [hbq] at h
        | true => rw [hy_beq hbq] at hin; omega
      | n' + 2, hal, h => cases hbq : Nat.beq kd 30 with
        | false => simp [hbq] at h
        | true => rw [hy_beq hbq] at hin; omega
  · cases h
theorem hy_s_caload  (C : hy_Cx p c s m args y) (hU : hy_KU G s) (hd : decode (hy_b y) pc = .ok (.caload, 1)) (K : hy_Kt p l e R s m args below meth c cells slots Q y G r σr k (pc + 1)) : hy_Kt p l e R s m args below meth c cells slots Q y G r σr (hy_sem rt dz rc cl (.caload) k) pc := by
  intro lv st σ H locs ls h v1 v2 hH hS hl
  dsimp only [hy_sem] at h
  obtain ⟨hx, hb, hown, hts⟩ := C
  split at h
  · rename_i i q1 a kd st
    have hka : hy_ka a = kd := (hy_v0 (hy_vt v2)).1 a rfl
    cases hal : hy_al kd with
    | none =>
      rw [hal] at h
      cases h
    | some w =>
      obtain ⟨so, n⟩ := w
      have hin := hy_al_in hal
      rw [hal] at h
      match so, hal, h with
      | 1, hal, h =>
        have h : (if hy_ib i n then k lv ((.int (σ a (hy_ix i)), 0) :: st) σ else none) = some (r, σr) := h
        split at h
        · rename_i hi
          have ha : a < 162 := hy_ka_lt (by omega) (by omega)
          have he := hy_wl_get G σ ha
          rw [hy_cell_arr (by rw [hka]; exact hal)] at he
          exact va_cald (D := hy_D G) hx hb hU.1 hH.1 a 1 he rfl (hy_vin hi) hd (K _ _ _ _ _ _ h v1 (hy_vc (hy_VTi _ _) (hy_vt (hy_vt v2))) hH hS hl)
        · cases h
      | 0, hal, h => cases h
      | n' + 2, hal, h => cases h
  · cases h
theorem hy_s_baload  (C : hy_Cx p c s m args y) (hU : hy_KU G s) (hd : decode (hy_b y) pc = .ok (.baload, 1)) (K : hy_Kt p l e R s m args below meth c cells slots Q y G r σr k (pc + 1)) : hy_Kt p l e R s m args below meth c cells slots Q y G r σr (hy_sem rt dz rc cl (.baload) k) pc := by
  intro lv st σ H locs ls h v1 v2 hH hS hl
  dsimp only [hy_sem] at h
  obtain ⟨hx, hb, hown, hts⟩ := C
  split at h
  · rename_i i q1 a kd st
    have hka : hy_ka a = kd := (hy_v0 (hy_vt v2)).1 a rfl
    cases hal : hy_al kd with
    | none =>
      rw [hal] at h
      cases hbq : Nat.beq kd 32 with
      | false => rw [hbq] at h; cases h
      | true =>
        rw [hbq] at h
        dsimp only [cond_true] at h
        split at h
        · rename_i hi
          have hka' : hy_ka a = 32 := hka.trans (hy_beq hbq)
          obtain ⟨j, hj, rfl⟩ := hy_ka_byt hka'
          obtain ⟨hs1, hs2, -⟩ := hH.2.2.1 j hj
          have hdl : hy_dl σ (1010 + j) = Int32.ofNat (hy_SLn.getD j 0) := hs2
          have hLt : (hy_dl σ (1010 + j)).toInt = ((hy_SLn.getD j 0 : Nat) : Int) := by rw [hdl]; exact nI_toInt (hy_SLn_small j hj)
          rw [hLt] at hi
          have hi' : vp_in i (hy_SLn.getD j 0) := hy_vin hi
          have hix : hy_ix i < hy_SLn.getD j 0 := Nat.not_le.mp fun z => hi' (Or.inr z)
          have e0 := hs1 _ hix
          obtain ⟨-, -, -, -, -, -, hstr, -⟩ := hU
          obtain ⟨-, -, -, hT⟩ := hstr.1 j hj
          have h' : k lv ((.int (σ (1010 + j) (hy_ix i)), 0) :: st) σ = some (r, σr) := h
          rw [e0] at h'
          exact va_tb hx hb hT hS hi' rfl hd (K _ _ _ _ _ _ h' v1 (hy_vc (hy_VTi _ _) (hy_vt (hy_vt v2))) hH hS hl)
        · cases h
    | some w =>
      obtain ⟨so, n⟩ := w
      have hin := hy_al_in hal
      rw [hal] at h
      match so, hal, h with
      | 2, hal, h =>
        have h : (if hy_ib i n then k lv ((.int (σ a (hy_ix i)), 0) :: st) σ else none) = some (r, σr) := h
        split at h
        · rename_i hi
          have ha : a < 162 := hy_ka_lt (by omega) (by omega)
          have he := hy_wl_get G σ ha
          rw [hy_cell_arr (by rw [hka]; exact hal)] at he
          exact va_zald (D := hy_D G) hx hb hU.1 hH.1 a 2 he rfl (hy_vin hi) hd (K _ _ _ _ _ _ h v1 (hy_vc (hy_VTi _ _) (hy_vt (hy_vt v2))) hH hS hl)
        · cases h
      | 0, hal, h => cases hbq : Nat.beq kd 32 with
        | false => simp [hbq] at h
        | true => rw [hy_beq hbq] at hin; omega
      | 1, hal, h => cases hbq : Nat.beq kd 32 with
        | false => simp [hbq] at h
        | true => rw [hy_beq hbq] at hin; omega
      | n' + 3, hal, h => cases hbq : Nat.beq kd 32 with
        | false => simp [hbq] at h
        | true => rw [hy_beq hbq] at hin; omega
  · cases h
theorem hy_s_iastore  (C : hy_Cx p c s m args y) (hU : hy_KU G s) (hd : decode (hy_b y) pc = .ok (.iastore, 1)) (K : hy_Kt p l e R s m args below meth c cells slots Q y G r σr k (pc + 1)) : hy_Kt p l e R s m args below meth c cells slots Q y G r σr (hy_sem rt dz rc cl (.iastore) k) pc := by
  intro lv st σ H locs ls h v1 v2 hH hS hl
  dsimp only [hy_sem] at h
  obtain ⟨hx, hb, hown, hts⟩ := C
  split at h
  · rename_i x q1 i q2 a kd st
    have hka : hy_ka a = kd := (hy_v0 (hy_vt (hy_vt v2))).1 a rfl
    cases hal : hy_al kd with
    | none =>
      rw [hal] at h
      cases h
    | some w =>
      obtain ⟨so, n⟩ := w
      have hin := hy_al_in hal
      rw [hal] at h
      match so, hal, h with
      | 0, hal, h =>
        have h : (if hy_ib i n then k lv st (hy_up σ a (hy_ix i) x) else none) = some (r, σr) := h
        split at h
        · rename_i hi
          have ha : a < 162 := hy_ka_lt (by omega) (by omega)
          have he := hy_wl_get G σ ha
          rw [hy_cell_arr (by rw [hka]; exact hal)] at he
          refine va_iast (D := hy_D G) hx hb hU.1 hH.1 hH.2.1 hS a 0 he rfl (hy_vin hi) hd (fun H1 locs1 hP hD hS1 => ?_)
          refine K _ _ _ _ _ _ h v1 (hy_vt (hy_vt (hy_vt v2))) (hy_HR_set ha ?_ (fun j hj => hy_up_ne σ hj) hP hD hH.2.2) hS1 hl
          rw [hy_cell_arr (so := 0) (n := n) (by rw [hka]; exact hal), hy_up_eq]
          rfl
        · cases h
      | n' + 1, hal, h => cases h
  · cases h
theorem hy_s_bastore  (C : hy_Cx p c s m args y) (hU : hy_KU G s) (hd : decode (hy_b y) pc = .ok (.bastore, 1)) (K : hy_Kt p l e R s m args below meth c cells slots Q y G r σr k (pc + 1)) : hy_Kt p l e R s m args below meth c cells slots Q y G r σr (hy_sem rt dz rc cl (.bastore) k) pc := by
  intro lv st σ H locs ls h v1 v2 hH hS hl
  dsimp only [hy_sem] at h
  obtain ⟨hx, hb, hown, hts⟩ := C
  split at h
  · rename_i x q1 i q2 a kd st
    have hka : hy_ka a = kd := (hy_v0 (hy_vt (hy_vt v2))).1 a rfl
    cases hal : hy_al kd with
    | none =>
      rw [hal] at h
      cases h
    | some w =>
      obtain ⟨so, n⟩ := w
      have hin := hy_al_in hal
      rw [hal] at h
      match so, hal, h with
      | 2, hal, h =>
        have h : (if hy_ib i n then (if x = 0 ∨ x = 1 then k lv st (hy_up σ a (hy_ix i) x) else none) else none) = some (r, σr) := h
        split at h
        · rename_i hi
          split at h
          case isFalse => cases h
          rename_i hx01
          have ha : a < 162 := hy_ka_lt (by omega) (by omega)
          have he := hy_wl_get G σ ha
          rw [hy_cell_arr (by rw [hka]; exact hal)] at he
          refine va_zast (D := hy_D G) hx hb hU.1 hH.1 hH.2.1 hS a 2 he rfl (hy_vin hi) hd (fun H1 locs1 hP hD hS1 => ?_)
          have ex : vp_nar .boolean x = x := by rcases hx01 with z | z <;> rw [z] <;> decide
          rw [ex] at hP hD
          refine K _ _ _ _ _ _ h v1 (hy_vt (hy_vt (hy_vt v2))) (hy_HR_set ha ?_ (fun j hj => hy_up_ne σ hj) hP hD hH.2.2) hS1 hl
          rw [hy_cell_arr (so := 2) (n := n) (by rw [hka]; exact hal), hy_up_eq]
          rfl
        · cases h
      | 0, hal, h => cases h
      | 1, hal, h => cases h
      | n' + 3, hal, h => cases h
  · cases h
theorem hy_s_aaload  (C : hy_Cx p c s m args y) (hU : hy_KU G s) (hd : decode (hy_b y) pc = .ok (.aaload, 1)) (K : hy_Kt p l e R s m args below meth c cells slots Q y G r σr k (pc + 1)) : hy_Kt p l e R s m args below meth c cells slots Q y G r σr (hy_sem rt dz rc cl (.aaload) k) pc := by
  intro lv st σ H locs ls h v1 v2 hH hS hl
  dsimp only [hy_sem] at h
  obtain ⟨hx, hb, hown, hts⟩ := C
  split at h
  · rename_i i q1 a kd st
    have hka : hy_ka a = kd := (hy_v0 (hy_vt v2)).1 a rfl
    cases hra : hy_ra kd with
    | none => rw [hra] at h; cases h
    | some w =>
      obtain ⟨n, kd', off, sd⟩ := w
      rw [hra] at h
      have h : (if hy_ib i n then k lv ((.ref (a + off + sd * hy_ix i), kd') :: st) σ else none) = some (r, σr) := h
      split at h
      · rename_i hi
        have hk : (kd = 10 ∨ kd = 11 ∨ kd = 12 ∨ kd = 13) := by
          unfold hy_ra at hra
          split at hra
          · exact Or.inl rfl
          · exact Or.inr (Or.inl rfl)
          · exact Or.inr (Or.inr (Or.inl rfl))
          · exact Or.inr (Or.inr (Or.inr rfl))
          · cases hra
        have ha : a < 162 := hy_ka_lt (by omega) (by omega)
        have he := hy_wl_get G σ ha
        rw [hy_cell_ref (by rw [hka]; exact hra), hka] at he
        have hv := hy_vin hi
        have hix : hy_ix i < n.toNat := Nat.not_le.mp fun z => hv (Or.inr z)
        have hl1 := hy_all1 hy_lay_ra (a := a) ha
        rw [hka, hra] at hl1
        have hl2 := hy_all1 hl1 (a := hy_ix i) hix
        have hK := K _ _ _ _ _ _ h v1 (hy_vc (hy_VTr (hy_beq hl2)) (hy_vt (hy_vt v2))) hH hS hl
        have fin : ∀ (t0 : Nat) (Cn : String), (hy_tys G)[t0]? = some (hy_cy G kd, .object Cn) → W p l e R s m args below meth c H locs cells slots Q (F0 m pc ls (((Value.int i, q1) :: (Value.ref a, kd) :: st).map (hy_cv G))) := fun t0 Cn ht =>
          va_aldq (D := hy_D G) hx hb hU.1 hH.1 a t0 he ht hv hd hK
        rcases hk with z | z | z | z
        · exact fin 3 _ (by rw [z]; rfl)
        · exact fin 4 _ (by rw [z]; rfl)
        · exact fin 5 _ (by rw [z]; rfl)
        · exact fin 6 _ (by rw [z]; rfl)
      · cases h
  · cases h
theorem hy_s_arraylength  (C : hy_Cx p c s m args y) (hU : hy_KU G s) (hd : decode (hy_b y) pc = .ok (.arraylength, 1)) (K : hy_Kt p l e R s m args below meth c cells slots Q y G r σr k (pc + 1)) : hy_Kt p l e R s m args below meth c cells slots Q y G r σr (hy_sem rt dz rc cl (.arraylength) k) pc := by
  intro lv st σ H locs ls h v1 v2 hH hS hl
  dsimp only [hy_sem] at h
  obtain ⟨hx, hb, hown, hts⟩ := C
  split at h
  · rename_i a kd st
    have hka : hy_ka a = kd := (hy_v0 v2).1 a rfl
    cases hbz : (Nat.beq kd 30 || Nat.beq kd 32) with
    | false => rw [hbz] at h; cases h
    | true =>
      rw [hbz] at h
      dsimp only [cond_true] at h
      rw [Bool.or_eq_true] at hbz
      rcases hbz with z | z
      · have ea := hy_ka_scr (hka.trans (hy_beq z))
        subst ea
        have hdl : hy_dl σ 2000 = Int32.ofNat (hy_L G) := hH.2.2.2.2
        rw [hdl] at h
        obtain ⟨-, -, hbase, hb2, -, hX, -⟩ := hU
        exact va_slen hx hb hX (by omega) (by unfold hy_A; omega) hS hd (K _ _ _ _ _ _ h v1 (hy_vc (hy_VTi _ _) (hy_vt v2)) hH hS hl)
      · obtain ⟨j, hj, rfl⟩ := hy_ka_byt (hka.trans (hy_beq z))
        have hdl : hy_dl σ (1010 + j) = Int32.ofNat (hy_SLn.getD j 0) := (hH.2.2.1 j hj).2.1
        rw [hdl] at h
        obtain ⟨-, -, -, -, -, -, hstr, -⟩ := hU
        obtain ⟨-, -, -, hT⟩ := hstr.1 j hj
        exact va_tlen hx hb hT hS rfl hd (K _ _ _ _ _ _ h v1 (hy_vc (hy_VTi _ _) (hy_vt v2)) hH hS hl)
  · cases h
theorem hy_s_ldc {i : Nat} {q : Nat × Nat × Nat × Nat} (C : hy_Cx p c s m args y) (hU : hy_KU G s) (hi : i < 6) (hq : q ∈ hy_ST) (hq1 : q.1 = hy_own y) (hq2 : q.2.2.1 = i) (hd : decode (hy_b y) pc = .ok (.ldc q.2.1, 2)) (K : hy_Kt p l e R s m args below meth c cells slots Q y G r σr k (pc + 2)) : hy_Kt p l e R s m args below meth c cells slots Q y G r σr (hy_sem rt dz rc cl (.ldc i) k) pc := by
  intro lv st σ H locs ls h v1 v2 hH hS hl
  dsimp only [hy_sem] at h
  obtain ⟨hx, hb, hown, hts⟩ := C
  subst hq2
  obtain ⟨-, -, -, -, -, -, -, hR, -⟩ := hU
  exact va_ldcS hx hb (by rw [hq1]; exact hown) (hR q hq) hd (K _ _ _ _ _ _ h v1 (hy_vc (hy_VTr (show hy_ka (1000 + q.2.2.1) = 31 by
    unfold hy_ka
    rw [if_neg (by omega), if_pos (by omega)])) v2) hH hS hl)
theorem hy_s_getstatic {i : Nat} {q : Nat × Nat × Nat × Nat} (C : hy_Cx p c s m args y) (hU : hy_KU G s) (hi : i < 2) (hq : q ∈ hy_GS) (hq1 : q.1 = hy_own y) (hq2 : q.2.2.1 = i) (hd : decode (hy_b y) pc = .ok (.getstatic q.2.1, 3)) (K : hy_Kt p l e R s m args below meth c cells slots Q y G r σr k (pc + 3)) : hy_Kt p l e R s m args below meth c cells slots Q y G r σr (hy_sem rt dz rc cl (.getstatic i) k) pc := by
  intro lv st σ H locs ls h v1 v2 hH hS hl
  dsimp only [hy_sem] at h
  obtain ⟨hx, hb, hown, hts⟩ := C
  have hw := hts _ (hy_wAt_mem (List.all_eq_true.mp hy_gs_ok q hq))
  rw [hq2] at hw
  obtain ⟨-, -, -, -, -, -, -, -, -, hZ1, hZ2⟩ := hU
  match i, hi, h, hw with
  | 0, _, h, hw => exact va_gets hx hb hZ1 hS (by rw [hq1]; exact hown) hw (fun _ h => h) hd (K _ _ _ _ _ _ h v1 (hy_vc (hy_VTi _ _) v2) hH hS hl)
  | 1, _, h, hw => exact va_gets hx hb hZ2 hS (by rw [hq1]; exact hown) hw (fun _ h => h) hd (K _ _ _ _ _ _ h v1 (hy_vc (show hy_VT (Value.float 0, 33) from ⟨fun a z => (by cases z), fun x z => (by cases z)⟩) v2) hH hS hl)
end HYS
end
section
/-! THE SMALL MACHINE AGAINST THE JVM: constants, switches, the library's own, answers -/
theorem hy_w_all : (hy_wAt 401 (.static Lib.Math.min.name) && hy_wAt 402 (.code Lib.Math.min.name Lib.Math.min.code 2 (some .int)) && hy_wAt 404 (.static Lib.Math.max.name) && hy_wAt 405 (.code Lib.Math.max.name Lib.Math.max.code 2 (some .int)) && hy_wAt 429 (.static Lib.Math.abs.name) && hy_wAt 430 (.code Lib.Math.abs.name Lib.Math.abs.code 1 (some .int)) && hy_wAt 70 (.initialized "java/lang/Math") && hy_wAt 71 (.initialized "java/lang/System") && hy_wAt 555 (.static arraycopyName) && hy_wAt 556 (.native arraycopyName)) = true := by decide +kernel
def hy_nOK (rt : Nat) (v : Int32) : Prop := (rt = 1 → v = 0 ∨ v = 1) ∧ (rt = 2 → v.toInt8.toInt32 = v) ∧ (rt = 3 → (v.toUInt32 % 65536).toInt32 = v)
theorem hy_cats (G : hy_G) {st : List Vl} (h : Nat.ble st.length 4 = true) : ((st.map (hy_cv G)).map fun v => v.category).sum ≤ 8 := by
  have h4 := Nat.le_of_ble_eq_true h
  have h2 : ∀ (l : List Value), (l.map fun v => v.category).sum ≤ 2 * l.length := by
    intro l
    induction l with
    | nil => simp
    | cons v l ih =>
      have : v.category ≤ 2 := by cases v <;> simp [Value.category]
      simp only [List.map_cons, List.sum_cons, List.length_cons]
      omega
  have := h2 (st.map (hy_cv G))
  rw [List.length_map] at this
  omega
/-- what is asked where a method ends -/
def hy_Rt (p : Program) (l : Launch) (e : Env) (R : Room) (s : State) (m : MethodId) (args : Array Value) (below : List Frame) (meth : Method) (c : Code) (cells slots : Nat) (Q : State → Prop) (y : Nat) (G : hy_G) (r : Vl) (σr : Sg) : Prop :=
  ∀ (H : Heap) (locs : List Loc) (ls : Array Slot) (pc : Nat), hy_HR G σr H → va_S (hy_A G) s.heap H locs →
    (∀ x, r = (.int x, 0) → decode (hy_b y) pc = .ok (.ireturn, 1) → hy_nOK (hy_rt y) x → ((hy_m y).2.2.1 = some .int ∨ (hy_m y).2.2.1 = some .boolean ∨ (hy_m y).2.2.1 = some .byte ∨ (hy_m y).2.2.1 = some .char) → W p l e R s m args below meth c H locs cells slots Q (F0 m pc ls [.int x])) ∧
    (∀ x, r = (.long x, 0) → decode (hy_b y) pc = .ok (.lreturn, 1) → (hy_m y).2.2.1 = some .long → W p l e R s m args below meth c H locs cells slots Q (F0 m pc ls [.long x])) ∧
    (r = (.null, 0) → decode (hy_b y) pc = .ok (.return_, 1) → (hy_m y).2.2.1 = none → W p l e R s m args below meth c H locs cells slots Q (F0 m pc ls []))
section HYS
variable {p : Program} {l : Launch} {e : Env} {R : Room} {s : State} {m : MethodId} {args : Array Value} {below : List Frame} {meth : Method} {c : Code} {cells slots : Nat} {Q : State → Prop} {y : Nat} {G : hy_G} {r : Vl} {σr : Sg} {k : List Vl → List Vl → Sg → Rs} {pc : Nat}
variable {rt : Nat} {dz : Bool} {rc : Nat → List Vl → List Vl → Sg → Rs} {cl : Nat → List Vl → Sg → Rs}
theorem hy_s_bipush {n : Int} {ins : Instr} {len : Nat} (C : hy_Cx p c s m args y) (hd : decode (hy_b y) pc = .ok (ins, len)) (hok : hy_ok y pc (.bipush n) ins len = true) (K : hy_Kt p l e R s m args below meth c cells slots Q y G r σr k (pc + len)) : hy_Kt p l e R s m args below meth c cells slots Q y G r σr (hy_sem rt dz rc cl (.bipush n) k) pc := by
  intro lv st σ H locs ls h v1 v2 hH hS hl
  dsimp only [hy_sem] at h
  obtain ⟨hx, hb, hown, hts⟩ := C
  have hK := K _ _ _ _ _ _ h v1 (hy_vc (hy_VTi _ _) v2) hH hS hl
  simp only [hy_ok, Bool.or_eq_true, decide_eq_true_eq, Prod.mk.injEq, List.any_eq_true, Bool.and_eq_true] at hok
  rcases hok with ((⟨rfl, rfl⟩ | ⟨⟨rfl, rfl⟩, hv⟩) | ⟨⟨rfl, rfl⟩, hv⟩) | ⟨q, hq, ⟨hq1, hq2⟩, hi⟩
  · exact lv_iconst hx hb hd rfl hK
  · exact lv_bipush hx hb hd hv hK
  · exact lv_sipush hx hb hd hv hK
  · have hw := hts _ (hy_wAt_mem (List.all_eq_true.mp hy_ct_ok q hq))
    rw [hq2, hq1] at hw
    rcases hi with ⟨rfl, rfl⟩ | ⟨rfl, rfl⟩
    · exact lv_ldc hx hb hown hw hd hK
    · exact lv_ldcw hx hb hown hw hd hK
theorem hy_s_table {dflt lo hi dflt' : Int} {offs offs' : Array Int} {len : Nat} (hx : p.tables.exec = Jvm.exec) (hb : c.code = hy_b y) (hd : decode (hy_b y) pc = .ok (.tableswitch dflt' lo hi offs', len))
    (h1 : (pc : Int) + dflt' = ((hy_blk y dflt.toNat).1 : Nat)) (h2 : offs'.toList.length = offs.toList.length) (h3 : (offs.toList.length : Int) = hi + 1 - lo) (h4 : ∀ j, j < offs.toList.length → (pc : Int) + offs'.toList.getD j 0 = ((hy_blk y (offs.toList.getD j 0).toNat).1 : Nat))
    (Krc : ∀ b, hy_Kt p l e R s m args below meth c cells slots Q y G r σr (rc b) (hy_blk y b).1) : hy_Kt p l e R s m args below meth c cells slots Q y G r σr (hy_sem rt dz rc cl (.tableswitch dflt lo hi offs) k) pc := by
  intro lv st σ H locs ls h v1 v2 hH hS hl
  dsimp only [hy_sem] at h
  split at h
  · rename_i x q st
    unfold hy_tab at h
    by_cases c1 : x.toInt < lo
    · rw [if_pos c1] at h
      exact lv_tableOut hx hb hd (Or.inl c1) h1 (Krc _ _ _ _ _ _ _ h v1 (hy_vt v2) hH hS hl)
    · rw [if_neg c1] at h
      by_cases c2 : hi < x.toInt
      · have e : offs.toList[(x.toInt - lo).toNat]? = none := List.getElem?_eq_none (by omega)
        rw [e] at h
        exact lv_tableOut hx hb hd (Or.inr c2) h1 (Krc _ _ _ _ _ _ _ h v1 (hy_vt v2) hH hS hl)
      · have hj : (x.toInt - lo).toNat < offs.toList.length := by omega
        have e : offs.toList[(x.toInt - lo).toNat]? = some (offs.toList.getD (x.toInt - lo).toNat 0) := by
          rw [List.getD_eq_getElem?_getD, List.getElem?_eq_getElem hj]; rfl
        have e' : offs'[(x.toInt - lo).toNat]? = some (offs'.toList.getD (x.toInt - lo).toNat 0) := by
          rw [← Array.getElem?_toList, List.getD_eq_getElem?_getD, List.getElem?_eq_getElem (by omega)]; rfl
        rw [e] at h
        exact lv_tableIn hx hb hd c1 c2 e' (h4 _ hj) (Krc _ _ _ _ _ _ _ h v1 (hy_vt v2) hH hS hl)
  · cases h
theorem hy_look_off {x : Int32} {dflt dflt' : Int} (pcv : Int) (tg : Int → Nat) (hdf : pcv + dflt' = (tg dflt : Nat)) : ∀ (ps ps' : List (Int × Int)), ps'.length = ps.length → (∀ q ∈ ps.zip ps', q.1.1 = q.2.1 ∧ -2147483648 ≤ q.1.1 ∧ q.1.1 < 2147483648 ∧ pcv + q.2.2 = (tg q.1.2 : Nat)) →
    ∀ (f : Nat → Rs), ∃ bb : Int, hy_look x ps dflt f = f bb.toNat ∧ pcv + Op.lookupswitch.offset ps' dflt' x.toInt = (tg bb : Nat)
  | [], [], _, _, f => ⟨dflt, rfl, hdf⟩
  | [], _ :: _, h, _, _ => by cases h
  | _ :: _, [], h, _, _ => by cases h
  | a :: ps, b :: ps', h, hz, f => by
    have hab := hz (a, b) (by simp)
    obtain ⟨e1, e2, e3, e4⟩ := hab
    obtain ⟨bb, g1, g2⟩ := hy_look_off (x := x) pcv tg hdf ps ps' (by simpa using h) (fun q hq => hz q (by simp [hq])) f
    have hxe : (x = Int32.ofInt a.1) ↔ x.toInt = b.1 := by
      rw [← e1]
      constructor
      · intro z
        rw [z, Int32.toInt_ofInt]
        exact Int.bmod_eq_of_le (by simpa using e2) (by simpa using e3)
      · intro z
        rw [← z, Int32.ofInt_toInt]
    unfold hy_look
    by_cases c1 : x = Int32.ofInt a.1
    · rw [if_pos c1]
      refine ⟨a.2, rfl, ?_⟩
      have c2 := hxe.mp c1
      obtain ⟨b1, b2⟩ := b
      have this : Op.lookupswitch.offset ((b1, b2) :: ps') dflt' x.toInt = (if b1 = x.toInt then b2 else Op.lookupswitch.offset ps' dflt' x.toInt) := rfl
      rw [this, if_pos c2.symm]
      exact e4
    · rw [if_neg c1]
      refine ⟨bb, g1, ?_⟩
      have c2 := fun z => c1 (hxe.mpr z)
      obtain ⟨b1, b2⟩ := b
      have this : Op.lookupswitch.offset ((b1, b2) :: ps') dflt' x.toInt = (if b1 = x.toInt then b2 else Op.lookupswitch.offset ps' dflt' x.toInt) := rfl
      rw [this, if_neg (fun z => c2 z.symm)]
      exact g2
theorem hy_s_lookup {dflt dflt' : Int} {ps ps' : Array (Int × Int)} {len : Nat} (hx : p.tables.exec = Jvm.exec) (hb : c.code = hy_b y) (hd : decode (hy_b y) pc = .ok (.lookupswitch dflt' ps', len))
    (h1 : (pc : Int) + dflt' = ((hy_blk y dflt.toNat).1 : Nat)) (h2 : (ps'.toList.zip (ps'.toList.drop 1)).all (fun (a, next) => decide (a.1 < next.1)) = true) (h3 : ps'.toList.length = ps.toList.length) (h4 : ∀ q ∈ ps.toList.zip ps'.toList, q.1.1 = q.2.1 ∧ -2147483648 ≤ q.1.1 ∧ q.1.1 < 2147483648 ∧ (pc : Int) + q.2.2 = ((hy_blk y q.1.2.toNat).1 : Nat))
    (Krc : ∀ b, hy_Kt p l e R s m args below meth c cells slots Q y G r σr (rc b) (hy_blk y b).1) : hy_Kt p l e R s m args below meth c cells slots Q y G r σr (hy_sem rt dz rc cl (.lookupswitch dflt ps) k) pc := by
  intro lv st σ H locs ls h v1 v2 hH hS hl
  dsimp only [hy_sem] at h
  split at h
  · rename_i x q st
    obtain ⟨bb, g1, g2⟩ := hy_look_off (x := x) (pc : Int) (fun z => (hy_blk y z.toNat).1) h1 ps.toList ps'.toList h3 h4 (fun b => rc b lv st σ)
    rw [g1] at h
    exact lv_lookup hx hb hd (by simpa using h2) rfl g2 (Krc _ _ _ _ _ _ _ h v1 (hy_vt v2) hH hS hl)
  · cases h
set_option maxRecDepth 4000 in
theorem hy_s_jsr {j : Nat} {q : Nat × Nat × Nat × Nat} (C : hy_Cx p c s m args y) (hU : hy_KU G s) (hml : c.maxLocals = hy_mx y) (hR : dz = true → 1 ≤ R.frames ∧ 64 ≤ R.locals) (hcc : cells ≤ R.cells) (hss : slots ≤ R.slots) (hq : q ∈ hy_SP) (hq1 : q.1 = hy_own y) (hq2 : q.2.2.1 = j) (hd : decode (hy_b y) pc = .ok (.invokestatic q.2.1, 3)) (K : hy_Kt p l e R s m args below meth c cells slots Q y G r σr k (pc + 3)) : hy_Kt p l e R s m args below meth c cells slots Q y G r σr (hy_sem rt dz rc cl (.invokedynamic j) k) pc := by
  intro lv st σ H locs ls h v1 v2 hH hS hl
  dsimp only [hy_sem] at h
  obtain ⟨hx, hb, hown, hts⟩ := C
  have hw := hts _ (hy_wAt_mem (List.all_eq_true.mp hy_sp_ok q hq))
  rw [hq2] at hw
  have hal := hy_w_all
  simp only [Bool.and_eq_true] at hal
  obtain ⟨⟨⟨⟨⟨⟨⟨⟨⟨w1, w2⟩, w3⟩, w4⟩, w5⟩, w6⟩, w7⟩, w8⟩, w9⟩, w10⟩ := hal
  have ht : ∀ {i : Nat} {w : Jvm.Cond}, hy_wAt i w = true → w.before args s = true := fun z => hts _ (hy_wAt_mem z)
  have hown' : s.vm.findClass (hy_cn q.1) = some m.cls := by rw [hq1]; exact hown
  have hmls : c.maxLocals = ls.size := hml.trans hl.2.1.symm
  cases hdz : dz with
  | false => rw [hdz] at h; cases h
  | true =>
    obtain ⟨hR1, hR2⟩ := hR hdz
    rw [hdz] at h
    dsimp only [cond_true] at h
    clear hq2
    revert h hw
    match j with
    | 0 =>
      intro h hw
      replace h : (match (generalizing := false) st with | (.int y, _) :: (.int x, _) :: st => bif Nat.ble st.length 4 then k lv ((.int (if x < y then y else x), 0) :: st) σ else none | _ => none) = some (r, σr) := h
      split at h
      · rename_i y' q1 x' q2 st'
        cases hbl : Nat.ble st'.length 4 with
        | false => rw [hbl] at h; cases h
        | true =>
          rw [hbl] at h
          have hcat := hy_cats G hbl
          exact va_mmax hx hb hmls hown' hw (ht w3) (ht w7) (ht w4) hR1 (by omega) hcc hss hd (K _ _ _ _ _ _ h v1 (hy_vc (hy_VTi _ _) (hy_vt (hy_vt v2))) hH hS hl)
      · cases h
    | 1 =>
      intro h hw
      replace h : (match (generalizing := false) st with | (.int y, _) :: (.int x, _) :: st => bif Nat.ble st.length 4 then k lv ((.int (if y < x then y else x), 0) :: st) σ else none | _ => none) = some (r, σr) := h
      split at h
      · rename_i y' q1 x' q2 st'
        cases hbl : Nat.ble st'.length 4 with
        | false => rw [hbl] at h; cases h
        | true =>
          rw [hbl] at h
          have hcat := hy_cats G hbl
          exact va_mmin hx hb hmls hown' hw (ht w1) (ht w7) (ht w2) hR1 (by omega) hcc hss hd (K _ _ _ _ _ _ h v1 (hy_vc (hy_VTi _ _) (hy_vt (hy_vt v2))) hH hS hl)
      · cases h
    | 2 =>
      intro h hw
      replace h : (match (generalizing := false) st with | (.int x, _) :: st => bif Nat.ble st.length 4 then k lv ((.int (if 0 ≤ x then x else 0 - x), 0) :: st) σ else none | _ => none) = some (r, σr) := h
      split at h
      · rename_i x' q2 st'
        cases hbl : Nat.ble st'.length 4 with
        | false => rw [hbl] at h; cases h
        | true =>
          rw [hbl] at h
          have hcat := hy_cats G hbl
          exact va_mabs hx hb hmls hown' hw (ht w5) (ht w7) (ht w6) hR1 (by omega) hcc hss hd (K _ _ _ _ _ _ h v1 (hy_vc (hy_VTi _ _) (hy_vt v2)) hH hS hl)
      · cases h
    | 3 =>
      intro h hw
      replace h : (match (generalizing := false) st with | (.int n, _) :: (.int dp, _) :: (.ref a1, k1) :: (.int sp, _) :: (.ref a0, k0) :: st => bif Nat.ble st.length 4 then (match hy_al k0, hy_al k1 with | some (0, n0), some (0, n1) => if (0 ≤ sp.toInt ∧ 0 ≤ dp.toInt ∧ 0 ≤ n.toInt) ∧ sp.toInt + n.toInt ≤ n0 ∧ dp.toInt + n.toInt ≤ n1 then k lv st (hy_cpS σ a0 a1 sp dp n) else none | _, _ => none) else none | _ => none) = some (r, σr) := h
      split at h
      · rename_i n' q1 dp q2 a1 k1 sp q3 a0 k0 st'
        cases hbl : Nat.ble st'.length 4 with
        | false => rw [hbl] at h; cases h
        | true =>
          rw [hbl] at h
          dsimp only [cond_true] at h
          have hcat := hy_cats G hbl
          have hk1 : hy_ka a1 = k1 := (hy_v0 (hy_vt (hy_vt v2))).1 a1 rfl
          have hk0 : hy_ka a0 = k0 := (hy_v0 (hy_vt (hy_vt (hy_vt (hy_vt v2))))).1 a0 rfl
          split at h
          · rename_i n0 n1 e0 e1
            split at h
            · rename_i hcond
              obtain ⟨⟨b1, b2, b3⟩, b4, b5⟩ := hcond
              have i0 := hy_al_in e0
              have i1 := hy_al_in e1
              have ha0 : a0 < 162 := hy_ka_lt (by omega) (by omega)
              have ha1 : a1 < 162 := hy_ka_lt (by omega) (by omega)
              have f0 := hy_wl_get G σ ha0
              rw [hy_cell_arr (by rw [hk0]; exact e0)] at f0
              have f1 := hy_wl_get G σ ha1
              rw [hy_cell_arr (by rw [hk1]; exact e1)] at f1
              have nn : ∀ z : Int32, 0 ≤ z.toInt → ¬ z < 0 ∧ (z.toNatClampNeg : Int) = z.toInt := by
                intro z hz
                refine ⟨fun w => ?_, ?_⟩
                · rw [Int32.lt_iff_toInt_lt, Int32.toInt_zero] at w; omega
                · show ((z.toInt.toNat : Nat) : Int) = z.toInt
                  omega
              obtain ⟨p1, p2⟩ := nn sp b1
              obtain ⟨p3, p4⟩ := nn dp b2
              obtain ⟨p5, p6⟩ := nn n' b3
              have hnw : nativeFrameWords "java/lang/System" "arraycopy" 5 = 7 := by decide
              refine va_copyi (D := hy_D G) hx hb hmls hown' hw (ht w10) (ht w9) (ht w8) hU.1 hH.1 hH.2.1 hS a0 a1 0 0 f0 f1 rfl rfl rfl p1 p3 p5 (by omega) (by omega) (fun i hi => rfl) hR1 (by rw [hnw]; omega) hd (fun H1 locs1 hP hD hS1 => ?_)
              refine K _ _ _ _ _ _ h v1 (hy_vt (hy_vt (hy_vt (hy_vt (hy_vt v2))))) (hy_HR_set ha1 ?_ (fun j hj => by simp [hy_cpS, hj]) hP hD hH.2.2) hS1 hl
              rw [hy_cell_arr (so := 0) (n := n1) (by rw [hk1]; exact e1)]
              simp [hy_cpS, hy_ix]
            · cases h
          · cases h
      · cases h
    | _ + 4 =>
      intro h hw
      cases h
theorem hy_s_ireturn (hd : decode (hy_b y) pc = .ok (.ireturn, 1)) (hty : (hy_m y).2.2.1 = some .int ∨ (hy_m y).2.2.1 = some .boolean ∨ (hy_m y).2.2.1 = some .byte ∨ (hy_m y).2.2.1 = some .char) (hrt : rt = hy_rt y) (Z : hy_Rt p l e R s m args below meth c cells slots Q y G r σr) : hy_Kt p l e R s m args below meth c cells slots Q y G r σr (hy_sem rt dz rc cl .ireturn k) pc := by
  intro lv st σ H locs ls h v1 v2 hH hS hl
  dsimp only [hy_sem] at h
  subst hrt
  split at h
  · rename_i x q
    have key : ((Value.int x, 0), σ) = (r, σr) → hy_nOK (hy_rt y) x → W p l e R s m args below meth c H locs cells slots Q (F0 m pc ls [.int x]) := by
      intro e hn
      cases e
      exact (Z H locs ls pc hH hS).1 x rfl hd hn hty
    split at h
    · rename_i e1
      split at h
      · rename_i z; exact key (Option.some.inj h) ⟨fun _ => z, fun w => (by rw [e1] at w; cases w), fun w => (by rw [e1] at w; cases w)⟩
      · cases h
    · rename_i e1
      split at h
      · rename_i z; exact key (Option.some.inj h) ⟨fun w => (by rw [e1] at w; cases w), fun _ => z, fun w => (by rw [e1] at w; cases w)⟩
      · cases h
    · rename_i e1
      split at h
      · rename_i z; exact key (Option.some.inj h) ⟨fun w => (by rw [e1] at w; cases w), fun w => (by rw [e1] at w; cases w), fun _ => z⟩
      · cases h
    · rename_i e1 e2 e3
      exact key (Option.some.inj h) ⟨fun w => (e1 w).elim, fun w => (e2 w).elim, fun w => (e3 w).elim⟩
  · cases h
theorem hy_s_lreturn (hd : decode (hy_b y) pc = .ok (.lreturn, 1)) (hty : (hy_m y).2.2.1 = some .long) (Z : hy_Rt p l e R s m args below meth c cells slots Q y G r σr) : hy_Kt p l e R s m args below meth c cells slots Q y G r σr (hy_sem rt dz rc cl .lreturn k) pc := by
  intro lv st σ H locs ls h v1 v2 hH hS hl
  dsimp only [hy_sem] at h
  split at h
  · rename_i x q
    cases h
    exact (Z H locs ls pc hH hS).2.1 x rfl hd hty
  · cases h
theorem hy_s_return (hd : decode (hy_b y) pc = .ok (.return_, 1)) (hty : (hy_m y).2.2.1 = none) (Z : hy_Rt p l e R s m args below meth c cells slots Q y G r σr) : hy_Kt p l e R s m args below meth c cells slots Q y G r σr (hy_sem rt dz rc cl .return_ k) pc := by
  intro lv st σ H locs ls h v1 v2 hH hS hl
  dsimp only [hy_sem] at h
  split at h
  · cases h
    exact (Z H locs ls pc hH hS).2.2 rfl hd hty
  · cases h
end HYS
end
section
/-! THE SMALL MACHINE AGAINST THE JVM: calls, and the whole -/
def hy_rm (d : Nat) : Room := { frames := d, cells := 0, slots := 0, locals := 64 * d }
def hy_Qc (G : hy_G) (r : Vl) (σr : Sg) : Array Value → State → Outcome → State → Prop := match r.1 with
  | .int x => va_Qi (S := Unit) (fun v _ => v = x) (fun _ t => hy_HR G σr t.heap) (hy_A G)
  | .long x => va_Ql (S := Unit) (fun v _ => v = x) (fun _ t => hy_HR G σr t.heap) (hy_A G)
  | .null => va_Qv (S := Unit) (fun _ => True) (fun _ t => hy_HR G σr t.heap) (hy_A G)
  | _ => fun _ _ _ _ => False
def hy_Pc (G : hy_G) (as : List Vl) (σ : Sg) : Array Value → State → Prop := va_Pc (as.map (hy_cv G)) (fun U => hy_HR G σ U.heap ∧ hy_KU G U)
def hy_Mt (l : Launch) (G : hy_G) (d q : Nat) (as : List Vl) (σ : Sg) (r : Vl) (σr : Sg) : Prop := Met l (hy_m q).1 (hy_ws q) (hy_rm d) (hy_Pc G as σ) (hy_Qc G r σr) 0 0 (hy_A G)
theorem hy_blind (G : hy_G) (as : List Vl) (σ : Sg) : FrameBlind (hy_Pc G as σ) := by
  intro a U g mk h
  obtain ⟨h0, hH, h1, h2, h3, h4, h5, h6, h7, h8, h9, h10, h11⟩ := h
  refine ⟨h0, hH, ?_⟩
  have al : U.vm.Alike (U.calling g mk a).vm := Vm.Alike.refl U.vm
  exact ⟨va_K.moved (u := U) (U := U.calling g mk a) al h1, h2, h3, h4, h5, va_X.moved (u := U) (U := U.calling g mk a) al h6, vk_S.moved (u := U) (U := U.calling g mk a) al h7, fun q hq => vk_R.same (u := U) rfl (h8 q hq), fun q hq hn => va_Nw.same (u := U) rfl rfl (h9 q hq hn), va_Z.moved (u := U) (U := U.calling g mk a) al h10, va_Z.moved (u := U) (U := U.calling g mk a) al h11⟩
theorem hy_catw (G : hy_G) (l : List Vl) (h : Nat.ble (hy_wds l) 8 = true) : ((l.map (hy_cv G)).map fun v => v.category).sum ≤ 8 := by
  have e : ∀ l : List Vl, ((l.map (hy_cv G)).map fun v => v.category).sum = hy_wds l := by
    intro l
    induction l with
    | nil => rfl
    | cons v l ih =>
      simp only [List.map_cons, List.sum_cons, ih, hy_wds]
      rw [hy_cv_cat]
      obtain ⟨w, q⟩ := v
      cases w <;> rfl
  rw [e]
  exact Nat.le_of_ble_eq_true h
theorem hy_mx_ok : (List.range 230).all (fun y => Nat.ble (hy_mx y) 45) = true := by decide +kernel
theorem hy_ml_ok2 : hy_ML.all (fun q => Nat.beq (q.2.2.1 % 2) 1 || hy_wAt q.2.2.2 (.methodLink (hy_cn q.1) q.2.1 (hy_m (q.2.2.1 / 2)).1)) = true := by decide +kernel
theorem hy_code_in {z : Nat} (h0 : 0 < z) (h : z < 230) : Jvm.Cond.code (hy_m z).1 (hy_b z) (hy_mx z) (hy_m z).2.2.1 ∈ hy_TB := by
  have h1 := hy_all1 hy_cdOK_all h
  rw [Bool.or_eq_true] at h1
  rcases h1 with h1 | h1
  · have := hy_beq h1; omega
  · obtain ⟨k, rfl⟩ : ∃ k, z = k + 1 := ⟨z - 1, by omega⟩
    unfold hy_cdOK at h1
    split at h1
    · rename_i n b mx rt he
      obtain ⟨e1, e2, e3⟩ := of_decide_eq_true h1
      have hb : hy_b (k + 1) = b := by
        unfold hy_b
        simp only [he]
      rw [hb, ← e1, ← e3, show hy_mx (k + 1) = mx from e2.symm]
      exact List.mem_filter.mpr ⟨List.mem_of_getElem? he, rfl⟩
    · cases h1
theorem hy_tick {f : Nat → Bool} {z : Nat} (h : (List.range 230).all (fun y => Nat.beq y 0 || f y) = true) (h0 : 0 < z) (hz : z < 230) : f z = true := by
  have h1 := hy_all1 h hz
  rw [Bool.or_eq_true] at h1
  rcases h1 with h1 | h1
  · have := hy_beq h1; omega
  · exact h1
theorem hy_ws_good {z : Nat} (h0 : 0 < z) (hz : z < 230) {s : State} {args : Array Value} (hts : ∀ w ∈ hy_TB, w.before args s = true) : ∀ w ∈ hy_ws z, ∀ (a' : Array Value) (U : State), s.WarmedH U.vm → w.before a' U = true := by
  intro w hw a' U hW
  have hin : w ∈ hy_TB := (List.mem_cons.mp hw).elim (fun e => e ▸ hy_code_in h0 hz) id
  exact word_at hW (good_of_word (hy_goodTB hin)) (hts w hin)
section HYS
variable {p : Program} {l : Launch} {e : Env} {R : Room} {s : State} {m : MethodId} {args : Array Value} {below : List Frame} {meth : Method} {c : Code} {cells slots : Nat} {Q : State → Prop} {y : Nat} {G : hy_G} {r : Vl} {σr : Sg} {k : List Vl → List Vl → Sg → Rs} {pc : Nat}
variable {rt : Nat} {dz : Bool} {rc : Nat → List Vl → List Vl → Sg → Rs} {cl : Nat → List Vl → Sg → Rs}
/-- behind a call -/
theorem hy_after {lv st rest : List Vl} {H : Heap} {locs : List Loc} {ls : Array Slot} {r' : Vl} {σ' : Sg} {a : Array Value} (hs : s.heap.size ≤ H.size ∨ True)
    (hr : va_Run p l e R s m args below meth c H locs cells slots 0 0 (F0 m pc ls (st.map (hy_cv G))) (rest.map (hy_cv G)) (hy_Qc G r' σ' a) (hy_A G)) (h : k lv (hy_push r'.1 rest) σ' = some (r, σr)) (K : hy_Kt p l e R s m args below meth c cells slots Q y G r σr k (pc + 3))
    (v1 : ∀ v ∈ lv, hy_VT v) (v2 : ∀ v ∈ rest, hy_VT v) (hS : va_S (hy_A G) s.heap H locs) (hl : hy_LV G ls (hy_mx y) lv) : W p l e R s m args below meth c H locs cells slots Q (F0 m pc ls (st.map (hy_cv G))) := by
  obtain ⟨rv, rq⟩ := r'
  cases rv with
  | int x =>
    refine va_calli (S := Unit) (post := fun v _ => v = x) (B := fun _ t => hy_HR G σ' t.heap) (A1 := hy_A G) (a := a) hr hS (fun _ _ h => h) (fun _ h => h) (fun rr u t H1 locs1 ht hvm hp hB hz hk hS1 => ?_)
    subst hp
    rw [ht] at hB
    exact K _ _ _ _ _ _ h v1 (hy_vc (hy_VTi _ _) v2) hB hS1 hl
  | long x =>
    refine va_calll (S := Unit) (post := fun v _ => v = x) (B := fun _ t => hy_HR G σ' t.heap) (A1 := hy_A G) (a := a) hr hS (fun _ _ h => h) (fun _ h => h) (fun rr u t H1 locs1 ht hvm hp hB hz hk hS1 => ?_)
    subst hp
    rw [ht] at hB
    exact K _ _ _ _ _ _ h v1 (hy_vc (hy_VTl _ _) v2) hB hS1 hl
  | null =>
    refine va_callv (S := Unit) (post := fun _ => True) (B := fun _ t => hy_HR G σ' t.heap) (A1 := hy_A G) (a := a) hr hS (fun _ _ h => h) (fun _ h => h) (fun u t H1 locs1 ht hvm hp hB hz hk hS1 => ?_)
    rw [ht] at hB
    exact K _ _ _ _ _ _ h v1 v2 hB hS1 hl
  | _ =>
    intro T hT X
    obtain ⟨v, st₀, t, T', L, h0, X', hL, e1, e2, hq, st⟩ := hr T hT X
    exact hq.elim
theorem hy_callB {z d d' : Nat} {q : Nat × Nat × Nat × Nat} (C : hy_Cx p c s m args y) (h0 : 0 < z) (hz : z < 230) (hdd : d' + 1 ≤ d) (hf : d ≤ R.frames) (hlo : 64 * d ≤ R.locals) :
    ((hy_rm d').cells = 0 ∧ (hy_rm d').slots = 0 ∧ (hy_rm d').frames + 1 ≤ R.frames ∧ 8 + (hy_mx z + 11) + (hy_rm d').locals ≤ R.locals ∧ (∀ w ∈ hy_ws z, ∀ (a' : Array Value) (U : State), s.WarmedH U.vm → w.before a' U = true) ∧ Cond.code (hy_m z).1 (hy_b z) (hy_mx z) (hy_m z).2.2.1 ∈ hy_ws z) ∧
    (Cond.code (hy_m z).1 (hy_b z) (hy_mx z) (hy_m z).2.2.1).before args s = true ∧ (Cond.initialized (hy_m z).1.cls).before args s = true ∧ ((hy_m z).1.cls ≠ "java/lang/invoke/MethodHandle" ∧ (hy_m z).1.cls ≠ "java/lang/invoke/VarHandle") ∧ (∀ sig, parseMethodDescriptor (hy_m z).1.desc = some sig → (hy_na z - (bif hy_isSt.getD z false then 0 else 1)) = sig.parameters.length) := by
  obtain ⟨hx, hb, hown, hts⟩ := C
  have hmx := Nat.le_of_ble_eq_true (hy_all1 hy_mx_ok hz)
  refine ⟨⟨rfl, rfl, ?_, ?_, hy_ws_good h0 hz hts, List.mem_cons_self⟩, hts _ (hy_code_in h0 hz), hts _ (hy_wAt_mem (hy_tick hy_mp1_all h0 hz)), ?_, ?_⟩
  · show d' + 1 ≤ R.frames; omega
  · show 8 + (hy_mx z + 11) + 64 * d' ≤ R.locals; omega
  · have h4 := hy_tick hy_mp4_all h0 hz
    unfold hy_mp4 at h4
    rw [Bool.and_eq_true] at h4
    exact of_decide_eq_true h4.2
  · intro sig hsig
    have h5 := of_decide_eq_true (hy_tick hy_mp5_all h0 hz)
    rw [hsig] at h5
    exact (Option.some.inj h5).symm
theorem hy_s_virt {z d : Nat} {q : Nat × Nat × Nat × Nat} (C : hy_Cx p c s m args y) (hU : hy_KU G s) (hml : c.maxLocals = hy_mx y) (hf : d ≤ R.frames) (hlo : 64 * d ≤ R.locals) (hcc : cells ≤ R.cells) (hss : slots ≤ R.slots) (h0 : 0 < z) (hz : z < 230) (hst : hy_isSt.getD z false = false)
    (hq : q ∈ hy_ML) (hq1 : q.1 = hy_own y) (hq2 : q.2.2.1 = 2 * z) (hd : decode (hy_b y) pc = .ok (.invokevirtual q.2.1, 3))
    (Kcl : ∀ (as : List Vl) (σ : Sg) (r' : Vl) (σ' : Sg), (∀ v ∈ as, hy_VT v) → cl z as σ = some (r', σ') → ∃ d', d' + 1 ≤ d ∧ hy_Mt l G d' z as σ r' σ')
    (K : hy_Kt p l e R s m args below meth c cells slots Q y G r σr k (pc + 3)) : hy_Kt p l e R s m args below meth c cells slots Q y G r σr (hy_sem rt dz rc cl (.invokevirtual z) k) pc := by
  intro lv st σ H locs ls h v1 v2 hH hS hl
  dsimp only [hy_sem] at h
  cases hb1 : (Nat.ble (hy_na z) st.length && Nat.ble (hy_wds (st.drop (hy_na z))) 8) with
  | false => rw [hb1] at h; cases h
  | true =>
    rw [hb1] at h
    rw [Bool.and_eq_true] at hb1
    dsimp only [cond_true] at h
    have hsplit : st = st.take (hy_na z) ++ st.drop (hy_na z) := (List.take_append_drop _ _).symm
    split at h
    · rename_i a kd as hrev
      cases hb2 : ((Nat.beq kd (hy_own z) && (Nat.ble 1 kd && Nat.ble kd 9)) || (Nat.beq kd 31 && Nat.beq (hy_own z) 10)) with
      | false => rw [hb2] at h; cases h
      | true =>
        rw [hb2] at h
        dsimp only [cond_true] at h
        obtain ⟨⟨r', σ'⟩, hcl, h⟩ := Option.bind_eq_some_iff.mp h
        dsimp only at h
        have hvas : ∀ v ∈ (Value.ref a, kd) :: as, hy_VT v := fun v hv => v2 v (List.mem_of_mem_take (List.mem_reverse.mp (hrev ▸ hv)))
        have hvr : ∀ v ∈ st.drop (hy_na z), hy_VT v := fun v hv => v2 v (List.mem_of_mem_drop hv)
        obtain ⟨d', hdd, hM⟩ := Kcl _ _ _ _ hvas hcl
        have CB := hy_callB (q := q) C h0 hz hdd hf hlo
        have hKU := hU
        obtain ⟨hx, hb, hown, hts⟩ := C
        obtain ⟨⟨b1, b2, b3, b4, b5, b6⟩, b7, b8, b9, b10⟩ := CB
        rw [hst] at b10
        have hlk : (Cond.methodLink (hy_cn q.1) q.2.1 (hy_m z).1).before args s = true := by
          have h2 := List.all_eq_true.mp hy_ml_ok2 q hq
          rw [Bool.or_eq_true] at h2
          rcases h2 with h2 | h2
          · have := hy_beq h2; omega
          · rw [show q.2.2.1 / 2 = z by omega] at h2
            exact hts _ (hy_wAt_mem h2)
        have hmp2 := hy_tick hy_mp2_all h0 hz
        unfold hy_mp2 at hmp2
        rw [hst] at hmp2
        dsimp only [cond_false] at hmp2
        rw [Bool.and_eq_true] at hmp2
        have hcls := of_decide_eq_true (hy_tick hy_mp3_all h0 hz)
        have hrecv : ∃ cellB : Cell, H[hy_adr G a]? = some cellB ∧ cellB.vm.isStatics = false ∧ s.vm.findClass (hy_m z).1.cls = some cellB.cls := by
          rw [← hcls]
          have hka : hy_ka a = kd := (hvas _ List.mem_cons_self).1 a rfl
          rw [Bool.or_eq_true, Bool.and_eq_true, Bool.and_eq_true, Bool.and_eq_true] at hb2
          rcases hb2 with ⟨hb2, hb21, hb22⟩ | ⟨hb2, hb3⟩
          · have e1 := hy_beq hb2
            have hk9 : 1 ≤ kd ∧ kd ≤ 9 := ⟨Nat.le_of_ble_eq_true hb21, Nat.le_of_ble_eq_true hb22⟩
            have ha : a < 162 := hy_ka_lt (by omega) (by omega)
            have he := hy_wl_get G σ ha
            rw [hy_cell_obj hka hk9.1 hk9.2] at he
            have := va_recv hU.1 hH.1 (hy_clk hk9.1 hk9.2) he
            rw [← show hy_own z = (hy_m z).2.2.2.2 from rfl, ← e1]
            exact this
          · obtain ⟨i, hi, rfl⟩ := hy_ka_str (hka.trans (hy_beq hb2))
            obtain ⟨-, -, -, -, -, -, hstr, -⟩ := hU
            have := vk_recv hstr hi hS
            rw [← show hy_own z = (hy_m z).2.2.2.2 from rfl, hy_beq hb3]
            exact this
        have hstk : st.map (hy_cv G) = (as.map (hy_cv G)).reverse ++ Value.ref (hy_adr G a) :: (st.drop (hy_na z)).map (hy_cv G) := by
          have e1 : st.take (hy_na z) = ((Value.ref a, kd) :: as).reverse := by rw [← hrev, List.reverse_reverse]
          conv => lhs; rw [hsplit, e1]
          simp [hy_cv]
        have hlen : (as.map (hy_cv G)).length = hy_na z - 1 := by
          have e1 : (st.take (hy_na z)).length = as.length + 1 := by
            rw [← List.length_reverse, hrev]; rfl
          rw [List.length_take, Nat.min_eq_left (Nat.le_of_ble_eq_true hb1.1)] at e1
          rw [List.length_map]
          omega
        have hcat := hy_catw G (st.drop (hy_na z)) hb1.2
        have hrun : va_Run p l e R s m args below meth c H locs cells slots 0 0 (F0 m pc ls (st.map (hy_cv G))) ((st.drop (hy_na z)).map (hy_cv G)) (hy_Qc G r' σ' (Value.ref (hy_adr G a) :: as.map (hy_cv G)).toArray) (hy_A G) :=
          va_runV (own := hy_cn q.1) (C := (hy_m z).1.cls) ⟨hx, hb, hml, by rw [hq1]; exact hown, hts⟩ hM ⟨⟨b1, b2, b3, b4, b5, b6, b7, b8, b9, b10, hlk⟩, hts _ (hy_wAt_mem hmp2.1), hts _ (hy_wAt_mem hmp2.2)⟩
            ⟨hy_blind G _ _, hrecv, fun U hUH hW => ⟨rfl, by rw [hUH]; exact hH, hy_KU_moved hKU hS hUH hW⟩⟩ rfl hlen hl.2.1 hstk (lv_room hcat) hd ⟨by omega, by omega⟩
        exact hy_after (Or.inr trivial) hrun h K v1 hvr hS hl
    · cases h
theorem hy_s_stat {z d : Nat} {q : Nat × Nat × Nat × Nat} (C : hy_Cx p c s m args y) (hU : hy_KU G s) (hml : c.maxLocals = hy_mx y) (hf : d ≤ R.frames) (hlo : 64 * d ≤ R.locals) (hcc : cells ≤ R.cells) (hss : slots ≤ R.slots) (h0 : 0 < z) (hz : z < 230) (hst : hy_isSt.getD z false = true)
    (hq : q ∈ hy_ML) (hq1 : q.1 = hy_own y) (hq2 : q.2.2.1 / 2 = z) (hd : decode (hy_b y) pc = .ok (.invokestatic q.2.1, 3))
    (Kcl : ∀ (as : List Vl) (σ : Sg) (r' : Vl) (σ' : Sg), (∀ v ∈ as, hy_VT v) → cl z as σ = some (r', σ') → ∃ d', d' + 1 ≤ d ∧ hy_Mt l G d' z as σ r' σ')
    (K : hy_Kt p l e R s m args below meth c cells slots Q y G r σr k (pc + 3)) : hy_Kt p l e R s m args below meth c cells slots Q y G r σr (hy_sem rt dz rc cl (.invokestatic z) k) pc := by
  intro lv st σ H locs ls h v1 v2 hH hS hl
  dsimp only [hy_sem] at h
  cases hb1 : (Nat.ble (hy_na z) st.length && Nat.ble (hy_wds (st.drop (hy_na z))) 8) with
  | false => rw [hb1] at h; cases h
  | true =>
    rw [hb1] at h
    rw [Bool.and_eq_true] at hb1
    dsimp only [cond_true] at h
    have hsplit : st = st.take (hy_na z) ++ st.drop (hy_na z) := (List.take_append_drop _ _).symm
    obtain ⟨⟨r', σ'⟩, hcl, h⟩ := Option.bind_eq_some_iff.mp h
    dsimp only at h
    have hvas : ∀ v ∈ (st.take (hy_na z)).reverse, hy_VT v := fun v hv => v2 v (List.mem_of_mem_take (List.mem_reverse.mp hv))
    have hvr : ∀ v ∈ st.drop (hy_na z), hy_VT v := fun v hv => v2 v (List.mem_of_mem_drop hv)
    obtain ⟨d', hdd, hM⟩ := Kcl _ _ _ _ hvas hcl
    have CB := hy_callB (q := q) C h0 hz hdd hf hlo
    have hKU := hU
    obtain ⟨hx, hb, hown, hts⟩ := C
    obtain ⟨⟨b1, b2, b3, b4, b5, b6⟩, b7, b8, b9, b10⟩ := CB
    rw [hst] at b10
    have hmp2 := hy_tick hy_mp2_all h0 hz
    unfold hy_mp2 at hmp2
    rw [hst] at hmp2
    dsimp only [cond_true] at hmp2
    have hstk : st.map (hy_cv G) = ((st.take (hy_na z)).reverse.map (hy_cv G)).reverse ++ (st.drop (hy_na z)).map (hy_cv G) := by
      rw [List.map_reverse, List.reverse_reverse, ← List.map_append, ← hsplit]
    have hlen : ((st.take (hy_na z)).reverse.map (hy_cv G)).length = hy_na z - 0 := by
      rw [List.length_map, List.length_reverse, List.length_take, Nat.min_eq_left (Nat.le_of_ble_eq_true hb1.1), Nat.sub_zero]
    have hcat := hy_catw G (st.drop (hy_na z)) hb1.2
    have hpre : PreS s H (hy_Pc G (st.take (hy_na z)).reverse σ) ((st.take (hy_na z)).reverse.map (hy_cv G)) := ⟨hy_blind G _ _, fun U hUH hW => ⟨rfl, by rw [hUH]; exact hH, hy_KU_moved hKU hS hUH hW⟩⟩
    have hown' : s.vm.findClass (hy_cn q.1) = some m.cls := by rw [hq1]; exact hown
    have hrun : va_Run p l e R s m args below meth c H locs cells slots 0 0 (F0 m pc ls (st.map (hy_cv G))) ((st.drop (hy_na z)).map (hy_cv G)) (hy_Qc G r' σ' ((st.take (hy_na z)).reverse.map (hy_cv G)).toArray) (hy_A G) := by
      have h2 := List.all_eq_true.mp hy_ml_ok2 q hq
      rw [Bool.or_eq_true] at h2
      cases hn : Nat.beq (q.2.2.1 % 2) 1 with
      | false =>
        rw [hn] at h2
        have h3 := h2.resolve_left (fun z => by cases z)
        rw [hq2] at h3
        exact va_runS (own := hy_cn q.1) ⟨hx, hb, hml, hown', hts⟩ hM ⟨⟨b1, b2, b3, b4, b5, b6, b7, b8, b9, b10, hts _ (hy_wAt_mem h3)⟩, hts _ (hy_wAt_mem hmp2)⟩ hpre rfl hlen hl.2.1 hstk (lv_room hcat) hd ⟨by omega, by omega⟩
      | true =>
        have hnw := hU.2.2.2.2.2.2.2.2.1 q hq (hy_beq hn)
        rw [hq2] at hnw
        exact va_runSN (own := hy_cn q.1) (host := "HayBoard") ⟨hx, hb, hml, hown', hts⟩ hM ⟨⟨⟨b1, b2, b3, b4, b5, b6⟩, b7, b8, b9, b10, va_Nw.use rfl hnw⟩, hts _ (hy_wAt_mem hmp2), trivial⟩ hpre rfl hlen hl.2.1 hstk (lv_room hcat) hd ⟨by omega, by omega⟩
    exact hy_after (Or.inr trivial) hrun h K v1 hvr hS hl
end HYS
end
section
/-! THE SMALL MACHINE AGAINST THE JVM: the induction; written by wip/gen/gen9.py -/
theorem hy_at_spec {y pc pc' : Nat} {op : Instr} (hg : ∀ b, op ≠ .goto_w b) (h : hy_at y pc op = some pc') : ∃ ins len, decode (hy_b y) pc = .ok (ins, len) ∧ hy_ok y pc op ins len = true ∧ pc' = pc + len := by
  unfold hy_at at h
  split at h
  · rename_i b; exact absurd rfl (hg b)
  · split at h
    · rename_i ins len hd
      cases hk : hy_ok y pc op ins len with
      | false => rw [hk] at h; cases h
      | true => rw [hk] at h; exact ⟨ins, len, hd, hk, (Option.some.inj h).symm⟩
    · cases h
theorem hy_pair {a b : Instr} {n k : Nat} (h : decide ((a, n) = (b, k)) = true) : a = b ∧ n = k := by
  have := of_decide_eq_true h
  exact ⟨congrArg Prod.fst this, congrArg Prod.snd this⟩
section HYS
variable {p : Program} {l : Launch} {e : Env} {R : Room} {s : State} {m : MethodId} {args : Array Value} {below : List Frame} {meth : Method} {c : Code} {cells slots : Nat} {Q : State → Prop} {y : Nat} {G : hy_G} {r : Vl} {σr : Sg} {k : List Vl → List Vl → Sg → Rs} {pc : Nat}
variable {rt : Nat} {dz : Bool} {rc : Nat → List Vl → List Vl → Sg → Rs} {cl : Nat → List Vl → Sg → Rs}
theorem hy_dead {k : List Vl → List Vl → Sg → Rs} (h : ∀ lv st σ, k lv st σ = none) : hy_Kt p l e R s m args below meth c cells slots Q y G r σr k pc := fun lv st σ H locs ls hk => by rw [h] at hk; cases hk
set_option maxHeartbeats 4000000 in
theorem hy_op_snd {d pc' : Nat} {op : Instr} (C : hy_Cx p c s m args y) (hU : hy_KU G s) (hml : c.maxLocals = hy_mx y) (hf : d ≤ R.frames) (hlo : 64 * d ≤ R.locals) (hcc : cells ≤ R.cells) (hss : slots ≤ R.slots) (hrt : rt = hy_rt y) (hdz : dz = Nat.blt 0 d) (Z : hy_Rt p l e R s m args below meth c cells slots Q y G r σr) (hat : hy_at y pc op = some pc')
    (Krc : ∀ b, hy_Kt p l e R s m args below meth c cells slots Q y G r σr (rc b) (hy_blk y b).1)
    (Kcl : ∀ (z : Nat) (as : List Vl) (σ : Sg) (r' : Vl) (σ' : Sg), 0 < z → z < 230 → (∀ v ∈ as, hy_VT v) → cl z as σ = some (r', σ') → ∃ d', d' + 1 ≤ d ∧ hy_Mt l G d' z as σ r' σ')
    (K : hy_Kt p l e R s m args below meth c cells slots Q y G r σr k pc') : hy_Kt p l e R s m args below meth c cells slots Q y G r σr (hy_sem rt dz rc cl op k) pc := by
  by_cases hg : ∃ b, op = .goto_w b
  · obtain ⟨b, rfl⟩ := hg
    unfold hy_at at hat
    dsimp only at hat
    split at hat
    · rename_i hb
      intro lv st σ H locs ls h v1 v2 hH hS hl
      dsimp only [hy_sem] at h
      have := Krc b.toNat lv st σ H locs ls h v1 v2 hH hS hl
      rwa [hb.2] at this
    · cases hat
  obtain ⟨ins, len, hd, hok, rfl⟩ := hy_at_spec (fun b e => hg ⟨b, e⟩) hat
  have hx := C.1
  have hb := C.2.1
  have hR : dz = true → 1 ≤ R.frames ∧ 64 ≤ R.locals := by
    intro z
    rw [hdz] at z
    have : 0 < d := Nat.le_of_ble_eq_true z
    omega
  cases op with
  | iadd =>
    obtain ⟨rfl, rfl⟩ := hy_pair hok
    exact hy_s_iadd hx hb hd K
  | isub =>
    obtain ⟨rfl, rfl⟩ := hy_pair hok
    exact hy_s_isub hx hb hd K
  | imul =>
    obtain ⟨rfl, rfl⟩ := hy_pair hok
    exact hy_s_imul hx hb hd K
  | iand =>
    obtain ⟨rfl, rfl⟩ := hy_pair hok
    exact hy_s_iand hx hb hd K
  | ior =>
    obtain ⟨rfl, rfl⟩ := hy_pair hok
    exact hy_s_ior hx hb hd K
  | ishl =>
    obtain ⟨rfl, rfl⟩ := hy_pair hok
    exact hy_s_ishl hx hb hd K
  | ishr =>
    obtain ⟨rfl, rfl⟩ := hy_pair hok
    exact hy_s_ishr hx hb hd K
  | idiv =>
    obtain ⟨rfl, rfl⟩ := hy_pair hok
    exact hy_s_idiv hx hb hd K
  | irem =>
    obtain ⟨rfl, rfl⟩ := hy_pair hok
    exact hy_s_irem hx hb hd K
  | iushr =>
    obtain ⟨rfl, rfl⟩ := hy_pair hok
    exact hy_s_iushr hx hb hd K
  | ladd =>
    obtain ⟨rfl, rfl⟩ := hy_pair hok
    exact hy_s_ladd hx hb hd K
  | lsub =>
    obtain ⟨rfl, rfl⟩ := hy_pair hok
    exact hy_s_lsub hx hb hd K
  | lcmp =>
    obtain ⟨rfl, rfl⟩ := hy_pair hok
    exact hy_s_lcmp hx hb hd K
  | ineg =>
    obtain ⟨rfl, rfl⟩ := hy_pair hok
    exact hy_s_ineg hx hb hd K
  | lneg =>
    obtain ⟨rfl, rfl⟩ := hy_pair hok
    exact hy_s_lneg hx hb hd K
  | i2s =>
    obtain ⟨rfl, rfl⟩ := hy_pair hok
    exact hy_s_i2s hx hb hd K
  | i2b =>
    obtain ⟨rfl, rfl⟩ := hy_pair hok
    exact hy_s_i2b hx hb hd K
  | i2c =>
    obtain ⟨rfl, rfl⟩ := hy_pair hok
    exact hy_s_i2c hx hb hd K
  | i2l =>
    obtain ⟨rfl, rfl⟩ := hy_pair hok
    exact hy_s_i2l hx hb hd K
  | l2i =>
    obtain ⟨rfl, rfl⟩ := hy_pair hok
    exact hy_s_l2i hx hb hd K
  | pop =>
    obtain ⟨rfl, rfl⟩ := hy_pair hok
    exact hy_s_pop hx hb hd K
  | dup =>
    obtain ⟨rfl, rfl⟩ := hy_pair hok
    exact hy_s_dup hx hb hd K
  | dup2 =>
    obtain ⟨rfl, rfl⟩ := hy_pair hok
    exact hy_s_dup2 hx hb hd K
  | iaload =>
    obtain ⟨rfl, rfl⟩ := hy_pair hok
    exact hy_s_iaload C hU hd K
  | caload =>
    obtain ⟨rfl, rfl⟩ := hy_pair hok
    exact hy_s_caload C hU hd K
  | baload =>
    obtain ⟨rfl, rfl⟩ := hy_pair hok
    exact hy_s_baload C hU hd K
  | iastore =>
    obtain ⟨rfl, rfl⟩ := hy_pair hok
    exact hy_s_iastore C hU hd K
  | bastore =>
    obtain ⟨rfl, rfl⟩ := hy_pair hok
    exact hy_s_bastore C hU hd K
  | aaload =>
    obtain ⟨rfl, rfl⟩ := hy_pair hok
    exact hy_s_aaload C hU hd K
  | arraylength =>
    obtain ⟨rfl, rfl⟩ := hy_pair hok
    exact hy_s_arraylength C hU hd K
  | lconst n =>
    obtain ⟨rfl, rfl⟩ := hy_pair hok
    exact hy_s_lconst hx hb hd K
  | bipush n => exact hy_s_bipush C hd hok K
  | iload i =>
    refine hy_s_iload (n := len) hx hb ?_ K
    simp only [hy_ok, Bool.or_eq_true, List.any_eq_true, decide_eq_true_eq, Prod.mk.injEq, List.mem_range] at hok
    rcases hok with ⟨rfl, rfl⟩ | ⟨j, hj, rfl, rfl, rfl⟩
    · exact Or.inl ⟨hd, rfl⟩
    · exact Or.inr ⟨Fin.ofNat 4 j, by simp [Fin.ofNat, Nat.mod_eq_of_lt hj], hd, rfl⟩
  | lload i =>
    refine hy_s_lload (n := len) hx hb ?_ K
    simp only [hy_ok, Bool.or_eq_true, List.any_eq_true, decide_eq_true_eq, Prod.mk.injEq, List.mem_range] at hok
    rcases hok with ⟨rfl, rfl⟩ | ⟨j, hj, rfl, rfl, rfl⟩
    · exact Or.inl ⟨hd, rfl⟩
    · exact Or.inr ⟨Fin.ofNat 4 j, by simp [Fin.ofNat, Nat.mod_eq_of_lt hj], hd, rfl⟩
  | aload i =>
    refine hy_s_aload (n := len) hx hb ?_ K
    simp only [hy_ok, Bool.or_eq_true, List.any_eq_true, decide_eq_true_eq, Prod.mk.injEq, List.mem_range] at hok
    rcases hok with ⟨rfl, rfl⟩ | ⟨j, hj, rfl, rfl, rfl⟩
    · exact Or.inl ⟨hd, rfl⟩
    · exact Or.inr ⟨Fin.ofNat 4 j, by simp [Fin.ofNat, Nat.mod_eq_of_lt hj], hd, rfl⟩
  | istore i =>
    refine hy_s_istore (n := len) hx hb ?_ K
    simp only [hy_ok, Bool.or_eq_true, List.any_eq_true, decide_eq_true_eq, Prod.mk.injEq, List.mem_range] at hok
    rcases hok with ⟨rfl, rfl⟩ | ⟨j, hj, rfl, rfl, rfl⟩
    · exact Or.inl ⟨hd, rfl⟩
    · exact Or.inr ⟨Fin.ofNat 4 j, by simp [Fin.ofNat, Nat.mod_eq_of_lt hj], hd, rfl⟩
  | astore i =>
    refine hy_s_astore (n := len) hx hb ?_ K
    simp only [hy_ok, Bool.or_eq_true, List.any_eq_true, decide_eq_true_eq, Prod.mk.injEq, List.mem_range] at hok
    rcases hok with ⟨rfl, rfl⟩ | ⟨j, hj, rfl, rfl, rfl⟩
    · exact Or.inl ⟨hd, rfl⟩
    · exact Or.inr ⟨Fin.ofNat 4 j, by simp [Fin.ofNat, Nat.mod_eq_of_lt hj], hd, rfl⟩
  | lstore i =>
    refine hy_s_lstore (n := len) hx hb ?_ K
    simp only [hy_ok, Bool.or_eq_true, List.any_eq_true, decide_eq_true_eq, Prod.mk.injEq, List.mem_range] at hok
    rcases hok with ⟨rfl, rfl⟩ | ⟨j, hj, rfl, rfl, rfl⟩
    · exact Or.inl ⟨hd, rfl⟩
    · exact Or.inr ⟨Fin.ofNat 4 j, by simp [Fin.ofNat, Nat.mod_eq_of_lt hj], hd, rfl⟩
  | iinc i n =>
    obtain ⟨rfl, rfl⟩ := hy_pair hok
    exact hy_s_iinc hx hb hd K
  | ldc i =>
    simp only [hy_ok, List.any_eq_true, Bool.and_eq_true, decide_eq_true_eq, Prod.mk.injEq] at hok
    obtain ⟨q, hq, ⟨h1, h2, h3⟩, rfl, rfl⟩ := hok
    exact hy_s_ldc C hU h3 hq h1 h2 hd K
  | getstatic i =>
    simp only [hy_ok, List.any_eq_true, Bool.and_eq_true, decide_eq_true_eq, Prod.mk.injEq] at hok
    obtain ⟨q, hq, ⟨h1, h2, h3⟩, rfl, rfl⟩ := hok
    exact hy_s_getstatic C hU h3 hq h1 h2 hd K
  | getfield i =>
    simp only [hy_ok, List.any_eq_true, Bool.and_eq_true, Bool.or_eq_true, decide_eq_true_eq, Prod.mk.injEq] at hok
    rcases hok with ⟨q, hq, ⟨h1, h2⟩, rfl, rfl⟩ | ⟨q, hq, ⟨h1, h2⟩, rfl, rfl⟩
    · exact hy_s_getfield C hU hq h1 h2 hd K
    · exact hy_s_getfieldS C hU hq h1 h2 hd K
  | putfield i =>
    simp only [hy_ok, List.any_eq_true, Bool.and_eq_true, decide_eq_true_eq, Prod.mk.injEq] at hok
    obtain ⟨q, hq, ⟨h1, h2⟩, rfl, rfl⟩ := hok
    exact hy_s_putfield C hU hq h1 h2 hd K
  | invokedynamic j =>
    simp only [hy_ok, List.any_eq_true, Bool.and_eq_true, decide_eq_true_eq, Prod.mk.injEq] at hok
    obtain ⟨q, hq, ⟨h1, h2⟩, rfl, rfl⟩ := hok
    exact hy_s_jsr C hU hml hR hcc hss hq h1 h2 hd K
  | invokestatic z =>
    simp only [hy_ok, List.any_eq_true, Bool.and_eq_true, decide_eq_true_eq, Prod.mk.injEq] at hok
    obtain ⟨⟨⟨h0, hz⟩, hst⟩, q, hq, ⟨h1, h2⟩, rfl, rfl⟩ := hok
    exact hy_s_stat C hU hml hf hlo hcc hss h0 hz hst hq h1 h2 hd (fun as σ r' σ' => Kcl z as σ r' σ' h0 hz) K
  | invokevirtual z =>
    simp only [hy_ok, List.any_eq_true, Bool.and_eq_true, decide_eq_true_eq, Prod.mk.injEq, Bool.not_eq_true'] at hok
    obtain ⟨⟨⟨h0, hz⟩, hst⟩, q, hq, ⟨h1, h2⟩, rfl, rfl⟩ := hok
    exact hy_s_virt C hU hml hf hlo hcc hss h0 hz hst hq h1 h2 hd (fun as σ r' σ' => Kcl z as σ r' σ' h0 hz) K
  | ifCond cc b =>
    simp only [hy_ok, Bool.and_eq_true, decide_eq_true_eq] at hok
    obtain ⟨rfl, hok⟩ := hok
    split at hok
    · obtain ⟨rfl, -, ht⟩ := of_decide_eq_true hok
      exact hy_s_ifCond hx hb hd ht (Krc _) K
    · cases hok
  | if_icmp cc b =>
    simp only [hy_ok, Bool.and_eq_true, decide_eq_true_eq] at hok
    obtain ⟨rfl, hok⟩ := hok
    split at hok
    · obtain ⟨rfl, -, ht⟩ := of_decide_eq_true hok
      exact hy_s_if_icmp hx hb hd ht (Krc _) K
    · cases hok
  | goto b =>
    simp only [hy_ok, Bool.and_eq_true, decide_eq_true_eq] at hok
    obtain ⟨rfl, hok⟩ := hok
    split at hok
    · obtain ⟨-, ht⟩ := of_decide_eq_true hok
      exact hy_s_goto hx hb hd ht (Krc _)
    · cases hok
  | tableswitch dflt lo hi offs =>
    simp only [hy_ok] at hok
    split at hok
    · rename_i dflt' lo' hi' offs'
      rw [Bool.and_eq_true] at hok
      obtain ⟨h1, h2⟩ := hok
      obtain ⟨rfl, rfl, -, h4, h5, h6⟩ := of_decide_eq_true h1
      exact hy_s_table hx hb hd h4 h5 h6 (fun j hj => (of_decide_eq_true (hy_all1 h2 hj)).2) Krc
    · cases hok
  | lookupswitch dflt ps =>
    simp only [hy_ok] at hok
    split at hok
    · rename_i dflt' ps'
      rw [Bool.and_eq_true, Bool.and_eq_true, Bool.and_eq_true] at hok
      obtain ⟨⟨⟨h1, h2⟩, h3⟩, h4⟩ := hok
      exact hy_s_lookup hx hb hd (of_decide_eq_true h1) h2 (of_decide_eq_true h3) (fun q hq => of_decide_eq_true (List.all_eq_true.mp h4 q hq)) Krc
    · cases hok
  | ireturn =>
    simp only [hy_ok, Bool.and_eq_true] at hok
    obtain ⟨h1, h2⟩ := hok
    obtain ⟨rfl, rfl⟩ := hy_pair h1
    exact hy_s_ireturn hd (of_decide_eq_true h2) hrt Z
  | lreturn =>
    simp only [hy_ok, Bool.and_eq_true] at hok
    obtain ⟨h1, h2⟩ := hok
    obtain ⟨rfl, rfl⟩ := hy_pair h1
    exact hy_s_lreturn hd (of_decide_eq_true h2) Z
  | return_ =>
    simp only [hy_ok, Bool.and_eq_true] at hok
    obtain ⟨h1, h2⟩ := hok
    obtain ⟨rfl, rfl⟩ := hy_pair h1
    exact hy_s_return hd (of_decide_eq_true h2) Z
  | goto_w b => exact absurd ⟨b, rfl⟩ hg
  | _ => exact hy_dead (fun _ _ _ => rfl)
theorem hy_ex_snd {d : Nat} (C : hy_Cx p c s m args y) (hU : hy_KU G s) (hml : c.maxLocals = hy_mx y) (hf : d ≤ R.frames) (hlo : 64 * d ≤ R.locals) (hcc : cells ≤ R.cells) (hss : slots ≤ R.slots) (hrt : rt = hy_rt y) (hdz : dz = Nat.blt 0 d) (Z : hy_Rt p l e R s m args below meth c cells slots Q y G r σr)
    (Krc : ∀ b, hy_Kt p l e R s m args below meth c cells slots Q y G r σr (rc b) (hy_blk y b).1)
    (Kcl : ∀ (z : Nat) (as : List Vl) (σ : Sg) (r' : Vl) (σ' : Sg), 0 < z → z < 230 → (∀ v ∈ as, hy_VT v) → cl z as σ = some (r', σ') → ∃ d', d' + 1 ≤ d ∧ hy_Mt l G d' z as σ r' σ') :
    ∀ (ops : List Instr) (pc : Nat), hy_chk y pc ops = true → hy_Kt p l e R s m args below meth c cells slots Q y G r σr (hy_ex rt dz rc cl ops) pc := by
  intro ops
  induction ops with
  | nil => exact fun pc _ => hy_dead (fun _ _ _ => rfl)
  | cons op ops ih =>
    intro pc hc
    unfold hy_chk at hc
    cases hat : hy_at y pc op with
    | none => rw [hat] at hc; cases hc
    | some pc' =>
      rw [hat] at hc
      exact hy_op_snd C hU hml hf hlo hcc hss hrt hdz Z hat Krc Kcl (ih pc' hc)
end HYS
def hy_Snd (l : Launch) (G : hy_G) (n : Nat) : Prop := ∀ (d y b : Nat) (r : Vl) (σr : Sg), y < 230 → ∀ (p : Program) (e : Env) (R : Room) (s : State) (m : MethodId) (args : Array Value) (below : List Frame) (meth : Method) (c : Code) (cells slots : Nat) (Q : State → Prop),
  hy_Cx p c s m args y → hy_KU G s → c.maxLocals = hy_mx y → d ≤ R.frames → 64 * d ≤ R.locals → cells ≤ R.cells → slots ≤ R.slots → hy_Rt p l e R s m args below meth c cells slots Q y G r σr → hy_Kt p l e R s m args below meth c cells slots Q y G r σr (hy_run n d y b) (hy_blk y b).1
theorem hy_ent_args (G : hy_G) : ∀ (as : List Vl) (i0 : Nat), (∀ v ∈ as, hy_VT v) → ∀ (i : Nat) (v : Vl), (hy_exp as)[i]? = some v → v.1 ≠ .null → (i0 + i, hy_cv G v) ∈ lv_args i0 (as.map (hy_cv G))
  | [], i0, _, i, v, h, _ => by simp [hy_exp] at h
  | a :: as, i0, hv, i, v, h, hn => by
    have hrec := hy_ent_args G as
    have hva := hv a List.mem_cons_self
    have hvs : ∀ v ∈ as, hy_VT v := fun v h => hv v (List.mem_cons_of_mem _ h)
    unfold hy_exp at h hrec
    rw [List.flatMap_cons] at h
    rw [List.map_cons]
    unfold lv_args
    rw [hy_cv_cat]
    obtain ⟨a1, a2⟩ := a
    cases a1 with
    | long x =>
      match i, h with
      | 0, h => cases h; exact List.mem_cons_self
      | 1, h => cases h; exact absurd rfl hn
      | i + 2, h =>
        have := hrec (i0 + 2) hvs i v h hn
        rw [show i0 + 2 + i = i0 + (i + 2) by omega] at this
        exact List.mem_cons_of_mem _ this
    | double x => exact absurd rfl (hva.2 x)
    | _ =>
      match i, h with
      | 0, h => cases h; exact List.mem_cons_self
      | i + 1, h =>
        have := hrec (i0 + 1) hvs i v h hn
        rw [show i0 + 1 + i = i0 + (i + 1) by omega] at this
        exact List.mem_cons_of_mem _ this
theorem hy_sl_len (G : hy_G) : ∀ (as : List Vl), (∀ v ∈ as, hy_VT v) → (lg_sl (as.map (hy_cv G))).length = (hy_exp as).length
  | [], _ => rfl
  | a :: as, hv => by
    have ih := hy_sl_len G as (fun v h => hv v (List.mem_cons_of_mem _ h))
    have hva := hv a List.mem_cons_self
    unfold lg_sl hy_exp at ih ⊢
    rw [List.map_cons, List.flatMap_cons, List.flatMap_cons, List.length_append, List.length_append, ih, hy_cv_cat]
    congr 1
    obtain ⟨a1, a2⟩ := a
    cases a1 with
    | double x => exact absurd rfl (hva.2 x)
    | _ => rfl
theorem hy_entLV (G : hy_G) {as : List Vl} {n : Nat} (hv : ∀ v ∈ as, hy_VT v) (hlen : (hy_ent n as).length = n) : (lg_sl (as.map (hy_cv G))).length ≤ n ∧ ∀ ls : Array Slot, lv_has ls n (lv_args 0 (as.map (hy_cv G))) → hy_LV G ls n (hy_ent n as) := by
  have h1 := hy_sl_len G as hv
  refine ⟨?_, fun ls h => ?_⟩
  · rw [h1]
    unfold hy_ent at hlen
    simp only [List.length_append, List.length_replicate] at hlen
    omega
  · obtain ⟨g1, g2, g3⟩ := h
    refine ⟨hlen, g1, g2, fun i v hi hn => ?_⟩
    unfold hy_ent at hi
    by_cases hl : i < (hy_exp as).length
    · rw [List.getElem?_append_left hl] at hi
      have := g3 _ (hy_ent_args G as 0 hv i v hi hn)
      rwa [Nat.zero_add] at this
    · rw [List.getElem?_append_right (by omega)] at hi
      have := List.mem_of_getElem? hi
      rw [List.mem_replicate] at this
      rw [this.2] at hn
      exact absurd rfl hn
theorem hy_entVT {as : List Vl} {n : Nat} (hv : ∀ v ∈ as, hy_VT v) : ∀ v ∈ hy_ent n as, hy_VT v := by
  intro v h
  unfold hy_ent at h
  rcases List.mem_append.mp h with h | h
  · unfold hy_exp at h
    obtain ⟨a, ha, h⟩ := List.mem_flatMap.mp h
    have := hv a ha
    split at h
    · rcases List.mem_cons.mp h with rfl | h
      · exact this
      · rw [List.mem_singleton.mp h]; exact hy_VTn 0
    · rw [List.mem_singleton.mp h]; exact this
  · rw [(List.mem_replicate.mp h).2]; exact hy_VTn 0
theorem hy_met {l : Launch} {G : hy_G} {n d z : Nat} {as : List Vl} {σ σr : Sg} {r : Vl} (IH : hy_Snd l G n) (h0 : 0 < z) (hz : z < 230) (hv : ∀ v ∈ as, hy_VT v) (hlen : (hy_ent (hy_mx z) as).length = hy_mx z) (hrun : hy_run n d z 0 (hy_ent (hy_mx z) as) [] σ = some (r, σr)) (hpc : (hy_blk z 0).1 = 0) : hy_Mt l G d z as σ r σr := by
  have hmp4 := hy_tick hy_mp4_all h0 hz
  unfold hy_mp4 at hmp4
  rw [Bool.and_eq_true] at hmp4
  refine Met.ofW (cc := hy_b z) (maxL := hy_mx z) (ret := (hy_m z).2.2.1) hmp4.1 rfl ?_
  intro p e s m args below meth c s₁ B hml hvv
  obtain ⟨rfl, hH, hU⟩ := hvv
  have hx := B.exec
  have hb := B.bytes
  have hr := B.returns
  have hts0 := atoms_spec (ws := hy_ws z) B.pre
  have hts : ∀ w ∈ hy_TB, w.before (as.map (hy_cv G)).toArray s = true := fun w hw => hts0 w (List.mem_cons_of_mem _ hw)
  have hown0 : s.vm.findClass (hy_m z).1.cls = some m.cls := findClass_of_methodNamed B.named
  have hcls := of_decide_eq_true (hy_tick hy_mp3_all h0 hz)
  have hown : s.vm.findClass (hy_cn (hy_own z)) = some m.cls := by
    rw [show hy_own z = (hy_m z).2.2.2.2 from rfl, hcls]; exact hown0
  have hlocks := B.notSynchronized
  obtain ⟨hle, hLV⟩ := hy_entLV G hv hlen
  have hl := lv_entry (as.map (hy_cv G)) (n := hy_mx z) hle
  rw [lg_entry_eq]
  generalize (lg_sl (as.map (hy_cv G)) ++ List.replicate (hy_mx z - (lg_sl (as.map (hy_cv G))).length) Slot.unset).toArray = ls at hl ⊢
  have hl2 := hLV ls hl
  have hZ : hy_Rt p l e (headSpec (hy_ws z) (hy_rm d)).room s m (as.map (hy_cv G)).toArray below meth c 0 0 (MQ below (hy_Qc G r σr) (as.map (hy_cv G)).toArray s 0 0 (hy_A G)) z G r σr := by
    intro H locs ls pc hH hS
    refine ⟨fun x hr1 hd hn hty => ?_, fun x hr1 hd hty => ?_, fun hr1 hd hty => ?_⟩
    · subst hr1
      rcases hty with hty | hty | hty | hty
      · exact W.iret hx hb (by rw [hr, hty]) (fun t ht hW => ⟨⟨x, (), rfl, rfl, by show hy_HR G σr t.heap; rw [ht]; exact hH⟩, hS.F ht⟩) hS.2.2 hd
      · exact W.zret (ty := .boolean) hx hb (by rw [hr, hty]) (by
          rcases hn.1 (by unfold hy_rt; rw [hty]) with z | z <;> rw [z] <;> decide) (fun t ht hW => ⟨⟨x, (), rfl, rfl, by show hy_HR G σr t.heap; rw [ht]; exact hH⟩, hS.F ht⟩) hS.2.2 hd
      · exact W.zret (ty := .byte) hx hb (by rw [hr, hty]) (by
          have h2 := hn.2.1 (by unfold hy_rt; rw [hty])
          rw [← h2]; exact pk_nb x) (fun t ht hW => ⟨⟨x, (), rfl, rfl, by show hy_HR G σr t.heap; rw [ht]; exact hH⟩, hS.F ht⟩) hS.2.2 hd
      · exact W.zret (ty := .char) hx hb (by rw [hr, hty]) (by
          have h3 := hn.2.2 (by unfold hy_rt; rw [hty])
          rw [← h3]; exact pk_nc x) (fun t ht hW => ⟨⟨x, (), rfl, rfl, by show hy_HR G σr t.heap; rw [ht]; exact hH⟩, hS.F ht⟩) hS.2.2 hd
    · subst hr1
      exact W.lret hx hb (by rw [hr, hty]) (fun t ht hW => ⟨⟨x, (), rfl, rfl, by show hy_HR G σr t.heap; rw [ht]; exact hH⟩, hS.F ht⟩) hS.2.2 hd
    · subst hr1
      exact W.vret hx hb (by rw [hr, hty]) (fun t ht hW => ⟨⟨(), rfl, trivial, by show hy_HR G σr t.heap; rw [ht]; exact hH⟩, hS.F ht⟩) hS.2.2 hd
  have hK := IH d z 0 r σr hz p e (headSpec (hy_ws z) (hy_rm d)).room s m (as.map (hy_cv G)).toArray below meth c 0 0 _ ⟨hx, hb, hown, hts⟩ hU hml (Nat.le_refl d) (Nat.le_refl _) (Nat.le_refl 0) (Nat.le_refl 0) hZ
  rw [hpc] at hK
  exact hK _ _ _ _ _ _ hrun (hy_entVT hv) (fun v h => by cases h) hH va_S.rf hl2
theorem hy_snd (hchk : ∀ y b, y < 230 → hy_chk y (hy_blk y b).1 (hy_blk y b).2 = true) (hpc : ∀ y, y < 230 → (hy_blk y 0).1 = 0) (l : Launch) (G : hy_G) : ∀ n, hy_Snd l G n := by
  intro n
  induction n with
  | zero => intro d y b r σr hy p e R s m args below meth c cells slots Q C hU hml hf hlo hcc hss Z; exact hy_dead (fun _ _ _ => rfl)
  | succ n ih =>
    intro d y b r σr hy p e R s m args below meth c cells slots Q C hU hml hf hlo hcc hss Z
    refine hy_ex_snd C hU hml hf hlo hcc hss rfl rfl Z (fun b' => ih d y b' r σr hy p e R s m args below meth c cells slots Q C hU hml hf hlo hcc hss Z) ?_ _ _ (hchk y b hy)
    intro z as σ r' σ' h0 hz hv hcl
    cases d with
    | zero => cases hcl
    | succ d' =>
      dsimp only at hcl
      cases hbq : Nat.beq (hy_ent (hy_mx z) as).length (hy_mx z) with
      | false => rw [hbq] at hcl; cases hcl
      | true =>
        rw [hbq] at hcl
        exact ⟨d', Nat.le_refl _, hy_met ih h0 hz hv (hy_beq hbq) hcl (hpc z hz)⟩
end
section
/-! MACHINE 2: the constructors, tables and abstract code; written by wip/gen/gen21.py -/
def hz_M : List (MethodName × Nat × Nat × Nat) := [(⟨"", "", ""⟩, 0, 0, 0), (⟨"HayBoard$Choice", "<init>", "()V"⟩, 1, 1, 4), (⟨"HayBoard$Law", "<init>", "()V"⟩, 1, 1, 3), (⟨"HayBoard$Bale", "<init>", "()V"⟩, 1, 1, 8), (⟨"HayBoard$Sheet", "<init>", "()V"⟩, 1, 1, 5), (⟨"HayBoard$Tape", "<init>", "()V"⟩, 1, 1, 2), (⟨"HayBoard$Slot", "<init>", "()V"⟩, 1, 1, 6), (⟨"HayBoard$Common", "<init>", "([LHayBoard$Law;)V"⟩, 3, 2, 7), (⟨"HayBoard", "<init>", "()V"⟩, 2, 1, 1), (⟨"HayBoardModel", "<init>", "()V"⟩, 1, 1, 9)]
def hz_m (y : Nat) : MethodName × Nat × Nat × Nat := hz_M.getD y (⟨"", "", ""⟩, 0, 0, 0)
/-- places: code, initialized, instanceMethod, instantiable -/
def hz_P : List (Nat × Nat × Nat × Nat) := [(0, 0, 0, 0), (138, 64, 137, 135), (97, 63, 96, 94), (186, 67, 185, 183), (160, 65, 159, 157), (91, 62, 90, 88), (180, 66, 179, 177), (241, 68, 240, 238), (81, 61, 80, 78), (985, 69, 984, 982)]
def hz_b (y : Nat) : ByteArray := match lw_tbl[(hz_P.getD y (0, 0, 0, 0)).1]? with
  | some (.code _ b _ _) => b
  | _ => ⟨#[]⟩
def hz_cdOK (y : Nat) : Bool := match lw_tbl[(hz_P.getD y (0, 0, 0, 0)).1]? with
  | some (.code n _ mx rt) => decide (n = (hz_m y).1 ∧ mx = (hz_m y).2.1 ∧ rt = none)
  | _ => false
def hz_one (y : Nat) : Bool := let q := hz_P.getD y (0, 0, 0, 0)
  hy_wAt q.2.1 (.initialized (hz_m y).1.cls) && hy_wAt q.2.2.1 (.instanceMethod (hz_m y).1) && hy_wAt q.2.2.2 (.instantiable (hz_m y).1.cls (hy_N (hz_m y).2.2.2)) && decide (hy_cn (hz_m y).2.2.2 = (hz_m y).1.cls) && decide ((hz_m y).1.name = "<init>") &&
  plainName (hz_m y).1.cls && decide ((hz_m y).1.cls ≠ "java/lang/invoke/MethodHandle" ∧ (hz_m y).1.cls ≠ "java/lang/invoke/VarHandle") && decide ((parseMethodDescriptor (hz_m y).1.desc).map (fun d => d.parameters.length) = some ((hz_m y).2.2.1 - 1))
theorem hz_cdOK_all : (List.range 10).all (fun y => Nat.beq y 0 || hz_cdOK y) = true := by decide +kernel
theorem hz_one_all : (List.range 10).all (fun y => Nat.beq y 0 || hz_one y) = true := by decide +kernel
def hz_KI : List Nat := [0, 8, 5, 2, 1, 4, 6, 7, 3, 9]
def hz_ML : List (Nat × Nat × Nat × Nat) := [(0, 9, 16, 79), (1, 17, 11, 89), (2, 17, 5, 95), (1, 24, 3, 136), (1, 45, 5, 156), (1, 46, 9, 158), (1, 47, 13, 178), (6, 11, 7, 184), (6, 20, 9, 220), (1, 50, 14, 239), (7, 32, 3, 246), (7, 45, 7, 247), (0, 12, 18, 983)]
def hz_CL : List (Nat × Nat × Nat × Nat) := [(0, 7, 1, 77), (1, 9, 3, 85), (1, 15, 2, 87), (2, 15, 3, 93), (1, 22, 4, 134), (1, 29, 5, 152), (1, 35, 6, 154), (6, 9, 8, 182), (6, 18, 5, 219), (1, 48, 7, 237), (7, 9, 8, 243), (7, 30, 4, 245), (0, 10, 9, 981)]
def hz_OL : List (Nat × Nat × Nat × Nat) := [(1, 1, 0, 82), (2, 3, 0, 92), (3, 3, 0, 98), (4, 3, 0, 139), (5, 3, 0, 161), (6, 3, 0, 181), (8, 3, 0, 187), (7, 3, 0, 242), (9, 1, 0, 986)]
theorem hz_ml_ok : hz_ML.all (fun q => hy_wM q.2.2.2 (bif Nat.beq (q.2.2.1 % 2) 1 then .methodLinkNest (hy_cn q.1) q.2.1 (hz_m (q.2.2.1 / 2)).1 "HayBoard" else .methodLink (hy_cn q.1) q.2.1 (hz_m (q.2.2.1 / 2)).1) && (Nat.beq (q.2.2.1 % 2) 1 || hy_wAt q.2.2.2 (.methodLink (hy_cn q.1) q.2.1 (hz_m (q.2.2.1 / 2)).1))) = true := by decide +kernel
theorem hz_cl_ok : hz_CL.all (fun q => hy_wAt q.2.2.2 (.classLink (hy_cn q.1) q.2.1 (hy_cn q.2.2.1))) = true := by decide +kernel
theorem hz_ol_ok : hz_OL.all (fun q => hy_wAt q.2.2.2 (.methodLink (hy_cn q.1) q.2.1 objectInit)) = true := by decide +kernel
theorem hz_obj : (hy_wAt 83 (.instanceMethod objectInit) && hy_wAt 84 (.code objectInit ⟨#[0xb1]⟩ 1 none)) = true := by decide +kernel
theorem hz_arr : (hy_wAt 118 (.arrayClass .int) && hy_wAt 1096 (.arrayClass .char) && hy_wAt 1097 (.arrayClass .boolean)) = true := by decide +kernel
def hz_RC : List String := ["HayBoard$Law", "HayBoard$Sheet", "HayBoard$Slot", "HayBoard$Bale"]
theorem hz_over : (hy_wM 86 (.arrayOver (.object "HayBoard$Law")) && hy_wM 153 (.arrayOver (.object "HayBoard$Sheet")) && hy_wM 155 (.arrayOver (.object "HayBoard$Slot")) && hy_wM 244 (.arrayOver (.object "HayBoard$Bale"))) = true := by decide +kernel
def hz_B1_0 : List Instr := [.aload 0, .invokespecial 0, .aload 0, .bipush (-1000000005), .putfield 256, .return_]
def hz_K1 : List (Nat × List Instr) := [(0, hz_B1_0)]
def hz_B2_0 : List Instr := [.aload 0, .invokespecial 0, .aload 0, .bipush 96, .newarray .int, .putfield 192, .aload 0, .bipush 96, .newarray .int, .putfield 193, .return_]
def hz_K2 : List (Nat × List Instr) := [(0, hz_B2_0)]
def hz_B3_0 : List Instr := [.aload 0, .invokespecial 0, .aload 0, .bipush 36, .putfield 514, .aload 0, .bipush 1, .putfield 515, .return_]
def hz_K3 : List (Nat × List Instr) := [(0, hz_B3_0)]
def hz_B4_0 : List Instr := [.aload 0, .invokespecial 0, .aload 0, .bipush 24, .newarray .int, .putfield 320, .aload 0, .bipush (-1), .putfield 321, .return_]
def hz_K4 : List (Nat × List Instr) := [(0, hz_B4_0)]
def hz_B5_0 : List Instr := [.aload 0, .invokespecial 0, .aload 0, .bipush 96, .newarray .int, .putfield 128, .aload 0, .new 3, .dup, .invokespecial 2, .putfield 129, .return_]
def hz_K5 : List (Nat × List Instr) := [(0, hz_B5_0)]
def hz_B6_0 : List Instr := [.aload 0, .invokespecial 0, .aload 0, .new 8, .dup, .invokespecial 3, .putfield 384, .aload 0, .new 5, .dup, .invokespecial 4, .putfield 385, .aload 0, .bipush 0, .putfield 386, .return_]
def hz_K6 : List (Nat × List Instr) := [(0, hz_B6_0)]
def hz_B7_0 : List Instr := [.aload 0, .invokespecial 0, .aload 0, .bipush 12, .anewarray 13, .putfield 449, .aload 0, .bipush 36, .newarray .int, .putfield 450, .aload 0, .bipush 3, .newarray .int, .putfield 451, .aload 0, .bipush 432, .newarray .int, .putfield 452, .aload 0, .bipush 12, .newarray .int, .putfield 453, .aload 0, .new 4, .dup, .invokespecial 1, .putfield 454, .aload 0, .bipush 1, .putfield 460, .aload 0, .aload 1, .putfield 448, .bipush 0, .istore 2, .goto_w 1]
def hz_B7_1 : List Instr := [.iload 2, .bipush 12, .if_icmp .ge 2, .aload 0, .getfield 449, .iload 2, .new 8, .dup, .invokespecial 3, .aastore, .iinc 2 1, .goto 1]
def hz_B7_2 : List Instr := [.bipush 0, .istore 2, .goto_w 3]
def hz_B7_3 : List Instr := [.iload 2, .bipush 36, .if_icmp .ge 4, .aload 0, .getfield 450, .iload 2, .bipush (-1000000005), .iastore, .iinc 2 1, .goto 3]
def hz_B7_4 : List Instr := [.bipush 0, .istore 2, .goto_w 5]
def hz_B7_5 : List Instr := [.iload 2, .bipush 3, .if_icmp .ge 6, .aload 0, .getfield 451, .iload 2, .bipush (-1000000005), .iastore, .iinc 2 1, .goto 5]
def hz_B7_6 : List Instr := [.return_]
def hz_K7 : List (Nat × List Instr) := [(0, hz_B7_0), (68, hz_B7_1), (93, hz_B7_2), (95, hz_B7_3), (115, hz_B7_4), (117, hz_B7_5), (136, hz_B7_6)]
def hz_B8_0 : List Instr := [.aload 0, .invokespecial 0, .aload 0, .bipush 14, .anewarray 10, .putfield 64, .aload 0, .new 2, .dup, .invokespecial 5, .putfield 65, .aload 0, .new 4, .dup, .invokespecial 1, .putfield 70, .aload 0, .bipush 4, .anewarray 11, .putfield 71, .aload 0, .bipush 5, .anewarray 12, .putfield 72, .aload 0, .bipush 60, .newarray .int, .putfield 73, .bipush 0, .istore 1, .goto_w 1]
def hz_B8_1 : List Instr := [.iload 1, .bipush 14, .if_icmp .ge 2, .aload 0, .getfield 64, .iload 1, .new 3, .dup, .invokespecial 2, .aastore, .iinc 1 1, .goto 1]
def hz_B8_2 : List Instr := [.bipush 0, .istore 1, .goto_w 3]
def hz_B8_3 : List Instr := [.iload 1, .bipush 4, .if_icmp .ge 4, .aload 0, .getfield 71, .iload 1, .new 5, .dup, .invokespecial 4, .aastore, .iinc 1 1, .goto 3]
def hz_B8_4 : List Instr := [.bipush 0, .istore 1, .goto_w 5]
def hz_B8_5 : List Instr := [.iload 1, .bipush 5, .if_icmp .ge 6, .aload 0, .getfield 72, .iload 1, .new 6, .dup, .invokespecial 6, .aastore, .iinc 1 1, .goto 5]
def hz_B8_6 : List Instr := [.aload 0, .new 7, .dup, .aload 0, .getfield 64, .invokespecial 7, .putfield 66, .aload 0, .new 7, .dup, .aload 0, .getfield 64, .invokespecial 7, .putfield 67, .aload 0, .new 7, .dup, .aload 0, .getfield 64, .invokespecial 7, .putfield 68, .return_]
def hz_K8 : List (Nat × List Instr) := [(0, hz_B8_0), (61, hz_B8_1), (86, hz_B8_2), (88, hz_B8_3), (112, hz_B8_4), (114, hz_B8_5), (138, hz_B8_6)]
def hz_B9_0 : List Instr := [.aload 0, .invokespecial 0, .aload 0, .bipush 1451, .newarray .int, .putfield 576, .aload 0, .bipush 1451, .newarray .int, .putfield 577, .aload 0, .bipush 1451, .newarray .int, .putfield 578, .aload 0, .bipush 72, .newarray .int, .putfield 580, .aload 0, .bipush 72, .newarray .int, .putfield 581, .aload 0, .bipush 79, .newarray .int, .putfield 583, .aload 0, .bipush 96, .newarray .int, .putfield 584, .aload 0, .bipush 10, .newarray .char, .dup, .bipush 0, .bipush 104, .castore, .dup, .bipush 1, .bipush 97, .castore, .dup, .bipush 2, .bipush 121, .castore, .dup, .bipush 3, .bipush 102, .castore, .dup, .bipush 4, .bipush 101, .castore, .dup, .bipush 5, .bipush 101, .castore, .dup, .bipush 6, .bipush 102, .castore, .dup, .bipush 7, .bipush 105, .castore, .dup, .bipush 8, .bipush 110, .castore, .dup, .bipush 9, .bipush 101, .castore, .putfield 592, .aload 0, .bipush 4, .newarray .int, .dup, .bipush 0, .bipush 0, .iastore, .dup, .bipush 1, .bipush 3, .iastore, .dup, .bipush 2, .bipush 6, .iastore, .dup, .bipush 3, .bipush 10, .iastore, .putfield 593, .aload 0, .bipush 96, .newarray .int, .putfield 594, .aload 0, .bipush 96, .newarray .int, .putfield 597, .aload 0, .bipush 10, .newarray .boolean, .putfield 599, .aload 0, .bipush 96, .newarray .int, .putfield 600, .aload 0, .bipush 4, .newarray .int, .putfield 601, .aload 0, .bipush 4, .newarray .int, .dup, .bipush 0, .bipush (-1), .iastore, .dup, .bipush 1, .bipush (-1), .iastore, .dup, .bipush 2, .bipush (-1), .iastore, .dup, .bipush 3, .bipush (-1), .iastore, .putfield 602, .aload 0, .bipush 4, .newarray .int, .putfield 603, .aload 0, .bipush 96, .newarray .int, .putfield 604, .aload 0, .bipush 5, .newarray .int, .putfield 605, .aload 0, .bipush 5, .newarray .int, .putfield 606, .aload 0, .bipush 5, .newarray .int, .putfield 607, .aload 0, .bipush 120, .newarray .int, .putfield 608, .aload 0, .bipush 24, .newarray .int, .putfield 609, .aload 0, .bipush 60, .newarray .int, .putfield 610, .aload 0, .getfield 576, .bipush 0, .bipush 1, .iastore, .return_]
def hz_K9 : List (Nat × List Instr) := [(0, hz_B9_0)]
def hz_K : List (List (Nat × List Instr)) := [[], hz_K1, hz_K2, hz_K3, hz_K4, hz_K5, hz_K6, hz_K7, hz_K8, hz_K9]
def hz_CT : List (Nat × Nat × Int × Nat) := [(4, 9, (-1000000005), 140), (7, 46, (-1000000005), 248), (1, 76, (-1000000001), 357), (1, 80, (-1000000005), 358), (1, 81, (-1000000002), 359), (1, 86, (-1000000003), 360), (1, 135, (-1000000012), 443), (7, 124, 1103515245, 479), (1, 255, (-1000000011), 647), (5, 36, (-1000000005), 661), (2, 44, (-1000000005), 705), (1, 296, (-1000000014), 901), (1, 298, (-1000000013), 907), (1, 305, (-99999), 908), (1, 306, 99999, 909), (9, 98, (-1000000001), 1108), (9, 103, (-1000000002), 1117), (9, 104, (-1000000003), 1118), (9, 81, (-1000000005), 1168), (9, 147, (-1000000012), 1191), (9, 151, 1103515245, 1216), (9, 215, (-1000000011), 1332), (9, 286, (-1000000014), 1412), (9, 287, (-1000000013), 1417), (9, 288, (-99999), 1418), (9, 289, 99999, 1419)]
end
section
/-! MACHINE 2: constructors over a growing row of cells -/
abbrev Ce := Nat × List Value
abbrev Hp := List Ce
def hz_cv (G : hy_G) (v : Value) : Value := match v with
  | .ref a => .ref (hy_base G + a)
  | w => w
def hz_io (v : Value) : Int32 := match v with
  | .int x => x
  | _ => 0
def hz_ro (G : hy_G) (v : Value) : Option Nat := match v with
  | .ref a => some (hy_base G + a)
  | _ => none
def hz_cell (G : hy_G) (c : Ce) : va_E := if c.1 ≤ 9 then .inr (c.1 - 1, c.2.map (hz_cv G)) else if c.1 ≤ 13 then .inl (hy_cy G c.1, c.2.length, .inr (.inr (.inr (.inr fun j => hz_ro G (c.2.getD j .null))))) else .inl (hy_cy G (c.1 - 14), c.2.length, .inl fun j => hz_io (c.2.getD j (.int 0)))
def hz_wl (G : hy_G) (h : Hp) : va_W := (List.range h.length).map fun a => (hy_base G + a, hz_cell G (h.getD a (0, [])))
def hz_HR (G : hy_G) (h : Hp) (H : Heap) : Prop := va_P (hy_D G) hy_cl (hz_wl G h) H ∧ va_D (hy_A G) (hz_wl G h) ∧ H.size = hy_base G + h.length
def hz_sz (h : Hp) : Nat := (h.map fun c => c.2.length).sum
def hz_mx (y : Nat) : Nat := (hz_m y).2.1
def hz_own (y : Nat) : Nat := (hz_m y).2.2.2
def hz_na (y : Nat) : Nat := (hz_m y).2.2.1
def hz_def (t : Nat) : List Value := (List.range (hy_N t)).map fun k => match hy_fr (t * 64 + k) with
  | some _ => .null
  | none => .int 0
def hz_so (at_ : ArrayType) : Nat := match at_ with
  | .int => 0
  | .char => 1
  | .boolean => 2
  | _ => 9
def hz_fit (p : Nat) (v : Value) : Bool := match v, hy_fr p with
  | .int _, none => !(Nat.beq p 69 || Nat.beq p 579)
  | .ref _, some _ => true
  | _, _ => false
abbrev Rz := Option Hp
def hz_sem (dz : Bool) (rc : Nat → List Value → List Value → Hp → Rz) (cl : Nat → List Value → Hp → Rz) (op : Instr) (k : List Value → List Value → Hp → Rz) (lv st : List Value) (h : Hp) : Rz :=
  match op with
  | .bipush n => k lv (.int (Int32.ofInt n) :: st) h
  | .iload i => match lv[i]? with
    | some (.int x) => k lv (.int x :: st) h
    | _ => none
  | .aload i => match lv[i]? with
    | some (.ref x) => k lv (.ref x :: st) h
    | _ => none
  | .istore i => match st with
    | .int x :: st => bif Nat.blt i lv.length && lv.all (fun v => Nat.beq v.category 1) then k (lv.set i (.int x)) st h else none
    | _ => none
  | .iinc i n => match lv[i]? with
    | some (.int x) => bif lv.all (fun v => Nat.beq v.category 1) then k (lv.set i (.int (x + Int32.ofInt n))) st h else none
    | _ => none
  | .dup => match st with
    | .ref x :: st => k lv (.ref x :: .ref x :: st) h
    | _ => none
  | .getfield p => match st with
    | .ref a :: st => match h[a]? with
      | some (t, fs) => bif Nat.beq t (p / 64) then (match fs[p % 64]? with
        | some v => k lv (v :: st) h
        | none => none) else none
      | none => none
    | _ => none
  | .putfield p => match st with
    | v :: .ref a :: st => match h[a]? with
      | some (t, fs) => bif Nat.beq t (p / 64) && (hz_fit p v && Nat.blt (p % 64) fs.length) then k lv st (h.set a (t, fs.set (p % 64) v)) else none
      | none => none
    | _ => none
  | .new t => bif Nat.ble 1 t && Nat.ble t 9 then k lv (.ref h.length :: st) (h ++ [(t, hz_def t)]) else none
  | .newarray at_ => match st with
    | .int n :: st => bif Nat.ble (hz_so at_) 2 && (Nat.ble (hy_ix n) 5000) then (if 0 ≤ n.toInt then k lv (.ref h.length :: st) (h ++ [(14 + hz_so at_, List.replicate (hy_ix n) (.int 0))]) else none) else none
    | _ => none
  | .anewarray t => match st with
    | .int n :: st => bif Nat.ble 10 t && (Nat.ble t 13 && Nat.ble (hy_ix n) 5000) then (if 0 ≤ n.toInt then k lv (.ref h.length :: st) (h ++ [(t, List.replicate (hy_ix n) .null)]) else none) else none
    | _ => none
  | .iastore => match st with
    | .int x :: .int i :: .ref a :: st => match h[a]? with
      | some (t, es) => bif Nat.beq t 14 then (if hy_ib i es.length then k lv st (h.set a (t, es.set (hy_ix i) (.int x))) else none) else none
      | none => none
    | _ => none
  | .castore => match st with
    | .int x :: .int i :: .ref a :: st => match h[a]? with
      | some (t, es) => bif Nat.beq t 15 then (if hy_ib i es.length ∧ vp_nar .char x = x then k lv st (h.set a (t, es.set (hy_ix i) (.int x))) else none) else none
      | none => none
    | _ => none
  | .aastore => match st with
    | .ref v :: .int i :: .ref a :: st => match h[a]?, h[v]? with
      | some (t, es), some (t', _) => match hy_ra t with
        | some (_, kd, _, _) => bif Nat.beq t' kd && (Nat.ble 10 t && Nat.ble t 13) then (if hy_ib i es.length then k lv st (h.set a (t, es.set (hy_ix i) (.ref v))) else none) else none
        | none => none
      | _, _ => none
    | _ => none
  | .if_icmp c b => match st with
    | .int y :: .int x :: st => match c with
      | .ge => if y ≤ x then rc b.toNat lv st h else k lv st h
      | _ => none
    | _ => none
  | .goto b => rc b.toNat lv st h
  | .goto_w b => rc b.toNat lv st h
  | .invokespecial q => bif dz then (match q with
    | 0 => match st with
      | .ref _ :: st => bif Nat.ble st.length 4 then k lv st h else none
      | _ => none
    | q + 1 => bif Nat.ble (hz_na (q + 1)) st.length && Nat.ble (st.length - hz_na (q + 1)) 4 then (match (st.take (hz_na (q + 1))).reverse with
      | .ref a :: as => (cl (q + 1) (.ref a :: as) h).bind fun h' => k lv (st.drop (hz_na (q + 1))) h'
      | _ => none) else none) else none
  | .return_ => match st with
    | [] => some h
    | _ => none
  | _ => none
def hz_blk (y b : Nat) : Nat × List Instr := (hz_K.getD y []).getD b (0, [])
def hz_ex (dz : Bool) (rc : Nat → List Value → List Value → Hp → Rz) (cl : Nat → List Value → Hp → Rz) : List Instr → List Value → List Value → Hp → Rz
  | [] => fun _ _ _ => none
  | op :: ops => hz_sem dz rc cl op (hz_ex dz rc cl ops)
def hz_run : Nat → Nat → Nat → Nat → List Value → List Value → Hp → Rz
  | 0, _, _, _ => fun _ _ _ => none
  | n + 1, d, y, b => hz_ex (Nat.blt 0 d) (hz_run n d y) (fun q as h => match d with
    | 0 => none
    | d' + 1 => bif Nat.ble as.length (hz_mx q) && as.all (fun v => Nat.beq v.category 1) then hz_run n d' q 0 (as ++ List.replicate (hz_mx q - as.length) .null) [] h else none) (hz_blk y b).2
def hz_ok (y pc : Nat) (op ins : Instr) (len : Nat) : Bool :=
  let own := hz_own y
  match op with
  | .bipush n => decide ((ins, len) = (.iconst n, 1)) || decide ((ins, len) = (.bipush n, 2) ∧ (Int8.ofInt n).toInt32 = Int32.ofInt n) || decide ((ins, len) = (.sipush n, 3) ∧ (Int16.ofInt n).toInt32 = Int32.ofInt n) ||
      hy_CT.any fun q => decide (q.1 = own ∧ q.2.2.1 = n) && (decide ((ins, len) = (.ldc q.2.1, 2)) || decide ((ins, len) = (.ldc_w q.2.1, 3)))
  | .iload i => decide ((ins, len) = (.iload i, 2)) || (List.range 4).any fun j => decide (j = i ∧ (ins, len) = (.iload_n (Fin.ofNat 4 j), 1))
  | .aload i => decide ((ins, len) = (.aload i, 2)) || (List.range 4).any fun j => decide (j = i ∧ (ins, len) = (.aload_n (Fin.ofNat 4 j), 1))
  | .istore i => decide ((ins, len) = (.istore i, 2)) || (List.range 4).any fun j => decide (j = i ∧ (ins, len) = (.istore_n (Fin.ofNat 4 j), 1))
  | .iinc i n => decide ((ins, len) = (.iinc i n, 3))
  | .getfield p => hy_FL.any fun q => decide (q.1 = own ∧ q.2.2.1 = p) && decide ((ins, len) = (.getfield q.2.1, 3))
  | .putfield p => decide (p / 64 = own) && hy_FL.any fun q => decide (q.1 = own ∧ q.2.2.1 = p) && decide ((ins, len) = (.putfield q.2.1, 3))
  | .new t => hz_CL.any fun q => decide (q.1 = own ∧ q.2.2.1 = t) && decide ((ins, len) = (.new q.2.1, 3))
  | .newarray a => decide ((ins, len) = (.newarray a, 2))
  | .anewarray t => hz_CL.any fun q => decide (q.1 = own ∧ hy_cn q.2.2.1 = hz_RC.getD (t - 10) "") && decide ((ins, len) = (.anewarray q.2.1, 3))
  | .if_icmp c b => decide (len = 3) && match ins with
    | .if_icmp c' off => decide (c = c' ∧ (pc : Int) + off = ((hz_blk y b.toNat).1 : Nat))
    | _ => false
  | .goto b => decide (len = 3) && match ins with
    | .goto off => decide ((pc : Int) + off = ((hz_blk y b.toNat).1 : Nat))
    | _ => false
  | .invokespecial z => match z with
    | 0 => hz_OL.any fun q => decide (q.1 = own) && decide ((ins, len) = (.invokespecial q.2.1, 3))
    | z + 1 => decide (z + 1 < 10) && hz_ML.any fun q => decide (q.1 = own ∧ q.2.2.1 / 2 = z + 1) && decide ((ins, len) = (.invokespecial q.2.1, 3))
  | op => decide ((ins, len) = (op, 1))
def hz_at (y pc : Nat) (op : Instr) : Option Nat := match op with
  | .goto_w b => if (hz_blk y b.toNat).1 = pc then some pc else none
  | op => match decode (hz_b y) pc with
    | .ok (ins, len) => bif hz_ok y pc op ins len then some (pc + len) else none
    | .error _ => none
def hz_chk (y : Nat) : Nat → List Instr → Bool
  | _, [] => true
  | pc, op :: ops => match hz_at y pc op with
    | some pc' => hz_chk y pc' ops
    | none => false
def hz_chkM (y : Nat) : Bool := (hz_K.getD y []).all fun q => hz_chk y q.1 q.2
theorem hz_chk_all : ∀ y, y < 10 → hz_chkM y = true := by decide +kernel
/-- the heap behind both constructors -/
def hz_h1 : Hp := ((hz_run 200 9 8 0 [.ref 0, .null] [] [(1, hz_def 1)]).getD [])
def hz_h2 : Hp := ((hz_run 200 9 9 0 [.ref 138] [] (hz_h1 ++ [(9, hz_def 9)])).getD [])
theorem hz_runs1 : (hz_run 200 9 8 0 [.ref 0, .null] [] [(1, hz_def 1)]).isSome = true := by decide +kernel
theorem hz_len1 : hz_h1.length = 138 := by decide +kernel
end
section
/-! MACHINE 2 AGAINST THE JVM -/
def hz_Mo (k : List Value → List Value → Hp → Rz) : Prop := ∀ lv st h h', k lv st h = some h' → h.length ≤ h'.length ∧ hz_sz h ≤ hz_sz h'
theorem hz_sz_set {h : Hp} {a t t' : Nat} {fs fs' : List Value} (e : h[a]? = some (t, fs)) (hl : fs'.length = fs.length) : hz_sz (h.set a (t', fs')) = hz_sz h := by
  unfold hz_sz
  have : (h.set a (t', fs')).map (fun c => c.2.length) = h.map (fun c => c.2.length) := by
    apply List.ext_getElem?
    intro j
    rw [List.getElem?_map, List.getElem?_map]
    by_cases hj : a = j
    · subst hj
      rw [List.getElem?_set_self (List.getElem?_eq_some_iff.mp e).1, e]
      simp [hl]
    · rw [List.getElem?_set_ne hj]
  rw [this]
theorem hz_sz_app (h : Hp) (c : Ce) : hz_sz (h ++ [c]) = hz_sz h + c.2.length := by simp [hz_sz]
section HZM
variable {dz : Bool} {rc : Nat → List Value → List Value → Hp → Rz} {cl : Nat → List Value → Hp → Rz} {k : List Value → List Value → Hp → Rz}
theorem hz_mo_set {h h' : Hp} {a t t' : Nat} {fs fs' : List Value} {lv st : List Value} (hk : hz_Mo k) (e : h[a]? = some (t, fs)) (hl : fs'.length = fs.length) (hh : k lv st (h.set a (t', fs')) = some h') : h.length ≤ h'.length ∧ hz_sz h ≤ hz_sz h' := by
  have := hk _ _ _ _ hh
  rw [List.length_set, hz_sz_set e hl] at this
  exact this
theorem hz_mo_app {h h' : Hp} {c : Ce} {lv st : List Value} (hk : hz_Mo k) (hh : k lv st (h ++ [c]) = some h') : h.length ≤ h'.length ∧ hz_sz h ≤ hz_sz h' := by
  have := hk _ _ _ _ hh
  rw [List.length_append, hz_sz_app] at this
  simp only [List.length_cons, List.length_nil] at this
  omega
theorem hz_mono (hr : ∀ b, hz_Mo (rc b)) (hc : ∀ q as h h', cl q as h = some h' → h.length ≤ h'.length ∧ hz_sz h ≤ hz_sz h') (hk : hz_Mo k) (op : Instr) : hz_Mo (hz_sem dz rc cl op k) := by
  intro lv st h h' hh
  cases op with
  | bipush n => exact hk _ _ _ _ hh
  | iload i => dsimp only [hz_sem] at hh; split at hh; exact hk _ _ _ _ hh; cases hh
  | aload i => dsimp only [hz_sem] at hh; split at hh; exact hk _ _ _ _ hh; cases hh
  | istore i =>
    dsimp only [hz_sem] at hh
    split at hh
    · rw [cond_eq_ite] at hh
      split at hh
      · exact hk _ _ _ _ hh
      · cases hh
    · cases hh
  | iinc i n =>
    dsimp only [hz_sem] at hh
    split at hh
    · rw [cond_eq_ite] at hh
      split at hh
      · exact hk _ _ _ _ hh
      · cases hh
    · cases hh
  | dup => dsimp only [hz_sem] at hh; split at hh; exact hk _ _ _ _ hh; cases hh
  | getfield p =>
    dsimp only [hz_sem] at hh
    split at hh
    · split at hh
      · rw [cond_eq_ite] at hh
        split at hh
        · split at hh
          · exact hk _ _ _ _ hh
          · cases hh
        · cases hh
      · cases hh
    · cases hh
  | putfield p =>
    dsimp only [hz_sem] at hh
    split at hh
    · split at hh
      · rename_i t fs e
        rw [cond_eq_ite] at hh
        split at hh
        · exact hz_mo_set hk e (by rw [List.length_set]) hh
        · cases hh
      · cases hh
    · cases hh
  | new t =>
    dsimp only [hz_sem] at hh
    rw [cond_eq_ite] at hh
    split at hh
    · exact hz_mo_app hk hh
    · cases hh
  | newarray a =>
    dsimp only [hz_sem] at hh
    split at hh
    · rw [cond_eq_ite] at hh
      split at hh
      · split at hh
        · exact hz_mo_app hk hh
        · cases hh
      · cases hh
    · cases hh
  | anewarray t =>
    dsimp only [hz_sem] at hh
    split at hh
    · rw [cond_eq_ite] at hh
      split at hh
      · split at hh
        · exact hz_mo_app hk hh
        · cases hh
      · cases hh
    · cases hh
  | iastore =>
    dsimp only [hz_sem] at hh
    split at hh
    · split at hh
      · rename_i t fs e
        rw [cond_eq_ite] at hh
        split at hh
        · split at hh
          · exact hz_mo_set hk e (by rw [List.length_set]) hh
          · cases hh
        · cases hh
      · cases hh
    · cases hh
  | castore =>
    dsimp only [hz_sem] at hh
    split at hh
    · split at hh
      · rename_i t fs e
        rw [cond_eq_ite] at hh
        split at hh
        · split at hh
          · exact hz_mo_set hk e (by rw [List.length_set]) hh
          · cases hh
        · cases hh
      · cases hh
    · cases hh
  | aastore =>
    dsimp only [hz_sem] at hh
    split at hh
    · split at hh
      · rename_i t fs t' fs' e e'
        split at hh
        · rw [cond_eq_ite] at hh
          split at hh
          · split at hh
            · exact hz_mo_set hk e (by rw [List.length_set]) hh
            · cases hh
          · cases hh
        · cases hh
      · cases hh
    · cases hh
  | if_icmp c b =>
    dsimp only [hz_sem] at hh
    split at hh
    · split at hh
      · split at hh
        · exact hr _ _ _ _ _ hh
        · exact hk _ _ _ _ hh
      · cases hh
    · cases hh
  | goto b => exact hr _ _ _ _ _ hh
  | goto_w b => exact hr _ _ _ _ _ hh
  | invokespecial q =>
    dsimp only [hz_sem] at hh
    rw [cond_eq_ite] at hh
    split at hh
    · split at hh
      · split at hh
        · rw [cond_eq_ite] at hh
          split at hh
          · exact hk _ _ _ _ hh
          · cases hh
        · cases hh
      · rw [cond_eq_ite] at hh
        split at hh
        · split at hh
          · obtain ⟨h1, e1, e2⟩ := Option.bind_eq_some_iff.mp hh
            have a1 := hc _ _ _ _ e1
            have a2 := hk _ _ _ _ e2
            omega
          · cases hh
        · cases hh
    · cases hh
  | return_ =>
    dsimp only [hz_sem] at hh
    split at hh
    · cases hh; exact ⟨Nat.le_refl _, Nat.le_refl _⟩
    · cases hh
  | _ => exact absurd (show (none : Rz) = some h' from hh) (by simp)
theorem hz_ex_mono (hr : ∀ b, hz_Mo (rc b)) (hc : ∀ q as h h', cl q as h = some h' → h.length ≤ h'.length ∧ hz_sz h ≤ hz_sz h') : ∀ ops, hz_Mo (hz_ex dz rc cl ops) := by
  intro ops
  induction ops with
  | nil => intro lv st h h' hh; cases hh
  | cons op ops ih => exact hz_mono hr hc ih op
theorem hz_run_mono : ∀ n d y b, hz_Mo (hz_run n d y b) := by
  intro n
  induction n with
  | zero => intro d y b lv st h h' hh; cases hh
  | succ n ih =>
    intro d y b
    refine hz_ex_mono (fun b' => ih d y b') ?_ _
    intro q as h h' hh
    cases d with
    | zero => cases hh
    | succ d' =>
      dsimp only at hh
      rw [cond_eq_ite] at hh
      split at hh
      · exact ih _ _ _ _ _ _ _ hh
      · cases hh
end HZM
def hz_LV (G : hy_G) (ls : Array Slot) (nL : Nat) (lv : List Value) : Prop := lv.length = nL ∧ ls.size = nL ∧ lv_wf ls ∧ ∀ (i : Nat) (v : Value), lv[i]? = some v → v ≠ .null → ls[i]? = some (.val (hz_cv G v))
def hz_KU (G : hy_G) (U : State) : Prop := va_K (hy_D G) hy_cl (hy_tys G) U ∧ (∀ q ∈ hz_ML, q.2.2.1 % 2 = 1 → va_Nw (.methodLinkNest (hy_cn q.1) q.2.1 (hz_m (q.2.2.1 / 2)).1 "HayBoard") U) ∧ ∀ C ∈ hz_RC, va_AO C U
theorem hz_KU_moved {G : hy_G} {s U : State} (h : hz_KU G s) (hW : s.WarmedH U.vm) : hz_KU G U := ⟨va_K.moved hW.alike h.1, fun q hq hn => va_Nw.warmM hW (h.2.1 q hq hn), fun C hC => va_AO.moved hW.alike (h.2.2 C hC)⟩
theorem hz_wl_get (G : hy_G) {h : Hp} {a : Nat} {c : Ce} (e : h[a]? = some c) : (hz_wl G h)[a]? = some (hy_base G + a, hz_cell G c) := by
  unfold hz_wl
  rw [List.getElem?_map, List.getElem?_range (List.getElem?_eq_some_iff.mp e).1]
  simp [List.getD_eq_getElem?_getD, e]
theorem hz_wl_len (G : hy_G) (h : Hp) : (hz_wl G h).length = h.length := by simp [hz_wl]
theorem hz_wl_set (G : hy_G) {h : Hp} {a : Nat} {c : Ce} (ha : a < h.length) {e : va_E} (he : hz_cell G c = e) : (hz_wl G h).set a (hy_base G + a, e) = hz_wl G (h.set a c) := by
  subst he
  apply List.ext_getElem?
  intro j
  by_cases hj : a = j
  · subst hj
    rw [List.getElem?_set_self (by rw [hz_wl_len]; exact ha), hz_wl_get G (c := c) (List.getElem?_set_self ha)]
  · rw [List.getElem?_set_ne hj]
    by_cases hl : j < h.length
    · obtain ⟨c', hc'⟩ : ∃ c', h[j]? = some c' := ⟨_, List.getElem?_eq_getElem hl⟩
      rw [hz_wl_get G hc', hz_wl_get G (c := c') (by rw [List.getElem?_set_ne hj]; exact hc')]
    · rw [List.getElem?_eq_none (by rw [hz_wl_len]; omega), List.getElem?_eq_none (by rw [hz_wl_len, List.length_set]; omega)]
theorem hz_wl_app (G : hy_G) (h : Hp) (c : Ce) : hz_wl G (h ++ [c]) = hz_wl G h ++ [(hy_base G + h.length, hz_cell G c)] := by
  apply List.ext_getElem?
  intro j
  by_cases hl : j < h.length
  · obtain ⟨c', hc'⟩ : ∃ c', h[j]? = some c' := ⟨_, List.getElem?_eq_getElem hl⟩
    rw [hz_wl_get G (c := c') (by rw [List.getElem?_append_left hl]; exact hc'), List.getElem?_append_left (by rw [hz_wl_len]; exact hl), hz_wl_get G hc']
  · by_cases he : j = h.length
    · subst he
      rw [hz_wl_get G (c := c) (by simp), List.getElem?_append_right (by rw [hz_wl_len]; omega), hz_wl_len, Nat.sub_self]
      rfl
    · rw [List.getElem?_eq_none (by rw [hz_wl_len, List.length_append]; simp; omega), List.getElem?_eq_none (by rw [List.length_append, hz_wl_len]; simp; omega)]
def hz_Kt (p : Program) (l : Launch) (e : Env) (R : Room) (s : State) (m : MethodId) (args : Array Value) (below : List Frame) (meth : Method) (c : Code) (Q : State → Prop) (y : Nat) (G : hy_G) (n0 s0 : Nat) (h' : Hp) (k : List Value → List Value → Hp → Rz) (pc : Nat) : Prop :=
  ∀ (lv st : List Value) (h : Hp) (H : Heap) (locs : List Loc) (ls : Array Slot), k lv st h = some h' → n0 ≤ h.length → s0 ≤ hz_sz h → hz_HR G h H → va_S (hy_A G) s.heap H locs → hz_LV G ls (hz_mx y) lv →
    W p l e R s m args below meth c H locs (h.length - n0) (hz_sz h - s0) Q (F0 m pc ls (st.map (hz_cv G)))
abbrev hz_Cx (p : Program) (c : Code) (s : State) (m : MethodId) (args : Array Value) (y : Nat) : Prop := p.tables.exec = Jvm.exec ∧ c.code = hz_b y ∧ s.vm.findClass (hy_cn (hz_own y)) = some m.cls ∧ ∀ w ∈ hy_TB, w.before args s = true
section HZS
variable {p : Program} {l : Launch} {e : Env} {R : Room} {s : State} {m : MethodId} {args : Array Value} {below : List Frame} {meth : Method} {c : Code} {Q : State → Prop} {y : Nat} {G : hy_G} {n0 s0 : Nat} {h' : Hp} {k : List Value → List Value → Hp → Rz} {pc : Nat}
variable {dz : Bool} {rc : Nat → List Value → List Value → Hp → Rz} {cl : Nat → List Value → Hp → Rz}
/-- the heap's size is known by the cells counted -/
theorem hz_size {h : Hp} {H : Heap} {locs : List Loc} {sl : Nat} {g : JFrame} (hb : s.heap.size = hy_base G + n0) (hn : n0 ≤ h.length) (hP : va_P (hy_D G) hy_cl (hz_wl G h) H) (hS : va_S (hy_A G) s.heap H locs)
    (k : H.size = hy_base G + h.length → W p l e R s m args below meth c H locs (h.length - n0) sl Q g) : W p l e R s m args below meth c H locs (h.length - n0) sl Q g := by
  intro T hT X
  have h1 := X.heapSize
  rw [hT] at h1
  refine k ?_ T hT X
  have h2 := hS.1
  by_cases hz : n0 = h.length
  · omega
  · have hlt : h.length - 1 < h.length := by omega
    have := (hP _ _ (hz_wl_get G (List.getElem?_eq_getElem hlt))).lt
    dsimp only at this
    omega
/-- behind a store into cell a -/
theorem hz_store {h : Hp} {a : Nat} {cc : Ce} {e0 : Ce} {lv : List Value} {rest : List Value} {H1 : Heap} {locs1 : List Loc} {ls : Array Slot} (hb : s.heap.size = hy_base G + n0) (he : h[a]? = some e0) (hl : cc.2.length = e0.2.length) {ev : va_E} (hev : hz_cell G cc = ev)
    (hk : k lv rest (h.set a cc) = some h') (hn : n0 ≤ h.length) (hs0 : s0 ≤ hz_sz h) (hP : va_P (hy_D G) hy_cl ((hz_wl G h).set a (hy_base G + a, ev)) H1) (hD : va_D (hy_A G) ((hz_wl G h).set a (hy_base G + a, ev))) (hS1 : va_S (hy_A G) s.heap H1 locs1) (hlv : hz_LV G ls (hz_mx y) lv)
    (K : hz_Kt p l e R s m args below meth c Q y G n0 s0 h' k pc) : W p l e R s m args below meth c H1 locs1 (h.length - n0) (hz_sz h - s0) Q (F0 m pc ls (rest.map (hz_cv G))) := by
  have ha := (List.getElem?_eq_some_iff.mp he).1
  rw [hz_wl_set G ha hev] at hP hD
  have e1 : hz_sz (h.set a cc) = hz_sz h := by
    obtain ⟨t', fs'⟩ := cc
    obtain ⟨t, fs⟩ := e0
    exact hz_sz_set he hl
  have e2 : (h.set a cc).length = h.length := List.length_set
  have := hz_size (p := p) (l := l) (e := e) (R := R) (m := m) (args := args) (below := below) (meth := meth) (c := c) (Q := Q) (sl := hz_sz (h.set a cc) - s0) (g := F0 m pc ls (rest.map (hz_cv G))) hb (by rw [e2]; exact hn) hP hS1 (fun hsz => K _ _ _ _ _ _ hk (by rw [e2]; exact hn) (by rw [e1]; exact hs0) ⟨hP, hD, hsz⟩ hS1 hlv)
  rw [e1, e2] at this
  exact this
end HZS
end
section
/-! MACHINE 2 AGAINST THE JVM: instructions -/
theorem hz_asc {G : hy_G} {lv : List Value} : ∃ l : List (Nat × Value), (∀ (i : Nat) (v : Value), lv[i]? = some v → v ≠ .null → (i, hz_cv G v) ∈ l) ∧ ∀ q ∈ l, ∃ v, lv[q.1]? = some v ∧ v ≠ .null ∧ q.2 = hz_cv G v := by
  refine ⟨(List.range lv.length).filterMap fun i => (lv[i]?).bind fun v => if v = .null then none else some (i, hz_cv G v), fun i v h hn => ?_, fun q hq => ?_⟩
  · refine List.mem_filterMap.mpr ⟨i, List.mem_range.mpr (List.getElem?_eq_some_iff.mp h).1, ?_⟩
    rw [h]
    simp [hn]
  · obtain ⟨i, hi, he⟩ := List.mem_filterMap.mp hq
    cases hv : lv[i]? with
    | none => rw [hv] at he; cases he
    | some v =>
      rw [hv] at he
      simp only [Option.bind_some] at he
      by_cases hn : v = .null
      · rw [if_pos hn] at he; cases he
      · rw [if_neg hn] at he
        cases he
        exact ⟨v, hv, hn, rfl⟩
theorem hz_cat1 {G : hy_G} {v : Value} : (hz_cv G v).category = v.category := by cases v <;> rfl
theorem hz_LV_set {G : hy_G} {ls' : Array Slot} {nL i : Nat} {lv : List Value} {v : Value} {l : List (Nat × Value)} (h0 : lv.length = nL) (hall : lv.all (fun v => Nat.beq v.category 1) = true) (hm : ∀ (i : Nat) (v : Value), lv[i]? = some v → v ≠ .null → (i, hz_cv G v) ∈ l)
    (h : lv_has ls' nL ((i, hz_cv G v) :: l.filter (fun q => !(q.1 == i) && !(q.1 + 1 == i && q.2.category == 2)))) : hz_LV G ls' nL (lv.set i v) := by
  obtain ⟨h1, h2, h3⟩ := h
  refine ⟨by rw [List.length_set]; exact h0, h1, h2, fun j w hj hn => ?_⟩
  by_cases hji : i = j
  · subst hji
    have hl : i < lv.length := by
      have := (List.getElem?_eq_some_iff.mp hj).1
      rwa [List.length_set] at this
    rw [List.getElem?_set_self hl] at hj
    cases hj
    exact h3 (i, hz_cv G v) List.mem_cons_self
  · rw [List.getElem?_set_ne hji] at hj
    refine h3 (j, hz_cv G w) (List.mem_cons_of_mem _ (List.mem_filter.mpr ⟨hm _ _ hj hn, ?_⟩))
    have hc : w.category = 1 := Nat.eq_of_beq_eq_true (List.all_eq_true.mp hall w (List.mem_of_getElem? hj))
    have hne : (j == i) = false := by simp [Ne.symm hji]
    simp [hne, hz_cat1, hc]
theorem hz_ra_in {t kd off sd : Nat} {n : Int} (h : hy_ra t = some (n, kd, off, sd)) : 10 ≤ t ∧ t ≤ 13 ∧ 1 ≤ kd ∧ kd ≤ 9 ∧ (t = 10 ∧ hy_cn kd = "HayBoard$Law" ∨ t = 11 ∧ hy_cn kd = "HayBoard$Sheet" ∨ t = 12 ∧ hy_cn kd = "HayBoard$Slot" ∨ t = 13 ∧ hy_cn kd = "HayBoard$Bale") := by
  unfold hy_ra at h
  split at h <;> first | (cases h; exact ⟨by decide, by decide, by decide, by decide, by decide +kernel⟩) | cases h
section HZS
variable {p : Program} {l : Launch} {e : Env} {R : Room} {s : State} {m : MethodId} {args : Array Value} {below : List Frame} {meth : Method} {c : Code} {Q : State → Prop} {y : Nat} {G : hy_G} {n0 s0 : Nat} {h' : Hp} {k : List Value → List Value → Hp → Rz} {pc : Nat}
variable {dz : Bool} {rc : Nat → List Value → List Value → Hp → Rz} {cl : Nat → List Value → Hp → Rz}
theorem hz_s_bipush {n : Int} {ins : Instr} {len : Nat} (C : hz_Cx p c s m args y) (hd : decode (hz_b y) pc = .ok (ins, len)) (hok : hz_ok y pc (.bipush n) ins len = true) (K : hz_Kt p l e R s m args below meth c Q y G n0 s0 h' k (pc + len)) : hz_Kt p l e R s m args below meth c Q y G n0 s0 h' (hz_sem dz rc cl (.bipush n) k) pc := by
  intro lv st h H locs ls hh hn hs hH hS hl
  dsimp only [hz_sem] at hh
  obtain ⟨hx, hb, hown, hts⟩ := C
  have hK := K _ _ _ _ _ _ hh hn hs hH hS hl
  simp only [hz_ok, Bool.or_eq_true, decide_eq_true_eq, Prod.mk.injEq, List.any_eq_true, Bool.and_eq_true] at hok
  rcases hok with ((⟨rfl, rfl⟩ | ⟨⟨rfl, rfl⟩, hv⟩) | ⟨⟨rfl, rfl⟩, hv⟩) | ⟨q, hq, ⟨hq1, hq2⟩, hi⟩
  · exact lv_iconst hx hb hd rfl hK
  · exact lv_bipush hx hb hd hv hK
  · exact lv_sipush hx hb hd hv hK
  · have hw := hts _ (hy_wAt_mem (List.all_eq_true.mp hy_ct_ok q hq))
    rw [hq2, hq1] at hw
    rcases hi with ⟨rfl, rfl⟩ | ⟨rfl, rfl⟩
    · exact lv_ldc hx hb hown hw hd hK
    · exact lv_ldcw hx hb hown hw hd hK
theorem hz_s_iload {i n : Nat} (hx : p.tables.exec = Jvm.exec) (hb : c.code = hz_b y) (hd : decode (hz_b y) pc = .ok (.iload i, 2) ∧ n = 2 ∨ ∃ j : Fin 4, (j : Nat) = i ∧ decode (hz_b y) pc = .ok (.iload_n j, 1) ∧ n = 1) (K : hz_Kt p l e R s m args below meth c Q y G n0 s0 h' k (pc + n)) : hz_Kt p l e R s m args below meth c Q y G n0 s0 h' (hz_sem dz rc cl (.iload i) k) pc := by
  intro lv st h H locs ls hh hn hs hH hS hl
  dsimp only [hz_sem] at hh
  split at hh
  · rename_i x hi
    have hK := K _ _ _ _ _ _ hh hn hs hH hS hl
    have ha := hl.2.2.2 i _ hi (fun z => by cases z)
    rcases hd with ⟨hd, rfl⟩ | ⟨j, hj, hd, rfl⟩
    · exact lv_iload hx hb hd ha hK
    · exact lv_iload_n hx hb hd hj ha hK
  · cases hh
theorem hz_s_aload {i n : Nat} (hx : p.tables.exec = Jvm.exec) (hb : c.code = hz_b y) (hd : decode (hz_b y) pc = .ok (.aload i, 2) ∧ n = 2 ∨ ∃ j : Fin 4, (j : Nat) = i ∧ decode (hz_b y) pc = .ok (.aload_n j, 1) ∧ n = 1) (K : hz_Kt p l e R s m args below meth c Q y G n0 s0 h' k (pc + n)) : hz_Kt p l e R s m args below meth c Q y G n0 s0 h' (hz_sem dz rc cl (.aload i) k) pc := by
  intro lv st h H locs ls hh hn hs hH hS hl
  dsimp only [hz_sem] at hh
  split at hh
  · rename_i x hi
    have hK := K _ _ _ _ _ _ hh hn hs hH hS hl
    have ha := hl.2.2.2 i _ hi (fun z => by cases z)
    rcases hd with ⟨hd, rfl⟩ | ⟨j, hj, hd, rfl⟩
    · exact lv_aload hx hb hd ha hK
    · exact lv_aload_n hx hb hd hj ha hK
  · cases hh
theorem hz_s_istore {i n : Nat} (hx : p.tables.exec = Jvm.exec) (hb : c.code = hz_b y) (hd : decode (hz_b y) pc = .ok (.istore i, 2) ∧ n = 2 ∨ ∃ j : Fin 4, (j : Nat) = i ∧ decode (hz_b y) pc = .ok (.istore_n j, 1) ∧ n = 1) (K : hz_Kt p l e R s m args below meth c Q y G n0 s0 h' k (pc + n)) : hz_Kt p l e R s m args below meth c Q y G n0 s0 h' (hz_sem dz rc cl (.istore i) k) pc := by
  intro lv st h H locs ls hh hn hs hH hS hl
  dsimp only [hz_sem] at hh
  split at hh
  · rw [cond_eq_ite] at hh
    split at hh
    · rename_i hc
      rw [Bool.and_eq_true] at hc
      obtain ⟨lA, hm1, hm2⟩ := hz_asc (G := G) (lv := lv)
      have has : lv_has ls (hz_mx y) lA := ⟨hl.2.1, hl.2.2.1, fun q hq => by
        obtain ⟨v, h1, h2, h3⟩ := hm2 q hq
        rw [h3]; exact hl.2.2.2 _ _ h1 h2⟩
      have hi : i < hz_mx y := by rw [← hl.1]; exact Nat.le_of_ble_eq_true hc.1
      have hK := fun ls' (h' : lv_has ls' (hz_mx y) _) => K _ _ _ _ _ _ hh hn hs hH hS (hz_LV_set (ls' := ls') hl.1 hc.2 hm1 h')
      rcases hd with ⟨hd, rfl⟩ | ⟨j, hj, hd, rfl⟩
      · exact lv_istore hx hb hd has hi rfl hK
      · exact lv_istore_n hx hb hd hj has hi rfl hK
    · cases hh
  · cases hh
theorem hz_s_iinc {i : Nat} {z : Int} (hx : p.tables.exec = Jvm.exec) (hb : c.code = hz_b y) (hd : decode (hz_b y) pc = .ok (.iinc i z, 3)) (K : hz_Kt p l e R s m args below meth c Q y G n0 s0 h' k (pc + 3)) : hz_Kt p l e R s m args below meth c Q y G n0 s0 h' (hz_sem dz rc cl (.iinc i z) k) pc := by
  intro lv st h H locs ls hh hn hs hH hS hl
  dsimp only [hz_sem] at hh
  split at hh
  · rename_i x hi
    rw [cond_eq_ite] at hh
    split at hh
    · rename_i hc
      obtain ⟨lA, hm1, hm2⟩ := hz_asc (G := G) (lv := lv)
      have has : lv_has ls (hz_mx y) lA := ⟨hl.2.1, hl.2.2.1, fun q hq => by
        obtain ⟨v, h1, h2, h3⟩ := hm2 q hq
        rw [h3]; exact hl.2.2.2 _ _ h1 h2⟩
      obtain ⟨j, hj⟩ := List.getElem?_of_mem (hm1 i _ hi (fun z => by cases z))
      have hlt : i < hz_mx y := by rw [← hl.1]; exact (List.getElem?_eq_some_iff.mp hi).1
      exact lv_iinc hx hb hd has hj rfl hlt rfl (fun ls' h' => K _ _ _ _ _ _ hh hn hs hH hS (hz_LV_set (ls' := ls') hl.1 hc hm1 h'))
    · cases hh
  · cases hh
theorem hz_s_dup (hx : p.tables.exec = Jvm.exec) (hb : c.code = hz_b y) (hd : decode (hz_b y) pc = .ok (.dup, 1)) (K : hz_Kt p l e R s m args below meth c Q y G n0 s0 h' k (pc + 1)) : hz_Kt p l e R s m args below meth c Q y G n0 s0 h' (hz_sem dz rc cl .dup k) pc := by
  intro lv st h H locs ls hh hn hs hH hS hl
  dsimp only [hz_sem] at hh
  split at hh
  · exact lv_dup hx hb hd rfl (K _ _ _ _ _ _ hh hn hs hH hS hl)
  · cases hh
theorem hz_s_if {cc : Jvm.ClassFile.Cond} {b off : Int} (hx : p.tables.exec = Jvm.exec) (hb : c.code = hz_b y) (hd : decode (hz_b y) pc = .ok (.if_icmp cc off, 3)) (ht : (pc : Int) + off = ((hz_blk y b.toNat).1 : Nat)) (Kb : hz_Kt p l e R s m args below meth c Q y G n0 s0 h' (rc b.toNat) (hz_blk y b.toNat).1) (K : hz_Kt p l e R s m args below meth c Q y G n0 s0 h' k (pc + 3)) : hz_Kt p l e R s m args below meth c Q y G n0 s0 h' (hz_sem dz rc cl (.if_icmp cc b) k) pc := by
  intro lv st h H locs ls hh hn hs hH hS hl
  dsimp only [hz_sem] at hh
  split at hh
  · split at hh
    · exact lv_icmp_ge hx hb hd ht (fun z => Kb _ _ _ _ _ _ (by rwa [if_pos z] at hh) hn hs hH hS hl) (fun z => K _ _ _ _ _ _ (by rwa [if_neg z] at hh) hn hs hH hS hl)
    · cases hh
  · cases hh
theorem hz_s_goto {b off : Int} (hx : p.tables.exec = Jvm.exec) (hb : c.code = hz_b y) (hd : decode (hz_b y) pc = .ok (.goto off, 3)) (ht : (pc : Int) + off = ((hz_blk y b.toNat).1 : Nat)) (Kb : hz_Kt p l e R s m args below meth c Q y G n0 s0 h' (rc b.toNat) (hz_blk y b.toNat).1) : hz_Kt p l e R s m args below meth c Q y G n0 s0 h' (hz_sem dz rc cl (.goto b) k) pc := by
  intro lv st h H locs ls hh hn hs hH hS hl
  exact lv_goto hx hb hd ht (Kb _ _ _ _ _ _ hh hn hs hH hS hl)
theorem hz_s_getfield {pf : Nat} {q : Nat × Nat × Nat × Nat} (C : hz_Cx p c s m args y) (hU : hz_KU G s) (hq : q ∈ hy_FL) (hq1 : q.1 = hz_own y) (hq2 : q.2.2.1 = pf) (hd : decode (hz_b y) pc = .ok (.getfield q.2.1, 3)) (K : hz_Kt p l e R s m args below meth c Q y G n0 s0 h' k (pc + 3)) : hz_Kt p l e R s m args below meth c Q y G n0 s0 h' (hz_sem dz rc cl (.getfield pf) k) pc := by
  intro lv st h H locs ls hh hn hs hH hS hl
  dsimp only [hz_sem] at hh
  obtain ⟨hx, hb, hown, hts⟩ := C
  subst hq2
  obtain ⟨hk1, hk9, hkN, -⟩ := of_decide_eq_true (List.all_eq_true.mp hy_FL_in q hq)
  have hw := hts _ (hy_wAt_mem (List.all_eq_true.mp hy_fl_ok q hq))
  split at hh
  · split at hh
    · rename_i a st' xo t fs ea
      rw [cond_eq_ite] at hh
      split at hh
      · rename_i ht
        have e1 := hy_beq ht
        subst e1
        split at hh
        · rename_i v ev
          have he := hz_wl_get G ea
          have hc9 : hz_cell G (q.2.2.1 / 64, fs) = .inr (q.2.2.1 / 64 - 1, fs.map (hz_cv G)) := by
            unfold hz_cell; rw [if_pos hk9]
          rw [hc9] at he
          refine va_get (D := hy_D G) (C := hy_cn (q.2.2.1 / 64)) (T := hy_T (q.2.2.1 / 64)) (N := hy_N (q.2.2.1 / 64)) (own := hy_cn q.1) (ref := hy_cn (q.2.2.1 / 64)) hx hb hts (hy_in hk9) (by rw [hq1]; exact hown) hU.1 hH.1 a he (hy_clk hk1 hk9) (q.2.2.1 % 64) hkN hw (fun x hx => by rw [hy_decl hk9 hkN] at hx; exact hx) (v := hz_cv G v) (by rw [List.getElem?_map, ev]; rfl) hd ?_
          exact K _ _ _ _ _ _ hh hn hs hH hS hl
        · cases hh
      · cases hh
    · cases hh
  · cases hh
theorem hz_ty_ref : hy_FL.all (fun q => match hy_fr q.2.2.1 with | some _ => (match hy_ty (q.2.2.1 / 64) (q.2.2.1 % 64) with | .object _ => true | .array _ => true | _ => false) | none => Nat.beq q.2.2.1 69 || Nat.beq q.2.2.1 579 || decide (hy_ty (q.2.2.1 / 64) (q.2.2.1 % 64) = .int)) = true := by decide +kernel
theorem hz_s_putfield {pf : Nat} {q : Nat × Nat × Nat × Nat} (C : hz_Cx p c s m args y) (hU : hz_KU G s) (hin : meth.name = "<init>") (hb0 : s.heap.size = hy_base G + n0) (ho : pf / 64 = hz_own y) (hq : q ∈ hy_FL) (hq1 : q.1 = hz_own y) (hq2 : q.2.2.1 = pf) (hd : decode (hz_b y) pc = .ok (.putfield q.2.1, 3)) (K : hz_Kt p l e R s m args below meth c Q y G n0 s0 h' k (pc + 3)) : hz_Kt p l e R s m args below meth c Q y G n0 s0 h' (hz_sem dz rc cl (.putfield pf) k) pc := by
  intro lv st h H locs ls hh hn hs hH hS hl
  dsimp only [hz_sem] at hh
  obtain ⟨hx, hb, hown, hts⟩ := C
  subst hq2
  obtain ⟨hk1, hk9, hkN, -⟩ := of_decide_eq_true (List.all_eq_true.mp hy_FL_in q hq)
  have hw := hts _ (hy_wAt_mem (List.all_eq_true.mp hy_fl_ok q hq))
  have htr := List.all_eq_true.mp hz_ty_ref q hq
  split at hh
  · split at hh
    · rename_i v a st' xo t fs ea
      rw [cond_eq_ite] at hh
      split at hh
      · rename_i hc
        rw [Bool.and_eq_true, Bool.and_eq_true] at hc
        obtain ⟨ht, hfit, hlt⟩ := hc
        have e1 := hy_beq ht
        subst e1
        have hlt' : q.2.2.1 % 64 < fs.length := Nat.le_of_ble_eq_true hlt
        have he := hz_wl_get G ea
        have hc9 : ∀ fs', hz_cell G (q.2.2.1 / 64, fs') = .inr (q.2.2.1 / 64 - 1, fs'.map (hz_cv G)) := fun fs' => by
          unfold hz_cell; rw [if_pos hk9]
        rw [hc9] at he
        have hty := hy_tyk hk9 _ hkN
        have hnf : narrow (hy_ty (q.2.2.1 / 64) (q.2.2.1 % 64)) (hz_cv G v) = hz_cv G v ∧ fits (hy_ty (q.2.2.1 / 64) (q.2.2.1 % 64)) (hz_cv G v) = true := by
          unfold hz_fit at hfit
          split at hfit
          · rename_i x hfr
            rw [hfr] at htr
            dsimp only at htr
            rw [Bool.or_eq_true] at htr
            have ei : hy_ty (q.2.2.1 / 64) (q.2.2.1 % 64) = .int := by
              rcases htr with z | z
              · rw [z] at hfit; cases hfit
              · exact of_decide_eq_true z
            rw [ei]
            exact ⟨rfl, rfl⟩
          · rename_i x w hfr
            rw [hfr] at htr
            dsimp only at htr
            split at htr
            · rename_i n ei; rw [ei]; exact ⟨rfl, rfl⟩
            · rename_i n ei; rw [ei]; exact ⟨rfl, rfl⟩
            · cases htr
          · cases hfit
        have go : ∀ (H1 : Heap) (locs1 : List Loc), va_P (hy_D G) hy_cl ((hz_wl G h).set a (hy_base G + a, .inr (q.2.2.1 / 64 - 1, (fs.map (hz_cv G)).set (q.2.2.1 % 64) (hz_cv G v)))) H1 → va_D (hy_A G) ((hz_wl G h).set a (hy_base G + a, .inr (q.2.2.1 / 64 - 1, (fs.map (hz_cv G)).set (q.2.2.1 % 64) (hz_cv G v)))) → va_S (hy_A G) s.heap H1 locs1 → W p l e R s m args below meth c H1 locs1 (h.length - n0) (hz_sz h - s0) Q (F0 m (pc + 3) ls (st'.map (hz_cv G))) :=
          fun H1 locs1 hP hD hS1 => hz_store hb0 ea (List.length_set) (by rw [hc9, List.map_set]) hh hn hs hP hD hS1 hl K
        cases hfin : (hy_T (q.2.2.1 / 64) (q.2.2.1 % 64)).2.2.2 with
        | false => exact va_put (D := hy_D G) (C := hy_cn (q.2.2.1 / 64)) (T := hy_T (q.2.2.1 / 64)) (N := hy_N (q.2.2.1 / 64)) (own := hy_cn q.1) (ref := hy_cn (q.2.2.1 / 64)) hx hb hts (hy_in hk9) (hy_ty (q.2.2.1 / 64)) (hy_tyk hk9) (hy_nmk hk9) (by rw [hq1]; exact hown) hU.1 hH.1 hH.2.1 hS a he (hy_clk hk1 hk9) (q.2.2.1 % 64) hkN hw (fun x hx => by rw [hy_decl hk9 hkN] at hx; exact hx) hfin hty hnf.1 hnf.2 (by rw [List.length_map]; exact hlt') hd go
        | true => exact va_putF (D := hy_D G) (C := hy_cn (q.2.2.1 / 64)) (T := hy_T (q.2.2.1 / 64)) (N := hy_N (q.2.2.1 / 64)) (own := hy_cn q.1) (ref := hy_cn (q.2.2.1 / 64)) hx hb hts (hy_in hk9) (hy_ty (q.2.2.1 / 64)) (hy_tyk hk9) (hy_nmk hk9) (by rw [hq1]; exact hown) hU.1 hH.1 hH.2.1 hS a he (hy_clk hk1 hk9) (q.2.2.1 % 64) hkN hw (fun x hx => by rw [hy_decl hk9 hkN] at hx; exact hx) hfin hin (by rw [hy_decl hk9 hkN, hq1, ho]) hty hnf.1 hnf.2 (by rw [List.length_map]; exact hlt') hd go
      · cases hh
    · cases hh
  · cases hh
theorem hz_s_iastore (C : hz_Cx p c s m args y) (hU : hz_KU G s) (hb0 : s.heap.size = hy_base G + n0) (hd : decode (hz_b y) pc = .ok (.iastore, 1)) (K : hz_Kt p l e R s m args below meth c Q y G n0 s0 h' k (pc + 1)) : hz_Kt p l e R s m args below meth c Q y G n0 s0 h' (hz_sem dz rc cl .iastore k) pc := by
  intro lv st h H locs ls hh hn hs hH hS hl
  dsimp only [hz_sem] at hh
  obtain ⟨hx, hb, hown, hts⟩ := C
  split at hh
  · split at hh
    · rename_i x i a st' xo t es ea
      rw [cond_eq_ite] at hh
      split at hh
      · rename_i ht
        have e1 := hy_beq ht
        subst e1
        split at hh
        · rename_i hi
          have he := hz_wl_get G ea
          have hc9 : ∀ es', hz_cell G (14, es') = .inl (hy_cy G 0, es'.length, .inl fun j => hz_io (es'.getD j (.int 0))) := fun es' => rfl
          rw [hc9] at he
          have hv := hy_vin hi
          have hix : hy_ix i < es.length := Nat.not_le.mp fun z => hv (Or.inr z)
          refine va_iast (D := hy_D G) hx hb hU.1 hH.1 hH.2.1 hS a 0 he rfl hv hd (fun H1 locs1 hP hD hS1 => ?_)
          refine hz_store hb0 ea (List.length_set) ?_ hh hn hs hP hD hS1 hl K
          rw [hc9, List.length_set]
          congr 4
          funext j
          unfold upd
          by_cases hj : j = i.toNatClampNeg
          · subst hj
            rw [if_pos rfl, List.getD_eq_getElem?_getD]
            show hz_io (((es.set (hy_ix i) (.int x))[hy_ix i]?).getD _) = x
            rw [List.getElem?_set_self hix]
            rfl
          · rw [if_neg hj, List.getD_eq_getElem?_getD]
            show hz_io (((es.set (hy_ix i) (.int x))[j]?).getD _) = hz_io (es.getD j (.int 0))
            rw [List.getElem?_set_ne (show hy_ix i ≠ j from fun z => hj z.symm), ← List.getD_eq_getElem?_getD]
        · cases hh
      · cases hh
    · cases hh
  · cases hh
theorem hz_s_castore (C : hz_Cx p c s m args y) (hU : hz_KU G s) (hb0 : s.heap.size = hy_base G + n0) (hd : decode (hz_b y) pc = .ok (.castore, 1)) (K : hz_Kt p l e R s m args below meth c Q y G n0 s0 h' k (pc + 1)) : hz_Kt p l e R s m args below meth c Q y G n0 s0 h' (hz_sem dz rc cl .castore k) pc := by
  intro lv st h H locs ls hh hn hs hH hS hl
  dsimp only [hz_sem] at hh
  obtain ⟨hx, hb, hown, hts⟩ := C
  split at hh
  · split at hh
    · rename_i x i a st' xo t es ea
      rw [cond_eq_ite] at hh
      split at hh
      · rename_i ht
        have e1 := hy_beq ht
        subst e1
        split at hh
        · rename_i hi
          have he := hz_wl_get G ea
          have hc9 : ∀ es', hz_cell G (15, es') = .inl (hy_cy G 1, es'.length, .inl fun j => hz_io (es'.getD j (.int 0))) := fun es' => rfl
          rw [hc9] at he
          have hv := hy_vin hi.1
          have hix : hy_ix i < es.length := Nat.not_le.mp fun z => hv (Or.inr z)
          refine va_cast (D := hy_D G) hx hb hU.1 hH.1 hH.2.1 hS a 1 he rfl hv hd (fun H1 locs1 hP hD hS1 => ?_)
          rw [hi.2] at hP hD
          refine hz_store hb0 ea (List.length_set) ?_ hh hn hs hP hD hS1 hl K
          rw [hc9, List.length_set]
          congr 4
          funext j
          unfold upd
          by_cases hj : j = i.toNatClampNeg
          · subst hj
            rw [if_pos rfl, List.getD_eq_getElem?_getD]
            show hz_io (((es.set (hy_ix i) (.int x))[hy_ix i]?).getD _) = x
            rw [List.getElem?_set_self hix]
            rfl
          · rw [if_neg hj, List.getD_eq_getElem?_getD]
            show hz_io (((es.set (hy_ix i) (.int x))[j]?).getD _) = hz_io (es.getD j (.int 0))
            rw [List.getElem?_set_ne (show hy_ix i ≠ j from fun z => hj z.symm), ← List.getD_eq_getElem?_getD]
        · cases hh
      · cases hh
    · cases hh
  · cases hh
theorem hz_s_aastore (C : hz_Cx p c s m args y) (hU : hz_KU G s) (hb0 : s.heap.size = hy_base G + n0) (hd : decode (hz_b y) pc = .ok (.aastore, 1)) (K : hz_Kt p l e R s m args below meth c Q y G n0 s0 h' k (pc + 1)) : hz_Kt p l e R s m args below meth c Q y G n0 s0 h' (hz_sem dz rc cl .aastore k) pc := by
  intro lv st h H locs ls hh hn hs hH hS hl
  dsimp only [hz_sem] at hh
  obtain ⟨hx, hb, hown, hts⟩ := C
  split at hh
  · split at hh
    · rename_i v i a st' xo xo2 t es t' fs ea ev
      split at hh
      · rename_i n kd off sd hra
        rw [cond_eq_ite] at hh
        split at hh
        · rename_i hc
          rw [Bool.and_eq_true] at hc
          have e1 := hy_beq hc.1
          subst e1
          obtain ⟨g1, g2, g3, g4, g5⟩ := hz_ra_in hra
          split at hh
          · rename_i hi
            have he := hz_wl_get G ea
            have hev := hz_wl_get G ev
            have hc9 : ∀ es', hz_cell G (t, es') = .inl (hy_cy G t, es'.length, .inr (.inr (.inr (.inr fun j => hz_ro G (es'.getD j .null))))) := fun es' => by
              unfold hz_cell; rw [if_neg (show ¬ t ≤ 9 by omega), if_pos (show t ≤ 13 by omega)]
            have hc8 : hz_cell G (t', fs) = .inr (t' - 1, fs.map (hz_cv G)) := by
              unfold hz_cell; rw [if_pos (show t' ≤ 9 by omega)]
            rw [hc9] at he
            rw [hc8] at hev
            have hv := hy_vin hi
            have hix : hy_ix i < es.length := Nat.not_le.mp fun z => hv (Or.inr z)
            have fin : ∀ t0 : Nat, (hy_tys G)[t0]? = some (hy_cy G t, FieldType.object (hy_cn t')) → W p l e R s m args below meth c H locs (h.length - n0) (hz_sz h - s0) Q (F0 m pc ls ((Value.ref v :: Value.int i :: Value.ref a :: st').map (hz_cv G))) := by
              intro t0 ht0
              refine va_astq (D := hy_D G) hx hb hU.1 hH.1 hH.2.1 hS a t0 v (t' - 1) he ht0 hev (hy_clk g3 g4) hv hd (fun H1 locs1 hP hD hS1 => ?_)
              refine hz_store hb0 ea (List.length_set) ?_ hh hn hs hP hD hS1 hl K
              rw [hc9, List.length_set]
              congr 7
              funext j
              unfold va_up
              by_cases hj : j = i.toNatClampNeg
              · subst hj
                rw [if_pos rfl, List.getD_eq_getElem?_getD]
                show hz_ro G (((es.set (hy_ix i) (.ref v))[hy_ix i]?).getD _) = _
                rw [List.getElem?_set_self hix]
                rfl
              · rw [if_neg hj, List.getD_eq_getElem?_getD]
                show hz_ro G (((es.set (hy_ix i) (.ref v))[j]?).getD _) = hz_ro G (es.getD j .null)
                rw [List.getElem?_set_ne (show hy_ix i ≠ j from fun z => hj z.symm), ← List.getD_eq_getElem?_getD]
            rcases g5 with ⟨z, g5⟩ | ⟨z, g5⟩ | ⟨z, g5⟩ | ⟨z, g5⟩
            · exact fin 3 (by rw [g5, z]; rfl)
            · exact fin 4 (by rw [g5, z]; rfl)
            · exact fin 5 (by rw [g5, z]; rfl)
            · exact fin 6 (by rw [g5, z]; rfl)
          · cases hh
        · cases hh
      · cases hh
    · cases hh
  · cases hh
end HZS
end
section
/-! MACHINE 2 AGAINST THE JVM: making, calls, the induction -/
def hz_rm (d mc ms : Nat) : Room := { frames := d, cells := mc, slots := ms, locals := 64 * d }
def hz_ws (y : Nat) : List Jvm.Cond := .code (hz_m y).1 (hz_b y) (hz_mx y) none :: hy_TB
def hz_Pc (G : hy_G) (as : List Value) (h : Hp) : Array Value → State → Prop := va_Pc (as.map (hz_cv G)) (fun U => hz_HR G h U.heap ∧ hz_KU G U)
def hz_Mt (l : Launch) (G : hy_G) (d q : Nat) (as : List Value) (h h1 : Hp) : Prop := Met l (hz_m q).1 (hz_ws q) (hz_rm d (h1.length - h.length) (hz_sz h1 - hz_sz h)) (hz_Pc G as h) (va_Qv (S := Unit) (fun _ => True) (fun _ t => hz_HR G h1 t.heap) (hy_A G)) (h1.length - h.length) (hz_sz h1 - hz_sz h) (hy_A G)
theorem hz_blind (G : hy_G) (as : List Value) (h : Hp) : FrameBlind (hz_Pc G as h) := by
  intro a U g mk hh
  obtain ⟨h0, hH, h1, h2, h3⟩ := hh
  have al : U.vm.Alike (U.calling g mk a).vm := Vm.Alike.refl U.vm
  exact ⟨h0, hH, va_K.moved (u := U) (U := U.calling g mk a) al h1, fun q hq hn => va_Nw.same (u := U) rfl rfl (h2 q hq hn), fun C hC => va_AO.moved (u := U) al (h3 C hC)⟩
theorem hz_tick {f : Nat → Bool} {z : Nat} (h : (List.range 10).all (fun y => Nat.beq y 0 || f y) = true) (h0 : 0 < z) (hz : z < 10) : f z = true := by
  have h1 := hy_all1 h hz
  rw [Bool.or_eq_true] at h1
  rcases h1 with h1 | h1
  · have := hy_beq h1; omega
  · exact h1
theorem hz_code_in {z : Nat} (h0 : 0 < z) (h : z < 10) : Jvm.Cond.code (hz_m z).1 (hz_b z) (hz_mx z) none ∈ hy_TB := by
  have h1 := hz_tick hz_cdOK_all h0 h
  unfold hz_cdOK at h1
  split at h1
  · rename_i n b mx rt he
    obtain ⟨e1, e2, e3⟩ := of_decide_eq_true h1
    have hb : hz_b z = b := by unfold hz_b; simp only [he]
    rw [hb, ← e1, ← e3, show hz_mx z = mx from e2.symm]
    exact List.mem_filter.mpr ⟨List.mem_of_getElem? he, rfl⟩
  · cases h1
theorem hz_facts {z : Nat} (h0 : 0 < z) (h : z < 10) : Jvm.Cond.initialized (hz_m z).1.cls ∈ hy_TB ∧ Jvm.Cond.instanceMethod (hz_m z).1 ∈ hy_TB ∧ Jvm.Cond.instantiable (hz_m z).1.cls (hy_N (hz_own z)) ∈ hy_TB ∧ hy_cn (hz_own z) = (hz_m z).1.cls ∧ (hz_m z).1.name = "<init>" ∧ plainName (hz_m z).1.cls = true ∧ ((hz_m z).1.cls ≠ "java/lang/invoke/MethodHandle" ∧ (hz_m z).1.cls ≠ "java/lang/invoke/VarHandle") ∧ ((parseMethodDescriptor (hz_m z).1.desc).map (fun d => d.parameters.length) = some (hz_na z - 1)) := by
  have h1 := hz_tick hz_one_all h0 h
  unfold hz_one at h1
  simp only [Bool.and_eq_true] at h1
  obtain ⟨⟨⟨⟨⟨⟨⟨a1, a2⟩, a3⟩, a4⟩, a5⟩, a6⟩, a7⟩, a8⟩ := h1
  exact ⟨hy_wAt_mem a1, hy_wAt_mem a2, hy_wAt_mem a3, of_decide_eq_true a4, of_decide_eq_true a5, a6, of_decide_eq_true a7, of_decide_eq_true a8⟩
theorem hz_mx_ok : ∀ z, z < 10 → hz_mx z ≤ 45 := by decide +kernel
theorem hz_KI_ok : ∀ t, t < 10 → 0 < t → (hz_KI.getD t 0 < 10 ∧ 0 < hz_KI.getD t 0 ∧ hz_own (hz_KI.getD t 0) = t) := by decide +kernel
theorem hz_RC_mem : ∀ t, t < 14 → 10 ≤ t → hz_RC.getD (t - 10) "" ∈ hz_RC := by decide +kernel
theorem hz_cats (G : hy_G) {st : List Value} (h : Nat.ble st.length 4 = true) : ((st.map (hz_cv G)).map fun v => v.category).sum ≤ 8 := by
  have h4 := Nat.le_of_ble_eq_true h
  have h2 : ∀ (l : List Value), (l.map fun v => v.category).sum ≤ 2 * l.length := by
    intro l
    induction l with
    | nil => simp
    | cons v l ih =>
      have : v.category ≤ 2 := by cases v <;> simp [Value.category]
      simp only [List.map_cons, List.sum_cons, List.length_cons]
      omega
  have := h2 (st.map (hz_cv G))
  rw [List.length_map] at this
  omega
theorem hz_push {G : hy_G} {h : Hp} {c0 : Ce} {H H1 : Heap} {s : State} {locs : List Loc} {cellV : Nat × va_E} (hH : hz_HR G h H) (hS : va_S (hy_A G) s.heap H locs) (hbs : hy_base G ≤ s.heap.size) (hev : hz_cell G c0 = cellV.2) (hat : va_at (hy_D G) hy_cl (hy_base G + h.length, cellV.2) H1) (z1 : H1.size = H.size + 1) (o1 : ∀ q, q < H.size → H1[q]? = H[q]?) : hz_HR G (h ++ [c0]) H1 ∧ va_S (hy_A G) s.heap H1 locs := by
  obtain ⟨hP, hD, hz⟩ := hH
  have hk : ∀ (k : Nat) (x : Nat × va_E), (hz_wl G h)[k]? = some x → H1[x.1]? = H[x.1]? := fun k x hx => o1 x.1 ((hP k x hx).lt)
  have hA : hy_A G (hy_base G + h.length) := Nat.le_add_right _ _
  refine ⟨⟨?_, ?_, ?_⟩, Nat.le_trans hS.1 (by omega), fun x h1 h2 => (o1 x (Nat.lt_of_lt_of_le h1 hS.1)).trans (hS.2.1 x h1 h2), hS.2.2⟩
  · rw [hz_wl_app, hev]
    refine (hP.kept hk).app (fun k x hx => ?_)
    have hk1 : k < 1 := (List.getElem?_eq_some_iff.mp hx).1
    rw [show k = 0 by omega] at hx
    cases hx
    exact hat
  · rw [hz_wl_app]
    exact hD.push hP (by rw [hz]) hA
  · rw [z1, hz, List.length_append]; rfl
section HZS
variable {p : Program} {l : Launch} {e : Env} {R : Room} {s : State} {m : MethodId} {args : Array Value} {below : List Frame} {meth : Method} {c : Code} {Q : State → Prop} {y : Nat} {G : hy_G} {n0 s0 : Nat} {h' : Hp} {k : List Value → List Value → Hp → Rz} {pc : Nat}
variable {dz : Bool} {rc : Nat → List Value → List Value → Hp → Rz} {cl : Nat → List Value → Hp → Rz}
theorem hz_born : ∀ t, t < 10 → 0 < t → ∀ j, j < hy_N t → defaultValue (hy_ty t j) = (hz_def t).getD j .null := by decide +kernel
theorem hz_def_len (t : Nat) : (hz_def t).length = hy_N t := by simp [hz_def]
theorem hz_def_cv (G : hy_G) (t : Nat) : (hz_def t).map (hz_cv G) = hz_def t := by
  unfold hz_def
  rw [List.map_map]
  congr 1
  funext k
  show hz_cv G (match hy_fr (t * 64 + k) with | some _ => .null | none => .int 0) = _
  cases hy_fr (t * 64 + k) <;> rfl
theorem hz_after {h : Hp} {c0 : Ce} {lv : List Value} {rest : List Value} {H1 : Heap} {locs : List Loc} {ls : Array Slot} {nn : Nat} (hk : k lv rest (h ++ [c0]) = some h') (hn : n0 ≤ h.length) (hs : s0 ≤ hz_sz h) (hnn : c0.2.length = nn) (hHR : hz_HR G (h ++ [c0]) H1) (hS : va_S (hy_A G) s.heap H1 locs) (hlv : hz_LV G ls (hz_mx y) lv) (K : hz_Kt p l e R s m args below meth c Q y G n0 s0 h' k pc) : W p l e R s m args below meth c H1 locs (h.length - n0 + 1) (hz_sz h - s0 + nn) Q (F0 m pc ls (rest.map (hz_cv G))) := by
  have e1 : (h ++ [c0]).length - n0 = h.length - n0 + 1 := by rw [List.length_append]; simp; omega
  have e2 : hz_sz (h ++ [c0]) - s0 = hz_sz h - s0 + nn := by rw [hz_sz_app, hnn]; omega
  refine W.cs e1.symm e2.symm ?_
  exact K _ _ _ _ _ _ hk (by rw [List.length_append]; omega) (by rw [hz_sz_app]; omega) hHR hS hlv
theorem hz_fit1 {h : Hp} {c0 : Ce} {lv st : List Value} (hm : hz_Mo k) (hk : k lv st (h ++ [c0]) = some h') (hn : n0 ≤ h.length) (hs : s0 ≤ hz_sz h) (hRc : h'.length - n0 ≤ R.cells) (hRs : hz_sz h' - s0 ≤ R.slots) : h.length - n0 + 1 ≤ R.cells ∧ hz_sz h - s0 + c0.2.length ≤ R.slots := by
  have := hm _ _ _ _ hk
  rw [List.length_append, hz_sz_app] at this
  simp only [List.length_cons, List.length_nil] at this
  omega
theorem hz_s_new {t : Nat} {q : Nat × Nat × Nat × Nat} (C : hz_Cx p c s m args y) (hU : hz_KU G s) (hb0 : s.heap.size = hy_base G + n0) (hRc : h'.length - n0 ≤ R.cells) (hRs : hz_sz h' - s0 ≤ R.slots) (hm : hz_Mo k) (hq : q ∈ hz_CL) (hq1 : q.1 = hz_own y) (hq2 : q.2.2.1 = t) (hd : decode (hz_b y) pc = .ok (.new q.2.1, 3)) (K : hz_Kt p l e R s m args below meth c Q y G n0 s0 h' k (pc + 3)) : hz_Kt p l e R s m args below meth c Q y G n0 s0 h' (hz_sem dz rc cl (.new t) k) pc := by
  intro lv st h H locs ls hh hn hs hH hS hl
  dsimp only [hz_sem] at hh
  obtain ⟨hx, hb, hown, hts⟩ := C
  rw [cond_eq_ite] at hh
  split at hh
  · rename_i ht
    rw [Bool.and_eq_true] at ht
    have g1 := Nat.le_of_ble_eq_true ht.1
    have g9 := Nat.le_of_ble_eq_true ht.2
    have hw := hts _ (hy_wAt_mem (List.all_eq_true.mp hz_cl_ok q hq))
    rw [hq2] at hw
    obtain ⟨k1, k2, k3⟩ := hz_KI_ok t (by omega) g1
    obtain ⟨f1, f2, f3, f4, -⟩ := hz_facts k2 k1
    rw [k3] at f3 f4
    rw [← f4] at f1 f3
    have hKn := hU.1.1 (t - 1) _ (hy_clk g1 g9)
    obtain ⟨hc1, hc2⟩ := hz_fit1 hm hh hn hs hRc hRs
    rw [show (t, hz_def t).2.length = hy_N t from hz_def_len t] at hc2
    refine W.newcK hx hb (by rw [hq1]; exact hown) hw (hts _ f3) (hts _ f1) rfl hd hc1 hc2 hKn.2.1 hH.2.2 fun H1 kC hkC e1 z1 o1 => ?_
    have hcell : hz_cell G (t, hz_def t) = .inr (t - 1, hz_def t) := by
      unfold hz_cell; rw [if_pos g9, hz_def_cv]
    obtain ⟨hHR, hS1⟩ := hz_push (c0 := (t, hz_def t)) (cellV := (0, .inr (t - 1, hz_def t))) hH hS (by omega) hcell ⟨_, hy_clk g1 g9, (u_born (hy_ty t) hts (hy_in g9) hKn hkC e1 (hy_tyk g9)).to (fun j hj => by
      rw [hz_born t (by omega) g1 j hj]; rfl)⟩ (by rw [z1, hH.2.2]) (fun q hq => o1 q (by rw [← hH.2.2]; exact hq))
    exact hz_after hh hn hs (hz_def_len t) hHR hS1 hl K
  · cases hh
theorem hz_s_newa {a : ArrayType} (C : hz_Cx p c s m args y) (hU : hz_KU G s) (hb0 : s.heap.size = hy_base G + n0) (hRc : h'.length - n0 ≤ R.cells) (hRs : hz_sz h' - s0 ≤ R.slots) (hm : hz_Mo k) (hd : decode (hz_b y) pc = .ok (.newarray a, 2)) (K : hz_Kt p l e R s m args below meth c Q y G n0 s0 h' k (pc + 2)) : hz_Kt p l e R s m args below meth c Q y G n0 s0 h' (hz_sem dz rc cl (.newarray a) k) pc := by
  intro lv st h H locs ls hh hn hs hH hS hl
  dsimp only [hz_sem] at hh
  obtain ⟨hx, hb, hown, hts⟩ := C
  split at hh
  · rename_i n st'
    rw [cond_eq_ite] at hh
    split at hh
    · rename_i hc
      rw [Bool.and_eq_true] at hc
      have g2 := Nat.le_of_ble_eq_true hc.1
      have g5 := Nat.le_of_ble_eq_true hc.2
      split at hh
      · rename_i hn0
        obtain ⟨hc1, hc2⟩ := hz_fit1 hm hh hn hs hRc hRs
        rw [show ((14 + hz_so a, List.replicate (hy_ix n) (.int 0)) : Ce).2.length = hy_ix n from List.length_replicate] at hc2
        have hneg : ¬ n < 0 := by rw [Int32.lt_iff_toInt_lt, Int32.toInt_zero]; omega
        have harr := hz_arr
        simp only [Bool.and_eq_true] at harr
        obtain ⟨⟨w1, w2⟩, w3⟩ := harr
        have fin : ∀ (ty : FieldType) (so : Nat), newarray.typeOf a = ty → hz_so a = so → (Cond.arrayClass ty).before args s = true → defaultValue ty = .int 0 → componentBytes ty ≤ 8 → (hy_tys G)[so]? = some (hy_cy G so, ty) → (∀ cA : ClassId, s.vm.findClass ("[" ++ ty.toString) = some cA → cA = hy_cy G so) → W p l e R s m args below meth c H locs (h.length - n0) (hz_sz h - s0) Q (F0 m pc ls ((Value.int n :: st').map (hz_cv G))) := by
          intro ty so ety eso hac hdv hcb htys hcy
          refine va_newaK hx hb (by rw [ety]; exact hac) rfl hd rfl hneg rfl (by rw [ety]; exact Nat.le_trans (Nat.mul_le_mul g5 hcb) (by decide)) hc1 hc2 hH.2.2 fun H1 cA e1 z1 o1 hAr hNm => ?_
          rw [ety] at hNm e1
          have ecA := hcy cA hNm
          subst ecA
          have hcell : hz_cell G (14 + hz_so a, List.replicate (hy_ix n) (.int 0)) = .inl (hy_cy G so, hy_ix n, .inl fun _ => 0) := by
            unfold hz_cell
            rw [if_neg (show ¬ 14 + hz_so a ≤ 9 by omega), if_neg (show ¬ 14 + hz_so a ≤ 13 by omega), List.length_replicate, eso, show 14 + so - 14 = so by omega]
            have hf : (fun j => hz_io ((List.replicate (hy_ix n) (Value.int 0)).getD j (.int 0))) = fun _ => (0 : Int32) := by
              funext j
              rw [List.getD_eq_getElem?_getD, List.getElem?_replicate]
              split <;> rfl
            rw [hf]
          obtain ⟨hHR, hS1⟩ := hz_push (c0 := (14 + hz_so a, List.replicate (hy_ix n) (.int 0))) (cellV := (0, .inl (hy_cy G so, hy_ix n, .inl fun _ => 0))) hH hS (by omega) hcell (by
            show H1[hy_base G + h.length]? = some (vp_cell _ _)
            rw [e1, hdv]
            rfl) (by rw [z1, hH.2.2]) (fun q hq => o1 q (by rw [← hH.2.2]; exact hq))
          exact hz_after hh hn hs List.length_replicate hHR hS1 hl K
        have hty := fun (j : Nat) (q : ClassId × FieldType) (hj : (hy_tys G)[j]? = some q) => (hU.1.2 j q hj).2
        cases a with
        | int => exact fin .int 0 rfl rfl (hts _ (hy_wAt_mem w1)) rfl (by decide) rfl (fun cA h => Option.some.inj (h.symm.trans (hty 0 _ rfl)))
        | char => exact fin .char 1 rfl rfl (hts _ (hy_wAt_mem w2)) rfl (by decide) rfl (fun cA h => Option.some.inj (h.symm.trans (hty 1 _ rfl)))
        | boolean => exact fin .boolean 2 rfl rfl (hts _ (hy_wAt_mem w3)) rfl (by decide) rfl (fun cA h => Option.some.inj (h.symm.trans (hty 2 _ rfl)))
        | _ => exact absurd g2 (by decide)
      · cases hh
    · cases hh
  · cases hh
theorem hz_s_anew {t : Nat} {q : Nat × Nat × Nat × Nat} (C : hz_Cx p c s m args y) (hU : hz_KU G s) (hb0 : s.heap.size = hy_base G + n0) (hRc : h'.length - n0 ≤ R.cells) (hRs : hz_sz h' - s0 ≤ R.slots) (hm : hz_Mo k) (hq : q ∈ hz_CL) (hq1 : q.1 = hz_own y) (hq2 : hy_cn q.2.2.1 = hz_RC.getD (t - 10) "") (hd : decode (hz_b y) pc = .ok (.anewarray q.2.1, 3)) (K : hz_Kt p l e R s m args below meth c Q y G n0 s0 h' k (pc + 3)) : hz_Kt p l e R s m args below meth c Q y G n0 s0 h' (hz_sem dz rc cl (.anewarray t) k) pc := by
  intro lv st h H locs ls hh hn hs hH hS hl
  dsimp only [hz_sem] at hh
  obtain ⟨hx, hb, hown, hts⟩ := C
  split at hh
  · rename_i n st'
    rw [cond_eq_ite] at hh
    split at hh
    · rename_i hc
      rw [Bool.and_eq_true, Bool.and_eq_true] at hc
      have g1 := Nat.le_of_ble_eq_true hc.1
      have g3 := Nat.le_of_ble_eq_true hc.2.1
      have g5 := Nat.le_of_ble_eq_true hc.2.2
      split at hh
      · rename_i hn0
        obtain ⟨hc1, hc2⟩ := hz_fit1 hm hh hn hs hRc hRs
        rw [show ((t, List.replicate (hy_ix n) .null) : Ce).2.length = hy_ix n from List.length_replicate] at hc2
        have hneg : ¬ n < 0 := by rw [Int32.lt_iff_toInt_lt, Int32.toInt_zero]; omega
        have hw := hts _ (hy_wAt_mem (List.all_eq_true.mp hz_cl_ok q hq))
        rw [hq2] at hw
        have hAO := hU.2.2 _ (hz_RC_mem t (by omega) g1)
        refine W.anew hx hb (by rw [hq1]; exact hown) hw (va_AO.use hAO) rfl hd rfl hneg (Nat.le_trans (Nat.mul_le_mul_right 4 g5) (by decide)) hc1 hc2 fun cA kA comp f1 f2 f3 f4 => ?_
        have htys : (hy_tys G)[t - 7]? = some (hy_cy G t, FieldType.object (hz_RC.getD (t - 10) "")) := by
          have : t = 10 ∨ t = 11 ∨ t = 12 ∨ t = 13 := by omega
          rcases this with z | z | z | z <;> rw [z] <;> rfl
        obtain ⟨kA', comp', r1, r2, r3, r4⟩ := (hU.1.2 _ _ htys).2
        have ecA : cA = hy_cy G t := Option.some.inj (f1.symm.trans r4)
        subst ecA
        generalize hH1 : H.push ({ cls := hy_cy G t, slots := Array.replicate n.toNatClampNeg .null, vm := .none } : Cell) = H1
        have z1 : H1.size = H.size + 1 := by rw [← hH1, Array.size_push]
        have e1 : H1[H.size]? = some (arrV (hy_cy G t) n.toNatClampNeg (fun _ => .null)) := by rw [← hH1, Array.getElem?_push_size, ← arrV_new]
        have o1 : ∀ q : Nat, q < H.size → H1[q]? = H[q]? := fun q hq => by rw [← hH1, Array.getElem?_push, if_neg (Nat.ne_of_lt hq)]
        have hcell : hz_cell G (t, List.replicate (hy_ix n) .null) = .inl (hy_cy G t, hy_ix n, .inr (.inr (.inr (.inr fun _ => none)))) := by
          unfold hz_cell
          rw [if_neg (show ¬ t ≤ 9 by omega), if_pos (show t ≤ 13 by omega), List.length_replicate]
          congr 7
          funext j
          rw [List.getD_eq_getElem?_getD, List.getElem?_replicate]
          split <;> rfl
        obtain ⟨hHR, hS1⟩ := hz_push (c0 := (t, List.replicate (hy_ix n) .null)) (cellV := (0, .inl (hy_cy G t, hy_ix n, .inr (.inr (.inr (.inr fun _ => none)))))) hH hS (by omega) hcell (by
          show H1[hy_base G + h.length]? = some (vp_cell _ _)
          rw [← hH.2.2, e1, vp_cell_q]
          rfl) z1 o1
        have := hz_after (pc := pc + 3) hh hn hs List.length_replicate hHR hS1 hl K
        rw [List.map_cons, show hz_cv G (.ref h.length) = .ref H.size by rw [hH.2.2]; rfl] at this
        exact this
      · cases hh
    · cases hh
  · cases hh
/-- the object's own constructor: nothing -/
theorem hz_s_obj {q : Nat × Nat × Nat × Nat} (C : hz_Cx p c s m args y) (hml : c.maxLocals = hz_mx y) (hR : dz = true → 1 ≤ R.frames ∧ 64 ≤ R.locals) (hq : q ∈ hz_OL) (hq1 : q.1 = hz_own y) (hd : decode (hz_b y) pc = .ok (.invokespecial q.2.1, 3)) (K : hz_Kt p l e R s m args below meth c Q y G n0 s0 h' k (pc + 3)) : hz_Kt p l e R s m args below meth c Q y G n0 s0 h' (hz_sem dz rc cl (.invokespecial 0) k) pc := by
  intro lv st h H locs ls hh hn hs hH hS hl
  dsimp only [hz_sem] at hh
  obtain ⟨hx, hb, hown, hts⟩ := C
  rw [cond_eq_ite] at hh
  split at hh
  · rename_i hdz
    obtain ⟨r1, r2⟩ := hR hdz
    split at hh
    · rename_i a st'
      rw [cond_eq_ite] at hh
      split at hh
      · rename_i hb4
        have hcat := hz_cats G hb4
        have ho := hz_obj
        rw [Bool.and_eq_true] at ho
        refine W.objInit hx hb hown (by have := hts _ (hy_wAt_mem (List.all_eq_true.mp hz_ol_ok q hq)); rw [hq1] at this; exact this) (hts _ (hy_wAt_mem ho.1)) (hts _ (hy_wAt_mem ho.2)) rfl (by rw [hml]; exact hl.2.1) rfl hd r1 (by show 2 * 0 + ((st'.map (hz_cv G)).map fun v => v.category).sum + 12 ≤ R.locals; omega) ?_
        refine W.eq (g2 := F0 m (pc + 3) ls (st'.map (hz_cv G))) rfl ?_
        exact K _ _ _ _ _ _ hh hn hs hH hS hl
      · cases hh
    · cases hh
  · cases hh
theorem hz_s_call {z d : Nat} {q : Nat × Nat × Nat × Nat} (C : hz_Cx p c s m args y) (hU : hz_KU G s) (hml : c.maxLocals = hz_mx y) (hb0 : s.heap.size = hy_base G + n0) (hf : d ≤ R.frames) (hlo : 64 * d ≤ R.locals) (hRc : h'.length - n0 ≤ R.cells) (hRs : hz_sz h' - s0 ≤ R.slots) (hm : hz_Mo k) (hz : z + 1 < 10)
    (hq : q ∈ hz_ML) (hq1 : q.1 = hz_own y) (hq2 : q.2.2.1 / 2 = z + 1) (hd : decode (hz_b y) pc = .ok (.invokespecial q.2.1, 3)) (hmc : ∀ q as h h', cl q as h = some h' → h.length ≤ h'.length ∧ hz_sz h ≤ hz_sz h')
    (Kcl : ∀ (as : List Value) (h h1 : Hp), cl (z + 1) as h = some h1 → ∃ d', d' + 1 ≤ d ∧ hz_Mt l G d' (z + 1) as h h1)
    (K : hz_Kt p l e R s m args below meth c Q y G n0 s0 h' k (pc + 3)) : hz_Kt p l e R s m args below meth c Q y G n0 s0 h' (hz_sem dz rc cl (.invokespecial (z + 1)) k) pc := by
  intro lv st h H locs ls hh hn hs hH hS hl
  dsimp only [hz_sem] at hh
  rw [cond_eq_ite] at hh
  split at hh
  · rw [cond_eq_ite] at hh
    split at hh
    · rename_i hb1
      rw [Bool.and_eq_true] at hb1
      split at hh
      · rename_i a as hrev
        obtain ⟨h1, hcl, hk⟩ := Option.bind_eq_some_iff.mp hh
        obtain ⟨d', hdd, hM⟩ := Kcl _ _ _ hcl
        have hmo := hmc _ _ _ _ hcl
        have hmo2 := hm _ _ _ _ hk
        obtain ⟨hx, hb, hown, hts⟩ := C
        obtain ⟨f1, f2, f3, f4, f5, f6, f7, f8⟩ := hz_facts (Nat.succ_pos z) hz
        have hmx := hz_mx_ok _ hz
        have hstk : st.map (hz_cv G) = (as.map (hz_cv G)).reverse ++ Value.ref (hy_base G + a) :: (st.drop (hz_na (z + 1))).map (hz_cv G) := by
          have e1 : st.take (hz_na (z + 1)) = (Value.ref a :: as).reverse := by rw [← hrev, List.reverse_reverse]
          conv => lhs; rw [← List.take_append_drop (hz_na (z + 1)) st, e1]
          simp [hz_cv]
        have hlen : (as.map (hz_cv G)).length = hz_na (z + 1) - 1 := by
          have e1 : (st.take (hz_na (z + 1))).length = as.length + 1 := by
            rw [← List.length_reverse, hrev]; rfl
          rw [List.length_take, Nat.min_eq_left (Nat.le_of_ble_eq_true hb1.1)] at e1
          rw [List.length_map]
          omega
        have hcat := hz_cats G (st := st.drop (hz_na (z + 1))) (by rw [List.length_drop]; exact hb1.2)
        have hwords : ∀ w ∈ hz_ws (z + 1), ∀ (a' : Array Value) (U : State), s.WarmedH U.vm → w.before a' U = true := by
          intro w hw a' U hW
          have hin : w ∈ hy_TB := (List.mem_cons.mp hw).elim (fun e => e ▸ hz_code_in (Nat.succ_pos z) hz) id
          exact word_at hW (good_of_word (hy_goodTB hin)) (hts w hin)
        have hparse : ∀ sig, parseMethodDescriptor (hz_m (z + 1)).1.desc = some sig → hz_na (z + 1) - 1 = sig.parameters.length := by
          intro sig hsig
          rw [hsig] at f8
          exact (Option.some.inj f8).symm
        have hpre : PreS s H (hz_Pc G (.ref a :: as) h) (.ref (hy_base G + a) :: as.map (hz_cv G)) := ⟨hz_blind G _ _, fun U hUH hW => ⟨rfl, by rw [hUH]; exact hH, hz_KU_moved hU hW⟩⟩
        have hown' : s.vm.findClass (hy_cn q.1) = some m.cls := by rw [hq1]; exact hown
        have hrun : va_Run p l e R s m args below meth c H locs (h.length - n0) (hz_sz h - s0) (h1.length - h.length) (hz_sz h1 - hz_sz h) (F0 m pc ls (st.map (hz_cv G))) ((st.drop (hz_na (z + 1))).map (hz_cv G)) (va_Qv (S := Unit) (fun _ => True) (fun _ t => hz_HR G h1 t.heap) (hy_A G) (Value.ref (hy_base G + a) :: as.map (hz_cv G)).toArray) (hy_A G) := by
          have h2 := List.all_eq_true.mp hz_ml_ok q hq
          rw [Bool.and_eq_true, Bool.or_eq_true] at h2
          have hB : (hz_rm d' (h1.length - h.length) (hz_sz h1 - hz_sz h)).frames + 1 ≤ R.frames := by show d' + 1 ≤ R.frames; omega
          have hL : 8 + (hz_mx (z + 1) + 11) + (hz_rm d' (h1.length - h.length) (hz_sz h1 - hz_sz h)).locals ≤ R.locals := by show 8 + (hz_mx (z + 1) + 11) + 64 * d' ≤ R.locals; omega
          cases hn' : Nat.beq (q.2.2.1 % 2) 1 with
          | false =>
            rw [hn'] at h2
            have h3 := h2.2.resolve_left (fun z => by cases z)
            rw [hq2] at h3
            exact va_runI (own := hy_cn q.1) (bytes := hz_b (z + 1)) (maxL := hz_mx (z + 1)) ⟨hx, hb, hml, hown', hts⟩ hM ⟨⟨rfl, rfl, hB, hL, hwords, List.mem_cons_self, hts _ (hz_code_in (Nat.succ_pos z) hz), hts _ f1, f7, hparse, hts _ (hy_wAt_mem h3)⟩, f5, hts _ f2⟩ hpre rfl hlen hl.2.1 hstk (lv_room hcat) hd ⟨by omega, by omega⟩
          | true =>
            have hnw := hU.2.1 q hq (hy_beq hn')
            rw [hq2] at hnw
            exact va_runIN (own := hy_cn q.1) (host := "HayBoard") (bytes := hz_b (z + 1)) (maxL := hz_mx (z + 1)) ⟨hx, hb, hml, hown', hts⟩ hM ⟨⟨⟨rfl, rfl, hB, hL, hwords, List.mem_cons_self⟩, hts _ (hz_code_in (Nat.succ_pos z) hz), hts _ f1, f7, hparse, va_Nw.use rfl hnw⟩, f5, hts _ f2⟩ hpre rfl hlen hl.2.1 hstk (lv_room hcat) hd ⟨by omega, by omega⟩
        refine va_callv (S := Unit) (post := fun _ => True) (B := fun _ t => hz_HR G h1 t.heap) (A1 := hy_A G) (a := (Value.ref (hy_base G + a) :: as.map (hz_cv G)).toArray) hrun hS (fun _ _ h => h) (fun _ h => h) (fun u t H1 locs1 ht hvm hp hB hz1 hk1 hS1 => ?_)
        rw [ht] at hB
        refine W.cs (show h.length - n0 + (h1.length - h.length) = h1.length - n0 by omega) (show hz_sz h - s0 + (hz_sz h1 - hz_sz h) = hz_sz h1 - s0 by omega) ?_
        exact K _ _ _ _ _ _ hk (by omega) (by omega) hB hS1 hl
      · cases hh
    · cases hh
  · cases hh
end HZS
end
section
/-! MACHINE 2 AGAINST THE JVM: the induction -/
theorem hz_at_spec {y pc pc' : Nat} {op : Instr} (hg : ∀ b, op ≠ .goto_w b) (h : hz_at y pc op = some pc') : ∃ ins len, decode (hz_b y) pc = .ok (ins, len) ∧ hz_ok y pc op ins len = true ∧ pc' = pc + len := by
  unfold hz_at at h
  split at h
  · rename_i b; exact absurd rfl (hg b)
  · split at h
    · rename_i ins len hd
      cases hk : hz_ok y pc op ins len with
      | false => rw [hk] at h; cases h
      | true => rw [hk] at h; exact ⟨ins, len, hd, hk, (Option.some.inj h).symm⟩
    · cases h
section HZS
variable {p : Program} {l : Launch} {e : Env} {R : Room} {s : State} {m : MethodId} {args : Array Value} {below : List Frame} {meth : Method} {c : Code} {Q : State → Prop} {y : Nat} {G : hy_G} {n0 s0 : Nat} {h' : Hp} {k : List Value → List Value → Hp → Rz} {pc : Nat}
variable {dz : Bool} {rc : Nat → List Value → List Value → Hp → Rz} {cl : Nat → List Value → Hp → Rz}
theorem hz_dead {k : List Value → List Value → Hp → Rz} (h : ∀ lv st h, k lv st h = none) : hz_Kt p l e R s m args below meth c Q y G n0 s0 h' k pc := fun lv st σ H locs ls hk => by rw [h] at hk; cases hk
/-- where a constructor ends -/
def hz_Rt (p : Program) (l : Launch) (e : Env) (R : Room) (s : State) (m : MethodId) (args : Array Value) (below : List Frame) (meth : Method) (c : Code) (Q : State → Prop) (y : Nat) (G : hy_G) (n0 s0 : Nat) (h' : Hp) : Prop :=
  ∀ (H : Heap) (locs : List Loc) (ls : Array Slot) (pc : Nat), hz_HR G h' H → va_S (hy_A G) s.heap H locs → decode (hz_b y) pc = .ok (.return_, 1) → W p l e R s m args below meth c H locs (h'.length - n0) (hz_sz h' - s0) Q (F0 m pc ls [])
theorem hz_op_snd {d pc' : Nat} {op : Instr} (C : hz_Cx p c s m args y) (hU : hz_KU G s) (hin : meth.name = "<init>") (hb0 : s.heap.size = hy_base G + n0) (hml : c.maxLocals = hz_mx y) (hf : d ≤ R.frames) (hlo : 64 * d ≤ R.locals) (hRc : h'.length - n0 ≤ R.cells) (hRs : hz_sz h' - s0 ≤ R.slots) (hdz : dz = Nat.blt 0 d) (Z : hz_Rt p l e R s m args below meth c Q y G n0 s0 h') (hat : hz_at y pc op = some pc') (hm : hz_Mo k) (hmc : ∀ q as h h', cl q as h = some h' → h.length ≤ h'.length ∧ hz_sz h ≤ hz_sz h')
    (Krc : ∀ b, hz_Kt p l e R s m args below meth c Q y G n0 s0 h' (rc b) (hz_blk y b).1)
    (Kcl : ∀ (z : Nat) (as : List Value) (h h1 : Hp), z + 1 < 10 → cl (z + 1) as h = some h1 → ∃ d', d' + 1 ≤ d ∧ hz_Mt l G d' (z + 1) as h h1)
    (K : hz_Kt p l e R s m args below meth c Q y G n0 s0 h' k pc') : hz_Kt p l e R s m args below meth c Q y G n0 s0 h' (hz_sem dz rc cl op k) pc := by
  by_cases hg : ∃ b, op = .goto_w b
  · obtain ⟨b, rfl⟩ := hg
    unfold hz_at at hat
    dsimp only at hat
    split at hat
    · rename_i hb
      intro lv st h H locs ls hh hn hs hH hS hl
      have := Krc b.toNat lv st h H locs ls hh hn hs hH hS hl
      rwa [hb] at this
    · cases hat
  obtain ⟨ins, len, hd, hok, rfl⟩ := hz_at_spec (fun b e => hg ⟨b, e⟩) hat
  have hx := C.1
  have hb := C.2.1
  have hR : dz = true → 1 ≤ R.frames ∧ 64 ≤ R.locals := by
    intro z
    rw [hdz] at z
    have : 0 < d := Nat.le_of_ble_eq_true z
    omega
  cases op with
  | bipush n => exact hz_s_bipush C hd hok K
  | iload i =>
    refine hz_s_iload (n := len) hx hb ?_ K
    simp only [hz_ok, Bool.or_eq_true, List.any_eq_true, decide_eq_true_eq, Prod.mk.injEq, List.mem_range] at hok
    rcases hok with ⟨rfl, rfl⟩ | ⟨j, hj, rfl, rfl, rfl⟩
    · exact Or.inl ⟨hd, rfl⟩
    · exact Or.inr ⟨Fin.ofNat 4 j, by simp [Fin.ofNat, Nat.mod_eq_of_lt hj], hd, rfl⟩
  | aload i =>
    refine hz_s_aload (n := len) hx hb ?_ K
    simp only [hz_ok, Bool.or_eq_true, List.any_eq_true, decide_eq_true_eq, Prod.mk.injEq, List.mem_range] at hok
    rcases hok with ⟨rfl, rfl⟩ | ⟨j, hj, rfl, rfl, rfl⟩
    · exact Or.inl ⟨hd, rfl⟩
    · exact Or.inr ⟨Fin.ofNat 4 j, by simp [Fin.ofNat, Nat.mod_eq_of_lt hj], hd, rfl⟩
  | istore i =>
    refine hz_s_istore (n := len) hx hb ?_ K
    simp only [hz_ok, Bool.or_eq_true, List.any_eq_true, decide_eq_true_eq, Prod.mk.injEq, List.mem_range] at hok
    rcases hok with ⟨rfl, rfl⟩ | ⟨j, hj, rfl, rfl, rfl⟩
    · exact Or.inl ⟨hd, rfl⟩
    · exact Or.inr ⟨Fin.ofNat 4 j, by simp [Fin.ofNat, Nat.mod_eq_of_lt hj], hd, rfl⟩
  | iinc i n =>
    obtain ⟨rfl, rfl⟩ := hy_pair hok
    exact hz_s_iinc hx hb hd K
  | dup =>
    obtain ⟨rfl, rfl⟩ := hy_pair hok
    exact hz_s_dup hx hb hd K
  | iastore =>
    obtain ⟨rfl, rfl⟩ := hy_pair hok
    exact hz_s_iastore C hU hb0 hd K
  | castore =>
    obtain ⟨rfl, rfl⟩ := hy_pair hok
    exact hz_s_castore C hU hb0 hd K
  | aastore =>
    obtain ⟨rfl, rfl⟩ := hy_pair hok
    exact hz_s_aastore C hU hb0 hd K
  | newarray a =>
    obtain ⟨rfl, rfl⟩ := hy_pair hok
    exact hz_s_newa C hU hb0 hRc hRs hm hd K
  | return_ =>
    obtain ⟨rfl, rfl⟩ := hy_pair hok
    intro lv st h H locs ls hh hn hs hH hS hl
    dsimp only [hz_sem] at hh
    split at hh
    · cases hh; exact Z H locs ls pc hH hS hd
    · cases hh
  | getfield i =>
    simp only [hz_ok, List.any_eq_true, Bool.and_eq_true, decide_eq_true_eq, Prod.mk.injEq] at hok
    obtain ⟨q, hq, ⟨h1, h2⟩, rfl, rfl⟩ := hok
    exact hz_s_getfield C hU hq h1 h2 hd K
  | putfield i =>
    simp only [hz_ok, List.any_eq_true, Bool.and_eq_true, decide_eq_true_eq, Prod.mk.injEq] at hok
    obtain ⟨ho, q, hq, ⟨h1, h2⟩, rfl, rfl⟩ := hok
    exact hz_s_putfield C hU hin hb0 ho hq h1 h2 hd K
  | new t =>
    simp only [hz_ok, List.any_eq_true, Bool.and_eq_true, decide_eq_true_eq, Prod.mk.injEq] at hok
    obtain ⟨q, hq, ⟨h1, h2⟩, rfl, rfl⟩ := hok
    exact hz_s_new C hU hb0 hRc hRs hm hq h1 h2 hd K
  | anewarray t =>
    simp only [hz_ok, List.any_eq_true, Bool.and_eq_true, decide_eq_true_eq, Prod.mk.injEq] at hok
    obtain ⟨q, hq, ⟨h1, h2⟩, rfl, rfl⟩ := hok
    exact hz_s_anew C hU hb0 hRc hRs hm hq h1 h2 hd K
  | if_icmp cc b =>
    simp only [hz_ok, Bool.and_eq_true, decide_eq_true_eq] at hok
    obtain ⟨rfl, hok⟩ := hok
    split at hok
    · obtain ⟨rfl, ht⟩ := of_decide_eq_true hok
      exact hz_s_if hx hb hd ht (Krc _) K
    · cases hok
  | goto b =>
    simp only [hz_ok, Bool.and_eq_true, decide_eq_true_eq] at hok
    obtain ⟨rfl, hok⟩ := hok
    split at hok
    · exact hz_s_goto hx hb hd (of_decide_eq_true hok) (Krc _)
    · cases hok
  | invokespecial z =>
    cases z with
    | zero =>
      simp only [hz_ok, List.any_eq_true, Bool.and_eq_true, decide_eq_true_eq, Prod.mk.injEq] at hok
      obtain ⟨q, hq, h1, rfl, rfl⟩ := hok
      exact hz_s_obj C hml hR hq h1 hd K
    | succ z =>
      simp only [hz_ok, List.any_eq_true, Bool.and_eq_true, decide_eq_true_eq, Prod.mk.injEq] at hok
      obtain ⟨hz, q, hq, ⟨h1, h2⟩, rfl, rfl⟩ := hok
      exact hz_s_call C hU hml hb0 hf hlo hRc hRs hm hz hq h1 h2 hd hmc (fun as h h1 => Kcl z as h h1 hz) K
  | goto_w b => exact absurd ⟨b, rfl⟩ hg
  | _ => exact hz_dead (fun _ _ _ => rfl)
theorem hz_ex_snd {d : Nat} (C : hz_Cx p c s m args y) (hU : hz_KU G s) (hin : meth.name = "<init>") (hb0 : s.heap.size = hy_base G + n0) (hml : c.maxLocals = hz_mx y) (hf : d ≤ R.frames) (hlo : 64 * d ≤ R.locals) (hRc : h'.length - n0 ≤ R.cells) (hRs : hz_sz h' - s0 ≤ R.slots) (hdz : dz = Nat.blt 0 d) (Z : hz_Rt p l e R s m args below meth c Q y G n0 s0 h') (hmr : ∀ b, hz_Mo (rc b)) (hmc : ∀ q as h h', cl q as h = some h' → h.length ≤ h'.length ∧ hz_sz h ≤ hz_sz h')
    (Krc : ∀ b, hz_Kt p l e R s m args below meth c Q y G n0 s0 h' (rc b) (hz_blk y b).1)
    (Kcl : ∀ (z : Nat) (as : List Value) (h h1 : Hp), z + 1 < 10 → cl (z + 1) as h = some h1 → ∃ d', d' + 1 ≤ d ∧ hz_Mt l G d' (z + 1) as h h1) :
    ∀ (ops : List Instr) (pc : Nat), hz_chk y pc ops = true → hz_Kt p l e R s m args below meth c Q y G n0 s0 h' (hz_ex dz rc cl ops) pc := by
  intro ops
  induction ops with
  | nil => exact fun pc _ => hz_dead (fun _ _ _ => rfl)
  | cons op ops ih =>
    intro pc hc
    unfold hz_chk at hc
    cases hat : hz_at y pc op with
    | none => rw [hat] at hc; cases hc
    | some pc' =>
      rw [hat] at hc
      exact hz_op_snd C hU hin hb0 hml hf hlo hRc hRs hdz Z hat (hz_ex_mono hmr hmc ops) hmc Krc Kcl (ih pc' hc)
end HZS
def hz_Snd (l : Launch) (G : hy_G) (n : Nat) : Prop := ∀ (d y b : Nat) (n0 s0 : Nat) (h' : Hp), y < 10 → ∀ (p : Program) (e : Env) (R : Room) (s : State) (m : MethodId) (args : Array Value) (below : List Frame) (meth : Method) (c : Code) (Q : State → Prop),
  hz_Cx p c s m args y → hz_KU G s → meth.name = "<init>" → s.heap.size = hy_base G + n0 → c.maxLocals = hz_mx y → d ≤ R.frames → 64 * d ≤ R.locals → h'.length - n0 ≤ R.cells → hz_sz h' - s0 ≤ R.slots → hz_Rt p l e R s m args below meth c Q y G n0 s0 h' → hz_Kt p l e R s m args below meth c Q y G n0 s0 h' (hz_run n d y b) (hz_blk y b).1
theorem hz_args (G : hy_G) : ∀ (as : List Value) (i0 : Nat), as.all (fun v => Nat.beq v.category 1) = true → ∀ (i : Nat) (v : Value), as[i]? = some v → (i0 + i, hz_cv G v) ∈ lv_args i0 (as.map (hz_cv G))
  | [], i0, _, i, v, h => by simp at h
  | a :: as, i0, hc, i, v, h => by
    rw [List.all_cons, Bool.and_eq_true] at hc
    have h1 : (hz_cv G a).category = 1 := by rw [hz_cat1]; exact Nat.eq_of_beq_eq_true hc.1
    rw [List.map_cons]
    unfold lv_args
    rw [if_neg (by rw [h1]; decide)]
    cases i with
    | zero => cases h; exact List.mem_cons_self
    | succ i =>
      have := hz_args G as (i0 + 1) hc.2 i v h
      rw [show i0 + 1 + i = i0 + (i + 1) by omega] at this
      exact List.mem_cons_of_mem _ this
theorem hz_sl (G : hy_G) : ∀ (as : List Value), as.all (fun v => Nat.beq v.category 1) = true → (lg_sl (as.map (hz_cv G))).length = as.length
  | [], _ => rfl
  | a :: as, hc => by
    rw [List.all_cons, Bool.and_eq_true] at hc
    have h1 : (hz_cv G a).category = 1 := by rw [hz_cat1]; exact Nat.eq_of_beq_eq_true hc.1
    have ih := hz_sl G as hc.2
    unfold lg_sl at ih ⊢
    rw [List.map_cons, List.flatMap_cons, List.length_append, ih, if_neg (by rw [h1]; decide)]
    simp only [List.length_cons, List.length_nil]
    omega
theorem hz_met {l : Launch} {G : hy_G} {n d z : Nat} {as : List Value} {h h1 : Hp} (IH : hz_Snd l G n) (h0 : 0 < z) (hz : z < 10) (hle : as.length ≤ hz_mx z) (hc : as.all (fun v => Nat.beq v.category 1) = true) (hrun : hz_run n d z 0 (as ++ List.replicate (hz_mx z - as.length) .null) [] h = some h1) (hpc : (hz_blk z 0).1 = 0) : hz_Mt l G d z as h h1 := by
  obtain ⟨f1, f2, f3, f4, f5, f6, f7, f8⟩ := hz_facts h0 hz
  refine Met.ofW (cc := hz_b z) (maxL := hz_mx z) (ret := none) f6 rfl ?_
  intro p e s m args below meth c s₁ B hml hvv
  obtain ⟨rfl, hH, hU⟩ := hvv
  have hx := B.exec
  have hb := B.bytes
  have hr := B.returns
  have hts0 := atoms_spec (ws := hz_ws z) B.pre
  have hts : ∀ w ∈ hy_TB, w.before (as.map (hz_cv G)).toArray s = true := fun w hw => hts0 w (List.mem_cons_of_mem _ hw)
  have hown0 : s.vm.findClass (hz_m z).1.cls = some m.cls := findClass_of_methodNamed B.named
  have hown : s.vm.findClass (hy_cn (hz_own z)) = some m.cls := by rw [f4]; exact hown0
  have hlocks := B.notSynchronized
  have hin : meth.name = "<init>" := (name_of_methodNamed B.named B.method).1.trans f5
  have hl := lv_entry (as.map (hz_cv G)) (n := hz_mx z) (by rw [hz_sl G as hc]; exact hle)
  rw [lg_entry_eq]
  generalize (lg_sl (as.map (hz_cv G)) ++ List.replicate (hz_mx z - (lg_sl (as.map (hz_cv G))).length) Slot.unset).toArray = ls at hl ⊢
  have hl2 : hz_LV G ls (hz_mx z) (as ++ List.replicate (hz_mx z - as.length) .null) := by
    obtain ⟨g1, g2, g3⟩ := hl
    refine ⟨by rw [List.length_append, List.length_replicate]; omega, g1, g2, fun i v hi hn => ?_⟩
    by_cases hlt : i < as.length
    · rw [List.getElem?_append_left hlt] at hi
      have := g3 _ (hz_args G as 0 hc i v hi)
      rwa [Nat.zero_add] at this
    · rw [List.getElem?_append_right (by omega)] at hi
      have := List.mem_of_getElem? hi
      rw [List.mem_replicate] at this
      exact absurd this.2 hn
  have hZ : hz_Rt p l e (headSpec (hz_ws z) (hz_rm d (h1.length - h.length) (hz_sz h1 - hz_sz h))).room s m (as.map (hz_cv G)).toArray below meth c (MQ below (va_Qv (S := Unit) (fun _ => True) (fun _ t => hz_HR G h1 t.heap) (hy_A G)) (as.map (hz_cv G)).toArray s (h1.length - h.length) (hz_sz h1 - hz_sz h) (hy_A G)) z G h.length (hz_sz h) h1 := by
    intro H locs ls pc hH1 hS hd
    exact W.vret hx hb hr (fun t ht hW => ⟨⟨(), rfl, trivial, by show hz_HR G h1 t.heap; rw [ht]; exact hH1⟩, hS.F ht⟩) hS.2.2 hd
  have hK := IH d z 0 h.length (hz_sz h) h1 hz p e (headSpec (hz_ws z) (hz_rm d (h1.length - h.length) (hz_sz h1 - hz_sz h))).room s m (as.map (hz_cv G)).toArray below meth c _ ⟨hx, hb, hown, hts⟩ hU hin hH.2.2 hml (Nat.le_refl d) (Nat.le_refl _) (Nat.le_refl _) (Nat.le_refl _) hZ
  rw [hpc] at hK
  have := hK _ _ _ _ _ _ hrun (Nat.le_refl _) (Nat.le_refl _) hH va_S.rf hl2
  rw [Nat.sub_self, Nat.sub_self] at this
  exact this
theorem hz_pc0 : ∀ y, y < 10 → (hz_blk y 0).1 = 0 := by decide +kernel
theorem hz_chkb {y b : Nat} (hy : y < 10) : hz_chk y (hz_blk y b).1 (hz_blk y b).2 = true := by
  have h1 := hz_chk_all y hy
  unfold hz_chkM at h1
  unfold hz_blk
  rcases Nat.lt_or_ge b (hz_K.getD y []).length with h | h
  · rw [List.getD_eq_getElem?_getD, List.getElem?_eq_getElem h]
    exact List.all_eq_true.mp h1 _ (List.getElem_mem h)
  · rw [List.getD_eq_getElem?_getD, List.getElem?_eq_none h]
    rfl
theorem hz_sound (l : Launch) (G : hy_G) : ∀ n, hz_Snd l G n := by
  intro n
  induction n with
  | zero => intro d y b n0 s0 h' hy p e R s m args below meth c Q C hU hin hb0 hml hf hlo hRc hRs Z; exact hz_dead (fun _ _ _ => rfl)
  | succ n ih =>
    intro d y b n0 s0 h' hy p e R s m args below meth c Q C hU hin hb0 hml hf hlo hRc hRs Z
    refine hz_ex_snd C hU hin hb0 hml hf hlo hRc hRs rfl Z (fun b' => hz_run_mono n d y b') ?_ (fun b' => ih d y b' n0 s0 h' hy p e R s m args below meth c Q C hU hin hb0 hml hf hlo hRc hRs Z) ?_ _ _ (hz_chkb hy)
    · intro q as h h' hh
      cases d with
      | zero => cases hh
      | succ d' =>
        dsimp only at hh
        rw [cond_eq_ite] at hh
        split at hh
        · exact hz_run_mono _ _ _ _ _ _ _ _ hh
        · cases hh
    · intro z as h h1 hz hcl
      cases d with
      | zero => cases hcl
      | succ d' =>
        dsimp only at hcl
        rw [cond_eq_ite] at hcl
        split at hcl
        · rename_i hc
          rw [Bool.and_eq_true] at hc
          exact ⟨d', Nat.le_refl _, hz_met ih (Nat.succ_pos z) hz (Nat.le_of_ble_eq_true hc.1) hc.2 hcl (hz_pc0 _ hz)⟩
        · cases hcl
end
section
/-! THE LAW'S ENTRY: what the start gives -/
theorem hw_mem {i : Nat} {w : Jvm.Cond} (h : hy_wM i w = true) : w ∈ lw_tbl := List.mem_of_getElem? (of_decide_eq_true h)
theorem hw_inTB {w : Jvm.Cond} (h : w ∈ hy_TB) : w ∈ lw_tbl := (List.mem_filter.mp h).1
section HW
variable {s : State} {args : Array Value}
theorem hw_kn (hts : ∀ w ∈ lw_tbl, w.before args s = true) : ∀ t : Nat, ∃ r : ClassId × (Nat → Nat), 1 ≤ t → t ≤ 9 → u_Kn s (hy_cn t) (hy_T t) (hy_N t) r.1 r.2 := by
  intro t
  by_cases h : 1 ≤ t ∧ t ≤ 9
  · obtain ⟨k1, k2, k3⟩ := hz_KI_ok t (by omega) h.1
    obtain ⟨-, -, f3, f4, -⟩ := hz_facts k2 k1
    rw [k3] at f3 f4
    rw [← f4] at f3
    obtain ⟨cC, iS, hK⟩ := u_known hts (fun w hw => hw_inTB (hy_in h.2 w hw)) (hts _ (hw_inTB f3))
    exact ⟨(cC, iS), fun _ _ => hK⟩
  · exact ⟨(0, fun _ => 0), fun a b => absurd ⟨a, b⟩ h⟩
def hw_at (k : Nat) : Option FieldType := match k with
  | 0 => some .int
  | 1 => some .char
  | 2 => some .boolean
  | 10 => some (.object "HayBoard$Law")
  | 11 => some (.object "HayBoard$Sheet")
  | 12 => some (.object "HayBoard$Slot")
  | 13 => some (.object "HayBoard$Bale")
  | _ => none
theorem hw_ac {ty : FieldType} (hp : ∀ C, ty ≠ .object C) (h : (Jvm.Cond.arrayClass ty).before args s = true) : ∃ cA : ClassId, ArrOfT s cA ty ∧ va_RA s cA ty := by
  obtain ⟨cA, k, comp, h1, h2, h3⟩ := Cond.arrayClass_spec h
  refine ⟨cA, fun N z => ⟨(fun k h => by cases h), k, h2, comp, h3⟩, ?_⟩
  unfold va_RA
  split
  · rename_i C; exact absurd rfl (hp C)
  · exact h1
theorem hw_ao {C : String} (h : (Jvm.Cond.arrayOver (.object C)).before args s = true) : ∃ cA : ClassId, ArrOfT s cA (.object C) ∧ va_RA s cA (.object C) := by
  obtain ⟨comp, cA, k, h1, -, h2, h3, h4⟩ := Cond.arrayOver_spec h
  exact ⟨cA, fun N z => ⟨(fun k h => by cases h), k, h2, comp, h3⟩, k, comp, h2, h3, h1, h4⟩
theorem hw_ar (hts : ∀ w ∈ lw_tbl, w.before args s = true) : ∀ k : Nat, ∃ cA : ClassId, ∀ ty, hw_at k = some ty → ArrOfT s cA ty ∧ va_RA s cA ty := by
  have ha := hz_arr
  have ho := hz_over
  simp only [Bool.and_eq_true] at ha ho
  have key : ∀ (k : Nat) (ty : FieldType), hw_at k = some ty → (∃ cA : ClassId, ArrOfT s cA ty ∧ va_RA s cA ty) → ∃ cA : ClassId, ∀ ty, hw_at k = some ty → ArrOfT s cA ty ∧ va_RA s cA ty := by
    intro k ty h1 ⟨cA, h2⟩
    exact ⟨cA, fun ty' h' => by rw [h1] at h'; cases h'; exact h2⟩
  intro k
  match k with
  | 0 => exact key 0 _ rfl (hw_ac (fun C h => by cases h) (hts _ (hw_inTB (hy_wAt_mem ha.1.1))))
  | 1 => exact key 1 _ rfl (hw_ac (fun C h => by cases h) (hts _ (hw_inTB (hy_wAt_mem ha.1.2))))
  | 2 => exact key 2 _ rfl (hw_ac (fun C h => by cases h) (hts _ (hw_inTB (hy_wAt_mem ha.2))))
  | 10 => exact key 10 _ rfl (hw_ao (hts _ (hw_mem ho.1.1.1)))
  | 11 => exact key 11 _ rfl (hw_ao (hts _ (hw_mem ho.1.1.2)))
  | 12 => exact key 12 _ rfl (hw_ao (hts _ (hw_mem ho.1.2)))
  | 13 => exact key 13 _ rfl (hw_ao (hts _ (hw_mem ho.2)))
  | 3 | 4 | 5 | 6 | 7 | 8 | 9 => exact ⟨0, fun ty h => by cases h⟩
  | n + 14 => exact ⟨0, fun ty h => by cases h⟩
def hw_sk : List Nat := [45, 51, 53, 101, 103, 105]
def hw_tm (i : Nat) : Term := .string "HayBoard$Tape" (hw_sk.getD i 0)
def hw_vf (i : Nat) : Term := .field (hw_tm i) "java/lang/String" "value" "[B"
def hw_F : List Jvm.Cond := flatC (Jvm.Cond.and given_1 narrow_1)
theorem hw_s1 : (List.range 6).all (fun i => decide (Jvm.Cond.exactly (hw_tm i) "java/lang/String" ∈ hw_F) && decide (Jvm.Cond.eq (.field (hw_tm i) "java/lang/String" "coder" "B") (.int 0) ∈ hw_F) && decide (Jvm.Cond.arrayOf (hw_vf i) .byte ∈ hw_F) && decide (Jvm.Cond.eq (.length (hw_vf i)) (.int (Int32.ofNat (hy_SLn.getD i 0))) ∈ hw_F) &&
    (List.range (hy_SLn.getD i 0)).all fun j => decide (Jvm.Cond.eq (.elem (hw_vf i) (.int (Int32.ofNat j))) (.int ((hy_SBl.getD i []).getD j 0)) ∈ hw_F)) = true := by decide +kernel
theorem hw_s2 : (List.range 6).all (fun i => (List.range 6).all fun j => Nat.beq i j || (decide (Jvm.Cond.not (.eq (hw_tm i) (hw_tm j)) ∈ hw_F) || decide (Jvm.Cond.not (.eq (hw_tm j) (hw_tm i)) ∈ hw_F))) = true := by decide +kernel
theorem hw_s3 : ∀ i, i < 6 → hy_SLn.getD i 0 < 2 ^ 31 := by decide +kernel
theorem hw_str {A : Nat → Prop} (hs : ∀ w ∈ hw_F, w.before args s = true) (hA : ∀ a : Nat, a < s.heap.size → ¬ A a) : ∃ adK adV : Nat → Nat, vk_S 6 hy_SLn hy_SBl adK adV A s s.heap ∧ ∀ i : Nat, i < 6 → (hw_tm i).eval args s none [] s = some (.ref (adK i)) := by
  have h1 : ∀ i, i < 6 → _ := fun i hi => List.all_eq_true.mp hw_s1 i (List.mem_range.mpr hi)
  simp only [Bool.and_eq_true, decide_eq_true_eq] at h1
  refine vk_Sof hw_s3 (fun i hi => hs _ (h1 i hi).1.1.1.1) (fun i hi => hs _ (h1 i hi).1.1.1.2) (fun i hi => hs _ (h1 i hi).1.1.2) (fun i hi => hs _ (h1 i hi).1.2) (fun i hi j hj => hs _ ?_) (fun i j hi hj hn => ?_) hA
  · exact of_decide_eq_true (List.all_eq_true.mp (h1 i hi).2 j (List.mem_range.mpr hj))
  · have := List.all_eq_true.mp (List.all_eq_true.mp hw_s2 i (List.mem_range.mpr hi)) j (List.mem_range.mpr hj)
    rw [Bool.or_eq_true, Bool.or_eq_true, decide_eq_true_eq, decide_eq_true_eq] at this
    rcases this with h | h | h
    · exact absurd (Nat.eq_of_beq_eq_true h) hn
    · exact Or.inl (hs _ h)
    · exact Or.inr (hs _ h)
theorem hw_vkS {N : Nat} {len : List Nat} {byt : List (List Int32)} {k1 v1 k2 v2 : Nat → Nat} {A : Nat → Prop} {U : State} {H : Heap} (h : vk_S N len byt k1 v1 A U H) (hk : ∀ i, i < N → k2 i = k1 i) (hv : ∀ i, i < N → v2 i = v1 i) : vk_S N len byt k2 v2 A U H := by
  refine ⟨fun i hi => ?_, fun i j hi hj he => h.2 i j hi hj (by rw [← hk i hi, ← hk j hj]; exact he)⟩
  rw [hk i hi, hv i hi]
  exact h.1 i hi
end HW
end
section
/-! THE LAW'S ENTRY: the picture's constants -/
def hw_wi : Bool := hy_wM 734 (.laysStatic "java/lang/String" "COMPACT_STRINGS" "Z") && hy_wM 750 (.laysStatic "jdk/internal/util/Preconditions" "SIOOBE_FORMATTER" "Ljava/util/function/BiFunction;") && hy_wM 72 (.initialized "java/lang/String") && hy_wM 74 (.initialized "jdk/internal/util/Preconditions")
theorem hw_wi_ok : hw_wi = true := by decide +kernel
def hw_zA : Jvm.Cond := .eq (.static "java/lang/String" "COMPACT_STRINGS" "Z") (.int 1)
def hw_zB : Jvm.Cond := .isRef (.static "jdk/internal/util/Preconditions" "SIOOBE_FORMATTER" "Ljava/util/function/BiFunction;")
theorem hw_zin : hw_zA ∈ hw_F ∧ hw_zB ∈ hw_F := by decide +kernel
def hw_ad (base : Nat) (adK adV : Nat → Nat) (fl t b : Nat) (a : Nat) : Nat := if a < 162 then base + a else if a < 1010 then adK (a - 1000) else if a < 1998 then adV (a - 1010) else if a = 1998 then fl else if a = 1999 then t else b
theorem hw_STi : ∀ q ∈ hy_ST, q.1 = 2 ∧ q.2.2.1 < 6 ∧ q.2.1 = hw_sk.getD q.2.2.1 0 := by decide +kernel
theorem hw_cn2 : hy_cn 2 = "HayBoard$Tape" := by decide +kernel
theorem hw_rc : ∀ C ∈ hz_RC, hw_at 10 = some (.object C) ∨ hw_at 11 = some (.object C) ∨ hw_at 12 = some (.object C) ∨ hw_at 13 = some (.object C) := by decide +kernel
section HW
variable {s : State} {args : Array Value} {b L : Nat} {xs : Nat → Int32}
theorem hw_tyk {f : Nat → ClassId} (h : ∀ k ty, hw_at k = some ty → ArrOfT s (f k) ty ∧ va_RA s (f k) ty) : ∀ (k : Nat) (q : ClassId × FieldType), ([(f 0, .int), (f 1, .char), (f 2, .boolean), (f 10, .object "HayBoard$Law"), (f 11, .object "HayBoard$Sheet"), (f 12, .object "HayBoard$Slot"), (f 13, .object "HayBoard$Bale")] : List (ClassId × FieldType))[k]? = some q → ArrOfT s q.1 q.2 ∧ va_RA s q.1 q.2 := by
  intro k q hq
  match k, hq with
  | 0, hq => cases hq; exact h 0 _ rfl
  | 1, hq => cases hq; exact h 1 _ rfl
  | 2, hq => cases hq; exact h 2 _ rfl
  | 3, hq => cases hq; exact h 10 _ rfl
  | 4, hq => cases hq; exact h 11 _ rfl
  | 5, hq => cases hq; exact h 12 _ rfl
  | 6, hq => cases hq; exact h 13 _ rfl
  | n + 7, hq => cases hq
theorem hw_clk {d1 : Nat → ClassId} {d2 : Nat → Nat → Nat} (h : ∀ t, 1 ≤ t → t ≤ 9 → u_Kn s (hy_cn t) (hy_T t) (hy_N t) (d1 (t - 1)) (d2 (t - 1))) : ∀ (c : Nat) (q : vw_C), hy_cl[c]? = some q → u_Kn s q.1 q.2.1 q.2.2 (d1 c) (d2 c) := by
  intro c q hq
  have hc : c < 9 := (List.getElem?_eq_some_iff.mp hq).1
  have := hy_clk (kd := c + 1) (by omega) (by omega)
  rw [Nat.add_sub_cancel, hq] at this
  cases this
  exact h (c + 1) (by omega) (by omega)
/-- the constants of the picture, out of the start -/
theorem hw_boot (hts : ∀ w ∈ lw_tbl, w.before args s = true) (hX : va_X b L xs s s.heap) (hb : b < s.heap.size) (hL : L ≤ 3072) (hgv : (Jvm.Cond.and given_1 narrow_1).before args s = true) :
    ∃ G : hy_G, hy_base G = s.heap.size ∧ hy_adr G 2000 = b ∧ hy_L G = L ∧ hy_xs G = xs ∧ hy_KU G s ∧ hz_KU G s := by
  have hs : ∀ w ∈ hw_F, w.before args s = true := flat_of_before _ hgv
  obtain ⟨f, hf⟩ := Classical.skolem.mp (hw_kn hts)
  obtain ⟨cy, hcy⟩ := Classical.skolem.mp (hw_ar hts)
  have hA : ∀ a : Nat, a < s.heap.size → ¬ s.heap.size ≤ a := fun a h => by omega
  obtain ⟨adK, adV, hvk, hev⟩ := hw_str (A := fun q => s.heap.size ≤ q) hs hA
  have hwi := hw_wi_ok
  unfold hw_wi at hwi
  simp only [Bool.and_eq_true] at hwi
  obtain ⟨⟨⟨w1, w2⟩, w3⟩, w4⟩ := hwi
  obtain ⟨v, hv, hvr⟩ := Cond.isRef_spec (hs _ hw_zin.2)
  have hfl : ∃ fl t : Nat, v = (bif Nat.beq fl 0 then Value.ref t else .null) := by
    cases v with
    | ref t => exact ⟨0, t, rfl⟩
    | null => exact ⟨1, 0, rfl⟩
    | _ => cases hvr
  obtain ⟨fl, t, hfl⟩ := hfl
  let G : hy_G := (fun c => (f (c + 1)).1, fun c => (f (c + 1)).2, cy, hw_ad s.heap.size adK adV fl t b, s.heap.size, L, xs)
  have hK : va_K (hy_D G) hy_cl (hy_tys G) s := by
    refine ⟨hw_clk fun t h1 h2 => ?_, hw_tyk hcy⟩
    have := hf t h1 h2
    show u_Kn s (hy_cn t) (hy_T t) (hy_N t) (f (t - 1 + 1)).1 (f (t - 1 + 1)).2
    rw [Nat.sub_add_cancel h1]
    exact this
  have e1998 : hy_adr G 1998 = fl := rfl
  have e1999 : hy_adr G 1999 = t := rfl
  have e2000 : hy_adr G 2000 = b := rfl
  have eK : ∀ i, i < 6 → hy_adr G (1000 + i) = adK i := by
    intro i hi
    show hw_ad s.heap.size adK adV fl t b (1000 + i) = adK i
    unfold hw_ad
    rw [if_neg (by omega), if_pos (by omega), Nat.add_sub_cancel_left]
  have eV : ∀ i, i < 6 → hy_adr G (1010 + i) = adV i := by
    intro i hi
    show hw_ad s.heap.size adK adV fl t b (1010 + i) = adV i
    unfold hw_ad
    rw [if_neg (by omega), if_neg (by omega), if_pos (by omega), Nat.add_sub_cancel_left]
  refine ⟨G, rfl, rfl, rfl, rfl, ⟨hK, fun a ha => ?_, Nat.le_refl _, hb, by show L < 2 ^ 31; omega, hX, hw_vkS hvk eK eV, fun q hq => ?_, fun q hq ho => ?_, ?_, ?_⟩, hK, fun q hq ho => ?_, fun C hC => ?_⟩
  · show hw_ad s.heap.size adK adV fl t b a = s.heap.size + a
    unfold hw_ad
    rw [if_pos ha]
  · obtain ⟨q1, q2, q3⟩ := hw_STi q hq
    refine vk_R.of (A := args) (hts _ (hw_mem (List.all_eq_true.mp hy_st_ok q hq))) ?_
    rw [eK _ q2, q1, hw_cn2, q3]
    exact hev _ q2
  · have := List.all_eq_true.mp hy_ml_ok q hq
    rw [show Nat.beq (q.2.2.1 % 2) 1 = true from by rw [ho]; rfl] at this
    exact va_Nw.of rfl (hts _ (hw_mem this))
  · exact va_Zof (hts _ (hw_mem w1)) (hts _ (hw_mem w3)) (va_eqt (hs _ hw_zin.1)) hA
  · have ev : hy_fv G = v := hfl.symm
    rw [ev]
    exact va_Zof (hts _ (hw_mem w2)) (hts _ (hw_mem w4)) hv hA
  · have := List.all_eq_true.mp hz_ml_ok q hq
    rw [Bool.and_eq_true, show Nat.beq (q.2.2.1 % 2) 1 = true from by rw [ho]; rfl] at this
    exact va_Nw.of rfl (hts _ (hw_mem this.1))
  · have ho := hz_over
    simp only [Bool.and_eq_true] at ho
    have h4 : ∀ C' ∈ hz_RC, (Jvm.Cond.arrayOver (.object C')).before args s = true := by
      intro C' h'
      simp only [hz_RC, List.mem_cons, List.mem_nil_iff, or_false] at h'
      rcases h' with rfl | rfl | rfl | rfl
      · exact hts _ (hw_mem ho.1.1.1)
      · exact hts _ (hw_mem ho.1.1.2)
      · exact hts _ (hw_mem ho.1.2)
      · exact hts _ (hw_mem ho.2)
    exact va_AO.of (A := args) (h4 C hC)
end HW
end
section
/-! THE LAW'S ENTRY: the heap behind both constructors is the machine's store -/
theorem hw_runs2 : (hz_run 200 9 9 0 [.ref 138] [] (hz_h1 ++ [(9, hz_def 9)])).isSome = true := by decide +kernel
def hw_ok (a : Nat) (c : Ce) : Bool :=
  let kd := hy_ka a
  bif Nat.ble 1 kd && Nat.ble kd 9 then Nat.beq c.1 kd && Nat.beq c.2.length (hy_N kd) && (List.range (hy_N kd)).all fun k => (match hy_fr (kd * 64 + k) with
    | some (_, off) => Nat.blt (hy_ad off a) 162 && decide (c.2[k]? = some (.ref (hy_ad off a)))
    | none => decide (c.2[k]? = some (.int (hz_io (c.2.getD k (.int 0))))))
  else match hy_ra kd with
    | some (n, _, off, sd) => Nat.beq c.1 kd && (Nat.ble 10 kd && Nat.ble kd 13) && Nat.beq c.2.length n.toNat && (List.range n.toNat).all fun i => Nat.blt (a + off + sd * i) 162 && decide (c.2[i]? = some (.ref (a + off + sd * i)))
    | none => match hy_al kd with
      | some (so, n) => Nat.beq c.1 (14 + so) && Nat.beq c.2.length n.toNat
      | none => false
def hw_oks (a : Nat) : List Ce → Bool
  | [] => Nat.beq a 162
  | c :: cs => hw_ok a c && hw_oks (a + 1) cs
theorem hw_lay : hw_oks 0 hz_h2 = true := by decide +kernel
end
section
/-! THE LAW'S ENTRY: the store at the law's first turn -/
def hw_σ0 (h2 : Hp) (L : Nat) (xs : Nat → Int32) : Sg := fun a k => if a < 162 then hz_io ((h2.getD a (0, [])).2.getD k (.int 0)) else if a = 2000 then (if k = 5000 then Int32.ofNat L else xs k) else if 1010 ≤ a ∧ a < 1016 then (if k = 5000 then Int32.ofNat (hy_SLn.getD (a - 1010) 0) else (hy_SBl.getD (a - 1010) []).getD k 0) else 0
theorem hw_oks_at : ∀ (h : List Ce) (a : Nat), hw_oks a h = true → (∀ i c, h[i]? = some c → hw_ok (a + i) c = true) ∧ a + h.length = 162 := by
  intro h
  induction h with
  | nil => intro a he; exact ⟨fun i c hi => by simp at hi, by simpa using Nat.eq_of_beq_eq_true he⟩
  | cons c cs ih =>
    intro a he
    unfold hw_oks at he
    rw [Bool.and_eq_true] at he
    obtain ⟨h1, h2⟩ := ih (a + 1) he.2
    refine ⟨fun i c' hi => ?_, by simp only [List.length_cons]; omega⟩
    cases i with
    | zero => simp at hi; subst hi; exact he.1
    | succ i =>
      rw [List.getElem?_cons_succ] at hi
      have := h1 i c' hi
      rwa [show a + 1 + i = a + (i + 1) by omega] at this
theorem hw_arrV {cA : ClassId} {N : Nat} {f g : Nat → Value} (h : ∀ j, j < N → f j = g j) : arrV cA N f = arrV cA N g := by
  unfold arrV
  congr 2
  funext j
  exact h j.val j.isLt
section HW
variable {G : hy_G}
theorem hw_getD {c : Ce} {k : Nat} {v w : Value} (h : c.2[k]? = some v) : c.2.getD k w = v := by rw [List.getD_eq_getElem?_getD, h]; rfl
theorem hw_cellat (hadr : ∀ a, a < 162 → hy_adr G a = hy_base G + a) {σ : Sg} {a : Nat} (ha : a < 162) {c : Ce} (hok : hw_ok a c = true) (hσ : ∀ k, σ a k = hz_io (c.2.getD k (.int 0))) {H : Heap} (h : va_at (hy_D G) hy_cl (hy_base G + a, hz_cell G c) H) : va_at (hy_D G) hy_cl (hy_adr G a, hy_cell G σ a) H := by
  rw [hadr a ha]
  unfold hw_ok at hok
  dsimp only at hok
  rw [cond_eq_ite] at hok
  by_cases hk : (Nat.ble 1 (hy_ka a) && Nat.ble (hy_ka a) 9) = true
  · rw [if_pos hk] at hok
    simp only [Bool.and_eq_true] at hok hk
    obtain ⟨⟨o1, o2⟩, o3⟩ := hok
    have k1 := Nat.le_of_ble_eq_true hk.1
    have k9 := Nat.le_of_ble_eq_true hk.2
    have o1 := Nat.eq_of_beq_eq_true o1
    have o2 := Nat.eq_of_beq_eq_true o2
    have el : (List.range (hy_N (hy_ka a))).map (hy_fld G σ a (hy_ka a)) = c.2.map (hz_cv G) := by
      apply List.ext_getElem?
      intro j
      by_cases hj : j < hy_N (hy_ka a)
      · have h3 := List.all_eq_true.mp o3 j (List.mem_range.mpr hj)
        rw [List.getElem?_map, List.getElem?_range hj, List.getElem?_map, Option.map_some]
        unfold hy_fld
        split at h3
        · rename_i x off hfr
          rw [hfr]
          rw [Bool.and_eq_true, decide_eq_true_eq] at h3
          rw [h3.2]
          show some (Value.ref (hy_adr G (hy_ad off a))) = some (Value.ref (hy_base G + hy_ad off a))
          rw [hadr _ (Nat.le_of_ble_eq_true h3.1)]
        · rename_i hfr
          rw [hfr, hσ]
          rw [decide_eq_true_eq] at h3
          rw [h3]
          rfl
      · rw [List.getElem?_eq_none (by simp; omega), List.getElem?_eq_none (by simp; omega)]
    have e : hy_cell G σ a = hz_cell G c := by
      unfold hy_cell hz_cell
      dsimp only
      rw [if_pos ⟨k1, k9⟩, if_pos (by omega), o1, el]
    rw [e]
    exact h
  · rw [if_neg hk] at hok
    have hk' : ¬ (1 ≤ hy_ka a ∧ hy_ka a ≤ 9) := fun z => hk (by rw [Bool.and_eq_true]; exact ⟨Nat.ble_eq_true_of_le z.1, Nat.ble_eq_true_of_le z.2⟩)
    split at hok
    · rename_i n kd off sd hra
      simp only [Bool.and_eq_true] at hok
      obtain ⟨⟨⟨o1, o2, o3⟩, o4⟩, o5⟩ := hok
      have o1 := Nat.eq_of_beq_eq_true o1
      have o4 := Nat.eq_of_beq_eq_true o4
      have o2 := Nat.le_of_ble_eq_true o2
      have o3 := Nat.le_of_ble_eq_true o3
      have e1 : hy_cell G σ a = .inl (hy_cy G (hy_ka a), n.toNat, .inr (.inr (.inr (.inr fun i => some (hy_adr G (a + off + sd * i)))))) := by
        unfold hy_cell
        dsimp only
        rw [if_neg hk', hra]
      have e2 : hz_cell G c = .inl (hy_cy G (hy_ka a), n.toNat, .inr (.inr (.inr (.inr fun j => hz_ro G (c.2.getD j .null))))) := by
        unfold hz_cell
        rw [if_neg (by omega), if_pos (by omega), o1, o4]
      rw [e1]
      rw [e2] at h
      refine Eq.trans h (congrArg some (show arrV (hy_cy G (hy_ka a)) n.toNat (fun j => va_rf (hz_ro G (c.2.getD j .null))) = arrV (hy_cy G (hy_ka a)) n.toNat (fun j => va_rf (some (hy_adr G (a + off + sd * j)))) from hw_arrV fun j hj => ?_))
      have h3 := List.all_eq_true.mp o5 j (List.mem_range.mpr hj)
      rw [Bool.and_eq_true, decide_eq_true_eq] at h3
      show va_rf (hz_ro G (c.2.getD j .null)) = va_rf (some (hy_adr G (a + off + sd * j)))
      rw [hw_getD h3.2, hadr _ (Nat.le_of_ble_eq_true h3.1)]
      rfl
    · rename_i hra
      split at hok
      · rename_i so n hal
        simp only [Bool.and_eq_true] at hok
        have o1 := Nat.eq_of_beq_eq_true hok.1
        have o2 := Nat.eq_of_beq_eq_true hok.2
        have e1 : hy_cell G σ a = hz_cell G c := by
          unfold hy_cell hz_cell
          dsimp only
          rw [if_neg hk', hra, hal, if_neg (by omega), if_neg (by omega), o1, o2, Nat.add_sub_cancel_left, show (fun j => hz_io (c.2.getD j (.int 0))) = σ a from funext fun k => (hσ k).symm]
        rw [e1]
        exact h
      · cases hok
theorem hw_HR0 {h2 : Hp} (hlay : hw_oks 0 h2 = true) (hadr : ∀ a, a < 162 → hy_adr G a = hy_base G + a) (hL : hy_L G ≤ 3072) {H : Heap} (h : hz_HR G h2 H) : hy_HR G (hw_σ0 h2 (hy_L G) (hy_xs G)) H := by
  obtain ⟨h1, -, -⟩ := h
  have hlen : h2.length = 162 := by have := (hw_oks_at h2 0 hlay).2; omega
  have hget : ∀ (k : Nat) (q : Nat × va_E), (hy_wl G (hw_σ0 h2 (hy_L G) (hy_xs G)))[k]? = some q → k < 162 ∧ q = (hy_adr G k, hy_cell G (hw_σ0 h2 (hy_L G) (hy_xs G)) k) := by
    intro k q hq
    have hk : k < 162 := by
      have := (List.getElem?_eq_some_iff.mp hq).1
      rwa [hy_wl_len] at this
    rw [hy_wl_get G _ hk] at hq
    exact ⟨hk, (Option.some.inj hq).symm⟩
  refine ⟨fun k q hq => ?_, ⟨fun i j p q hp hq he => ?_, fun k q hq => ?_⟩, fun i hi => ⟨fun j hj => ?_, ?_, ?_⟩, fun j hj => ?_, ?_⟩
  · obtain ⟨hk, rfl⟩ := hget k q hq
    have hc : h2[k]? = some (h2[k]'(by rw [hlen]; exact hk)) := List.getElem?_eq_getElem _
    have hok := (hw_oks_at h2 0 hlay).1 k _ hc
    rw [Nat.zero_add] at hok
    refine hw_cellat hadr hk hok (fun j => ?_) (h1 k _ (hz_wl_get G hc))
    unfold hw_σ0
    rw [if_pos hk, show h2.getD k (0, []) = h2[k]'(by rw [hlen]; exact hk) from by rw [List.getD_eq_getElem?_getD, hc]; rfl]
  · obtain ⟨hi, rfl⟩ := hget i p hp
    obtain ⟨hj, rfl⟩ := hget j q hq
    dsimp only at he
    rw [hadr i hi, hadr j hj] at he
    omega
  · obtain ⟨hk, rfl⟩ := hget k q hq
    show hy_base G ≤ hy_adr G k
    rw [hadr k hk]
    omega
  · have : j ≠ 5000 := by
      have h6 : ∀ i, i < 6 → hy_SLn.getD i 0 ≤ 4 := by decide +kernel
      have := h6 i hi
      omega
    unfold hw_σ0
    rw [if_neg (by omega), if_neg (by omega), if_pos (by omega), if_neg this, Nat.add_sub_cancel_left]
  · unfold hw_σ0
    rw [if_neg (by omega), if_neg (by omega), if_pos (by omega), if_pos rfl, Nat.add_sub_cancel_left]
  · unfold hw_σ0
    rw [if_neg (by omega), if_neg (by omega), if_neg (by omega)]
  · unfold hw_σ0
    rw [if_neg (by omega), if_pos rfl, if_neg (by omega)]
  · unfold hw_σ0
    rw [if_neg (by omega), if_pos rfl, if_pos rfl]
end HW
def hw_σ (L : Nat) (xs : Nat → Int32) : Sg := hw_σ0 hz_h2 L xs
theorem hw_HR {G : hy_G} (hadr : ∀ a, a < 162 → hy_adr G a = hy_base G + a) (hL : hy_L G ≤ 3072) {H : Heap} (h : hz_HR G hz_h2 H) : hy_HR G (hw_σ (hy_L G) (hy_xs G)) H := hw_HR0 (h2 := hz_h2) hw_lay hadr hL h
theorem hw_len2 : hz_h2.length = 162 := by have := (hw_oks_at hz_h2 0 hw_lay).2; omega
end
section
/-! THE LAW'S ENTRY: the walk to the loop -/
section HW
variable {p : Program} {l : Launch} {e : Env} {R : Room} {s : State} {m : MethodId} {args : Array Value} {below : List Frame} {meth : Method} {c : Code} {Q : State → Prop} {G : hy_G} {pc : Nat} {cc : ByteArray} {locs : List Loc} {cells slots : Nat} {ls : Array Slot} {rest : List Value}
theorem hw_new {t : Nat} {q : Nat × Nat × Nat × Nat} {h : Hp} {H : Heap} (hx : p.tables.exec = Jvm.exec) (hb : c.code = cc) (hown : s.vm.findClass (hy_cn q.1) = some m.cls) (hts : ∀ w ∈ hy_TB, w.before args s = true) (hU : hz_KU G s) (g1 : 1 ≤ t) (g9 : t ≤ 9) (hq : q ∈ hz_CL) (hq2 : q.2.2.1 = t) (hd : decode cc pc = .ok (.new q.2.1, 3)) (hc1 : cells + 1 ≤ R.cells) (hc2 : slots + hy_N t ≤ R.slots) (hbs : hy_base G ≤ s.heap.size)
    (hH : hz_HR G h H) (hS : va_S (hy_A G) s.heap H locs) (K : ∀ H1, hz_HR G (h ++ [(t, hz_def t)]) H1 → va_S (hy_A G) s.heap H1 locs → W p l e R s m args below meth c H1 locs (cells + 1) (slots + hy_N t) Q (F0 m (pc + 3) ls (.ref (hy_base G + h.length) :: rest))) : W p l e R s m args below meth c H locs cells slots Q (F0 m pc ls rest) := by
  have hw := hts _ (hy_wAt_mem (List.all_eq_true.mp hz_cl_ok q hq))
  rw [hq2] at hw
  obtain ⟨k1, k2, k3⟩ := hz_KI_ok t (by omega) g1
  obtain ⟨f1, f2, f3, f4, -⟩ := hz_facts k2 k1
  rw [k3] at f3 f4
  rw [← f4] at f1 f3
  have hKn := hU.1.1 (t - 1) _ (hy_clk g1 g9)
  refine W.newcK hx hb hown hw (hts _ f3) (hts _ f1) rfl hd hc1 hc2 hKn.2.1 hH.2.2 fun H1 kC hkC e1 z1 o1 => ?_
  have hcell : hz_cell G (t, hz_def t) = .inr (t - 1, hz_def t) := by
    unfold hz_cell; rw [if_pos g9, hz_def_cv]
  obtain ⟨hHR, hS1⟩ := hz_push (c0 := (t, hz_def t)) (cellV := (0, .inr (t - 1, hz_def t))) hH hS hbs hcell ⟨_, hy_clk g1 g9, (u_born (hy_ty t) hts (hy_in g9) hKn hkC e1 (hy_tyk g9)).to (fun j hj => by
    rw [hz_born t (by omega) g1 j hj]; rfl)⟩ (by rw [z1, hH.2.2]) (fun q hq => o1 q (by rw [← hH.2.2]; exact hq))
  exact K H1 hHR hS1
theorem hw_call {z d mL : Nat} {q : Nat × Nat × Nat × Nat} {h h1 : Hp} {H : Heap} {a : Nat} (hx : p.tables.exec = Jvm.exec) (hb : c.code = cc) (hml : c.maxLocals = mL) (hown : s.vm.findClass (hy_cn q.1) = some m.cls) (hts : ∀ w ∈ hy_TB, w.before args s = true) (hU : hz_KU G s) (hlen : ls.size = mL) (hz : z + 1 < 10) (hna : hz_na (z + 1) = 1)
    (hq : q ∈ hz_ML) (hq2 : q.2.2.1 = 2 * (z + 1)) (hd : decode cc pc = .ok (.invokespecial q.2.1, 3)) (hf : d + 1 ≤ R.frames) (hlo : 19 + hz_mx (z + 1) + 64 * d ≤ R.locals) (hc1 : cells + (h1.length - h.length) ≤ R.cells) (hc2 : slots + (hz_sz h1 - hz_sz h) ≤ R.slots)
    (hM : hz_Mt l G d (z + 1) [.ref a] h h1) (hH : hz_HR G h H) (hS : va_S (hy_A G) s.heap H locs) (hcat : (rest.map fun v => v.category).sum ≤ 8)
    (K : ∀ H1 locs1, hz_HR G h1 H1 → va_S (hy_A G) s.heap H1 locs1 → W p l e R s m args below meth c H1 locs1 (cells + (h1.length - h.length)) (slots + (hz_sz h1 - hz_sz h)) Q (F0 m (pc + 3) ls rest)) : W p l e R s m args below meth c H locs cells slots Q (F0 m pc ls (.ref (hy_base G + a) :: rest)) := by
  obtain ⟨f1, f2, f3, f4, f5, f6, f7, f8⟩ := hz_facts (Nat.succ_pos z) hz
  have hwords : ∀ w ∈ hz_ws (z + 1), ∀ (a' : Array Value) (U : State), s.WarmedH U.vm → w.before a' U = true := by
    intro w hw a' U hW
    have hin : w ∈ hy_TB := (List.mem_cons.mp hw).elim (fun e => e ▸ hz_code_in (Nat.succ_pos z) hz) id
    exact word_at hW (good_of_word (hy_goodTB hin)) (hts w hin)
  have hparse : ∀ sig, parseMethodDescriptor (hz_m (z + 1)).1.desc = some sig → hz_na (z + 1) - 1 = sig.parameters.length := by
    intro sig hsig
    rw [hsig] at f8
    exact (Option.some.inj f8).symm
  rw [hna] at hparse
  have hpre : PreS s H (hz_Pc G [.ref a] h) (.ref (hy_base G + a) :: []) := ⟨hz_blind G _ _, fun U hUH hW => ⟨rfl, by rw [hUH]; exact hH, hz_KU_moved hU hW⟩⟩
  have h2 := List.all_eq_true.mp hz_ml_ok q hq
  rw [Bool.and_eq_true, Bool.or_eq_true, show Nat.beq (q.2.2.1 % 2) 1 = false from by rw [hq2, Nat.mul_mod_right]; rfl] at h2
  have h3 := h2.2.resolve_left (fun z => by cases z)
  rw [show q.2.2.1 / 2 = z + 1 from by rw [hq2]; omega] at h3
  have hB : (hz_rm d (h1.length - h.length) (hz_sz h1 - hz_sz h)).frames + 1 ≤ R.frames := hf
  have hL : 8 + (hz_mx (z + 1) + 11) + (hz_rm d (h1.length - h.length) (hz_sz h1 - hz_sz h)).locals ≤ R.locals := by show 8 + (hz_mx (z + 1) + 11) + 64 * d ≤ R.locals; omega
  have hrun : va_Run p l e R s m args below meth c H locs cells slots (h1.length - h.length) (hz_sz h1 - hz_sz h) (F0 m pc ls (.ref (hy_base G + a) :: rest)) rest (va_Qv (S := Unit) (fun _ => True) (fun _ t => hz_HR G h1 t.heap) (hy_A G) (Value.ref (hy_base G + a) :: []).toArray) (hy_A G) :=
    va_runI (own := hy_cn q.1) (bytes := hz_b (z + 1)) (maxL := hz_mx (z + 1)) ⟨hx, hb, hml, hown, hts⟩ hM ⟨⟨rfl, rfl, hB, hL, hwords, List.mem_cons_self, hts _ (hz_code_in (Nat.succ_pos z) hz), hts _ f1, f7, hparse, hts _ (hy_wAt_mem h3)⟩, f5, hts _ f2⟩ hpre rfl rfl hlen rfl (lv_room hcat) hd ⟨hc1, hc2⟩
  refine va_callv (S := Unit) (post := fun _ => True) (B := fun _ t => hz_HR G h1 t.heap) (A1 := hy_A G) (a := (Value.ref (hy_base G + a) :: []).toArray) hrun hS (fun _ _ h => h) (fun _ h => h) (fun u t H1 locs1 ht hvm hp hB hz1 hk1 hS1 => ?_)
  rw [ht] at hB
  exact K H1 locs1 hB hS1
end HW
end
section
/-! THE LAW'S ENTRY: from the start to the loop, and from the loop's answer to the end -/
theorem hw_d0 : decode code 0 = .ok (.new 7, 3) ∧ decode code 3 = .ok (.dup, 1) ∧ decode code 4 = .ok (.invokespecial 9, 3) ∧ decode code 7 = .ok (.astore_n 1, 1) := by decide +kernel
theorem hw_d1 : decode code 8 = .ok (.new 10, 3) ∧ decode code 11 = .ok (.dup, 1) ∧ decode code 12 = .ok (.invokespecial 12, 3) ∧ decode code 15 = .ok (.astore_n 2, 1) := by decide +kernel
theorem hw_d2 : decode code 16 = .ok (.iconst 0, 1) ∧ decode code 17 = .ok (.istore_n 3, 1) := by decide +kernel
theorem hw_q : ((0, 7, 1, 77) : Nat × Nat × Nat × Nat) ∈ hz_CL ∧ ((0, 10, 9, 981) : Nat × Nat × Nat × Nat) ∈ hz_CL ∧ ((0, 9, 16, 79) : Nat × Nat × Nat × Nat) ∈ hz_ML ∧ ((0, 12, 18, 983) : Nat × Nat × Nat × Nat) ∈ hz_ML := by decide +kernel
theorem hw_n : hz_na 8 = 1 ∧ hz_na 9 = 1 ∧ hz_mx 8 ≤ 45 ∧ hz_mx 9 ≤ 45 ∧ hz_mx 8 = 2 ∧ hz_mx 9 = 1 ∧ hy_N 1 ≤ 40 ∧ hy_N 9 ≤ 40 := by decide +kernel
theorem hw_run1 : hz_run 200 9 8 0 ([Value.ref 0] ++ List.replicate (hz_mx 8 - [Value.ref 0].length) .null) [] [(1, hz_def 1)] = some hz_h1 := by
  have h := hz_runs1
  rw [hw_n.2.2.2.2.1]
  obtain ⟨v, hv⟩ := Option.isSome_iff_exists.mp h
  have e : hz_h1 = v := by unfold hz_h1; rw [hv]; rfl
  rw [e]
  exact hv
theorem hw_run2 : hz_run 200 9 9 0 ([Value.ref 138] ++ List.replicate (hz_mx 9 - [Value.ref 138].length) .null) [] (hz_h1 ++ [(9, hz_def 9)]) = some hz_h2 := by
  have h := hw_runs2
  rw [hw_n.2.2.2.2.2.1]
  obtain ⟨v, hv⟩ := Option.isSome_iff_exists.mp h
  have e : hz_h2 = v := by unfold hz_h2; rw [hv]; rfl
  rw [e]
  exact hv
theorem hw_szs : hz_sz hz_h1 ≤ 100000 ∧ hz_sz hz_h2 ≤ 100000 := by decide +kernel
def hw_lv0 : List Vl := [(.ref 2000, 30), (.ref 0, 1), (.ref 138, 9), (.int 0, 0)]
theorem hw_mx0 : hy_mx 0 = 4 ∧ (hy_blk 0 1).1 = 18 ∧ hy_own 0 = 0 ∧ hy_cn 0 = "HayBoardLaw" := by decide +kernel
theorem hw_mz (l : Launch) (G : hy_G) : hz_Mt l G 9 (7 + 1) [.ref 0] [(1, hz_def 1)] hz_h1 ∧ hz_Mt l G 9 (8 + 1) [.ref 138] (hz_h1 ++ [(9, hz_def 9)]) hz_h2 := by
  refine ⟨hz_met (hz_sound l G 200) (by omega) (by omega) ?_ rfl hw_run1 (hz_pc0 8 (by omega)), hz_met (hz_sound l G 200) (by omega) (by omega) ?_ rfl hw_run2 (hz_pc0 9 (by omega))⟩
  · rw [hw_n.2.2.2.2.1]; exact Nat.le_succ 1
  · rw [hw_n.2.2.2.2.2.1]; exact Nat.le_refl 1
end
section
/-! THE LAW'S ENTRY: the whole -/
theorem hw_h0 {G : hy_G} {H : Heap} (h : hy_base G = H.size) : hz_HR G [] H := ⟨fun k q hq => by simp [hz_wl] at hq, ⟨fun i j p q hp => by simp [hz_wl] at hp, fun k q hq => by simp [hz_wl] at hq⟩, by rw [h]; rfl⟩
theorem hw_l8 : 19 + hz_mx (7 + 1) + 64 * 9 ≤ room_1.locals := by decide +kernel
theorem hw_l9 : 19 + hz_mx (8 + 1) + 64 * 9 ≤ room_1.locals := by decide +kernel
theorem hw_enter {p : Program} {e : Env} {s : State} {m : MethodId} {below : List Frame} {meth : Method} {c : Code} (l : Launch) {b L : Nat} {xs : Nat → Int32} {Q : State → Prop} (hL : L ≤ 3072) (hx : p.tables.exec = Jvm.exec) (hb : c.code = code) (hml : c.maxLocals = 4) (hown : s.vm.findClass "HayBoardLaw" = some m.cls) (hts : ∀ w ∈ lw_tbl, w.before #[Value.ref b] s = true) (hX : va_X b L xs s s.heap) (hbl : b < s.heap.size)
    (hgv : (Jvm.Cond.and given_1 narrow_1).before #[Value.ref b] s = true) (hsnd : ∀ (G : hy_G) (n : Nat), hy_Snd l G n) {n d : Nat} {σ' : Sg} (hd : d ≤ 1000) (hrun : hy_run n d 0 1 hw_lv0 [] (hw_σ L xs) = some ((.int 1, 0), σ'))
    (hend : ∀ (pc : Nat) (H : Heap) (ls : Array Slot), decode code pc = .ok (.ireturn, 1) → W p l e room_1 s m #[Value.ref b] below meth c H [] 600000 7302250 Q (F0 m pc ls [.int 1])) : W p l e room_1 s m #[Value.ref b] below meth c s.heap [] 0 0 Q (entryFrame m ([Value.ref b] : List Value).toArray 4) := by
  obtain ⟨G, g1, g2, g3, g4, hU, hZ⟩ := hw_boot hts hX hbl hL hgv
  have hTB : ∀ w ∈ hy_TB, w.before #[Value.ref b] s = true := fun w hw => hts w (hw_inTB hw)
  have hown0 : s.vm.findClass (hy_cn 0) = some m.cls := by rw [hw_mx0.2.2.2]; exact hown
  have hbs : hy_base G ≤ s.heap.size := Nat.le_of_eq g1
  have r1 : room_1.frames = 2048 := rfl
  have r2 : room_1.cells = 600000 := rfl
  have r3 : room_1.slots = 7302250 := rfl
  have r4 : room_1.locals = 84000 := rfl
  have e1 := hz_len1
  have e2 := hw_len2
  obtain ⟨z1, z2⟩ := hw_szs
  obtain ⟨n1, n2, -, -, -, -, n5, n6⟩ := hw_n
  obtain ⟨M1, M2⟩ := hw_mz l G
  rw [lg_entry_eq]
  have hl := lv_entry [Value.ref b] (n := 4) (by show 1 ≤ 4; omega)
  generalize (lg_sl [Value.ref b] ++ List.replicate (4 - (lg_sl [Value.ref b]).length) Slot.unset).toArray = ls at hl ⊢
  refine hw_new (t := 1) hx hb hown0 hTB hZ (by omega) (by omega) hw_q.1 rfl hw_d0.1 (by rw [r2]; omega) (by rw [r3]; omega) hbs (hw_h0 g1) va_S.rf fun H1 hH1 hS1 => ?_
  refine lv_dup hx hb hw_d0.2.1 rfl ?_
  refine hw_call (z := 7) (d := 9) (a := 0) hx hb hml hown0 hTB hZ hl.1 (by omega) n1 hw_q.2.2.1 rfl hw_d0.2.2.1 (by rw [r1]; omega) hw_l8 (by rw [r2]; omega) (by rw [r3]; omega) M1 hH1 hS1 (by show 1 + 0 ≤ 8; omega) fun H2 locs2 hH2 hS2 => ?_
  refine lv_astore_n (k := 1) (i := 1) hx hb hw_d0.2.2.2 rfl hl (by omega) rfl fun ls1 hl1 => ?_
  refine hw_new (t := 9) hx hb hown0 hTB hZ (by omega) (by omega) hw_q.2.1 rfl hw_d1.1 (by rw [r2]; omega) (by rw [r3]; omega) hbs hH2 hS2 fun H3 hH3 hS3 => ?_
  refine lv_dup hx hb hw_d1.2.1 rfl ?_
  rw [e1]
  refine hw_call (z := 8) (d := 9) (a := 138) hx hb hml hown0 hTB hZ hl1.1 (by omega) n2 hw_q.2.2.2 rfl hw_d1.2.2.1 (by rw [r1]; omega) hw_l9 (by rw [r2]; omega) (by rw [r3]; omega) M2 hH3 hS3 (by show 1 + 0 ≤ 8; omega) fun H4 locs4 hH4 hS4 => ?_
  refine lv_astore_n (k := 2) (i := 2) hx hb hw_d1.2.2.2 rfl hl1 (by omega) rfl fun ls2 hl2 => ?_
  refine lv_iconst hx hb hw_d2.1 (v := 0) rfl ?_
  refine lv_istore_n (k := 3) (i := 3) hx hb hw_d2.2 rfl hl2 (by omega) rfl fun ls3 hl3 => ?_
  refine W.widen (k := 600000) (n := 7302250) (by omega) (by omega) ?_
  have hH5 := hw_HR hU.2.1 (by rw [g3]; exact hL) hH4
  rw [g3, g4] at hH5
  have hRt : hy_Rt p l e room_1 s m #[Value.ref b] below meth c 600000 7302250 Q 0 G (.int 1, 0) σ' := by
    intro H locs ls pc hH hS
    refine ⟨fun x hx1 hdg _ _ => ?_, fun x hx1 => (by cases hx1), fun hx1 => (by cases hx1)⟩
    cases hx1
    refine va_forget (fun q hq => ?_) (hend pc H ls hdg)
    have := hS.2.2 q hq
    unfold hy_A at this
    rw [← g1]
    exact this
  have hK := hsnd G n d 0 1 (.int 1, 0) σ' (by omega) p e room_1 s m #[Value.ref b] below meth c 600000 7302250 Q ⟨hx, hb, by rw [hw_mx0.2.2.1]; exact hown0, hTB⟩ hU (by rw [hml, hw_mx0.1]) (by rw [r1]; omega) (by rw [r4]; omega) (Nat.le_of_eq r2.symm) (Nat.le_of_eq r3.symm) hRt
  rw [hw_mx0.2.1] at hK
  have hv : ∀ v ∈ hw_lv0, hy_VT v := by
    intro v hv
    simp only [hw_lv0, List.mem_cons, List.mem_nil_iff, or_false] at hv
    rcases hv with rfl | rfl | rfl | rfl
    · exact hy_VTr (by decide +kernel)
    · exact hy_VTr (by decide +kernel)
    · exact hy_VTr (by decide +kernel)
    · exact hy_VTi _ _
  have hlv : hy_LV G ls3 (hy_mx 0) hw_lv0 := by
    rw [hw_mx0.1]
    refine ⟨rfl, hl3.1, hl3.2.1, fun i v hi _ => ?_⟩
    match i, hi with
    | 0, hi =>
      cases hi
      show ls3[0]? = some (.val (.ref (hy_adr G 2000)))
      rw [g2]
      exact hl3.2.2 (0, .ref b) (by simp [lv_args, Value.category])
    | 1, hi =>
      cases hi
      show ls3[1]? = some (.val (.ref (hy_adr G 0)))
      rw [hU.2.1 0 (by omega)]
      exact hl3.2.2 (1, .ref (hy_base G + 0)) (by simp [lv_args, Value.category])
    | 2, hi =>
      cases hi
      show ls3[2]? = some (.val (.ref (hy_adr G 138)))
      rw [hU.2.1 138 (by omega)]
      exact hl3.2.2 (2, .ref (hy_base G + 138)) (by simp [Value.category])
    | 3, hi =>
      cases hi
      exact hl3.2.2 (3, .int 0) (by simp [Value.category])
    | n + 4, hi => cases hi
  exact hK hw_lv0 [] (hw_σ L xs) H4 locs4 ls3 hrun hv (fun v h => by cases h) hH5 hS4 hlv
end
