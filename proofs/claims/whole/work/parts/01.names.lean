-- ===== PART A: goes FIRST, ahead of the names: the tables' words, and 'selects' of the private methods out of them =====
/-- a private method of a class that the tables say can be made, by its rows of tables_1 -/
def lw_okq (q : MethodName × Nat) : Prop := (q.1.cls ≠ "java/lang/invoke/MethodHandle" ∧ q.1.cls ≠ "java/lang/invoke/VarHandle") ∧ Cond.instantiable q.1.cls q.2 ∈ tables_1 ∧ Cond.privateMethod q.1 ∈ tables_1 ∧ Cond.instanceMethod q.1 ∈ tables_1
theorem lw_p0 : lw_okq (⟨"SaltLines$Reader", "skipBlanks", "()V"⟩, 7) := ⟨⟨by decide +kernel, by decide +kernel⟩, List.mem_of_getElem? (i := 118) (by decide +kernel), List.mem_of_getElem? (i := 292) (by decide +kernel), List.mem_of_getElem? (i := 293) (by decide +kernel)⟩
theorem lw_p1 : lw_okq (⟨"SaltLines$Reader", "readRooms", "()V"⟩, 7) := ⟨⟨by decide +kernel, by decide +kernel⟩, List.mem_of_getElem? (i := 118) (by decide +kernel), List.mem_of_getElem? (i := 300) (by decide +kernel), List.mem_of_getElem? (i := 301) (by decide +kernel)⟩
theorem lw_p2 : lw_okq (⟨"SaltLines$Reader", "readWord", "(I)V"⟩, 7) := ⟨⟨by decide +kernel, by decide +kernel⟩, List.mem_of_getElem? (i := 118) (by decide +kernel), List.mem_of_getElem? (i := 304) (by decide +kernel), List.mem_of_getElem? (i := 305) (by decide +kernel)⟩
theorem lw_p3 : lw_okq (⟨"SaltLines$Reader", "letterAtNext", "()I"⟩, 7) := ⟨⟨by decide +kernel, by decide +kernel⟩, List.mem_of_getElem? (i := 118) (by decide +kernel), List.mem_of_getElem? (i := 308) (by decide +kernel), List.mem_of_getElem? (i := 309) (by decide +kernel)⟩
theorem lw_p4 : lw_okq (⟨"SaltLines$Reader", "mark", "(II)V"⟩, 7) := ⟨⟨by decide +kernel, by decide +kernel⟩, List.mem_of_getElem? (i := 118) (by decide +kernel), List.mem_of_getElem? (i := 312) (by decide +kernel), List.mem_of_getElem? (i := 313) (by decide +kernel)⟩
theorem lw_p5 : lw_okq (⟨"SaltLines$Reader", "readNumber", "(II)I"⟩, 7) := ⟨⟨by decide +kernel, by decide +kernel⟩, List.mem_of_getElem? (i := 118) (by decide +kernel), List.mem_of_getElem? (i := 316) (by decide +kernel), List.mem_of_getElem? (i := 317) (by decide +kernel)⟩
theorem lw_p6 : lw_okq (⟨"SaltLines$Reader", "readClause", "()V"⟩, 7) := ⟨⟨by decide +kernel, by decide +kernel⟩, List.mem_of_getElem? (i := 118) (by decide +kernel), List.mem_of_getElem? (i := 334) (by decide +kernel), List.mem_of_getElem? (i := 335) (by decide +kernel)⟩
theorem lw_p7 : lw_okq (⟨"SaltLines$Reader", "readDoor", "()V"⟩, 7) := ⟨⟨by decide +kernel, by decide +kernel⟩, List.mem_of_getElem? (i := 118) (by decide +kernel), List.mem_of_getElem? (i := 338) (by decide +kernel), List.mem_of_getElem? (i := 339) (by decide +kernel)⟩
theorem lw_p8 : lw_okq (⟨"SaltLines$Reader", "readPerson", "()V"⟩, 7) := ⟨⟨by decide +kernel, by decide +kernel⟩, List.mem_of_getElem? (i := 118) (by decide +kernel), List.mem_of_getElem? (i := 358) (by decide +kernel), List.mem_of_getElem? (i := 359) (by decide +kernel)⟩
theorem lw_p9 : lw_okq (⟨"SaltLines$Tried", "reach", "(II)I"⟩, 1) := ⟨⟨by decide +kernel, by decide +kernel⟩, List.mem_of_getElem? (i := 108) (by decide +kernel), List.mem_of_getElem? (i := 478) (by decide +kernel), List.mem_of_getElem? (i := 479) (by decide +kernel)⟩
theorem lw_p10 : lw_okq (⟨"SaltLines$Tried", "spread", "(II)I"⟩, 1) := ⟨⟨by decide +kernel, by decide +kernel⟩, List.mem_of_getElem? (i := 108) (by decide +kernel), List.mem_of_getElem? (i := 482) (by decide +kernel), List.mem_of_getElem? (i := 483) (by decide +kernel)⟩
theorem lw_p11 : lw_okq (⟨"SaltLines$House", "calmWishes", "()V"⟩, 10) := ⟨⟨by decide +kernel, by decide +kernel⟩, List.mem_of_getElem? (i := 24) (by decide +kernel), List.mem_of_getElem? (i := 592) (by decide +kernel), List.mem_of_getElem? (i := 593) (by decide +kernel)⟩
theorem lw_p12 : lw_okq (⟨"SaltLines$Draws", "draw", "(I)I"⟩, 1) := ⟨⟨by decide +kernel, by decide +kernel⟩, List.mem_of_getElem? (i := 201) (by decide +kernel), List.mem_of_getElem? (i := 652) (by decide +kernel), List.mem_of_getElem? (i := 653) (by decide +kernel)⟩
theorem lw_p13 : lw_okq (⟨"SaltLines$Tried", "leastDoor", "(III)I"⟩, 1) := ⟨⟨by decide +kernel, by decide +kernel⟩, List.mem_of_getElem? (i := 108) (by decide +kernel), List.mem_of_getElem? (i := 697) (by decide +kernel), List.mem_of_getElem? (i := 698) (by decide +kernel)⟩
theorem lw_p14 : lw_okq (⟨"SaltLines$Tried", "doorsAcross", "(I)I"⟩, 1) := ⟨⟨by decide +kernel, by decide +kernel⟩, List.mem_of_getElem? (i := 108) (by decide +kernel), List.mem_of_getElem? (i := 709) (by decide +kernel), List.mem_of_getElem? (i := 710) (by decide +kernel)⟩
theorem lw_p15 : lw_okq (⟨"SaltLines$Tried", "spoonsToStop", "(II)I"⟩, 1) := ⟨⟨by decide +kernel, by decide +kernel⟩, List.mem_of_getElem? (i := 108) (by decide +kernel), List.mem_of_getElem? (i := 713) (by decide +kernel), List.mem_of_getElem? (i := 714) (by decide +kernel)⟩
def lw_privs_1 : List (MethodName × Nat) := [(⟨"SaltLines$Reader", "skipBlanks", "()V"⟩, 7), (⟨"SaltLines$Reader", "readRooms", "()V"⟩, 7), (⟨"SaltLines$Reader", "readWord", "(I)V"⟩, 7), (⟨"SaltLines$Reader", "letterAtNext", "()I"⟩, 7), (⟨"SaltLines$Reader", "mark", "(II)V"⟩, 7), (⟨"SaltLines$Reader", "readNumber", "(II)I"⟩, 7), (⟨"SaltLines$Reader", "readClause", "()V"⟩, 7), (⟨"SaltLines$Reader", "readDoor", "()V"⟩, 7), (⟨"SaltLines$Reader", "readPerson", "()V"⟩, 7), (⟨"SaltLines$Tried", "reach", "(II)I"⟩, 1), (⟨"SaltLines$Tried", "spread", "(II)I"⟩, 1), (⟨"SaltLines$House", "calmWishes", "()V"⟩, 10), (⟨"SaltLines$Draws", "draw", "(I)I"⟩, 1), (⟨"SaltLines$Tried", "leastDoor", "(III)I"⟩, 1), (⟨"SaltLines$Tried", "doorsAcross", "(I)I"⟩, 1), (⟨"SaltLines$Tried", "spoonsToStop", "(II)I"⟩, 1)]
theorem lw_r1 : ∀ q ∈ lw_privs_1, lw_okq q := List.forall_mem_cons.mpr ⟨lw_p0, List.forall_mem_cons.mpr ⟨lw_p1, List.forall_mem_cons.mpr ⟨lw_p2, List.forall_mem_cons.mpr ⟨lw_p3, List.forall_mem_cons.mpr ⟨lw_p4, List.forall_mem_cons.mpr ⟨lw_p5, List.forall_mem_cons.mpr ⟨lw_p6, List.forall_mem_cons.mpr ⟨lw_p7, List.forall_mem_cons.mpr ⟨lw_p8, List.forall_mem_cons.mpr ⟨lw_p9, List.forall_mem_cons.mpr ⟨lw_p10, List.forall_mem_cons.mpr ⟨lw_p11, List.forall_mem_cons.mpr ⟨lw_p12, List.forall_mem_cons.mpr ⟨lw_p13, List.forall_mem_cons.mpr ⟨lw_p14, List.forall_mem_cons.mpr ⟨lw_p15, fun _ h => absurd h List.not_mem_nil⟩⟩⟩⟩⟩⟩⟩⟩⟩⟩⟩⟩⟩⟩⟩⟩
theorem lw_p16 : lw_okq (⟨"SaltLines$Tried", "space", "(I)I"⟩, 1) := ⟨⟨by decide +kernel, by decide +kernel⟩, List.mem_of_getElem? (i := 108) (by decide +kernel), List.mem_of_getElem? (i := 807) (by decide +kernel), List.mem_of_getElem? (i := 808) (by decide +kernel)⟩
theorem lw_p17 : lw_okq (⟨"SaltLines$Tried", "sharedUntilFull", "(I)I"⟩, 1) := ⟨⟨by decide +kernel, by decide +kernel⟩, List.mem_of_getElem? (i := 108) (by decide +kernel), List.mem_of_getElem? (i := 811) (by decide +kernel), List.mem_of_getElem? (i := 812) (by decide +kernel)⟩
theorem lw_p18 : lw_okq (⟨"SaltLinesModel", "isRead", "()Z"⟩, 35) := ⟨⟨by decide +kernel, by decide +kernel⟩, List.mem_of_getElem? (i := 918) (by decide +kernel), List.mem_of_getElem? (i := 1044) (by decide +kernel), List.mem_of_getElem? (i := 1045) (by decide +kernel)⟩
theorem lw_p19 : lw_okq (⟨"SaltLinesModel", "nextToken", "()V"⟩, 35) := ⟨⟨by decide +kernel, by decide +kernel⟩, List.mem_of_getElem? (i := 918) (by decide +kernel), List.mem_of_getElem? (i := 1048) (by decide +kernel), List.mem_of_getElem? (i := 1049) (by decide +kernel)⟩
theorem lw_p20 : lw_okq (⟨"SaltLinesModel", "isClause", "()Z"⟩, 35) := ⟨⟨by decide +kernel, by decide +kernel⟩, List.mem_of_getElem? (i := 918) (by decide +kernel), List.mem_of_getElem? (i := 1052) (by decide +kernel), List.mem_of_getElem? (i := 1053) (by decide +kernel)⟩
theorem lw_p21 : lw_okq (⟨"SaltLinesModel", "fails", "(I)Z"⟩, 35) := ⟨⟨by decide +kernel, by decide +kernel⟩, List.mem_of_getElem? (i := 918) (by decide +kernel), List.mem_of_getElem? (i := 1056) (by decide +kernel), List.mem_of_getElem? (i := 1057) (by decide +kernel)⟩
theorem lw_p22 : lw_okq (⟨"SaltLinesModel", "isHead", "()Z"⟩, 35) := ⟨⟨by decide +kernel, by decide +kernel⟩, List.mem_of_getElem? (i := 918) (by decide +kernel), List.mem_of_getElem? (i := 1060) (by decide +kernel), List.mem_of_getElem? (i := 1061) (by decide +kernel)⟩
theorem lw_p23 : lw_okq (⟨"SaltLinesModel", "isNumber", "(II)Z"⟩, 35) := ⟨⟨by decide +kernel, by decide +kernel⟩, List.mem_of_getElem? (i := 918) (by decide +kernel), List.mem_of_getElem? (i := 1064) (by decide +kernel), List.mem_of_getElem? (i := 1065) (by decide +kernel)⟩
theorem lw_p24 : lw_okq (⟨"SaltLinesModel", "isDoorItem", "()Z"⟩, 35) := ⟨⟨by decide +kernel, by decide +kernel⟩, List.mem_of_getElem? (i := 918) (by decide +kernel), List.mem_of_getElem? (i := 1068) (by decide +kernel), List.mem_of_getElem? (i := 1069) (by decide +kernel)⟩
theorem lw_p25 : lw_okq (⟨"SaltLinesModel", "isEnd", "()Z"⟩, 35) := ⟨⟨by decide +kernel, by decide +kernel⟩, List.mem_of_getElem? (i := 918) (by decide +kernel), List.mem_of_getElem? (i := 1072) (by decide +kernel), List.mem_of_getElem? (i := 1073) (by decide +kernel)⟩
theorem lw_p26 : lw_okq (⟨"SaltLinesModel", "isPersonItem", "()Z"⟩, 35) := ⟨⟨by decide +kernel, by decide +kernel⟩, List.mem_of_getElem? (i := 918) (by decide +kernel), List.mem_of_getElem? (i := 1076) (by decide +kernel), List.mem_of_getElem? (i := 1077) (by decide +kernel)⟩
theorem lw_p27 : lw_okq (⟨"SaltLinesModel", "allCrossed", "()I"⟩, 35) := ⟨⟨by decide +kernel, by decide +kernel⟩, List.mem_of_getElem? (i := 918) (by decide +kernel), List.mem_of_getElem? (i := 1091) (by decide +kernel), List.mem_of_getElem? (i := 1092) (by decide +kernel)⟩
theorem lw_p28 : lw_okq (⟨"SaltLinesModel", "shutIn", "()I"⟩, 35) := ⟨⟨by decide +kernel, by decide +kernel⟩, List.mem_of_getElem? (i := 918) (by decide +kernel), List.mem_of_getElem? (i := 1095) (by decide +kernel), List.mem_of_getElem? (i := 1096) (by decide +kernel)⟩
theorem lw_p29 : lw_okq (⟨"SaltLinesModel", "comesOf", "(I)I"⟩, 35) := ⟨⟨by decide +kernel, by decide +kernel⟩, List.mem_of_getElem? (i := 918) (by decide +kernel), List.mem_of_getElem? (i := 1099) (by decide +kernel), List.mem_of_getElem? (i := 1100) (by decide +kernel)⟩
theorem lw_p30 : lw_okq (⟨"SaltLinesModel", "comesBy", "(IIII)I"⟩, 35) := ⟨⟨by decide +kernel, by decide +kernel⟩, List.mem_of_getElem? (i := 918) (by decide +kernel), List.mem_of_getElem? (i := 1106) (by decide +kernel), List.mem_of_getElem? (i := 1107) (by decide +kernel)⟩
theorem lw_p31 : lw_okq (⟨"SaltLinesModel", "allSpoons", "()I"⟩, 35) := ⟨⟨by decide +kernel, by decide +kernel⟩, List.mem_of_getElem? (i := 918) (by decide +kernel), List.mem_of_getElem? (i := 1116) (by decide +kernel), List.mem_of_getElem? (i := 1117) (by decide +kernel)⟩
def lw_privs_2 : List (MethodName × Nat) := [(⟨"SaltLines$Tried", "space", "(I)I"⟩, 1), (⟨"SaltLines$Tried", "sharedUntilFull", "(I)I"⟩, 1), (⟨"SaltLinesModel", "isRead", "()Z"⟩, 35), (⟨"SaltLinesModel", "nextToken", "()V"⟩, 35), (⟨"SaltLinesModel", "isClause", "()Z"⟩, 35), (⟨"SaltLinesModel", "fails", "(I)Z"⟩, 35), (⟨"SaltLinesModel", "isHead", "()Z"⟩, 35), (⟨"SaltLinesModel", "isNumber", "(II)Z"⟩, 35), (⟨"SaltLinesModel", "isDoorItem", "()Z"⟩, 35), (⟨"SaltLinesModel", "isEnd", "()Z"⟩, 35), (⟨"SaltLinesModel", "isPersonItem", "()Z"⟩, 35), (⟨"SaltLinesModel", "allCrossed", "()I"⟩, 35), (⟨"SaltLinesModel", "shutIn", "()I"⟩, 35), (⟨"SaltLinesModel", "comesOf", "(I)I"⟩, 35), (⟨"SaltLinesModel", "comesBy", "(IIII)I"⟩, 35), (⟨"SaltLinesModel", "allSpoons", "()I"⟩, 35)]
theorem lw_r2 : ∀ q ∈ lw_privs_2, lw_okq q := List.forall_mem_cons.mpr ⟨lw_p16, List.forall_mem_cons.mpr ⟨lw_p17, List.forall_mem_cons.mpr ⟨lw_p18, List.forall_mem_cons.mpr ⟨lw_p19, List.forall_mem_cons.mpr ⟨lw_p20, List.forall_mem_cons.mpr ⟨lw_p21, List.forall_mem_cons.mpr ⟨lw_p22, List.forall_mem_cons.mpr ⟨lw_p23, List.forall_mem_cons.mpr ⟨lw_p24, List.forall_mem_cons.mpr ⟨lw_p25, List.forall_mem_cons.mpr ⟨lw_p26, List.forall_mem_cons.mpr ⟨lw_p27, List.forall_mem_cons.mpr ⟨lw_p28, List.forall_mem_cons.mpr ⟨lw_p29, List.forall_mem_cons.mpr ⟨lw_p30, List.forall_mem_cons.mpr ⟨lw_p31, fun _ h => absurd h List.not_mem_nil⟩⟩⟩⟩⟩⟩⟩⟩⟩⟩⟩⟩⟩⟩⟩⟩
theorem lw_p32 : lw_okq (⟨"SaltLinesModel", "isDoor", "(I)Z"⟩, 35) := ⟨⟨by decide +kernel, by decide +kernel⟩, List.mem_of_getElem? (i := 918) (by decide +kernel), List.mem_of_getElem? (i := 1124) (by decide +kernel), List.mem_of_getElem? (i := 1125) (by decide +kernel)⟩
theorem lw_p33 : lw_okq (⟨"SaltLinesModel", "isPerson", "(I)Z"⟩, 35) := ⟨⟨by decide +kernel, by decide +kernel⟩, List.mem_of_getElem? (i := 918) (by decide +kernel), List.mem_of_getElem? (i := 1136) (by decide +kernel), List.mem_of_getElem? (i := 1137) (by decide +kernel)⟩
theorem lw_p34 : lw_okq (⟨"SaltLinesModel", "isRoom", "(I)Z"⟩, 35) := ⟨⟨by decide +kernel, by decide +kernel⟩, List.mem_of_getElem? (i := 918) (by decide +kernel), List.mem_of_getElem? (i := 1144) (by decide +kernel), List.mem_of_getElem? (i := 1145) (by decide +kernel)⟩
theorem lw_p35 : lw_okq (⟨"SaltLinesModel", "rainAt", "(I)I"⟩, 35) := ⟨⟨by decide +kernel, by decide +kernel⟩, List.mem_of_getElem? (i := 918) (by decide +kernel), List.mem_of_getElem? (i := 1153) (by decide +kernel), List.mem_of_getElem? (i := 1154) (by decide +kernel)⟩
theorem lw_p36 : lw_okq (⟨"SaltLinesModel", "noHours", "(I)I"⟩, 35) := ⟨⟨by decide +kernel, by decide +kernel⟩, List.mem_of_getElem? (i := 918) (by decide +kernel), List.mem_of_getElem? (i := 1161) (by decide +kernel), List.mem_of_getElem? (i := 1162) (by decide +kernel)⟩
theorem lw_p37 : lw_okq (⟨"SaltLinesModel", "note", "()V"⟩, 35) := ⟨⟨by decide +kernel, by decide +kernel⟩, List.mem_of_getElem? (i := 918) (by decide +kernel), List.mem_of_getElem? (i := 1166) (by decide +kernel), List.mem_of_getElem? (i := 1167) (by decide +kernel)⟩
theorem lw_p38 : lw_okq (⟨"SaltLinesModel", "goBy", "()V"⟩, 35) := ⟨⟨by decide +kernel, by decide +kernel⟩, List.mem_of_getElem? (i := 918) (by decide +kernel), List.mem_of_getElem? (i := 1170) (by decide +kernel), List.mem_of_getElem? (i := 1171) (by decide +kernel)⟩
theorem lw_p39 : lw_okq (⟨"SaltLinesModel", "isAt", "(II)Z"⟩, 35) := ⟨⟨by decide +kernel, by decide +kernel⟩, List.mem_of_getElem? (i := 918) (by decide +kernel), List.mem_of_getElem? (i := 1181) (by decide +kernel), List.mem_of_getElem? (i := 1182) (by decide +kernel)⟩
theorem lw_p40 : lw_okq (⟨"SaltLinesModel", "steps", "(II)V"⟩, 35) := ⟨⟨by decide +kernel, by decide +kernel⟩, List.mem_of_getElem? (i := 918) (by decide +kernel), List.mem_of_getElem? (i := 1185) (by decide +kernel), List.mem_of_getElem? (i := 1186) (by decide +kernel)⟩
theorem lw_p41 : lw_okq (⟨"SaltLinesModel", "draw", "(I)I"⟩, 35) := ⟨⟨by decide +kernel, by decide +kernel⟩, List.mem_of_getElem? (i := 918) (by decide +kernel), List.mem_of_getElem? (i := 1212) (by decide +kernel), List.mem_of_getElem? (i := 1213) (by decide +kernel)⟩
theorem lw_p42 : lw_okq (⟨"SaltLinesModel", "farBy", "(III)I"⟩, 35) := ⟨⟨by decide +kernel, by decide +kernel⟩, List.mem_of_getElem? (i := 918) (by decide +kernel), List.mem_of_getElem? (i := 1236) (by decide +kernel), List.mem_of_getElem? (i := 1237) (by decide +kernel)⟩
theorem lw_p43 : lw_okq (⟨"SaltLinesModel", "partsBy", "(II)I"⟩, 35) := ⟨⟨by decide +kernel, by decide +kernel⟩, List.mem_of_getElem? (i := 918) (by decide +kernel), List.mem_of_getElem? (i := 1252) (by decide +kernel), List.mem_of_getElem? (i := 1253) (by decide +kernel)⟩
theorem lw_p44 : lw_okq (⟨"SaltLinesModel", "lastsOf", "(I)I"⟩, 35) := ⟨⟨by decide +kernel, by decide +kernel⟩, List.mem_of_getElem? (i := 918) (by decide +kernel), List.mem_of_getElem? (i := 1264) (by decide +kernel), List.mem_of_getElem? (i := 1265) (by decide +kernel)⟩
def lw_privs_3 : List (MethodName × Nat) := [(⟨"SaltLinesModel", "isDoor", "(I)Z"⟩, 35), (⟨"SaltLinesModel", "isPerson", "(I)Z"⟩, 35), (⟨"SaltLinesModel", "isRoom", "(I)Z"⟩, 35), (⟨"SaltLinesModel", "rainAt", "(I)I"⟩, 35), (⟨"SaltLinesModel", "noHours", "(I)I"⟩, 35), (⟨"SaltLinesModel", "note", "()V"⟩, 35), (⟨"SaltLinesModel", "goBy", "()V"⟩, 35), (⟨"SaltLinesModel", "isAt", "(II)Z"⟩, 35), (⟨"SaltLinesModel", "steps", "(II)V"⟩, 35), (⟨"SaltLinesModel", "draw", "(I)I"⟩, 35), (⟨"SaltLinesModel", "farBy", "(III)I"⟩, 35), (⟨"SaltLinesModel", "partsBy", "(II)I"⟩, 35), (⟨"SaltLinesModel", "lastsOf", "(I)I"⟩, 35)]
theorem lw_r3 : ∀ q ∈ lw_privs_3, lw_okq q := List.forall_mem_cons.mpr ⟨lw_p32, List.forall_mem_cons.mpr ⟨lw_p33, List.forall_mem_cons.mpr ⟨lw_p34, List.forall_mem_cons.mpr ⟨lw_p35, List.forall_mem_cons.mpr ⟨lw_p36, List.forall_mem_cons.mpr ⟨lw_p37, List.forall_mem_cons.mpr ⟨lw_p38, List.forall_mem_cons.mpr ⟨lw_p39, List.forall_mem_cons.mpr ⟨lw_p40, List.forall_mem_cons.mpr ⟨lw_p41, List.forall_mem_cons.mpr ⟨lw_p42, List.forall_mem_cons.mpr ⟨lw_p43, List.forall_mem_cons.mpr ⟨lw_p44, fun _ h => absurd h List.not_mem_nil⟩⟩⟩⟩⟩⟩⟩⟩⟩⟩⟩⟩⟩
def lw_privs : List (MethodName × Nat) := lw_privs_1 ++ (lw_privs_2 ++ (lw_privs_3))
def lw_tbl : List Cond := k2_sels lw_privs ++ tables_1
theorem lw_privs_ok : ∀ q ∈ lw_privs, lw_okq q := by
  show ∀ q ∈ lw_privs_1 ++ (lw_privs_2 ++ (lw_privs_3)), lw_okq q
  exact List.forall_mem_append.mpr ⟨lw_r1, List.forall_mem_append.mpr ⟨lw_r2, lw_r3⟩⟩
def RX0 : String := "SaltLines$Draws"
def TX0 : u_T := fun k => match k with
  | _ => ("SaltLines$Draws", "seedNow", "I", false)
def tyX0 : Nat → FieldType := fun k => match k with
  | _ => .int
theorem nmX0 : ∀ a, a < 1 → ∀ b, b < 1 → a ≠ b → (TX0 a).2.1 ≠ (TX0 b).2.1 := by decide +kernel
theorem tyX0_ok : ∀ k, k < 1 → parseFieldDescriptor (TX0 k).2.2.1 = some (tyX0 k) := by decide +kernel
abbrev cX0_init : ByteArray := prog_2_method_1_code
def yX0_init : MethodName := ⟨RX0, "<init>", "()V"⟩
abbrev cX0_draw : ByteArray := prog_2_method_2_code
def yX0_draw : MethodName := ⟨RX0, "draw", "(I)I"⟩
abbrev cX0_moveOnce : ByteArray := prog_2_method_3_code
def yX0_moveOnce : MethodName := ⟨RX0, "moveOnce", "(LSaltLines$House;)V"⟩
def RX1 : String := "SaltLines$House"
def TX1 : u_T := fun k => match k with
  | 0 => ("SaltLines$House", "rainfall", "LSaltLines$Row;", true)
  | 1 => ("SaltLines$House", "doorA", "LSaltLines$Row;", true)
  | 2 => ("SaltLines$House", "doorB", "LSaltLines$Row;", true)
  | 3 => ("SaltLines$House", "doorSides", "LSaltLines$Row;", true)
  | 4 => ("SaltLines$House", "doorOpen", "LSaltLines$Row;", true)
  | 5 => ("SaltLines$House", "now", "LSaltLines$State;", true)
  | 6 => ("SaltLines$House", "rooms", "I", false)
  | 7 => ("SaltLines$House", "rains", "I", false)
  | 8 => ("SaltLines$House", "doors", "I", false)
  | _ => ("SaltLines$House", "persons", "I", false)
def tyX1 : Nat → FieldType := fun k => match k with
  | 0 => .object "SaltLines$Row"
  | 1 => .object "SaltLines$Row"
  | 2 => .object "SaltLines$Row"
  | 3 => .object "SaltLines$Row"
  | 4 => .object "SaltLines$Row"
  | 5 => .object "SaltLines$State"
  | 6 => .int
  | 7 => .int
  | 8 => .int
  | _ => .int
theorem nmX1 : ∀ a, a < 10 → ∀ b, b < 10 → a ≠ b → (TX1 a).2.1 ≠ (TX1 b).2.1 := by decide +kernel
theorem tyX1_ok : ∀ k, k < 10 → parseFieldDescriptor (TX1 k).2.2.1 = some (tyX1 k) := by decide +kernel
abbrev cX1_init : ByteArray := prog_3_method_1_code
def yX1_init : MethodName := ⟨RX1, "<init>", "()V"⟩
abbrev cX1_clear : ByteArray := prog_3_method_2_code
def yX1_clear : MethodName := ⟨RX1, "clear", "()V"⟩
abbrev cX1_copyFrom : ByteArray := prog_3_method_3_code
def yX1_copyFrom : MethodName := ⟨RX1, "copyFrom", "(LSaltLines$House;)V"⟩
abbrev cX1_addRain : ByteArray := prog_3_method_4_code
def yX1_addRain : MethodName := ⟨RX1, "addRain", "(I)V"⟩
abbrev cX1_addDoor : ByteArray := prog_3_method_5_code
def yX1_addDoor : MethodName := ⟨RX1, "addDoor", "(IIII)V"⟩
abbrev cX1_addPerson : ByteArray := prog_3_method_6_code
def yX1_addPerson : MethodName := ⟨RX1, "addPerson", "(II)V"⟩
abbrev cX1_isTold : ByteArray := prog_3_method_7_code
def yX1_isTold : MethodName := ⟨RX1, "isTold", "()Z"⟩
abbrev cX1_hasRoom : ByteArray := prog_3_method_8_code
def yX1_hasRoom : MethodName := ⟨RX1, "hasRoom", "(I)Z"⟩
abbrev cX1_hasDoor : ByteArray := prog_3_method_9_code
def yX1_hasDoor : MethodName := ⟨RX1, "hasDoor", "(I)Z"⟩
abbrev cX1_hasPerson : ByteArray := prog_3_method_10_code
def yX1_hasPerson : MethodName := ⟨RX1, "hasPerson", "(I)Z"⟩
abbrev cX1_isOpen : ByteArray := prog_3_method_11_code
def yX1_isOpen : MethodName := ⟨RX1, "isOpen", "(I)Z"⟩
abbrev cX1_isJoined : ByteArray := prog_3_method_12_code
def yX1_isJoined : MethodName := ⟨RX1, "isJoined", "(II)Z"⟩
abbrev cX1_isAtDoor : ByteArray := prog_3_method_13_code
def yX1_isAtDoor : MethodName := ⟨RX1, "isAtDoor", "(II)Z"⟩
abbrev cX1_personsIn : ByteArray := prog_3_method_14_code
def yX1_personsIn : MethodName := ⟨RX1, "personsIn", "(I)I"⟩
abbrev cX1_rainBehind : ByteArray := prog_3_method_15_code
def yX1_rainBehind : MethodName := ⟨RX1, "rainBehind", "(I)I"⟩
abbrev cX1_lineStops : ByteArray := prog_3_method_16_code
def yX1_lineStops : MethodName := ⟨RX1, "lineStops", "(II)Z"⟩
abbrev cX1_passable : ByteArray := prog_3_method_17_code
def yX1_passable : MethodName := ⟨RX1, "passable", "(I)I"⟩
abbrev cX1_stoppedAt : ByteArray := prog_3_method_18_code
def yX1_stoppedAt : MethodName := ⟨RX1, "stoppedAt", "(I)I"⟩
abbrev cX1_spoonsInAll : ByteArray := prog_3_method_19_code
def yX1_spoonsInAll : MethodName := ⟨RX1, "spoonsInAll", "()I"⟩
abbrev cX1_crossedInAll : ByteArray := prog_3_method_20_code
def yX1_crossedInAll : MethodName := ⟨RX1, "crossedInAll", "()I"⟩
abbrev cX1_makeStep : ByteArray := prog_3_method_21_code
def yX1_makeStep : MethodName := ⟨RX1, "makeStep", "(II)V"⟩
abbrev cX1_passHour : ByteArray := prog_3_method_22_code
def yX1_passHour : MethodName := ⟨RX1, "passHour", "()V"⟩
abbrev cX1_calmWishes : ByteArray := prog_3_method_23_code
def yX1_calmWishes : MethodName := ⟨RX1, "calmWishes", "()V"⟩
def RX2 : String := "SaltLines$Images"
def TX2 : u_T := fun k => match k with
  | 0 => ("SaltLines$Images", "shelf", "LSaltLines$Row;", true)
  | 1 => ("SaltLines$Images", "seeds", "LSaltLines$Row;", true)
  | _ => ("SaltLines$Images", "kept", "LSaltLines$Row;", true)
def tyX2 : Nat → FieldType := fun k => match k with
  | 0 => .object "SaltLines$Row"
  | 1 => .object "SaltLines$Row"
  | _ => .object "SaltLines$Row"
theorem nmX2 : ∀ a, a < 3 → ∀ b, b < 3 → a ≠ b → (TX2 a).2.1 ≠ (TX2 b).2.1 := by decide +kernel
theorem tyX2_ok : ∀ k, k < 3 → parseFieldDescriptor (TX2 k).2.2.1 = some (tyX2 k) := by decide +kernel
abbrev cX2_init : ByteArray := prog_4_method_1_code
def yX2_init : MethodName := ⟨RX2, "<init>", "()V"⟩
abbrev cX2_forget : ByteArray := prog_4_method_2_code
def yX2_forget : MethodName := ⟨RX2, "forget", "()V"⟩
abbrev cX2_isKept : ByteArray := prog_4_method_3_code
def yX2_isKept : MethodName := ⟨RX2, "isKept", "(I)Z"⟩
abbrev cX2_seedOf : ByteArray := prog_4_method_4_code
def yX2_seedOf : MethodName := ⟨RX2, "seedOf", "(I)I"⟩
abbrev cX2_take : ByteArray := prog_4_method_5_code
def yX2_take : MethodName := ⟨RX2, "take", "(ILSaltLines$State;I)V"⟩
abbrev cX2_bringBack : ByteArray := prog_4_method_6_code
def yX2_bringBack : MethodName := ⟨RX2, "bringBack", "(ILSaltLines$State;)V"⟩
def RX3 : String := "SaltLines$Notes"
def TX3 : u_T := fun k => match k with
  | 0 => ("SaltLines$Notes", "seenSpoons", "LSaltLines$Row;", true)
  | 1 => ("SaltLines$Notes", "seenStopped", "LSaltLines$Row;", true)
  | 2 => ("SaltLines$Notes", "bookDoors", "LSaltLines$Row;", true)
  | 3 => ("SaltLines$Notes", "bookSpoons", "LSaltLines$Row;", true)
  | 4 => ("SaltLines$Notes", "seen", "I", false)
  | _ => ("SaltLines$Notes", "entries", "I", false)
def tyX3 : Nat → FieldType := fun k => match k with
  | 0 => .object "SaltLines$Row"
  | 1 => .object "SaltLines$Row"
  | 2 => .object "SaltLines$Row"
  | 3 => .object "SaltLines$Row"
  | 4 => .int
  | _ => .int
theorem nmX3 : ∀ a, a < 6 → ∀ b, b < 6 → a ≠ b → (TX3 a).2.1 ≠ (TX3 b).2.1 := by decide +kernel
theorem tyX3_ok : ∀ k, k < 6 → parseFieldDescriptor (TX3 k).2.2.1 = some (tyX3 k) := by decide +kernel
abbrev cX3_init : ByteArray := prog_5_method_1_code
def yX3_init : MethodName := ⟨RX3, "<init>", "()V"⟩
abbrev cX3_clear : ByteArray := prog_5_method_2_code
def yX3_clear : MethodName := ⟨RX3, "clear", "()V"⟩
abbrev cX3_addSeen : ByteArray := prog_5_method_3_code
def yX3_addSeen : MethodName := ⟨RX3, "addSeen", "(IZ)V"⟩
abbrev cX3_addEntry : ByteArray := prog_5_method_4_code
def yX3_addEntry : MethodName := ⟨RX3, "addEntry", "(II)V"⟩
abbrev cX3_stoppedIlls : ByteArray := prog_5_method_5_code
def yX3_stoppedIlls : MethodName := ⟨RX3, "stoppedIlls", "(I)I"⟩
abbrev cX3_fittingIlls : ByteArray := prog_5_method_6_code
def yX3_fittingIlls : MethodName := ⟨RX3, "fittingIlls", "()I"⟩
abbrev cX3_bestLook : ByteArray := prog_5_method_7_code
def yX3_bestLook : MethodName := ⟨RX3, "bestLook", "()I"⟩
abbrev cX3_firstWrong : ByteArray := prog_5_method_8_code
def yX3_firstWrong : MethodName := ⟨RX3, "firstWrong", "(LSaltLines$State;)I"⟩
def RX4 : String := "SaltLines$Past"
def TX4 : u_T := fun k => match k with
  | 0 => ("SaltLines$Past", "shelf", "LSaltLines$Row;", true)
  | 1 => ("SaltLines$Past", "next", "I", false)
  | _ => ("SaltLines$Past", "count", "I", false)
def tyX4 : Nat → FieldType := fun k => match k with
  | 0 => .object "SaltLines$Row"
  | 1 => .int
  | _ => .int
theorem nmX4 : ∀ a, a < 3 → ∀ b, b < 3 → a ≠ b → (TX4 a).2.1 ≠ (TX4 b).2.1 := by decide +kernel
theorem tyX4_ok : ∀ k, k < 3 → parseFieldDescriptor (TX4 k).2.2.1 = some (tyX4 k) := by decide +kernel
abbrev cX4_init : ByteArray := prog_6_method_1_code
def yX4_init : MethodName := ⟨RX4, "<init>", "()V"⟩
abbrev cX4_forget : ByteArray := prog_6_method_2_code
def yX4_forget : MethodName := ⟨RX4, "forget", "()V"⟩
abbrev cX4_remember : ByteArray := prog_6_method_3_code
def yX4_remember : MethodName := ⟨RX4, "remember", "(LSaltLines$State;)V"⟩
abbrev cX4_bringBack : ByteArray := prog_6_method_4_code
def yX4_bringBack : MethodName := ⟨RX4, "bringBack", "(LSaltLines$State;I)V"⟩
def RX5 : String := "SaltLines$Reader"
def TX5 : u_T := fun k => match k with
  | 0 => ("SaltLines$Reader", "draft", "LSaltLines$House;", true)
  | 1 => ("SaltLines$Reader", "letters", "I", false)
  | 2 => ("SaltLines$Reader", "faultPlace", "I", false)
  | 3 => ("SaltLines$Reader", "text", "LSaltLines$Row;", true)
  | 4 => ("SaltLines$Reader", "faultNumber", "I", false)
  | 5 => ("SaltLines$Reader", "next", "I", false)
  | _ => ("SaltLines$Reader", "numberPlace", "I", false)
def tyX5 : Nat → FieldType := fun k => match k with
  | 0 => .object "SaltLines$House"
  | 1 => .int
  | 2 => .int
  | 3 => .object "SaltLines$Row"
  | 4 => .int
  | 5 => .int
  | _ => .int
theorem nmX5 : ∀ a, a < 7 → ∀ b, b < 7 → a ≠ b → (TX5 a).2.1 ≠ (TX5 b).2.1 := by decide +kernel
theorem tyX5_ok : ∀ k, k < 7 → parseFieldDescriptor (TX5 k).2.2.1 = some (tyX5 k) := by decide +kernel
abbrev cX5_init : ByteArray := prog_7_method_1_code
def yX5_init : MethodName := ⟨RX5, "<init>", "()V"⟩
abbrev cX5_append : ByteArray := prog_7_method_2_code
def yX5_append : MethodName := ⟨RX5, "append", "(I)V"⟩
abbrev cX5_readText : ByteArray := prog_7_method_3_code
def yX5_readText : MethodName := ⟨RX5, "readText", "()I"⟩
abbrev cX5_readRooms : ByteArray := prog_7_method_4_code
def yX5_readRooms : MethodName := ⟨RX5, "readRooms", "()V"⟩
abbrev cX5_readClause : ByteArray := prog_7_method_5_code
def yX5_readClause : MethodName := ⟨RX5, "readClause", "()V"⟩
abbrev cX5_readDoor : ByteArray := prog_7_method_6_code
def yX5_readDoor : MethodName := ⟨RX5, "readDoor", "()V"⟩
abbrev cX5_readPerson : ByteArray := prog_7_method_7_code
def yX5_readPerson : MethodName := ⟨RX5, "readPerson", "()V"⟩
abbrev cX5_readWord : ByteArray := prog_7_method_8_code
def yX5_readWord : MethodName := ⟨RX5, "readWord", "(I)V"⟩
abbrev cX5_readNumber : ByteArray := prog_7_method_9_code
def yX5_readNumber : MethodName := ⟨RX5, "readNumber", "(II)I"⟩
abbrev cX5_isFigure : ByteArray := prog_7_method_10_code
def yX5_isFigure : MethodName := ⟨RX5, "isFigure", "(I)Z"⟩
abbrev cX5_skipBlanks : ByteArray := prog_7_method_11_code
def yX5_skipBlanks : MethodName := ⟨RX5, "skipBlanks", "()V"⟩
abbrev cX5_letterAtNext : ByteArray := prog_7_method_12_code
def yX5_letterAtNext : MethodName := ⟨RX5, "letterAtNext", "()I"⟩
abbrev cX5_mark : ByteArray := prog_7_method_13_code
def yX5_mark : MethodName := ⟨RX5, "mark", "(II)V"⟩
def RX6 : String := "SaltLines$Row"
def TX6 : u_T := fun k => match k with
  | _ => ("SaltLines$Row", "cells", "[I", true)
def tyX6 : Nat → FieldType := fun k => match k with
  | _ => .array .int
theorem nmX6 : ∀ a, a < 1 → ∀ b, b < 1 → a ≠ b → (TX6 a).2.1 ≠ (TX6 b).2.1 := by decide +kernel
theorem tyX6_ok : ∀ k, k < 1 → parseFieldDescriptor (TX6 k).2.2.1 = some (tyX6 k) := by decide +kernel
abbrev cX6_init : ByteArray := prog_8_method_1_code
def yX6_init : MethodName := ⟨RX6, "<init>", "(I)V"⟩
abbrev cX6_get : ByteArray := prog_8_method_2_code
def yX6_get : MethodName := ⟨RX6, "get", "(I)I"⟩
abbrev cX6_set : ByteArray := prog_8_method_3_code
def yX6_set : MethodName := ⟨RX6, "set", "(II)V"⟩
abbrev cX6_clear : ByteArray := prog_8_method_4_code
def yX6_clear : MethodName := ⟨RX6, "clear", "()V"⟩
abbrev cX6_copyCells : ByteArray := prog_8_method_5_code
def yX6_copyCells : MethodName := ⟨RX6, "copyCells", "(ILSaltLines$Row;II)V"⟩
abbrev cX6_copyFrom : ByteArray := prog_8_method_6_code
def yX6_copyFrom : MethodName := ⟨RX6, "copyFrom", "(LSaltLines$Row;)V"⟩
def RX7 : String := "SaltLines$State"
def TX7 : u_T := fun k => match k with
  | _ => ("SaltLines$State", "row", "LSaltLines$Row;", true)
def tyX7 : Nat → FieldType := fun k => match k with
  | _ => .object "SaltLines$Row"
theorem nmX7 : ∀ a, a < 1 → ∀ b, b < 1 → a ≠ b → (TX7 a).2.1 ≠ (TX7 b).2.1 := by decide +kernel
theorem tyX7_ok : ∀ k, k < 1 → parseFieldDescriptor (TX7 k).2.2.1 = some (tyX7 k) := by decide +kernel
abbrev cX7_init : ByteArray := prog_9_method_1_code
def yX7_init : MethodName := ⟨RX7, "<init>", "()V"⟩
abbrev cX7_spoons : ByteArray := prog_9_method_2_code
def yX7_spoons : MethodName := ⟨RX7, "spoons", "(I)I"⟩
abbrev cX7_setSpoons : ByteArray := prog_9_method_3_code
def yX7_setSpoons : MethodName := ⟨RX7, "setSpoons", "(II)V"⟩
abbrev cX7_takeSpoons : ByteArray := prog_9_method_4_code
def yX7_takeSpoons : MethodName := ⟨RX7, "takeSpoons", "(II)V"⟩
abbrev cX7_crossings : ByteArray := prog_9_method_5_code
def yX7_crossings : MethodName := ⟨RX7, "crossings", "(I)I"⟩
abbrev cX7_countCrossing : ByteArray := prog_9_method_6_code
def yX7_countCrossing : MethodName := ⟨RX7, "countCrossing", "(I)V"⟩
abbrev cX7_place : ByteArray := prog_9_method_7_code
def yX7_place : MethodName := ⟨RX7, "place", "(I)I"⟩
abbrev cX7_setPlace : ByteArray := prog_9_method_8_code
def yX7_setPlace : MethodName := ⟨RX7, "setPlace", "(II)V"⟩
abbrev cX7_wishOf : ByteArray := prog_9_method_9_code
def yX7_wishOf : MethodName := ⟨RX7, "wishOf", "(I)I"⟩
abbrev cX7_setWish : ByteArray := prog_9_method_10_code
def yX7_setWish : MethodName := ⟨RX7, "setWish", "(II)V"⟩
abbrev cX7_ill : ByteArray := prog_9_method_11_code
def yX7_ill : MethodName := ⟨RX7, "ill", "(I)I"⟩
abbrev cX7_hours : ByteArray := prog_9_method_12_code
def yX7_hours : MethodName := ⟨RX7, "hours", "()I"⟩
abbrev cX7_countHour : ByteArray := prog_9_method_13_code
def yX7_countHour : MethodName := ⟨RX7, "countHour", "()V"⟩
abbrev cX7_store : ByteArray := prog_9_method_14_code
def yX7_store : MethodName := ⟨RX7, "store", "()I"⟩
abbrev cX7_setStore : ByteArray := prog_9_method_15_code
def yX7_setStore : MethodName := ⟨RX7, "setStore", "(I)V"⟩
abbrev cX7_stopped : ByteArray := prog_9_method_16_code
def yX7_stopped : MethodName := ⟨RX7, "stopped", "()I"⟩
abbrev cX7_countStopped : ByteArray := prog_9_method_17_code
def yX7_countStopped : MethodName := ⟨RX7, "countStopped", "()V"⟩
abbrev cX7_clear : ByteArray := prog_9_method_18_code
def yX7_clear : MethodName := ⟨RX7, "clear", "()V"⟩
abbrev cX7_copyFrom : ByteArray := prog_9_method_19_code
def yX7_copyFrom : MethodName := ⟨RX7, "copyFrom", "(LSaltLines$State;)V"⟩
abbrev cX7_writeTo : ByteArray := prog_9_method_20_code
def yX7_writeTo : MethodName := ⟨RX7, "writeTo", "(LSaltLines$Row;I)V"⟩
abbrev cX7_readFrom : ByteArray := prog_9_method_21_code
def yX7_readFrom : MethodName := ⟨RX7, "readFrom", "(LSaltLines$Row;I)V"⟩
def RX8 : String := "SaltLines$Tried"
def TX8 : u_T := fun k => match k with
  | _ => ("SaltLines$Tried", "home", "LSaltLines$House;", true)
def tyX8 : Nat → FieldType := fun k => match k with
  | _ => .object "SaltLines$House"
theorem nmX8 : ∀ a, a < 1 → ∀ b, b < 1 → a ≠ b → (TX8 a).2.1 ≠ (TX8 b).2.1 := by decide +kernel
theorem tyX8_ok : ∀ k, k < 1 → parseFieldDescriptor (TX8 k).2.2.1 = some (tyX8 k) := by decide +kernel
abbrev cX8_init : ByteArray := prog_10_method_1_code
def yX8_init : MethodName := ⟨RX8, "<init>", "(LSaltLines$House;)V"⟩
abbrev cX8_spread : ByteArray := prog_10_method_2_code
def yX8_spread : MethodName := ⟨RX8, "spread", "(II)I"⟩
abbrev cX8_reach : ByteArray := prog_10_method_3_code
def yX8_reach : MethodName := ⟨RX8, "reach", "(II)I"⟩
abbrev cX8_partOf : ByteArray := prog_10_method_4_code
def yX8_partOf : MethodName := ⟨RX8, "partOf", "(II)I"⟩
abbrev cX8_roomsOf : ByteArray := prog_10_method_5_code
def yX8_roomsOf : MethodName := ⟨RX8, "roomsOf", "(I)I"⟩
abbrev cX8_comersTo : ByteArray := prog_10_method_6_code
def yX8_comersTo : MethodName := ⟨RX8, "comersTo", "(I)I"⟩
abbrev cX8_shutIn : ByteArray := prog_10_method_7_code
def yX8_shutIn : MethodName := ⟨RX8, "shutIn", "()I"⟩
abbrev cX8_shortestWay : ByteArray := prog_10_method_8_code
def yX8_shortestWay : MethodName := ⟨RX8, "shortestWay", "(IIZ)I"⟩
abbrev cX8_leastDoor : ByteArray := prog_10_method_9_code
def yX8_leastDoor : MethodName := ⟨RX8, "leastDoor", "(III)I"⟩
abbrev cX8_cheapestCut : ByteArray := prog_10_method_10_code
def yX8_cheapestCut : MethodName := ⟨RX8, "cheapestCut", "(IIZ)I"⟩
abbrev cX8_doorsAcross : ByteArray := prog_10_method_11_code
def yX8_doorsAcross : MethodName := ⟨RX8, "doorsAcross", "(I)I"⟩
abbrev cX8_spoonsToStop : ByteArray := prog_10_method_12_code
def yX8_spoonsToStop : MethodName := ⟨RX8, "spoonsToStop", "(II)I"⟩
abbrev cX8_leastSoftening : ByteArray := prog_10_method_13_code
def yX8_leastSoftening : MethodName := ⟨RX8, "leastSoftening", "(II)I"⟩
abbrev cX8_countParts : ByteArray := prog_10_method_14_code
def yX8_countParts : MethodName := ⟨RX8, "countParts", "(I)I"⟩
abbrev cX8_leastIllKeptFrom : ByteArray := prog_10_method_15_code
def yX8_leastIllKeptFrom : MethodName := ⟨RX8, "leastIllKeptFrom", "(I)I"⟩
abbrev cX8_hoursUntilGone : ByteArray := prog_10_method_16_code
def yX8_hoursUntilGone : MethodName := ⟨RX8, "hoursUntilGone", "(I)I"⟩
abbrev cX8_spoonsToMend : ByteArray := prog_10_method_17_code
def yX8_spoonsToMend : MethodName := ⟨RX8, "spoonsToMend", "(I)I"⟩
abbrev cX8_goneFirst : ByteArray := prog_10_method_18_code
def yX8_goneFirst : MethodName := ⟨RX8, "goneFirst", "()I"⟩
abbrev cX8_doorMostCrossed : ByteArray := prog_10_method_19_code
def yX8_doorMostCrossed : MethodName := ⟨RX8, "doorMostCrossed", "()I"⟩
abbrev cX8_bridges : ByteArray := prog_10_method_20_code
def yX8_bridges : MethodName := ⟨RX8, "bridges", "()I"⟩
abbrev cX8_worstComer : ByteArray := prog_10_method_21_code
def yX8_worstComer : MethodName := ⟨RX8, "worstComer", "()I"⟩
abbrev cX8_fullIfShared : ByteArray := prog_10_method_22_code
def yX8_fullIfShared : MethodName := ⟨RX8, "fullIfShared", "(I)I"⟩
abbrev cX8_sharedUntilFull : ByteArray := prog_10_method_23_code
def yX8_sharedUntilFull : MethodName := ⟨RX8, "sharedUntilFull", "(I)I"⟩
abbrev cX8_space : ByteArray := prog_10_method_24_code
def yX8_space : MethodName := ⟨RX8, "space", "(I)I"⟩
abbrev cX8_leftIfShared : ByteArray := prog_10_method_25_code
def yX8_leftIfShared : MethodName := ⟨RX8, "leftIfShared", "(I)I"⟩
def RX9 : String := "SaltLines"
def TX9 : u_T := fun k => match k with
  | 0 => ("SaltLines", "home", "LSaltLines$House;", true)
  | 1 => ("SaltLines", "tried", "LSaltLines$Tried;", true)
  | 2 => ("SaltLines", "reader", "LSaltLines$Reader;", true)
  | 3 => ("SaltLines", "past", "LSaltLines$Past;", true)
  | 4 => ("SaltLines", "notes", "LSaltLines$Notes;", true)
  | 5 => ("SaltLines", "draws", "LSaltLines$Draws;", true)
  | _ => ("SaltLines", "images", "LSaltLines$Images;", true)
def tyX9 : Nat → FieldType := fun k => match k with
  | 0 => .object "SaltLines$House"
  | 1 => .object "SaltLines$Tried"
  | 2 => .object "SaltLines$Reader"
  | 3 => .object "SaltLines$Past"
  | 4 => .object "SaltLines$Notes"
  | 5 => .object "SaltLines$Draws"
  | _ => .object "SaltLines$Images"
theorem nmX9 : ∀ a, a < 7 → ∀ b, b < 7 → a ≠ b → (TX9 a).2.1 ≠ (TX9 b).2.1 := by decide +kernel
theorem tyX9_ok : ∀ k, k < 7 → parseFieldDescriptor (TX9 k).2.2.1 = some (tyX9 k) := by decide +kernel
abbrev cX9_init : ByteArray := prog_1_method_1_code
def yX9_init : MethodName := ⟨RX9, "<init>", "()V"⟩
abbrev cX9_feed : ByteArray := prog_1_method_2_code
def yX9_feed : MethodName := ⟨RX9, "feed", "(I)I"⟩
abbrev cX9_house : ByteArray := prog_1_method_3_code
def yX9_house : MethodName := ⟨RX9, "house", "()I"⟩
abbrev cX9_fault : ByteArray := prog_1_method_4_code
def yX9_fault : MethodName := ⟨RX9, "fault", "()I"⟩
abbrev cX9_told : ByteArray := prog_1_method_5_code
def yX9_told : MethodName := ⟨RX9, "told", "(I)I"⟩
abbrev cX9_door : ByteArray := prog_1_method_6_code
def yX9_door : MethodName := ⟨RX9, "door", "(II)I"⟩
abbrev cX9_person : ByteArray := prog_1_method_7_code
def yX9_person : MethodName := ⟨RX9, "person", "(II)I"⟩
abbrev cX9_room : ByteArray := prog_1_method_8_code
def yX9_room : MethodName := ⟨RX9, "room", "(I)I"⟩
abbrev cX9_rain : ByteArray := prog_1_method_9_code
def yX9_rain : MethodName := ⟨RX9, "rain", "(I)I"⟩
abbrev cX9_hour : ByteArray := prog_1_method_10_code
def yX9_hour : MethodName := ⟨RX9, "hour", "(I)I"⟩
abbrev cX9_step : ByteArray := prog_1_method_11_code
def yX9_step : MethodName := ⟨RX9, "step", "(II)I"⟩
abbrev cX9_lay : ByteArray := prog_1_method_12_code
def yX9_lay : MethodName := ⟨RX9, "lay", "(II)I"⟩
abbrev cX9_sweep : ByteArray := prog_1_method_13_code
def yX9_sweep : MethodName := ⟨RX9, "sweep", "(I)I"⟩
abbrev cX9_buy : ByteArray := prog_1_method_14_code
def yX9_buy : MethodName := ⟨RX9, "buy", "(I)I"⟩
abbrev cX9_wish : ByteArray := prog_1_method_15_code
def yX9_wish : MethodName := ⟨RX9, "wish", "(II)I"⟩
abbrev cX9_drift : ByteArray := prog_1_method_16_code
def yX9_drift : MethodName := ⟨RX9, "drift", "(I)I"⟩
abbrev cX9_undo : ByteArray := prog_1_method_17_code
def yX9_undo : MethodName := ⟨RX9, "undo", "(I)I"⟩
abbrev cX9_stops : ByteArray := prog_1_method_18_code
def yX9_stops : MethodName := ⟨RX9, "stops", "(II)I"⟩
abbrev cX9_comers : ByteArray := prog_1_method_19_code
def yX9_comers : MethodName := ⟨RX9, "comers", "(I)I"⟩
abbrev cX9_way : ByteArray := prog_1_method_20_code
def yX9_way : MethodName := ⟨RX9, "way", "(III)I"⟩
abbrev cX9_keepOut : ByteArray := prog_1_method_21_code
def yX9_keepOut : MethodName := ⟨RX9, "keepOut", "(III)I"⟩
abbrev cX9_soften : ByteArray := prog_1_method_22_code
def yX9_soften : MethodName := ⟨RX9, "soften", "(II)I"⟩
abbrev cX9_parts : ByteArray := prog_1_method_23_code
def yX9_parts : MethodName := ⟨RX9, "parts", "(II)I"⟩
abbrev cX9_worst : ByteArray := prog_1_method_24_code
def yX9_worst : MethodName := ⟨RX9, "worst", "(I)I"⟩
abbrev cX9_lasts : ByteArray := prog_1_method_25_code
def yX9_lasts : MethodName := ⟨RX9, "lasts", "(I)I"⟩
abbrev cX9_mend : ByteArray := prog_1_method_26_code
def yX9_mend : MethodName := ⟨RX9, "mend", "(I)I"⟩
abbrev cX9_holds : ByteArray := prog_1_method_27_code
def yX9_holds : MethodName := ⟨RX9, "holds", "(I)I"⟩
abbrev cX9_mostCrossed : ByteArray := prog_1_method_28_code
def yX9_mostCrossed : MethodName := ⟨RX9, "mostCrossed", "()I"⟩
abbrev cX9_narrow : ByteArray := prog_1_method_29_code
def yX9_narrow : MethodName := ⟨RX9, "narrow", "()I"⟩
abbrev cX9_first : ByteArray := prog_1_method_30_code
def yX9_first : MethodName := ⟨RX9, "first", "()I"⟩
abbrev cX9_share : ByteArray := prog_1_method_31_code
def yX9_share : MethodName := ⟨RX9, "share", "(II)I"⟩
abbrev cX9_dry : ByteArray := prog_1_method_32_code
def yX9_dry : MethodName := ⟨RX9, "dry", "(II)I"⟩
abbrev cX9_see : ByteArray := prog_1_method_33_code
def yX9_see : MethodName := ⟨RX9, "see", "(IZ)I"⟩
abbrev cX9_ills : ByteArray := prog_1_method_34_code
def yX9_ills : MethodName := ⟨RX9, "ills", "()I"⟩
abbrev cX9_lookAt : ByteArray := prog_1_method_35_code
def yX9_lookAt : MethodName := ⟨RX9, "lookAt", "()I"⟩
abbrev cX9_write : ByteArray := prog_1_method_36_code
def yX9_write : MethodName := ⟨RX9, "write", "(II)I"⟩
abbrev cX9_judge : ByteArray := prog_1_method_37_code
def yX9_judge : MethodName := ⟨RX9, "judge", "()I"⟩
abbrev cX9_tear : ByteArray := prog_1_method_38_code
def yX9_tear : MethodName := ⟨RX9, "tear", "()I"⟩
abbrev cX9_seed : ByteArray := prog_1_method_39_code
def yX9_seed : MethodName := ⟨RX9, "seed", "(I)I"⟩
abbrev cX9_keep : ByteArray := prog_1_method_40_code
def yX9_keep : MethodName := ⟨RX9, "keep", "(I)I"⟩
abbrev cX9_goBack : ByteArray := prog_1_method_41_code
def yX9_goBack : MethodName := ⟨RX9, "goBack", "(I)I"⟩
abbrev cX9_within : ByteArray := prog_1_method_42_code
def yX9_within : MethodName := ⟨RX9, "within", "(III)Z"⟩
abbrev cX9_holdsBack : ByteArray := prog_1_method_43_code
def yX9_holdsBack : MethodName := ⟨RX9, "holdsBack", "(II)Z"⟩
abbrev cX9_illOfWish : ByteArray := prog_1_method_44_code
def yX9_illOfWish : MethodName := ⟨RX9, "illOfWish", "(I)I"⟩
abbrev cX9_only : ByteArray := prog_1_method_45_code
def yX9_only : MethodName := ⟨RX9, "only", "(I)I"⟩
abbrev cX9_inSet : ByteArray := prog_1_method_46_code
def yX9_inSet : MethodName := ⟨RX9, "inSet", "(II)Z"⟩
def RX10 : String := "SaltLinesModel"
def TX10 : u_T := fun k => match k with
  | 0 => ("SaltLinesModel", "letters", "I", false)
  | 1 => ("SaltLinesModel", "text", "[I", true)
  | 2 => ("SaltLinesModel", "position", "I", false)
  | 3 => ("SaltLinesModel", "tokenAt", "I", false)
  | 4 => ("SaltLinesModel", "token", "I", false)
  | 5 => ("SaltLinesModel", "number", "I", false)
  | 6 => ("SaltLinesModel", "figures", "I", false)
  | 7 => ("SaltLinesModel", "faultAt", "I", false)
  | 8 => ("SaltLinesModel", "faultIs", "I", false)
  | 9 => ("SaltLinesModel", "readRooms", "I", false)
  | 10 => ("SaltLinesModel", "readStore", "I", false)
  | 11 => ("SaltLinesModel", "readRains", "I", false)
  | 12 => ("SaltLinesModel", "readDoors", "I", false)
  | 13 => ("SaltLinesModel", "readPersons", "I", false)
  | 14 => ("SaltLinesModel", "readRain", "[I", true)
  | 15 => ("SaltLinesModel", "readDoor", "[I", true)
  | 16 => ("SaltLinesModel", "readPerson", "[I", true)
  | 17 => ("SaltLinesModel", "rooms", "I", false)
  | 18 => ("SaltLinesModel", "rains", "I", false)
  | 19 => ("SaltLinesModel", "doors", "I", false)
  | 20 => ("SaltLinesModel", "persons", "I", false)
  | 21 => ("SaltLinesModel", "rain", "[I", true)
  | 22 => ("SaltLinesModel", "door", "[I", true)
  | 23 => ("SaltLinesModel", "now", "[I", true)
  | 24 => ("SaltLinesModel", "tried", "[I", true)
  | 25 => ("SaltLinesModel", "backOf", "[I", true)
  | 26 => ("SaltLinesModel", "backs", "I", false)
  | 27 => ("SaltLinesModel", "image", "[I", true)
  | 28 => ("SaltLinesModel", "imageSeed", "[I", true)
  | 29 => ("SaltLinesModel", "isKept", "[Z", true)
  | 30 => ("SaltLinesModel", "seed", "I", false)
  | 31 => ("SaltLinesModel", "seen", "I", false)
  | 32 => ("SaltLinesModel", "sight", "[I", true)
  | 33 => ("SaltLinesModel", "entries", "I", false)
  | _ => ("SaltLinesModel", "entry", "[I", true)
def tyX10 : Nat → FieldType := fun k => match k with
  | 0 => .int
  | 1 => .array .int
  | 2 => .int
  | 3 => .int
  | 4 => .int
  | 5 => .int
  | 6 => .int
  | 7 => .int
  | 8 => .int
  | 9 => .int
  | 10 => .int
  | 11 => .int
  | 12 => .int
  | 13 => .int
  | 14 => .array .int
  | 15 => .array .int
  | 16 => .array .int
  | 17 => .int
  | 18 => .int
  | 19 => .int
  | 20 => .int
  | 21 => .array .int
  | 22 => .array .int
  | 23 => .array .int
  | 24 => .array .int
  | 25 => .array .int
  | 26 => .int
  | 27 => .array .int
  | 28 => .array .int
  | 29 => .array .boolean
  | 30 => .int
  | 31 => .int
  | 32 => .array .int
  | 33 => .int
  | _ => .array .int
theorem nmX10 : ∀ a, a < 35 → ∀ b, b < 35 → a ≠ b → (TX10 a).2.1 ≠ (TX10 b).2.1 := by decide +kernel
theorem tyX10_ok : ∀ k, k < 35 → parseFieldDescriptor (TX10 k).2.2.1 = some (tyX10 k) := by decide +kernel
abbrev cX10_init : ByteArray := prog_12_method_1_code
def yX10_init : MethodName := ⟨RX10, "<init>", "()V"⟩
abbrev cX10_in : ByteArray := prog_12_method_2_code
def yX10_in : MethodName := ⟨RX10, "in", "(III)Z"⟩
abbrev cX10_has : ByteArray := prog_12_method_3_code
def yX10_has : MethodName := ⟨RX10, "has", "(II)Z"⟩
abbrev cX10_isRoom : ByteArray := prog_12_method_4_code
def yX10_isRoom : MethodName := ⟨RX10, "isRoom", "(I)Z"⟩
abbrev cX10_isDoor : ByteArray := prog_12_method_5_code
def yX10_isDoor : MethodName := ⟨RX10, "isDoor", "(I)Z"⟩
abbrev cX10_isPerson : ByteArray := prog_12_method_6_code
def yX10_isPerson : MethodName := ⟨RX10, "isPerson", "(I)Z"⟩
abbrev cX10_feed : ByteArray := prog_12_method_7_code
def yX10_feed : MethodName := ⟨RX10, "feed", "(I)I"⟩
abbrev cX10_nextToken : ByteArray := prog_12_method_8_code
def yX10_nextToken : MethodName := ⟨RX10, "nextToken", "()V"⟩
abbrev cX10_fails : ByteArray := prog_12_method_9_code
def yX10_fails : MethodName := ⟨RX10, "fails", "(I)Z"⟩
abbrev cX10_isNumber : ByteArray := prog_12_method_10_code
def yX10_isNumber : MethodName := ⟨RX10, "isNumber", "(II)Z"⟩
abbrev cX10_isHead : ByteArray := prog_12_method_11_code
def yX10_isHead : MethodName := ⟨RX10, "isHead", "()Z"⟩
abbrev cX10_isEnd : ByteArray := prog_12_method_12_code
def yX10_isEnd : MethodName := ⟨RX10, "isEnd", "()Z"⟩
abbrev cX10_isDoorItem : ByteArray := prog_12_method_13_code
def yX10_isDoorItem : MethodName := ⟨RX10, "isDoorItem", "()Z"⟩
abbrev cX10_isPersonItem : ByteArray := prog_12_method_14_code
def yX10_isPersonItem : MethodName := ⟨RX10, "isPersonItem", "()Z"⟩
abbrev cX10_isClause : ByteArray := prog_12_method_15_code
def yX10_isClause : MethodName := ⟨RX10, "isClause", "()Z"⟩
abbrev cX10_isRead : ByteArray := prog_12_method_16_code
def yX10_isRead : MethodName := ⟨RX10, "isRead", "()Z"⟩
abbrev cX10_bring : ByteArray := prog_12_method_17_code
def yX10_bring : MethodName := ⟨RX10, "bring", "([II[III)V"⟩
abbrev cX10_house : ByteArray := prog_12_method_18_code
def yX10_house : MethodName := ⟨RX10, "house", "()I"⟩
abbrev cX10_fault : ByteArray := prog_12_method_19_code
def yX10_fault : MethodName := ⟨RX10, "fault", "()I"⟩
abbrev cX10_illOf : ByteArray := prog_12_method_20_code
def yX10_illOf : MethodName := ⟨RX10, "illOf", "([II)I"⟩
abbrev cX10_stopsBy : ByteArray := prog_12_method_21_code
def yX10_stopsBy : MethodName := ⟨RX10, "stopsBy", "(II)Z"⟩
abbrev cX10_stopsIn : ByteArray := prog_12_method_22_code
def yX10_stopsIn : MethodName := ⟨RX10, "stopsIn", "([III)Z"⟩
abbrev cX10_comesBy : ByteArray := prog_12_method_23_code
def yX10_comesBy : MethodName := ⟨RX10, "comesBy", "(IIII)I"⟩
abbrev cX10_comesOf : ByteArray := prog_12_method_24_code
def yX10_comesOf : MethodName := ⟨RX10, "comesOf", "(I)I"⟩
abbrev cX10_shutIn : ByteArray := prog_12_method_25_code
def yX10_shutIn : MethodName := ⟨RX10, "shutIn", "()I"⟩
abbrev cX10_allSpoons : ByteArray := prog_12_method_26_code
def yX10_allSpoons : MethodName := ⟨RX10, "allSpoons", "()I"⟩
abbrev cX10_allCrossed : ByteArray := prog_12_method_27_code
def yX10_allCrossed : MethodName := ⟨RX10, "allCrossed", "()I"⟩
abbrev cX10_told : ByteArray := prog_12_method_28_code
def yX10_told : MethodName := ⟨RX10, "told", "(I)I"⟩
abbrev cX10_door : ByteArray := prog_12_method_29_code
def yX10_door : MethodName := ⟨RX10, "door", "(II)I"⟩
abbrev cX10_person : ByteArray := prog_12_method_30_code
def yX10_person : MethodName := ⟨RX10, "person", "(II)I"⟩
abbrev cX10_room : ByteArray := prog_12_method_31_code
def yX10_room : MethodName := ⟨RX10, "room", "(I)I"⟩
abbrev cX10_rainAt : ByteArray := prog_12_method_32_code
def yX10_rainAt : MethodName := ⟨RX10, "rainAt", "(I)I"⟩
abbrev cX10_rain : ByteArray := prog_12_method_33_code
def yX10_rain : MethodName := ⟨RX10, "rain", "(I)I"⟩
abbrev cX10_note : ByteArray := prog_12_method_34_code
def yX10_note : MethodName := ⟨RX10, "note", "()V"⟩
abbrev cX10_lessBy : ByteArray := prog_12_method_35_code
def yX10_lessBy : MethodName := ⟨RX10, "lessBy", "(II)I"⟩
abbrev cX10_goBy : ByteArray := prog_12_method_36_code
def yX10_goBy : MethodName := ⟨RX10, "goBy", "()V"⟩
abbrev cX10_noHours : ByteArray := prog_12_method_37_code
def yX10_noHours : MethodName := ⟨RX10, "noHours", "(I)I"⟩
abbrev cX10_hour : ByteArray := prog_12_method_38_code
def yX10_hour : MethodName := ⟨RX10, "hour", "(I)I"⟩
abbrev cX10_isAt : ByteArray := prog_12_method_39_code
def yX10_isAt : MethodName := ⟨RX10, "isAt", "(II)Z"⟩
abbrev cX10_steps : ByteArray := prog_12_method_40_code
def yX10_steps : MethodName := ⟨RX10, "steps", "(II)V"⟩
abbrev cX10_step : ByteArray := prog_12_method_41_code
def yX10_step : MethodName := ⟨RX10, "step", "(II)I"⟩
abbrev cX10_lay : ByteArray := prog_12_method_42_code
def yX10_lay : MethodName := ⟨RX10, "lay", "(II)I"⟩
abbrev cX10_capped : ByteArray := prog_12_method_43_code
def yX10_capped : MethodName := ⟨RX10, "capped", "(I)I"⟩
abbrev cX10_sweep : ByteArray := prog_12_method_44_code
def yX10_sweep : MethodName := ⟨RX10, "sweep", "(I)I"⟩
abbrev cX10_buy : ByteArray := prog_12_method_45_code
def yX10_buy : MethodName := ⟨RX10, "buy", "(I)I"⟩
abbrev cX10_wish : ByteArray := prog_12_method_46_code
def yX10_wish : MethodName := ⟨RX10, "wish", "(II)I"⟩
abbrev cX10_draw : ByteArray := prog_12_method_47_code
def yX10_draw : MethodName := ⟨RX10, "draw", "(I)I"⟩
abbrev cX10_drift : ByteArray := prog_12_method_48_code
def yX10_drift : MethodName := ⟨RX10, "drift", "(I)I"⟩
abbrev cX10_undo : ByteArray := prog_12_method_49_code
def yX10_undo : MethodName := ⟨RX10, "undo", "(I)I"⟩
abbrev cX10_stops : ByteArray := prog_12_method_50_code
def yX10_stops : MethodName := ⟨RX10, "stops", "(II)I"⟩
abbrev cX10_comers : ByteArray := prog_12_method_51_code
def yX10_comers : MethodName := ⟨RX10, "comers", "(I)I"⟩
abbrev cX10_farBy : ByteArray := prog_12_method_52_code
def yX10_farBy : MethodName := ⟨RX10, "farBy", "(III)I"⟩
abbrev cX10_way : ByteArray := prog_12_method_53_code
def yX10_way : MethodName := ⟨RX10, "way", "(III)I"⟩
abbrev cX10_keepOut : ByteArray := prog_12_method_54_code
def yX10_keepOut : MethodName := ⟨RX10, "keepOut", "(III)I"⟩
abbrev cX10_soften : ByteArray := prog_12_method_55_code
def yX10_soften : MethodName := ⟨RX10, "soften", "(II)I"⟩
abbrev cX10_parts : ByteArray := prog_12_method_56_code
def yX10_parts : MethodName := ⟨RX10, "parts", "(II)I"⟩
abbrev cX10_partsBy : ByteArray := prog_12_method_57_code
def yX10_partsBy : MethodName := ⟨RX10, "partsBy", "(II)I"⟩
abbrev cX10_worst : ByteArray := prog_12_method_58_code
def yX10_worst : MethodName := ⟨RX10, "worst", "(I)I"⟩
abbrev cX10_lastsOf : ByteArray := prog_12_method_59_code
def yX10_lastsOf : MethodName := ⟨RX10, "lastsOf", "(I)I"⟩
abbrev cX10_lasts : ByteArray := prog_12_method_60_code
def yX10_lasts : MethodName := ⟨RX10, "lasts", "(I)I"⟩
abbrev cX10_mend : ByteArray := prog_12_method_61_code
def yX10_mend : MethodName := ⟨RX10, "mend", "(I)I"⟩
abbrev cX10_holds : ByteArray := prog_12_method_62_code
def yX10_holds : MethodName := ⟨RX10, "holds", "(I)I"⟩
abbrev cX10_mostCrossed : ByteArray := prog_12_method_63_code
def yX10_mostCrossed : MethodName := ⟨RX10, "mostCrossed", "()I"⟩
abbrev cX10_narrow : ByteArray := prog_12_method_64_code
def yX10_narrow : MethodName := ⟨RX10, "narrow", "()I"⟩
abbrev cX10_first : ByteArray := prog_12_method_65_code
def yX10_first : MethodName := ⟨RX10, "first", "()I"⟩
abbrev cX10_share : ByteArray := prog_12_method_66_code
def yX10_share : MethodName := ⟨RX10, "share", "(II)I"⟩
abbrev cX10_dry : ByteArray := prog_12_method_67_code
def yX10_dry : MethodName := ⟨RX10, "dry", "(II)I"⟩
abbrev cX10_see : ByteArray := prog_12_method_68_code
def yX10_see : MethodName := ⟨RX10, "see", "(IZ)I"⟩
abbrev cX10_ills : ByteArray := prog_12_method_69_code
def yX10_ills : MethodName := ⟨RX10, "ills", "()I"⟩
abbrev cX10_lookAt : ByteArray := prog_12_method_70_code
def yX10_lookAt : MethodName := ⟨RX10, "lookAt", "()I"⟩
abbrev cX10_write : ByteArray := prog_12_method_71_code
def yX10_write : MethodName := ⟨RX10, "write", "(II)I"⟩
abbrev cX10_judge : ByteArray := prog_12_method_72_code
def yX10_judge : MethodName := ⟨RX10, "judge", "()I"⟩
abbrev cX10_tear : ByteArray := prog_12_method_73_code
def yX10_tear : MethodName := ⟨RX10, "tear", "()I"⟩
abbrev cX10_seed : ByteArray := prog_12_method_74_code
def yX10_seed : MethodName := ⟨RX10, "seed", "(I)I"⟩
abbrev cX10_keep : ByteArray := prog_12_method_75_code
def yX10_keep : MethodName := ⟨RX10, "keep", "(I)I"⟩
abbrev cX10_goBack : ByteArray := prog_12_method_76_code
def yX10_goBack : MethodName := ⟨RX10, "goBack", "(I)I"⟩
def RJ6 : String := "java/lang/Integer"
def TJ6 : u_T := fun k => match k with
  | _ => ("", "", "", false)
def tyJ6 : Nat → FieldType := fun k => match k with
  | _ => .int
abbrev cJ6_bitCount_0f7a4 : ByteArray := prog_13_method_49_code
def yJ6_bitCount_0f7a4 : MethodName := ⟨RJ6, "bitCount", "(I)I"⟩
abbrev cJ6_signum_0f7a4 : ByteArray := prog_13_method_56_code
def yJ6_signum_0f7a4 : MethodName := ⟨RJ6, "signum", "(I)I"⟩
def RJ9 : String := "java/lang/Math"
def TJ9 : u_T := fun k => match k with
  | _ => ("", "", "", false)
def tyJ9 : Nat → FieldType := fun k => match k with
  | _ => .int
abbrev cJ9_floorMod_7cf53 : ByteArray := prog_14_method_50_code
def yJ9_floorMod_7cf53 : MethodName := ⟨RJ9, "floorMod", "(II)I"⟩
abbrev cJ9_max_7cf53 : ByteArray := prog_14_method_65_code
def yJ9_max_7cf53 : MethodName := ⟨RJ9, "max", "(II)I"⟩
abbrev cJ9_min_7cf53 : ByteArray := prog_14_method_69_code
def yJ9_min_7cf53 : MethodName := ⟨RJ9, "min", "(II)I"⟩
def RJ7 : String := "java/util/Arrays"
def TJ7 : u_T := fun k => match k with
  | _ => ("", "", "", false)
def tyJ7 : Nat → FieldType := fun k => match k with
  | _ => .int
abbrev cJ7_fill_53178 : ByteArray := prog_15_method_103_code
def yJ7_fill_53178 : MethodName := ⟨RJ7, "fill", "([II)V"⟩
def RL : String := "SaltLinesLaw"
abbrev cL_law : ByteArray := code
def yL_law : MethodName := ⟨RL, "law", "([I)Z"⟩
abbrev vwCl : List vw_C := [(RX0, TX0, 1), (RX1, TX1, 10), (RX2, TX2, 3), (RX3, TX3, 6), (RX4, TX4, 3), (RX5, TX5, 7), (RX6, TX6, 1), (RX7, TX7, 1), (RX8, TX8, 1), (RX9, TX9, 7), (RX10, TX10, 35)]
def wt : List Cond := lw_tbl.filter goodWord
theorem mt0 {w : Cond} (h : w ∈ k2_sels lw_privs) (g : goodWord w = true) : w ∈ wt := List.mem_filter.mpr ⟨List.mem_append_left _ h, g⟩
theorem mt1 {w : Cond} (h : w ∈ tables_1_1) (g : goodWord w = true) : w ∈ wt := List.mem_filter.mpr ⟨List.mem_append_right _ (show w ∈ tables_1_1 ++ (tables_1_2 ++ (tables_1_3 ++ (tables_1_4 ++ (tables_1_5 ++ tables_1_6)))) from List.mem_append_left _ h), g⟩
theorem mt2 {w : Cond} (h : w ∈ tables_1_2) (g : goodWord w = true) : w ∈ wt := List.mem_filter.mpr ⟨List.mem_append_right _ (show w ∈ tables_1_1 ++ (tables_1_2 ++ (tables_1_3 ++ (tables_1_4 ++ (tables_1_5 ++ tables_1_6)))) from List.mem_append_right _ (List.mem_append_left _ h)), g⟩
theorem mt3 {w : Cond} (h : w ∈ tables_1_3) (g : goodWord w = true) : w ∈ wt := List.mem_filter.mpr ⟨List.mem_append_right _ (show w ∈ tables_1_1 ++ (tables_1_2 ++ (tables_1_3 ++ (tables_1_4 ++ (tables_1_5 ++ tables_1_6)))) from List.mem_append_right _ (List.mem_append_right _ (List.mem_append_left _ h))), g⟩
theorem mt4 {w : Cond} (h : w ∈ tables_1_4) (g : goodWord w = true) : w ∈ wt := List.mem_filter.mpr ⟨List.mem_append_right _ (show w ∈ tables_1_1 ++ (tables_1_2 ++ (tables_1_3 ++ (tables_1_4 ++ (tables_1_5 ++ tables_1_6)))) from List.mem_append_right _ (List.mem_append_right _ (List.mem_append_right _ (List.mem_append_left _ h)))), g⟩
theorem mt5 {w : Cond} (h : w ∈ tables_1_5) (g : goodWord w = true) : w ∈ wt := List.mem_filter.mpr ⟨List.mem_append_right _ (show w ∈ tables_1_1 ++ (tables_1_2 ++ (tables_1_3 ++ (tables_1_4 ++ (tables_1_5 ++ tables_1_6)))) from List.mem_append_right _ (List.mem_append_right _ (List.mem_append_right _ (List.mem_append_right _ (List.mem_append_left _ h))))), g⟩
theorem mt6 {w : Cond} (h : w ∈ tables_1_6) (g : goodWord w = true) : w ∈ wt := List.mem_filter.mpr ⟨List.mem_append_right _ (show w ∈ tables_1_1 ++ (tables_1_2 ++ (tables_1_3 ++ (tables_1_4 ++ (tables_1_5 ++ tables_1_6)))) from List.mem_append_right _ (List.mem_append_right _ (List.mem_append_right _ (List.mem_append_right _ (List.mem_append_right _ (h)))))), g⟩
theorem w_1_0 : Cond.initialized RL ∈ wt := mt1 (List.mem_of_getElem? (i := 0) rfl) rfl
theorem w_1_1 : Cond.initialized RX9 ∈ wt := mt1 (List.mem_of_getElem? (i := 1) rfl) rfl
theorem w_1_2 : Cond.initialized RX1 ∈ wt := mt1 (List.mem_of_getElem? (i := 2) rfl) rfl
theorem w_1_3 : Cond.initialized RX6 ∈ wt := mt1 (List.mem_of_getElem? (i := 3) rfl) rfl
theorem w_1_4 : Cond.initialized RJ9 ∈ wt := mt1 (List.mem_of_getElem? (i := 4) rfl) rfl
theorem w_1_5 : Cond.initialized RX7 ∈ wt := mt1 (List.mem_of_getElem? (i := 5) rfl) rfl
theorem w_1_6 : Cond.initialized RX8 ∈ wt := mt1 (List.mem_of_getElem? (i := 6) rfl) rfl
theorem w_1_7 : Cond.initialized RX5 ∈ wt := mt1 (List.mem_of_getElem? (i := 7) rfl) rfl
theorem w_1_8 : Cond.initialized RX4 ∈ wt := mt1 (List.mem_of_getElem? (i := 8) rfl) rfl
theorem w_1_9 : Cond.initialized RX3 ∈ wt := mt1 (List.mem_of_getElem? (i := 9) rfl) rfl
theorem w_1_10 : Cond.initialized RX0 ∈ wt := mt1 (List.mem_of_getElem? (i := 10) rfl) rfl
theorem w_1_11 : Cond.initialized RX2 ∈ wt := mt1 (List.mem_of_getElem? (i := 11) rfl) rfl
theorem w_1_12 : Cond.initialized RX10 ∈ wt := mt1 (List.mem_of_getElem? (i := 12) rfl) rfl
theorem w_1_13 : Cond.initialized RJ7 ∈ wt := mt1 (List.mem_of_getElem? (i := 13) rfl) rfl
theorem w_1_14 : Cond.initialized RJ6 ∈ wt := mt1 (List.mem_of_getElem? (i := 14) rfl) rfl
theorem w_1_15 : Cond.classLink RL 7 RX9 ∈ wt := mt1 (List.mem_of_getElem? (i := 15) rfl) rfl
theorem w_1_16 : Cond.instantiable RX9 7 ∈ wt := mt1 (List.mem_of_getElem? (i := 16) rfl) rfl
theorem w_1_17 : Cond.methodLink RL 9 yX9_init ∈ wt := mt1 (List.mem_of_getElem? (i := 17) rfl) rfl
theorem w_1_18 : Cond.instanceMethod yX9_init ∈ wt := mt1 (List.mem_of_getElem? (i := 18) rfl) rfl
theorem w_1_19 : Cond.code yX9_init cX9_init 1 none ∈ wt := mt1 (List.mem_of_getElem? (i := 19) rfl) rfl
theorem w_1_20 : Cond.methodLink RX9 3 objectInit ∈ wt := mt1 (List.mem_of_getElem? (i := 20) rfl) rfl
theorem w_1_21 : Cond.instanceMethod objectInit ∈ wt := mt1 (List.mem_of_getElem? (i := 21) rfl) rfl
theorem w_1_22 : Cond.code objectInit ⟨#[0xb1]⟩ 1 none ∈ wt := mt1 (List.mem_of_getElem? (i := 22) rfl) rfl
theorem w_1_23 : Cond.classLink RX9 9 RX1 ∈ wt := mt1 (List.mem_of_getElem? (i := 23) rfl) rfl
theorem w_1_24 : Cond.instantiable RX1 10 ∈ wt := mt1 (List.mem_of_getElem? (i := 24) rfl) rfl
theorem w_1_26 : Cond.instanceMethod yX1_init ∈ wt := mt1 (List.mem_of_getElem? (i := 26) rfl) rfl
theorem w_1_27 : Cond.code yX1_init cX1_init 1 none ∈ wt := mt1 (List.mem_of_getElem? (i := 27) rfl) rfl
theorem w_1_28 : Cond.methodLink RX1 3 objectInit ∈ wt := mt1 (List.mem_of_getElem? (i := 28) rfl) rfl
theorem w_1_29 : Cond.classLink RX1 9 RX6 ∈ wt := mt1 (List.mem_of_getElem? (i := 29) rfl) rfl
theorem w_1_30 : Cond.instantiable RX6 1 ∈ wt := mt1 (List.mem_of_getElem? (i := 30) rfl) rfl
theorem w_1_31 : Cond.methodLink RX1 11 yX6_init ∈ wt := mt1 (List.mem_of_getElem? (i := 31) rfl) rfl
theorem w_1_32 : Cond.instanceMethod yX6_init ∈ wt := mt1 (List.mem_of_getElem? (i := 32) rfl) rfl
theorem w_1_33 : Cond.code yX6_init cX6_init 2 none ∈ wt := mt1 (List.mem_of_getElem? (i := 33) rfl) rfl
theorem w_1_34 : Cond.methodLink RX6 1 objectInit ∈ wt := mt1 (List.mem_of_getElem? (i := 34) rfl) rfl
theorem w_1_35 : Cond.methodLink RX6 7 yJ9_max_7cf53 ∈ wt := mt1 (List.mem_of_getElem? (i := 35) rfl) rfl
theorem w_1_36 : Cond.static yJ9_max_7cf53 ∈ wt := mt1 (List.mem_of_getElem? (i := 36) rfl) rfl
theorem w_1_37 : Cond.code yJ9_max_7cf53 cJ9_max_7cf53 2 (some .int) ∈ wt := mt1 (List.mem_of_getElem? (i := 37) rfl) rfl
theorem w_1_38 : Cond.fieldLink RX6 13 "SaltLines$Row" "cells" "[I" ∈ wt := mt1 (List.mem_of_getElem? (i := 38) rfl) rfl
theorem w_1_39 : Cond.laysFinal RX6 "SaltLines$Row" "cells" "[I" ∈ wt := mt1 (List.mem_of_getElem? (i := 39) rfl) rfl
theorem w_1_42 : Cond.arrayClass .int ∈ wt := mt1 (List.mem_of_getElem? (i := 42) rfl) rfl
theorem w_1_43 : Cond.classLink RX1 32 RX7 ∈ wt := mt1 (List.mem_of_getElem? (i := 43) rfl) rfl
theorem w_1_44 : Cond.instantiable RX7 1 ∈ wt := mt1 (List.mem_of_getElem? (i := 44) rfl) rfl
theorem w_1_46 : Cond.instanceMethod yX7_init ∈ wt := mt1 (List.mem_of_getElem? (i := 46) rfl) rfl
theorem w_1_47 : Cond.code yX7_init cX7_init 1 none ∈ wt := mt1 (List.mem_of_getElem? (i := 47) rfl) rfl
theorem w_1_48 : Cond.methodLink RX7 5 objectInit ∈ wt := mt1 (List.mem_of_getElem? (i := 48) rfl) rfl
theorem w_1_49 : Cond.classLink RX7 11 RX6 ∈ wt := mt1 (List.mem_of_getElem? (i := 49) rfl) rfl
theorem w_1_50 : Cond.methodLink RX7 13 yX6_init ∈ wt := mt1 (List.mem_of_getElem? (i := 50) rfl) rfl
theorem w_1_51 : Cond.fieldLink RX7 16 "SaltLines$State" "row" "LSaltLines$Row;" ∈ wt := mt1 (List.mem_of_getElem? (i := 51) rfl) rfl
theorem w_1_52 : Cond.laysFinal RX7 "SaltLines$State" "row" "LSaltLines$Row;" ∈ wt := mt1 (List.mem_of_getElem? (i := 52) rfl) rfl
theorem w_1_55 : Cond.fieldLink RX1 14 "SaltLines$House" "rainfall" "LSaltLines$Row;" ∈ wt := mt1 (List.mem_of_getElem? (i := 55) rfl) rfl
theorem w_1_56 : Cond.fieldLink RX1 20 "SaltLines$House" "doorA" "LSaltLines$Row;" ∈ wt := mt1 (List.mem_of_getElem? (i := 56) rfl) rfl
theorem w_1_57 : Cond.fieldLink RX9 144 "SaltLines$House" "doorA" "LSaltLines$Row;" ∈ wt := mt1 (List.mem_of_getElem? (i := 57) rfl) rfl
theorem w_1_58 : Cond.fieldLink RX8 112 "SaltLines$House" "doorA" "LSaltLines$Row;" ∈ wt := mt1 (List.mem_of_getElem? (i := 58) rfl) rfl
theorem w_1_59 : Cond.fieldLink RX1 23 "SaltLines$House" "doorB" "LSaltLines$Row;" ∈ wt := mt1 (List.mem_of_getElem? (i := 59) rfl) rfl
theorem w_1_60 : Cond.fieldLink RX9 154 "SaltLines$House" "doorB" "LSaltLines$Row;" ∈ wt := mt1 (List.mem_of_getElem? (i := 60) rfl) rfl
theorem w_1_61 : Cond.fieldLink RX8 115 "SaltLines$House" "doorB" "LSaltLines$Row;" ∈ wt := mt1 (List.mem_of_getElem? (i := 61) rfl) rfl
theorem w_1_62 : Cond.fieldLink RX1 26 "SaltLines$House" "doorSides" "LSaltLines$Row;" ∈ wt := mt1 (List.mem_of_getElem? (i := 62) rfl) rfl
theorem w_1_63 : Cond.fieldLink RX8 21 "SaltLines$House" "doorSides" "LSaltLines$Row;" ∈ wt := mt1 (List.mem_of_getElem? (i := 63) rfl) rfl
theorem w_1_64 : Cond.fieldLink RX1 29 "SaltLines$House" "doorOpen" "LSaltLines$Row;" ∈ wt := mt1 (List.mem_of_getElem? (i := 64) rfl) rfl
theorem w_1_65 : Cond.fieldLink RX9 160 "SaltLines$House" "doorOpen" "LSaltLines$Row;" ∈ wt := mt1 (List.mem_of_getElem? (i := 65) rfl) rfl
theorem w_1_66 : Cond.fieldLink RX1 35 "SaltLines$House" "now" "LSaltLines$State;" ∈ wt := mt1 (List.mem_of_getElem? (i := 66) rfl) rfl
theorem w_1_67 : Cond.fieldLink RX5 66 "SaltLines$House" "now" "LSaltLines$State;" ∈ wt := mt1 (List.mem_of_getElem? (i := 67) rfl) rfl
theorem w_1_68 : Cond.fieldLink RX8 51 "SaltLines$House" "now" "LSaltLines$State;" ∈ wt := mt1 (List.mem_of_getElem? (i := 68) rfl) rfl
theorem w_1_69 : Cond.fieldLink RX9 106 "SaltLines$House" "now" "LSaltLines$State;" ∈ wt := mt1 (List.mem_of_getElem? (i := 69) rfl) rfl
theorem w_1_70 : Cond.fieldLink RX1 39 "SaltLines$House" "rooms" "I" ∈ wt := mt1 (List.mem_of_getElem? (i := 70) rfl) rfl
theorem w_1_71 : Cond.fieldLink RX8 38 "SaltLines$House" "rooms" "I" ∈ wt := mt1 (List.mem_of_getElem? (i := 71) rfl) rfl
theorem w_1_72 : Cond.fieldLink RX5 63 "SaltLines$House" "rooms" "I" ∈ wt := mt1 (List.mem_of_getElem? (i := 72) rfl) rfl
theorem w_1_73 : Cond.fieldLink RX9 97 "SaltLines$House" "rooms" "I" ∈ wt := mt1 (List.mem_of_getElem? (i := 73) rfl) rfl
theorem w_1_74 : Cond.fieldLink RX1 43 "SaltLines$House" "rains" "I" ∈ wt := mt1 (List.mem_of_getElem? (i := 74) rfl) rfl
theorem w_1_75 : Cond.fieldLink RX9 100 "SaltLines$House" "rains" "I" ∈ wt := mt1 (List.mem_of_getElem? (i := 75) rfl) rfl
theorem w_1_76 : Cond.fieldLink RX8 15 "SaltLines$House" "doors" "I" ∈ wt := mt1 (List.mem_of_getElem? (i := 76) rfl) rfl
theorem w_1_77 : Cond.fieldLink RX1 46 "SaltLines$House" "doors" "I" ∈ wt := mt1 (List.mem_of_getElem? (i := 77) rfl) rfl
theorem w_1_78 : Cond.fieldLink RX0 27 "SaltLines$House" "doors" "I" ∈ wt := mt1 (List.mem_of_getElem? (i := 78) rfl) rfl
theorem w_1_79 : Cond.fieldLink RX9 91 "SaltLines$House" "doors" "I" ∈ wt := mt1 (List.mem_of_getElem? (i := 79) rfl) rfl
theorem w_1_80 : Cond.fieldLink RX5 82 "SaltLines$House" "doors" "I" ∈ wt := mt1 (List.mem_of_getElem? (i := 80) rfl) rfl
theorem w_1_81 : Cond.fieldLink RX1 49 "SaltLines$House" "persons" "I" ∈ wt := mt1 (List.mem_of_getElem? (i := 81) rfl) rfl
theorem w_1_82 : Cond.fieldLink RX0 22 "SaltLines$House" "persons" "I" ∈ wt := mt1 (List.mem_of_getElem? (i := 82) rfl) rfl
theorem w_1_83 : Cond.fieldLink RX5 88 "SaltLines$House" "persons" "I" ∈ wt := mt1 (List.mem_of_getElem? (i := 83) rfl) rfl
theorem w_1_84 : Cond.fieldLink RX9 103 "SaltLines$House" "persons" "I" ∈ wt := mt1 (List.mem_of_getElem? (i := 84) rfl) rfl
theorem w_1_85 : Cond.fieldLink RX8 66 "SaltLines$House" "persons" "I" ∈ wt := mt1 (List.mem_of_getElem? (i := 85) rfl) rfl
theorem w_1_86 : Cond.laysFinal RX1 "SaltLines$House" "rainfall" "LSaltLines$Row;" ∈ wt := mt1 (List.mem_of_getElem? (i := 86) rfl) rfl
theorem w_1_88 : Cond.laysFinal RX1 "SaltLines$House" "doorA" "LSaltLines$Row;" ∈ wt := mt1 (List.mem_of_getElem? (i := 88) rfl) rfl
theorem w_1_90 : Cond.laysFinal RX1 "SaltLines$House" "doorB" "LSaltLines$Row;" ∈ wt := mt1 (List.mem_of_getElem? (i := 90) rfl) rfl
theorem w_1_92 : Cond.laysFinal RX1 "SaltLines$House" "doorSides" "LSaltLines$Row;" ∈ wt := mt1 (List.mem_of_getElem? (i := 92) rfl) rfl
theorem w_1_94 : Cond.laysFinal RX1 "SaltLines$House" "doorOpen" "LSaltLines$Row;" ∈ wt := mt1 (List.mem_of_getElem? (i := 94) rfl) rfl
theorem w_1_96 : Cond.laysFinal RX1 "SaltLines$House" "now" "LSaltLines$State;" ∈ wt := mt1 (List.mem_of_getElem? (i := 96) rfl) rfl
theorem w_1_98 : Cond.lays RX1 "SaltLines$House" "rooms" "I" ∈ wt := mt1 (List.mem_of_getElem? (i := 98) rfl) rfl
theorem w_1_100 : Cond.lays RX1 "SaltLines$House" "rains" "I" ∈ wt := mt1 (List.mem_of_getElem? (i := 100) rfl) rfl
theorem w_1_102 : Cond.lays RX1 "SaltLines$House" "doors" "I" ∈ wt := mt1 (List.mem_of_getElem? (i := 102) rfl) rfl
theorem w_1_104 : Cond.lays RX1 "SaltLines$House" "persons" "I" ∈ wt := mt1 (List.mem_of_getElem? (i := 104) rfl) rfl
theorem w_1_107 : Cond.classLink RX9 16 RX8 ∈ wt := mt1 (List.mem_of_getElem? (i := 107) rfl) rfl
theorem w_1_108 : Cond.instantiable RX8 1 ∈ wt := mt1 (List.mem_of_getElem? (i := 108) rfl) rfl
theorem w_1_109 : Cond.methodLink RX9 18 yX8_init ∈ wt := mt1 (List.mem_of_getElem? (i := 109) rfl) rfl
theorem w_1_110 : Cond.instanceMethod yX8_init ∈ wt := mt1 (List.mem_of_getElem? (i := 110) rfl) rfl
theorem w_1_111 : Cond.code yX8_init cX8_init 2 none ∈ wt := mt1 (List.mem_of_getElem? (i := 111) rfl) rfl
theorem w_1_112 : Cond.methodLink RX8 3 objectInit ∈ wt := mt1 (List.mem_of_getElem? (i := 112) rfl) rfl
theorem w_1_113 : Cond.fieldLink RX8 9 "SaltLines$Tried" "home" "LSaltLines$House;" ∈ wt := mt1 (List.mem_of_getElem? (i := 113) rfl) rfl
theorem w_1_114 : Cond.laysFinal RX8 "SaltLines$Tried" "home" "LSaltLines$House;" ∈ wt := mt1 (List.mem_of_getElem? (i := 114) rfl) rfl
theorem w_1_117 : Cond.classLink RX9 25 RX5 ∈ wt := mt1 (List.mem_of_getElem? (i := 117) rfl) rfl
theorem w_1_118 : Cond.instantiable RX5 7 ∈ wt := mt1 (List.mem_of_getElem? (i := 118) rfl) rfl
theorem w_1_120 : Cond.instanceMethod yX5_init ∈ wt := mt1 (List.mem_of_getElem? (i := 120) rfl) rfl
theorem w_1_121 : Cond.code yX5_init cX5_init 1 none ∈ wt := mt1 (List.mem_of_getElem? (i := 121) rfl) rfl
theorem w_1_122 : Cond.methodLink RX5 3 objectInit ∈ wt := mt1 (List.mem_of_getElem? (i := 122) rfl) rfl
theorem w_1_123 : Cond.classLink RX5 9 RX1 ∈ wt := mt1 (List.mem_of_getElem? (i := 123) rfl) rfl
theorem w_1_125 : Cond.classLink RX5 22 RX6 ∈ wt := mt1 (List.mem_of_getElem? (i := 125) rfl) rfl
theorem w_1_126 : Cond.methodLink RX5 24 yX6_init ∈ wt := mt1 (List.mem_of_getElem? (i := 126) rfl) rfl
theorem w_1_127 : Cond.fieldLink RX5 12 "SaltLines$Reader" "draft" "LSaltLines$House;" ∈ wt := mt1 (List.mem_of_getElem? (i := 127) rfl) rfl
theorem w_1_128 : Cond.fieldLink RX9 78 "SaltLines$Reader" "draft" "LSaltLines$House;" ∈ wt := mt1 (List.mem_of_getElem? (i := 128) rfl) rfl
theorem w_1_129 : Cond.fieldLink RX5 31 "SaltLines$Reader" "letters" "I" ∈ wt := mt1 (List.mem_of_getElem? (i := 129) rfl) rfl
theorem w_1_130 : Cond.fieldLink RX9 65 "SaltLines$Reader" "letters" "I" ∈ wt := mt1 (List.mem_of_getElem? (i := 130) rfl) rfl
theorem w_1_131 : Cond.fieldLink RX5 18 "SaltLines$Reader" "faultPlace" "I" ∈ wt := mt1 (List.mem_of_getElem? (i := 131) rfl) rfl
theorem w_1_132 : Cond.fieldLink RX9 94 "SaltLines$Reader" "faultPlace" "I" ∈ wt := mt1 (List.mem_of_getElem? (i := 132) rfl) rfl
theorem w_1_133 : Cond.fieldLink RX5 27 "SaltLines$Reader" "text" "LSaltLines$Row;" ∈ wt := mt1 (List.mem_of_getElem? (i := 133) rfl) rfl
theorem w_1_134 : Cond.fieldLink RX5 41 "SaltLines$Reader" "faultNumber" "I" ∈ wt := mt1 (List.mem_of_getElem? (i := 134) rfl) rfl
theorem w_1_135 : Cond.fieldLink RX5 44 "SaltLines$Reader" "next" "I" ∈ wt := mt1 (List.mem_of_getElem? (i := 135) rfl) rfl
theorem w_1_136 : Cond.fieldLink RX5 101 "SaltLines$Reader" "numberPlace" "I" ∈ wt := mt1 (List.mem_of_getElem? (i := 136) rfl) rfl
theorem w_1_137 : Cond.laysFinal RX5 "SaltLines$Reader" "draft" "LSaltLines$House;" ∈ wt := mt1 (List.mem_of_getElem? (i := 137) rfl) rfl
theorem w_1_139 : Cond.lays RX5 "SaltLines$Reader" "letters" "I" ∈ wt := mt1 (List.mem_of_getElem? (i := 139) rfl) rfl
theorem w_1_141 : Cond.lays RX5 "SaltLines$Reader" "faultPlace" "I" ∈ wt := mt1 (List.mem_of_getElem? (i := 141) rfl) rfl
theorem w_1_143 : Cond.laysFinal RX5 "SaltLines$Reader" "text" "LSaltLines$Row;" ∈ wt := mt1 (List.mem_of_getElem? (i := 143) rfl) rfl
theorem w_1_145 : Cond.lays RX5 "SaltLines$Reader" "faultNumber" "I" ∈ wt := mt1 (List.mem_of_getElem? (i := 145) rfl) rfl
theorem w_1_147 : Cond.lays RX5 "SaltLines$Reader" "next" "I" ∈ wt := mt1 (List.mem_of_getElem? (i := 147) rfl) rfl
theorem w_1_149 : Cond.lays RX5 "SaltLines$Reader" "numberPlace" "I" ∈ wt := mt1 (List.mem_of_getElem? (i := 149) rfl) rfl
theorem w_1_152 : Cond.classLink RX9 32 RX4 ∈ wt := mt1 (List.mem_of_getElem? (i := 152) rfl) rfl
theorem w_1_153 : Cond.instantiable RX4 3 ∈ wt := mt1 (List.mem_of_getElem? (i := 153) rfl) rfl
theorem w_1_155 : Cond.instanceMethod yX4_init ∈ wt := mt1 (List.mem_of_getElem? (i := 155) rfl) rfl
theorem w_1_156 : Cond.code yX4_init cX4_init 1 none ∈ wt := mt1 (List.mem_of_getElem? (i := 156) rfl) rfl
theorem w_1_157 : Cond.methodLink RX4 3 objectInit ∈ wt := mt1 (List.mem_of_getElem? (i := 157) rfl) rfl
theorem w_1_158 : Cond.classLink RX4 9 RX6 ∈ wt := mt1 (List.mem_of_getElem? (i := 158) rfl) rfl
theorem w_1_159 : Cond.methodLink RX4 13 yX6_init ∈ wt := mt1 (List.mem_of_getElem? (i := 159) rfl) rfl
theorem w_1_160 : Cond.fieldLink RX4 16 "SaltLines$Past" "shelf" "LSaltLines$Row;" ∈ wt := mt1 (List.mem_of_getElem? (i := 160) rfl) rfl
theorem w_1_161 : Cond.fieldLink RX4 22 "SaltLines$Past" "next" "I" ∈ wt := mt1 (List.mem_of_getElem? (i := 161) rfl) rfl
theorem w_1_162 : Cond.fieldLink RX4 26 "SaltLines$Past" "count" "I" ∈ wt := mt1 (List.mem_of_getElem? (i := 162) rfl) rfl
theorem w_1_163 : Cond.fieldLink RX9 136 "SaltLines$Past" "count" "I" ∈ wt := mt1 (List.mem_of_getElem? (i := 163) rfl) rfl
theorem w_1_164 : Cond.laysFinal RX4 "SaltLines$Past" "shelf" "LSaltLines$Row;" ∈ wt := mt1 (List.mem_of_getElem? (i := 164) rfl) rfl
theorem w_1_166 : Cond.lays RX4 "SaltLines$Past" "next" "I" ∈ wt := mt1 (List.mem_of_getElem? (i := 166) rfl) rfl
theorem w_1_168 : Cond.lays RX4 "SaltLines$Past" "count" "I" ∈ wt := mt1 (List.mem_of_getElem? (i := 168) rfl) rfl
theorem w_1_171 : Cond.classLink RX9 39 RX3 ∈ wt := mt1 (List.mem_of_getElem? (i := 171) rfl) rfl
theorem w_1_172 : Cond.instantiable RX3 6 ∈ wt := mt1 (List.mem_of_getElem? (i := 172) rfl) rfl
theorem w_1_174 : Cond.instanceMethod yX3_init ∈ wt := mt1 (List.mem_of_getElem? (i := 174) rfl) rfl
theorem w_1_175 : Cond.code yX3_init cX3_init 1 none ∈ wt := mt1 (List.mem_of_getElem? (i := 175) rfl) rfl
theorem w_1_176 : Cond.methodLink RX3 3 objectInit ∈ wt := mt1 (List.mem_of_getElem? (i := 176) rfl) rfl
theorem w_1_177 : Cond.classLink RX3 9 RX6 ∈ wt := mt1 (List.mem_of_getElem? (i := 177) rfl) rfl
theorem w_1_178 : Cond.methodLink RX3 11 yX6_init ∈ wt := mt1 (List.mem_of_getElem? (i := 178) rfl) rfl
theorem w_1_179 : Cond.fieldLink RX3 14 "SaltLines$Notes" "seenSpoons" "LSaltLines$Row;" ∈ wt := mt1 (List.mem_of_getElem? (i := 179) rfl) rfl
theorem w_1_180 : Cond.fieldLink RX3 20 "SaltLines$Notes" "seenStopped" "LSaltLines$Row;" ∈ wt := mt1 (List.mem_of_getElem? (i := 180) rfl) rfl
theorem w_1_181 : Cond.fieldLink RX3 23 "SaltLines$Notes" "bookDoors" "LSaltLines$Row;" ∈ wt := mt1 (List.mem_of_getElem? (i := 181) rfl) rfl
theorem w_1_182 : Cond.fieldLink RX3 26 "SaltLines$Notes" "bookSpoons" "LSaltLines$Row;" ∈ wt := mt1 (List.mem_of_getElem? (i := 182) rfl) rfl
theorem w_1_183 : Cond.fieldLink RX3 29 "SaltLines$Notes" "seen" "I" ∈ wt := mt1 (List.mem_of_getElem? (i := 183) rfl) rfl
theorem w_1_184 : Cond.fieldLink RX9 130 "SaltLines$Notes" "seen" "I" ∈ wt := mt1 (List.mem_of_getElem? (i := 184) rfl) rfl
theorem w_1_185 : Cond.fieldLink RX3 33 "SaltLines$Notes" "entries" "I" ∈ wt := mt1 (List.mem_of_getElem? (i := 185) rfl) rfl
theorem w_1_186 : Cond.fieldLink RX9 133 "SaltLines$Notes" "entries" "I" ∈ wt := mt1 (List.mem_of_getElem? (i := 186) rfl) rfl
theorem w_1_187 : Cond.laysFinal RX3 "SaltLines$Notes" "seenSpoons" "LSaltLines$Row;" ∈ wt := mt1 (List.mem_of_getElem? (i := 187) rfl) rfl
theorem w_1_189 : Cond.laysFinal RX3 "SaltLines$Notes" "seenStopped" "LSaltLines$Row;" ∈ wt := mt1 (List.mem_of_getElem? (i := 189) rfl) rfl
theorem w_1_191 : Cond.laysFinal RX3 "SaltLines$Notes" "bookDoors" "LSaltLines$Row;" ∈ wt := mt1 (List.mem_of_getElem? (i := 191) rfl) rfl
theorem w_1_193 : Cond.laysFinal RX3 "SaltLines$Notes" "bookSpoons" "LSaltLines$Row;" ∈ wt := mt1 (List.mem_of_getElem? (i := 193) rfl) rfl
theorem w_1_195 : Cond.lays RX3 "SaltLines$Notes" "seen" "I" ∈ wt := mt1 (List.mem_of_getElem? (i := 195) rfl) rfl
theorem w_1_197 : Cond.lays RX3 "SaltLines$Notes" "entries" "I" ∈ wt := mt1 (List.mem_of_getElem? (i := 197) rfl) rfl
theorem w_1_200 : Cond.classLink RX9 46 RX0 ∈ wt := mt1 (List.mem_of_getElem? (i := 200) rfl) rfl
theorem w_1_201 : Cond.instantiable RX0 1 ∈ wt := mt1 (List.mem_of_getElem? (i := 201) rfl) rfl
theorem w_1_203 : Cond.instanceMethod yX0_init ∈ wt := mt1 (List.mem_of_getElem? (i := 203) rfl) rfl
theorem w_1_204 : Cond.code yX0_init cX0_init 1 none ∈ wt := mt1 (List.mem_of_getElem? (i := 204) rfl) rfl
theorem w_1_205 : Cond.methodLink RX0 3 objectInit ∈ wt := mt1 (List.mem_of_getElem? (i := 205) rfl) rfl
theorem w_1_206 : Cond.fieldLink RX0 9 "SaltLines$Draws" "seedNow" "I" ∈ wt := mt1 (List.mem_of_getElem? (i := 206) rfl) rfl
theorem w_1_207 : Cond.fieldLink RX9 312 "SaltLines$Draws" "seedNow" "I" ∈ wt := mt1 (List.mem_of_getElem? (i := 207) rfl) rfl
theorem w_1_208 : Cond.lays RX0 "SaltLines$Draws" "seedNow" "I" ∈ wt := mt1 (List.mem_of_getElem? (i := 208) rfl) rfl
theorem w_1_211 : Cond.classLink RX9 53 RX2 ∈ wt := mt1 (List.mem_of_getElem? (i := 211) rfl) rfl
theorem w_1_212 : Cond.instantiable RX2 3 ∈ wt := mt1 (List.mem_of_getElem? (i := 212) rfl) rfl
theorem w_1_214 : Cond.instanceMethod yX2_init ∈ wt := mt1 (List.mem_of_getElem? (i := 214) rfl) rfl
theorem w_1_215 : Cond.code yX2_init cX2_init 1 none ∈ wt := mt1 (List.mem_of_getElem? (i := 215) rfl) rfl
theorem w_1_216 : Cond.methodLink RX2 3 objectInit ∈ wt := mt1 (List.mem_of_getElem? (i := 216) rfl) rfl
theorem w_1_217 : Cond.classLink RX2 9 RX6 ∈ wt := mt1 (List.mem_of_getElem? (i := 217) rfl) rfl
theorem w_1_218 : Cond.methodLink RX2 13 yX6_init ∈ wt := mt1 (List.mem_of_getElem? (i := 218) rfl) rfl
theorem w_1_219 : Cond.fieldLink RX2 16 "SaltLines$Images" "shelf" "LSaltLines$Row;" ∈ wt := mt1 (List.mem_of_getElem? (i := 219) rfl) rfl
theorem w_1_220 : Cond.fieldLink RX2 22 "SaltLines$Images" "seeds" "LSaltLines$Row;" ∈ wt := mt1 (List.mem_of_getElem? (i := 220) rfl) rfl
theorem w_1_221 : Cond.fieldLink RX2 25 "SaltLines$Images" "kept" "LSaltLines$Row;" ∈ wt := mt1 (List.mem_of_getElem? (i := 221) rfl) rfl
theorem w_1_222 : Cond.laysFinal RX2 "SaltLines$Images" "shelf" "LSaltLines$Row;" ∈ wt := mt1 (List.mem_of_getElem? (i := 222) rfl) rfl
theorem w_1_224 : Cond.laysFinal RX2 "SaltLines$Images" "seeds" "LSaltLines$Row;" ∈ wt := mt1 (List.mem_of_getElem? (i := 224) rfl) rfl
theorem w_1_226 : Cond.laysFinal RX2 "SaltLines$Images" "kept" "LSaltLines$Row;" ∈ wt := mt1 (List.mem_of_getElem? (i := 226) rfl) rfl
theorem w_1_229 : Cond.fieldLink RX9 12 "SaltLines" "home" "LSaltLines$House;" ∈ wt := mt1 (List.mem_of_getElem? (i := 229) rfl) rfl
theorem w_1_230 : Cond.fieldLink RX9 21 "SaltLines" "tried" "LSaltLines$Tried;" ∈ wt := mt1 (List.mem_of_getElem? (i := 230) rfl) rfl
theorem w_1_231 : Cond.fieldLink RX9 28 "SaltLines" "reader" "LSaltLines$Reader;" ∈ wt := mt1 (List.mem_of_getElem? (i := 231) rfl) rfl
theorem w_1_232 : Cond.fieldLink RX9 35 "SaltLines" "past" "LSaltLines$Past;" ∈ wt := mt1 (List.mem_of_getElem? (i := 232) rfl) rfl
theorem w_1_233 : Cond.fieldLink RX9 42 "SaltLines" "notes" "LSaltLines$Notes;" ∈ wt := mt1 (List.mem_of_getElem? (i := 233) rfl) rfl
theorem w_1_234 : Cond.fieldLink RX9 49 "SaltLines" "draws" "LSaltLines$Draws;" ∈ wt := mt1 (List.mem_of_getElem? (i := 234) rfl) rfl
theorem w_1_235 : Cond.fieldLink RX9 56 "SaltLines" "images" "LSaltLines$Images;" ∈ wt := mt1 (List.mem_of_getElem? (i := 235) rfl) rfl
theorem w_1_236 : Cond.laysFinal RX9 "SaltLines" "home" "LSaltLines$House;" ∈ wt := mt1 (List.mem_of_getElem? (i := 236) rfl) rfl
theorem w_1_238 : Cond.laysFinal RX9 "SaltLines" "tried" "LSaltLines$Tried;" ∈ wt := mt1 (List.mem_of_getElem? (i := 238) rfl) rfl
theorem w_2_0 : Cond.laysFinal RX9 "SaltLines" "reader" "LSaltLines$Reader;" ∈ wt := mt2 (List.mem_of_getElem? (i := 0) rfl) rfl
theorem w_2_2 : Cond.laysFinal RX9 "SaltLines" "past" "LSaltLines$Past;" ∈ wt := mt2 (List.mem_of_getElem? (i := 2) rfl) rfl
theorem w_2_4 : Cond.laysFinal RX9 "SaltLines" "notes" "LSaltLines$Notes;" ∈ wt := mt2 (List.mem_of_getElem? (i := 4) rfl) rfl
theorem w_2_6 : Cond.laysFinal RX9 "SaltLines" "draws" "LSaltLines$Draws;" ∈ wt := mt2 (List.mem_of_getElem? (i := 6) rfl) rfl
theorem w_2_8 : Cond.laysFinal RX9 "SaltLines" "images" "LSaltLines$Images;" ∈ wt := mt2 (List.mem_of_getElem? (i := 8) rfl) rfl
theorem w_2_11 : Cond.methodLink RL 13 yX9_feed ∈ wt := mt2 (List.mem_of_getElem? (i := 11) rfl) rfl
theorem w_2_12 : Cond.instanceMethod yX9_feed ∈ wt := mt2 (List.mem_of_getElem? (i := 12) rfl) rfl
theorem w_2_13 : Cond.selects RX9 yX9_feed yX9_feed ∈ wt := mt2 (List.mem_of_getElem? (i := 13) rfl) rfl
theorem w_2_14 : Cond.code yX9_feed cX9_feed 2 (some .int) ∈ wt := mt2 (List.mem_of_getElem? (i := 14) rfl) rfl
theorem w_2_15 : Cond.methodLink RX9 60 yX9_within ∈ wt := mt2 (List.mem_of_getElem? (i := 15) rfl) rfl
theorem w_2_16 : Cond.static yX9_within ∈ wt := mt2 (List.mem_of_getElem? (i := 16) rfl) rfl
theorem w_2_17 : Cond.code yX9_within cX9_within 3 (some .boolean) ∈ wt := mt2 (List.mem_of_getElem? (i := 17) rfl) rfl
theorem w_2_18 : Cond.constant RX9 64 (-1000000002) ∈ wt := mt2 (List.mem_of_getElem? (i := 18) rfl) rfl
theorem w_2_19 : Cond.constant RX9 69 (-1000000004) ∈ wt := mt2 (List.mem_of_getElem? (i := 19) rfl) rfl
theorem w_2_20 : Cond.methodLink RX9 70 yX5_append ∈ wt := mt2 (List.mem_of_getElem? (i := 20) rfl) rfl
theorem w_2_21 : Cond.instanceMethod yX5_append ∈ wt := mt2 (List.mem_of_getElem? (i := 21) rfl) rfl
theorem w_2_22 : Cond.selects RX5 yX5_append yX5_append ∈ wt := mt2 (List.mem_of_getElem? (i := 22) rfl) rfl
theorem w_2_23 : Cond.code yX5_append cX5_append 2 none ∈ wt := mt2 (List.mem_of_getElem? (i := 23) rfl) rfl
theorem w_2_24 : Cond.methodLink RX5 34 yX6_set ∈ wt := mt2 (List.mem_of_getElem? (i := 24) rfl) rfl
theorem w_2_25 : Cond.instanceMethod yX6_set ∈ wt := mt2 (List.mem_of_getElem? (i := 25) rfl) rfl
theorem w_2_26 : Cond.selects RX6 yX6_set yX6_set ∈ wt := mt2 (List.mem_of_getElem? (i := 26) rfl) rfl
theorem w_2_27 : Cond.code yX6_set cX6_set 3 none ∈ wt := mt2 (List.mem_of_getElem? (i := 27) rfl) rfl
theorem w_2_28 : Cond.methodLink RL 18 yX9_house ∈ wt := mt2 (List.mem_of_getElem? (i := 28) rfl) rfl
theorem w_2_29 : Cond.instanceMethod yX9_house ∈ wt := mt2 (List.mem_of_getElem? (i := 29) rfl) rfl
theorem w_2_30 : Cond.selects RX9 yX9_house yX9_house ∈ wt := mt2 (List.mem_of_getElem? (i := 30) rfl) rfl
theorem w_2_31 : Cond.code yX9_house cX9_house 2 (some .int) ∈ wt := mt2 (List.mem_of_getElem? (i := 31) rfl) rfl
theorem w_2_32 : Cond.methodLink RX9 74 yX5_readText ∈ wt := mt2 (List.mem_of_getElem? (i := 32) rfl) rfl
theorem w_2_33 : Cond.instanceMethod yX5_readText ∈ wt := mt2 (List.mem_of_getElem? (i := 33) rfl) rfl
theorem w_2_34 : Cond.selects RX5 yX5_readText yX5_readText ∈ wt := mt2 (List.mem_of_getElem? (i := 34) rfl) rfl
theorem w_2_35 : Cond.code yX5_readText cX5_readText 2 (some .int) ∈ wt := mt2 (List.mem_of_getElem? (i := 35) rfl) rfl
theorem w_2_36 : Cond.methodLink RX5 38 yX1_clear ∈ wt := mt2 (List.mem_of_getElem? (i := 36) rfl) rfl
theorem w_2_37 : Cond.instanceMethod yX1_clear ∈ wt := mt2 (List.mem_of_getElem? (i := 37) rfl) rfl
theorem w_2_38 : Cond.selects RX1 yX1_clear yX1_clear ∈ wt := mt2 (List.mem_of_getElem? (i := 38) rfl) rfl
theorem w_2_39 : Cond.code yX1_clear cX1_clear 1 none ∈ wt := mt2 (List.mem_of_getElem? (i := 39) rfl) rfl
theorem w_2_40 : Cond.methodLink RX1 52 yX7_clear ∈ wt := mt2 (List.mem_of_getElem? (i := 40) rfl) rfl
theorem w_2_41 : Cond.instanceMethod yX7_clear ∈ wt := mt2 (List.mem_of_getElem? (i := 41) rfl) rfl
theorem w_2_42 : Cond.selects RX7 yX7_clear yX7_clear ∈ wt := mt2 (List.mem_of_getElem? (i := 42) rfl) rfl
theorem w_2_43 : Cond.code yX7_clear cX7_clear 1 none ∈ wt := mt2 (List.mem_of_getElem? (i := 43) rfl) rfl
theorem w_2_44 : Cond.methodLink RX7 56 yX6_clear ∈ wt := mt2 (List.mem_of_getElem? (i := 44) rfl) rfl
theorem w_2_45 : Cond.instanceMethod yX6_clear ∈ wt := mt2 (List.mem_of_getElem? (i := 45) rfl) rfl
theorem w_2_46 : Cond.selects RX6 yX6_clear yX6_clear ∈ wt := mt2 (List.mem_of_getElem? (i := 46) rfl) rfl
theorem w_2_47 : Cond.code yX6_clear cX6_clear 1 none ∈ wt := mt2 (List.mem_of_getElem? (i := 47) rfl) rfl
theorem w_2_48 : Cond.methodLink RX6 19 yJ7_fill_53178 ∈ wt := mt2 (List.mem_of_getElem? (i := 48) rfl) rfl
theorem w_2_49 : Cond.static yJ7_fill_53178 ∈ wt := mt2 (List.mem_of_getElem? (i := 49) rfl) rfl
theorem w_2_50 : Cond.code yJ7_fill_53178 cJ7_fill_53178 4 none ∈ wt := mt2 (List.mem_of_getElem? (i := 50) rfl) rfl
theorem w_2_51 : Cond.methodLink RX5 47 yX5_skipBlanks ∈ wt := mt2 (List.mem_of_getElem? (i := 51) rfl) rfl
theorem w_2_53 : Cond.instanceMethod yX5_skipBlanks ∈ wt := mt2 (List.mem_of_getElem? (i := 53) rfl) rfl
theorem w_2_54 : Cond.code yX5_skipBlanks cX5_skipBlanks 1 none ∈ wt := mt2 (List.mem_of_getElem? (i := 54) rfl) rfl
theorem w_2_55 : Cond.methodLink RX5 111 yX6_get ∈ wt := mt2 (List.mem_of_getElem? (i := 55) rfl) rfl
theorem w_2_56 : Cond.instanceMethod yX6_get ∈ wt := mt2 (List.mem_of_getElem? (i := 56) rfl) rfl
theorem w_2_57 : Cond.selects RX6 yX6_get yX6_get ∈ wt := mt2 (List.mem_of_getElem? (i := 57) rfl) rfl
theorem w_2_58 : Cond.code yX6_get cX6_get 2 (some .int) ∈ wt := mt2 (List.mem_of_getElem? (i := 58) rfl) rfl
theorem w_2_59 : Cond.methodLink RX5 50 yX5_readRooms ∈ wt := mt2 (List.mem_of_getElem? (i := 59) rfl) rfl
theorem w_2_61 : Cond.instanceMethod yX5_readRooms ∈ wt := mt2 (List.mem_of_getElem? (i := 61) rfl) rfl
theorem w_2_62 : Cond.code yX5_readRooms cX5_readRooms 2 none ∈ wt := mt2 (List.mem_of_getElem? (i := 62) rfl) rfl
theorem w_2_63 : Cond.methodLink RX5 56 yX5_readWord ∈ wt := mt2 (List.mem_of_getElem? (i := 63) rfl) rfl
theorem w_2_65 : Cond.instanceMethod yX5_readWord ∈ wt := mt2 (List.mem_of_getElem? (i := 65) rfl) rfl
theorem w_2_66 : Cond.code yX5_readWord cX5_readWord 2 none ∈ wt := mt2 (List.mem_of_getElem? (i := 66) rfl) rfl
theorem w_2_67 : Cond.methodLink RX5 75 yX5_letterAtNext ∈ wt := mt2 (List.mem_of_getElem? (i := 67) rfl) rfl
theorem w_2_69 : Cond.instanceMethod yX5_letterAtNext ∈ wt := mt2 (List.mem_of_getElem? (i := 69) rfl) rfl
theorem w_2_70 : Cond.code yX5_letterAtNext cX5_letterAtNext 1 (some .int) ∈ wt := mt2 (List.mem_of_getElem? (i := 70) rfl) rfl
theorem w_2_71 : Cond.methodLink RX5 94 yX5_mark ∈ wt := mt2 (List.mem_of_getElem? (i := 71) rfl) rfl
theorem w_2_73 : Cond.instanceMethod yX5_mark ∈ wt := mt2 (List.mem_of_getElem? (i := 73) rfl) rfl
theorem w_2_74 : Cond.code yX5_mark cX5_mark 3 none ∈ wt := mt2 (List.mem_of_getElem? (i := 74) rfl) rfl
theorem w_2_75 : Cond.methodLink RX5 59 yX5_readNumber ∈ wt := mt2 (List.mem_of_getElem? (i := 75) rfl) rfl
theorem w_2_77 : Cond.instanceMethod yX5_readNumber ∈ wt := mt2 (List.mem_of_getElem? (i := 77) rfl) rfl
theorem w_2_78 : Cond.code yX5_readNumber cX5_readNumber 5 (some .int) ∈ wt := mt2 (List.mem_of_getElem? (i := 78) rfl) rfl
theorem w_2_79 : Cond.methodLink RX5 115 yX5_isFigure ∈ wt := mt2 (List.mem_of_getElem? (i := 79) rfl) rfl
theorem w_2_80 : Cond.static yX5_isFigure ∈ wt := mt2 (List.mem_of_getElem? (i := 80) rfl) rfl
theorem w_2_81 : Cond.code yX5_isFigure cX5_isFigure 1 (some .boolean) ∈ wt := mt2 (List.mem_of_getElem? (i := 81) rfl) rfl
theorem w_2_83 : Cond.methodLink RX5 70 yX7_setStore ∈ wt := mt2 (List.mem_of_getElem? (i := 83) rfl) rfl
theorem w_2_84 : Cond.instanceMethod yX7_setStore ∈ wt := mt2 (List.mem_of_getElem? (i := 84) rfl) rfl
theorem w_2_85 : Cond.selects RX7 yX7_setStore yX7_setStore ∈ wt := mt2 (List.mem_of_getElem? (i := 85) rfl) rfl
theorem w_2_86 : Cond.code yX7_setStore cX7_setStore 2 none ∈ wt := mt2 (List.mem_of_getElem? (i := 86) rfl) rfl
theorem w_2_87 : Cond.methodLink RX7 24 yX6_set ∈ wt := mt2 (List.mem_of_getElem? (i := 87) rfl) rfl
theorem w_2_88 : Cond.methodLink RX5 79 yX1_addRain ∈ wt := mt2 (List.mem_of_getElem? (i := 88) rfl) rfl
theorem w_2_89 : Cond.instanceMethod yX1_addRain ∈ wt := mt2 (List.mem_of_getElem? (i := 89) rfl) rfl
theorem w_2_90 : Cond.selects RX1 yX1_addRain yX1_addRain ∈ wt := mt2 (List.mem_of_getElem? (i := 90) rfl) rfl
theorem w_2_91 : Cond.code yX1_addRain cX1_addRain 2 none ∈ wt := mt2 (List.mem_of_getElem? (i := 91) rfl) rfl
theorem w_2_92 : Cond.methodLink RX1 62 yX6_set ∈ wt := mt2 (List.mem_of_getElem? (i := 92) rfl) rfl
theorem w_2_93 : Cond.methodLink RX5 53 yX5_readClause ∈ wt := mt2 (List.mem_of_getElem? (i := 93) rfl) rfl
theorem w_2_95 : Cond.instanceMethod yX5_readClause ∈ wt := mt2 (List.mem_of_getElem? (i := 95) rfl) rfl
theorem w_2_96 : Cond.code yX5_readClause cX5_readClause 2 none ∈ wt := mt2 (List.mem_of_getElem? (i := 96) rfl) rfl
theorem w_2_97 : Cond.methodLink RX5 85 yX5_readDoor ∈ wt := mt2 (List.mem_of_getElem? (i := 97) rfl) rfl
theorem w_2_99 : Cond.instanceMethod yX5_readDoor ∈ wt := mt2 (List.mem_of_getElem? (i := 99) rfl) rfl
theorem w_2_100 : Cond.code yX5_readDoor cX5_readDoor 5 none ∈ wt := mt2 (List.mem_of_getElem? (i := 100) rfl) rfl
theorem w_2_101 : Cond.methodLink RX5 97 yX1_isJoined ∈ wt := mt2 (List.mem_of_getElem? (i := 101) rfl) rfl
theorem w_2_102 : Cond.instanceMethod yX1_isJoined ∈ wt := mt2 (List.mem_of_getElem? (i := 102) rfl) rfl
theorem w_2_103 : Cond.selects RX1 yX1_isJoined yX1_isJoined ∈ wt := mt2 (List.mem_of_getElem? (i := 103) rfl) rfl
theorem w_2_104 : Cond.code yX1_isJoined cX1_isJoined 4 (some .boolean) ∈ wt := mt2 (List.mem_of_getElem? (i := 104) rfl) rfl
theorem w_2_105 : Cond.methodLink RX1 79 yX6_get ∈ wt := mt2 (List.mem_of_getElem? (i := 105) rfl) rfl
theorem w_2_107 : Cond.static yX9_only ∈ wt := mt2 (List.mem_of_getElem? (i := 107) rfl) rfl
theorem w_2_108 : Cond.code yX9_only cX9_only 1 (some .int) ∈ wt := mt2 (List.mem_of_getElem? (i := 108) rfl) rfl
theorem w_2_109 : Cond.methodLink RX5 104 yX1_addDoor ∈ wt := mt2 (List.mem_of_getElem? (i := 109) rfl) rfl
theorem w_2_110 : Cond.instanceMethod yX1_addDoor ∈ wt := mt2 (List.mem_of_getElem? (i := 110) rfl) rfl
theorem w_2_111 : Cond.selects RX1 yX1_addDoor yX1_addDoor ∈ wt := mt2 (List.mem_of_getElem? (i := 111) rfl) rfl
theorem w_2_112 : Cond.code yX1_addDoor cX1_addDoor 5 none ∈ wt := mt2 (List.mem_of_getElem? (i := 112) rfl) rfl
theorem w_2_113 : Cond.methodLink RX1 70 yX7_setSpoons ∈ wt := mt2 (List.mem_of_getElem? (i := 113) rfl) rfl
theorem w_2_114 : Cond.instanceMethod yX7_setSpoons ∈ wt := mt2 (List.mem_of_getElem? (i := 114) rfl) rfl
theorem w_2_115 : Cond.selects RX7 yX7_setSpoons yX7_setSpoons ∈ wt := mt2 (List.mem_of_getElem? (i := 115) rfl) rfl
theorem w_2_116 : Cond.code yX7_setSpoons cX7_setSpoons 3 none ∈ wt := mt2 (List.mem_of_getElem? (i := 116) rfl) rfl
theorem w_2_117 : Cond.methodLink RX5 91 yX5_readPerson ∈ wt := mt2 (List.mem_of_getElem? (i := 117) rfl) rfl
theorem w_2_119 : Cond.instanceMethod yX5_readPerson ∈ wt := mt2 (List.mem_of_getElem? (i := 119) rfl) rfl
theorem w_2_120 : Cond.code yX5_readPerson cX5_readPerson 3 none ∈ wt := mt2 (List.mem_of_getElem? (i := 120) rfl) rfl
theorem w_2_121 : Cond.methodLink RX5 108 yX1_addPerson ∈ wt := mt2 (List.mem_of_getElem? (i := 121) rfl) rfl
theorem w_2_122 : Cond.instanceMethod yX1_addPerson ∈ wt := mt2 (List.mem_of_getElem? (i := 122) rfl) rfl
theorem w_2_123 : Cond.selects RX1 yX1_addPerson yX1_addPerson ∈ wt := mt2 (List.mem_of_getElem? (i := 123) rfl) rfl
theorem w_2_124 : Cond.code yX1_addPerson cX1_addPerson 3 none ∈ wt := mt2 (List.mem_of_getElem? (i := 124) rfl) rfl
theorem w_2_125 : Cond.methodLink RX1 73 yX7_setPlace ∈ wt := mt2 (List.mem_of_getElem? (i := 125) rfl) rfl
theorem w_2_126 : Cond.instanceMethod yX7_setPlace ∈ wt := mt2 (List.mem_of_getElem? (i := 126) rfl) rfl
theorem w_2_127 : Cond.selects RX7 yX7_setPlace yX7_setPlace ∈ wt := mt2 (List.mem_of_getElem? (i := 127) rfl) rfl
theorem w_2_128 : Cond.code yX7_setPlace cX7_setPlace 3 none ∈ wt := mt2 (List.mem_of_getElem? (i := 128) rfl) rfl
theorem w_2_129 : Cond.methodLink RX1 76 yX7_setWish ∈ wt := mt2 (List.mem_of_getElem? (i := 129) rfl) rfl
theorem w_2_130 : Cond.instanceMethod yX7_setWish ∈ wt := mt2 (List.mem_of_getElem? (i := 130) rfl) rfl
theorem w_2_131 : Cond.selects RX7 yX7_setWish yX7_setWish ∈ wt := mt2 (List.mem_of_getElem? (i := 131) rfl) rfl
theorem w_2_132 : Cond.code yX7_setWish cX7_setWish 3 none ∈ wt := mt2 (List.mem_of_getElem? (i := 132) rfl) rfl
theorem w_2_133 : Cond.methodLink RX9 81 yX1_copyFrom ∈ wt := mt2 (List.mem_of_getElem? (i := 133) rfl) rfl
theorem w_2_134 : Cond.instanceMethod yX1_copyFrom ∈ wt := mt2 (List.mem_of_getElem? (i := 134) rfl) rfl
theorem w_2_135 : Cond.selects RX1 yX1_copyFrom yX1_copyFrom ∈ wt := mt2 (List.mem_of_getElem? (i := 135) rfl) rfl
theorem w_2_136 : Cond.code yX1_copyFrom cX1_copyFrom 2 none ∈ wt := mt2 (List.mem_of_getElem? (i := 136) rfl) rfl
theorem w_2_137 : Cond.methodLink RX1 55 yX6_copyFrom ∈ wt := mt2 (List.mem_of_getElem? (i := 137) rfl) rfl
theorem w_2_138 : Cond.instanceMethod yX6_copyFrom ∈ wt := mt2 (List.mem_of_getElem? (i := 138) rfl) rfl
theorem w_2_139 : Cond.selects RX6 yX6_copyFrom yX6_copyFrom ∈ wt := mt2 (List.mem_of_getElem? (i := 139) rfl) rfl
theorem w_2_140 : Cond.code yX6_copyFrom cX6_copyFrom 2 none ∈ wt := mt2 (List.mem_of_getElem? (i := 140) rfl) rfl
theorem w_2_141 : Cond.methodLink RX6 33 yX6_copyCells ∈ wt := mt2 (List.mem_of_getElem? (i := 141) rfl) rfl
theorem w_2_142 : Cond.instanceMethod yX6_copyCells ∈ wt := mt2 (List.mem_of_getElem? (i := 142) rfl) rfl
theorem w_2_143 : Cond.selects RX6 yX6_copyCells yX6_copyCells ∈ wt := mt2 (List.mem_of_getElem? (i := 143) rfl) rfl
theorem w_2_144 : Cond.code yX6_copyCells cX6_copyCells 6 none ∈ wt := mt2 (List.mem_of_getElem? (i := 144) rfl) rfl
theorem w_2_145 : Cond.methodLink RX6 25 yX6_get ∈ wt := mt2 (List.mem_of_getElem? (i := 145) rfl) rfl
theorem w_2_146 : Cond.methodLink RX6 29 yX6_set ∈ wt := mt2 (List.mem_of_getElem? (i := 146) rfl) rfl
theorem w_2_147 : Cond.methodLink RX1 59 yX7_copyFrom ∈ wt := mt2 (List.mem_of_getElem? (i := 147) rfl) rfl
theorem w_2_148 : Cond.instanceMethod yX7_copyFrom ∈ wt := mt2 (List.mem_of_getElem? (i := 148) rfl) rfl
theorem w_2_149 : Cond.selects RX7 yX7_copyFrom yX7_copyFrom ∈ wt := mt2 (List.mem_of_getElem? (i := 149) rfl) rfl
theorem w_2_150 : Cond.code yX7_copyFrom cX7_copyFrom 2 none ∈ wt := mt2 (List.mem_of_getElem? (i := 150) rfl) rfl
theorem w_2_151 : Cond.methodLink RX7 59 yX6_copyFrom ∈ wt := mt2 (List.mem_of_getElem? (i := 151) rfl) rfl
theorem w_2_152 : Cond.methodLink RX9 84 yX4_forget ∈ wt := mt2 (List.mem_of_getElem? (i := 152) rfl) rfl
theorem w_2_153 : Cond.instanceMethod yX4_forget ∈ wt := mt2 (List.mem_of_getElem? (i := 153) rfl) rfl
theorem w_2_154 : Cond.selects RX4 yX4_forget yX4_forget ∈ wt := mt2 (List.mem_of_getElem? (i := 154) rfl) rfl
theorem w_2_155 : Cond.code yX4_forget cX4_forget 1 none ∈ wt := mt2 (List.mem_of_getElem? (i := 155) rfl) rfl
theorem w_2_156 : Cond.methodLink RX9 87 yX3_clear ∈ wt := mt2 (List.mem_of_getElem? (i := 156) rfl) rfl
theorem w_2_157 : Cond.instanceMethod yX3_clear ∈ wt := mt2 (List.mem_of_getElem? (i := 157) rfl) rfl
theorem w_2_158 : Cond.selects RX3 yX3_clear yX3_clear ∈ wt := mt2 (List.mem_of_getElem? (i := 158) rfl) rfl
theorem w_2_159 : Cond.code yX3_clear cX3_clear 1 none ∈ wt := mt2 (List.mem_of_getElem? (i := 159) rfl) rfl
theorem w_2_160 : Cond.methodLink RX9 90 yX2_forget ∈ wt := mt2 (List.mem_of_getElem? (i := 160) rfl) rfl
theorem w_2_161 : Cond.instanceMethod yX2_forget ∈ wt := mt2 (List.mem_of_getElem? (i := 161) rfl) rfl
theorem w_2_162 : Cond.selects RX2 yX2_forget yX2_forget ∈ wt := mt2 (List.mem_of_getElem? (i := 162) rfl) rfl
theorem w_2_163 : Cond.code yX2_forget cX2_forget 1 none ∈ wt := mt2 (List.mem_of_getElem? (i := 163) rfl) rfl
theorem w_2_164 : Cond.methodLink RX2 28 yX6_clear ∈ wt := mt2 (List.mem_of_getElem? (i := 164) rfl) rfl
theorem w_2_165 : Cond.methodLink RL 23 yX9_fault ∈ wt := mt2 (List.mem_of_getElem? (i := 165) rfl) rfl
theorem w_2_166 : Cond.instanceMethod yX9_fault ∈ wt := mt2 (List.mem_of_getElem? (i := 166) rfl) rfl
theorem w_2_167 : Cond.selects RX9 yX9_fault yX9_fault ∈ wt := mt2 (List.mem_of_getElem? (i := 167) rfl) rfl
theorem w_2_168 : Cond.code yX9_fault cX9_fault 1 (some .int) ∈ wt := mt2 (List.mem_of_getElem? (i := 168) rfl) rfl
theorem w_2_169 : Cond.methodLink RL 27 yX9_told ∈ wt := mt2 (List.mem_of_getElem? (i := 169) rfl) rfl
theorem w_2_170 : Cond.instanceMethod yX9_told ∈ wt := mt2 (List.mem_of_getElem? (i := 170) rfl) rfl
theorem w_2_171 : Cond.selects RX9 yX9_told yX9_told ∈ wt := mt2 (List.mem_of_getElem? (i := 171) rfl) rfl
theorem w_2_172 : Cond.code yX9_told cX9_told 2 (some .int) ∈ wt := mt2 (List.mem_of_getElem? (i := 172) rfl) rfl
theorem w_2_173 : Cond.methodLink RX9 110 yX7_hours ∈ wt := mt2 (List.mem_of_getElem? (i := 173) rfl) rfl
theorem w_2_174 : Cond.instanceMethod yX7_hours ∈ wt := mt2 (List.mem_of_getElem? (i := 174) rfl) rfl
theorem w_2_175 : Cond.selects RX7 yX7_hours yX7_hours ∈ wt := mt2 (List.mem_of_getElem? (i := 175) rfl) rfl
theorem w_2_176 : Cond.code yX7_hours cX7_hours 1 (some .int) ∈ wt := mt2 (List.mem_of_getElem? (i := 176) rfl) rfl
theorem w_2_177 : Cond.methodLink RX7 20 yX6_get ∈ wt := mt2 (List.mem_of_getElem? (i := 177) rfl) rfl
theorem w_2_178 : Cond.methodLink RX9 115 yX7_store ∈ wt := mt2 (List.mem_of_getElem? (i := 178) rfl) rfl
theorem w_2_179 : Cond.instanceMethod yX7_store ∈ wt := mt2 (List.mem_of_getElem? (i := 179) rfl) rfl
theorem w_2_180 : Cond.selects RX7 yX7_store yX7_store ∈ wt := mt2 (List.mem_of_getElem? (i := 180) rfl) rfl
theorem w_2_181 : Cond.code yX7_store cX7_store 1 (some .int) ∈ wt := mt2 (List.mem_of_getElem? (i := 181) rfl) rfl
theorem w_2_182 : Cond.methodLink RX9 118 yX7_stopped ∈ wt := mt2 (List.mem_of_getElem? (i := 182) rfl) rfl
theorem w_2_183 : Cond.instanceMethod yX7_stopped ∈ wt := mt2 (List.mem_of_getElem? (i := 183) rfl) rfl
theorem w_2_184 : Cond.selects RX7 yX7_stopped yX7_stopped ∈ wt := mt2 (List.mem_of_getElem? (i := 184) rfl) rfl
theorem w_2_185 : Cond.code yX7_stopped cX7_stopped 1 (some .int) ∈ wt := mt2 (List.mem_of_getElem? (i := 185) rfl) rfl
theorem w_2_186 : Cond.methodLink RX9 121 yX1_crossedInAll ∈ wt := mt2 (List.mem_of_getElem? (i := 186) rfl) rfl
theorem w_2_187 : Cond.instanceMethod yX1_crossedInAll ∈ wt := mt2 (List.mem_of_getElem? (i := 187) rfl) rfl
theorem w_2_188 : Cond.selects RX1 yX1_crossedInAll yX1_crossedInAll ∈ wt := mt2 (List.mem_of_getElem? (i := 188) rfl) rfl
theorem w_2_189 : Cond.code yX1_crossedInAll cX1_crossedInAll 3 (some .int) ∈ wt := mt2 (List.mem_of_getElem? (i := 189) rfl) rfl
theorem w_2_190 : Cond.methodLink RX1 105 yX7_crossings ∈ wt := mt2 (List.mem_of_getElem? (i := 190) rfl) rfl
theorem w_2_191 : Cond.instanceMethod yX7_crossings ∈ wt := mt2 (List.mem_of_getElem? (i := 191) rfl) rfl
theorem w_2_192 : Cond.selects RX7 yX7_crossings yX7_crossings ∈ wt := mt2 (List.mem_of_getElem? (i := 192) rfl) rfl
theorem w_2_193 : Cond.code yX7_crossings cX7_crossings 2 (some .int) ∈ wt := mt2 (List.mem_of_getElem? (i := 193) rfl) rfl
theorem w_2_194 : Cond.methodLink RX9 124 yX8_shutIn ∈ wt := mt2 (List.mem_of_getElem? (i := 194) rfl) rfl
theorem w_2_195 : Cond.instanceMethod yX8_shutIn ∈ wt := mt2 (List.mem_of_getElem? (i := 195) rfl) rfl
theorem w_2_196 : Cond.selects RX8 yX8_shutIn yX8_shutIn ∈ wt := mt2 (List.mem_of_getElem? (i := 196) rfl) rfl
theorem w_2_197 : Cond.code yX8_shutIn cX8_shutIn 1 (some .int) ∈ wt := mt2 (List.mem_of_getElem? (i := 197) rfl) rfl
theorem w_2_199 : Cond.methodLink RX8 72 yX8_comersTo ∈ wt := mt2 (List.mem_of_getElem? (i := 199) rfl) rfl
theorem w_2_200 : Cond.instanceMethod yX8_comersTo ∈ wt := mt2 (List.mem_of_getElem? (i := 200) rfl) rfl
theorem w_2_201 : Cond.selects RX8 yX8_comersTo yX8_comersTo ∈ wt := mt2 (List.mem_of_getElem? (i := 201) rfl) rfl
theorem w_2_202 : Cond.code yX8_comersTo cX8_comersTo 4 (some .int) ∈ wt := mt2 (List.mem_of_getElem? (i := 202) rfl) rfl
theorem w_2_203 : Cond.methodLink RX8 69 yX8_roomsOf ∈ wt := mt2 (List.mem_of_getElem? (i := 203) rfl) rfl
theorem w_2_204 : Cond.instanceMethod yX8_roomsOf ∈ wt := mt2 (List.mem_of_getElem? (i := 204) rfl) rfl
theorem w_2_205 : Cond.selects RX8 yX8_roomsOf yX8_roomsOf ∈ wt := mt2 (List.mem_of_getElem? (i := 205) rfl) rfl
theorem w_2_206 : Cond.code yX8_roomsOf cX8_roomsOf 2 (some .int) ∈ wt := mt2 (List.mem_of_getElem? (i := 206) rfl) rfl
theorem w_2_207 : Cond.methodLink RX8 55 yX7_place ∈ wt := mt2 (List.mem_of_getElem? (i := 207) rfl) rfl
theorem w_2_208 : Cond.instanceMethod yX7_place ∈ wt := mt2 (List.mem_of_getElem? (i := 208) rfl) rfl
theorem w_2_209 : Cond.selects RX7 yX7_place yX7_place ∈ wt := mt2 (List.mem_of_getElem? (i := 209) rfl) rfl
theorem w_2_210 : Cond.code yX7_place cX7_place 2 (some .int) ∈ wt := mt2 (List.mem_of_getElem? (i := 210) rfl) rfl
theorem w_2_211 : Cond.methodLink RX8 60 yX7_ill ∈ wt := mt2 (List.mem_of_getElem? (i := 211) rfl) rfl
theorem w_2_212 : Cond.instanceMethod yX7_ill ∈ wt := mt2 (List.mem_of_getElem? (i := 212) rfl) rfl
theorem w_2_213 : Cond.selects RX7 yX7_ill yX7_ill ∈ wt := mt2 (List.mem_of_getElem? (i := 213) rfl) rfl
theorem w_2_214 : Cond.code yX7_ill cX7_ill 2 (some .int) ∈ wt := mt2 (List.mem_of_getElem? (i := 214) rfl) rfl
theorem w_2_215 : Cond.methodLink RX7 43 yX7_wishOf ∈ wt := mt2 (List.mem_of_getElem? (i := 215) rfl) rfl
theorem w_2_216 : Cond.instanceMethod yX7_wishOf ∈ wt := mt2 (List.mem_of_getElem? (i := 216) rfl) rfl
theorem w_2_217 : Cond.selects RX7 yX7_wishOf yX7_wishOf ∈ wt := mt2 (List.mem_of_getElem? (i := 217) rfl) rfl
theorem w_2_218 : Cond.code yX7_wishOf cX7_wishOf 2 (some .int) ∈ wt := mt2 (List.mem_of_getElem? (i := 218) rfl) rfl
theorem w_2_220 : Cond.static yX9_illOfWish ∈ wt := mt2 (List.mem_of_getElem? (i := 220) rfl) rfl
theorem w_2_221 : Cond.code yX9_illOfWish cX9_illOfWish 1 (some .int) ∈ wt := mt2 (List.mem_of_getElem? (i := 221) rfl) rfl
theorem w_2_222 : Cond.methodLink RX8 63 yX8_partOf ∈ wt := mt2 (List.mem_of_getElem? (i := 222) rfl) rfl
theorem w_2_223 : Cond.instanceMethod yX8_partOf ∈ wt := mt2 (List.mem_of_getElem? (i := 223) rfl) rfl
theorem w_2_224 : Cond.selects RX8 yX8_partOf yX8_partOf ∈ wt := mt2 (List.mem_of_getElem? (i := 224) rfl) rfl
theorem w_2_225 : Cond.code yX8_partOf cX8_partOf 3 (some .int) ∈ wt := mt2 (List.mem_of_getElem? (i := 225) rfl) rfl
theorem w_2_226 : Cond.methodLink RX8 45 yX1_passable ∈ wt := mt2 (List.mem_of_getElem? (i := 226) rfl) rfl
theorem w_2_227 : Cond.instanceMethod yX1_passable ∈ wt := mt2 (List.mem_of_getElem? (i := 227) rfl) rfl
theorem w_2_228 : Cond.selects RX1 yX1_passable yX1_passable ∈ wt := mt2 (List.mem_of_getElem? (i := 228) rfl) rfl
theorem w_2_229 : Cond.code yX1_passable cX1_passable 4 (some .int) ∈ wt := mt2 (List.mem_of_getElem? (i := 229) rfl) rfl
theorem w_2_230 : Cond.methodLink RX1 93 yX7_spoons ∈ wt := mt2 (List.mem_of_getElem? (i := 230) rfl) rfl
theorem w_2_231 : Cond.instanceMethod yX7_spoons ∈ wt := mt2 (List.mem_of_getElem? (i := 231) rfl) rfl
theorem w_2_232 : Cond.selects RX7 yX7_spoons yX7_spoons ∈ wt := mt2 (List.mem_of_getElem? (i := 232) rfl) rfl
theorem w_2_233 : Cond.code yX7_spoons cX7_spoons 2 (some .int) ∈ wt := mt2 (List.mem_of_getElem? (i := 233) rfl) rfl
theorem w_2_235 : Cond.static yX9_holdsBack ∈ wt := mt2 (List.mem_of_getElem? (i := 235) rfl) rfl
theorem w_2_236 : Cond.code yX9_holdsBack cX9_holdsBack 2 (some .boolean) ∈ wt := mt2 (List.mem_of_getElem? (i := 236) rfl) rfl
theorem w_2_237 : Cond.methodLink RX8 48 yX8_reach ∈ wt := mt2 (List.mem_of_getElem? (i := 237) rfl) rfl
theorem w_2_239 : Cond.instanceMethod yX8_reach ∈ wt := mt2 (List.mem_of_getElem? (i := 239) rfl) rfl
theorem w_3_0 : Cond.code yX8_reach cX8_reach 5 (some .int) ∈ wt := mt3 (List.mem_of_getElem? (i := 0) rfl) rfl
theorem w_3_1 : Cond.methodLink RX8 41 yX8_spread ∈ wt := mt3 (List.mem_of_getElem? (i := 1) rfl) rfl
theorem w_3_3 : Cond.instanceMethod yX8_spread ∈ wt := mt3 (List.mem_of_getElem? (i := 3) rfl) rfl
theorem w_3_4 : Cond.code yX8_spread cX8_spread 6 (some .int) ∈ wt := mt3 (List.mem_of_getElem? (i := 4) rfl) rfl
theorem w_3_5 : Cond.methodLink RX8 25 yX6_get ∈ wt := mt3 (List.mem_of_getElem? (i := 5) rfl) rfl
theorem w_3_7 : Cond.static yX9_inSet ∈ wt := mt3 (List.mem_of_getElem? (i := 7) rfl) rfl
theorem w_3_8 : Cond.code yX9_inSet cX9_inSet 2 (some .boolean) ∈ wt := mt3 (List.mem_of_getElem? (i := 8) rfl) rfl
theorem w_3_9 : Cond.methodLink RX9 127 yX1_spoonsInAll ∈ wt := mt3 (List.mem_of_getElem? (i := 9) rfl) rfl
theorem w_3_10 : Cond.instanceMethod yX1_spoonsInAll ∈ wt := mt3 (List.mem_of_getElem? (i := 10) rfl) rfl
theorem w_3_11 : Cond.selects RX1 yX1_spoonsInAll yX1_spoonsInAll ∈ wt := mt3 (List.mem_of_getElem? (i := 11) rfl) rfl
theorem w_3_12 : Cond.code yX1_spoonsInAll cX1_spoonsInAll 3 (some .int) ∈ wt := mt3 (List.mem_of_getElem? (i := 12) rfl) rfl
theorem w_3_13 : Cond.methodLink RL 31 yX9_door ∈ wt := mt3 (List.mem_of_getElem? (i := 13) rfl) rfl
theorem w_3_14 : Cond.instanceMethod yX9_door ∈ wt := mt3 (List.mem_of_getElem? (i := 14) rfl) rfl
theorem w_3_15 : Cond.selects RX9 yX9_door yX9_door ∈ wt := mt3 (List.mem_of_getElem? (i := 15) rfl) rfl
theorem w_3_16 : Cond.code yX9_door cX9_door 3 (some .int) ∈ wt := mt3 (List.mem_of_getElem? (i := 16) rfl) rfl
theorem w_3_17 : Cond.methodLink RX9 139 yX1_hasDoor ∈ wt := mt3 (List.mem_of_getElem? (i := 17) rfl) rfl
theorem w_3_18 : Cond.instanceMethod yX1_hasDoor ∈ wt := mt3 (List.mem_of_getElem? (i := 18) rfl) rfl
theorem w_3_19 : Cond.selects RX1 yX1_hasDoor yX1_hasDoor ∈ wt := mt3 (List.mem_of_getElem? (i := 19) rfl) rfl
theorem w_3_20 : Cond.code yX1_hasDoor cX1_hasDoor 2 (some .boolean) ∈ wt := mt3 (List.mem_of_getElem? (i := 20) rfl) rfl
theorem w_3_21 : Cond.constant RX9 143 (-1000000001) ∈ wt := mt3 (List.mem_of_getElem? (i := 21) rfl) rfl
theorem w_3_22 : Cond.methodLink RX9 148 yX6_get ∈ wt := mt3 (List.mem_of_getElem? (i := 22) rfl) rfl
theorem w_3_23 : Cond.methodLink RX9 157 yX7_spoons ∈ wt := mt3 (List.mem_of_getElem? (i := 23) rfl) rfl
theorem w_3_24 : Cond.methodLink RX9 163 yX7_crossings ∈ wt := mt3 (List.mem_of_getElem? (i := 24) rfl) rfl
theorem w_3_25 : Cond.methodLink RX9 166 yX1_stoppedAt ∈ wt := mt3 (List.mem_of_getElem? (i := 25) rfl) rfl
theorem w_3_26 : Cond.instanceMethod yX1_stoppedAt ∈ wt := mt3 (List.mem_of_getElem? (i := 26) rfl) rfl
theorem w_3_27 : Cond.selects RX1 yX1_stoppedAt yX1_stoppedAt ∈ wt := mt3 (List.mem_of_getElem? (i := 27) rfl) rfl
theorem w_3_28 : Cond.code yX1_stoppedAt cX1_stoppedAt 4 (some .int) ∈ wt := mt3 (List.mem_of_getElem? (i := 28) rfl) rfl
theorem w_3_29 : Cond.methodLink RX1 99 yX7_ill ∈ wt := mt3 (List.mem_of_getElem? (i := 29) rfl) rfl
theorem w_3_30 : Cond.methodLink RX1 102 yX1_lineStops ∈ wt := mt3 (List.mem_of_getElem? (i := 30) rfl) rfl
theorem w_3_31 : Cond.instanceMethod yX1_lineStops ∈ wt := mt3 (List.mem_of_getElem? (i := 31) rfl) rfl
theorem w_3_32 : Cond.selects RX1 yX1_lineStops yX1_lineStops ∈ wt := mt3 (List.mem_of_getElem? (i := 32) rfl) rfl
theorem w_3_33 : Cond.code yX1_lineStops cX1_lineStops 3 (some .boolean) ∈ wt := mt3 (List.mem_of_getElem? (i := 33) rfl) rfl
theorem w_3_34 : Cond.methodLink RL 36 yX9_person ∈ wt := mt3 (List.mem_of_getElem? (i := 34) rfl) rfl
theorem w_3_35 : Cond.instanceMethod yX9_person ∈ wt := mt3 (List.mem_of_getElem? (i := 35) rfl) rfl
theorem w_3_36 : Cond.selects RX9 yX9_person yX9_person ∈ wt := mt3 (List.mem_of_getElem? (i := 36) rfl) rfl
theorem w_3_37 : Cond.code yX9_person cX9_person 3 (some .int) ∈ wt := mt3 (List.mem_of_getElem? (i := 37) rfl) rfl
theorem w_3_38 : Cond.methodLink RX9 169 yX1_hasPerson ∈ wt := mt3 (List.mem_of_getElem? (i := 38) rfl) rfl
theorem w_3_39 : Cond.instanceMethod yX1_hasPerson ∈ wt := mt3 (List.mem_of_getElem? (i := 39) rfl) rfl
theorem w_3_40 : Cond.selects RX1 yX1_hasPerson yX1_hasPerson ∈ wt := mt3 (List.mem_of_getElem? (i := 40) rfl) rfl
theorem w_3_41 : Cond.code yX1_hasPerson cX1_hasPerson 2 (some .boolean) ∈ wt := mt3 (List.mem_of_getElem? (i := 41) rfl) rfl
theorem w_3_42 : Cond.methodLink RX9 172 yX7_place ∈ wt := mt3 (List.mem_of_getElem? (i := 42) rfl) rfl
theorem w_3_43 : Cond.methodLink RX9 175 yX7_wishOf ∈ wt := mt3 (List.mem_of_getElem? (i := 43) rfl) rfl
theorem w_3_44 : Cond.methodLink RX9 178 yX7_ill ∈ wt := mt3 (List.mem_of_getElem? (i := 44) rfl) rfl
theorem w_3_45 : Cond.methodLink RX9 181 yX8_roomsOf ∈ wt := mt3 (List.mem_of_getElem? (i := 45) rfl) rfl
theorem w_3_46 : Cond.methodLink RL 40 yX9_room ∈ wt := mt3 (List.mem_of_getElem? (i := 46) rfl) rfl
theorem w_3_47 : Cond.instanceMethod yX9_room ∈ wt := mt3 (List.mem_of_getElem? (i := 47) rfl) rfl
theorem w_3_48 : Cond.selects RX9 yX9_room yX9_room ∈ wt := mt3 (List.mem_of_getElem? (i := 48) rfl) rfl
theorem w_3_49 : Cond.code yX9_room cX9_room 2 (some .int) ∈ wt := mt3 (List.mem_of_getElem? (i := 49) rfl) rfl
theorem w_3_50 : Cond.methodLink RX9 184 yX1_hasRoom ∈ wt := mt3 (List.mem_of_getElem? (i := 50) rfl) rfl
theorem w_3_51 : Cond.instanceMethod yX1_hasRoom ∈ wt := mt3 (List.mem_of_getElem? (i := 51) rfl) rfl
theorem w_3_52 : Cond.selects RX1 yX1_hasRoom yX1_hasRoom ∈ wt := mt3 (List.mem_of_getElem? (i := 52) rfl) rfl
theorem w_3_53 : Cond.code yX1_hasRoom cX1_hasRoom 2 (some .boolean) ∈ wt := mt3 (List.mem_of_getElem? (i := 53) rfl) rfl
theorem w_3_54 : Cond.methodLink RX9 187 yX1_personsIn ∈ wt := mt3 (List.mem_of_getElem? (i := 54) rfl) rfl
theorem w_3_55 : Cond.instanceMethod yX1_personsIn ∈ wt := mt3 (List.mem_of_getElem? (i := 55) rfl) rfl
theorem w_3_56 : Cond.selects RX1 yX1_personsIn yX1_personsIn ∈ wt := mt3 (List.mem_of_getElem? (i := 56) rfl) rfl
theorem w_3_57 : Cond.code yX1_personsIn cX1_personsIn 4 (some .int) ∈ wt := mt3 (List.mem_of_getElem? (i := 57) rfl) rfl
theorem w_3_58 : Cond.methodLink RX1 82 yX7_place ∈ wt := mt3 (List.mem_of_getElem? (i := 58) rfl) rfl
theorem w_3_59 : Cond.methodLink RL 44 yX9_rain ∈ wt := mt3 (List.mem_of_getElem? (i := 59) rfl) rfl
theorem w_3_60 : Cond.instanceMethod yX9_rain ∈ wt := mt3 (List.mem_of_getElem? (i := 60) rfl) rfl
theorem w_3_61 : Cond.selects RX9 yX9_rain yX9_rain ∈ wt := mt3 (List.mem_of_getElem? (i := 61) rfl) rfl
theorem w_3_62 : Cond.code yX9_rain cX9_rain 2 (some .int) ∈ wt := mt3 (List.mem_of_getElem? (i := 62) rfl) rfl
theorem w_3_63 : Cond.methodLink RX9 190 yX1_isTold ∈ wt := mt3 (List.mem_of_getElem? (i := 63) rfl) rfl
theorem w_3_64 : Cond.instanceMethod yX1_isTold ∈ wt := mt3 (List.mem_of_getElem? (i := 64) rfl) rfl
theorem w_3_65 : Cond.selects RX1 yX1_isTold yX1_isTold ∈ wt := mt3 (List.mem_of_getElem? (i := 65) rfl) rfl
theorem w_3_66 : Cond.code yX1_isTold cX1_isTold 1 (some .boolean) ∈ wt := mt3 (List.mem_of_getElem? (i := 66) rfl) rfl
theorem w_3_67 : Cond.constant RX9 194 (-1000000003) ∈ wt := mt3 (List.mem_of_getElem? (i := 67) rfl) rfl
theorem w_3_68 : Cond.methodLink RX9 195 yX1_rainBehind ∈ wt := mt3 (List.mem_of_getElem? (i := 68) rfl) rfl
theorem w_3_69 : Cond.instanceMethod yX1_rainBehind ∈ wt := mt3 (List.mem_of_getElem? (i := 69) rfl) rfl
theorem w_3_70 : Cond.selects RX1 yX1_rainBehind yX1_rainBehind ∈ wt := mt3 (List.mem_of_getElem? (i := 70) rfl) rfl
theorem w_3_71 : Cond.code yX1_rainBehind cX1_rainBehind 2 (some .int) ∈ wt := mt3 (List.mem_of_getElem? (i := 71) rfl) rfl
theorem w_3_72 : Cond.methodLink RX1 89 yX7_hours ∈ wt := mt3 (List.mem_of_getElem? (i := 72) rfl) rfl
theorem w_3_73 : Cond.methodLink RL 48 yX9_hour ∈ wt := mt3 (List.mem_of_getElem? (i := 73) rfl) rfl
theorem w_3_74 : Cond.instanceMethod yX9_hour ∈ wt := mt3 (List.mem_of_getElem? (i := 74) rfl) rfl
theorem w_3_75 : Cond.selects RX9 yX9_hour yX9_hour ∈ wt := mt3 (List.mem_of_getElem? (i := 75) rfl) rfl
theorem w_3_76 : Cond.code yX9_hour cX9_hour 3 (some .int) ∈ wt := mt3 (List.mem_of_getElem? (i := 76) rfl) rfl
theorem w_3_77 : Cond.constant RX9 198 (90000) ∈ wt := mt3 (List.mem_of_getElem? (i := 77) rfl) rfl
theorem w_3_78 : Cond.methodLink RX9 199 yX4_remember ∈ wt := mt3 (List.mem_of_getElem? (i := 78) rfl) rfl
theorem w_3_79 : Cond.instanceMethod yX4_remember ∈ wt := mt3 (List.mem_of_getElem? (i := 79) rfl) rfl
theorem w_3_80 : Cond.selects RX4 yX4_remember yX4_remember ∈ wt := mt3 (List.mem_of_getElem? (i := 80) rfl) rfl
theorem w_3_81 : Cond.code yX4_remember cX4_remember 2 none ∈ wt := mt3 (List.mem_of_getElem? (i := 81) rfl) rfl
theorem w_3_82 : Cond.methodLink RX4 29 yX7_writeTo ∈ wt := mt3 (List.mem_of_getElem? (i := 82) rfl) rfl
theorem w_3_83 : Cond.instanceMethod yX7_writeTo ∈ wt := mt3 (List.mem_of_getElem? (i := 83) rfl) rfl
theorem w_3_84 : Cond.selects RX7 yX7_writeTo yX7_writeTo ∈ wt := mt3 (List.mem_of_getElem? (i := 84) rfl) rfl
theorem w_3_85 : Cond.code yX7_writeTo cX7_writeTo 3 none ∈ wt := mt3 (List.mem_of_getElem? (i := 85) rfl) rfl
theorem w_3_86 : Cond.methodLink RX7 63 yX6_copyCells ∈ wt := mt3 (List.mem_of_getElem? (i := 86) rfl) rfl
theorem w_3_87 : Cond.methodLink RX4 33 yJ9_min_7cf53 ∈ wt := mt3 (List.mem_of_getElem? (i := 87) rfl) rfl
theorem w_3_88 : Cond.static yJ9_min_7cf53 ∈ wt := mt3 (List.mem_of_getElem? (i := 88) rfl) rfl
theorem w_3_89 : Cond.code yJ9_min_7cf53 cJ9_min_7cf53 2 (some .int) ∈ wt := mt3 (List.mem_of_getElem? (i := 89) rfl) rfl
theorem w_3_90 : Cond.methodLink RX9 203 yX1_passHour ∈ wt := mt3 (List.mem_of_getElem? (i := 90) rfl) rfl
theorem w_3_91 : Cond.instanceMethod yX1_passHour ∈ wt := mt3 (List.mem_of_getElem? (i := 91) rfl) rfl
theorem w_3_92 : Cond.selects RX1 yX1_passHour yX1_passHour ∈ wt := mt3 (List.mem_of_getElem? (i := 92) rfl) rfl
theorem w_3_93 : Cond.code yX1_passHour cX1_passHour 3 none ∈ wt := mt3 (List.mem_of_getElem? (i := 93) rfl) rfl
theorem w_3_94 : Cond.methodLink RX1 117 yX1_rainBehind ∈ wt := mt3 (List.mem_of_getElem? (i := 94) rfl) rfl
theorem w_3_95 : Cond.methodLink RX1 120 yX1_isOpen ∈ wt := mt3 (List.mem_of_getElem? (i := 95) rfl) rfl
theorem w_3_96 : Cond.instanceMethod yX1_isOpen ∈ wt := mt3 (List.mem_of_getElem? (i := 96) rfl) rfl
theorem w_3_97 : Cond.selects RX1 yX1_isOpen yX1_isOpen ∈ wt := mt3 (List.mem_of_getElem? (i := 97) rfl) rfl
theorem w_3_98 : Cond.code yX1_isOpen cX1_isOpen 2 (some .boolean) ∈ wt := mt3 (List.mem_of_getElem? (i := 98) rfl) rfl
theorem w_3_99 : Cond.methodLink RX1 114 yX7_takeSpoons ∈ wt := mt3 (List.mem_of_getElem? (i := 99) rfl) rfl
theorem w_3_100 : Cond.instanceMethod yX7_takeSpoons ∈ wt := mt3 (List.mem_of_getElem? (i := 100) rfl) rfl
theorem w_3_101 : Cond.selects RX7 yX7_takeSpoons yX7_takeSpoons ∈ wt := mt3 (List.mem_of_getElem? (i := 101) rfl) rfl
theorem w_3_102 : Cond.code yX7_takeSpoons cX7_takeSpoons 3 none ∈ wt := mt3 (List.mem_of_getElem? (i := 102) rfl) rfl
theorem w_3_103 : Cond.methodLink RX7 28 yX7_spoons ∈ wt := mt3 (List.mem_of_getElem? (i := 103) rfl) rfl
theorem w_3_104 : Cond.methodLink RX7 31 yJ9_max_7cf53 ∈ wt := mt3 (List.mem_of_getElem? (i := 104) rfl) rfl
theorem w_3_105 : Cond.methodLink RX7 37 yX7_setSpoons ∈ wt := mt3 (List.mem_of_getElem? (i := 105) rfl) rfl
theorem w_3_106 : Cond.methodLink RX1 124 yX7_countHour ∈ wt := mt3 (List.mem_of_getElem? (i := 106) rfl) rfl
theorem w_3_107 : Cond.instanceMethod yX7_countHour ∈ wt := mt3 (List.mem_of_getElem? (i := 107) rfl) rfl
theorem w_3_108 : Cond.selects RX7 yX7_countHour yX7_countHour ∈ wt := mt3 (List.mem_of_getElem? (i := 108) rfl) rfl
theorem w_3_109 : Cond.code yX7_countHour cX7_countHour 1 none ∈ wt := mt3 (List.mem_of_getElem? (i := 109) rfl) rfl
theorem w_3_110 : Cond.methodLink RX7 49 yX7_hours ∈ wt := mt3 (List.mem_of_getElem? (i := 110) rfl) rfl
theorem w_3_111 : Cond.methodLink RX1 127 yX1_calmWishes ∈ wt := mt3 (List.mem_of_getElem? (i := 111) rfl) rfl
theorem w_3_113 : Cond.instanceMethod yX1_calmWishes ∈ wt := mt3 (List.mem_of_getElem? (i := 113) rfl) rfl
theorem w_3_114 : Cond.code yX1_calmWishes cX1_calmWishes 3 none ∈ wt := mt3 (List.mem_of_getElem? (i := 114) rfl) rfl
theorem w_3_115 : Cond.methodLink RX1 130 yX7_wishOf ∈ wt := mt3 (List.mem_of_getElem? (i := 115) rfl) rfl
theorem w_3_116 : Cond.methodLink RX1 133 yJ6_signum_0f7a4 ∈ wt := mt3 (List.mem_of_getElem? (i := 116) rfl) rfl
theorem w_3_117 : Cond.static yJ6_signum_0f7a4 ∈ wt := mt3 (List.mem_of_getElem? (i := 117) rfl) rfl
theorem w_3_118 : Cond.code yJ6_signum_0f7a4 cJ6_signum_0f7a4 1 (some .int) ∈ wt := mt3 (List.mem_of_getElem? (i := 118) rfl) rfl
theorem w_3_119 : Cond.methodLink RL 52 yX9_step ∈ wt := mt3 (List.mem_of_getElem? (i := 119) rfl) rfl
theorem w_3_120 : Cond.instanceMethod yX9_step ∈ wt := mt3 (List.mem_of_getElem? (i := 120) rfl) rfl
theorem w_3_121 : Cond.selects RX9 yX9_step yX9_step ∈ wt := mt3 (List.mem_of_getElem? (i := 121) rfl) rfl
theorem w_3_122 : Cond.code yX9_step cX9_step 3 (some .int) ∈ wt := mt3 (List.mem_of_getElem? (i := 122) rfl) rfl
theorem w_3_123 : Cond.methodLink RX9 206 yX1_isAtDoor ∈ wt := mt3 (List.mem_of_getElem? (i := 123) rfl) rfl
theorem w_3_124 : Cond.instanceMethod yX1_isAtDoor ∈ wt := mt3 (List.mem_of_getElem? (i := 124) rfl) rfl
theorem w_3_125 : Cond.selects RX1 yX1_isAtDoor yX1_isAtDoor ∈ wt := mt3 (List.mem_of_getElem? (i := 125) rfl) rfl
theorem w_3_126 : Cond.code yX1_isAtDoor cX1_isAtDoor 3 (some .boolean) ∈ wt := mt3 (List.mem_of_getElem? (i := 126) rfl) rfl
theorem w_3_128 : Cond.methodLink RX9 210 yX1_makeStep ∈ wt := mt3 (List.mem_of_getElem? (i := 128) rfl) rfl
theorem w_3_129 : Cond.instanceMethod yX1_makeStep ∈ wt := mt3 (List.mem_of_getElem? (i := 129) rfl) rfl
theorem w_3_130 : Cond.selects RX1 yX1_makeStep yX1_makeStep ∈ wt := mt3 (List.mem_of_getElem? (i := 130) rfl) rfl
theorem w_3_131 : Cond.code yX1_makeStep cX1_makeStep 3 none ∈ wt := mt3 (List.mem_of_getElem? (i := 131) rfl) rfl
theorem w_3_132 : Cond.methodLink RX1 108 yX7_countStopped ∈ wt := mt3 (List.mem_of_getElem? (i := 132) rfl) rfl
theorem w_3_133 : Cond.instanceMethod yX7_countStopped ∈ wt := mt3 (List.mem_of_getElem? (i := 133) rfl) rfl
theorem w_3_134 : Cond.selects RX7 yX7_countStopped yX7_countStopped ∈ wt := mt3 (List.mem_of_getElem? (i := 134) rfl) rfl
theorem w_3_135 : Cond.code yX7_countStopped cX7_countStopped 1 none ∈ wt := mt3 (List.mem_of_getElem? (i := 135) rfl) rfl
theorem w_3_136 : Cond.methodLink RX7 53 yX7_stopped ∈ wt := mt3 (List.mem_of_getElem? (i := 136) rfl) rfl
theorem w_3_137 : Cond.methodLink RX1 111 yX7_countCrossing ∈ wt := mt3 (List.mem_of_getElem? (i := 137) rfl) rfl
theorem w_3_138 : Cond.instanceMethod yX7_countCrossing ∈ wt := mt3 (List.mem_of_getElem? (i := 138) rfl) rfl
theorem w_3_139 : Cond.selects RX7 yX7_countCrossing yX7_countCrossing ∈ wt := mt3 (List.mem_of_getElem? (i := 139) rfl) rfl
theorem w_3_140 : Cond.code yX7_countCrossing cX7_countCrossing 2 none ∈ wt := mt3 (List.mem_of_getElem? (i := 140) rfl) rfl
theorem w_3_141 : Cond.methodLink RX7 40 yX7_crossings ∈ wt := mt3 (List.mem_of_getElem? (i := 141) rfl) rfl
theorem w_3_142 : Cond.methodLink RL 56 yX9_lay ∈ wt := mt3 (List.mem_of_getElem? (i := 142) rfl) rfl
theorem w_3_143 : Cond.instanceMethod yX9_lay ∈ wt := mt3 (List.mem_of_getElem? (i := 143) rfl) rfl
theorem w_3_144 : Cond.selects RX9 yX9_lay yX9_lay ∈ wt := mt3 (List.mem_of_getElem? (i := 144) rfl) rfl
theorem w_3_145 : Cond.code yX9_lay cX9_lay 5 (some .int) ∈ wt := mt3 (List.mem_of_getElem? (i := 145) rfl) rfl
theorem w_3_146 : Cond.methodLink RX9 214 yX7_setSpoons ∈ wt := mt3 (List.mem_of_getElem? (i := 146) rfl) rfl
theorem w_3_147 : Cond.methodLink RX9 217 yX7_setStore ∈ wt := mt3 (List.mem_of_getElem? (i := 147) rfl) rfl
theorem w_3_148 : Cond.methodLink RL 60 yX9_sweep ∈ wt := mt3 (List.mem_of_getElem? (i := 148) rfl) rfl
theorem w_3_149 : Cond.instanceMethod yX9_sweep ∈ wt := mt3 (List.mem_of_getElem? (i := 149) rfl) rfl
theorem w_3_150 : Cond.selects RX9 yX9_sweep yX9_sweep ∈ wt := mt3 (List.mem_of_getElem? (i := 150) rfl) rfl
theorem w_3_151 : Cond.code yX9_sweep cX9_sweep 3 (some .int) ∈ wt := mt3 (List.mem_of_getElem? (i := 151) rfl) rfl
theorem w_3_152 : Cond.methodLink RX9 220 yJ9_min_7cf53 ∈ wt := mt3 (List.mem_of_getElem? (i := 152) rfl) rfl
theorem w_3_153 : Cond.methodLink RL 64 yX9_buy ∈ wt := mt3 (List.mem_of_getElem? (i := 153) rfl) rfl
theorem w_3_154 : Cond.instanceMethod yX9_buy ∈ wt := mt3 (List.mem_of_getElem? (i := 154) rfl) rfl
theorem w_3_155 : Cond.selects RX9 yX9_buy yX9_buy ∈ wt := mt3 (List.mem_of_getElem? (i := 155) rfl) rfl
theorem w_3_156 : Cond.code yX9_buy cX9_buy 2 (some .int) ∈ wt := mt3 (List.mem_of_getElem? (i := 156) rfl) rfl
theorem w_3_157 : Cond.methodLink RL 68 yX9_wish ∈ wt := mt3 (List.mem_of_getElem? (i := 157) rfl) rfl
theorem w_3_158 : Cond.instanceMethod yX9_wish ∈ wt := mt3 (List.mem_of_getElem? (i := 158) rfl) rfl
theorem w_3_159 : Cond.selects RX9 yX9_wish yX9_wish ∈ wt := mt3 (List.mem_of_getElem? (i := 159) rfl) rfl
theorem w_3_160 : Cond.code yX9_wish cX9_wish 4 (some .int) ∈ wt := mt3 (List.mem_of_getElem? (i := 160) rfl) rfl
theorem w_3_161 : Cond.methodLink RX9 226 yJ9_max_7cf53 ∈ wt := mt3 (List.mem_of_getElem? (i := 161) rfl) rfl
theorem w_3_162 : Cond.methodLink RX9 229 yX7_setWish ∈ wt := mt3 (List.mem_of_getElem? (i := 162) rfl) rfl
theorem w_3_163 : Cond.methodLink RL 72 yX9_drift ∈ wt := mt3 (List.mem_of_getElem? (i := 163) rfl) rfl
theorem w_3_164 : Cond.instanceMethod yX9_drift ∈ wt := mt3 (List.mem_of_getElem? (i := 164) rfl) rfl
theorem w_3_165 : Cond.selects RX9 yX9_drift yX9_drift ∈ wt := mt3 (List.mem_of_getElem? (i := 165) rfl) rfl
theorem w_3_166 : Cond.code yX9_drift cX9_drift 3 (some .int) ∈ wt := mt3 (List.mem_of_getElem? (i := 166) rfl) rfl
theorem w_3_167 : Cond.methodLink RX9 232 yX0_moveOnce ∈ wt := mt3 (List.mem_of_getElem? (i := 167) rfl) rfl
theorem w_3_168 : Cond.instanceMethod yX0_moveOnce ∈ wt := mt3 (List.mem_of_getElem? (i := 168) rfl) rfl
theorem w_3_169 : Cond.selects RX0 yX0_moveOnce yX0_moveOnce ∈ wt := mt3 (List.mem_of_getElem? (i := 169) rfl) rfl
theorem w_3_170 : Cond.code yX0_moveOnce cX0_moveOnce 4 none ∈ wt := mt3 (List.mem_of_getElem? (i := 170) rfl) rfl
theorem w_3_171 : Cond.methodLink RX0 30 yX0_draw ∈ wt := mt3 (List.mem_of_getElem? (i := 171) rfl) rfl
theorem w_3_173 : Cond.instanceMethod yX0_draw ∈ wt := mt3 (List.mem_of_getElem? (i := 173) rfl) rfl
theorem w_3_174 : Cond.code yX0_draw cX0_draw 2 (some .int) ∈ wt := mt3 (List.mem_of_getElem? (i := 174) rfl) rfl
theorem w_3_175 : Cond.constantLong RX0 15 (1103515245) ∈ wt := mt3 (List.mem_of_getElem? (i := 175) rfl) rfl
theorem w_3_176 : Cond.constantLong RX0 17 (12345) ∈ wt := mt3 (List.mem_of_getElem? (i := 176) rfl) rfl
theorem w_3_177 : Cond.constantLong RX0 19 (2147483648) ∈ wt := mt3 (List.mem_of_getElem? (i := 177) rfl) rfl
theorem w_3_178 : Cond.constant RX0 21 (65536) ∈ wt := mt3 (List.mem_of_getElem? (i := 178) rfl) rfl
theorem w_3_179 : Cond.methodLink RX0 34 yX1_isAtDoor ∈ wt := mt3 (List.mem_of_getElem? (i := 179) rfl) rfl
theorem w_3_180 : Cond.methodLink RX0 38 yX1_makeStep ∈ wt := mt3 (List.mem_of_getElem? (i := 180) rfl) rfl
theorem w_3_181 : Cond.methodLink RX0 42 yX1_passHour ∈ wt := mt3 (List.mem_of_getElem? (i := 181) rfl) rfl
theorem w_3_182 : Cond.methodLink RL 76 yX9_undo ∈ wt := mt3 (List.mem_of_getElem? (i := 182) rfl) rfl
theorem w_3_183 : Cond.instanceMethod yX9_undo ∈ wt := mt3 (List.mem_of_getElem? (i := 183) rfl) rfl
theorem w_3_184 : Cond.selects RX9 yX9_undo yX9_undo ∈ wt := mt3 (List.mem_of_getElem? (i := 184) rfl) rfl
theorem w_3_185 : Cond.code yX9_undo cX9_undo 2 (some .int) ∈ wt := mt3 (List.mem_of_getElem? (i := 185) rfl) rfl
theorem w_3_186 : Cond.methodLink RX9 235 yX4_bringBack ∈ wt := mt3 (List.mem_of_getElem? (i := 186) rfl) rfl
theorem w_3_187 : Cond.instanceMethod yX4_bringBack ∈ wt := mt3 (List.mem_of_getElem? (i := 187) rfl) rfl
theorem w_3_188 : Cond.selects RX4 yX4_bringBack yX4_bringBack ∈ wt := mt3 (List.mem_of_getElem? (i := 188) rfl) rfl
theorem w_3_189 : Cond.code yX4_bringBack cX4_bringBack 3 none ∈ wt := mt3 (List.mem_of_getElem? (i := 189) rfl) rfl
theorem w_3_190 : Cond.methodLink RX4 39 yJ9_floorMod_7cf53 ∈ wt := mt3 (List.mem_of_getElem? (i := 190) rfl) rfl
theorem w_3_191 : Cond.static yJ9_floorMod_7cf53 ∈ wt := mt3 (List.mem_of_getElem? (i := 191) rfl) rfl
theorem w_3_192 : Cond.code yJ9_floorMod_7cf53 cJ9_floorMod_7cf53 3 (some .int) ∈ wt := mt3 (List.mem_of_getElem? (i := 192) rfl) rfl
theorem w_3_193 : Cond.methodLink RX4 42 yJ9_max_7cf53 ∈ wt := mt3 (List.mem_of_getElem? (i := 193) rfl) rfl
theorem w_3_194 : Cond.methodLink RX4 45 yX7_readFrom ∈ wt := mt3 (List.mem_of_getElem? (i := 194) rfl) rfl
theorem w_3_195 : Cond.instanceMethod yX7_readFrom ∈ wt := mt3 (List.mem_of_getElem? (i := 195) rfl) rfl
theorem w_3_196 : Cond.selects RX7 yX7_readFrom yX7_readFrom ∈ wt := mt3 (List.mem_of_getElem? (i := 196) rfl) rfl
theorem w_3_197 : Cond.code yX7_readFrom cX7_readFrom 3 none ∈ wt := mt3 (List.mem_of_getElem? (i := 197) rfl) rfl
theorem w_3_198 : Cond.methodLink RL 80 yX9_stops ∈ wt := mt3 (List.mem_of_getElem? (i := 198) rfl) rfl
theorem w_3_199 : Cond.instanceMethod yX9_stops ∈ wt := mt3 (List.mem_of_getElem? (i := 199) rfl) rfl
theorem w_3_200 : Cond.selects RX9 yX9_stops yX9_stops ∈ wt := mt3 (List.mem_of_getElem? (i := 200) rfl) rfl
theorem w_3_201 : Cond.code yX9_stops cX9_stops 3 (some .int) ∈ wt := mt3 (List.mem_of_getElem? (i := 201) rfl) rfl
theorem w_3_202 : Cond.methodLink RX9 239 yX1_lineStops ∈ wt := mt3 (List.mem_of_getElem? (i := 202) rfl) rfl
theorem w_3_203 : Cond.methodLink RL 84 yX9_comers ∈ wt := mt3 (List.mem_of_getElem? (i := 203) rfl) rfl
theorem w_3_204 : Cond.instanceMethod yX9_comers ∈ wt := mt3 (List.mem_of_getElem? (i := 204) rfl) rfl
theorem w_3_205 : Cond.selects RX9 yX9_comers yX9_comers ∈ wt := mt3 (List.mem_of_getElem? (i := 205) rfl) rfl
theorem w_3_206 : Cond.code yX9_comers cX9_comers 2 (some .int) ∈ wt := mt3 (List.mem_of_getElem? (i := 206) rfl) rfl
theorem w_3_207 : Cond.methodLink RX9 242 yX8_comersTo ∈ wt := mt3 (List.mem_of_getElem? (i := 207) rfl) rfl
theorem w_3_208 : Cond.methodLink RL 88 yX9_way ∈ wt := mt3 (List.mem_of_getElem? (i := 208) rfl) rfl
theorem w_3_209 : Cond.instanceMethod yX9_way ∈ wt := mt3 (List.mem_of_getElem? (i := 209) rfl) rfl
theorem w_3_210 : Cond.selects RX9 yX9_way yX9_way ∈ wt := mt3 (List.mem_of_getElem? (i := 210) rfl) rfl
theorem w_3_211 : Cond.code yX9_way cX9_way 4 (some .int) ∈ wt := mt3 (List.mem_of_getElem? (i := 211) rfl) rfl
theorem w_3_212 : Cond.methodLink RX9 245 yX8_shortestWay ∈ wt := mt3 (List.mem_of_getElem? (i := 212) rfl) rfl
theorem w_3_213 : Cond.instanceMethod yX8_shortestWay ∈ wt := mt3 (List.mem_of_getElem? (i := 213) rfl) rfl
theorem w_3_214 : Cond.selects RX8 yX8_shortestWay yX8_shortestWay ∈ wt := mt3 (List.mem_of_getElem? (i := 214) rfl) rfl
theorem w_3_215 : Cond.code yX8_shortestWay cX8_shortestWay 9 (some .int) ∈ wt := mt3 (List.mem_of_getElem? (i := 215) rfl) rfl
theorem w_3_216 : Cond.methodLink RX8 75 yX8_leastDoor ∈ wt := mt3 (List.mem_of_getElem? (i := 216) rfl) rfl
theorem w_3_218 : Cond.instanceMethod yX8_leastDoor ∈ wt := mt3 (List.mem_of_getElem? (i := 218) rfl) rfl
theorem w_3_219 : Cond.code yX8_leastDoor cX8_leastDoor 6 (some .int) ∈ wt := mt3 (List.mem_of_getElem? (i := 219) rfl) rfl
theorem w_3_220 : Cond.methodLink RL 93 yX9_keepOut ∈ wt := mt3 (List.mem_of_getElem? (i := 220) rfl) rfl
theorem w_3_221 : Cond.instanceMethod yX9_keepOut ∈ wt := mt3 (List.mem_of_getElem? (i := 221) rfl) rfl
theorem w_3_222 : Cond.selects RX9 yX9_keepOut yX9_keepOut ∈ wt := mt3 (List.mem_of_getElem? (i := 222) rfl) rfl
theorem w_3_223 : Cond.code yX9_keepOut cX9_keepOut 4 (some .int) ∈ wt := mt3 (List.mem_of_getElem? (i := 223) rfl) rfl
theorem w_3_224 : Cond.methodLink RX9 249 yX8_cheapestCut ∈ wt := mt3 (List.mem_of_getElem? (i := 224) rfl) rfl
theorem w_3_225 : Cond.instanceMethod yX8_cheapestCut ∈ wt := mt3 (List.mem_of_getElem? (i := 225) rfl) rfl
theorem w_3_226 : Cond.selects RX8 yX8_cheapestCut yX8_cheapestCut ∈ wt := mt3 (List.mem_of_getElem? (i := 226) rfl) rfl
theorem w_3_227 : Cond.code yX8_cheapestCut cX8_cheapestCut 12 (some .int) ∈ wt := mt3 (List.mem_of_getElem? (i := 227) rfl) rfl
theorem w_3_228 : Cond.methodLink RX8 79 yX8_doorsAcross ∈ wt := mt3 (List.mem_of_getElem? (i := 228) rfl) rfl
theorem w_3_230 : Cond.instanceMethod yX8_doorsAcross ∈ wt := mt3 (List.mem_of_getElem? (i := 230) rfl) rfl
theorem w_3_231 : Cond.code yX8_doorsAcross cX8_doorsAcross 6 (some .int) ∈ wt := mt3 (List.mem_of_getElem? (i := 231) rfl) rfl
theorem w_3_232 : Cond.methodLink RX8 82 yX8_spoonsToStop ∈ wt := mt3 (List.mem_of_getElem? (i := 232) rfl) rfl
theorem w_3_234 : Cond.instanceMethod yX8_spoonsToStop ∈ wt := mt3 (List.mem_of_getElem? (i := 234) rfl) rfl
theorem w_3_235 : Cond.code yX8_spoonsToStop cX8_spoonsToStop 5 (some .int) ∈ wt := mt3 (List.mem_of_getElem? (i := 235) rfl) rfl
theorem w_3_236 : Cond.methodLink RX8 85 yX7_spoons ∈ wt := mt3 (List.mem_of_getElem? (i := 236) rfl) rfl
theorem w_3_237 : Cond.methodLink RL 97 yX9_soften ∈ wt := mt3 (List.mem_of_getElem? (i := 237) rfl) rfl
theorem w_3_238 : Cond.instanceMethod yX9_soften ∈ wt := mt3 (List.mem_of_getElem? (i := 238) rfl) rfl
theorem w_3_239 : Cond.selects RX9 yX9_soften yX9_soften ∈ wt := mt3 (List.mem_of_getElem? (i := 239) rfl) rfl
theorem w_4_0 : Cond.code yX9_soften cX9_soften 3 (some .int) ∈ wt := mt4 (List.mem_of_getElem? (i := 0) rfl) rfl
theorem w_4_1 : Cond.methodLink RX9 252 yX8_leastSoftening ∈ wt := mt4 (List.mem_of_getElem? (i := 1) rfl) rfl
theorem w_4_2 : Cond.instanceMethod yX8_leastSoftening ∈ wt := mt4 (List.mem_of_getElem? (i := 2) rfl) rfl
theorem w_4_3 : Cond.selects RX8 yX8_leastSoftening yX8_leastSoftening ∈ wt := mt4 (List.mem_of_getElem? (i := 3) rfl) rfl
theorem w_4_4 : Cond.code yX8_leastSoftening cX8_leastSoftening 5 (some .int) ∈ wt := mt4 (List.mem_of_getElem? (i := 4) rfl) rfl
theorem w_4_5 : Cond.methodLink RX8 88 yX7_wishOf ∈ wt := mt4 (List.mem_of_getElem? (i := 5) rfl) rfl
theorem w_4_7 : Cond.methodLink RL 101 yX9_parts ∈ wt := mt4 (List.mem_of_getElem? (i := 7) rfl) rfl
theorem w_4_8 : Cond.instanceMethod yX9_parts ∈ wt := mt4 (List.mem_of_getElem? (i := 8) rfl) rfl
theorem w_4_9 : Cond.selects RX9 yX9_parts yX9_parts ∈ wt := mt4 (List.mem_of_getElem? (i := 9) rfl) rfl
theorem w_4_10 : Cond.code yX9_parts cX9_parts 3 (some .int) ∈ wt := mt4 (List.mem_of_getElem? (i := 10) rfl) rfl
theorem w_4_11 : Cond.methodLink RX9 255 yX8_countParts ∈ wt := mt4 (List.mem_of_getElem? (i := 11) rfl) rfl
theorem w_4_12 : Cond.instanceMethod yX8_countParts ∈ wt := mt4 (List.mem_of_getElem? (i := 12) rfl) rfl
theorem w_4_13 : Cond.selects RX8 yX8_countParts yX8_countParts ∈ wt := mt4 (List.mem_of_getElem? (i := 13) rfl) rfl
theorem w_4_14 : Cond.code yX8_countParts cX8_countParts 5 (some .int) ∈ wt := mt4 (List.mem_of_getElem? (i := 14) rfl) rfl
theorem w_4_15 : Cond.methodLink RX9 258 yX8_partOf ∈ wt := mt4 (List.mem_of_getElem? (i := 15) rfl) rfl
theorem w_4_16 : Cond.methodLink RL 105 yX9_worst ∈ wt := mt4 (List.mem_of_getElem? (i := 16) rfl) rfl
theorem w_4_17 : Cond.instanceMethod yX9_worst ∈ wt := mt4 (List.mem_of_getElem? (i := 17) rfl) rfl
theorem w_4_18 : Cond.selects RX9 yX9_worst yX9_worst ∈ wt := mt4 (List.mem_of_getElem? (i := 18) rfl) rfl
theorem w_4_19 : Cond.code yX9_worst cX9_worst 2 (some .int) ∈ wt := mt4 (List.mem_of_getElem? (i := 19) rfl) rfl
theorem w_4_20 : Cond.methodLink RX9 261 yX8_leastIllKeptFrom ∈ wt := mt4 (List.mem_of_getElem? (i := 20) rfl) rfl
theorem w_4_21 : Cond.instanceMethod yX8_leastIllKeptFrom ∈ wt := mt4 (List.mem_of_getElem? (i := 21) rfl) rfl
theorem w_4_22 : Cond.selects RX8 yX8_leastIllKeptFrom yX8_leastIllKeptFrom ∈ wt := mt4 (List.mem_of_getElem? (i := 22) rfl) rfl
theorem w_4_23 : Cond.code yX8_leastIllKeptFrom cX8_leastIllKeptFrom 3 (some .int) ∈ wt := mt4 (List.mem_of_getElem? (i := 23) rfl) rfl
theorem w_4_24 : Cond.methodLink RL 109 yX9_lasts ∈ wt := mt4 (List.mem_of_getElem? (i := 24) rfl) rfl
theorem w_4_25 : Cond.instanceMethod yX9_lasts ∈ wt := mt4 (List.mem_of_getElem? (i := 25) rfl) rfl
theorem w_4_26 : Cond.selects RX9 yX9_lasts yX9_lasts ∈ wt := mt4 (List.mem_of_getElem? (i := 26) rfl) rfl
theorem w_4_27 : Cond.code yX9_lasts cX9_lasts 2 (some .int) ∈ wt := mt4 (List.mem_of_getElem? (i := 27) rfl) rfl
theorem w_4_28 : Cond.methodLink RX9 264 yX1_isOpen ∈ wt := mt4 (List.mem_of_getElem? (i := 28) rfl) rfl
theorem w_4_29 : Cond.methodLink RX9 267 yX8_hoursUntilGone ∈ wt := mt4 (List.mem_of_getElem? (i := 29) rfl) rfl
theorem w_4_30 : Cond.instanceMethod yX8_hoursUntilGone ∈ wt := mt4 (List.mem_of_getElem? (i := 30) rfl) rfl
theorem w_4_31 : Cond.selects RX8 yX8_hoursUntilGone yX8_hoursUntilGone ∈ wt := mt4 (List.mem_of_getElem? (i := 31) rfl) rfl
theorem w_4_32 : Cond.code yX8_hoursUntilGone cX8_hoursUntilGone 4 (some .int) ∈ wt := mt4 (List.mem_of_getElem? (i := 32) rfl) rfl
theorem w_4_33 : Cond.methodLink RX8 94 yX1_rainBehind ∈ wt := mt4 (List.mem_of_getElem? (i := 33) rfl) rfl
theorem w_4_34 : Cond.methodLink RL 113 yX9_mend ∈ wt := mt4 (List.mem_of_getElem? (i := 34) rfl) rfl
theorem w_4_35 : Cond.instanceMethod yX9_mend ∈ wt := mt4 (List.mem_of_getElem? (i := 35) rfl) rfl
theorem w_4_36 : Cond.selects RX9 yX9_mend yX9_mend ∈ wt := mt4 (List.mem_of_getElem? (i := 36) rfl) rfl
theorem w_4_37 : Cond.code yX9_mend cX9_mend 2 (some .int) ∈ wt := mt4 (List.mem_of_getElem? (i := 37) rfl) rfl
theorem w_4_38 : Cond.methodLink RX9 270 yX8_spoonsToMend ∈ wt := mt4 (List.mem_of_getElem? (i := 38) rfl) rfl
theorem w_4_39 : Cond.instanceMethod yX8_spoonsToMend ∈ wt := mt4 (List.mem_of_getElem? (i := 39) rfl) rfl
theorem w_4_40 : Cond.selects RX8 yX8_spoonsToMend yX8_spoonsToMend ∈ wt := mt4 (List.mem_of_getElem? (i := 40) rfl) rfl
theorem w_4_41 : Cond.code yX8_spoonsToMend cX8_spoonsToMend 6 (some .int) ∈ wt := mt4 (List.mem_of_getElem? (i := 41) rfl) rfl
theorem w_4_42 : Cond.methodLink RX8 97 yX1_isOpen ∈ wt := mt4 (List.mem_of_getElem? (i := 42) rfl) rfl
theorem w_4_43 : Cond.methodLink RX8 101 yJ9_min_7cf53 ∈ wt := mt4 (List.mem_of_getElem? (i := 43) rfl) rfl
theorem w_4_44 : Cond.methodLink RL 117 yX9_holds ∈ wt := mt4 (List.mem_of_getElem? (i := 44) rfl) rfl
theorem w_4_45 : Cond.instanceMethod yX9_holds ∈ wt := mt4 (List.mem_of_getElem? (i := 45) rfl) rfl
theorem w_4_46 : Cond.selects RX9 yX9_holds yX9_holds ∈ wt := mt4 (List.mem_of_getElem? (i := 46) rfl) rfl
theorem w_4_47 : Cond.code yX9_holds cX9_holds 3 (some .int) ∈ wt := mt4 (List.mem_of_getElem? (i := 47) rfl) rfl
theorem w_4_48 : Cond.methodLink RX9 273 yX8_goneFirst ∈ wt := mt4 (List.mem_of_getElem? (i := 48) rfl) rfl
theorem w_4_49 : Cond.instanceMethod yX8_goneFirst ∈ wt := mt4 (List.mem_of_getElem? (i := 49) rfl) rfl
theorem w_4_50 : Cond.selects RX8 yX8_goneFirst yX8_goneFirst ∈ wt := mt4 (List.mem_of_getElem? (i := 50) rfl) rfl
theorem w_4_51 : Cond.code yX8_goneFirst cX8_goneFirst 5 (some .int) ∈ wt := mt4 (List.mem_of_getElem? (i := 51) rfl) rfl
theorem w_4_52 : Cond.methodLink RX8 106 yX8_hoursUntilGone ∈ wt := mt4 (List.mem_of_getElem? (i := 52) rfl) rfl
theorem w_4_53 : Cond.methodLink RL 121 yX9_mostCrossed ∈ wt := mt4 (List.mem_of_getElem? (i := 53) rfl) rfl
theorem w_4_54 : Cond.instanceMethod yX9_mostCrossed ∈ wt := mt4 (List.mem_of_getElem? (i := 54) rfl) rfl
theorem w_4_55 : Cond.selects RX9 yX9_mostCrossed yX9_mostCrossed ∈ wt := mt4 (List.mem_of_getElem? (i := 55) rfl) rfl
theorem w_4_56 : Cond.code yX9_mostCrossed cX9_mostCrossed 1 (some .int) ∈ wt := mt4 (List.mem_of_getElem? (i := 56) rfl) rfl
theorem w_4_57 : Cond.methodLink RX9 276 yX8_doorMostCrossed ∈ wt := mt4 (List.mem_of_getElem? (i := 57) rfl) rfl
theorem w_4_58 : Cond.instanceMethod yX8_doorMostCrossed ∈ wt := mt4 (List.mem_of_getElem? (i := 58) rfl) rfl
theorem w_4_59 : Cond.selects RX8 yX8_doorMostCrossed yX8_doorMostCrossed ∈ wt := mt4 (List.mem_of_getElem? (i := 59) rfl) rfl
theorem w_4_60 : Cond.code yX8_doorMostCrossed cX8_doorMostCrossed 4 (some .int) ∈ wt := mt4 (List.mem_of_getElem? (i := 60) rfl) rfl
theorem w_4_61 : Cond.methodLink RX8 109 yX7_crossings ∈ wt := mt4 (List.mem_of_getElem? (i := 61) rfl) rfl
theorem w_4_62 : Cond.methodLink RL 125 yX9_narrow ∈ wt := mt4 (List.mem_of_getElem? (i := 62) rfl) rfl
theorem w_4_63 : Cond.instanceMethod yX9_narrow ∈ wt := mt4 (List.mem_of_getElem? (i := 63) rfl) rfl
theorem w_4_64 : Cond.selects RX9 yX9_narrow yX9_narrow ∈ wt := mt4 (List.mem_of_getElem? (i := 64) rfl) rfl
theorem w_4_65 : Cond.code yX9_narrow cX9_narrow 1 (some .int) ∈ wt := mt4 (List.mem_of_getElem? (i := 65) rfl) rfl
theorem w_4_66 : Cond.methodLink RX9 279 yX8_bridges ∈ wt := mt4 (List.mem_of_getElem? (i := 66) rfl) rfl
theorem w_4_67 : Cond.instanceMethod yX8_bridges ∈ wt := mt4 (List.mem_of_getElem? (i := 67) rfl) rfl
theorem w_4_68 : Cond.selects RX8 yX8_bridges yX8_bridges ∈ wt := mt4 (List.mem_of_getElem? (i := 68) rfl) rfl
theorem w_4_69 : Cond.code yX8_bridges cX8_bridges 5 (some .int) ∈ wt := mt4 (List.mem_of_getElem? (i := 69) rfl) rfl
theorem w_4_70 : Cond.methodLink RL 129 yX9_first ∈ wt := mt4 (List.mem_of_getElem? (i := 70) rfl) rfl
theorem w_4_71 : Cond.instanceMethod yX9_first ∈ wt := mt4 (List.mem_of_getElem? (i := 71) rfl) rfl
theorem w_4_72 : Cond.selects RX9 yX9_first yX9_first ∈ wt := mt4 (List.mem_of_getElem? (i := 72) rfl) rfl
theorem w_4_73 : Cond.code yX9_first cX9_first 1 (some .int) ∈ wt := mt4 (List.mem_of_getElem? (i := 73) rfl) rfl
theorem w_4_74 : Cond.methodLink RX9 282 yX8_worstComer ∈ wt := mt4 (List.mem_of_getElem? (i := 74) rfl) rfl
theorem w_4_75 : Cond.instanceMethod yX8_worstComer ∈ wt := mt4 (List.mem_of_getElem? (i := 75) rfl) rfl
theorem w_4_76 : Cond.selects RX8 yX8_worstComer yX8_worstComer ∈ wt := mt4 (List.mem_of_getElem? (i := 76) rfl) rfl
theorem w_4_77 : Cond.code yX8_worstComer cX8_worstComer 5 (some .int) ∈ wt := mt4 (List.mem_of_getElem? (i := 77) rfl) rfl
theorem w_4_78 : Cond.methodLink RL 133 yX9_share ∈ wt := mt4 (List.mem_of_getElem? (i := 78) rfl) rfl
theorem w_4_79 : Cond.instanceMethod yX9_share ∈ wt := mt4 (List.mem_of_getElem? (i := 79) rfl) rfl
theorem w_4_80 : Cond.selects RX9 yX9_share yX9_share ∈ wt := mt4 (List.mem_of_getElem? (i := 80) rfl) rfl
theorem w_4_81 : Cond.code yX9_share cX9_share 3 (some .int) ∈ wt := mt4 (List.mem_of_getElem? (i := 81) rfl) rfl
theorem w_4_82 : Cond.methodLink RX9 285 yX8_fullIfShared ∈ wt := mt4 (List.mem_of_getElem? (i := 82) rfl) rfl
theorem w_4_83 : Cond.instanceMethod yX8_fullIfShared ∈ wt := mt4 (List.mem_of_getElem? (i := 83) rfl) rfl
theorem w_4_84 : Cond.selects RX8 yX8_fullIfShared yX8_fullIfShared ∈ wt := mt4 (List.mem_of_getElem? (i := 84) rfl) rfl
theorem w_4_85 : Cond.code yX8_fullIfShared cX8_fullIfShared 4 (some .int) ∈ wt := mt4 (List.mem_of_getElem? (i := 85) rfl) rfl
theorem w_4_86 : Cond.methodLink RX8 118 yX8_space ∈ wt := mt4 (List.mem_of_getElem? (i := 86) rfl) rfl
theorem w_4_88 : Cond.instanceMethod yX8_space ∈ wt := mt4 (List.mem_of_getElem? (i := 88) rfl) rfl
theorem w_4_89 : Cond.code yX8_space cX8_space 2 (some .int) ∈ wt := mt4 (List.mem_of_getElem? (i := 89) rfl) rfl
theorem w_4_90 : Cond.methodLink RX8 121 yX8_sharedUntilFull ∈ wt := mt4 (List.mem_of_getElem? (i := 90) rfl) rfl
theorem w_4_92 : Cond.instanceMethod yX8_sharedUntilFull ∈ wt := mt4 (List.mem_of_getElem? (i := 92) rfl) rfl
theorem w_4_93 : Cond.code yX8_sharedUntilFull cX8_sharedUntilFull 5 (some .int) ∈ wt := mt4 (List.mem_of_getElem? (i := 93) rfl) rfl
theorem w_4_94 : Cond.methodLink RX9 288 yX8_leftIfShared ∈ wt := mt4 (List.mem_of_getElem? (i := 94) rfl) rfl
theorem w_4_95 : Cond.instanceMethod yX8_leftIfShared ∈ wt := mt4 (List.mem_of_getElem? (i := 95) rfl) rfl
theorem w_4_96 : Cond.selects RX8 yX8_leftIfShared yX8_leftIfShared ∈ wt := mt4 (List.mem_of_getElem? (i := 96) rfl) rfl
theorem w_4_97 : Cond.code yX8_leftIfShared cX8_leftIfShared 4 (some .int) ∈ wt := mt4 (List.mem_of_getElem? (i := 97) rfl) rfl
theorem w_4_98 : Cond.methodLink RX8 124 yJ9_max_7cf53 ∈ wt := mt4 (List.mem_of_getElem? (i := 98) rfl) rfl
theorem w_4_99 : Cond.methodLink RL 137 yX9_dry ∈ wt := mt4 (List.mem_of_getElem? (i := 99) rfl) rfl
theorem w_4_100 : Cond.instanceMethod yX9_dry ∈ wt := mt4 (List.mem_of_getElem? (i := 100) rfl) rfl
theorem w_4_101 : Cond.selects RX9 yX9_dry yX9_dry ∈ wt := mt4 (List.mem_of_getElem? (i := 101) rfl) rfl
theorem w_4_102 : Cond.code yX9_dry cX9_dry 6 (some .int) ∈ wt := mt4 (List.mem_of_getElem? (i := 102) rfl) rfl
theorem w_4_103 : Cond.constantLong RX9 291 (1000000000) ∈ wt := mt4 (List.mem_of_getElem? (i := 103) rfl) rfl
theorem w_4_104 : Cond.constantLong RX9 293 (100) ∈ wt := mt4 (List.mem_of_getElem? (i := 104) rfl) rfl
theorem w_4_105 : Cond.methodLink RL 141 yX9_see ∈ wt := mt4 (List.mem_of_getElem? (i := 105) rfl) rfl
theorem w_4_106 : Cond.instanceMethod yX9_see ∈ wt := mt4 (List.mem_of_getElem? (i := 106) rfl) rfl
theorem w_4_107 : Cond.selects RX9 yX9_see yX9_see ∈ wt := mt4 (List.mem_of_getElem? (i := 107) rfl) rfl
theorem w_4_108 : Cond.code yX9_see cX9_see 3 (some .int) ∈ wt := mt4 (List.mem_of_getElem? (i := 108) rfl) rfl
theorem w_4_109 : Cond.methodLink RX9 295 yX3_addSeen ∈ wt := mt4 (List.mem_of_getElem? (i := 109) rfl) rfl
theorem w_4_110 : Cond.instanceMethod yX3_addSeen ∈ wt := mt4 (List.mem_of_getElem? (i := 110) rfl) rfl
theorem w_4_111 : Cond.selects RX3 yX3_addSeen yX3_addSeen ∈ wt := mt4 (List.mem_of_getElem? (i := 111) rfl) rfl
theorem w_4_112 : Cond.code yX3_addSeen cX3_addSeen 3 none ∈ wt := mt4 (List.mem_of_getElem? (i := 112) rfl) rfl
theorem w_4_113 : Cond.methodLink RX3 36 yX6_set ∈ wt := mt4 (List.mem_of_getElem? (i := 113) rfl) rfl
theorem w_4_114 : Cond.methodLink RL 146 yX9_ills ∈ wt := mt4 (List.mem_of_getElem? (i := 114) rfl) rfl
theorem w_4_115 : Cond.instanceMethod yX9_ills ∈ wt := mt4 (List.mem_of_getElem? (i := 115) rfl) rfl
theorem w_4_116 : Cond.selects RX9 yX9_ills yX9_ills ∈ wt := mt4 (List.mem_of_getElem? (i := 116) rfl) rfl
theorem w_4_117 : Cond.code yX9_ills cX9_ills 1 (some .int) ∈ wt := mt4 (List.mem_of_getElem? (i := 117) rfl) rfl
theorem w_4_118 : Cond.methodLink RX9 299 yX3_fittingIlls ∈ wt := mt4 (List.mem_of_getElem? (i := 118) rfl) rfl
theorem w_4_119 : Cond.instanceMethod yX3_fittingIlls ∈ wt := mt4 (List.mem_of_getElem? (i := 119) rfl) rfl
theorem w_4_120 : Cond.selects RX3 yX3_fittingIlls yX3_fittingIlls ∈ wt := mt4 (List.mem_of_getElem? (i := 120) rfl) rfl
theorem w_4_121 : Cond.code yX3_fittingIlls cX3_fittingIlls 4 (some .int) ∈ wt := mt4 (List.mem_of_getElem? (i := 121) rfl) rfl
theorem w_4_123 : Cond.methodLink RX3 48 yX6_get ∈ wt := mt4 (List.mem_of_getElem? (i := 123) rfl) rfl
theorem w_4_124 : Cond.methodLink RX3 51 yX3_stoppedIlls ∈ wt := mt4 (List.mem_of_getElem? (i := 124) rfl) rfl
theorem w_4_125 : Cond.static yX3_stoppedIlls ∈ wt := mt4 (List.mem_of_getElem? (i := 125) rfl) rfl
theorem w_4_126 : Cond.code yX3_stoppedIlls cX3_stoppedIlls 3 (some .int) ∈ wt := mt4 (List.mem_of_getElem? (i := 126) rfl) rfl
theorem w_4_128 : Cond.methodLink RL 150 yX9_lookAt ∈ wt := mt4 (List.mem_of_getElem? (i := 128) rfl) rfl
theorem w_4_129 : Cond.instanceMethod yX9_lookAt ∈ wt := mt4 (List.mem_of_getElem? (i := 129) rfl) rfl
theorem w_4_130 : Cond.selects RX9 yX9_lookAt yX9_lookAt ∈ wt := mt4 (List.mem_of_getElem? (i := 130) rfl) rfl
theorem w_4_131 : Cond.code yX9_lookAt cX9_lookAt 1 (some .int) ∈ wt := mt4 (List.mem_of_getElem? (i := 131) rfl) rfl
theorem w_4_132 : Cond.methodLink RX9 302 yX3_bestLook ∈ wt := mt4 (List.mem_of_getElem? (i := 132) rfl) rfl
theorem w_4_133 : Cond.instanceMethod yX3_bestLook ∈ wt := mt4 (List.mem_of_getElem? (i := 133) rfl) rfl
theorem w_4_134 : Cond.selects RX3 yX3_bestLook yX3_bestLook ∈ wt := mt4 (List.mem_of_getElem? (i := 134) rfl) rfl
theorem w_4_135 : Cond.code yX3_bestLook cX3_bestLook 8 (some .int) ∈ wt := mt4 (List.mem_of_getElem? (i := 135) rfl) rfl
theorem w_4_136 : Cond.methodLink RX3 54 yX3_fittingIlls ∈ wt := mt4 (List.mem_of_getElem? (i := 136) rfl) rfl
theorem w_4_137 : Cond.methodLink RX3 58 yJ6_bitCount_0f7a4 ∈ wt := mt4 (List.mem_of_getElem? (i := 137) rfl) rfl
theorem w_4_138 : Cond.static yJ6_bitCount_0f7a4 ∈ wt := mt4 (List.mem_of_getElem? (i := 138) rfl) rfl
theorem w_4_139 : Cond.code yJ6_bitCount_0f7a4 cJ6_bitCount_0f7a4 1 (some .int) ∈ wt := mt4 (List.mem_of_getElem? (i := 139) rfl) rfl
theorem w_4_140 : Cond.constant RJ6 265 (1431655765) ∈ wt := mt4 (List.mem_of_getElem? (i := 140) rfl) rfl
theorem w_4_141 : Cond.constant RJ6 266 (858993459) ∈ wt := mt4 (List.mem_of_getElem? (i := 141) rfl) rfl
theorem w_4_142 : Cond.constant RJ6 267 (252645135) ∈ wt := mt4 (List.mem_of_getElem? (i := 142) rfl) rfl
theorem w_4_143 : Cond.methodLink RX3 63 yJ9_max_7cf53 ∈ wt := mt4 (List.mem_of_getElem? (i := 143) rfl) rfl
theorem w_4_144 : Cond.methodLink RL 154 yX9_write ∈ wt := mt4 (List.mem_of_getElem? (i := 144) rfl) rfl
theorem w_4_145 : Cond.instanceMethod yX9_write ∈ wt := mt4 (List.mem_of_getElem? (i := 145) rfl) rfl
theorem w_4_146 : Cond.selects RX9 yX9_write yX9_write ∈ wt := mt4 (List.mem_of_getElem? (i := 146) rfl) rfl
theorem w_4_147 : Cond.code yX9_write cX9_write 3 (some .int) ∈ wt := mt4 (List.mem_of_getElem? (i := 147) rfl) rfl
theorem w_4_148 : Cond.methodLink RX9 305 yX3_addEntry ∈ wt := mt4 (List.mem_of_getElem? (i := 148) rfl) rfl
theorem w_4_149 : Cond.instanceMethod yX3_addEntry ∈ wt := mt4 (List.mem_of_getElem? (i := 149) rfl) rfl
theorem w_4_150 : Cond.selects RX3 yX3_addEntry yX3_addEntry ∈ wt := mt4 (List.mem_of_getElem? (i := 150) rfl) rfl
theorem w_4_151 : Cond.code yX3_addEntry cX3_addEntry 3 none ∈ wt := mt4 (List.mem_of_getElem? (i := 151) rfl) rfl
theorem w_4_152 : Cond.methodLink RL 158 yX9_judge ∈ wt := mt4 (List.mem_of_getElem? (i := 152) rfl) rfl
theorem w_4_153 : Cond.instanceMethod yX9_judge ∈ wt := mt4 (List.mem_of_getElem? (i := 153) rfl) rfl
theorem w_4_154 : Cond.selects RX9 yX9_judge yX9_judge ∈ wt := mt4 (List.mem_of_getElem? (i := 154) rfl) rfl
theorem w_4_155 : Cond.code yX9_judge cX9_judge 1 (some .int) ∈ wt := mt4 (List.mem_of_getElem? (i := 155) rfl) rfl
theorem w_4_156 : Cond.methodLink RX9 308 yX3_firstWrong ∈ wt := mt4 (List.mem_of_getElem? (i := 156) rfl) rfl
theorem w_4_157 : Cond.instanceMethod yX3_firstWrong ∈ wt := mt4 (List.mem_of_getElem? (i := 157) rfl) rfl
theorem w_4_158 : Cond.selects RX3 yX3_firstWrong yX3_firstWrong ∈ wt := mt4 (List.mem_of_getElem? (i := 158) rfl) rfl
theorem w_4_159 : Cond.code yX3_firstWrong cX3_firstWrong 3 (some .int) ∈ wt := mt4 (List.mem_of_getElem? (i := 159) rfl) rfl
theorem w_4_160 : Cond.methodLink RX3 69 yX7_spoons ∈ wt := mt4 (List.mem_of_getElem? (i := 160) rfl) rfl
theorem w_4_161 : Cond.methodLink RL 162 yX9_tear ∈ wt := mt4 (List.mem_of_getElem? (i := 161) rfl) rfl
theorem w_4_162 : Cond.instanceMethod yX9_tear ∈ wt := mt4 (List.mem_of_getElem? (i := 162) rfl) rfl
theorem w_4_163 : Cond.selects RX9 yX9_tear yX9_tear ∈ wt := mt4 (List.mem_of_getElem? (i := 163) rfl) rfl
theorem w_4_164 : Cond.code yX9_tear cX9_tear 2 (some .int) ∈ wt := mt4 (List.mem_of_getElem? (i := 164) rfl) rfl
theorem w_4_165 : Cond.methodLink RL 166 yX9_seed ∈ wt := mt4 (List.mem_of_getElem? (i := 165) rfl) rfl
theorem w_4_166 : Cond.instanceMethod yX9_seed ∈ wt := mt4 (List.mem_of_getElem? (i := 166) rfl) rfl
theorem w_4_167 : Cond.selects RX9 yX9_seed yX9_seed ∈ wt := mt4 (List.mem_of_getElem? (i := 167) rfl) rfl
theorem w_4_168 : Cond.code yX9_seed cX9_seed 3 (some .int) ∈ wt := mt4 (List.mem_of_getElem? (i := 168) rfl) rfl
theorem w_4_169 : Cond.methodLink RL 170 yX9_keep ∈ wt := mt4 (List.mem_of_getElem? (i := 169) rfl) rfl
theorem w_4_170 : Cond.instanceMethod yX9_keep ∈ wt := mt4 (List.mem_of_getElem? (i := 170) rfl) rfl
theorem w_4_171 : Cond.selects RX9 yX9_keep yX9_keep ∈ wt := mt4 (List.mem_of_getElem? (i := 171) rfl) rfl
theorem w_4_172 : Cond.code yX9_keep cX9_keep 2 (some .int) ∈ wt := mt4 (List.mem_of_getElem? (i := 172) rfl) rfl
theorem w_4_173 : Cond.methodLink RX9 315 yX2_take ∈ wt := mt4 (List.mem_of_getElem? (i := 173) rfl) rfl
theorem w_4_174 : Cond.instanceMethod yX2_take ∈ wt := mt4 (List.mem_of_getElem? (i := 174) rfl) rfl
theorem w_4_175 : Cond.selects RX2 yX2_take yX2_take ∈ wt := mt4 (List.mem_of_getElem? (i := 175) rfl) rfl
theorem w_4_176 : Cond.code yX2_take cX2_take 4 none ∈ wt := mt4 (List.mem_of_getElem? (i := 176) rfl) rfl
theorem w_4_177 : Cond.methodLink RX2 35 yX7_writeTo ∈ wt := mt4 (List.mem_of_getElem? (i := 177) rfl) rfl
theorem w_4_178 : Cond.methodLink RX2 39 yX6_set ∈ wt := mt4 (List.mem_of_getElem? (i := 178) rfl) rfl
theorem w_4_179 : Cond.methodLink RL 174 yX9_goBack ∈ wt := mt4 (List.mem_of_getElem? (i := 179) rfl) rfl
theorem w_4_180 : Cond.instanceMethod yX9_goBack ∈ wt := mt4 (List.mem_of_getElem? (i := 180) rfl) rfl
theorem w_4_181 : Cond.selects RX9 yX9_goBack yX9_goBack ∈ wt := mt4 (List.mem_of_getElem? (i := 181) rfl) rfl
theorem w_4_182 : Cond.code yX9_goBack cX9_goBack 2 (some .int) ∈ wt := mt4 (List.mem_of_getElem? (i := 182) rfl) rfl
theorem w_4_183 : Cond.methodLink RX9 319 yX2_isKept ∈ wt := mt4 (List.mem_of_getElem? (i := 183) rfl) rfl
theorem w_4_184 : Cond.instanceMethod yX2_isKept ∈ wt := mt4 (List.mem_of_getElem? (i := 184) rfl) rfl
theorem w_4_185 : Cond.selects RX2 yX2_isKept yX2_isKept ∈ wt := mt4 (List.mem_of_getElem? (i := 185) rfl) rfl
theorem w_4_186 : Cond.code yX2_isKept cX2_isKept 2 (some .boolean) ∈ wt := mt4 (List.mem_of_getElem? (i := 186) rfl) rfl
theorem w_4_187 : Cond.methodLink RX2 31 yX6_get ∈ wt := mt4 (List.mem_of_getElem? (i := 187) rfl) rfl
theorem w_4_188 : Cond.methodLink RX9 322 yX2_bringBack ∈ wt := mt4 (List.mem_of_getElem? (i := 188) rfl) rfl
theorem w_4_189 : Cond.instanceMethod yX2_bringBack ∈ wt := mt4 (List.mem_of_getElem? (i := 189) rfl) rfl
theorem w_4_190 : Cond.selects RX2 yX2_bringBack yX2_bringBack ∈ wt := mt4 (List.mem_of_getElem? (i := 190) rfl) rfl
theorem w_4_191 : Cond.code yX2_bringBack cX2_bringBack 3 none ∈ wt := mt4 (List.mem_of_getElem? (i := 191) rfl) rfl
theorem w_4_192 : Cond.methodLink RX2 43 yX7_readFrom ∈ wt := mt4 (List.mem_of_getElem? (i := 192) rfl) rfl
theorem w_4_193 : Cond.methodLink RX9 325 yX2_seedOf ∈ wt := mt4 (List.mem_of_getElem? (i := 193) rfl) rfl
theorem w_4_194 : Cond.instanceMethod yX2_seedOf ∈ wt := mt4 (List.mem_of_getElem? (i := 194) rfl) rfl
theorem w_4_195 : Cond.selects RX2 yX2_seedOf yX2_seedOf ∈ wt := mt4 (List.mem_of_getElem? (i := 195) rfl) rfl
theorem w_4_196 : Cond.code yX2_seedOf cX2_seedOf 2 (some .int) ∈ wt := mt4 (List.mem_of_getElem? (i := 196) rfl) rfl
theorem w_4_197 : Cond.classLink RL 10 RX10 ∈ wt := mt4 (List.mem_of_getElem? (i := 197) rfl) rfl
theorem w_4_198 : Cond.instantiable RX10 35 ∈ wt := mt4 (List.mem_of_getElem? (i := 198) rfl) rfl
theorem w_4_199 : Cond.methodLink RL 12 yX10_init ∈ wt := mt4 (List.mem_of_getElem? (i := 199) rfl) rfl
theorem w_4_200 : Cond.instanceMethod yX10_init ∈ wt := mt4 (List.mem_of_getElem? (i := 200) rfl) rfl
theorem w_4_201 : Cond.code yX10_init cX10_init 1 none ∈ wt := mt4 (List.mem_of_getElem? (i := 201) rfl) rfl
theorem w_4_202 : Cond.methodLink RX10 1 objectInit ∈ wt := mt4 (List.mem_of_getElem? (i := 202) rfl) rfl
theorem w_4_203 : Cond.fieldLink RX10 71 "SaltLinesModel" "letters" "I" ∈ wt := mt4 (List.mem_of_getElem? (i := 203) rfl) rfl
theorem w_4_204 : Cond.fieldLink RX10 7 "SaltLinesModel" "text" "[I" ∈ wt := mt4 (List.mem_of_getElem? (i := 204) rfl) rfl
theorem w_4_205 : Cond.fieldLink RX10 75 "SaltLinesModel" "position" "I" ∈ wt := mt4 (List.mem_of_getElem? (i := 205) rfl) rfl
theorem w_4_206 : Cond.fieldLink RX10 78 "SaltLinesModel" "tokenAt" "I" ∈ wt := mt4 (List.mem_of_getElem? (i := 206) rfl) rfl
theorem w_4_207 : Cond.fieldLink RX10 87 "SaltLinesModel" "token" "I" ∈ wt := mt4 (List.mem_of_getElem? (i := 207) rfl) rfl
theorem w_4_208 : Cond.fieldLink RX10 81 "SaltLinesModel" "number" "I" ∈ wt := mt4 (List.mem_of_getElem? (i := 208) rfl) rfl
theorem w_4_209 : Cond.fieldLink RX10 84 "SaltLinesModel" "figures" "I" ∈ wt := mt4 (List.mem_of_getElem? (i := 209) rfl) rfl
theorem w_4_210 : Cond.fieldLink RX10 13 "SaltLinesModel" "faultAt" "I" ∈ wt := mt4 (List.mem_of_getElem? (i := 210) rfl) rfl
theorem w_4_211 : Cond.fieldLink RX10 90 "SaltLinesModel" "faultIs" "I" ∈ wt := mt4 (List.mem_of_getElem? (i := 211) rfl) rfl
theorem w_4_212 : Cond.fieldLink RX10 104 "SaltLinesModel" "readRooms" "I" ∈ wt := mt4 (List.mem_of_getElem? (i := 212) rfl) rfl
theorem w_4_213 : Cond.fieldLink RX10 107 "SaltLinesModel" "readStore" "I" ∈ wt := mt4 (List.mem_of_getElem? (i := 213) rfl) rfl
theorem w_4_214 : Cond.fieldLink RX10 110 "SaltLinesModel" "readRains" "I" ∈ wt := mt4 (List.mem_of_getElem? (i := 214) rfl) rfl
theorem w_4_215 : Cond.fieldLink RX10 113 "SaltLinesModel" "readDoors" "I" ∈ wt := mt4 (List.mem_of_getElem? (i := 215) rfl) rfl
theorem w_4_216 : Cond.fieldLink RX10 120 "SaltLinesModel" "readPersons" "I" ∈ wt := mt4 (List.mem_of_getElem? (i := 216) rfl) rfl
theorem w_4_217 : Cond.fieldLink RX10 17 "SaltLinesModel" "readRain" "[I" ∈ wt := mt4 (List.mem_of_getElem? (i := 217) rfl) rfl
theorem w_4_218 : Cond.fieldLink RX10 20 "SaltLinesModel" "readDoor" "[I" ∈ wt := mt4 (List.mem_of_getElem? (i := 218) rfl) rfl
theorem w_4_219 : Cond.fieldLink RX10 23 "SaltLinesModel" "readPerson" "[I" ∈ wt := mt4 (List.mem_of_getElem? (i := 219) rfl) rfl
theorem w_4_220 : Cond.fieldLink RX10 57 "SaltLinesModel" "rooms" "I" ∈ wt := mt4 (List.mem_of_getElem? (i := 220) rfl) rfl
theorem w_4_221 : Cond.fieldLink RX10 138 "SaltLinesModel" "rains" "I" ∈ wt := mt4 (List.mem_of_getElem? (i := 221) rfl) rfl
theorem w_4_222 : Cond.fieldLink RX10 64 "SaltLinesModel" "doors" "I" ∈ wt := mt4 (List.mem_of_getElem? (i := 222) rfl) rfl
theorem w_4_223 : Cond.fieldLink RX10 67 "SaltLinesModel" "persons" "I" ∈ wt := mt4 (List.mem_of_getElem? (i := 223) rfl) rfl
theorem w_4_224 : Cond.fieldLink RX10 26 "SaltLinesModel" "rain" "[I" ∈ wt := mt4 (List.mem_of_getElem? (i := 224) rfl) rfl
theorem w_4_225 : Cond.fieldLink RX10 29 "SaltLinesModel" "door" "[I" ∈ wt := mt4 (List.mem_of_getElem? (i := 225) rfl) rfl
theorem w_4_226 : Cond.fieldLink RX10 32 "SaltLinesModel" "now" "[I" ∈ wt := mt4 (List.mem_of_getElem? (i := 226) rfl) rfl
theorem w_4_227 : Cond.fieldLink RX10 35 "SaltLinesModel" "tried" "[I" ∈ wt := mt4 (List.mem_of_getElem? (i := 227) rfl) rfl
theorem w_4_228 : Cond.fieldLink RX10 38 "SaltLinesModel" "backOf" "[I" ∈ wt := mt4 (List.mem_of_getElem? (i := 228) rfl) rfl
theorem w_4_229 : Cond.fieldLink RX10 151 "SaltLinesModel" "backs" "I" ∈ wt := mt4 (List.mem_of_getElem? (i := 229) rfl) rfl
theorem w_4_230 : Cond.fieldLink RX10 41 "SaltLinesModel" "image" "[I" ∈ wt := mt4 (List.mem_of_getElem? (i := 230) rfl) rfl
theorem w_4_231 : Cond.fieldLink RX10 44 "SaltLinesModel" "imageSeed" "[I" ∈ wt := mt4 (List.mem_of_getElem? (i := 231) rfl) rfl
theorem w_4_232 : Cond.fieldLink RX10 47 "SaltLinesModel" "isKept" "[Z" ∈ wt := mt4 (List.mem_of_getElem? (i := 232) rfl) rfl
theorem w_4_233 : Cond.fieldLink RX10 224 "SaltLinesModel" "seed" "I" ∈ wt := mt4 (List.mem_of_getElem? (i := 233) rfl) rfl
theorem w_4_234 : Cond.fieldLink RX10 145 "SaltLinesModel" "seen" "I" ∈ wt := mt4 (List.mem_of_getElem? (i := 234) rfl) rfl
theorem w_4_235 : Cond.fieldLink RX10 51 "SaltLinesModel" "sight" "[I" ∈ wt := mt4 (List.mem_of_getElem? (i := 235) rfl) rfl
theorem w_4_236 : Cond.fieldLink RX10 148 "SaltLinesModel" "entries" "I" ∈ wt := mt4 (List.mem_of_getElem? (i := 236) rfl) rfl
theorem w_4_237 : Cond.fieldLink RX10 54 "SaltLinesModel" "entry" "[I" ∈ wt := mt4 (List.mem_of_getElem? (i := 237) rfl) rfl
theorem w_4_238 : Cond.lays RX10 "SaltLinesModel" "letters" "I" ∈ wt := mt4 (List.mem_of_getElem? (i := 238) rfl) rfl
theorem w_5_0 : Cond.laysFinal RX10 "SaltLinesModel" "text" "[I" ∈ wt := mt5 (List.mem_of_getElem? (i := 0) rfl) rfl
theorem w_5_2 : Cond.lays RX10 "SaltLinesModel" "position" "I" ∈ wt := mt5 (List.mem_of_getElem? (i := 2) rfl) rfl
theorem w_5_4 : Cond.lays RX10 "SaltLinesModel" "tokenAt" "I" ∈ wt := mt5 (List.mem_of_getElem? (i := 4) rfl) rfl
theorem w_5_6 : Cond.lays RX10 "SaltLinesModel" "token" "I" ∈ wt := mt5 (List.mem_of_getElem? (i := 6) rfl) rfl
theorem w_5_8 : Cond.lays RX10 "SaltLinesModel" "number" "I" ∈ wt := mt5 (List.mem_of_getElem? (i := 8) rfl) rfl
theorem w_5_10 : Cond.lays RX10 "SaltLinesModel" "figures" "I" ∈ wt := mt5 (List.mem_of_getElem? (i := 10) rfl) rfl
theorem w_5_12 : Cond.lays RX10 "SaltLinesModel" "faultAt" "I" ∈ wt := mt5 (List.mem_of_getElem? (i := 12) rfl) rfl
theorem w_5_14 : Cond.lays RX10 "SaltLinesModel" "faultIs" "I" ∈ wt := mt5 (List.mem_of_getElem? (i := 14) rfl) rfl
theorem w_5_16 : Cond.lays RX10 "SaltLinesModel" "readRooms" "I" ∈ wt := mt5 (List.mem_of_getElem? (i := 16) rfl) rfl
theorem w_5_18 : Cond.lays RX10 "SaltLinesModel" "readStore" "I" ∈ wt := mt5 (List.mem_of_getElem? (i := 18) rfl) rfl
theorem w_5_20 : Cond.lays RX10 "SaltLinesModel" "readRains" "I" ∈ wt := mt5 (List.mem_of_getElem? (i := 20) rfl) rfl
theorem w_5_22 : Cond.lays RX10 "SaltLinesModel" "readDoors" "I" ∈ wt := mt5 (List.mem_of_getElem? (i := 22) rfl) rfl
theorem w_5_24 : Cond.lays RX10 "SaltLinesModel" "readPersons" "I" ∈ wt := mt5 (List.mem_of_getElem? (i := 24) rfl) rfl
theorem w_5_26 : Cond.laysFinal RX10 "SaltLinesModel" "readRain" "[I" ∈ wt := mt5 (List.mem_of_getElem? (i := 26) rfl) rfl
theorem w_5_28 : Cond.laysFinal RX10 "SaltLinesModel" "readDoor" "[I" ∈ wt := mt5 (List.mem_of_getElem? (i := 28) rfl) rfl
theorem w_5_30 : Cond.laysFinal RX10 "SaltLinesModel" "readPerson" "[I" ∈ wt := mt5 (List.mem_of_getElem? (i := 30) rfl) rfl
theorem w_5_32 : Cond.lays RX10 "SaltLinesModel" "rooms" "I" ∈ wt := mt5 (List.mem_of_getElem? (i := 32) rfl) rfl
theorem w_5_34 : Cond.lays RX10 "SaltLinesModel" "rains" "I" ∈ wt := mt5 (List.mem_of_getElem? (i := 34) rfl) rfl
theorem w_5_36 : Cond.lays RX10 "SaltLinesModel" "doors" "I" ∈ wt := mt5 (List.mem_of_getElem? (i := 36) rfl) rfl
theorem w_5_38 : Cond.lays RX10 "SaltLinesModel" "persons" "I" ∈ wt := mt5 (List.mem_of_getElem? (i := 38) rfl) rfl
theorem w_5_40 : Cond.laysFinal RX10 "SaltLinesModel" "rain" "[I" ∈ wt := mt5 (List.mem_of_getElem? (i := 40) rfl) rfl
theorem w_5_42 : Cond.laysFinal RX10 "SaltLinesModel" "door" "[I" ∈ wt := mt5 (List.mem_of_getElem? (i := 42) rfl) rfl
theorem w_5_44 : Cond.laysFinal RX10 "SaltLinesModel" "now" "[I" ∈ wt := mt5 (List.mem_of_getElem? (i := 44) rfl) rfl
theorem w_5_46 : Cond.laysFinal RX10 "SaltLinesModel" "tried" "[I" ∈ wt := mt5 (List.mem_of_getElem? (i := 46) rfl) rfl
theorem w_5_48 : Cond.laysFinal RX10 "SaltLinesModel" "backOf" "[I" ∈ wt := mt5 (List.mem_of_getElem? (i := 48) rfl) rfl
theorem w_5_50 : Cond.lays RX10 "SaltLinesModel" "backs" "I" ∈ wt := mt5 (List.mem_of_getElem? (i := 50) rfl) rfl
theorem w_5_52 : Cond.laysFinal RX10 "SaltLinesModel" "image" "[I" ∈ wt := mt5 (List.mem_of_getElem? (i := 52) rfl) rfl
theorem w_5_54 : Cond.laysFinal RX10 "SaltLinesModel" "imageSeed" "[I" ∈ wt := mt5 (List.mem_of_getElem? (i := 54) rfl) rfl
theorem w_5_56 : Cond.laysFinal RX10 "SaltLinesModel" "isKept" "[Z" ∈ wt := mt5 (List.mem_of_getElem? (i := 56) rfl) rfl
theorem w_5_58 : Cond.lays RX10 "SaltLinesModel" "seed" "I" ∈ wt := mt5 (List.mem_of_getElem? (i := 58) rfl) rfl
theorem w_5_60 : Cond.lays RX10 "SaltLinesModel" "seen" "I" ∈ wt := mt5 (List.mem_of_getElem? (i := 60) rfl) rfl
theorem w_5_62 : Cond.laysFinal RX10 "SaltLinesModel" "sight" "[I" ∈ wt := mt5 (List.mem_of_getElem? (i := 62) rfl) rfl
theorem w_5_64 : Cond.lays RX10 "SaltLinesModel" "entries" "I" ∈ wt := mt5 (List.mem_of_getElem? (i := 64) rfl) rfl
theorem w_5_66 : Cond.laysFinal RX10 "SaltLinesModel" "entry" "[I" ∈ wt := mt5 (List.mem_of_getElem? (i := 66) rfl) rfl
theorem w_5_69 : Cond.arrayClass .boolean ∈ wt := mt5 (List.mem_of_getElem? (i := 69) rfl) rfl
theorem w_5_70 : Cond.methodLink RL 17 yX10_feed ∈ wt := mt5 (List.mem_of_getElem? (i := 70) rfl) rfl
theorem w_5_71 : Cond.instanceMethod yX10_feed ∈ wt := mt5 (List.mem_of_getElem? (i := 71) rfl) rfl
theorem w_5_72 : Cond.selects RX10 yX10_feed yX10_feed ∈ wt := mt5 (List.mem_of_getElem? (i := 72) rfl) rfl
theorem w_5_73 : Cond.code yX10_feed cX10_feed 2 (some .int) ∈ wt := mt5 (List.mem_of_getElem? (i := 73) rfl) rfl
theorem w_5_74 : Cond.methodLink RX10 60 yX10_in ∈ wt := mt5 (List.mem_of_getElem? (i := 74) rfl) rfl
theorem w_5_75 : Cond.static yX10_in ∈ wt := mt5 (List.mem_of_getElem? (i := 75) rfl) rfl
theorem w_5_76 : Cond.code yX10_in cX10_in 3 (some .boolean) ∈ wt := mt5 (List.mem_of_getElem? (i := 76) rfl) rfl
theorem w_5_77 : Cond.constant RX10 70 (-1000000002) ∈ wt := mt5 (List.mem_of_getElem? (i := 77) rfl) rfl
theorem w_5_78 : Cond.constant RX10 74 (-1000000004) ∈ wt := mt5 (List.mem_of_getElem? (i := 78) rfl) rfl
theorem w_5_79 : Cond.methodLink RL 22 yX10_house ∈ wt := mt5 (List.mem_of_getElem? (i := 79) rfl) rfl
theorem w_5_80 : Cond.instanceMethod yX10_house ∈ wt := mt5 (List.mem_of_getElem? (i := 80) rfl) rfl
theorem w_5_81 : Cond.selects RX10 yX10_house yX10_house ∈ wt := mt5 (List.mem_of_getElem? (i := 81) rfl) rfl
theorem w_5_82 : Cond.code yX10_house cX10_house 3 (some .int) ∈ wt := mt5 (List.mem_of_getElem? (i := 82) rfl) rfl
theorem w_5_83 : Cond.methodLink RX10 135 yX10_isRead ∈ wt := mt5 (List.mem_of_getElem? (i := 83) rfl) rfl
theorem w_5_85 : Cond.instanceMethod yX10_isRead ∈ wt := mt5 (List.mem_of_getElem? (i := 85) rfl) rfl
theorem w_5_86 : Cond.code yX10_isRead cX10_isRead 1 (some .boolean) ∈ wt := mt5 (List.mem_of_getElem? (i := 86) rfl) rfl
theorem w_5_87 : Cond.methodLink RX10 93 yX10_nextToken ∈ wt := mt5 (List.mem_of_getElem? (i := 87) rfl) rfl
theorem w_5_89 : Cond.instanceMethod yX10_nextToken ∈ wt := mt5 (List.mem_of_getElem? (i := 89) rfl) rfl
theorem w_5_90 : Cond.code yX10_nextToken cX10_nextToken 1 none ∈ wt := mt5 (List.mem_of_getElem? (i := 90) rfl) rfl
theorem w_5_91 : Cond.methodLink RX10 132 yX10_isClause ∈ wt := mt5 (List.mem_of_getElem? (i := 91) rfl) rfl
theorem w_5_93 : Cond.instanceMethod yX10_isClause ∈ wt := mt5 (List.mem_of_getElem? (i := 93) rfl) rfl
theorem w_5_94 : Cond.code yX10_isClause cX10_isClause 1 (some .boolean) ∈ wt := mt5 (List.mem_of_getElem? (i := 94) rfl) rfl
theorem w_5_95 : Cond.methodLink RX10 96 yX10_fails ∈ wt := mt5 (List.mem_of_getElem? (i := 95) rfl) rfl
theorem w_5_97 : Cond.instanceMethod yX10_fails ∈ wt := mt5 (List.mem_of_getElem? (i := 97) rfl) rfl
theorem w_5_98 : Cond.code yX10_fails cX10_fails 2 (some .boolean) ∈ wt := mt5 (List.mem_of_getElem? (i := 98) rfl) rfl
theorem w_5_99 : Cond.methodLink RX10 123 yX10_isHead ∈ wt := mt5 (List.mem_of_getElem? (i := 99) rfl) rfl
theorem w_5_101 : Cond.instanceMethod yX10_isHead ∈ wt := mt5 (List.mem_of_getElem? (i := 101) rfl) rfl
theorem w_5_102 : Cond.code yX10_isHead cX10_isHead 1 (some .boolean) ∈ wt := mt5 (List.mem_of_getElem? (i := 102) rfl) rfl
theorem w_5_103 : Cond.methodLink RX10 100 yX10_isNumber ∈ wt := mt5 (List.mem_of_getElem? (i := 103) rfl) rfl
theorem w_5_105 : Cond.instanceMethod yX10_isNumber ∈ wt := mt5 (List.mem_of_getElem? (i := 105) rfl) rfl
theorem w_5_106 : Cond.code yX10_isNumber cX10_isNumber 3 (some .boolean) ∈ wt := mt5 (List.mem_of_getElem? (i := 106) rfl) rfl
theorem w_5_107 : Cond.methodLink RX10 126 yX10_isDoorItem ∈ wt := mt5 (List.mem_of_getElem? (i := 107) rfl) rfl
theorem w_5_109 : Cond.instanceMethod yX10_isDoorItem ∈ wt := mt5 (List.mem_of_getElem? (i := 109) rfl) rfl
theorem w_5_110 : Cond.code yX10_isDoorItem cX10_isDoorItem 6 (some .boolean) ∈ wt := mt5 (List.mem_of_getElem? (i := 110) rfl) rfl
theorem w_5_111 : Cond.methodLink RX10 116 yX10_isEnd ∈ wt := mt5 (List.mem_of_getElem? (i := 111) rfl) rfl
theorem w_5_113 : Cond.instanceMethod yX10_isEnd ∈ wt := mt5 (List.mem_of_getElem? (i := 113) rfl) rfl
theorem w_5_114 : Cond.code yX10_isEnd cX10_isEnd 1 (some .boolean) ∈ wt := mt5 (List.mem_of_getElem? (i := 114) rfl) rfl
theorem w_5_115 : Cond.methodLink RX10 129 yX10_isPersonItem ∈ wt := mt5 (List.mem_of_getElem? (i := 115) rfl) rfl
theorem w_5_117 : Cond.instanceMethod yX10_isPersonItem ∈ wt := mt5 (List.mem_of_getElem? (i := 117) rfl) rfl
theorem w_5_118 : Cond.code yX10_isPersonItem cX10_isPersonItem 1 (some .boolean) ∈ wt := mt5 (List.mem_of_getElem? (i := 118) rfl) rfl
theorem w_5_119 : Cond.methodLink RX10 141 yX10_bring ∈ wt := mt5 (List.mem_of_getElem? (i := 119) rfl) rfl
theorem w_5_120 : Cond.static yX10_bring ∈ wt := mt5 (List.mem_of_getElem? (i := 120) rfl) rfl
theorem w_5_121 : Cond.code yX10_bring cX10_bring 6 none ∈ wt := mt5 (List.mem_of_getElem? (i := 121) rfl) rfl
theorem w_5_122 : Cond.methodLink RL 26 yX10_fault ∈ wt := mt5 (List.mem_of_getElem? (i := 122) rfl) rfl
theorem w_5_123 : Cond.instanceMethod yX10_fault ∈ wt := mt5 (List.mem_of_getElem? (i := 123) rfl) rfl
theorem w_5_124 : Cond.selects RX10 yX10_fault yX10_fault ∈ wt := mt5 (List.mem_of_getElem? (i := 124) rfl) rfl
theorem w_5_125 : Cond.code yX10_fault cX10_fault 1 (some .int) ∈ wt := mt5 (List.mem_of_getElem? (i := 125) rfl) rfl
theorem w_5_126 : Cond.methodLink RL 30 yX10_told ∈ wt := mt5 (List.mem_of_getElem? (i := 126) rfl) rfl
theorem w_5_127 : Cond.instanceMethod yX10_told ∈ wt := mt5 (List.mem_of_getElem? (i := 127) rfl) rfl
theorem w_5_128 : Cond.selects RX10 yX10_told yX10_told ∈ wt := mt5 (List.mem_of_getElem? (i := 128) rfl) rfl
theorem w_5_129 : Cond.code yX10_told cX10_told 2 (some .int) ∈ wt := mt5 (List.mem_of_getElem? (i := 129) rfl) rfl
theorem w_5_130 : Cond.methodLink RX10 172 yX10_allCrossed ∈ wt := mt5 (List.mem_of_getElem? (i := 130) rfl) rfl
theorem w_5_132 : Cond.instanceMethod yX10_allCrossed ∈ wt := mt5 (List.mem_of_getElem? (i := 132) rfl) rfl
theorem w_5_133 : Cond.code yX10_allCrossed cX10_allCrossed 3 (some .int) ∈ wt := mt5 (List.mem_of_getElem? (i := 133) rfl) rfl
theorem w_5_134 : Cond.methodLink RX10 176 yX10_shutIn ∈ wt := mt5 (List.mem_of_getElem? (i := 134) rfl) rfl
theorem w_5_136 : Cond.instanceMethod yX10_shutIn ∈ wt := mt5 (List.mem_of_getElem? (i := 136) rfl) rfl
theorem w_5_137 : Cond.code yX10_shutIn cX10_shutIn 3 (some .int) ∈ wt := mt5 (List.mem_of_getElem? (i := 137) rfl) rfl
theorem w_5_138 : Cond.methodLink RX10 168 yX10_comesOf ∈ wt := mt5 (List.mem_of_getElem? (i := 138) rfl) rfl
theorem w_5_140 : Cond.instanceMethod yX10_comesOf ∈ wt := mt5 (List.mem_of_getElem? (i := 140) rfl) rfl
theorem w_5_141 : Cond.code yX10_comesOf cX10_comesOf 2 (some .int) ∈ wt := mt5 (List.mem_of_getElem? (i := 141) rfl) rfl
theorem w_5_142 : Cond.methodLink RX10 154 yX10_illOf ∈ wt := mt5 (List.mem_of_getElem? (i := 142) rfl) rfl
theorem w_5_143 : Cond.static yX10_illOf ∈ wt := mt5 (List.mem_of_getElem? (i := 143) rfl) rfl
theorem w_5_144 : Cond.code yX10_illOf cX10_illOf 2 (some .int) ∈ wt := mt5 (List.mem_of_getElem? (i := 144) rfl) rfl
theorem w_5_145 : Cond.methodLink RX10 164 yX10_comesBy ∈ wt := mt5 (List.mem_of_getElem? (i := 145) rfl) rfl
theorem w_5_147 : Cond.instanceMethod yX10_comesBy ∈ wt := mt5 (List.mem_of_getElem? (i := 147) rfl) rfl
theorem w_5_148 : Cond.code yX10_comesBy cX10_comesBy 10 (some .int) ∈ wt := mt5 (List.mem_of_getElem? (i := 148) rfl) rfl
theorem w_5_149 : Cond.methodLink RX10 161 yX10_has ∈ wt := mt5 (List.mem_of_getElem? (i := 149) rfl) rfl
theorem w_5_150 : Cond.static yX10_has ∈ wt := mt5 (List.mem_of_getElem? (i := 150) rfl) rfl
theorem w_5_151 : Cond.code yX10_has cX10_has 2 (some .boolean) ∈ wt := mt5 (List.mem_of_getElem? (i := 151) rfl) rfl
theorem w_5_152 : Cond.methodLink RX10 158 yX10_stopsBy ∈ wt := mt5 (List.mem_of_getElem? (i := 152) rfl) rfl
theorem w_5_153 : Cond.static yX10_stopsBy ∈ wt := mt5 (List.mem_of_getElem? (i := 153) rfl) rfl
theorem w_5_154 : Cond.code yX10_stopsBy cX10_stopsBy 2 (some .boolean) ∈ wt := mt5 (List.mem_of_getElem? (i := 154) rfl) rfl
theorem w_5_155 : Cond.methodLink RX10 179 yX10_allSpoons ∈ wt := mt5 (List.mem_of_getElem? (i := 155) rfl) rfl
theorem w_5_157 : Cond.instanceMethod yX10_allSpoons ∈ wt := mt5 (List.mem_of_getElem? (i := 157) rfl) rfl
theorem w_5_158 : Cond.code yX10_allSpoons cX10_allSpoons 3 (some .int) ∈ wt := mt5 (List.mem_of_getElem? (i := 158) rfl) rfl
theorem w_5_159 : Cond.methodLink RL 35 yX10_door ∈ wt := mt5 (List.mem_of_getElem? (i := 159) rfl) rfl
theorem w_5_160 : Cond.instanceMethod yX10_door ∈ wt := mt5 (List.mem_of_getElem? (i := 160) rfl) rfl
theorem w_5_161 : Cond.selects RX10 yX10_door yX10_door ∈ wt := mt5 (List.mem_of_getElem? (i := 161) rfl) rfl
theorem w_5_162 : Cond.code yX10_door cX10_door 5 (some .int) ∈ wt := mt5 (List.mem_of_getElem? (i := 162) rfl) rfl
theorem w_5_163 : Cond.methodLink RX10 182 yX10_isDoor ∈ wt := mt5 (List.mem_of_getElem? (i := 163) rfl) rfl
theorem w_5_165 : Cond.instanceMethod yX10_isDoor ∈ wt := mt5 (List.mem_of_getElem? (i := 165) rfl) rfl
theorem w_5_166 : Cond.code yX10_isDoor cX10_isDoor 2 (some .boolean) ∈ wt := mt5 (List.mem_of_getElem? (i := 166) rfl) rfl
theorem w_5_167 : Cond.constant RX10 185 (-1000000001) ∈ wt := mt5 (List.mem_of_getElem? (i := 167) rfl) rfl
theorem w_5_168 : Cond.methodLink RX10 186 yX10_stopsIn ∈ wt := mt5 (List.mem_of_getElem? (i := 168) rfl) rfl
theorem w_5_169 : Cond.static yX10_stopsIn ∈ wt := mt5 (List.mem_of_getElem? (i := 169) rfl) rfl
theorem w_5_170 : Cond.code yX10_stopsIn cX10_stopsIn 3 (some .boolean) ∈ wt := mt5 (List.mem_of_getElem? (i := 170) rfl) rfl
theorem w_5_171 : Cond.methodLink RL 39 yX10_person ∈ wt := mt5 (List.mem_of_getElem? (i := 171) rfl) rfl
theorem w_5_172 : Cond.instanceMethod yX10_person ∈ wt := mt5 (List.mem_of_getElem? (i := 172) rfl) rfl
theorem w_5_173 : Cond.selects RX10 yX10_person yX10_person ∈ wt := mt5 (List.mem_of_getElem? (i := 173) rfl) rfl
theorem w_5_174 : Cond.code yX10_person cX10_person 3 (some .int) ∈ wt := mt5 (List.mem_of_getElem? (i := 174) rfl) rfl
theorem w_5_175 : Cond.methodLink RX10 190 yX10_isPerson ∈ wt := mt5 (List.mem_of_getElem? (i := 175) rfl) rfl
theorem w_5_177 : Cond.instanceMethod yX10_isPerson ∈ wt := mt5 (List.mem_of_getElem? (i := 177) rfl) rfl
theorem w_5_178 : Cond.code yX10_isPerson cX10_isPerson 2 (some .boolean) ∈ wt := mt5 (List.mem_of_getElem? (i := 178) rfl) rfl
theorem w_5_179 : Cond.methodLink RL 43 yX10_room ∈ wt := mt5 (List.mem_of_getElem? (i := 179) rfl) rfl
theorem w_5_180 : Cond.instanceMethod yX10_room ∈ wt := mt5 (List.mem_of_getElem? (i := 180) rfl) rfl
theorem w_5_181 : Cond.selects RX10 yX10_room yX10_room ∈ wt := mt5 (List.mem_of_getElem? (i := 181) rfl) rfl
theorem w_5_182 : Cond.code yX10_room cX10_room 4 (some .int) ∈ wt := mt5 (List.mem_of_getElem? (i := 182) rfl) rfl
theorem w_5_183 : Cond.methodLink RX10 193 yX10_isRoom ∈ wt := mt5 (List.mem_of_getElem? (i := 183) rfl) rfl
theorem w_5_185 : Cond.instanceMethod yX10_isRoom ∈ wt := mt5 (List.mem_of_getElem? (i := 185) rfl) rfl
theorem w_5_186 : Cond.code yX10_isRoom cX10_isRoom 2 (some .boolean) ∈ wt := mt5 (List.mem_of_getElem? (i := 186) rfl) rfl
theorem w_5_187 : Cond.methodLink RL 47 yX10_rain ∈ wt := mt5 (List.mem_of_getElem? (i := 187) rfl) rfl
theorem w_5_188 : Cond.instanceMethod yX10_rain ∈ wt := mt5 (List.mem_of_getElem? (i := 188) rfl) rfl
theorem w_5_189 : Cond.selects RX10 yX10_rain yX10_rain ∈ wt := mt5 (List.mem_of_getElem? (i := 189) rfl) rfl
theorem w_5_190 : Cond.code yX10_rain cX10_rain 2 (some .int) ∈ wt := mt5 (List.mem_of_getElem? (i := 190) rfl) rfl
theorem w_5_191 : Cond.constant RX10 196 (-1000000003) ∈ wt := mt5 (List.mem_of_getElem? (i := 191) rfl) rfl
theorem w_5_192 : Cond.methodLink RX10 197 yX10_rainAt ∈ wt := mt5 (List.mem_of_getElem? (i := 192) rfl) rfl
theorem w_5_194 : Cond.instanceMethod yX10_rainAt ∈ wt := mt5 (List.mem_of_getElem? (i := 194) rfl) rfl
theorem w_5_195 : Cond.code yX10_rainAt cX10_rainAt 2 (some .int) ∈ wt := mt5 (List.mem_of_getElem? (i := 195) rfl) rfl
theorem w_5_196 : Cond.methodLink RL 51 yX10_hour ∈ wt := mt5 (List.mem_of_getElem? (i := 196) rfl) rfl
theorem w_5_197 : Cond.instanceMethod yX10_hour ∈ wt := mt5 (List.mem_of_getElem? (i := 197) rfl) rfl
theorem w_5_198 : Cond.selects RX10 yX10_hour yX10_hour ∈ wt := mt5 (List.mem_of_getElem? (i := 198) rfl) rfl
theorem w_5_199 : Cond.code yX10_hour cX10_hour 3 (some .int) ∈ wt := mt5 (List.mem_of_getElem? (i := 199) rfl) rfl
theorem w_5_200 : Cond.methodLink RX10 205 yX10_noHours ∈ wt := mt5 (List.mem_of_getElem? (i := 200) rfl) rfl
theorem w_5_202 : Cond.instanceMethod yX10_noHours ∈ wt := mt5 (List.mem_of_getElem? (i := 202) rfl) rfl
theorem w_5_203 : Cond.code yX10_noHours cX10_noHours 2 (some .int) ∈ wt := mt5 (List.mem_of_getElem? (i := 203) rfl) rfl
theorem w_5_204 : Cond.constant RX10 204 (90000) ∈ wt := mt5 (List.mem_of_getElem? (i := 204) rfl) rfl
theorem w_5_205 : Cond.methodLink RX10 208 yX10_note ∈ wt := mt5 (List.mem_of_getElem? (i := 205) rfl) rfl
theorem w_5_207 : Cond.instanceMethod yX10_note ∈ wt := mt5 (List.mem_of_getElem? (i := 207) rfl) rfl
theorem w_5_208 : Cond.code yX10_note cX10_note 1 none ∈ wt := mt5 (List.mem_of_getElem? (i := 208) rfl) rfl
theorem w_5_209 : Cond.methodLink RX10 211 yX10_goBy ∈ wt := mt5 (List.mem_of_getElem? (i := 209) rfl) rfl
theorem w_5_211 : Cond.instanceMethod yX10_goBy ∈ wt := mt5 (List.mem_of_getElem? (i := 211) rfl) rfl
theorem w_5_212 : Cond.code yX10_goBy cX10_goBy 2 none ∈ wt := mt5 (List.mem_of_getElem? (i := 212) rfl) rfl
theorem w_5_213 : Cond.methodLink RX10 200 yX10_lessBy ∈ wt := mt5 (List.mem_of_getElem? (i := 213) rfl) rfl
theorem w_5_214 : Cond.static yX10_lessBy ∈ wt := mt5 (List.mem_of_getElem? (i := 214) rfl) rfl
theorem w_5_215 : Cond.code yX10_lessBy cX10_lessBy 2 (some .int) ∈ wt := mt5 (List.mem_of_getElem? (i := 215) rfl) rfl
theorem w_5_216 : Cond.methodLink RL 55 yX10_step ∈ wt := mt5 (List.mem_of_getElem? (i := 216) rfl) rfl
theorem w_5_217 : Cond.instanceMethod yX10_step ∈ wt := mt5 (List.mem_of_getElem? (i := 217) rfl) rfl
theorem w_5_218 : Cond.selects RX10 yX10_step yX10_step ∈ wt := mt5 (List.mem_of_getElem? (i := 218) rfl) rfl
theorem w_5_219 : Cond.code yX10_step cX10_step 3 (some .int) ∈ wt := mt5 (List.mem_of_getElem? (i := 219) rfl) rfl
theorem w_5_220 : Cond.methodLink RX10 214 yX10_isAt ∈ wt := mt5 (List.mem_of_getElem? (i := 220) rfl) rfl
theorem w_5_222 : Cond.instanceMethod yX10_isAt ∈ wt := mt5 (List.mem_of_getElem? (i := 222) rfl) rfl
theorem w_5_223 : Cond.code yX10_isAt cX10_isAt 3 (some .boolean) ∈ wt := mt5 (List.mem_of_getElem? (i := 223) rfl) rfl
theorem w_5_224 : Cond.methodLink RX10 217 yX10_steps ∈ wt := mt5 (List.mem_of_getElem? (i := 224) rfl) rfl
theorem w_5_226 : Cond.instanceMethod yX10_steps ∈ wt := mt5 (List.mem_of_getElem? (i := 226) rfl) rfl
theorem w_5_227 : Cond.code yX10_steps cX10_steps 3 none ∈ wt := mt5 (List.mem_of_getElem? (i := 227) rfl) rfl
theorem w_5_228 : Cond.methodLink RL 59 yX10_lay ∈ wt := mt5 (List.mem_of_getElem? (i := 228) rfl) rfl
theorem w_5_229 : Cond.instanceMethod yX10_lay ∈ wt := mt5 (List.mem_of_getElem? (i := 229) rfl) rfl
theorem w_5_230 : Cond.selects RX10 yX10_lay yX10_lay ∈ wt := mt5 (List.mem_of_getElem? (i := 230) rfl) rfl
theorem w_5_231 : Cond.code yX10_lay cX10_lay 3 (some .int) ∈ wt := mt5 (List.mem_of_getElem? (i := 231) rfl) rfl
theorem w_5_232 : Cond.methodLink RL 63 yX10_sweep ∈ wt := mt5 (List.mem_of_getElem? (i := 232) rfl) rfl
theorem w_5_233 : Cond.instanceMethod yX10_sweep ∈ wt := mt5 (List.mem_of_getElem? (i := 233) rfl) rfl
theorem w_5_234 : Cond.selects RX10 yX10_sweep yX10_sweep ∈ wt := mt5 (List.mem_of_getElem? (i := 234) rfl) rfl
theorem w_5_235 : Cond.code yX10_sweep cX10_sweep 2 (some .int) ∈ wt := mt5 (List.mem_of_getElem? (i := 235) rfl) rfl
theorem w_5_236 : Cond.methodLink RX10 221 yX10_capped ∈ wt := mt5 (List.mem_of_getElem? (i := 236) rfl) rfl
theorem w_5_237 : Cond.static yX10_capped ∈ wt := mt5 (List.mem_of_getElem? (i := 237) rfl) rfl
theorem w_5_238 : Cond.code yX10_capped cX10_capped 1 (some .int) ∈ wt := mt5 (List.mem_of_getElem? (i := 238) rfl) rfl
theorem w_5_239 : Cond.methodLink RL 67 yX10_buy ∈ wt := mt5 (List.mem_of_getElem? (i := 239) rfl) rfl
theorem w_6_0 : Cond.instanceMethod yX10_buy ∈ wt := mt6 (List.mem_of_getElem? (i := 0) rfl) rfl
theorem w_6_1 : Cond.selects RX10 yX10_buy yX10_buy ∈ wt := mt6 (List.mem_of_getElem? (i := 1) rfl) rfl
theorem w_6_2 : Cond.code yX10_buy cX10_buy 2 (some .int) ∈ wt := mt6 (List.mem_of_getElem? (i := 2) rfl) rfl
theorem w_6_3 : Cond.methodLink RL 71 yX10_wish ∈ wt := mt6 (List.mem_of_getElem? (i := 3) rfl) rfl
theorem w_6_4 : Cond.instanceMethod yX10_wish ∈ wt := mt6 (List.mem_of_getElem? (i := 4) rfl) rfl
theorem w_6_5 : Cond.selects RX10 yX10_wish yX10_wish ∈ wt := mt6 (List.mem_of_getElem? (i := 5) rfl) rfl
theorem w_6_6 : Cond.code yX10_wish cX10_wish 4 (some .int) ∈ wt := mt6 (List.mem_of_getElem? (i := 6) rfl) rfl
theorem w_6_7 : Cond.methodLink RL 75 yX10_drift ∈ wt := mt6 (List.mem_of_getElem? (i := 7) rfl) rfl
theorem w_6_8 : Cond.instanceMethod yX10_drift ∈ wt := mt6 (List.mem_of_getElem? (i := 8) rfl) rfl
theorem w_6_9 : Cond.selects RX10 yX10_drift yX10_drift ∈ wt := mt6 (List.mem_of_getElem? (i := 9) rfl) rfl
theorem w_6_10 : Cond.code yX10_drift cX10_drift 5 (some .int) ∈ wt := mt6 (List.mem_of_getElem? (i := 10) rfl) rfl
theorem w_6_11 : Cond.methodLink RX10 234 yX10_draw ∈ wt := mt6 (List.mem_of_getElem? (i := 11) rfl) rfl
theorem w_6_13 : Cond.instanceMethod yX10_draw ∈ wt := mt6 (List.mem_of_getElem? (i := 13) rfl) rfl
theorem w_6_14 : Cond.code yX10_draw cX10_draw 2 (some .int) ∈ wt := mt6 (List.mem_of_getElem? (i := 14) rfl) rfl
theorem w_6_15 : Cond.constantLong RX10 227 (1103515245) ∈ wt := mt6 (List.mem_of_getElem? (i := 15) rfl) rfl
theorem w_6_16 : Cond.constantLong RX10 229 (12345) ∈ wt := mt6 (List.mem_of_getElem? (i := 16) rfl) rfl
theorem w_6_17 : Cond.constantLong RX10 231 (2147483648) ∈ wt := mt6 (List.mem_of_getElem? (i := 17) rfl) rfl
theorem w_6_18 : Cond.constant RX10 233 (65536) ∈ wt := mt6 (List.mem_of_getElem? (i := 18) rfl) rfl
theorem w_6_19 : Cond.methodLink RL 79 yX10_undo ∈ wt := mt6 (List.mem_of_getElem? (i := 19) rfl) rfl
theorem w_6_20 : Cond.instanceMethod yX10_undo ∈ wt := mt6 (List.mem_of_getElem? (i := 20) rfl) rfl
theorem w_6_21 : Cond.selects RX10 yX10_undo yX10_undo ∈ wt := mt6 (List.mem_of_getElem? (i := 21) rfl) rfl
theorem w_6_22 : Cond.code yX10_undo cX10_undo 2 (some .int) ∈ wt := mt6 (List.mem_of_getElem? (i := 22) rfl) rfl
theorem w_6_23 : Cond.methodLink RL 83 yX10_stops ∈ wt := mt6 (List.mem_of_getElem? (i := 23) rfl) rfl
theorem w_6_24 : Cond.instanceMethod yX10_stops ∈ wt := mt6 (List.mem_of_getElem? (i := 24) rfl) rfl
theorem w_6_25 : Cond.selects RX10 yX10_stops yX10_stops ∈ wt := mt6 (List.mem_of_getElem? (i := 25) rfl) rfl
theorem w_6_26 : Cond.code yX10_stops cX10_stops 3 (some .int) ∈ wt := mt6 (List.mem_of_getElem? (i := 26) rfl) rfl
theorem w_6_27 : Cond.methodLink RL 87 yX10_comers ∈ wt := mt6 (List.mem_of_getElem? (i := 27) rfl) rfl
theorem w_6_28 : Cond.instanceMethod yX10_comers ∈ wt := mt6 (List.mem_of_getElem? (i := 28) rfl) rfl
theorem w_6_29 : Cond.selects RX10 yX10_comers yX10_comers ∈ wt := mt6 (List.mem_of_getElem? (i := 29) rfl) rfl
theorem w_6_30 : Cond.code yX10_comers cX10_comers 4 (some .int) ∈ wt := mt6 (List.mem_of_getElem? (i := 30) rfl) rfl
theorem w_6_31 : Cond.methodLink RL 92 yX10_way ∈ wt := mt6 (List.mem_of_getElem? (i := 31) rfl) rfl
theorem w_6_32 : Cond.instanceMethod yX10_way ∈ wt := mt6 (List.mem_of_getElem? (i := 32) rfl) rfl
theorem w_6_33 : Cond.selects RX10 yX10_way yX10_way ∈ wt := mt6 (List.mem_of_getElem? (i := 33) rfl) rfl
theorem w_6_34 : Cond.code yX10_way cX10_way 9 (some .int) ∈ wt := mt6 (List.mem_of_getElem? (i := 34) rfl) rfl
theorem w_6_35 : Cond.methodLink RX10 237 yX10_farBy ∈ wt := mt6 (List.mem_of_getElem? (i := 35) rfl) rfl
theorem w_6_37 : Cond.instanceMethod yX10_farBy ∈ wt := mt6 (List.mem_of_getElem? (i := 37) rfl) rfl
theorem w_6_38 : Cond.code yX10_farBy cX10_farBy 9 (some .int) ∈ wt := mt6 (List.mem_of_getElem? (i := 38) rfl) rfl
theorem w_6_39 : Cond.methodLink RL 96 yX10_keepOut ∈ wt := mt6 (List.mem_of_getElem? (i := 39) rfl) rfl
theorem w_6_40 : Cond.instanceMethod yX10_keepOut ∈ wt := mt6 (List.mem_of_getElem? (i := 40) rfl) rfl
theorem w_6_41 : Cond.selects RX10 yX10_keepOut yX10_keepOut ∈ wt := mt6 (List.mem_of_getElem? (i := 41) rfl) rfl
theorem w_6_42 : Cond.code yX10_keepOut cX10_keepOut 10 (some .int) ∈ wt := mt6 (List.mem_of_getElem? (i := 42) rfl) rfl
theorem w_6_43 : Cond.methodLink RL 100 yX10_soften ∈ wt := mt6 (List.mem_of_getElem? (i := 43) rfl) rfl
theorem w_6_44 : Cond.instanceMethod yX10_soften ∈ wt := mt6 (List.mem_of_getElem? (i := 44) rfl) rfl
theorem w_6_45 : Cond.selects RX10 yX10_soften yX10_soften ∈ wt := mt6 (List.mem_of_getElem? (i := 45) rfl) rfl
theorem w_6_46 : Cond.code yX10_soften cX10_soften 4 (some .int) ∈ wt := mt6 (List.mem_of_getElem? (i := 46) rfl) rfl
theorem w_6_47 : Cond.methodLink RL 104 yX10_parts ∈ wt := mt6 (List.mem_of_getElem? (i := 47) rfl) rfl
theorem w_6_48 : Cond.instanceMethod yX10_parts ∈ wt := mt6 (List.mem_of_getElem? (i := 48) rfl) rfl
theorem w_6_49 : Cond.selects RX10 yX10_parts yX10_parts ∈ wt := mt6 (List.mem_of_getElem? (i := 49) rfl) rfl
theorem w_6_50 : Cond.code yX10_parts cX10_parts 3 (some .int) ∈ wt := mt6 (List.mem_of_getElem? (i := 50) rfl) rfl
theorem w_6_51 : Cond.methodLink RX10 241 yX10_partsBy ∈ wt := mt6 (List.mem_of_getElem? (i := 51) rfl) rfl
theorem w_6_53 : Cond.instanceMethod yX10_partsBy ∈ wt := mt6 (List.mem_of_getElem? (i := 53) rfl) rfl
theorem w_6_54 : Cond.code yX10_partsBy cX10_partsBy 6 (some .int) ∈ wt := mt6 (List.mem_of_getElem? (i := 54) rfl) rfl
theorem w_6_55 : Cond.methodLink RL 108 yX10_worst ∈ wt := mt6 (List.mem_of_getElem? (i := 55) rfl) rfl
theorem w_6_56 : Cond.instanceMethod yX10_worst ∈ wt := mt6 (List.mem_of_getElem? (i := 56) rfl) rfl
theorem w_6_57 : Cond.selects RX10 yX10_worst yX10_worst ∈ wt := mt6 (List.mem_of_getElem? (i := 57) rfl) rfl
theorem w_6_58 : Cond.code yX10_worst cX10_worst 3 (some .int) ∈ wt := mt6 (List.mem_of_getElem? (i := 58) rfl) rfl
theorem w_6_59 : Cond.methodLink RL 112 yX10_lasts ∈ wt := mt6 (List.mem_of_getElem? (i := 59) rfl) rfl
theorem w_6_60 : Cond.instanceMethod yX10_lasts ∈ wt := mt6 (List.mem_of_getElem? (i := 60) rfl) rfl
theorem w_6_61 : Cond.selects RX10 yX10_lasts yX10_lasts ∈ wt := mt6 (List.mem_of_getElem? (i := 61) rfl) rfl
theorem w_6_62 : Cond.code yX10_lasts cX10_lasts 2 (some .int) ∈ wt := mt6 (List.mem_of_getElem? (i := 62) rfl) rfl
theorem w_6_63 : Cond.methodLink RX10 244 yX10_lastsOf ∈ wt := mt6 (List.mem_of_getElem? (i := 63) rfl) rfl
theorem w_6_65 : Cond.instanceMethod yX10_lastsOf ∈ wt := mt6 (List.mem_of_getElem? (i := 65) rfl) rfl
theorem w_6_66 : Cond.code yX10_lastsOf cX10_lastsOf 4 (some .int) ∈ wt := mt6 (List.mem_of_getElem? (i := 66) rfl) rfl
theorem w_6_67 : Cond.methodLink RL 116 yX10_mend ∈ wt := mt6 (List.mem_of_getElem? (i := 67) rfl) rfl
theorem w_6_68 : Cond.instanceMethod yX10_mend ∈ wt := mt6 (List.mem_of_getElem? (i := 68) rfl) rfl
theorem w_6_69 : Cond.selects RX10 yX10_mend yX10_mend ∈ wt := mt6 (List.mem_of_getElem? (i := 69) rfl) rfl
theorem w_6_70 : Cond.code yX10_mend cX10_mend 6 (some .int) ∈ wt := mt6 (List.mem_of_getElem? (i := 70) rfl) rfl
theorem w_6_71 : Cond.methodLink RL 120 yX10_holds ∈ wt := mt6 (List.mem_of_getElem? (i := 71) rfl) rfl
theorem w_6_72 : Cond.instanceMethod yX10_holds ∈ wt := mt6 (List.mem_of_getElem? (i := 72) rfl) rfl
theorem w_6_73 : Cond.selects RX10 yX10_holds yX10_holds ∈ wt := mt6 (List.mem_of_getElem? (i := 73) rfl) rfl
theorem w_6_74 : Cond.code yX10_holds cX10_holds 6 (some .int) ∈ wt := mt6 (List.mem_of_getElem? (i := 74) rfl) rfl
theorem w_6_75 : Cond.methodLink RL 124 yX10_mostCrossed ∈ wt := mt6 (List.mem_of_getElem? (i := 75) rfl) rfl
theorem w_6_76 : Cond.instanceMethod yX10_mostCrossed ∈ wt := mt6 (List.mem_of_getElem? (i := 76) rfl) rfl
theorem w_6_77 : Cond.selects RX10 yX10_mostCrossed yX10_mostCrossed ∈ wt := mt6 (List.mem_of_getElem? (i := 77) rfl) rfl
theorem w_6_78 : Cond.code yX10_mostCrossed cX10_mostCrossed 4 (some .int) ∈ wt := mt6 (List.mem_of_getElem? (i := 78) rfl) rfl
theorem w_6_79 : Cond.methodLink RL 128 yX10_narrow ∈ wt := mt6 (List.mem_of_getElem? (i := 79) rfl) rfl
theorem w_6_80 : Cond.instanceMethod yX10_narrow ∈ wt := mt6 (List.mem_of_getElem? (i := 80) rfl) rfl
theorem w_6_81 : Cond.selects RX10 yX10_narrow yX10_narrow ∈ wt := mt6 (List.mem_of_getElem? (i := 81) rfl) rfl
theorem w_6_82 : Cond.code yX10_narrow cX10_narrow 3 (some .int) ∈ wt := mt6 (List.mem_of_getElem? (i := 82) rfl) rfl
theorem w_6_83 : Cond.methodLink RL 132 yX10_first ∈ wt := mt6 (List.mem_of_getElem? (i := 83) rfl) rfl
theorem w_6_84 : Cond.instanceMethod yX10_first ∈ wt := mt6 (List.mem_of_getElem? (i := 84) rfl) rfl
theorem w_6_85 : Cond.selects RX10 yX10_first yX10_first ∈ wt := mt6 (List.mem_of_getElem? (i := 85) rfl) rfl
theorem w_6_86 : Cond.code yX10_first cX10_first 5 (some .int) ∈ wt := mt6 (List.mem_of_getElem? (i := 86) rfl) rfl
theorem w_6_87 : Cond.methodLink RL 136 yX10_share ∈ wt := mt6 (List.mem_of_getElem? (i := 87) rfl) rfl
theorem w_6_88 : Cond.instanceMethod yX10_share ∈ wt := mt6 (List.mem_of_getElem? (i := 88) rfl) rfl
theorem w_6_89 : Cond.selects RX10 yX10_share yX10_share ∈ wt := mt6 (List.mem_of_getElem? (i := 89) rfl) rfl
theorem w_6_90 : Cond.code yX10_share cX10_share 7 (some .int) ∈ wt := mt6 (List.mem_of_getElem? (i := 90) rfl) rfl
theorem w_6_91 : Cond.methodLink RL 140 yX10_dry ∈ wt := mt6 (List.mem_of_getElem? (i := 91) rfl) rfl
theorem w_6_92 : Cond.instanceMethod yX10_dry ∈ wt := mt6 (List.mem_of_getElem? (i := 92) rfl) rfl
theorem w_6_93 : Cond.selects RX10 yX10_dry yX10_dry ∈ wt := mt6 (List.mem_of_getElem? (i := 93) rfl) rfl
theorem w_6_94 : Cond.code yX10_dry cX10_dry 6 (some .int) ∈ wt := mt6 (List.mem_of_getElem? (i := 94) rfl) rfl
theorem w_6_95 : Cond.constantLong RX10 247 (1000000000) ∈ wt := mt6 (List.mem_of_getElem? (i := 95) rfl) rfl
theorem w_6_96 : Cond.constantLong RX10 249 (100) ∈ wt := mt6 (List.mem_of_getElem? (i := 96) rfl) rfl
theorem w_6_97 : Cond.methodLink RL 145 yX10_see ∈ wt := mt6 (List.mem_of_getElem? (i := 97) rfl) rfl
theorem w_6_98 : Cond.instanceMethod yX10_see ∈ wt := mt6 (List.mem_of_getElem? (i := 98) rfl) rfl
theorem w_6_99 : Cond.selects RX10 yX10_see yX10_see ∈ wt := mt6 (List.mem_of_getElem? (i := 99) rfl) rfl
theorem w_6_100 : Cond.code yX10_see cX10_see 3 (some .int) ∈ wt := mt6 (List.mem_of_getElem? (i := 100) rfl) rfl
theorem w_6_101 : Cond.methodLink RL 149 yX10_ills ∈ wt := mt6 (List.mem_of_getElem? (i := 101) rfl) rfl
theorem w_6_102 : Cond.instanceMethod yX10_ills ∈ wt := mt6 (List.mem_of_getElem? (i := 102) rfl) rfl
theorem w_6_103 : Cond.selects RX10 yX10_ills yX10_ills ∈ wt := mt6 (List.mem_of_getElem? (i := 103) rfl) rfl
theorem w_6_104 : Cond.code yX10_ills cX10_ills 5 (some .int) ∈ wt := mt6 (List.mem_of_getElem? (i := 104) rfl) rfl
theorem w_6_105 : Cond.methodLink RL 153 yX10_lookAt ∈ wt := mt6 (List.mem_of_getElem? (i := 105) rfl) rfl
theorem w_6_106 : Cond.instanceMethod yX10_lookAt ∈ wt := mt6 (List.mem_of_getElem? (i := 106) rfl) rfl
theorem w_6_107 : Cond.selects RX10 yX10_lookAt yX10_lookAt ∈ wt := mt6 (List.mem_of_getElem? (i := 107) rfl) rfl
theorem w_6_108 : Cond.code yX10_lookAt cX10_lookAt 8 (some .int) ∈ wt := mt6 (List.mem_of_getElem? (i := 108) rfl) rfl
theorem w_6_109 : Cond.methodLink RX10 251 yX10_ills ∈ wt := mt6 (List.mem_of_getElem? (i := 109) rfl) rfl
theorem w_6_110 : Cond.methodLink RL 157 yX10_write ∈ wt := mt6 (List.mem_of_getElem? (i := 110) rfl) rfl
theorem w_6_111 : Cond.instanceMethod yX10_write ∈ wt := mt6 (List.mem_of_getElem? (i := 111) rfl) rfl
theorem w_6_112 : Cond.selects RX10 yX10_write yX10_write ∈ wt := mt6 (List.mem_of_getElem? (i := 112) rfl) rfl
theorem w_6_113 : Cond.code yX10_write cX10_write 3 (some .int) ∈ wt := mt6 (List.mem_of_getElem? (i := 113) rfl) rfl
theorem w_6_114 : Cond.methodLink RL 161 yX10_judge ∈ wt := mt6 (List.mem_of_getElem? (i := 114) rfl) rfl
theorem w_6_115 : Cond.instanceMethod yX10_judge ∈ wt := mt6 (List.mem_of_getElem? (i := 115) rfl) rfl
theorem w_6_116 : Cond.selects RX10 yX10_judge yX10_judge ∈ wt := mt6 (List.mem_of_getElem? (i := 116) rfl) rfl
theorem w_6_117 : Cond.code yX10_judge cX10_judge 2 (some .int) ∈ wt := mt6 (List.mem_of_getElem? (i := 117) rfl) rfl
theorem w_6_118 : Cond.methodLink RL 165 yX10_tear ∈ wt := mt6 (List.mem_of_getElem? (i := 118) rfl) rfl
theorem w_6_119 : Cond.instanceMethod yX10_tear ∈ wt := mt6 (List.mem_of_getElem? (i := 119) rfl) rfl
theorem w_6_120 : Cond.selects RX10 yX10_tear yX10_tear ∈ wt := mt6 (List.mem_of_getElem? (i := 120) rfl) rfl
theorem w_6_121 : Cond.code yX10_tear cX10_tear 2 (some .int) ∈ wt := mt6 (List.mem_of_getElem? (i := 121) rfl) rfl
theorem w_6_122 : Cond.methodLink RL 169 yX10_seed ∈ wt := mt6 (List.mem_of_getElem? (i := 122) rfl) rfl
theorem w_6_123 : Cond.instanceMethod yX10_seed ∈ wt := mt6 (List.mem_of_getElem? (i := 123) rfl) rfl
theorem w_6_124 : Cond.selects RX10 yX10_seed yX10_seed ∈ wt := mt6 (List.mem_of_getElem? (i := 124) rfl) rfl
theorem w_6_125 : Cond.code yX10_seed cX10_seed 3 (some .int) ∈ wt := mt6 (List.mem_of_getElem? (i := 125) rfl) rfl
theorem w_6_126 : Cond.methodLink RL 173 yX10_keep ∈ wt := mt6 (List.mem_of_getElem? (i := 126) rfl) rfl
theorem w_6_127 : Cond.instanceMethod yX10_keep ∈ wt := mt6 (List.mem_of_getElem? (i := 127) rfl) rfl
theorem w_6_128 : Cond.selects RX10 yX10_keep yX10_keep ∈ wt := mt6 (List.mem_of_getElem? (i := 128) rfl) rfl
theorem w_6_129 : Cond.code yX10_keep cX10_keep 2 (some .int) ∈ wt := mt6 (List.mem_of_getElem? (i := 129) rfl) rfl
theorem w_6_130 : Cond.methodLink RL 177 yX10_goBack ∈ wt := mt6 (List.mem_of_getElem? (i := 130) rfl) rfl
theorem w_6_131 : Cond.instanceMethod yX10_goBack ∈ wt := mt6 (List.mem_of_getElem? (i := 131) rfl) rfl
theorem w_6_132 : Cond.selects RX10 yX10_goBack yX10_goBack ∈ wt := mt6 (List.mem_of_getElem? (i := 132) rfl) rfl
theorem w_6_133 : Cond.code yX10_goBack cX10_goBack 2 (some .int) ∈ wt := mt6 (List.mem_of_getElem? (i := 133) rfl) rfl
theorem w_0_0 : Cond.selects RX5 yX5_skipBlanks yX5_skipBlanks ∈ wt := mt0 (List.mem_of_getElem? (i := 0) rfl) rfl
theorem w_0_1 : Cond.selects RX5 yX5_readRooms yX5_readRooms ∈ wt := mt0 (List.mem_of_getElem? (i := 1) rfl) rfl
theorem w_0_2 : Cond.selects RX5 yX5_readWord yX5_readWord ∈ wt := mt0 (List.mem_of_getElem? (i := 2) rfl) rfl
theorem w_0_3 : Cond.selects RX5 yX5_letterAtNext yX5_letterAtNext ∈ wt := mt0 (List.mem_of_getElem? (i := 3) rfl) rfl
theorem w_0_4 : Cond.selects RX5 yX5_mark yX5_mark ∈ wt := mt0 (List.mem_of_getElem? (i := 4) rfl) rfl
theorem w_0_5 : Cond.selects RX5 yX5_readNumber yX5_readNumber ∈ wt := mt0 (List.mem_of_getElem? (i := 5) rfl) rfl
theorem w_0_6 : Cond.selects RX5 yX5_readClause yX5_readClause ∈ wt := mt0 (List.mem_of_getElem? (i := 6) rfl) rfl
theorem w_0_7 : Cond.selects RX5 yX5_readDoor yX5_readDoor ∈ wt := mt0 (List.mem_of_getElem? (i := 7) rfl) rfl
theorem w_0_8 : Cond.selects RX5 yX5_readPerson yX5_readPerson ∈ wt := mt0 (List.mem_of_getElem? (i := 8) rfl) rfl
theorem w_0_9 : Cond.selects RX8 yX8_reach yX8_reach ∈ wt := mt0 (List.mem_of_getElem? (i := 9) rfl) rfl
theorem w_0_10 : Cond.selects RX8 yX8_spread yX8_spread ∈ wt := mt0 (List.mem_of_getElem? (i := 10) rfl) rfl
theorem w_0_11 : Cond.selects RX1 yX1_calmWishes yX1_calmWishes ∈ wt := mt0 (List.mem_of_getElem? (i := 11) rfl) rfl
theorem w_0_12 : Cond.selects RX0 yX0_draw yX0_draw ∈ wt := mt0 (List.mem_of_getElem? (i := 12) rfl) rfl
theorem w_0_13 : Cond.selects RX8 yX8_leastDoor yX8_leastDoor ∈ wt := mt0 (List.mem_of_getElem? (i := 13) rfl) rfl
theorem w_0_14 : Cond.selects RX8 yX8_doorsAcross yX8_doorsAcross ∈ wt := mt0 (List.mem_of_getElem? (i := 14) rfl) rfl
theorem w_0_15 : Cond.selects RX8 yX8_spoonsToStop yX8_spoonsToStop ∈ wt := mt0 (List.mem_of_getElem? (i := 15) rfl) rfl
theorem w_0_16 : Cond.selects RX8 yX8_space yX8_space ∈ wt := mt0 (List.mem_of_getElem? (i := 16) rfl) rfl
theorem w_0_17 : Cond.selects RX8 yX8_sharedUntilFull yX8_sharedUntilFull ∈ wt := mt0 (List.mem_of_getElem? (i := 17) rfl) rfl
theorem w_0_18 : Cond.selects RX10 yX10_isRead yX10_isRead ∈ wt := mt0 (List.mem_of_getElem? (i := 18) rfl) rfl
theorem w_0_19 : Cond.selects RX10 yX10_nextToken yX10_nextToken ∈ wt := mt0 (List.mem_of_getElem? (i := 19) rfl) rfl
theorem w_0_20 : Cond.selects RX10 yX10_isClause yX10_isClause ∈ wt := mt0 (List.mem_of_getElem? (i := 20) rfl) rfl
theorem w_0_21 : Cond.selects RX10 yX10_fails yX10_fails ∈ wt := mt0 (List.mem_of_getElem? (i := 21) rfl) rfl
theorem w_0_22 : Cond.selects RX10 yX10_isHead yX10_isHead ∈ wt := mt0 (List.mem_of_getElem? (i := 22) rfl) rfl
theorem w_0_23 : Cond.selects RX10 yX10_isNumber yX10_isNumber ∈ wt := mt0 (List.mem_of_getElem? (i := 23) rfl) rfl
theorem w_0_24 : Cond.selects RX10 yX10_isDoorItem yX10_isDoorItem ∈ wt := mt0 (List.mem_of_getElem? (i := 24) rfl) rfl
theorem w_0_25 : Cond.selects RX10 yX10_isEnd yX10_isEnd ∈ wt := mt0 (List.mem_of_getElem? (i := 25) rfl) rfl
theorem w_0_26 : Cond.selects RX10 yX10_isPersonItem yX10_isPersonItem ∈ wt := mt0 (List.mem_of_getElem? (i := 26) rfl) rfl
theorem w_0_27 : Cond.selects RX10 yX10_allCrossed yX10_allCrossed ∈ wt := mt0 (List.mem_of_getElem? (i := 27) rfl) rfl
theorem w_0_28 : Cond.selects RX10 yX10_shutIn yX10_shutIn ∈ wt := mt0 (List.mem_of_getElem? (i := 28) rfl) rfl
theorem w_0_29 : Cond.selects RX10 yX10_comesOf yX10_comesOf ∈ wt := mt0 (List.mem_of_getElem? (i := 29) rfl) rfl
theorem w_0_30 : Cond.selects RX10 yX10_comesBy yX10_comesBy ∈ wt := mt0 (List.mem_of_getElem? (i := 30) rfl) rfl
theorem w_0_31 : Cond.selects RX10 yX10_allSpoons yX10_allSpoons ∈ wt := mt0 (List.mem_of_getElem? (i := 31) rfl) rfl
theorem w_0_32 : Cond.selects RX10 yX10_isDoor yX10_isDoor ∈ wt := mt0 (List.mem_of_getElem? (i := 32) rfl) rfl
theorem w_0_33 : Cond.selects RX10 yX10_isPerson yX10_isPerson ∈ wt := mt0 (List.mem_of_getElem? (i := 33) rfl) rfl
theorem w_0_34 : Cond.selects RX10 yX10_isRoom yX10_isRoom ∈ wt := mt0 (List.mem_of_getElem? (i := 34) rfl) rfl
theorem w_0_35 : Cond.selects RX10 yX10_rainAt yX10_rainAt ∈ wt := mt0 (List.mem_of_getElem? (i := 35) rfl) rfl
theorem w_0_36 : Cond.selects RX10 yX10_noHours yX10_noHours ∈ wt := mt0 (List.mem_of_getElem? (i := 36) rfl) rfl
theorem w_0_37 : Cond.selects RX10 yX10_note yX10_note ∈ wt := mt0 (List.mem_of_getElem? (i := 37) rfl) rfl
theorem w_0_38 : Cond.selects RX10 yX10_goBy yX10_goBy ∈ wt := mt0 (List.mem_of_getElem? (i := 38) rfl) rfl
theorem w_0_39 : Cond.selects RX10 yX10_isAt yX10_isAt ∈ wt := mt0 (List.mem_of_getElem? (i := 39) rfl) rfl
theorem w_0_40 : Cond.selects RX10 yX10_steps yX10_steps ∈ wt := mt0 (List.mem_of_getElem? (i := 40) rfl) rfl
theorem w_0_41 : Cond.selects RX10 yX10_draw yX10_draw ∈ wt := mt0 (List.mem_of_getElem? (i := 41) rfl) rfl
theorem w_0_42 : Cond.selects RX10 yX10_farBy yX10_farBy ∈ wt := mt0 (List.mem_of_getElem? (i := 42) rfl) rfl
theorem w_0_43 : Cond.selects RX10 yX10_partsBy yX10_partsBy ∈ wt := mt0 (List.mem_of_getElem? (i := 43) rfl) rfl
theorem w_0_44 : Cond.selects RX10 yX10_lastsOf yX10_lastsOf ∈ wt := mt0 (List.mem_of_getElem? (i := 44) rfl) rfl
def nwl : List (String × Nat × MethodName × String) := [(RX9, 11, yX1_init, "SaltLines"), (RX1, 34, yX7_init, "SaltLines"), (RX9, 27, yX5_init, "SaltLines"), (RX5, 11, yX1_init, "SaltLines"), (RX9, 34, yX4_init, "SaltLines"), (RX9, 41, yX3_init, "SaltLines"), (RX9, 48, yX0_init, "SaltLines"), (RX9, 55, yX2_init, "SaltLines"), (RX5, 119, yX9_within, "SaltLines"), (RX1, 66, yX9_only, "SaltLines"), (RX8, 35, yX9_only, "SaltLines"), (RX7, 46, yX9_illOfWish, "SaltLines"), (RX1, 96, yX9_holdsBack, "SaltLines"), (RX8, 31, yX9_inSet, "SaltLines"), (RX1, 85, yX9_inSet, "SaltLines"), (RX8, 91, yX9_illOfWish, "SaltLines"), (RX3, 44, yX9_only, "SaltLines"), (RX3, 40, yX9_holdsBack, "SaltLines")]
def NW (U : State) : Prop := ∀ q ∈ nwl, va_Nw (.methodLinkNest q.1 q.2.1 q.2.2.1 q.2.2.2) U
theorem nwi_0 : (RX9, 11, yX1_init, "SaltLines") ∈ nwl := List.mem_of_getElem? (i := 0) rfl
theorem nwi_1 : (RX1, 34, yX7_init, "SaltLines") ∈ nwl := List.mem_of_getElem? (i := 1) rfl
theorem nwi_2 : (RX9, 27, yX5_init, "SaltLines") ∈ nwl := List.mem_of_getElem? (i := 2) rfl
theorem nwi_3 : (RX5, 11, yX1_init, "SaltLines") ∈ nwl := List.mem_of_getElem? (i := 3) rfl
theorem nwi_4 : (RX9, 34, yX4_init, "SaltLines") ∈ nwl := List.mem_of_getElem? (i := 4) rfl
theorem nwi_5 : (RX9, 41, yX3_init, "SaltLines") ∈ nwl := List.mem_of_getElem? (i := 5) rfl
theorem nwi_6 : (RX9, 48, yX0_init, "SaltLines") ∈ nwl := List.mem_of_getElem? (i := 6) rfl
theorem nwi_7 : (RX9, 55, yX2_init, "SaltLines") ∈ nwl := List.mem_of_getElem? (i := 7) rfl
theorem nwi_8 : (RX5, 119, yX9_within, "SaltLines") ∈ nwl := List.mem_of_getElem? (i := 8) rfl
theorem nwi_9 : (RX1, 66, yX9_only, "SaltLines") ∈ nwl := List.mem_of_getElem? (i := 9) rfl
theorem nwi_10 : (RX8, 35, yX9_only, "SaltLines") ∈ nwl := List.mem_of_getElem? (i := 10) rfl
theorem nwi_11 : (RX7, 46, yX9_illOfWish, "SaltLines") ∈ nwl := List.mem_of_getElem? (i := 11) rfl
theorem nwi_12 : (RX1, 96, yX9_holdsBack, "SaltLines") ∈ nwl := List.mem_of_getElem? (i := 12) rfl
theorem nwi_13 : (RX8, 31, yX9_inSet, "SaltLines") ∈ nwl := List.mem_of_getElem? (i := 13) rfl
theorem nwi_14 : (RX1, 85, yX9_inSet, "SaltLines") ∈ nwl := List.mem_of_getElem? (i := 14) rfl
theorem nwi_15 : (RX8, 91, yX9_illOfWish, "SaltLines") ∈ nwl := List.mem_of_getElem? (i := 15) rfl
theorem nwi_16 : (RX3, 44, yX9_only, "SaltLines") ∈ nwl := List.mem_of_getElem? (i := 16) rfl
theorem nwi_17 : (RX3, 40, yX9_holdsBack, "SaltLines") ∈ nwl := List.mem_of_getElem? (i := 17) rfl
theorem ml1 {w : Cond} (h : w ∈ tables_1_1) : w ∈ lw_tbl := List.mem_append_right _ (show w ∈ tables_1_1 ++ (tables_1_2 ++ (tables_1_3 ++ (tables_1_4 ++ (tables_1_5 ++ tables_1_6)))) from List.mem_append_left _ h)
theorem ml2 {w : Cond} (h : w ∈ tables_1_2) : w ∈ lw_tbl := List.mem_append_right _ (show w ∈ tables_1_1 ++ (tables_1_2 ++ (tables_1_3 ++ (tables_1_4 ++ (tables_1_5 ++ tables_1_6)))) from List.mem_append_right _ (List.mem_append_left _ h))
theorem ml3 {w : Cond} (h : w ∈ tables_1_3) : w ∈ lw_tbl := List.mem_append_right _ (show w ∈ tables_1_1 ++ (tables_1_2 ++ (tables_1_3 ++ (tables_1_4 ++ (tables_1_5 ++ tables_1_6)))) from List.mem_append_right _ (List.mem_append_right _ (List.mem_append_left _ h)))
theorem ml4 {w : Cond} (h : w ∈ tables_1_4) : w ∈ lw_tbl := List.mem_append_right _ (show w ∈ tables_1_1 ++ (tables_1_2 ++ (tables_1_3 ++ (tables_1_4 ++ (tables_1_5 ++ tables_1_6)))) from List.mem_append_right _ (List.mem_append_right _ (List.mem_append_right _ (List.mem_append_left _ h))))
theorem ml5 {w : Cond} (h : w ∈ tables_1_5) : w ∈ lw_tbl := List.mem_append_right _ (show w ∈ tables_1_1 ++ (tables_1_2 ++ (tables_1_3 ++ (tables_1_4 ++ (tables_1_5 ++ tables_1_6)))) from List.mem_append_right _ (List.mem_append_right _ (List.mem_append_right _ (List.mem_append_right _ (List.mem_append_left _ h)))))
theorem ml6 {w : Cond} (h : w ∈ tables_1_6) : w ∈ lw_tbl := List.mem_append_right _ (show w ∈ tables_1_1 ++ (tables_1_2 ++ (tables_1_3 ++ (tables_1_4 ++ (tables_1_5 ++ tables_1_6)))) from List.mem_append_right _ (List.mem_append_right _ (List.mem_append_right _ (List.mem_append_right _ (List.mem_append_right _ (h))))))
theorem nwt_0 : Cond.methodLinkNest RX9 11 yX1_init "SaltLines" ∈ lw_tbl := ml1 (List.mem_of_getElem? (i := 25) rfl)
theorem nwt_1 : Cond.methodLinkNest RX1 34 yX7_init "SaltLines" ∈ lw_tbl := ml1 (List.mem_of_getElem? (i := 45) rfl)
theorem nwt_2 : Cond.methodLinkNest RX9 27 yX5_init "SaltLines" ∈ lw_tbl := ml1 (List.mem_of_getElem? (i := 119) rfl)
theorem nwt_3 : Cond.methodLinkNest RX5 11 yX1_init "SaltLines" ∈ lw_tbl := ml1 (List.mem_of_getElem? (i := 124) rfl)
theorem nwt_4 : Cond.methodLinkNest RX9 34 yX4_init "SaltLines" ∈ lw_tbl := ml1 (List.mem_of_getElem? (i := 154) rfl)
theorem nwt_5 : Cond.methodLinkNest RX9 41 yX3_init "SaltLines" ∈ lw_tbl := ml1 (List.mem_of_getElem? (i := 173) rfl)
theorem nwt_6 : Cond.methodLinkNest RX9 48 yX0_init "SaltLines" ∈ lw_tbl := ml1 (List.mem_of_getElem? (i := 202) rfl)
theorem nwt_7 : Cond.methodLinkNest RX9 55 yX2_init "SaltLines" ∈ lw_tbl := ml1 (List.mem_of_getElem? (i := 213) rfl)
theorem nwt_8 : Cond.methodLinkNest RX5 119 yX9_within "SaltLines" ∈ lw_tbl := ml2 (List.mem_of_getElem? (i := 82) rfl)
theorem nwt_9 : Cond.methodLinkNest RX1 66 yX9_only "SaltLines" ∈ lw_tbl := ml2 (List.mem_of_getElem? (i := 106) rfl)
theorem nwt_10 : Cond.methodLinkNest RX8 35 yX9_only "SaltLines" ∈ lw_tbl := ml2 (List.mem_of_getElem? (i := 198) rfl)
theorem nwt_11 : Cond.methodLinkNest RX7 46 yX9_illOfWish "SaltLines" ∈ lw_tbl := ml2 (List.mem_of_getElem? (i := 219) rfl)
theorem nwt_12 : Cond.methodLinkNest RX1 96 yX9_holdsBack "SaltLines" ∈ lw_tbl := ml2 (List.mem_of_getElem? (i := 234) rfl)
theorem nwt_13 : Cond.methodLinkNest RX8 31 yX9_inSet "SaltLines" ∈ lw_tbl := ml3 (List.mem_of_getElem? (i := 6) rfl)
theorem nwt_14 : Cond.methodLinkNest RX1 85 yX9_inSet "SaltLines" ∈ lw_tbl := ml3 (List.mem_of_getElem? (i := 127) rfl)
theorem nwt_15 : Cond.methodLinkNest RX8 91 yX9_illOfWish "SaltLines" ∈ lw_tbl := ml4 (List.mem_of_getElem? (i := 6) rfl)
theorem nwt_16 : Cond.methodLinkNest RX3 44 yX9_only "SaltLines" ∈ lw_tbl := ml4 (List.mem_of_getElem? (i := 122) rfl)
theorem nwt_17 : Cond.methodLinkNest RX3 40 yX9_holdsBack "SaltLines" ∈ lw_tbl := ml4 (List.mem_of_getElem? (i := 127) rfl)
theorem nwl_tbl : ∀ q ∈ nwl, Cond.methodLinkNest q.1 q.2.1 q.2.2.1 q.2.2.2 ∈ lw_tbl := List.forall_mem_cons.mpr ⟨nwt_0, List.forall_mem_cons.mpr ⟨nwt_1, List.forall_mem_cons.mpr ⟨nwt_2, List.forall_mem_cons.mpr ⟨nwt_3, List.forall_mem_cons.mpr ⟨nwt_4, List.forall_mem_cons.mpr ⟨nwt_5, List.forall_mem_cons.mpr ⟨nwt_6, List.forall_mem_cons.mpr ⟨nwt_7, List.forall_mem_cons.mpr ⟨nwt_8, List.forall_mem_cons.mpr ⟨nwt_9, List.forall_mem_cons.mpr ⟨nwt_10, List.forall_mem_cons.mpr ⟨nwt_11, List.forall_mem_cons.mpr ⟨nwt_12, List.forall_mem_cons.mpr ⟨nwt_13, List.forall_mem_cons.mpr ⟨nwt_14, List.forall_mem_cons.mpr ⟨nwt_15, List.forall_mem_cons.mpr ⟨nwt_16, List.forall_mem_cons.mpr ⟨nwt_17, fun _ h => absurd h List.not_mem_nil⟩⟩⟩⟩⟩⟩⟩⟩⟩⟩⟩⟩⟩⟩⟩⟩⟩⟩
theorem iX0 : ∀ w ∈ u_ws RX0 TX0 1, w ∈ wt := by
  show ∀ w ∈ [u_lay RX0 TX0 0], w ∈ wt
  exact List.forall_mem_cons.mpr ⟨w_1_208, fun _ h => absurd h List.not_mem_nil⟩
theorem iX1 : ∀ w ∈ u_ws RX1 TX1 10, w ∈ wt := by
  show ∀ w ∈ [u_lay RX1 TX1 0, u_lay RX1 TX1 1, u_lay RX1 TX1 2, u_lay RX1 TX1 3, u_lay RX1 TX1 4, u_lay RX1 TX1 5, u_lay RX1 TX1 6, u_lay RX1 TX1 7, u_lay RX1 TX1 8, u_lay RX1 TX1 9], w ∈ wt
  exact List.forall_mem_cons.mpr ⟨w_1_86, List.forall_mem_cons.mpr ⟨w_1_88, List.forall_mem_cons.mpr ⟨w_1_90, List.forall_mem_cons.mpr ⟨w_1_92, List.forall_mem_cons.mpr ⟨w_1_94, List.forall_mem_cons.mpr ⟨w_1_96, List.forall_mem_cons.mpr ⟨w_1_98, List.forall_mem_cons.mpr ⟨w_1_100, List.forall_mem_cons.mpr ⟨w_1_102, List.forall_mem_cons.mpr ⟨w_1_104, fun _ h => absurd h List.not_mem_nil⟩⟩⟩⟩⟩⟩⟩⟩⟩⟩
theorem iX2 : ∀ w ∈ u_ws RX2 TX2 3, w ∈ wt := by
  show ∀ w ∈ [u_lay RX2 TX2 0, u_lay RX2 TX2 1, u_lay RX2 TX2 2], w ∈ wt
  exact List.forall_mem_cons.mpr ⟨w_1_222, List.forall_mem_cons.mpr ⟨w_1_224, List.forall_mem_cons.mpr ⟨w_1_226, fun _ h => absurd h List.not_mem_nil⟩⟩⟩
theorem iX3 : ∀ w ∈ u_ws RX3 TX3 6, w ∈ wt := by
  show ∀ w ∈ [u_lay RX3 TX3 0, u_lay RX3 TX3 1, u_lay RX3 TX3 2, u_lay RX3 TX3 3, u_lay RX3 TX3 4, u_lay RX3 TX3 5], w ∈ wt
  exact List.forall_mem_cons.mpr ⟨w_1_187, List.forall_mem_cons.mpr ⟨w_1_189, List.forall_mem_cons.mpr ⟨w_1_191, List.forall_mem_cons.mpr ⟨w_1_193, List.forall_mem_cons.mpr ⟨w_1_195, List.forall_mem_cons.mpr ⟨w_1_197, fun _ h => absurd h List.not_mem_nil⟩⟩⟩⟩⟩⟩
theorem iX4 : ∀ w ∈ u_ws RX4 TX4 3, w ∈ wt := by
  show ∀ w ∈ [u_lay RX4 TX4 0, u_lay RX4 TX4 1, u_lay RX4 TX4 2], w ∈ wt
  exact List.forall_mem_cons.mpr ⟨w_1_164, List.forall_mem_cons.mpr ⟨w_1_166, List.forall_mem_cons.mpr ⟨w_1_168, fun _ h => absurd h List.not_mem_nil⟩⟩⟩
theorem iX5 : ∀ w ∈ u_ws RX5 TX5 7, w ∈ wt := by
  show ∀ w ∈ [u_lay RX5 TX5 0, u_lay RX5 TX5 1, u_lay RX5 TX5 2, u_lay RX5 TX5 3, u_lay RX5 TX5 4, u_lay RX5 TX5 5, u_lay RX5 TX5 6], w ∈ wt
  exact List.forall_mem_cons.mpr ⟨w_1_137, List.forall_mem_cons.mpr ⟨w_1_139, List.forall_mem_cons.mpr ⟨w_1_141, List.forall_mem_cons.mpr ⟨w_1_143, List.forall_mem_cons.mpr ⟨w_1_145, List.forall_mem_cons.mpr ⟨w_1_147, List.forall_mem_cons.mpr ⟨w_1_149, fun _ h => absurd h List.not_mem_nil⟩⟩⟩⟩⟩⟩⟩
theorem iX6 : ∀ w ∈ u_ws RX6 TX6 1, w ∈ wt := by
  show ∀ w ∈ [u_lay RX6 TX6 0], w ∈ wt
  exact List.forall_mem_cons.mpr ⟨w_1_39, fun _ h => absurd h List.not_mem_nil⟩
theorem iX7 : ∀ w ∈ u_ws RX7 TX7 1, w ∈ wt := by
  show ∀ w ∈ [u_lay RX7 TX7 0], w ∈ wt
  exact List.forall_mem_cons.mpr ⟨w_1_52, fun _ h => absurd h List.not_mem_nil⟩
theorem iX8 : ∀ w ∈ u_ws RX8 TX8 1, w ∈ wt := by
  show ∀ w ∈ [u_lay RX8 TX8 0], w ∈ wt
  exact List.forall_mem_cons.mpr ⟨w_1_114, fun _ h => absurd h List.not_mem_nil⟩
theorem iX9 : ∀ w ∈ u_ws RX9 TX9 7, w ∈ wt := by
  show ∀ w ∈ [u_lay RX9 TX9 0, u_lay RX9 TX9 1, u_lay RX9 TX9 2, u_lay RX9 TX9 3, u_lay RX9 TX9 4, u_lay RX9 TX9 5, u_lay RX9 TX9 6], w ∈ wt
  exact List.forall_mem_cons.mpr ⟨w_1_236, List.forall_mem_cons.mpr ⟨w_1_238, List.forall_mem_cons.mpr ⟨w_2_0, List.forall_mem_cons.mpr ⟨w_2_2, List.forall_mem_cons.mpr ⟨w_2_4, List.forall_mem_cons.mpr ⟨w_2_6, List.forall_mem_cons.mpr ⟨w_2_8, fun _ h => absurd h List.not_mem_nil⟩⟩⟩⟩⟩⟩⟩
theorem iX10 : ∀ w ∈ u_ws RX10 TX10 35, w ∈ wt := by
  show ∀ w ∈ [u_lay RX10 TX10 0, u_lay RX10 TX10 1, u_lay RX10 TX10 2, u_lay RX10 TX10 3, u_lay RX10 TX10 4, u_lay RX10 TX10 5, u_lay RX10 TX10 6, u_lay RX10 TX10 7, u_lay RX10 TX10 8, u_lay RX10 TX10 9, u_lay RX10 TX10 10, u_lay RX10 TX10 11, u_lay RX10 TX10 12, u_lay RX10 TX10 13, u_lay RX10 TX10 14, u_lay RX10 TX10 15, u_lay RX10 TX10 16, u_lay RX10 TX10 17, u_lay RX10 TX10 18, u_lay RX10 TX10 19, u_lay RX10 TX10 20, u_lay RX10 TX10 21, u_lay RX10 TX10 22, u_lay RX10 TX10 23, u_lay RX10 TX10 24, u_lay RX10 TX10 25, u_lay RX10 TX10 26, u_lay RX10 TX10 27, u_lay RX10 TX10 28, u_lay RX10 TX10 29, u_lay RX10 TX10 30, u_lay RX10 TX10 31, u_lay RX10 TX10 32, u_lay RX10 TX10 33, u_lay RX10 TX10 34], w ∈ wt
  exact List.forall_mem_cons.mpr ⟨w_4_238, List.forall_mem_cons.mpr ⟨w_5_0, List.forall_mem_cons.mpr ⟨w_5_2, List.forall_mem_cons.mpr ⟨w_5_4, List.forall_mem_cons.mpr ⟨w_5_6, List.forall_mem_cons.mpr ⟨w_5_8, List.forall_mem_cons.mpr ⟨w_5_10, List.forall_mem_cons.mpr ⟨w_5_12, List.forall_mem_cons.mpr ⟨w_5_14, List.forall_mem_cons.mpr ⟨w_5_16, List.forall_mem_cons.mpr ⟨w_5_18, List.forall_mem_cons.mpr ⟨w_5_20, List.forall_mem_cons.mpr ⟨w_5_22, List.forall_mem_cons.mpr ⟨w_5_24, List.forall_mem_cons.mpr ⟨w_5_26, List.forall_mem_cons.mpr ⟨w_5_28, List.forall_mem_cons.mpr ⟨w_5_30, List.forall_mem_cons.mpr ⟨w_5_32, List.forall_mem_cons.mpr ⟨w_5_34, List.forall_mem_cons.mpr ⟨w_5_36, List.forall_mem_cons.mpr ⟨w_5_38, List.forall_mem_cons.mpr ⟨w_5_40, List.forall_mem_cons.mpr ⟨w_5_42, List.forall_mem_cons.mpr ⟨w_5_44, List.forall_mem_cons.mpr ⟨w_5_46, List.forall_mem_cons.mpr ⟨w_5_48, List.forall_mem_cons.mpr ⟨w_5_50, List.forall_mem_cons.mpr ⟨w_5_52, List.forall_mem_cons.mpr ⟨w_5_54, List.forall_mem_cons.mpr ⟨w_5_56, List.forall_mem_cons.mpr ⟨w_5_58, List.forall_mem_cons.mpr ⟨w_5_60, List.forall_mem_cons.mpr ⟨w_5_62, List.forall_mem_cons.mpr ⟨w_5_64, List.forall_mem_cons.mpr ⟨w_5_66, fun _ h => absurd h List.not_mem_nil⟩⟩⟩⟩⟩⟩⟩⟩⟩⟩⟩⟩⟩⟩⟩⟩⟩⟩⟩⟩⟩⟩⟩⟩⟩⟩⟩⟩⟩⟩⟩⟩⟩⟩⟩
