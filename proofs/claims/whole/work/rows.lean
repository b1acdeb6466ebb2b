section
-- ===== PART A: goes FIRST, ahead of the names: the tables' words, and 'selects' of the private methods out of them =====
/-- a private method of a class that the tables say can be made, by its rows of tables_1 -/
def lw_okq (q : MethodName × Nat) : Prop := (q.1.cls ≠ "java/lang/invoke/MethodHandle" ∧ q.1.cls ≠ "java/lang/invoke/VarHandle") ∧ Cond.instantiable q.1.cls q.2 ∈ tables_1 ∧ Cond.privateMethod q.1 ∈ tables_1 ∧ Cond.instanceMethod q.1 ∈ tables_1
theorem lw_p0 : lw_okq (⟨"RugIsJurisdiction", "readTape", "()I"⟩, 9) := ⟨⟨by decide +kernel, by decide +kernel⟩, List.mem_of_getElem? (i := 20) (by decide +kernel), List.mem_of_getElem? (i := 339) (by decide +kernel), List.mem_of_getElem? (i := 340) (by decide +kernel)⟩
theorem lw_p1 : lw_okq (⟨"RugIsJurisdiction$Reader", "readOr", "(I)V"⟩, 6) := ⟨⟨by decide +kernel, by decide +kernel⟩, List.mem_of_getElem? (i := 81) (by decide +kernel), List.mem_of_getElem? (i := 470) (by decide +kernel), List.mem_of_getElem? (i := 471) (by decide +kernel)⟩
theorem lw_p2 : lw_okq (⟨"RugIsJurisdiction$Reader", "readAnd", "(I)V"⟩, 6) := ⟨⟨by decide +kernel, by decide +kernel⟩, List.mem_of_getElem? (i := 81) (by decide +kernel), List.mem_of_getElem? (i := 474) (by decide +kernel), List.mem_of_getElem? (i := 475) (by decide +kernel)⟩
theorem lw_p3 : lw_okq (⟨"RugIsJurisdiction$Reader", "readNot", "(I)V"⟩, 6) := ⟨⟨by decide +kernel, by decide +kernel⟩, List.mem_of_getElem? (i := 81) (by decide +kernel), List.mem_of_getElem? (i := 478) (by decide +kernel), List.mem_of_getElem? (i := 479) (by decide +kernel)⟩
theorem lw_p4 : lw_okq (⟨"RugIsJurisdiction$Reader", "readSum", "(I)V"⟩, 6) := ⟨⟨by decide +kernel, by decide +kernel⟩, List.mem_of_getElem? (i := 81) (by decide +kernel), List.mem_of_getElem? (i := 490) (by decide +kernel), List.mem_of_getElem? (i := 491) (by decide +kernel)⟩
theorem lw_p5 : lw_okq (⟨"RugIsJurisdiction$Reader", "readTerm", "(I)V"⟩, 6) := ⟨⟨by decide +kernel, by decide +kernel⟩, List.mem_of_getElem? (i := 81) (by decide +kernel), List.mem_of_getElem? (i := 494) (by decide +kernel), List.mem_of_getElem? (i := 495) (by decide +kernel)⟩
theorem lw_p6 : lw_okq (⟨"RugIsJurisdiction$Reader", "readOne", "(I)V"⟩, 6) := ⟨⟨by decide +kernel, by decide +kernel⟩, List.mem_of_getElem? (i := 81) (by decide +kernel), List.mem_of_getElem? (i := 498) (by decide +kernel), List.mem_of_getElem? (i := 499) (by decide +kernel)⟩
theorem lw_p7 : lw_okq (⟨"RugIsJurisdiction", "refusesWalk", "(I)I"⟩, 9) := ⟨⟨by decide +kernel, by decide +kernel⟩, List.mem_of_getElem? (i := 20) (by decide +kernel), List.mem_of_getElem? (i := 693) (by decide +kernel), List.mem_of_getElem? (i := 694) (by decide +kernel)⟩
theorem lw_p8 : lw_okq (⟨"RugIsJurisdiction", "goThrough", "(I)I"⟩, 9) := ⟨⟨by decide +kernel, by decide +kernel⟩, List.mem_of_getElem? (i := 20) (by decide +kernel), List.mem_of_getElem? (i := 710) (by decide +kernel), List.mem_of_getElem? (i := 711) (by decide +kernel)⟩
theorem lw_p9 : lw_okq (⟨"RugIsJurisdiction", "refusesFines", "(II)I"⟩, 9) := ⟨⟨by decide +kernel, by decide +kernel⟩, List.mem_of_getElem? (i := 20) (by decide +kernel), List.mem_of_getElem? (i := 823) (by decide +kernel), List.mem_of_getElem? (i := 824) (by decide +kernel)⟩
theorem lw_p10 : lw_okq (⟨"RugIsJurisdictionModel", "next", "()V"⟩, 37) := ⟨⟨by decide +kernel, by decide +kernel⟩, List.mem_of_getElem? (i := 929) (by decide +kernel), List.mem_of_getElem? (i := 939) (by decide +kernel), List.mem_of_getElem? (i := 940) (by decide +kernel)⟩
theorem lw_p11 : lw_okq (⟨"RugIsJurisdictionModel", "wordFrom", "(II)I"⟩, 37) := ⟨⟨by decide +kernel, by decide +kernel⟩, List.mem_of_getElem? (i := 929) (by decide +kernel), List.mem_of_getElem? (i := 946) (by decide +kernel), List.mem_of_getElem? (i := 947) (by decide +kernel)⟩
theorem lw_p12 : lw_okq (⟨"RugIsJurisdictionModel", "eRead", "()Z"⟩, 37) := ⟨⟨by decide +kernel, by decide +kernel⟩, List.mem_of_getElem? (i := 929) (by decide +kernel), List.mem_of_getElem? (i := 950) (by decide +kernel), List.mem_of_getElem? (i := 951) (by decide +kernel)⟩
theorem lw_p13 : lw_okq (⟨"RugIsJurisdictionModel", "puts", "(I)V"⟩, 37) := ⟨⟨by decide +kernel, by decide +kernel⟩, List.mem_of_getElem? (i := 929) (by decide +kernel), List.mem_of_getElem? (i := 955) (by decide +kernel), List.mem_of_getElem? (i := 956) (by decide +kernel)⟩
theorem lw_p14 : lw_okq (⟨"RugIsJurisdictionModel", "unwinds", "(I)V"⟩, 37) := ⟨⟨by decide +kernel, by decide +kernel⟩, List.mem_of_getElem? (i := 929) (by decide +kernel), List.mem_of_getElem? (i := 959) (by decide +kernel), List.mem_of_getElem? (i := 960) (by decide +kernel)⟩
theorem lw_p15 : lw_okq (⟨"RugIsJurisdictionModel", "opensOne", "(I)Z"⟩, 37) := ⟨⟨by decide +kernel, by decide +kernel⟩, List.mem_of_getElem? (i := 929) (by decide +kernel), List.mem_of_getElem? (i := 966) (by decide +kernel), List.mem_of_getElem? (i := 967) (by decide +kernel)⟩
def lw_privs_1 : List (MethodName × Nat) := [(⟨"RugIsJurisdiction", "readTape", "()I"⟩, 9), (⟨"RugIsJurisdiction$Reader", "readOr", "(I)V"⟩, 6), (⟨"RugIsJurisdiction$Reader", "readAnd", "(I)V"⟩, 6), (⟨"RugIsJurisdiction$Reader", "readNot", "(I)V"⟩, 6), (⟨"RugIsJurisdiction$Reader", "readSum", "(I)V"⟩, 6), (⟨"RugIsJurisdiction$Reader", "readTerm", "(I)V"⟩, 6), (⟨"RugIsJurisdiction$Reader", "readOne", "(I)V"⟩, 6), (⟨"RugIsJurisdiction", "refusesWalk", "(I)I"⟩, 9), (⟨"RugIsJurisdiction", "goThrough", "(I)I"⟩, 9), (⟨"RugIsJurisdiction", "refusesFines", "(II)I"⟩, 9), (⟨"RugIsJurisdictionModel", "next", "()V"⟩, 37), (⟨"RugIsJurisdictionModel", "wordFrom", "(II)I"⟩, 37), (⟨"RugIsJurisdictionModel", "eRead", "()Z"⟩, 37), (⟨"RugIsJurisdictionModel", "puts", "(I)V"⟩, 37), (⟨"RugIsJurisdictionModel", "unwinds", "(I)V"⟩, 37), (⟨"RugIsJurisdictionModel", "opensOne", "(I)Z"⟩, 37)]
theorem lw_r1 : ∀ q ∈ lw_privs_1, lw_okq q := List.forall_mem_cons.mpr ⟨lw_p0, List.forall_mem_cons.mpr ⟨lw_p1, List.forall_mem_cons.mpr ⟨lw_p2, List.forall_mem_cons.mpr ⟨lw_p3, List.forall_mem_cons.mpr ⟨lw_p4, List.forall_mem_cons.mpr ⟨lw_p5, List.forall_mem_cons.mpr ⟨lw_p6, List.forall_mem_cons.mpr ⟨lw_p7, List.forall_mem_cons.mpr ⟨lw_p8, List.forall_mem_cons.mpr ⟨lw_p9, List.forall_mem_cons.mpr ⟨lw_p10, List.forall_mem_cons.mpr ⟨lw_p11, List.forall_mem_cons.mpr ⟨lw_p12, List.forall_mem_cons.mpr ⟨lw_p13, List.forall_mem_cons.mpr ⟨lw_p14, List.forall_mem_cons.mpr ⟨lw_p15, fun _ h => absurd h List.not_mem_nil⟩⟩⟩⟩⟩⟩⟩⟩⟩⟩⟩⟩⟩⟩⟩⟩
theorem lw_p16 : lw_okq (⟨"RugIsJurisdictionModel", "holds", "(I)V"⟩, 37) := ⟨⟨by decide +kernel, by decide +kernel⟩, List.mem_of_getElem? (i := 929) (by decide +kernel), List.mem_of_getElem? (i := 970) (by decide +kernel), List.mem_of_getElem? (i := 971) (by decide +kernel)⟩
theorem lw_p17 : lw_okq (⟨"RugIsJurisdictionModel", "signOf", "()I"⟩, 37) := ⟨⟨by decide +kernel, by decide +kernel⟩, List.mem_of_getElem? (i := 929) (by decide +kernel), List.mem_of_getElem? (i := 974) (by decide +kernel), List.mem_of_getElem? (i := 975) (by decide +kernel)⟩
theorem lw_p18 : lw_okq (⟨"RugIsJurisdictionModel", "between", "(I)Z"⟩, 37) := ⟨⟨by decide +kernel, by decide +kernel⟩, List.mem_of_getElem? (i := 929) (by decide +kernel), List.mem_of_getElem? (i := 978) (by decide +kernel), List.mem_of_getElem? (i := 979) (by decide +kernel)⟩
theorem lw_p19 : lw_okq (⟨"RugIsJurisdictionModel", "isRug", "(I)Z"⟩, 37) := ⟨⟨by decide +kernel, by decide +kernel⟩, List.mem_of_getElem? (i := 929) (by decide +kernel), List.mem_of_getElem? (i := 1118) (by decide +kernel), List.mem_of_getElem? (i := 1119) (by decide +kernel)⟩
theorem lw_p20 : lw_okq (⟨"RugIsJurisdictionModel", "asksOf", "(III)I"⟩, 37) := ⟨⟨by decide +kernel, by decide +kernel⟩, List.mem_of_getElem? (i := 929) (by decide +kernel), List.mem_of_getElem? (i := 1125) (by decide +kernel), List.mem_of_getElem? (i := 1126) (by decide +kernel)⟩
theorem lw_p21 : lw_okq (⟨"RugIsJurisdictionModel", "sizeOf", "(I)I"⟩, 37) := ⟨⟨by decide +kernel, by decide +kernel⟩, List.mem_of_getElem? (i := 929) (by decide +kernel), List.mem_of_getElem? (i := 1129) (by decide +kernel), List.mem_of_getElem? (i := 1130) (by decide +kernel)⟩
theorem lw_p22 : lw_okq (⟨"RugIsJurisdictionModel", "says", "(I)I"⟩, 37) := ⟨⟨by decide +kernel, by decide +kernel⟩, List.mem_of_getElem? (i := 929) (by decide +kernel), List.mem_of_getElem? (i := 1133) (by decide +kernel), List.mem_of_getElem? (i := 1134) (by decide +kernel)⟩
theorem lw_p23 : lw_okq (⟨"RugIsJurisdictionModel", "cornersOf", "(I)I"⟩, 37) := ⟨⟨by decide +kernel, by decide +kernel⟩, List.mem_of_getElem? (i := 929) (by decide +kernel), List.mem_of_getElem? (i := 1154) (by decide +kernel), List.mem_of_getElem? (i := 1155) (by decide +kernel)⟩
theorem lw_p24 : lw_okq (⟨"RugIsJurisdictionModel", "ruledNow", "(I)I"⟩, 37) := ⟨⟨by decide +kernel, by decide +kernel⟩, List.mem_of_getElem? (i := 929) (by decide +kernel), List.mem_of_getElem? (i := 1162) (by decide +kernel), List.mem_of_getElem? (i := 1163) (by decide +kernel)⟩
theorem lw_p25 : lw_okq (⟨"RugIsJurisdictionModel", "rulesBut", "(I)V"⟩, 37) := ⟨⟨by decide +kernel, by decide +kernel⟩, List.mem_of_getElem? (i := 929) (by decide +kernel), List.mem_of_getElem? (i := 1166) (by decide +kernel), List.mem_of_getElem? (i := 1167) (by decide +kernel)⟩
theorem lw_p26 : lw_okq (⟨"RugIsJurisdictionModel", "isAsleep", "(I)Z"⟩, 37) := ⟨⟨by decide +kernel, by decide +kernel⟩, List.mem_of_getElem? (i := 929) (by decide +kernel), List.mem_of_getElem? (i := 1170) (by decide +kernel), List.mem_of_getElem? (i := 1171) (by decide +kernel)⟩
theorem lw_p27 : lw_okq (⟨"RugIsJurisdictionModel", "isNursed", "(II)Z"⟩, 37) := ⟨⟨by decide +kernel, by decide +kernel⟩, List.mem_of_getElem? (i := 929) (by decide +kernel), List.mem_of_getElem? (i := 1174) (by decide +kernel), List.mem_of_getElem? (i := 1175) (by decide +kernel)⟩
theorem lw_p28 : lw_okq (⟨"RugIsJurisdictionModel", "lies", "(II)Z"⟩, 37) := ⟨⟨by decide +kernel, by decide +kernel⟩, List.mem_of_getElem? (i := 929) (by decide +kernel), List.mem_of_getElem? (i := 1178) (by decide +kernel), List.mem_of_getElem? (i := 1179) (by decide +kernel)⟩
theorem lw_p29 : lw_okq (⟨"RugIsJurisdictionModel", "ruledBy", "(I)I"⟩, 37) := ⟨⟨by decide +kernel, by decide +kernel⟩, List.mem_of_getElem? (i := 929) (by decide +kernel), List.mem_of_getElem? (i := 1182) (by decide +kernel), List.mem_of_getElem? (i := 1183) (by decide +kernel)⟩
theorem lw_p30 : lw_okq (⟨"RugIsJurisdictionModel", "finedAt", "(I)I"⟩, 37) := ⟨⟨by decide +kernel, by decide +kernel⟩, List.mem_of_getElem? (i := 929) (by decide +kernel), List.mem_of_getElem? (i := 1190) (by decide +kernel), List.mem_of_getElem? (i := 1191) (by decide +kernel)⟩
theorem lw_p31 : lw_okq (⟨"RugIsJurisdictionModel", "finedBy", "(II)I"⟩, 37) := ⟨⟨by decide +kernel, by decide +kernel⟩, List.mem_of_getElem? (i := 929) (by decide +kernel), List.mem_of_getElem? (i := 1194) (by decide +kernel), List.mem_of_getElem? (i := 1195) (by decide +kernel)⟩
def lw_privs_2 : List (MethodName × Nat) := [(⟨"RugIsJurisdictionModel", "holds", "(I)V"⟩, 37), (⟨"RugIsJurisdictionModel", "signOf", "()I"⟩, 37), (⟨"RugIsJurisdictionModel", "between", "(I)Z"⟩, 37), (⟨"RugIsJurisdictionModel", "isRug", "(I)Z"⟩, 37), (⟨"RugIsJurisdictionModel", "asksOf", "(III)I"⟩, 37), (⟨"RugIsJurisdictionModel", "sizeOf", "(I)I"⟩, 37), (⟨"RugIsJurisdictionModel", "says", "(I)I"⟩, 37), (⟨"RugIsJurisdictionModel", "cornersOf", "(I)I"⟩, 37), (⟨"RugIsJurisdictionModel", "ruledNow", "(I)I"⟩, 37), (⟨"RugIsJurisdictionModel", "rulesBut", "(I)V"⟩, 37), (⟨"RugIsJurisdictionModel", "isAsleep", "(I)Z"⟩, 37), (⟨"RugIsJurisdictionModel", "isNursed", "(II)Z"⟩, 37), (⟨"RugIsJurisdictionModel", "lies", "(II)Z"⟩, 37), (⟨"RugIsJurisdictionModel", "ruledBy", "(I)I"⟩, 37), (⟨"RugIsJurisdictionModel", "finedAt", "(I)I"⟩, 37), (⟨"RugIsJurisdictionModel", "finedBy", "(II)I"⟩, 37)]
theorem lw_r2 : ∀ q ∈ lw_privs_2, lw_okq q := List.forall_mem_cons.mpr ⟨lw_p16, List.forall_mem_cons.mpr ⟨lw_p17, List.forall_mem_cons.mpr ⟨lw_p18, List.forall_mem_cons.mpr ⟨lw_p19, List.forall_mem_cons.mpr ⟨lw_p20, List.forall_mem_cons.mpr ⟨lw_p21, List.forall_mem_cons.mpr ⟨lw_p22, List.forall_mem_cons.mpr ⟨lw_p23, List.forall_mem_cons.mpr ⟨lw_p24, List.forall_mem_cons.mpr ⟨lw_p25, List.forall_mem_cons.mpr ⟨lw_p26, List.forall_mem_cons.mpr ⟨lw_p27, List.forall_mem_cons.mpr ⟨lw_p28, List.forall_mem_cons.mpr ⟨lw_p29, List.forall_mem_cons.mpr ⟨lw_p30, List.forall_mem_cons.mpr ⟨lw_p31, fun _ h => absurd h List.not_mem_nil⟩⟩⟩⟩⟩⟩⟩⟩⟩⟩⟩⟩⟩⟩⟩⟩
theorem lw_p32 : lw_okq (⟨"RugIsJurisdictionModel", "isFringe", "(II)Z"⟩, 37) := ⟨⟨by decide +kernel, by decide +kernel⟩, List.mem_of_getElem? (i := 929) (by decide +kernel), List.mem_of_getElem? (i := 1198) (by decide +kernel), List.mem_of_getElem? (i := 1199) (by decide +kernel)⟩
theorem lw_p33 : lw_okq (⟨"RugIsJurisdictionModel", "isLetOn", "(I)Z"⟩, 37) := ⟨⟨by decide +kernel, by decide +kernel⟩, List.mem_of_getElem? (i := 929) (by decide +kernel), List.mem_of_getElem? (i := 1202) (by decide +kernel), List.mem_of_getElem? (i := 1203) (by decide +kernel)⟩
theorem lw_p34 : lw_okq (⟨"RugIsJurisdictionModel", "walkWrong", "(I)I"⟩, 37) := ⟨⟨by decide +kernel, by decide +kernel⟩, List.mem_of_getElem? (i := 929) (by decide +kernel), List.mem_of_getElem? (i := 1215) (by decide +kernel), List.mem_of_getElem? (i := 1216) (by decide +kernel)⟩
theorem lw_p35 : lw_okq (⟨"RugIsJurisdictionModel", "goesOver", "(I)V"⟩, 37) := ⟨⟨by decide +kernel, by decide +kernel⟩, List.mem_of_getElem? (i := 929) (by decide +kernel), List.mem_of_getElem? (i := 1225) (by decide +kernel), List.mem_of_getElem? (i := 1226) (by decide +kernel)⟩
theorem lw_p36 : lw_okq (⟨"RugIsJurisdictionModel", "relaxes", "(IIZ)Z"⟩, 37) := ⟨⟨by decide +kernel, by decide +kernel⟩, List.mem_of_getElem? (i := 929) (by decide +kernel), List.mem_of_getElem? (i := 1244) (by decide +kernel), List.mem_of_getElem? (i := 1245) (by decide +kernel)⟩
theorem lw_p37 : lw_okq (⟨"RugIsJurisdictionModel", "besides", "(I)I"⟩, 37) := ⟨⟨by decide +kernel, by decide +kernel⟩, List.mem_of_getElem? (i := 929) (by decide +kernel), List.mem_of_getElem? (i := 1252) (by decide +kernel), List.mem_of_getElem? (i := 1253) (by decide +kernel)⟩
theorem lw_p38 : lw_okq (⟨"RugIsJurisdictionModel", "finedAll", "(I)I"⟩, 37) := ⟨⟨by decide +kernel, by decide +kernel⟩, List.mem_of_getElem? (i := 929) (by decide +kernel), List.mem_of_getElem? (i := 1268) (by decide +kernel), List.mem_of_getElem? (i := 1269) (by decide +kernel)⟩
theorem lw_p39 : lw_okq (⟨"RugIsJurisdictionModel", "toldWrong", "(II)I"⟩, 37) := ⟨⟨by decide +kernel, by decide +kernel⟩, List.mem_of_getElem? (i := 929) (by decide +kernel), List.mem_of_getElem? (i := 1292) (by decide +kernel), List.mem_of_getElem? (i := 1293) (by decide +kernel)⟩
theorem lw_p40 : lw_okq (⟨"RugIsJurisdictionModel", "sheetWrong", "(I)I"⟩, 37) := ⟨⟨by decide +kernel, by decide +kernel⟩, List.mem_of_getElem? (i := 929) (by decide +kernel), List.mem_of_getElem? (i := 1296) (by decide +kernel), List.mem_of_getElem? (i := 1297) (by decide +kernel)⟩
theorem lw_p41 : lw_okq (⟨"RugIsJurisdictionModel", "unlike", "(II)I"⟩, 37) := ⟨⟨by decide +kernel, by decide +kernel⟩, List.mem_of_getElem? (i := 929) (by decide +kernel), List.mem_of_getElem? (i := 1300) (by decide +kernel), List.mem_of_getElem? (i := 1301) (by decide +kernel)⟩
theorem lw_p42 : lw_okq (⟨"RugIsJurisdictionModel", "walksBy", "(II)V"⟩, 37) := ⟨⟨by decide +kernel, by decide +kernel⟩, List.mem_of_getElem? (i := 929) (by decide +kernel), List.mem_of_getElem? (i := 1331) (by decide +kernel), List.mem_of_getElem? (i := 1332) (by decide +kernel)⟩
def lw_privs_3 : List (MethodName × Nat) := [(⟨"RugIsJurisdictionModel", "isFringe", "(II)Z"⟩, 37), (⟨"RugIsJurisdictionModel", "isLetOn", "(I)Z"⟩, 37), (⟨"RugIsJurisdictionModel", "walkWrong", "(I)I"⟩, 37), (⟨"RugIsJurisdictionModel", "goesOver", "(I)V"⟩, 37), (⟨"RugIsJurisdictionModel", "relaxes", "(IIZ)Z"⟩, 37), (⟨"RugIsJurisdictionModel", "besides", "(I)I"⟩, 37), (⟨"RugIsJurisdictionModel", "finedAll", "(I)I"⟩, 37), (⟨"RugIsJurisdictionModel", "toldWrong", "(II)I"⟩, 37), (⟨"RugIsJurisdictionModel", "sheetWrong", "(I)I"⟩, 37), (⟨"RugIsJurisdictionModel", "unlike", "(II)I"⟩, 37), (⟨"RugIsJurisdictionModel", "walksBy", "(II)V"⟩, 37)]
theorem lw_r3 : ∀ q ∈ lw_privs_3, lw_okq q := List.forall_mem_cons.mpr ⟨lw_p32, List.forall_mem_cons.mpr ⟨lw_p33, List.forall_mem_cons.mpr ⟨lw_p34, List.forall_mem_cons.mpr ⟨lw_p35, List.forall_mem_cons.mpr ⟨lw_p36, List.forall_mem_cons.mpr ⟨lw_p37, List.forall_mem_cons.mpr ⟨lw_p38, List.forall_mem_cons.mpr ⟨lw_p39, List.forall_mem_cons.mpr ⟨lw_p40, List.forall_mem_cons.mpr ⟨lw_p41, List.forall_mem_cons.mpr ⟨lw_p42, fun _ h => absurd h List.not_mem_nil⟩⟩⟩⟩⟩⟩⟩⟩⟩⟩⟩
def lw_privs : List (MethodName × Nat) := lw_privs_1 ++ (lw_privs_2 ++ (lw_privs_3))
def lw_tbl : List Cond := k2_sels lw_privs ++ tables_1
theorem lw_privs_ok : ∀ q ∈ lw_privs, lw_okq q := by
  show ∀ q ∈ lw_privs_1 ++ (lw_privs_2 ++ (lw_privs_3)), lw_okq q
  exact List.forall_mem_append.mpr ⟨lw_r1, List.forall_mem_append.mpr ⟨lw_r2, lw_r3⟩⟩
-- ===== end of PART A; then your names; then what follows =====
end
section
/-! ===== BEGIN words of one list among another's, by their places ===== -/
theorem goodIn_r {big : List Cond} (ws : List Cond) (ps : List Nat) (hp : ws = ps.filterMap (fun i => big[i]?)) (h : ws.all goodWord = true) : GoodIn big ws := by
  intro w hw
  have h1 := List.all_eq_true.mp h w hw
  rw [hp] at hw
  obtain ⟨i, -, hi⟩ := List.mem_filterMap.mp hw
  have hm : w ∈ big := by first | exact List.mem_of_getElem? hi | exact List.getElem?_mem hi
  exact ⟨hm, good_of_word h1⟩
theorem goodIn_app {big a b : List Cond} (ha : GoodIn big a) (hb : GoodIn big b) : GoodIn big (a ++ b) := fun w h => (List.mem_append.mp h).elim (ha w) (hb w)
theorem goodIn_ca {big a b : List Cond} {c : Cond} (ha : GoodIn big (c :: a)) (hb : GoodIn big b) : GoodIn big (c :: (a ++ b)) := fun w h => (List.mem_cons.mp h).elim (fun e => ha w (List.mem_cons.mpr (Or.inl e))) (fun h => (List.mem_append.mp h).elim (fun h => ha w (List.mem_cons.mpr (Or.inr h))) (hb w))
theorem goodIn_sub {big ws : List Cond} (hm : ∀ w ∈ ws, w ∈ big) (h : ws.all goodWord = true) : GoodIn big ws := fun w hw => ⟨hm w hw, good_of_word (List.all_eq_true.mp h w hw)⟩
theorem vr_outer (c : ClassId) (N h0 : Nat) : ∀ i : Nat, Jvm.Free.Multi.outerC c N h0 i = arrV c N (fun j => va_rf (if j < i then some (h0 + 1 + j) else none))
  | 0 => by
    show ({ cls := c, slots := Array.replicate N .null, vm := .none } : Cell) = _
    rw [arrV_new]
    refine congrArg (arrV c N) (funext fun j => ?_)
    simp [va_rf]
  | i + 1 => by
    show (Jvm.Free.Multi.outerC c N h0 i).setSlot i (.ref (h0 + 1 + i)) = _
    rw [vr_outer c N h0 i, arrV_store]
    refine congrArg (arrV c N) (funext fun j => ?_)
    by_cases e : j = i
    · subst e
      simp [updV, va_rf]
    · by_cases h : j < i
      · simp [updV, e, h, Nat.lt_succ_of_lt h]
      · simp [updV, e, h, show ¬ j < i + 1 by omega]
/-! ===== END ===== -/
/-! ===== BEGIN printed: names, fields, word lists, decode rows ===== -/
def RX0 : String := "RugIsJurisdiction$Common"
def TX0 : u_T := fun k => match k with
  | 0 => ("RugIsJurisdiction$Common", "texts", "LRugIsJurisdiction$Texts;", true)
  | 1 => ("RugIsJurisdiction$Common", "rugs", "I", false)
  | 2 => ("RugIsJurisdiction$Common", "hour", "I", false)
  | 3 => ("RugIsJurisdiction$Common", "law", "I", false)
  | 4 => ("RugIsJurisdiction$Common", "kind", "[I", true)
  | 5 => ("RugIsJurisdiction$Common", "more", "[I", true)
  | 6 => ("RugIsJurisdiction$Common", "from", "[I", true)
  | 7 => ("RugIsJurisdiction$Common", "to", "[I", true)
  | 8 => ("RugIsJurisdiction$Common", "size", "[I", true)
  | 9 => ("RugIsJurisdiction$Common", "guests", "[I", true)
  | 10 => ("RugIsJurisdiction$Common", "ruler", "[I", true)
  | _ => ("RugIsJurisdiction$Common", "fine", "[I", true)
def tyX0 : Nat → FieldType := fun k => match k with
  | 0 => .object "RugIsJurisdiction$Texts"
  | 1 => .int
  | 2 => .int
  | 3 => .int
  | 4 => .array .int
  | 5 => .array .int
  | 6 => .array .int
  | 7 => .array .int
  | 8 => .array .int
  | 9 => .array .int
  | 10 => .array .int
  | _ => .array .int
abbrev wsX00 : List Cond := u_ws RX0 TX0 12
theorem nmX0 : ∀ a, a < 12 → ∀ b, b < 12 → a ≠ b → (TX0 a).2.1 ≠ (TX0 b).2.1 := by decide +kernel
theorem tyX0_ok : ∀ k, k < 12 → parseFieldDescriptor (TX0 k).2.2.1 = some (tyX0 k) := by decide +kernel
abbrev cX0_init : ByteArray := prog_2_method_1_code
def yX0_init : MethodName := ⟨RX0, "<init>", "(LRugIsJurisdiction$Texts;)V"⟩
abbrev cX0_isRug : ByteArray := prog_2_method_2_code
def yX0_isRug : MethodName := ⟨RX0, "isRug", "(I)Z"⟩
abbrev cX0_add : ByteArray := prog_2_method_3_code
def yX0_add : MethodName := ⟨RX0, "add", "(II)I"⟩
abbrev cX0_lay : ByteArray := prog_2_method_4_code
def yX0_lay : MethodName := ⟨RX0, "lay", "(III)V"⟩
abbrev cX0_corners : ByteArray := prog_2_method_5_code
def yX0_corners : MethodName := ⟨RX0, "corners", "(I)I"⟩
abbrev cX0_liesOn : ByteArray := prog_2_method_6_code
def yX0_liesOn : MethodName := ⟨RX0, "liesOn", "(II)Z"⟩
abbrev cX0_hasFringeOn : ByteArray := prog_2_method_7_code
def yX0_hasFringeOn : MethodName := ⟨RX0, "hasFringeOn", "(II)Z"⟩
abbrev cX0_layers : ByteArray := prog_2_method_8_code
def yX0_layers : MethodName := ⟨RX0, "layers", "(I)I"⟩
abbrev cX0_says : ByteArray := prog_2_method_9_code
def yX0_says : MethodName := ⟨RX0, "says", "(IIII)I"⟩
abbrev cX0_isAsleep : ByteArray := prog_2_method_10_code
def yX0_isAsleep : MethodName := ⟨RX0, "isAsleep", "(II)Z"⟩
abbrev cX0_admits : ByteArray := prog_2_method_11_code
def yX0_admits : MethodName := ⟨RX0, "admits", "(II)Z"⟩
abbrev cX0_fineOf : ByteArray := prog_2_method_12_code
def yX0_fineOf : MethodName := ⟨RX0, "fineOf", "(III)I"⟩
abbrev cX0_awakeAt : ByteArray := prog_2_method_13_code
def yX0_awakeAt : MethodName := ⟨RX0, "awakeAt", "(I)I"⟩
abbrev cX0_rulerAmong : ByteArray := prog_2_method_14_code
def yX0_rulerAmong : MethodName := ⟨RX0, "rulerAmong", "(II)I"⟩
abbrev cX0_look : ByteArray := prog_2_method_15_code
def yX0_look : MethodName := ⟨RX0, "look", "()V"⟩
abbrev cX0_findRulers : ByteArray := prog_2_method_16_code
def yX0_findRulers : MethodName := ⟨RX0, "findRulers", "()V"⟩
abbrev cX0_letsOn : ByteArray := prog_2_method_17_code
def yX0_letsOn : MethodName := ⟨RX0, "letsOn", "(I)Z"⟩
abbrev cX0_realm : ByteArray := prog_2_method_18_code
def yX0_realm : MethodName := ⟨RX0, "realm", "(I)J"⟩
abbrev cX0_fineOfRealm : ByteArray := prog_2_method_19_code
def yX0_fineOfRealm : MethodName := ⟨RX0, "fineOfRealm", "(I)I"⟩
abbrev cX0_ruledNow : ByteArray := prog_2_method_20_code
def yX0_ruledNow : MethodName := ⟨RX0, "ruledNow", "(I)I"⟩
abbrev cX0_ruledByAny : ByteArray := prog_2_method_21_code
def yX0_ruledByAny : MethodName := ⟨RX0, "ruledByAny", "(I)I"⟩
abbrev cX0_neighbours : ByteArray := prog_2_method_22_code
def yX0_neighbours : MethodName := ⟨RX0, "neighbours", "(I)I"⟩
abbrev cX0_joined : ByteArray := prog_2_method_23_code
def yX0_joined : MethodName := ⟨RX0, "joined", "(I)I"⟩
abbrev cX0_welcome : ByteArray := prog_2_method_24_code
def yX0_welcome : MethodName := ⟨RX0, "welcome", "(I)V"⟩
abbrev cX0_fineOfAll : ByteArray := prog_2_method_25_code
def yX0_fineOfAll : MethodName := ⟨RX0, "fineOfAll", "(II)I"⟩
abbrev cX0_fineWere : ByteArray := prog_2_method_26_code
def yX0_fineWere : MethodName := ⟨RX0, "fineWere", "(II)I"⟩
abbrev cX0_firstOther : ByteArray := prog_2_method_27_code
def yX0_firstOther : MethodName := ⟨RX0, "firstOther", "([III)I"⟩
def RX1 : String := "RugIsJurisdiction$Image"
def TX1 : u_T := fun k => match k with
  | 0 => ("RugIsJurisdiction$Image", "isThere", "Z", false)
  | 1 => ("RugIsJurisdiction$Image", "rugs", "I", false)
  | 2 => ("RugIsJurisdiction$Image", "hour", "I", false)
  | 3 => ("RugIsJurisdiction$Image", "law", "I", false)
  | 4 => ("RugIsJurisdiction$Image", "from", "[I", true)
  | 5 => ("RugIsJurisdiction$Image", "to", "[I", true)
  | _ => ("RugIsJurisdiction$Image", "guests", "[I", true)
def tyX1 : Nat → FieldType := fun k => match k with
  | 0 => .boolean
  | 1 => .int
  | 2 => .int
  | 3 => .int
  | 4 => .array .int
  | 5 => .array .int
  | _ => .array .int
abbrev wsX10 : List Cond := u_ws RX1 TX1 7
theorem nmX1 : ∀ a, a < 7 → ∀ b, b < 7 → a ≠ b → (TX1 a).2.1 ≠ (TX1 b).2.1 := by decide +kernel
theorem tyX1_ok : ∀ k, k < 7 → parseFieldDescriptor (TX1 k).2.2.1 = some (tyX1 k) := by decide +kernel
abbrev cX1_init : ByteArray := prog_3_method_1_code
def yX1_init : MethodName := ⟨RX1, "<init>", "()V"⟩
abbrev cX1_keep : ByteArray := prog_3_method_2_code
def yX1_keep : MethodName := ⟨RX1, "keep", "(LRugIsJurisdiction$Common;)V"⟩
abbrev cX1_restore : ByteArray := prog_3_method_3_code
def yX1_restore : MethodName := ⟨RX1, "restore", "(LRugIsJurisdiction$Common;)V"⟩
def RX2 : String := "RugIsJurisdiction$Lots"
def TX2 : u_T := fun k => match k with
  | 0 => ("RugIsJurisdiction$Lots", "common", "LRugIsJurisdiction$Common;", true)
  | 1 => ("RugIsJurisdiction$Lots", "at", "I", false)
  | 2 => ("RugIsJurisdiction$Lots", "fined", "I", false)
  | _ => ("RugIsJurisdiction$Lots", "borders", "I", false)
def tyX2 : Nat → FieldType := fun k => match k with
  | 0 => .object "RugIsJurisdiction$Common"
  | 1 => .int
  | 2 => .int
  | _ => .int
abbrev wsX20 : List Cond := u_ws RX2 TX2 4
theorem nmX2 : ∀ a, a < 4 → ∀ b, b < 4 → a ≠ b → (TX2 a).2.1 ≠ (TX2 b).2.1 := by decide +kernel
theorem tyX2_ok : ∀ k, k < 4 → parseFieldDescriptor (TX2 k).2.2.1 = some (tyX2 k) := by decide +kernel
abbrev cX2_init : ByteArray := prog_4_method_1_code
def yX2_init : MethodName := ⟨RX2, "<init>", "(LRugIsJurisdiction$Common;)V"⟩
abbrev cX2_stroll : ByteArray := prog_4_method_2_code
def yX2_stroll : MethodName := ⟨RX2, "stroll", "(III)V"⟩
def RX3 : String := "RugIsJurisdiction$Reader"
def TX3 : u_T := fun k => match k with
  | 0 => ("RugIsJurisdiction$Reader", "tape", "LRugIsJurisdiction$Tape;", true)
  | 1 => ("RugIsJurisdiction$Reader", "codes", "[I", true)
  | 2 => ("RugIsJurisdiction$Reader", "ends", "[I", true)
  | 3 => ("RugIsJurisdiction$Reader", "written", "I", false)
  | 4 => ("RugIsJurisdiction$Reader", "at", "I", false)
  | _ => ("RugIsJurisdiction$Reader", "isWrong", "Z", false)
def tyX3 : Nat → FieldType := fun k => match k with
  | 0 => .object "RugIsJurisdiction$Tape"
  | 1 => .array .int
  | 2 => .array .int
  | 3 => .int
  | 4 => .int
  | _ => .boolean
abbrev wsX30 : List Cond := u_ws RX3 TX3 6
theorem nmX3 : ∀ a, a < 6 → ∀ b, b < 6 → a ≠ b → (TX3 a).2.1 ≠ (TX3 b).2.1 := by decide +kernel
theorem tyX3_ok : ∀ k, k < 6 → parseFieldDescriptor (TX3 k).2.2.1 = some (tyX3 k) := by decide +kernel
abbrev cX3_init : ByteArray := prog_5_method_1_code
def yX3_init : MethodName := ⟨RX3, "<init>", "(LRugIsJurisdiction$Tape;)V"⟩
abbrev cX3_fault : ByteArray := prog_5_method_2_code
def yX3_fault : MethodName := ⟨RX3, "fault", "()I"⟩
abbrev cX3_isAt : ByteArray := prog_5_method_3_code
def yX3_isAt : MethodName := ⟨RX3, "isAt", "(I)Z"⟩
abbrev cX3_demand : ByteArray := prog_5_method_4_code
def yX3_demand : MethodName := ⟨RX3, "demand", "(I)V"⟩
abbrev cX3_goOn : ByteArray := prog_5_method_5_code
def yX3_goOn : MethodName := ⟨RX3, "goOn", "()V"⟩
abbrev cX3_write : ByteArray := prog_5_method_6_code
def yX3_write : MethodName := ⟨RX3, "write", "(I)V"⟩
abbrev cX3_readOr : ByteArray := prog_5_method_7_code
def yX3_readOr : MethodName := ⟨RX3, "readOr", "(I)V"⟩
abbrev cX3_readAnd : ByteArray := prog_5_method_8_code
def yX3_readAnd : MethodName := ⟨RX3, "readAnd", "(I)V"⟩
abbrev cX3_readNot : ByteArray := prog_5_method_9_code
def yX3_readNot : MethodName := ⟨RX3, "readNot", "(I)V"⟩
abbrev cX3_readSum : ByteArray := prog_5_method_10_code
def yX3_readSum : MethodName := ⟨RX3, "readSum", "(I)V"⟩
abbrev cX3_readTerm : ByteArray := prog_5_method_11_code
def yX3_readTerm : MethodName := ⟨RX3, "readTerm", "(I)V"⟩
abbrev cX3_readOne : ByteArray := prog_5_method_12_code
def yX3_readOne : MethodName := ⟨RX3, "readOne", "(I)V"⟩
abbrev cX3_opens : ByteArray := prog_5_method_13_code
def yX3_opens : MethodName := ⟨RX3, "opens", "(I)Z"⟩
def RX4 : String := "RugIsJurisdiction$Sheets"
def TX4 : u_T := fun k => match k with
  | 0 => ("RugIsJurisdiction$Sheets", "row", "[[I", true)
  | 1 => ("RugIsJurisdiction$Sheets", "sort", "[I", true)
  | _ => ("RugIsJurisdiction$Sheets", "size", "[I", true)
def tyX4 : Nat → FieldType := fun k => match k with
  | 0 => .array (.array .int)
  | 1 => .array .int
  | _ => .array .int
abbrev wsX40 : List Cond := u_ws RX4 TX4 3
theorem nmX4 : ∀ a, a < 3 → ∀ b, b < 3 → a ≠ b → (TX4 a).2.1 ≠ (TX4 b).2.1 := by decide +kernel
theorem tyX4_ok : ∀ k, k < 3 → parseFieldDescriptor (TX4 k).2.2.1 = some (tyX4 k) := by decide +kernel
abbrev cX4_init : ByteArray := prog_6_method_1_code
def yX4_init : MethodName := ⟨RX4, "<init>", "()V"⟩
abbrev cX4_refuses : ByteArray := prog_6_method_2_code
def yX4_refuses : MethodName := ⟨RX4, "refuses", "(I)I"⟩
abbrev cX4_renew : ByteArray := prog_6_method_3_code
def yX4_renew : MethodName := ⟨RX4, "renew", "(III)V"⟩
abbrev cX4_write : ByteArray := prog_6_method_4_code
def yX4_write : MethodName := ⟨RX4, "write", "(III)V"⟩
def RX5 : String := "RugIsJurisdiction$Tally"
def TX5 : u_T := fun k => match k with
  | 0 => ("RugIsJurisdiction$Tally", "common", "LRugIsJurisdiction$Common;", true)
  | 1 => ("RugIsJurisdiction$Tally", "fined", "I", false)
  | 2 => ("RugIsJurisdiction$Tally", "borders", "I", false)
  | 3 => ("RugIsJurisdiction$Tally", "rugs", "I", false)
  | _ => ("RugIsJurisdiction$Tally", "last", "I", false)
def tyX5 : Nat → FieldType := fun k => match k with
  | 0 => .object "RugIsJurisdiction$Common"
  | 1 => .int
  | 2 => .int
  | 3 => .int
  | _ => .int
abbrev wsX50 : List Cond := u_ws RX5 TX5 5
theorem nmX5 : ∀ a, a < 5 → ∀ b, b < 5 → a ≠ b → (TX5 a).2.1 ≠ (TX5 b).2.1 := by decide +kernel
theorem tyX5_ok : ∀ k, k < 5 → parseFieldDescriptor (TX5 k).2.2.1 = some (tyX5 k) := by decide +kernel
abbrev cX5_init : ByteArray := prog_7_method_1_code
def yX5_init : MethodName := ⟨RX5, "<init>", "(LRugIsJurisdiction$Common;)V"⟩
abbrev cX5_begin : ByteArray := prog_7_method_2_code
def yX5_begin : MethodName := ⟨RX5, "begin", "()V"⟩
abbrev cX5_crosses : ByteArray := prog_7_method_3_code
def yX5_crosses : MethodName := ⟨RX5, "crosses", "(I)Z"⟩
abbrev cX5_isStopped : ByteArray := prog_7_method_4_code
def yX5_isStopped : MethodName := ⟨RX5, "isStopped", "(I)Z"⟩
abbrev cX5_go : ByteArray := prog_7_method_5_code
def yX5_go : MethodName := ⟨RX5, "go", "(I)V"⟩
abbrev cX5_answer : ByteArray := prog_7_method_6_code
def yX5_answer : MethodName := ⟨RX5, "answer", "(I)I"⟩
def RX6 : String := "RugIsJurisdiction$Tape"
def TX6 : u_T := fun k => match k with
  | 0 => ("RugIsJurisdiction$Tape", "bytes", "[I", true)
  | 1 => ("RugIsJurisdiction$Tape", "size", "I", false)
  | 2 => ("RugIsJurisdiction$Tape", "tokens", "[I", true)
  | 3 => ("RugIsJurisdiction$Tape", "places", "[I", true)
  | _ => ("RugIsJurisdiction$Tape", "known", "I", false)
def tyX6 : Nat → FieldType := fun k => match k with
  | 0 => .array .int
  | 1 => .int
  | 2 => .array .int
  | 3 => .array .int
  | _ => .int
abbrev wsX60 : List Cond := u_ws RX6 TX6 5
theorem nmX6 : ∀ a, a < 5 → ∀ b, b < 5 → a ≠ b → (TX6 a).2.1 ≠ (TX6 b).2.1 := by decide +kernel
theorem tyX6_ok : ∀ k, k < 5 → parseFieldDescriptor (TX6 k).2.2.1 = some (tyX6 k) := by decide +kernel
abbrev cX6_init : ByteArray := prog_8_method_1_code
def yX6_init : MethodName := ⟨RX6, "<init>", "()V"⟩
abbrev cX6_add : ByteArray := prog_8_method_2_code
def yX6_add : MethodName := ⟨RX6, "add", "(I)V"⟩
abbrev cX6_split : ByteArray := prog_8_method_3_code
def yX6_split : MethodName := ⟨RX6, "split", "()V"⟩
abbrev cX6_note : ByteArray := prog_8_method_4_code
def yX6_note : MethodName := ⟨RX6, "note", "(II)V"⟩
abbrev cX6_endOf : ByteArray := prog_8_method_5_code
def yX6_endOf : MethodName := ⟨RX6, "endOf", "(I)I"⟩
abbrev cX6_sortOf : ByteArray := prog_8_method_6_code
def yX6_sortOf : MethodName := ⟨RX6, "sortOf", "(I)I"⟩
abbrev cX6_tokenOf : ByteArray := prog_8_method_7_code
def yX6_tokenOf : MethodName := ⟨RX6, "tokenOf", "(II)I"⟩
abbrev cX6_word : ByteArray := prog_8_method_8_code
def yX6_word : MethodName := ⟨RX6, "word", "(II)I"⟩
abbrev cX6_spells : ByteArray := prog_8_method_9_code
def yX6_spells : MethodName := ⟨RX6, "spells", "(Ljava/lang/String;II)Z"⟩
abbrev cX6_spelled : ByteArray := prog_8_method_10_code
def yX6_spelled : MethodName := ⟨RX6, "spelled", "(I)Ljava/lang/String;"⟩
abbrev cX6_number : ByteArray := prog_8_method_11_code
def yX6_number : MethodName := ⟨RX6, "number", "(II)I"⟩
abbrev cX6_sign : ByteArray := prog_8_method_12_code
def yX6_sign : MethodName := ⟨RX6, "sign", "(I)I"⟩
def RX7 : String := "RugIsJurisdiction$Texts"
def TX7 : u_T := fun k => match k with
  | 0 => ("RugIsJurisdiction$Texts", "known", "I", false)
  | 1 => ("RugIsJurisdiction$Texts", "codes", "[[I", true)
  | 2 => ("RugIsJurisdiction$Texts", "ends", "[[I", true)
  | 3 => ("RugIsJurisdiction$Texts", "names", "[I", true)
  | _ => ("RugIsJurisdiction$Texts", "stack", "[I", true)
def tyX7 : Nat → FieldType := fun k => match k with
  | 0 => .int
  | 1 => .array (.array .int)
  | 2 => .array (.array .int)
  | 3 => .array .int
  | _ => .array .int
abbrev wsX70 : List Cond := u_ws RX7 TX7 5
theorem nmX7 : ∀ a, a < 5 → ∀ b, b < 5 → a ≠ b → (TX7 a).2.1 ≠ (TX7 b).2.1 := by decide +kernel
theorem tyX7_ok : ∀ k, k < 5 → parseFieldDescriptor (TX7 k).2.2.1 = some (tyX7 k) := by decide +kernel
abbrev cX7_init : ByteArray := prog_9_method_1_code
def yX7_init : MethodName := ⟨RX7, "<init>", "()V"⟩
abbrev cX7_add : ByteArray := prog_9_method_2_code
def yX7_add : MethodName := ⟨RX7, "add", "([I[I)I"⟩
abbrev cX7_value : ByteArray := prog_9_method_3_code
def yX7_value : MethodName := ⟨RX7, "value", "(II)I"⟩
def RX8 : String := "RugIsJurisdiction$Ways"
def TX8 : u_T := fun k => match k with
  | 0 => ("RugIsJurisdiction$Ways", "common", "LRugIsJurisdiction$Common;", true)
  | 1 => ("RugIsJurisdiction$Ways", "isOpen", "[Z", true)
  | _ => ("RugIsJurisdiction$Ways", "cost", "[I", true)
def tyX8 : Nat → FieldType := fun k => match k with
  | 0 => .object "RugIsJurisdiction$Common"
  | 1 => .array .boolean
  | _ => .array .int
abbrev wsX80 : List Cond := u_ws RX8 TX8 3
theorem nmX8 : ∀ a, a < 3 → ∀ b, b < 3 → a ≠ b → (TX8 a).2.1 ≠ (TX8 b).2.1 := by decide +kernel
theorem tyX8_ok : ∀ k, k < 3 → parseFieldDescriptor (TX8 k).2.2.1 = some (tyX8 k) := by decide +kernel
abbrev cX8_init : ByteArray := prog_10_method_1_code
def yX8_init : MethodName := ⟨RX8, "<init>", "(LRugIsJurisdiction$Common;)V"⟩
abbrev cX8_least : ByteArray := prog_10_method_2_code
def yX8_least : MethodName := ⟨RX8, "least", "(III)I"⟩
abbrev cX8_lowersBeside : ByteArray := prog_10_method_3_code
def yX8_lowersBeside : MethodName := ⟨RX8, "lowersBeside", "(II)Z"⟩
abbrev cX8_stepCost : ByteArray := prog_10_method_4_code
def yX8_stepCost : MethodName := ⟨RX8, "stepCost", "(III)I"⟩
def RX9 : String := "RugIsJurisdiction"
def TX9 : u_T := fun k => match k with
  | 0 => ("RugIsJurisdiction", "texts", "LRugIsJurisdiction$Texts;", true)
  | 1 => ("RugIsJurisdiction", "tape", "LRugIsJurisdiction$Tape;", true)
  | 2 => ("RugIsJurisdiction", "reader", "LRugIsJurisdiction$Reader;", true)
  | 3 => ("RugIsJurisdiction", "common", "LRugIsJurisdiction$Common;", true)
  | 4 => ("RugIsJurisdiction", "tally", "LRugIsJurisdiction$Tally;", true)
  | 5 => ("RugIsJurisdiction", "ways", "LRugIsJurisdiction$Ways;", true)
  | 6 => ("RugIsJurisdiction", "lots", "LRugIsJurisdiction$Lots;", true)
  | 7 => ("RugIsJurisdiction", "kept", "LRugIsJurisdiction$Image;", true)
  | _ => ("RugIsJurisdiction", "sheets", "LRugIsJurisdiction$Sheets;", true)
def tyX9 : Nat → FieldType := fun k => match k with
  | 0 => .object "RugIsJurisdiction$Texts"
  | 1 => .object "RugIsJurisdiction$Tape"
  | 2 => .object "RugIsJurisdiction$Reader"
  | 3 => .object "RugIsJurisdiction$Common"
  | 4 => .object "RugIsJurisdiction$Tally"
  | 5 => .object "RugIsJurisdiction$Ways"
  | 6 => .object "RugIsJurisdiction$Lots"
  | 7 => .object "RugIsJurisdiction$Image"
  | _ => .object "RugIsJurisdiction$Sheets"
abbrev wsX90 : List Cond := u_ws RX9 TX9 9
theorem nmX9 : ∀ a, a < 9 → ∀ b, b < 9 → a ≠ b → (TX9 a).2.1 ≠ (TX9 b).2.1 := by decide +kernel
theorem tyX9_ok : ∀ k, k < 9 → parseFieldDescriptor (TX9 k).2.2.1 = some (tyX9 k) := by decide +kernel
abbrev cX9_init : ByteArray := prog_1_method_1_code
def yX9_init : MethodName := ⟨RX9, "<init>", "()V"⟩
abbrev cX9_count : ByteArray := prog_1_method_2_code
def yX9_count : MethodName := ⟨RX9, "count", "(I)I"⟩
abbrev cX9_strikes : ByteArray := prog_1_method_3_code
def yX9_strikes : MethodName := ⟨RX9, "strikes", "(I)I"⟩
abbrev cX9_feed : ByteArray := prog_1_method_4_code
def yX9_feed : MethodName := ⟨RX9, "feed", "(IIIIII)I"⟩
abbrev cX9_text : ByteArray := prog_1_method_5_code
def yX9_text : MethodName := ⟨RX9, "text", "()I"⟩
abbrev cX9_force : ByteArray := prog_1_method_6_code
def yX9_force : MethodName := ⟨RX9, "force", "(I)I"⟩
abbrev cX9_asks : ByteArray := prog_1_method_7_code
def yX9_asks : MethodName := ⟨RX9, "asks", "(III)I"⟩
abbrev cX9_spread : ByteArray := prog_1_method_8_code
def yX9_spread : MethodName := ⟨RX9, "spread", "(II)I"⟩
abbrev cX9_put : ByteArray := prog_1_method_9_code
def yX9_put : MethodName := ⟨RX9, "put", "(III)I"⟩
abbrev cX9_told : ByteArray := prog_1_method_10_code
def yX9_told : MethodName := ⟨RX9, "told", "(II)I"⟩
abbrev cX9_over : ByteArray := prog_1_method_11_code
def yX9_over : MethodName := ⟨RX9, "over", "(II)I"⟩
abbrev cX9_rules : ByteArray := prog_1_method_12_code
def yX9_rules : MethodName := ⟨RX9, "rules", "(I)J"⟩
abbrev cX9_walk : ByteArray := prog_1_method_13_code
def yX9_walk : MethodName := ⟨RX9, "walk", "(II)I"⟩
abbrev cX9_visit : ByteArray := prog_1_method_14_code
def yX9_visit : MethodName := ⟨RX9, "visit", "(I)I"⟩
abbrev cX9_ball : ByteArray := prog_1_method_15_code
def yX9_ball : MethodName := ⟨RX9, "ball", "(III)I"⟩
abbrev cX9_way : ByteArray := prog_1_method_16_code
def yX9_way : MethodName := ⟨RX9, "way", "(II)I"⟩
abbrev cX9_borders : ByteArray := prog_1_method_17_code
def yX9_borders : MethodName := ⟨RX9, "borders", "(I)I"⟩
abbrev cX9_league : ByteArray := prog_1_method_18_code
def yX9_league : MethodName := ⟨RX9, "league", "(II)I"⟩
abbrev cX9_place : ByteArray := prog_1_method_19_code
def yX9_place : MethodName := ⟨RX9, "place", "(II)I"⟩
abbrev cX9_freest : ByteArray := prog_1_method_20_code
def yX9_freest : MethodName := ⟨RX9, "freest", "(I)I"⟩
abbrev cX9_fold : ByteArray := prog_1_method_21_code
def yX9_fold : MethodName := ⟨RX9, "fold", "(I)I"⟩
abbrev cX9_share : ByteArray := prog_1_method_22_code
def yX9_share : MethodName := ⟨RX9, "share", "(II)J"⟩
abbrev cX9_mean : ByteArray := prog_1_method_23_code
def yX9_mean : MethodName := ⟨RX9, "mean", "(II)J"⟩
abbrev cX9_judge : ByteArray := prog_1_method_24_code
def yX9_judge : MethodName := ⟨RX9, "judge", "(II)I"⟩
abbrev cX9_kinds : ByteArray := prog_1_method_25_code
def yX9_kinds : MethodName := ⟨RX9, "kinds", "(IIII)I"⟩
abbrev cX9_crowds : ByteArray := prog_1_method_26_code
def yX9_crowds : MethodName := ⟨RX9, "crowds", "(IIII)I"⟩
abbrev cX9_where : ByteArray := prog_1_method_27_code
def yX9_where : MethodName := ⟨RX9, "where", "(I)J"⟩
abbrev cX9_laws : ByteArray := prog_1_method_28_code
def yX9_laws : MethodName := ⟨RX9, "laws", "(II)I"⟩
abbrev cX9_film : ByteArray := prog_1_method_29_code
def yX9_film : MethodName := ⟨RX9, "film", "(III)I"⟩
abbrev cX9_drawn : ByteArray := prog_1_method_30_code
def yX9_drawn : MethodName := ⟨RX9, "drawn", "(III)I"⟩
abbrev cX9_odds : ByteArray := prog_1_method_31_code
def yX9_odds : MethodName := ⟨RX9, "odds", "(IIIII)J"⟩
abbrev cX9_image : ByteArray := prog_1_method_32_code
def yX9_image : MethodName := ⟨RX9, "image", "()I"⟩
abbrev cX9_back : ByteArray := prog_1_method_33_code
def yX9_back : MethodName := ⟨RX9, "back", "()I"⟩
abbrev cX9_sheet : ByteArray := prog_1_method_34_code
def yX9_sheet : MethodName := ⟨RX9, "sheet", "(III)I"⟩
abbrev cX9_cell : ByteArray := prog_1_method_35_code
def yX9_cell : MethodName := ⟨RX9, "cell", "(III)I"⟩
abbrev cX9_copy : ByteArray := prog_1_method_36_code
def yX9_copy : MethodName := ⟨RX9, "copy", "(IIIII)I"⟩
abbrev cX9_rugsBy : ByteArray := prog_1_method_37_code
def yX9_rugsBy : MethodName := ⟨RX9, "rugsBy", "(IIII)I"⟩
abbrev cX9_taken : ByteArray := prog_1_method_38_code
def yX9_taken : MethodName := ⟨RX9, "taken", "(II)I"⟩
abbrev cX9_readTape : ByteArray := prog_1_method_39_code
def yX9_readTape : MethodName := ⟨RX9, "readTape", "()I"⟩
abbrev cX9_refusesWalk : ByteArray := prog_1_method_40_code
def yX9_refusesWalk : MethodName := ⟨RX9, "refusesWalk", "(I)I"⟩
abbrev cX9_refusesFines : ByteArray := prog_1_method_41_code
def yX9_refusesFines : MethodName := ⟨RX9, "refusesFines", "(II)I"⟩
abbrev cX9_goThrough : ByteArray := prog_1_method_42_code
def yX9_goThrough : MethodName := ⟨RX9, "goThrough", "(I)I"⟩
abbrev cX9_isByte : ByteArray := prog_1_method_43_code
def yX9_isByte : MethodName := ⟨RX9, "isByte", "(I)Z"⟩
abbrev cX9_isSeed : ByteArray := prog_1_method_44_code
def yX9_isSeed : MethodName := ⟨RX9, "isSeed", "(I)Z"⟩
abbrev cX9_isCellSteps : ByteArray := prog_1_method_45_code
def yX9_isCellSteps : MethodName := ⟨RX9, "isCellSteps", "(I)Z"⟩
abbrev cX9_isCell : ByteArray := prog_1_method_46_code
def yX9_isCell : MethodName := ⟨RX9, "isCell", "(I)Z"⟩
abbrev cX9_columnOf : ByteArray := prog_1_method_47_code
def yX9_columnOf : MethodName := ⟨RX9, "columnOf", "(I)I"⟩
abbrev cX9_rowOf : ByteArray := prog_1_method_48_code
def yX9_rowOf : MethodName := ⟨RX9, "rowOf", "(I)I"⟩
abbrev cX9_areCorners : ByteArray := prog_1_method_49_code
def yX9_areCorners : MethodName := ⟨RX9, "areCorners", "(I)Z"⟩
abbrev cX9_stepFrom : ByteArray := prog_1_method_50_code
def yX9_stepFrom : MethodName := ⟨RX9, "stepFrom", "(II)I"⟩
abbrev cX9_areBeside : ByteArray := prog_1_method_51_code
def yX9_areBeside : MethodName := ⟨RX9, "areBeside", "(II)Z"⟩
abbrev cX9_isWalk : ByteArray := prog_1_method_52_code
def yX9_isWalk : MethodName := ⟨RX9, "isWalk", "([II)Z"⟩
abbrev cX9_isA : ByteArray := prog_1_method_53_code
def yX9_isA : MethodName := ⟨RX9, "isA", "(II)Z"⟩
abbrev cX9_inLowestTerms : ByteArray := prog_1_method_54_code
def yX9_inLowestTerms : MethodName := ⟨RX9, "inLowestTerms", "(III)J"⟩
def RX10 : String := "RugIsJurisdictionModel"
def TX10 : u_T := fun k => match k with
  | 0 => ("RugIsJurisdictionModel", "rugs", "I", false)
  | 1 => ("RugIsJurisdictionModel", "kind", "[I", true)
  | 2 => ("RugIsJurisdictionModel", "moreOf", "[I", true)
  | 3 => ("RugIsJurisdictionModel", "rows", "[I", true)
  | 4 => ("RugIsJurisdictionModel", "hour", "I", false)
  | 5 => ("RugIsJurisdictionModel", "tape", "[I", true)
  | 6 => ("RugIsJurisdictionModel", "taped", "I", false)
  | 7 => ("RugIsJurisdictionModel", "codes", "[I", true)
  | 8 => ("RugIsJurisdictionModel", "starts", "[I", true)
  | 9 => ("RugIsJurisdictionModel", "texts", "I", false)
  | 10 => ("RugIsJurisdictionModel", "rule", "I", false)
  | 11 => ("RugIsJurisdictionModel", "hasImage", "Z", false)
  | 12 => ("RugIsJurisdictionModel", "imageRows", "[I", true)
  | 13 => ("RugIsJurisdictionModel", "imageHeld", "[I", true)
  | 14 => ("RugIsJurisdictionModel", "sheetSort", "[I", true)
  | 15 => ("RugIsJurisdictionModel", "sheetSize", "[I", true)
  | 16 => ("RugIsJurisdictionModel", "cells", "[I", true)
  | 17 => ("RugIsJurisdictionModel", "law", "[I", true)
  | 18 => ("RugIsJurisdictionModel", "at", "I", false)
  | 19 => ("RugIsJurisdictionModel", "begun", "I", false)
  | 20 => ("RugIsJurisdictionModel", "token", "I", false)
  | 21 => ("RugIsJurisdictionModel", "value", "I", false)
  | 22 => ("RugIsJurisdictionModel", "words", "[I", true)
  | 23 => ("RugIsJurisdictionModel", "held", "[I", true)
  | 24 => ("RugIsJurisdictionModel", "heldMany", "I", false)
  | 25 => ("RugIsJurisdictionModel", "opens", "I", false)
  | 26 => ("RugIsJurisdictionModel", "out", "I", false)
  | 27 => ("RugIsJurisdictionModel", "stack", "[I", true)
  | 28 => ("RugIsJurisdictionModel", "named", "[I", true)
  | 29 => ("RugIsJurisdictionModel", "ruler", "[I", true)
  | 30 => ("RugIsJurisdictionModel", "stopAt", "I", false)
  | 31 => ("RugIsJurisdictionModel", "fines", "I", false)
  | 32 => ("RugIsJurisdictionModel", "borders0", "I", false)
  | 33 => ("RugIsJurisdictionModel", "ruling", "I", false)
  | 34 => ("RugIsJurisdictionModel", "weight", "[I", true)
  | 35 => ("RugIsJurisdictionModel", "wayTo", "[I", true)
  | _ => ("RugIsJurisdictionModel", "lastCell", "I", false)
def tyX10 : Nat → FieldType := fun k => match k with
  | 0 => .int
  | 1 => .array .int
  | 2 => .array .int
  | 3 => .array .int
  | 4 => .int
  | 5 => .array .int
  | 6 => .int
  | 7 => .array .int
  | 8 => .array .int
  | 9 => .int
  | 10 => .int
  | 11 => .boolean
  | 12 => .array .int
  | 13 => .array .int
  | 14 => .array .int
  | 15 => .array .int
  | 16 => .array .int
  | 17 => .array .int
  | 18 => .int
  | 19 => .int
  | 20 => .int
  | 21 => .int
  | 22 => .array .int
  | 23 => .array .int
  | 24 => .int
  | 25 => .int
  | 26 => .int
  | 27 => .array .int
  | 28 => .array .int
  | 29 => .array .int
  | 30 => .int
  | 31 => .int
  | 32 => .int
  | 33 => .int
  | 34 => .array .int
  | 35 => .array .int
  | _ => .int
abbrev wsX100 : List Cond := u_ws RX10 TX10 37
theorem nmX10 : ∀ a, a < 37 → ∀ b, b < 37 → a ≠ b → (TX10 a).2.1 ≠ (TX10 b).2.1 := by decide +kernel
theorem tyX10_ok : ∀ k, k < 37 → parseFieldDescriptor (TX10 k).2.2.1 = some (tyX10 k) := by decide +kernel
abbrev cX10_init : ByteArray := prog_12_method_1_code
def yX10_init : MethodName := ⟨RX10, "<init>", "()V"⟩
abbrev cX10_in : ByteArray := prog_12_method_3_code
def yX10_in : MethodName := ⟨RX10, "in", "(III)Z"⟩
abbrev cX10_within : ByteArray := prog_12_method_4_code
def yX10_within : MethodName := ⟨RX10, "within", "(III)I"⟩
abbrev cX10_isRug : ByteArray := prog_12_method_5_code
def yX10_isRug : MethodName := ⟨RX10, "isRug", "(I)Z"⟩
abbrev cX10_isCell : ByteArray := prog_12_method_6_code
def yX10_isCell : MethodName := ⟨RX10, "isCell", "(I)Z"⟩
abbrev cX10_areCorners : ByteArray := prog_12_method_7_code
def yX10_areCorners : MethodName := ⟨RX10, "areCorners", "(I)Z"⟩
abbrev cX10_without0 : ByteArray := prog_12_method_8_code
def yX10_without0 : MethodName := ⟨RX10, "without0", "(II)I"⟩
abbrev cX10_isBeside : ByteArray := prog_12_method_9_code
def yX10_isBeside : MethodName := ⟨RX10, "isBeside", "(II)Z"⟩
abbrev cX10_lies : ByteArray := prog_12_method_10_code
def yX10_lies : MethodName := ⟨RX10, "lies", "(II)Z"⟩
abbrev cX10_isFringe : ByteArray := prog_12_method_11_code
def yX10_isFringe : MethodName := ⟨RX10, "isFringe", "(II)Z"⟩
abbrev cX10_sizeOf : ByteArray := prog_12_method_12_code
def yX10_sizeOf : MethodName := ⟨RX10, "sizeOf", "(I)I"⟩
abbrev cX10_count : ByteArray := prog_12_method_13_code
def yX10_count : MethodName := ⟨RX10, "count", "(I)I"⟩
abbrev cX10_strikes : ByteArray := prog_12_method_14_code
def yX10_strikes : MethodName := ⟨RX10, "strikes", "(I)I"⟩
abbrev cX10_isByte : ByteArray := prog_12_method_15_code
def yX10_isByte : MethodName := ⟨RX10, "isByte", "(I)Z"⟩
abbrev cX10_feed : ByteArray := prog_12_method_16_code
def yX10_feed : MethodName := ⟨RX10, "feed", "(IIIIII)I"⟩
abbrev cX10_wordFrom : ByteArray := prog_12_method_17_code
def yX10_wordFrom : MethodName := ⟨RX10, "wordFrom", "(II)I"⟩
abbrev cX10_next : ByteArray := prog_12_method_18_code
def yX10_next : MethodName := ⟨RX10, "next", "()V"⟩
abbrev cX10_rank : ByteArray := prog_12_method_19_code
def yX10_rank : MethodName := ⟨RX10, "rank", "(I)I"⟩
abbrev cX10_puts : ByteArray := prog_12_method_20_code
def yX10_puts : MethodName := ⟨RX10, "puts", "(I)V"⟩
abbrev cX10_unwinds : ByteArray := prog_12_method_21_code
def yX10_unwinds : MethodName := ⟨RX10, "unwinds", "(I)V"⟩
abbrev cX10_holds : ByteArray := prog_12_method_22_code
def yX10_holds : MethodName := ⟨RX10, "holds", "(I)V"⟩
abbrev cX10_opensOne : ByteArray := prog_12_method_23_code
def yX10_opensOne : MethodName := ⟨RX10, "opensOne", "(I)Z"⟩
abbrev cX10_between : ByteArray := prog_12_method_24_code
def yX10_between : MethodName := ⟨RX10, "between", "(I)Z"⟩
abbrev cX10_signOf : ByteArray := prog_12_method_25_code
def yX10_signOf : MethodName := ⟨RX10, "signOf", "()I"⟩
abbrev cX10_eRead : ByteArray := prog_12_method_26_code
def yX10_eRead : MethodName := ⟨RX10, "eRead", "()Z"⟩
abbrev cX10_text : ByteArray := prog_12_method_27_code
def yX10_text : MethodName := ⟨RX10, "text", "()I"⟩
abbrev cX10_two : ByteArray := prog_12_method_28_code
def yX10_two : MethodName := ⟨RX10, "two", "(III)I"⟩
abbrev cX10_says : ByteArray := prog_12_method_29_code
def yX10_says : MethodName := ⟨RX10, "says", "(I)I"⟩
abbrev cX10_force : ByteArray := prog_12_method_30_code
def yX10_force : MethodName := ⟨RX10, "force", "(I)I"⟩
abbrev cX10_asksOf : ByteArray := prog_12_method_31_code
def yX10_asksOf : MethodName := ⟨RX10, "asksOf", "(III)I"⟩
abbrev cX10_asks : ByteArray := prog_12_method_32_code
def yX10_asks : MethodName := ⟨RX10, "asks", "(III)I"⟩
abbrev cX10_spread : ByteArray := prog_12_method_33_code
def yX10_spread : MethodName := ⟨RX10, "spread", "(II)I"⟩
abbrev cX10_cornersOf : ByteArray := prog_12_method_34_code
def yX10_cornersOf : MethodName := ⟨RX10, "cornersOf", "(I)I"⟩
abbrev cX10_put : ByteArray := prog_12_method_35_code
def yX10_put : MethodName := ⟨RX10, "put", "(III)I"⟩
abbrev cX10_isNursed : ByteArray := prog_12_method_36_code
def yX10_isNursed : MethodName := ⟨RX10, "isNursed", "(II)Z"⟩
abbrev cX10_isAsleep : ByteArray := prog_12_method_37_code
def yX10_isAsleep : MethodName := ⟨RX10, "isAsleep", "(I)Z"⟩
abbrev cX10_rulesBut : ByteArray := prog_12_method_38_code
def yX10_rulesBut : MethodName := ⟨RX10, "rulesBut", "(I)V"⟩
abbrev cX10_finedBy : ByteArray := prog_12_method_39_code
def yX10_finedBy : MethodName := ⟨RX10, "finedBy", "(II)I"⟩
abbrev cX10_finedAt : ByteArray := prog_12_method_40_code
def yX10_finedAt : MethodName := ⟨RX10, "finedAt", "(I)I"⟩
abbrev cX10_isLetOn : ByteArray := prog_12_method_41_code
def yX10_isLetOn : MethodName := ⟨RX10, "isLetOn", "(I)Z"⟩
abbrev cX10_ruledBy : ByteArray := prog_12_method_42_code
def yX10_ruledBy : MethodName := ⟨RX10, "ruledBy", "(I)I"⟩
abbrev cX10_ruledNow : ByteArray := prog_12_method_43_code
def yX10_ruledNow : MethodName := ⟨RX10, "ruledNow", "(I)I"⟩
abbrev cX10_told : ByteArray := prog_12_method_44_code
def yX10_told : MethodName := ⟨RX10, "told", "(II)I"⟩
abbrev cX10_over : ByteArray := prog_12_method_45_code
def yX10_over : MethodName := ⟨RX10, "over", "(II)I"⟩
abbrev cX10_rules : ByteArray := prog_12_method_46_code
def yX10_rules : MethodName := ⟨RX10, "rules", "(I)J"⟩
abbrev cX10_walkWrong : ByteArray := prog_12_method_47_code
def yX10_walkWrong : MethodName := ⟨RX10, "walkWrong", "(I)I"⟩
abbrev cX10_goesOver : ByteArray := prog_12_method_48_code
def yX10_goesOver : MethodName := ⟨RX10, "goesOver", "(I)V"⟩
abbrev cX10_walk : ByteArray := prog_12_method_49_code
def yX10_walk : MethodName := ⟨RX10, "walk", "(II)I"⟩
abbrev cX10_visit : ByteArray := prog_12_method_50_code
def yX10_visit : MethodName := ⟨RX10, "visit", "(I)I"⟩
abbrev cX10_besideOf : ByteArray := prog_12_method_51_code
def yX10_besideOf : MethodName := ⟨RX10, "besideOf", "(II)I"⟩
abbrev cX10_ball : ByteArray := prog_12_method_52_code
def yX10_ball : MethodName := ⟨RX10, "ball", "(III)I"⟩
abbrev cX10_relaxes : ByteArray := prog_12_method_53_code
def yX10_relaxes : MethodName := ⟨RX10, "relaxes", "(IIZ)Z"⟩
abbrev cX10_way : ByteArray := prog_12_method_54_code
def yX10_way : MethodName := ⟨RX10, "way", "(II)I"⟩
abbrev cX10_besides : ByteArray := prog_12_method_55_code
def yX10_besides : MethodName := ⟨RX10, "besides", "(I)I"⟩
abbrev cX10_borders : ByteArray := prog_12_method_56_code
def yX10_borders : MethodName := ⟨RX10, "borders", "(I)I"⟩
abbrev cX10_league : ByteArray := prog_12_method_57_code
def yX10_league : MethodName := ⟨RX10, "league", "(II)I"⟩
abbrev cX10_place : ByteArray := prog_12_method_58_code
def yX10_place : MethodName := ⟨RX10, "place", "(II)I"⟩
abbrev cX10_finedAll : ByteArray := prog_12_method_59_code
def yX10_finedAll : MethodName := ⟨RX10, "finedAll", "(I)I"⟩
abbrev cX10_freest : ByteArray := prog_12_method_60_code
def yX10_freest : MethodName := ⟨RX10, "freest", "(I)I"⟩
abbrev cX10_fold : ByteArray := prog_12_method_61_code
def yX10_fold : MethodName := ⟨RX10, "fold", "(I)I"⟩
abbrev cX10_lowest : ByteArray := prog_12_method_62_code
def yX10_lowest : MethodName := ⟨RX10, "lowest", "(JJI)J"⟩
abbrev cX10_share : ByteArray := prog_12_method_63_code
def yX10_share : MethodName := ⟨RX10, "share", "(II)J"⟩
abbrev cX10_mean : ByteArray := prog_12_method_64_code
def yX10_mean : MethodName := ⟨RX10, "mean", "(II)J"⟩
abbrev cX10_sheetWrong : ByteArray := prog_12_method_65_code
def yX10_sheetWrong : MethodName := ⟨RX10, "sheetWrong", "(I)I"⟩
abbrev cX10_toldWrong : ByteArray := prog_12_method_66_code
def yX10_toldWrong : MethodName := ⟨RX10, "toldWrong", "(II)I"⟩
abbrev cX10_unlike : ByteArray := prog_12_method_67_code
def yX10_unlike : MethodName := ⟨RX10, "unlike", "(II)I"⟩
abbrev cX10_judge : ByteArray := prog_12_method_68_code
def yX10_judge : MethodName := ⟨RX10, "judge", "(II)I"⟩
abbrev cX10_kinds : ByteArray := prog_12_method_69_code
def yX10_kinds : MethodName := ⟨RX10, "kinds", "(IIII)I"⟩
abbrev cX10_crowds : ByteArray := prog_12_method_70_code
def yX10_crowds : MethodName := ⟨RX10, "crowds", "(IIII)I"⟩
abbrev cX10_where : ByteArray := prog_12_method_71_code
def yX10_where : MethodName := ⟨RX10, "where", "(I)J"⟩
abbrev cX10_laws : ByteArray := prog_12_method_72_code
def yX10_laws : MethodName := ⟨RX10, "laws", "(II)I"⟩
abbrev cX10_film : ByteArray := prog_12_method_73_code
def yX10_film : MethodName := ⟨RX10, "film", "(III)I"⟩
abbrev cX10_walksBy : ByteArray := prog_12_method_74_code
def yX10_walksBy : MethodName := ⟨RX10, "walksBy", "(II)V"⟩
abbrev cX10_drawn : ByteArray := prog_12_method_75_code
def yX10_drawn : MethodName := ⟨RX10, "drawn", "(III)I"⟩
abbrev cX10_odds : ByteArray := prog_12_method_76_code
def yX10_odds : MethodName := ⟨RX10, "odds", "(IIIII)J"⟩
abbrev cX10_image : ByteArray := prog_12_method_77_code
def yX10_image : MethodName := ⟨RX10, "image", "()I"⟩
abbrev cX10_back : ByteArray := prog_12_method_78_code
def yX10_back : MethodName := ⟨RX10, "back", "()I"⟩
abbrev cX10_sheet : ByteArray := prog_12_method_79_code
def yX10_sheet : MethodName := ⟨RX10, "sheet", "(III)I"⟩
abbrev cX10_cell : ByteArray := prog_12_method_80_code
def yX10_cell : MethodName := ⟨RX10, "cell", "(III)I"⟩
abbrev cX10_copy : ByteArray := prog_12_method_81_code
def yX10_copy : MethodName := ⟨RX10, "copy", "(IIIII)I"⟩
abbrev cX10_rugsBy : ByteArray := prog_12_method_82_code
def yX10_rugsBy : MethodName := ⟨RX10, "rugsBy", "(IIII)I"⟩
abbrev cX10_isUnder : ByteArray := prog_12_method_83_code
def yX10_isUnder : MethodName := ⟨RX10, "isUnder", "(II)Z"⟩
abbrev cX10_taken : ByteArray := prog_12_method_84_code
def yX10_taken : MethodName := ⟨RX10, "taken", "(II)I"⟩
def RJ11 : String := "java/lang/Character"
def TJ11 : u_T := fun k => match k with
  | _ => ("", "", "", false)
def tyJ11 : Nat → FieldType := fun k => match k with
  | _ => .int
abbrev wsJ110 : List Cond := u_ws RJ11 TJ11 0
theorem nmJ11 : ∀ a, a < 0 → ∀ b, b < 0 → a ≠ b → (TJ11 a).2.1 ≠ (TJ11 b).2.1 := by decide +kernel
theorem tyJ11_ok : ∀ k, k < 0 → parseFieldDescriptor (TJ11 k).2.2.1 = some (tyJ11 k) := by decide +kernel
abbrev cJ11_isValidCodePoint_9a6ad : ByteArray := prog_13_method_11_code
def yJ11_isValidCodePoint_9a6ad : MethodName := ⟨RJ11, "isValidCodePoint", "(I)Z"⟩
abbrev cJ11_highSurrogate_5068e : ByteArray := prog_13_method_28_code
def yJ11_highSurrogate_5068e : MethodName := ⟨RJ11, "highSurrogate", "(I)C"⟩
abbrev cJ11_lowSurrogate_5068e : ByteArray := prog_13_method_29_code
def yJ11_lowSurrogate_5068e : MethodName := ⟨RJ11, "lowSurrogate", "(I)C"⟩
def RJ9 : String := "java/lang/Math"
def TJ9 : u_T := fun k => match k with
  | _ => ("", "", "", false)
def tyJ9 : Nat → FieldType := fun k => match k with
  | _ => .int
abbrev wsJ90 : List Cond := u_ws RJ9 TJ9 0
theorem nmJ9 : ∀ a, a < 0 → ∀ b, b < 0 → a ≠ b → (TJ9 a).2.1 ≠ (TJ9 b).2.1 := by decide +kernel
theorem tyJ9_ok : ∀ k, k < 0 → parseFieldDescriptor (TJ9 k).2.2.1 = some (tyJ9 k) := by decide +kernel
abbrev cJ9_abs_0f7a4 : ByteArray := prog_14_method_59_code
def yJ9_abs_0f7a4 : MethodName := ⟨RJ9, "abs", "(I)I"⟩
abbrev cJ9_max_7cf53 : ByteArray := prog_14_method_65_code
def yJ9_max_7cf53 : MethodName := ⟨RJ9, "max", "(II)I"⟩
abbrev cJ9_min_7cf53 : ByteArray := prog_14_method_69_code
def yJ9_min_7cf53 : MethodName := ⟨RJ9, "min", "(II)I"⟩
def RJ0 : String := "java/lang/String"
def TJ0 : u_T := fun k => match k with
  | _ => ("", "", "", false)
def tyJ0 : Nat → FieldType := fun k => match k with
  | _ => .int
abbrev wsJ00 : List Cond := u_ws RJ0 TJ0 0
theorem nmJ0 : ∀ a, a < 0 → ∀ b, b < 0 → a ≠ b → (TJ0 a).2.1 ≠ (TJ0 b).2.1 := by decide +kernel
theorem tyJ0_ok : ∀ k, k < 0 → parseFieldDescriptor (TJ0 k).2.2.1 = some (tyJ0 k) := by decide +kernel
abbrev cJ0_length_8abf5 : ByteArray := prog_15_method_54_code
def yJ0_length_8abf5 : MethodName := ⟨RJ0, "length", "()I"⟩
abbrev cJ0_charAt_5068e : ByteArray := prog_15_method_56_code
def yJ0_charAt_5068e : MethodName := ⟨RJ0, "charAt", "(I)C"⟩
abbrev cJ0_indexOf_0f7a4 : ByteArray := prog_15_method_79_code
def yJ0_indexOf_0f7a4 : MethodName := ⟨RJ0, "indexOf", "(I)I"⟩
abbrev cJ0_indexOf_7cf53 : ByteArray := prog_15_method_80_code
def yJ0_indexOf_7cf53 : MethodName := ⟨RJ0, "indexOf", "(II)I"⟩
abbrev cJ0_coder_7d493 : ByteArray := prog_15_method_152_code
def yJ0_coder_7d493 : MethodName := ⟨RJ0, "coder", "()B"⟩
abbrev cJ0_isLatin1_aae02 : ByteArray := prog_15_method_154_code
def yJ0_isLatin1_aae02 : MethodName := ⟨RJ0, "isLatin1", "()Z"⟩
abbrev cJ0_checkIndex_df160 : ByteArray := prog_15_method_155_code
def yJ0_checkIndex_df160 : MethodName := ⟨RJ0, "checkIndex", "(II)V"⟩
abbrev cJ0_checkBoundsBeginEnd_23922 : ByteArray := prog_15_method_158_code
def yJ0_checkBoundsBeginEnd_23922 : MethodName := ⟨RJ0, "checkBoundsBeginEnd", "(III)V"⟩
def RJ1 : String := "java/lang/StringLatin1"
def TJ1 : u_T := fun k => match k with
  | _ => ("", "", "", false)
def tyJ1 : Nat → FieldType := fun k => match k with
  | _ => .int
abbrev wsJ10 : List Cond := u_ws RJ1 TJ1 0
theorem nmJ1 : ∀ a, a < 0 → ∀ b, b < 0 → a ≠ b → (TJ1 a).2.1 ≠ (TJ1 b).2.1 := by decide +kernel
theorem tyJ1_ok : ∀ k, k < 0 → parseFieldDescriptor (TJ1 k).2.2.1 = some (tyJ1 k) := by decide +kernel
abbrev cJ1_charAt_3b067 : ByteArray := prog_16_method_2_code
def yJ1_charAt_3b067 : MethodName := ⟨RJ1, "charAt", "([BI)C"⟩
abbrev cJ1_canEncode_9a6ad : ByteArray := prog_16_method_4_code
def yJ1_canEncode_9a6ad : MethodName := ⟨RJ1, "canEncode", "(I)Z"⟩
abbrev cJ1_indexOf_4cfef : ByteArray := prog_16_method_22_code
def yJ1_indexOf_4cfef : MethodName := ⟨RJ1, "indexOf", "([BIII)I"⟩
abbrev cJ1_indexOfChar_4cfef : ByteArray := prog_16_method_23_code
def yJ1_indexOfChar_4cfef : MethodName := ⟨RJ1, "indexOfChar", "([BIII)I"⟩
def RJ2 : String := "java/lang/StringUTF16"
def TJ2 : u_T := fun k => match k with
  | _ => ("", "", "", false)
def tyJ2 : Nat → FieldType := fun k => match k with
  | _ => .int
abbrev wsJ20 : List Cond := u_ws RJ2 TJ2 0
theorem nmJ2 : ∀ a, a < 0 → ∀ b, b < 0 → a ≠ b → (TJ2 a).2.1 ≠ (TJ2 b).2.1 := by decide +kernel
theorem tyJ2_ok : ∀ k, k < 0 → parseFieldDescriptor (TJ2 k).2.2.1 = some (tyJ2 k) := by decide +kernel
abbrev cJ2_getChar_3b067 : ByteArray := prog_17_method_5_code
def yJ2_getChar_3b067 : MethodName := ⟨RJ2, "getChar", "([BI)C"⟩
abbrev cJ2_length_9d52b : ByteArray := prog_17_method_6_code
def yJ2_length_9d52b : MethodName := ⟨RJ2, "length", "([B)I"⟩
abbrev cJ2_indexOf_4cfef : ByteArray := prog_17_method_40_code
def yJ2_indexOf_4cfef : MethodName := ⟨RJ2, "indexOf", "([BIII)I"⟩
abbrev cJ2_indexOfChar_4cfef : ByteArray := prog_17_method_47_code
def yJ2_indexOfChar_4cfef : MethodName := ⟨RJ2, "indexOfChar", "([BIII)I"⟩
abbrev cJ2_indexOfCharUnsafe_4cfef : ByteArray := prog_17_method_48_code
def yJ2_indexOfCharUnsafe_4cfef : MethodName := ⟨RJ2, "indexOfCharUnsafe", "([BIII)I"⟩
abbrev cJ2_indexOfSupplementary_4cfef : ByteArray := prog_17_method_49_code
def yJ2_indexOfSupplementary_4cfef : MethodName := ⟨RJ2, "indexOfSupplementary", "([BIII)I"⟩
abbrev cJ2_charAt_3b067 : ByteArray := prog_17_method_83_code
def yJ2_charAt_3b067 : MethodName := ⟨RJ2, "charAt", "([BI)C"⟩
abbrev cJ2_checkIndex_2214a : ByteArray := prog_17_method_91_code
def yJ2_checkIndex_2214a : MethodName := ⟨RJ2, "checkIndex", "(I[B)V"⟩
abbrev cJ2_checkBoundsBeginEnd_d044e : ByteArray := prog_17_method_93_code
def yJ2_checkBoundsBeginEnd_d044e : MethodName := ⟨RJ2, "checkBoundsBeginEnd", "(II[B)V"⟩
def RJ10 : String := "java/lang/System"
def TJ10 : u_T := fun k => match k with
  | _ => ("", "", "", false)
def tyJ10 : Nat → FieldType := fun k => match k with
  | _ => .int
abbrev wsJ100 : List Cond := u_ws RJ10 TJ10 0
theorem nmJ10 : ∀ a, a < 0 → ∀ b, b < 0 → a ≠ b → (TJ10 a).2.1 ≠ (TJ10 b).2.1 := by decide +kernel
theorem tyJ10_ok : ∀ k, k < 0 → parseFieldDescriptor (TJ10 k).2.2.1 = some (tyJ10 k) := by decide +kernel
def RJ3 : String := "jdk/internal/util/Preconditions"
def TJ3 : u_T := fun k => match k with
  | _ => ("", "", "", false)
def tyJ3 : Nat → FieldType := fun k => match k with
  | _ => .int
abbrev wsJ30 : List Cond := u_ws RJ3 TJ3 0
theorem nmJ3 : ∀ a, a < 0 → ∀ b, b < 0 → a ≠ b → (TJ3 a).2.1 ≠ (TJ3 b).2.1 := by decide +kernel
theorem tyJ3_ok : ∀ k, k < 0 → parseFieldDescriptor (TJ3 k).2.2.1 = some (tyJ3 k) := by decide +kernel
abbrev cJ3_checkIndex_8e157 : ByteArray := prog_19_method_11_code
def yJ3_checkIndex_8e157 : MethodName := ⟨RJ3, "checkIndex", "(IILjava/util/function/BiFunction;)I"⟩
abbrev cJ3_checkFromToIndex_8c36e : ByteArray := prog_19_method_12_code
def yJ3_checkFromToIndex_8c36e : MethodName := ⟨RJ3, "checkFromToIndex", "(IIILjava/util/function/BiFunction;)I"⟩
def RL : String := "RugIsJurisdictionLaw"
abbrev cL_law : ByteArray := code
def yL_law : MethodName := ⟨RL, "law", "([I)Z"⟩
abbrev vwCl : List vw_C := [(RX0, TX0, 12), (RX1, TX1, 7), (RX2, TX2, 4), (RX3, TX3, 6), (RX4, TX4, 3), (RX5, TX5, 5), (RX6, TX6, 5), (RX7, TX7, 5), (RX8, TX8, 3), (RX9, TX9, 9), (RX10, TX10, 37)]
end
section
/-! ===== the judgement: a machine at a place of a method, over cells of a known shape and a memory of ints ===== -/
def ax_T : List Cond := lw_tbl.filter goodWord
theorem ax_in {w : Cond} (h : w ∈ tables_1) (hg : goodWord w = true) : w ∈ ax_T := List.mem_filter.mpr ⟨by unfold lw_tbl; exact List.mem_append_right _ h, hg⟩
theorem ax_in2 {w : Cond} (h : w ∈ lw_tbl) (hg : goodWord w = true) : w ∈ ax_T := List.mem_filter.mpr ⟨h, hg⟩
abbrev ax_M : Type := Nat → Nat → Int32
/-- a cell: an object (its class, its fields: an int, null, a cell), a row of ints or booleans (which, how long), a row of rows (the first of them, how many) -/
abbrev ax_E : Type := (Nat × List (Option (Option Nat))) ⊕ ((Nat × Nat) ⊕ (Nat × Nat))
/-- where the cells begin; the classes; the rows' classes; where the texts and their bytes lie; the script: where, how long, what -/
abbrev ax_G : Type := Nat × (va_G × ((Nat → ClassId) × ((Nat → Nat) × ((Nat → Nat) × (Nat × (Nat × (Nat → Int32)))))))
def ax_w (μ : ax_M) (k i : Nat) (v : Int32) : ax_M := fun k' i' => if k' = k then (if i' = i then v else μ k' i') else μ k' i'
def ax_z (μ : ax_M) (k : Nat) : ax_M := fun k' i' => if k' = k then 0 else μ k' i'
def ax_zz (μ : ax_M) (k n : Nat) : ax_M := fun k' i' => if k ≤ k' ∧ k' < k + n then 0 else μ k' i'
def ax_cp (μ : ax_M) (a sp b dp n : Nat) : ax_M := fun k' i' => if k' = b then (va_cpy (μ a) (μ b) sp dp n i') else μ k' i'
def ax_fv (z : Nat) (μ : ax_M) (k j : Nat) (f : Option (Option Nat)) : Value := match f with
  | none => .int (μ k j)
  | some none => .null
  | some (some q) => .ref (z + q)
def ax_fs (z : Nat) (μ : ax_M) (k : Nat) (fs : List (Option (Option Nat))) : List Value := fs.mapIdx (fun j f => ax_fv z μ k j f)
def ax_en (G : ax_G) (μ : ax_M) (k : Nat) (e : ax_E) : va_E := match e with
  | .inl o => .inr (o.1, ax_fs G.1 μ k o.2)
  | .inr (.inl a) => .inl (G.2.2.1 a.1, (a.2, .inl (μ k)))
  | .inr (.inr b) => .inl (G.2.2.1 2, (b.2, .inr (.inr (.inr (.inr (fun i => if i < b.2 then some (G.1 + (b.1 + i)) else none))))))
def ax_H (G : ax_G) (sh : List ax_E) (μ : ax_M) (H : Heap) : Prop := H.size = G.1 + sh.length ∧ ∀ (k : Nat) (e : ax_E), sh[k]? = some e → va_at G.2.1 vwCl (G.1 + k, ax_en G μ k e) H
def ax_ty : List FieldType := [.int, .boolean, .array .int]
def ax_tys (G : ax_G) : List (ClassId × FieldType) := [(G.2.2.1 0, .int), (G.2.2.1 1, .boolean), (G.2.2.1 2, .array .int)]
def ax_strs : List (String × Nat × String × List Int32) := [("RugIsJurisdiction", 78, "fines 1 + guests ; admits guests < 20 ; sleeps hour < 6 ;", [102, 105, 110, 101, 115, 32, 49, 32, 43, 32, 103, 117, 101, 115, 116, 115, 32, 59, 32, 97, 100, 109, 105, 116, 115, 32, 103, 117, 101, 115, 116, 115, 32, 60, 32, 50, 48, 32, 59, 32, 115, 108, 101, 101, 112, 115, 32, 104, 111, 117, 114, 32, 60, 32, 54, 32, 59]), ("RugIsJurisdiction$Tape", 70, "column", [99, 111, 108, 117, 109, 110]), ("RugIsJurisdiction$Tape", 72, "row", [114, 111, 119]), ("RugIsJurisdiction$Tape", 74, "hour", [104, 111, 117, 114]), ("RugIsJurisdiction$Tape", 76, "guests", [103, 117, 101, 115, 116, 115]), ("RugIsJurisdiction$Tape", 78, "size", [115, 105, 122, 101]), ("RugIsJurisdiction$Tape", 79, "more", [109, 111, 114, 101]), ("RugIsJurisdiction$Tape", 81, "or", [111, 114]), ("RugIsJurisdiction$Tape", 83, "and", [97, 110, 100]), ("RugIsJurisdiction$Tape", 85, "not", [110, 111, 116]), ("RugIsJurisdiction$Tape", 87, "fines", [102, 105, 110, 101, 115]), ("RugIsJurisdiction$Tape", 89, "admits", [97, 100, 109, 105, 116, 115]), ("RugIsJurisdiction$Tape", 91, "sleeps", [115, 108, 101, 101, 112, 115]), ("RugIsJurisdiction$Tape", 93, "<=+-*();", [60, 61, 43, 45, 42, 40, 41, 59])]
def ax_nests : List (String × Nat × MethodName × String) := [("RugIsJurisdiction", 9, ⟨"RugIsJurisdiction$Texts", "<init>", "()V"⟩, "RugIsJurisdiction"), ("RugIsJurisdiction", 18, ⟨"RugIsJurisdiction$Tape", "<init>", "()V"⟩, "RugIsJurisdiction"), ("RugIsJurisdiction", 66, ⟨"RugIsJurisdiction$Image", "<init>", "()V"⟩, "RugIsJurisdiction"), ("RugIsJurisdiction$Common", 51, ⟨"RugIsJurisdiction", "columnOf", "(I)I"⟩, "RugIsJurisdiction"), ("RugIsJurisdiction$Common", 55, ⟨"RugIsJurisdiction", "rowOf", "(I)I"⟩, "RugIsJurisdiction"), ("RugIsJurisdiction$Common", 86, ⟨"RugIsJurisdiction", "isA", "(II)Z"⟩, "RugIsJurisdiction"), ("RugIsJurisdiction$Ways", 37, ⟨"RugIsJurisdiction", "stepFrom", "(II)I"⟩, "RugIsJurisdiction"), ("RugIsJurisdiction$Common", 114, ⟨"RugIsJurisdiction", "stepFrom", "(II)I"⟩, "RugIsJurisdiction"), ("RugIsJurisdiction$Lots", 37, ⟨"RugIsJurisdiction", "stepFrom", "(II)I"⟩, "RugIsJurisdiction")]
def ax_len : List Nat := ax_strs.map (fun q => q.2.2.2.length)
def ax_byt : List (List Int32) := ax_strs.map (fun q => q.2.2.2)
/-- what lies below the cells: the texts, the JDK's statics -/
def ax_O (G : ax_G) (s : State) (H : Heap) : Prop := vk_S ax_strs.length ax_len ax_byt G.2.2.2.1 G.2.2.2.2.1 (fun q => G.1 ≤ q) s H ∧ (∀ (i : Nat) (q : String × Nat × String × List Int32), ax_strs[i]? = some q → vk_R q.1 q.2.1 q.2.2.1 (G.2.2.2.1 i) s) ∧ va_Z "java/lang/String" "COMPACT_STRINGS" "Z" (.int 1) (fun q => G.1 ≤ q) s H ∧ (∃ v : Value, (v = .null ∨ ∃ a, v = .ref a) ∧ va_Z "jdk/internal/util/Preconditions" "SIOOBE_FORMATTER" "Ljava/util/function/BiFunction;" v (fun q => G.1 ≤ q) s H) ∧ (∀ q ∈ ax_nests, va_Nw (.methodLinkNest q.1 q.2.1 q.2.2.1 q.2.2.2) s) ∧ (Cond.arrayOver (.array .int)).before #[] s = true ∧ va_X G.2.2.2.2.2.1 G.2.2.2.2.2.2.1 G.2.2.2.2.2.2.2 s H ∧ G.2.2.2.2.2.1 < G.1
theorem ax_O.moved {G : ax_G} {u U : State} {H : Heap} (hW : u.WarmedH U.vm) (h : ax_O G u H) : ax_O G U H := by
  obtain ⟨h1, h2, h3, ⟨v, h4, h5⟩, h6, h7, h8, h9⟩ := h
  exact ⟨vk_S.moved hW.alike h1, fun i q hq => vk_R.warm hW (h2 i q hq), va_Z.moved hW.alike h3, ⟨v, h4, va_Z.moved hW.alike h5⟩, fun q hq => va_Nw.warmM hW (h6 q hq), Jvm.Stand.arrayOver_alikeB hW.alike h7, va_X.moved hW.alike h8, h9⟩
theorem ax_O.kept {G : ax_G} {U : State} {H H1 : Heap} (h : ax_O G U H) (hq : ∀ a : Nat, a < G.1 → H1[a]? = H[a]?) : ax_O G U H1 := by
  obtain ⟨h1, h2, h3, ⟨v, h4, h5⟩, h6, h7, h8, h9⟩ := h
  have hq' : ∀ a : Nat, a < H.size → ¬ (G.1 ≤ a) → H1[a]? = H[a]? := fun a _ h => hq a (Nat.not_le.mp h)
  exact ⟨vk_S.kept h1 hq', h2, va_Z.kept h3 hq', ⟨v, h4, va_Z.kept h5 hq'⟩, h6, h7, va_X.kept h8 (hq _ h9), h9⟩
def ax_W (G : ax_G) (sh : List ax_E) (μ : ax_M) (s : State) (H : Heap) : Prop := ax_H G sh μ H ∧ va_K G.2.1 vwCl (ax_tys G) s ∧ ax_O G s H
def ax_e1 (e : ax_E) : Nat := match e with
  | .inl o => o.2.length
  | .inr (.inl a) => a.2
  | .inr (.inr b) => b.2
def ax_sl (sh : List ax_E) : Nat := (sh.map ax_e1).sum
/-- what a place of a method takes from its start -/
def ax_C (own : String) (b : ByteArray) (nL : Nat) (rt : Option FieldType) (ini : Bool) (d : Nat) (p : Program) (R : Room) (s : State) (m : MethodId) (args : Array Value) (meth : Method) (c : Code) : Prop :=
  p.tables.exec = Jvm.exec ∧ c.code = b ∧ c.maxLocals = nL ∧ meth.sig.returnType = rt ∧ meth.locks = false ∧ (ini = true → meth.name = "<init>") ∧ s.vm.findClass own = some m.cls ∧ (∀ w ∈ ax_T, w.before args s = true) ∧ d ≤ R.frames ∧ 40 * d ≤ R.locals
abbrev ax_R : Type := Option Value × List ax_E × ax_M
def ax_Q (G : ax_G) (r : ax_R) : Array Value → State → Outcome → State → Prop := fun _ st o t => o = .returned r.1 ∧ ax_H G r.2.1 r.2.2 t.heap ∧ ∀ q, q < G.1 → t.heap[q]? = st.heap[q]?
def ax_X (G : ax_G) (l : Launch) (own : String) (b : ByteArray) (nL : Nat) (rt : Option FieldType) (ini : Bool) (d : Nat) (r : ax_R) (pc : Nat) (lv : List (Nat × Value)) (st : List Value) (sh : List ax_E) (μ : ax_M) : Prop :=
  (sh.length ≤ r.2.1.length ∧ ax_sl sh ≤ ax_sl r.2.1) ∧ ∀ (p : Program) (e : Env) (R : Room) (s : State) (m : MethodId) (args : Array Value) (below : List Frame) (meth : Method) (c : Code) (H : Heap) (locs : List Loc) (cells slots mc ms : Nat) (ls : Array Slot),
    ax_C own b nL rt ini d p R s m args meth c → mc ≤ R.cells → ms ≤ R.slots → cells + r.2.1.length = mc + sh.length → slots + ax_sl r.2.1 = ms + ax_sl sh →
    ax_W G sh μ s H → (∀ q, q < G.1 → H[q]? = s.heap[q]?) → (∀ q ∈ locs, G.1 ≤ q.base) → lv_has ls nL lv →
    W p l e R s m args below meth c H locs cells slots (MQ below (ax_Q G r) args s mc ms (fun q => G.1 ≤ q)) (F0 m pc ls st)
def ax_rm (d mc ms : Nat) : Room := { frames := d, cells := mc, slots := ms, locals := 40 * d }
/-- a method's contract -/
def ax_A (G : ax_G) (l : Launch) (y : MethodName) (b : ByteArray) (nL : Nat) (rt : Option FieldType) (d : Nat) (args : List Value) (sh : List ax_E) (μ : ax_M) (r : ax_R) : Prop :=
  (sh.length ≤ r.2.1.length ∧ ax_sl sh ≤ ax_sl r.2.1) ∧ Met l y (.code y b nL rt :: ax_T) (ax_rm d (r.2.1.length - sh.length) (ax_sl r.2.1 - ax_sl sh)) (va_Pc args (fun U => ax_W G sh μ U U.heap)) (ax_Q G r) (r.2.1.length - sh.length) (ax_sl r.2.1 - ax_sl sh) (fun q => G.1 ≤ q)
set_option maxHeartbeats 4000000 in
theorem ax_A.of {G : ax_G} {l : Launch} {y : MethodName} {b : ByteArray} {nL : Nat} {rt : Option FieldType} {d : Nat} {args : List Value} {sh : List ax_E} {μ : ax_M} {r : ax_R} (ini : Bool) (hy : plainName y.cls = true) (hini : ini = true → y.name = "<init>") (hn : (lg_sl args).length ≤ nL)
    (h : ax_X G l y.cls b nL rt ini d r 0 (lv_args 0 args) [] sh μ) : ax_A G l y b nL rt d args sh μ r := by
  refine ⟨h.1, Met.ofW (cc := b) (maxL := nL) (ret := rt) hy rfl ?_⟩
  intro p e s m args0 below meth c s₁ B hml hv
  obtain ⟨rfl, hW⟩ := hv
  have hts := atoms_spec (ws := .code y b nL rt :: ax_T) B.pre
  have hown : s.vm.findClass y.cls = some m.cls := findClass_of_methodNamed B.named
  have hin : meth.name = y.name := (name_of_methodNamed B.named B.method).1
  have hl := lv_entry args (n := nL) hn
  rw [lg_entry_eq]
  have hsh := hW.1.1
  have h1 := h.1
  exact h.2 p e (headSpec (.code y b nL rt :: ax_T) (ax_rm d (r.2.1.length - sh.length) (ax_sl r.2.1 - ax_sl sh))).room s m _ below meth c s.heap [] 0 0 _ _ _
    ⟨B.exec, B.bytes, hml, B.returns, B.notSynchronized, fun z => by rw [hin]; exact hini z, hown, fun w hw => hts w (List.mem_cons_of_mem _ hw), Nat.le_refl d, Nat.le_refl (40 * d)⟩ (Nat.le_refl _) (Nat.le_refl _) (by omega) (by omega) hW (fun _ _ => rfl) (fun _ h => by cases h) hl
theorem ax_upd {H H' : Heap} {G : ax_G} {sh : List ax_E} {μ μ' : ax_M} {k : Nat} {e : ax_E} (h : ax_H G sh μ H) (he : sh[k]? = some e) (h1 : H'.size = H.size) (h2 : ∀ q, q ≠ G.1 + k → H'[q]? = H[q]?) (h3 : va_at G.2.1 vwCl (G.1 + k, ax_en G μ' k e) H') (h4 : ∀ (k' : Nat) (e' : ax_E), k' ≠ k → sh[k']? = some e' → ax_en G μ' k' e' = ax_en G μ k' e') : ax_H G sh μ' H' := by
  refine ⟨h1.trans h.1, fun k' e' he' => ?_⟩
  by_cases hk : k' = k
  · subst hk
    rw [he] at he'
    cases he'
    exact h3
  · rw [h4 k' e' hk he']
    exact (h.2 k' e' he').kept (h2 _ (fun q => hk (Nat.add_left_cancel q)))
theorem ax_fs_get {z : Nat} {μ : ax_M} {k j : Nat} {fs : List (Option (Option Nat))} {f : Option (Option Nat)} (h : fs[j]? = some f) : (ax_fs z μ k fs)[j]? = some (ax_fv z μ k j f) := by
  unfold ax_fs
  rw [List.getElem?_mapIdx, h]
  rfl
theorem ax_fs_congr {z : Nat} {μ μ' : ax_M} {k : Nat} {fs : List (Option (Option Nat))} (h : ∀ j, μ' k j = μ k j) : ax_fs z μ' k fs = ax_fs z μ k fs := by
  unfold ax_fs
  congr 1
  funext j f
  cases f with
  | none => simp [ax_fv, h]
  | some f => cases f <;> rfl
theorem ax_en_congr {G : ax_G} {μ μ' : ax_M} {k : Nat} {e : ax_E} (h : ∀ j, μ' k j = μ k j) : ax_en G μ' k e = ax_en G μ k e := by
  have hf : μ' k = μ k := funext h
  rcases e with o | a | b
  · simp only [ax_en, ax_fs_congr h]
  · simp only [ax_en, hf]
  · rfl
theorem ax_w_ne {μ : ax_M} {k i k' : Nat} {v : Int32} (h : k' ≠ k) (j : Nat) : ax_w μ k i v k' j = μ k' j := by simp [ax_w, h]
theorem ax_w_eq {μ : ax_M} {k i : Nat} {v : Int32} : ax_w μ k i v k = upd (μ k) i v := by
  funext j
  simp only [ax_w, if_true, upd]
/-- what a field's row stands on -/
def ax_FL (own : String) (idx ci j : Nat) : Prop := ∃ r : vw_C, vwCl[ci]? = some r ∧ j < r.2.2 ∧ Cond.fieldLink own idx (r.2.1 j).1 (r.2.1 j).2.1 (r.2.1 j).2.2.1 ∈ ax_T ∧ ∀ w ∈ u_ws r.1 r.2.1 r.2.2, w ∈ ax_T
def ax_FT (ci : Nat) (t : Nat → FieldType) : Prop := ∃ r : vw_C, vwCl[ci]? = some r ∧ (∀ k, k < r.2.2 → parseFieldDescriptor (r.2.1 k).2.2.1 = some (t k)) ∧ (∀ a, a < r.2.2 → ∀ b, b < r.2.2 → a ≠ b → (r.2.1 a).2.1 ≠ (r.2.1 b).2.1)
section AX
variable {G : ax_G} {l : Launch} {own : String} {b : ByteArray} {nL : Nat} {rt : Option FieldType} {ini : Bool} {d : Nat} {r : ax_R} {pc : Nat} {lv lv' : List (Nat × Value)} {st : List Value} {sh : List ax_E} {μ : ax_M}
theorem ax_iconst {n : Int} {v : Int32} (hd : decode b pc = .ok (.iconst n, 1)) (hv : Int32.ofInt n = v) (k : ax_X G l own b nL rt ini d r (pc + 1) lv (.int v :: st) sh μ) : ax_X G l own b nL rt ini d r pc lv (st) sh μ :=
  ⟨k.1, fun p e R s m args below meth c H locs cells slots mc ms ls C h1 h2 h3 h4 hW hz hL hl => lv_iconst C.1 C.2.1 hd hv (k.2 p e R s m args below meth c H locs cells slots mc ms ls C h1 h2 h3 h4 hW hz hL hl)⟩
theorem ax_bipush {n : Int} {v : Int32} (hd : decode b pc = .ok (.bipush n, 2)) (hv : (Int8.ofInt n).toInt32 = v) (k : ax_X G l own b nL rt ini d r (pc + 2) lv (.int v :: st) sh μ) : ax_X G l own b nL rt ini d r pc lv (st) sh μ :=
  ⟨k.1, fun p e R s m args below meth c H locs cells slots mc ms ls C h1 h2 h3 h4 hW hz hL hl => lv_bipush C.1 C.2.1 hd hv (k.2 p e R s m args below meth c H locs cells slots mc ms ls C h1 h2 h3 h4 hW hz hL hl)⟩
theorem ax_sipush {n : Int} {v : Int32} (hd : decode b pc = .ok (.sipush n, 3)) (hv : (Int16.ofInt n).toInt32 = v) (k : ax_X G l own b nL rt ini d r (pc + 3) lv (.int v :: st) sh μ) : ax_X G l own b nL rt ini d r pc lv (st) sh μ :=
  ⟨k.1, fun p e R s m args below meth c H locs cells slots mc ms ls C h1 h2 h3 h4 hW hz hL hl => lv_sipush C.1 C.2.1 hd hv (k.2 p e R s m args below meth c H locs cells slots mc ms ls C h1 h2 h3 h4 hW hz hL hl)⟩
theorem ax_lconst {n : Fin 2} {v : Int64} (hd : decode b pc = .ok (.lconst n, 1)) (hv : Int64.ofNat (n : Nat) = v) (k : ax_X G l own b nL rt ini d r (pc + 1) lv (.long v :: st) sh μ) : ax_X G l own b nL rt ini d r pc lv (st) sh μ :=
  ⟨k.1, fun p e R s m args below meth c H locs cells slots mc ms ls C h1 h2 h3 h4 hW hz hL hl => lv_lconst C.1 C.2.1 hd hv (k.2 p e R s m args below meth c H locs cells slots mc ms ls C h1 h2 h3 h4 hW hz hL hl)⟩
theorem ax_ldc {idx : Nat} {v : Int32} (hd : decode b pc = .ok (.ldc idx, 2)) (hw : Cond.constant own idx v ∈ ax_T) (k : ax_X G l own b nL rt ini d r (pc + 2) lv (.int v :: st) sh μ) : ax_X G l own b nL rt ini d r pc lv (st) sh μ :=
  ⟨k.1, fun p e R s m args below meth c H locs cells slots mc ms ls C h1 h2 h3 h4 hW hz hL hl => lv_ldc C.1 C.2.1 C.2.2.2.2.2.2.1 (C.2.2.2.2.2.2.2.1 _ hw) hd (k.2 p e R s m args below meth c H locs cells slots mc ms ls C h1 h2 h3 h4 hW hz hL hl)⟩
theorem ax_ldc2 {idx : Nat} {v : Int64} (hd : decode b pc = .ok (.ldc2_w idx, 3)) (hw : Cond.constantLong own idx v ∈ ax_T) (k : ax_X G l own b nL rt ini d r (pc + 3) lv (.long v :: st) sh μ) : ax_X G l own b nL rt ini d r pc lv (st) sh μ :=
  ⟨k.1, fun p e R s m args below meth c H locs cells slots mc ms ls C h1 h2 h3 h4 hW hz hL hl => lv_ldc2 C.1 C.2.1 C.2.2.2.2.2.2.1 (C.2.2.2.2.2.2.2.1 _ hw) hd (k.2 p e R s m args below meth c H locs cells slots mc ms ls C h1 h2 h3 h4 hW hz hL hl)⟩
theorem ax_iload {i q : Nat} {x : Int32} (hd : decode b pc = .ok (.iload i, 2)) (hq : lv[q]? = some (i, .int x)) (k : ax_X G l own b nL rt ini d r (pc + 2) lv (.int x :: st) sh μ) : ax_X G l own b nL rt ini d r pc lv (st) sh μ :=
  ⟨k.1, fun p e R s m args below meth c H locs cells slots mc ms ls C h1 h2 h3 h4 hW hz hL hl => lv_iload C.1 C.2.1 hd (lv_at hl q hq) (k.2 p e R s m args below meth c H locs cells slots mc ms ls C h1 h2 h3 h4 hW hz hL hl)⟩
theorem ax_iload_n {n : Fin 4} {i q : Nat} {x : Int32} (hd : decode b pc = .ok (.iload_n n, 1)) (hi : (n : Nat) = i) (hq : lv[q]? = some (i, .int x)) (k : ax_X G l own b nL rt ini d r (pc + 1) lv (.int x :: st) sh μ) : ax_X G l own b nL rt ini d r pc lv (st) sh μ :=
  ⟨k.1, fun p e R s m args below meth c H locs cells slots mc ms ls C h1 h2 h3 h4 hW hz hL hl => lv_iload_n C.1 C.2.1 hd hi (lv_at hl q hq) (k.2 p e R s m args below meth c H locs cells slots mc ms ls C h1 h2 h3 h4 hW hz hL hl)⟩
theorem ax_lload {i q : Nat} {x : Int64} (hd : decode b pc = .ok (.lload i, 2)) (hq : lv[q]? = some (i, .long x)) (k : ax_X G l own b nL rt ini d r (pc + 2) lv (.long x :: st) sh μ) : ax_X G l own b nL rt ini d r pc lv (st) sh μ :=
  ⟨k.1, fun p e R s m args below meth c H locs cells slots mc ms ls C h1 h2 h3 h4 hW hz hL hl => lv_lload C.1 C.2.1 hd (lv_at hl q hq) (k.2 p e R s m args below meth c H locs cells slots mc ms ls C h1 h2 h3 h4 hW hz hL hl)⟩
theorem ax_lload_n {n : Fin 4} {i q : Nat} {x : Int64} (hd : decode b pc = .ok (.lload_n n, 1)) (hi : (n : Nat) = i) (hq : lv[q]? = some (i, .long x)) (k : ax_X G l own b nL rt ini d r (pc + 1) lv (.long x :: st) sh μ) : ax_X G l own b nL rt ini d r pc lv (st) sh μ :=
  ⟨k.1, fun p e R s m args below meth c H locs cells slots mc ms ls C h1 h2 h3 h4 hW hz hL hl => lv_lload_n C.1 C.2.1 hd hi (lv_at hl q hq) (k.2 p e R s m args below meth c H locs cells slots mc ms ls C h1 h2 h3 h4 hW hz hL hl)⟩
theorem ax_aload {i q : Nat} {x : Nat} (hd : decode b pc = .ok (.aload i, 2)) (hq : lv[q]? = some (i, .ref x)) (k : ax_X G l own b nL rt ini d r (pc + 2) lv (.ref x :: st) sh μ) : ax_X G l own b nL rt ini d r pc lv (st) sh μ :=
  ⟨k.1, fun p e R s m args below meth c H locs cells slots mc ms ls C h1 h2 h3 h4 hW hz hL hl => lv_aload C.1 C.2.1 hd (lv_at hl q hq) (k.2 p e R s m args below meth c H locs cells slots mc ms ls C h1 h2 h3 h4 hW hz hL hl)⟩
theorem ax_aload_n {n : Fin 4} {i q : Nat} {x : Nat} (hd : decode b pc = .ok (.aload_n n, 1)) (hi : (n : Nat) = i) (hq : lv[q]? = some (i, .ref x)) (k : ax_X G l own b nL rt ini d r (pc + 1) lv (.ref x :: st) sh μ) : ax_X G l own b nL rt ini d r pc lv (st) sh μ :=
  ⟨k.1, fun p e R s m args below meth c H locs cells slots mc ms ls C h1 h2 h3 h4 hW hz hL hl => lv_aload_n C.1 C.2.1 hd hi (lv_at hl q hq) (k.2 p e R s m args below meth c H locs cells slots mc ms ls C h1 h2 h3 h4 hW hz hL hl)⟩
theorem ax_istore {i : Nat} {x : Int32} (hd : decode b pc = .ok (.istore i, 2)) (hn : i < nL) (hlv : (i, Value.int x) :: lv.filter (fun q => !(q.1 == i) && !(q.1 + 1 == i && q.2.category == 2)) = lv') (k : ax_X G l own b nL rt ini d r (pc + 2) lv' st sh μ) : ax_X G l own b nL rt ini d r pc lv (.int x :: st) sh μ :=
  ⟨k.1, fun p e R s m args below meth c H locs cells slots mc ms ls C h1 h2 h3 h4 hW hz hL hl => lv_istore C.1 C.2.1 hd hl hn hlv (fun ls' hl' => k.2 p e R s m args below meth c H locs cells slots mc ms ls' C h1 h2 h3 h4 hW hz hL hl')⟩
theorem ax_istore_n {n : Fin 4} {i : Nat} {x : Int32} (hd : decode b pc = .ok (.istore_n n, 1)) (hi : (n : Nat) = i) (hn : i < nL) (hlv : (i, Value.int x) :: lv.filter (fun q => !(q.1 == i) && !(q.1 + 1 == i && q.2.category == 2)) = lv') (k : ax_X G l own b nL rt ini d r (pc + 1) lv' st sh μ) : ax_X G l own b nL rt ini d r pc lv (.int x :: st) sh μ :=
  ⟨k.1, fun p e R s m args below meth c H locs cells slots mc ms ls C h1 h2 h3 h4 hW hz hL hl => lv_istore_n C.1 C.2.1 hd hi hl hn hlv (fun ls' hl' => k.2 p e R s m args below meth c H locs cells slots mc ms ls' C h1 h2 h3 h4 hW hz hL hl')⟩
theorem ax_lstore {i : Nat} {x : Int64} (hd : decode b pc = .ok (.lstore i, 2)) (hn : i + 1 < nL) (hlv : (i, Value.long x) :: lv.filter (fun q => !(q.1 == i) && (!(q.1 == i + 1) && !(q.1 + 1 == i && q.2.category == 2))) = lv') (k : ax_X G l own b nL rt ini d r (pc + 2) lv' st sh μ) : ax_X G l own b nL rt ini d r pc lv (.long x :: st) sh μ :=
  ⟨k.1, fun p e R s m args below meth c H locs cells slots mc ms ls C h1 h2 h3 h4 hW hz hL hl => lv_lstore C.1 C.2.1 hd hl hn hlv (fun ls' hl' => k.2 p e R s m args below meth c H locs cells slots mc ms ls' C h1 h2 h3 h4 hW hz hL hl')⟩
theorem ax_lstore_n {n : Fin 4} {i : Nat} {x : Int64} (hd : decode b pc = .ok (.lstore_n n, 1)) (hi : (n : Nat) = i) (hn : i + 1 < nL) (hlv : (i, Value.long x) :: lv.filter (fun q => !(q.1 == i) && (!(q.1 == i + 1) && !(q.1 + 1 == i && q.2.category == 2))) = lv') (k : ax_X G l own b nL rt ini d r (pc + 1) lv' st sh μ) : ax_X G l own b nL rt ini d r pc lv (.long x :: st) sh μ :=
  ⟨k.1, fun p e R s m args below meth c H locs cells slots mc ms ls C h1 h2 h3 h4 hW hz hL hl => lv_lstore_n C.1 C.2.1 hd hi hl hn hlv (fun ls' hl' => k.2 p e R s m args below meth c H locs cells slots mc ms ls' C h1 h2 h3 h4 hW hz hL hl')⟩
theorem ax_astore {i : Nat} {x : Nat} (hd : decode b pc = .ok (.astore i, 2)) (hn : i < nL) (hlv : (i, Value.ref x) :: lv.filter (fun q => !(q.1 == i) && !(q.1 + 1 == i && q.2.category == 2)) = lv') (k : ax_X G l own b nL rt ini d r (pc + 2) lv' st sh μ) : ax_X G l own b nL rt ini d r pc lv (.ref x :: st) sh μ :=
  ⟨k.1, fun p e R s m args below meth c H locs cells slots mc ms ls C h1 h2 h3 h4 hW hz hL hl => lv_astore C.1 C.2.1 hd hl hn hlv (fun ls' hl' => k.2 p e R s m args below meth c H locs cells slots mc ms ls' C h1 h2 h3 h4 hW hz hL hl')⟩
theorem ax_astore_n {n : Fin 4} {i : Nat} {x : Nat} (hd : decode b pc = .ok (.astore_n n, 1)) (hi : (n : Nat) = i) (hn : i < nL) (hlv : (i, Value.ref x) :: lv.filter (fun q => !(q.1 == i) && !(q.1 + 1 == i && q.2.category == 2)) = lv') (k : ax_X G l own b nL rt ini d r (pc + 1) lv' st sh μ) : ax_X G l own b nL rt ini d r pc lv (.ref x :: st) sh μ :=
  ⟨k.1, fun p e R s m args below meth c H locs cells slots mc ms ls C h1 h2 h3 h4 hW hz hL hl => lv_astore_n C.1 C.2.1 hd hi hl hn hlv (fun ls' hl' => k.2 p e R s m args below meth c H locs cells slots mc ms ls' C h1 h2 h3 h4 hW hz hL hl')⟩
theorem ax_iinc {i q : Nat} {n : Int} {x v : Int32} (hd : decode b pc = .ok (.iinc i n, 3)) (hq : lv[q]? = some (i, .int x)) (hv : x + Int32.ofInt n = v) (hn : i < nL) (hlv : (i, Value.int v) :: lv.filter (fun q => !(q.1 == i) && !(q.1 + 1 == i && q.2.category == 2)) = lv') (k : ax_X G l own b nL rt ini d r (pc + 3) lv' st sh μ) : ax_X G l own b nL rt ini d r pc lv st sh μ :=
  ⟨k.1, fun p e R s m args below meth c H locs cells slots mc ms ls C h1 h2 h3 h4 hW hz hL hl => lv_iinc C.1 C.2.1 hd hl hq hv hn hlv (fun ls' hl' => k.2 p e R s m args below meth c H locs cells slots mc ms ls' C h1 h2 h3 h4 hW hz hL hl')⟩
theorem ax_iadd {x y : Int32} (hd : decode b pc = .ok (.iadd, 1))  (k : ax_X G l own b nL rt ini d r (pc + 1) lv (.int (x + y) :: st) sh μ) : ax_X G l own b nL rt ini d r pc lv (.int y :: .int x :: st) sh μ :=
  ⟨k.1, fun p e R s m args below meth c H locs cells slots mc ms ls C h1 h2 h3 h4 hW hz hL hl => lv_iadd C.1 C.2.1 hd (k.2 p e R s m args below meth c H locs cells slots mc ms ls C h1 h2 h3 h4 hW hz hL hl)⟩
theorem ax_isub {x y : Int32} (hd : decode b pc = .ok (.isub, 1))  (k : ax_X G l own b nL rt ini d r (pc + 1) lv (.int (x - y) :: st) sh μ) : ax_X G l own b nL rt ini d r pc lv (.int y :: .int x :: st) sh μ :=
  ⟨k.1, fun p e R s m args below meth c H locs cells slots mc ms ls C h1 h2 h3 h4 hW hz hL hl => lv_isub C.1 C.2.1 hd (k.2 p e R s m args below meth c H locs cells slots mc ms ls C h1 h2 h3 h4 hW hz hL hl)⟩
theorem ax_imul {x y : Int32} (hd : decode b pc = .ok (.imul, 1))  (k : ax_X G l own b nL rt ini d r (pc + 1) lv (.int (x * y) :: st) sh μ) : ax_X G l own b nL rt ini d r pc lv (.int y :: .int x :: st) sh μ :=
  ⟨k.1, fun p e R s m args below meth c H locs cells slots mc ms ls C h1 h2 h3 h4 hW hz hL hl => lv_imul C.1 C.2.1 hd (k.2 p e R s m args below meth c H locs cells slots mc ms ls C h1 h2 h3 h4 hW hz hL hl)⟩
theorem ax_iand {x y : Int32} (hd : decode b pc = .ok (.iand, 1))  (k : ax_X G l own b nL rt ini d r (pc + 1) lv (.int (x &&& y) :: st) sh μ) : ax_X G l own b nL rt ini d r pc lv (.int y :: .int x :: st) sh μ :=
  ⟨k.1, fun p e R s m args below meth c H locs cells slots mc ms ls C h1 h2 h3 h4 hW hz hL hl => lv_iand C.1 C.2.1 hd (k.2 p e R s m args below meth c H locs cells slots mc ms ls C h1 h2 h3 h4 hW hz hL hl)⟩
theorem ax_ior {x y : Int32} (hd : decode b pc = .ok (.ior, 1))  (k : ax_X G l own b nL rt ini d r (pc + 1) lv (.int (x ||| y) :: st) sh μ) : ax_X G l own b nL rt ini d r pc lv (.int y :: .int x :: st) sh μ :=
  ⟨k.1, fun p e R s m args below meth c H locs cells slots mc ms ls C h1 h2 h3 h4 hW hz hL hl => lv_ior C.1 C.2.1 hd (k.2 p e R s m args below meth c H locs cells slots mc ms ls C h1 h2 h3 h4 hW hz hL hl)⟩
theorem ax_ixor {x y : Int32} (hd : decode b pc = .ok (.ixor, 1))  (k : ax_X G l own b nL rt ini d r (pc + 1) lv (.int (x ^^^ y) :: st) sh μ) : ax_X G l own b nL rt ini d r pc lv (.int y :: .int x :: st) sh μ :=
  ⟨k.1, fun p e R s m args below meth c H locs cells slots mc ms ls C h1 h2 h3 h4 hW hz hL hl => lv_ixor C.1 C.2.1 hd (k.2 p e R s m args below meth c H locs cells slots mc ms ls C h1 h2 h3 h4 hW hz hL hl)⟩
theorem ax_ishl {x y : Int32} (hd : decode b pc = .ok (.ishl, 1))  (k : ax_X G l own b nL rt ini d r (pc + 1) lv (.int (x <<< (y &&& 31)) :: st) sh μ) : ax_X G l own b nL rt ini d r pc lv (.int y :: .int x :: st) sh μ :=
  ⟨k.1, fun p e R s m args below meth c H locs cells slots mc ms ls C h1 h2 h3 h4 hW hz hL hl => lv_ishl C.1 C.2.1 hd (k.2 p e R s m args below meth c H locs cells slots mc ms ls C h1 h2 h3 h4 hW hz hL hl)⟩
theorem ax_ishr {x y : Int32} (hd : decode b pc = .ok (.ishr, 1))  (k : ax_X G l own b nL rt ini d r (pc + 1) lv (.int (x >>> (y &&& 31)) :: st) sh μ) : ax_X G l own b nL rt ini d r pc lv (.int y :: .int x :: st) sh μ :=
  ⟨k.1, fun p e R s m args below meth c H locs cells slots mc ms ls C h1 h2 h3 h4 hW hz hL hl => lv_ishr C.1 C.2.1 hd (k.2 p e R s m args below meth c H locs cells slots mc ms ls C h1 h2 h3 h4 hW hz hL hl)⟩
theorem ax_ladd {x y : Int64} (hd : decode b pc = .ok (.ladd, 1))  (k : ax_X G l own b nL rt ini d r (pc + 1) lv (.long (x + y) :: st) sh μ) : ax_X G l own b nL rt ini d r pc lv (.long y :: .long x :: st) sh μ :=
  ⟨k.1, fun p e R s m args below meth c H locs cells slots mc ms ls C h1 h2 h3 h4 hW hz hL hl => lv_ladd C.1 C.2.1 hd (k.2 p e R s m args below meth c H locs cells slots mc ms ls C h1 h2 h3 h4 hW hz hL hl)⟩
theorem ax_lsub {x y : Int64} (hd : decode b pc = .ok (.lsub, 1))  (k : ax_X G l own b nL rt ini d r (pc + 1) lv (.long (x - y) :: st) sh μ) : ax_X G l own b nL rt ini d r pc lv (.long y :: .long x :: st) sh μ :=
  ⟨k.1, fun p e R s m args below meth c H locs cells slots mc ms ls C h1 h2 h3 h4 hW hz hL hl => lv_lsub C.1 C.2.1 hd (k.2 p e R s m args below meth c H locs cells slots mc ms ls C h1 h2 h3 h4 hW hz hL hl)⟩
theorem ax_lmul {x y : Int64} (hd : decode b pc = .ok (.lmul, 1))  (k : ax_X G l own b nL rt ini d r (pc + 1) lv (.long (x * y) :: st) sh μ) : ax_X G l own b nL rt ini d r pc lv (.long y :: .long x :: st) sh μ :=
  ⟨k.1, fun p e R s m args below meth c H locs cells slots mc ms ls C h1 h2 h3 h4 hW hz hL hl => lv_lmul C.1 C.2.1 hd (k.2 p e R s m args below meth c H locs cells slots mc ms ls C h1 h2 h3 h4 hW hz hL hl)⟩
theorem ax_land {x y : Int64} (hd : decode b pc = .ok (.land, 1))  (k : ax_X G l own b nL rt ini d r (pc + 1) lv (.long (x &&& y) :: st) sh μ) : ax_X G l own b nL rt ini d r pc lv (.long y :: .long x :: st) sh μ :=
  ⟨k.1, fun p e R s m args below meth c H locs cells slots mc ms ls C h1 h2 h3 h4 hW hz hL hl => lv_land C.1 C.2.1 hd (k.2 p e R s m args below meth c H locs cells slots mc ms ls C h1 h2 h3 h4 hW hz hL hl)⟩
theorem ax_lor {x y : Int64} (hd : decode b pc = .ok (.lor, 1))  (k : ax_X G l own b nL rt ini d r (pc + 1) lv (.long (x ||| y) :: st) sh μ) : ax_X G l own b nL rt ini d r pc lv (.long y :: .long x :: st) sh μ :=
  ⟨k.1, fun p e R s m args below meth c H locs cells slots mc ms ls C h1 h2 h3 h4 hW hz hL hl => lv_lor C.1 C.2.1 hd (k.2 p e R s m args below meth c H locs cells slots mc ms ls C h1 h2 h3 h4 hW hz hL hl)⟩
theorem ax_lxor {x y : Int64} (hd : decode b pc = .ok (.lxor, 1))  (k : ax_X G l own b nL rt ini d r (pc + 1) lv (.long (x ^^^ y) :: st) sh μ) : ax_X G l own b nL rt ini d r pc lv (.long y :: .long x :: st) sh μ :=
  ⟨k.1, fun p e R s m args below meth c H locs cells slots mc ms ls C h1 h2 h3 h4 hW hz hL hl => lv_lxor C.1 C.2.1 hd (k.2 p e R s m args below meth c H locs cells slots mc ms ls C h1 h2 h3 h4 hW hz hL hl)⟩
theorem ax_idiv {x y : Int32} (hd : decode b pc = .ok (.idiv, 1)) (hy : ¬ y = 0) (k : ax_X G l own b nL rt ini d r (pc + 1) lv (.int (x / y) :: st) sh μ) : ax_X G l own b nL rt ini d r pc lv (.int y :: .int x :: st) sh μ :=
  ⟨k.1, fun p e R s m args below meth c H locs cells slots mc ms ls C h1 h2 h3 h4 hW hz hL hl => lv_idiv C.1 C.2.1 hd hy (k.2 p e R s m args below meth c H locs cells slots mc ms ls C h1 h2 h3 h4 hW hz hL hl)⟩
theorem ax_irem {x y : Int32} (hd : decode b pc = .ok (.irem, 1)) (hy : ¬ y = 0) (k : ax_X G l own b nL rt ini d r (pc + 1) lv (.int (x - x / y * y) :: st) sh μ) : ax_X G l own b nL rt ini d r pc lv (.int y :: .int x :: st) sh μ :=
  ⟨k.1, fun p e R s m args below meth c H locs cells slots mc ms ls C h1 h2 h3 h4 hW hz hL hl => lv_irem C.1 C.2.1 hd hy (k.2 p e R s m args below meth c H locs cells slots mc ms ls C h1 h2 h3 h4 hW hz hL hl)⟩
theorem ax_ldiv {x y : Int64} (hd : decode b pc = .ok (.ldiv, 1)) (hy : ¬ y = 0) (k : ax_X G l own b nL rt ini d r (pc + 1) lv (.long (x / y) :: st) sh μ) : ax_X G l own b nL rt ini d r pc lv (.long y :: .long x :: st) sh μ :=
  ⟨k.1, fun p e R s m args below meth c H locs cells slots mc ms ls C h1 h2 h3 h4 hW hz hL hl => lv_ldiv C.1 C.2.1 hd hy (k.2 p e R s m args below meth c H locs cells slots mc ms ls C h1 h2 h3 h4 hW hz hL hl)⟩
theorem ax_lrem {x y : Int64} (hd : decode b pc = .ok (.lrem, 1)) (hy : ¬ y = 0) (k : ax_X G l own b nL rt ini d r (pc + 1) lv (.long (x - x / y * y) :: st) sh μ) : ax_X G l own b nL rt ini d r pc lv (.long y :: .long x :: st) sh μ :=
  ⟨k.1, fun p e R s m args below meth c H locs cells slots mc ms ls C h1 h2 h3 h4 hW hz hL hl => lv_lrem C.1 C.2.1 hd hy (k.2 p e R s m args below meth c H locs cells slots mc ms ls C h1 h2 h3 h4 hW hz hL hl)⟩
theorem ax_ineg {x : Int32} (hd : decode b pc = .ok (.ineg, 1))  (k : ax_X G l own b nL rt ini d r (pc + 1) lv (.int (-x) :: st) sh μ) : ax_X G l own b nL rt ini d r pc lv (.int x :: st) sh μ :=
  ⟨k.1, fun p e R s m args below meth c H locs cells slots mc ms ls C h1 h2 h3 h4 hW hz hL hl => lv_ineg C.1 C.2.1 hd (k.2 p e R s m args below meth c H locs cells slots mc ms ls C h1 h2 h3 h4 hW hz hL hl)⟩
theorem ax_i2l {x : Int32} (hd : decode b pc = .ok (.i2l, 1))  (k : ax_X G l own b nL rt ini d r (pc + 1) lv (.long x.toInt64 :: st) sh μ) : ax_X G l own b nL rt ini d r pc lv (.int x :: st) sh μ :=
  ⟨k.1, fun p e R s m args below meth c H locs cells slots mc ms ls C h1 h2 h3 h4 hW hz hL hl => lv_i2l C.1 C.2.1 hd rfl (k.2 p e R s m args below meth c H locs cells slots mc ms ls C h1 h2 h3 h4 hW hz hL hl)⟩
theorem ax_l2i {x : Int64} (hd : decode b pc = .ok (.l2i, 1))  (k : ax_X G l own b nL rt ini d r (pc + 1) lv (.int x.toInt32 :: st) sh μ) : ax_X G l own b nL rt ini d r pc lv (.long x :: st) sh μ :=
  ⟨k.1, fun p e R s m args below meth c H locs cells slots mc ms ls C h1 h2 h3 h4 hW hz hL hl => lv_l2i C.1 C.2.1 hd rfl (k.2 p e R s m args below meth c H locs cells slots mc ms ls C h1 h2 h3 h4 hW hz hL hl)⟩
theorem ax_i2b {x : Int32} (hd : decode b pc = .ok (.i2b, 1))  (k : ax_X G l own b nL rt ini d r (pc + 1) lv (.int x.toInt8.toInt32 :: st) sh μ) : ax_X G l own b nL rt ini d r pc lv (.int x :: st) sh μ :=
  ⟨k.1, fun p e R s m args below meth c H locs cells slots mc ms ls C h1 h2 h3 h4 hW hz hL hl => lv_i2b C.1 C.2.1 hd rfl (k.2 p e R s m args below meth c H locs cells slots mc ms ls C h1 h2 h3 h4 hW hz hL hl)⟩
theorem ax_i2s {x : Int32} (hd : decode b pc = .ok (.i2s, 1))  (k : ax_X G l own b nL rt ini d r (pc + 1) lv (.int x.toInt16.toInt32 :: st) sh μ) : ax_X G l own b nL rt ini d r pc lv (.int x :: st) sh μ :=
  ⟨k.1, fun p e R s m args below meth c H locs cells slots mc ms ls C h1 h2 h3 h4 hW hz hL hl => lv_i2s C.1 C.2.1 hd rfl (k.2 p e R s m args below meth c H locs cells slots mc ms ls C h1 h2 h3 h4 hW hz hL hl)⟩
theorem ax_i2c {x : Int32} (hd : decode b pc = .ok (.i2c, 1))  (k : ax_X G l own b nL rt ini d r (pc + 1) lv (.int (x.toUInt32 % 65536).toInt32 :: st) sh μ) : ax_X G l own b nL rt ini d r pc lv (.int x :: st) sh μ :=
  ⟨k.1, fun p e R s m args below meth c H locs cells slots mc ms ls C h1 h2 h3 h4 hW hz hL hl => lv_i2c C.1 C.2.1 hd rfl (k.2 p e R s m args below meth c H locs cells slots mc ms ls C h1 h2 h3 h4 hW hz hL hl)⟩
theorem ax_lshl {x : Int64} {y : Int32} (hd : decode b pc = .ok (.lshl, 1))  (k : ax_X G l own b nL rt ini d r (pc + 1) lv (.long (x <<< (y.toInt64 &&& 63)) :: st) sh μ) : ax_X G l own b nL rt ini d r pc lv (.int y :: .long x :: st) sh μ :=
  ⟨k.1, fun p e R s m args below meth c H locs cells slots mc ms ls C h1 h2 h3 h4 hW hz hL hl => lv_lshl C.1 C.2.1 hd rfl (k.2 p e R s m args below meth c H locs cells slots mc ms ls C h1 h2 h3 h4 hW hz hL hl)⟩
theorem ax_lcmp {x y : Int64} (hd : decode b pc = .ok (.lcmp, 1))  (k : ax_X G l own b nL rt ini d r (pc + 1) lv (.int (lg_cmp x y) :: st) sh μ) : ax_X G l own b nL rt ini d r pc lv (.long y :: .long x :: st) sh μ :=
  ⟨k.1, fun p e R s m args below meth c H locs cells slots mc ms ls C h1 h2 h3 h4 hW hz hL hl => W.lcmp C.1 C.2.1 hd (k.2 p e R s m args below meth c H locs cells slots mc ms ls C h1 h2 h3 h4 hW hz hL hl)⟩
theorem ax_dup {v : Value} (hd : decode b pc = .ok (.dup, 1)) (hv : v.category = 1) (k : ax_X G l own b nL rt ini d r (pc + 1) lv (v :: v :: st) sh μ) : ax_X G l own b nL rt ini d r pc lv (v :: st) sh μ :=
  ⟨k.1, fun p e R s m args below meth c H locs cells slots mc ms ls C h1 h2 h3 h4 hW hz hL hl => lv_dup C.1 C.2.1 hd hv (k.2 p e R s m args below meth c H locs cells slots mc ms ls C h1 h2 h3 h4 hW hz hL hl)⟩
theorem ax_pop {v : Value} (hd : decode b pc = .ok (.pop, 1)) (hv : v.category = 1) (k : ax_X G l own b nL rt ini d r (pc + 1) lv (st) sh μ) : ax_X G l own b nL rt ini d r pc lv (v :: st) sh μ :=
  ⟨k.1, fun p e R s m args below meth c H locs cells slots mc ms ls C h1 h2 h3 h4 hW hz hL hl => lv_pop C.1 C.2.1 hd hv (k.2 p e R s m args below meth c H locs cells slots mc ms ls C h1 h2 h3 h4 hW hz hL hl)⟩
theorem ax_dup_x1 {v u : Value} (hd : decode b pc = .ok (.dup_x1, 1)) (hv : v.category = 1) (hu : u.category = 1) (k : ax_X G l own b nL rt ini d r (pc + 1) lv (v :: u :: v :: st) sh μ) : ax_X G l own b nL rt ini d r pc lv (v :: u :: st) sh μ :=
  ⟨k.1, fun p e R s m args below meth c H locs cells slots mc ms ls C h1 h2 h3 h4 hW hz hL hl => lv_dup_x1 C.1 C.2.1 hd hv hu (k.2 p e R s m args below meth c H locs cells slots mc ms ls C h1 h2 h3 h4 hW hz hL hl)⟩
theorem ax_dup2 {v u : Value} (hd : decode b pc = .ok (.dup2, 1)) (hv : v.category = 1) (hu : u.category = 1) (k : ax_X G l own b nL rt ini d r (pc + 1) lv (v :: u :: v :: u :: st) sh μ) : ax_X G l own b nL rt ini d r pc lv (v :: u :: st) sh μ :=
  ⟨k.1, fun p e R s m args below meth c H locs cells slots mc ms ls C h1 h2 h3 h4 hW hz hL hl => lv_dup2_11 C.1 C.2.1 hd hv hu (k.2 p e R s m args below meth c H locs cells slots mc ms ls C h1 h2 h3 h4 hW hz hL hl)⟩
theorem ax_if_eq_t {x : Int32} {off : Int} {tgt : Nat} (hd : decode b pc = .ok (.ifCond .eq off, 3)) (ht : (pc : Int) + off = (tgt : Int)) (hc : x = 0) (k : ax_X G l own b nL rt ini d r tgt lv st sh μ) : ax_X G l own b nL rt ini d r pc lv (.int x :: st) sh μ :=
  ⟨k.1, fun p e R s m args below meth c H locs cells slots mc ms ls C h1 h2 h3 h4 hW hz hL hl => lv_if_eq C.1 C.2.1 hd ht (fun _ => k.2 p e R s m args below meth c H locs cells slots mc ms ls C h1 h2 h3 h4 hW hz hL hl) (fun q => absurd hc q)⟩
theorem ax_if_eq_f {x : Int32} {off : Int} {tgt : Nat} (hd : decode b pc = .ok (.ifCond .eq off, 3)) (ht : (pc : Int) + off = (tgt : Int)) (hc : ¬ (x = 0)) (k : ax_X G l own b nL rt ini d r (pc + 3) lv st sh μ) : ax_X G l own b nL rt ini d r pc lv (.int x :: st) sh μ :=
  ⟨k.1, fun p e R s m args below meth c H locs cells slots mc ms ls C h1 h2 h3 h4 hW hz hL hl => lv_if_eq C.1 C.2.1 hd ht (fun q => absurd q hc) (fun _ => k.2 p e R s m args below meth c H locs cells slots mc ms ls C h1 h2 h3 h4 hW hz hL hl)⟩
theorem ax_icmp_eq_t {x y : Int32} {off : Int} {tgt : Nat} (hd : decode b pc = .ok (.if_icmp .eq off, 3)) (ht : (pc : Int) + off = (tgt : Int)) (hc : x = y) (k : ax_X G l own b nL rt ini d r tgt lv st sh μ) : ax_X G l own b nL rt ini d r pc lv (.int y :: .int x :: st) sh μ :=
  ⟨k.1, fun p e R s m args below meth c H locs cells slots mc ms ls C h1 h2 h3 h4 hW hz hL hl => lv_icmp_eq C.1 C.2.1 hd ht (fun _ => k.2 p e R s m args below meth c H locs cells slots mc ms ls C h1 h2 h3 h4 hW hz hL hl) (fun q => absurd hc q)⟩
theorem ax_icmp_eq_f {x y : Int32} {off : Int} {tgt : Nat} (hd : decode b pc = .ok (.if_icmp .eq off, 3)) (ht : (pc : Int) + off = (tgt : Int)) (hc : ¬ (x = y)) (k : ax_X G l own b nL rt ini d r (pc + 3) lv st sh μ) : ax_X G l own b nL rt ini d r pc lv (.int y :: .int x :: st) sh μ :=
  ⟨k.1, fun p e R s m args below meth c H locs cells slots mc ms ls C h1 h2 h3 h4 hW hz hL hl => lv_icmp_eq C.1 C.2.1 hd ht (fun q => absurd q hc) (fun _ => k.2 p e R s m args below meth c H locs cells slots mc ms ls C h1 h2 h3 h4 hW hz hL hl)⟩
theorem ax_if_ne_t {x : Int32} {off : Int} {tgt : Nat} (hd : decode b pc = .ok (.ifCond .ne off, 3)) (ht : (pc : Int) + off = (tgt : Int)) (hc : ¬ x = 0) (k : ax_X G l own b nL rt ini d r tgt lv st sh μ) : ax_X G l own b nL rt ini d r pc lv (.int x :: st) sh μ :=
  ⟨k.1, fun p e R s m args below meth c H locs cells slots mc ms ls C h1 h2 h3 h4 hW hz hL hl => lv_if_ne C.1 C.2.1 hd ht (fun _ => k.2 p e R s m args below meth c H locs cells slots mc ms ls C h1 h2 h3 h4 hW hz hL hl) (fun q => absurd q hc)⟩
theorem ax_if_ne_f {x : Int32} {off : Int} {tgt : Nat} (hd : decode b pc = .ok (.ifCond .ne off, 3)) (ht : (pc : Int) + off = (tgt : Int)) (hc : ¬ (¬ x = 0)) (k : ax_X G l own b nL rt ini d r (pc + 3) lv st sh μ) : ax_X G l own b nL rt ini d r pc lv (.int x :: st) sh μ :=
  ⟨k.1, fun p e R s m args below meth c H locs cells slots mc ms ls C h1 h2 h3 h4 hW hz hL hl => lv_if_ne C.1 C.2.1 hd ht (fun q => absurd q hc) (fun _ => k.2 p e R s m args below meth c H locs cells slots mc ms ls C h1 h2 h3 h4 hW hz hL hl)⟩
theorem ax_icmp_ne_t {x y : Int32} {off : Int} {tgt : Nat} (hd : decode b pc = .ok (.if_icmp .ne off, 3)) (ht : (pc : Int) + off = (tgt : Int)) (hc : ¬ x = y) (k : ax_X G l own b nL rt ini d r tgt lv st sh μ) : ax_X G l own b nL rt ini d r pc lv (.int y :: .int x :: st) sh μ :=
  ⟨k.1, fun p e R s m args below meth c H locs cells slots mc ms ls C h1 h2 h3 h4 hW hz hL hl => lv_icmp_ne C.1 C.2.1 hd ht (fun _ => k.2 p e R s m args below meth c H locs cells slots mc ms ls C h1 h2 h3 h4 hW hz hL hl) (fun q => absurd q hc)⟩
theorem ax_icmp_ne_f {x y : Int32} {off : Int} {tgt : Nat} (hd : decode b pc = .ok (.if_icmp .ne off, 3)) (ht : (pc : Int) + off = (tgt : Int)) (hc : ¬ (¬ x = y)) (k : ax_X G l own b nL rt ini d r (pc + 3) lv st sh μ) : ax_X G l own b nL rt ini d r pc lv (.int y :: .int x :: st) sh μ :=
  ⟨k.1, fun p e R s m args below meth c H locs cells slots mc ms ls C h1 h2 h3 h4 hW hz hL hl => lv_icmp_ne C.1 C.2.1 hd ht (fun q => absurd q hc) (fun _ => k.2 p e R s m args below meth c H locs cells slots mc ms ls C h1 h2 h3 h4 hW hz hL hl)⟩
theorem ax_if_lt_t {x : Int32} {off : Int} {tgt : Nat} (hd : decode b pc = .ok (.ifCond .lt off, 3)) (ht : (pc : Int) + off = (tgt : Int)) (hc : x < 0) (k : ax_X G l own b nL rt ini d r tgt lv st sh μ) : ax_X G l own b nL rt ini d r pc lv (.int x :: st) sh μ :=
  ⟨k.1, fun p e R s m args below meth c H locs cells slots mc ms ls C h1 h2 h3 h4 hW hz hL hl => lv_if_lt C.1 C.2.1 hd ht (fun _ => k.2 p e R s m args below meth c H locs cells slots mc ms ls C h1 h2 h3 h4 hW hz hL hl) (fun q => absurd hc q)⟩
theorem ax_if_lt_f {x : Int32} {off : Int} {tgt : Nat} (hd : decode b pc = .ok (.ifCond .lt off, 3)) (ht : (pc : Int) + off = (tgt : Int)) (hc : ¬ (x < 0)) (k : ax_X G l own b nL rt ini d r (pc + 3) lv st sh μ) : ax_X G l own b nL rt ini d r pc lv (.int x :: st) sh μ :=
  ⟨k.1, fun p e R s m args below meth c H locs cells slots mc ms ls C h1 h2 h3 h4 hW hz hL hl => lv_if_lt C.1 C.2.1 hd ht (fun q => absurd q hc) (fun _ => k.2 p e R s m args below meth c H locs cells slots mc ms ls C h1 h2 h3 h4 hW hz hL hl)⟩
theorem ax_icmp_lt_t {x y : Int32} {off : Int} {tgt : Nat} (hd : decode b pc = .ok (.if_icmp .lt off, 3)) (ht : (pc : Int) + off = (tgt : Int)) (hc : x < y) (k : ax_X G l own b nL rt ini d r tgt lv st sh μ) : ax_X G l own b nL rt ini d r pc lv (.int y :: .int x :: st) sh μ :=
  ⟨k.1, fun p e R s m args below meth c H locs cells slots mc ms ls C h1 h2 h3 h4 hW hz hL hl => lv_icmp_lt C.1 C.2.1 hd ht (fun _ => k.2 p e R s m args below meth c H locs cells slots mc ms ls C h1 h2 h3 h4 hW hz hL hl) (fun q => absurd hc q)⟩
theorem ax_icmp_lt_f {x y : Int32} {off : Int} {tgt : Nat} (hd : decode b pc = .ok (.if_icmp .lt off, 3)) (ht : (pc : Int) + off = (tgt : Int)) (hc : ¬ (x < y)) (k : ax_X G l own b nL rt ini d r (pc + 3) lv st sh μ) : ax_X G l own b nL rt ini d r pc lv (.int y :: .int x :: st) sh μ :=
  ⟨k.1, fun p e R s m args below meth c H locs cells slots mc ms ls C h1 h2 h3 h4 hW hz hL hl => lv_icmp_lt C.1 C.2.1 hd ht (fun q => absurd q hc) (fun _ => k.2 p e R s m args below meth c H locs cells slots mc ms ls C h1 h2 h3 h4 hW hz hL hl)⟩
theorem ax_if_ge_t {x : Int32} {off : Int} {tgt : Nat} (hd : decode b pc = .ok (.ifCond .ge off, 3)) (ht : (pc : Int) + off = (tgt : Int)) (hc : 0 ≤ x) (k : ax_X G l own b nL rt ini d r tgt lv st sh μ) : ax_X G l own b nL rt ini d r pc lv (.int x :: st) sh μ :=
  ⟨k.1, fun p e R s m args below meth c H locs cells slots mc ms ls C h1 h2 h3 h4 hW hz hL hl => lv_if_ge C.1 C.2.1 hd ht (fun _ => k.2 p e R s m args below meth c H locs cells slots mc ms ls C h1 h2 h3 h4 hW hz hL hl) (fun q => absurd hc q)⟩
theorem ax_if_ge_f {x : Int32} {off : Int} {tgt : Nat} (hd : decode b pc = .ok (.ifCond .ge off, 3)) (ht : (pc : Int) + off = (tgt : Int)) (hc : ¬ (0 ≤ x)) (k : ax_X G l own b nL rt ini d r (pc + 3) lv st sh μ) : ax_X G l own b nL rt ini d r pc lv (.int x :: st) sh μ :=
  ⟨k.1, fun p e R s m args below meth c H locs cells slots mc ms ls C h1 h2 h3 h4 hW hz hL hl => lv_if_ge C.1 C.2.1 hd ht (fun q => absurd q hc) (fun _ => k.2 p e R s m args below meth c H locs cells slots mc ms ls C h1 h2 h3 h4 hW hz hL hl)⟩
theorem ax_icmp_ge_t {x y : Int32} {off : Int} {tgt : Nat} (hd : decode b pc = .ok (.if_icmp .ge off, 3)) (ht : (pc : Int) + off = (tgt : Int)) (hc : y ≤ x) (k : ax_X G l own b nL rt ini d r tgt lv st sh μ) : ax_X G l own b nL rt ini d r pc lv (.int y :: .int x :: st) sh μ :=
  ⟨k.1, fun p e R s m args below meth c H locs cells slots mc ms ls C h1 h2 h3 h4 hW hz hL hl => lv_icmp_ge C.1 C.2.1 hd ht (fun _ => k.2 p e R s m args below meth c H locs cells slots mc ms ls C h1 h2 h3 h4 hW hz hL hl) (fun q => absurd hc q)⟩
theorem ax_icmp_ge_f {x y : Int32} {off : Int} {tgt : Nat} (hd : decode b pc = .ok (.if_icmp .ge off, 3)) (ht : (pc : Int) + off = (tgt : Int)) (hc : ¬ (y ≤ x)) (k : ax_X G l own b nL rt ini d r (pc + 3) lv st sh μ) : ax_X G l own b nL rt ini d r pc lv (.int y :: .int x :: st) sh μ :=
  ⟨k.1, fun p e R s m args below meth c H locs cells slots mc ms ls C h1 h2 h3 h4 hW hz hL hl => lv_icmp_ge C.1 C.2.1 hd ht (fun q => absurd q hc) (fun _ => k.2 p e R s m args below meth c H locs cells slots mc ms ls C h1 h2 h3 h4 hW hz hL hl)⟩
theorem ax_if_gt_t {x : Int32} {off : Int} {tgt : Nat} (hd : decode b pc = .ok (.ifCond .gt off, 3)) (ht : (pc : Int) + off = (tgt : Int)) (hc : 0 < x) (k : ax_X G l own b nL rt ini d r tgt lv st sh μ) : ax_X G l own b nL rt ini d r pc lv (.int x :: st) sh μ :=
  ⟨k.1, fun p e R s m args below meth c H locs cells slots mc ms ls C h1 h2 h3 h4 hW hz hL hl => lv_if_gt C.1 C.2.1 hd ht (fun _ => k.2 p e R s m args below meth c H locs cells slots mc ms ls C h1 h2 h3 h4 hW hz hL hl) (fun q => absurd hc q)⟩
theorem ax_if_gt_f {x : Int32} {off : Int} {tgt : Nat} (hd : decode b pc = .ok (.ifCond .gt off, 3)) (ht : (pc : Int) + off = (tgt : Int)) (hc : ¬ (0 < x)) (k : ax_X G l own b nL rt ini d r (pc + 3) lv st sh μ) : ax_X G l own b nL rt ini d r pc lv (.int x :: st) sh μ :=
  ⟨k.1, fun p e R s m args below meth c H locs cells slots mc ms ls C h1 h2 h3 h4 hW hz hL hl => lv_if_gt C.1 C.2.1 hd ht (fun q => absurd q hc) (fun _ => k.2 p e R s m args below meth c H locs cells slots mc ms ls C h1 h2 h3 h4 hW hz hL hl)⟩
theorem ax_icmp_gt_t {x y : Int32} {off : Int} {tgt : Nat} (hd : decode b pc = .ok (.if_icmp .gt off, 3)) (ht : (pc : Int) + off = (tgt : Int)) (hc : y < x) (k : ax_X G l own b nL rt ini d r tgt lv st sh μ) : ax_X G l own b nL rt ini d r pc lv (.int y :: .int x :: st) sh μ :=
  ⟨k.1, fun p e R s m args below meth c H locs cells slots mc ms ls C h1 h2 h3 h4 hW hz hL hl => lv_icmp_gt C.1 C.2.1 hd ht (fun _ => k.2 p e R s m args below meth c H locs cells slots mc ms ls C h1 h2 h3 h4 hW hz hL hl) (fun q => absurd hc q)⟩
theorem ax_icmp_gt_f {x y : Int32} {off : Int} {tgt : Nat} (hd : decode b pc = .ok (.if_icmp .gt off, 3)) (ht : (pc : Int) + off = (tgt : Int)) (hc : ¬ (y < x)) (k : ax_X G l own b nL rt ini d r (pc + 3) lv st sh μ) : ax_X G l own b nL rt ini d r pc lv (.int y :: .int x :: st) sh μ :=
  ⟨k.1, fun p e R s m args below meth c H locs cells slots mc ms ls C h1 h2 h3 h4 hW hz hL hl => lv_icmp_gt C.1 C.2.1 hd ht (fun q => absurd q hc) (fun _ => k.2 p e R s m args below meth c H locs cells slots mc ms ls C h1 h2 h3 h4 hW hz hL hl)⟩
theorem ax_if_le_t {x : Int32} {off : Int} {tgt : Nat} (hd : decode b pc = .ok (.ifCond .le off, 3)) (ht : (pc : Int) + off = (tgt : Int)) (hc : x ≤ 0) (k : ax_X G l own b nL rt ini d r tgt lv st sh μ) : ax_X G l own b nL rt ini d r pc lv (.int x :: st) sh μ :=
  ⟨k.1, fun p e R s m args below meth c H locs cells slots mc ms ls C h1 h2 h3 h4 hW hz hL hl => lv_if_le C.1 C.2.1 hd ht (fun _ => k.2 p e R s m args below meth c H locs cells slots mc ms ls C h1 h2 h3 h4 hW hz hL hl) (fun q => absurd hc q)⟩
theorem ax_if_le_f {x : Int32} {off : Int} {tgt : Nat} (hd : decode b pc = .ok (.ifCond .le off, 3)) (ht : (pc : Int) + off = (tgt : Int)) (hc : ¬ (x ≤ 0)) (k : ax_X G l own b nL rt ini d r (pc + 3) lv st sh μ) : ax_X G l own b nL rt ini d r pc lv (.int x :: st) sh μ :=
  ⟨k.1, fun p e R s m args below meth c H locs cells slots mc ms ls C h1 h2 h3 h4 hW hz hL hl => lv_if_le C.1 C.2.1 hd ht (fun q => absurd q hc) (fun _ => k.2 p e R s m args below meth c H locs cells slots mc ms ls C h1 h2 h3 h4 hW hz hL hl)⟩
theorem ax_icmp_le_t {x y : Int32} {off : Int} {tgt : Nat} (hd : decode b pc = .ok (.if_icmp .le off, 3)) (ht : (pc : Int) + off = (tgt : Int)) (hc : x ≤ y) (k : ax_X G l own b nL rt ini d r tgt lv st sh μ) : ax_X G l own b nL rt ini d r pc lv (.int y :: .int x :: st) sh μ :=
  ⟨k.1, fun p e R s m args below meth c H locs cells slots mc ms ls C h1 h2 h3 h4 hW hz hL hl => lv_icmp_le C.1 C.2.1 hd ht (fun _ => k.2 p e R s m args below meth c H locs cells slots mc ms ls C h1 h2 h3 h4 hW hz hL hl) (fun q => absurd hc q)⟩
theorem ax_icmp_le_f {x y : Int32} {off : Int} {tgt : Nat} (hd : decode b pc = .ok (.if_icmp .le off, 3)) (ht : (pc : Int) + off = (tgt : Int)) (hc : ¬ (x ≤ y)) (k : ax_X G l own b nL rt ini d r (pc + 3) lv st sh μ) : ax_X G l own b nL rt ini d r pc lv (.int y :: .int x :: st) sh μ :=
  ⟨k.1, fun p e R s m args below meth c H locs cells slots mc ms ls C h1 h2 h3 h4 hW hz hL hl => lv_icmp_le C.1 C.2.1 hd ht (fun q => absurd q hc) (fun _ => k.2 p e R s m args below meth c H locs cells slots mc ms ls C h1 h2 h3 h4 hW hz hL hl)⟩
theorem ax_goto {off : Int} {tgt : Nat} (hd : decode b pc = .ok (.goto off, 3)) (ht : (pc : Int) + off = (tgt : Int)) (k : ax_X G l own b nL rt ini d r tgt lv st sh μ) : ax_X G l own b nL rt ini d r pc lv st sh μ :=
  ⟨k.1, fun p e R s m args below meth c H locs cells slots mc ms ls C h1 h2 h3 h4 hW hz hL hl => lv_goto C.1 C.2.1 hd ht (k.2 p e R s m args below meth c H locs cells slots mc ms ls C h1 h2 h3 h4 hW hz hL hl)⟩
theorem ax_tab {dflt lo hi : Int} {offs : Array Int} {len : Nat} {x : Int32} {off : Int} {tgt : Nat} (hd : decode b pc = .ok (.tableswitch dflt lo hi offs, len)) (h1 : ¬ x.toInt < lo) (h2 : ¬ hi < x.toInt) (ho : offs[(x.toInt - lo).toNat]? = some off) (ht : (pc : Int) + off = (tgt : Int)) (k : ax_X G l own b nL rt ini d r tgt lv st sh μ) : ax_X G l own b nL rt ini d r pc lv (.int x :: st) sh μ :=
  ⟨k.1, fun p e R s m args below meth c H locs cells slots mc ms ls C g1 g2 g3 g4 hW hz hL hl => lv_tableIn C.1 C.2.1 hd h1 h2 ho ht (k.2 p e R s m args below meth c H locs cells slots mc ms ls C g1 g2 g3 g4 hW hz hL hl)⟩
theorem ax_tabD {dflt lo hi : Int} {offs : Array Int} {len : Nat} {x : Int32} {tgt : Nat} (hd : decode b pc = .ok (.tableswitch dflt lo hi offs, len)) (h : x.toInt < lo ∨ hi < x.toInt) (ht : (pc : Int) + dflt = (tgt : Int)) (k : ax_X G l own b nL rt ini d r tgt lv st sh μ) : ax_X G l own b nL rt ini d r pc lv (.int x :: st) sh μ :=
  ⟨k.1, fun p e R s m args below meth c H locs cells slots mc ms ls C g1 g2 g3 g4 hW hz hL hl => lv_tableOut C.1 C.2.1 hd h ht (k.2 p e R s m args below meth c H locs cells slots mc ms ls C g1 g2 g3 g4 hW hz hL hl)⟩
theorem ax_look {dflt : Int} {ps : Array (Int × Int)} {len : Nat} {x : Int32} {off : Int} {tgt : Nat} (hd : decode b pc = .ok (.lookupswitch dflt ps, len)) (hp : (ps.toList.zip (ps.toList.drop 1)).all (fun (a, next) => a.1 < next.1) = true) (ho : Op.lookupswitch.offset ps.toList dflt x.toInt = off) (ht : (pc : Int) + off = (tgt : Int)) (k : ax_X G l own b nL rt ini d r tgt lv st sh μ) : ax_X G l own b nL rt ini d r pc lv (.int x :: st) sh μ :=
  ⟨k.1, fun p e R s m args below meth c H locs cells slots mc ms ls C g1 g2 g3 g4 hW hz hL hl => lv_lookup C.1 C.2.1 hd hp ho ht (k.2 p e R s m args below meth c H locs cells slots mc ms ls C g1 g2 g3 g4 hW hz hL hl)⟩
/-- fewer locals told -/
theorem ax_sub (ks : List Nat) (hl' : lv_pick lv ks = lv') (k : ax_X G l own b nL rt ini d r pc lv' st sh μ) : ax_X G l own b nL rt ini d r pc lv st sh μ :=
  ⟨k.1, fun p e R s m args below meth c H locs cells slots mc ms ls C g1 g2 g3 g4 hW hz hL hl => k.2 p e R s m args below meth c H locs cells slots mc ms ls C g1 g2 g3 g4 hW hz hL (lv_sub hl ks hl')⟩
theorem ax_one {k : Nat} {e0 : ax_E} {H : Heap} (h : ax_H G sh μ H) (he : sh[k]? = some e0) : va_P G.2.1 vwCl [(G.1 + k, ax_en G μ k e0)] H := by
  intro i q hq
  match i, hq with
  | 0, hq => cases hq; exact h.2 k e0 he
  | i + 1, hq => simp at hq
theorem ax_getf {idx ci j k : Nat} {fs : List (Option (Option Nat))} {f : Option (Option Nat)} (hd : decode b pc = .ok (.getfield idx, 3)) (hf : ax_FL own idx ci j) (he : sh[k]? = some (.inl (ci, fs))) (hv : fs[j]? = some f) (kk : ax_X G l own b nL rt ini d r (pc + 3) lv (ax_fv G.1 μ k j f :: st) sh μ) : ax_X G l own b nL rt ini d r pc lv (.ref (G.1 + k) :: st) sh μ := by
  refine ⟨kk.1, fun p e R s m args below meth c H locs cells slots mc ms ls C h1 h2 h3 h4 hW hz hL hl => ?_⟩
  obtain ⟨⟨C0, T, N⟩, hc, hj, hlink, hin⟩ := hf
  exact va_get (C := C0) (T := T) (N := N) C.1 C.2.1 C.2.2.2.2.2.2.2.1 hin C.2.2.2.2.2.2.1 hW.2.1 (ax_one hW.1 he) 0 rfl hc j hj (C.2.2.2.2.2.2.2.1 _ hlink) (fun _ h => h) (ax_fs_get hv) hd (kk.2 p e R s m args below meth c H locs cells slots mc ms ls C h1 h2 h3 h4 hW hz hL hl)
theorem ax_getI {idx ci j k : Nat} {fs : List (Option (Option Nat))} (hd : decode b pc = .ok (.getfield idx, 3)) (hf : ax_FL own idx ci j) (he : sh[k]? = some (.inl (ci, fs))) (hv : fs[j]? = some none) (kk : ax_X G l own b nL rt ini d r (pc + 3) lv (.int (μ k j) :: st) sh μ) : ax_X G l own b nL rt ini d r pc lv (.ref (G.1 + k) :: st) sh μ := ax_getf hd hf he hv kk
theorem ax_getR {idx ci j k q : Nat} {fs : List (Option (Option Nat))} (hd : decode b pc = .ok (.getfield idx, 3)) (hf : ax_FL own idx ci j) (he : sh[k]? = some (.inl (ci, fs))) (hv : fs[j]? = some (some (some q))) (kk : ax_X G l own b nL rt ini d r (pc + 3) lv (.ref (G.1 + q) :: st) sh μ) : ax_X G l own b nL rt ini d r pc lv (.ref (G.1 + k) :: st) sh μ := ax_getf hd hf he hv kk
theorem ax_putI {idx ci j k : Nat} {fs : List (Option (Option Nat))} {t : Nat → FieldType} {x : Int32} (hd : decode b pc = .ok (.putfield idx, 3)) (hf : ax_FL own idx ci j) (ht : ax_FT ci t) (he : sh[k]? = some (.inl (ci, fs))) (hv : fs[j]? = some none) (hfin : ∀ r : vw_C, vwCl[ci]? = some r → (r.2.1 j).2.2.2 = false) (hn : narrow (t j) (.int x) = .int x) (hfit : fits (t j) (.int x) = true) (kk : ax_X G l own b nL rt ini d r (pc + 3) lv st sh (ax_w μ k j x)) : ax_X G l own b nL rt ini d r pc lv (.int x :: .ref (G.1 + k) :: st) sh μ := by
  refine ⟨kk.1, fun p e R s m args below meth c H locs cells slots mc ms ls C h1 h2 h3 h4 hW hz hL hl => ?_⟩
  obtain ⟨⟨C0, T, N⟩, hc, hj, hlink, hin⟩ := hf
  obtain ⟨r', hc', hty, hnm⟩ := ht
  cases hc.symm.trans hc'
  have hts := C.2.2.2.2.2.2.2.1
  have hown := C.2.2.2.2.2.2.1
  have hap := va_apart (own := own) hts hin t hty hnm hW.2.1 hc
  obtain ⟨r1, g1, cell, q1, q2, q3, q4⟩ := hW.1.2 k _ he
  cases g1.symm.trans hc
  obtain ⟨hS, hfc, kC, hkC, hkind⟩ := hW.2.1.1 ci _ hc
  obtain ⟨cf, kf, fi, f, hi, hsl⟩ := hS j hj
  have hlay := hts _ (hin _ (u_in_lay hj))
  unfold u_lay at hlay
  rw [if_neg (by rw [hfin _ hc]; decide)] at hlay
  have hst := (u_facts hfc hkC (u_lays hts hin hj) hi).1
  have h6 := u_store hfc hkC hkind hlay hi (hty j hj) hn hfit
  refine W.putK C.1 C.2.1 (f := f) ⟨hown, hts _ hlink, ⟨_, _, _, hi⟩, hst⟩ (by rw [q2]; exact h6) q1 q3 (by rw [hsl]; exact k2_hasslot (q4 j hj)) rfl rfl hd fun H' e1 e2 e3 => ?_
  rw [hsl] at e1 ⊢
  have hlen : j < (ax_fs G.1 μ k fs).length := by rw [show (ax_fs G.1 μ k fs).length = fs.length by simp [ax_fs]]; exact (List.getElem?_eq_some_iff.mp hv).1
  have hkeep : ∀ q, q < G.1 → H'[q]? = H[q]? := fun q hq => e3 q (fun z => by rw [z] at hq; exact absurd hq (Nat.not_lt.mpr (Nat.le_add_right _ _)))
  refine kk.2 p e R s m args below meth c H' _ cells slots mc ms ls C h1 h2 h3 h4 ⟨ax_upd hW.1 he e2 e3 ?_ ?_, hW.2.1, hW.2.2.kept hkeep⟩ (fun q hq => (hkeep q hq).trans (hz q hq)) ?_ hl
  · refine ⟨_, hc, t_OB.to (V := updV (vp_V (ax_fs G.1 μ k fs)) j (.int x)) ⟨_, e1, q2, q3, t_set q4 hap hj _⟩ (fun i hi' => ?_)⟩
    by_cases hij : i = j
    · subst hij
      simp only [updV, if_true, vp_V]
      rw [List.getD_eq_getElem?_getD, ax_fs_get hv]
      simp [ax_fv, ax_w]
    · simp only [updV, if_neg hij, vp_V, List.getD_eq_getElem?_getD]
      unfold ax_fs
      rw [List.getElem?_mapIdx, List.getElem?_mapIdx]
      cases hx : fs[i]? with
      | none => rfl
      | some f1 =>
        cases f1 with
        | none => simp [ax_fv, ax_w, hij]
        | some f2 => cases f2 <;> rfl
  · exact fun k' e' hk' _ => ax_en_congr (ax_w_ne hk')
  · intro q hq
    rcases List.mem_append.mp hq with h | h
    · exact hL q h
    · rw [List.mem_singleton.mp h]
      exact Nat.le_add_right _ _
theorem ax_en1 (G : ax_G) (μ : ax_M) (k t n : Nat) : ax_en G μ k (.inr (.inl (t, n))) = .inl (G.2.2.1 t, (n, .inl (μ k))) := rfl
theorem ax_putR {idx ci j k q : Nat} {fs fs' : List (Option (Option Nat))} {t : Nat → FieldType} {f0 : Option Nat} {sh' : List ax_E} (hd : decode b pc = .ok (.putfield idx, 3)) (hf : ax_FL own idx ci j) (ht : ax_FT ci t) (he : sh[k]? = some (.inl (ci, fs))) (hv : fs[j]? = some (some f0)) (hini : ini = true) (hfin : ∀ r : vw_C, vwCl[ci]? = some r → (r.2.1 j).2.2.2 = true ∧ (r.2.1 j).1 = own) (hn : narrow (t j) (.ref (G.1 + q)) = .ref (G.1 + q)) (hfit : fits (t j) (.ref (G.1 + q)) = true) (hfs : fs.set j (some (some q)) = fs') (hsh : sh.set k (.inl (ci, fs')) = sh') (kk : ax_X G l own b nL rt ini d r (pc + 3) lv st sh' μ) : ax_X G l own b nL rt ini d r pc lv (.ref (G.1 + q) :: .ref (G.1 + k) :: st) sh μ := by
  subst hfs
  subst hsh
  have hlsh : (sh.set k (.inl (ci, fs.set j (some (some q))))).length = sh.length := List.length_set
  have hsl0 : ax_sl (sh.set k (.inl (ci, fs.set j (some (some q))))) = ax_sl sh := by
    unfold ax_sl
    rw [List.map_set, show ax_e1 (.inl (ci, fs.set j (some (some q)))) = ax_e1 (.inl (ci, fs)) from List.length_set]
    congr 1
    apply List.ext_getElem?
    intro i
    rw [List.getElem?_set, List.length_map]
    by_cases hik : k = i
    · subst hik
      have hlt := (List.getElem?_eq_some_iff.mp he).1
      rw [if_pos rfl, if_pos hlt, List.getElem?_map, he]
      rfl
    · rw [if_neg hik]
  have kk1 := kk.1
  rw [hlsh, hsl0] at kk1
  refine ⟨kk1, fun p e R s m args below meth c H locs cells slots mc ms ls C h1 h2 h3 h4 hW hz hL hl => ?_⟩
  obtain ⟨⟨C0, T, N⟩, hc, hj, hlink, hin⟩ := hf
  obtain ⟨r', hc', hty, hnm⟩ := ht
  cases hc.symm.trans hc'
  have hts := C.2.2.2.2.2.2.2.1
  have hown := C.2.2.2.2.2.2.1
  have hap := va_apart (own := own) hts hin t hty hnm hW.2.1 hc
  obtain ⟨r1, g1, cell, q1, q2, q3, q4⟩ := hW.1.2 k _ he
  cases g1.symm.trans hc
  obtain ⟨hS, hfc, kC, hkC, hkind⟩ := hW.2.1.1 ci _ hc
  obtain ⟨cf, kf, fi, f, hi, hsl⟩ := hS j hj
  have hlay := hts _ (hin _ (u_in_lay hj))
  unfold u_lay at hlay
  rw [if_pos (hfin _ hc).1] at hlay
  have hst := (u_facts hfc hkC (u_lays hts hin hj) hi).1
  have hcf : m.cls = cf := by
    obtain ⟨_, _, c', _, _, _, -, -, hf', -, -, -, hown2, -⟩ := Cond.laysFinal_spec hlay
    have e1 : c' = cf := by have := hi.symm.trans hf'; simp at this; exact this.1.symm
    rw [(hfin _ hc).2] at hown2
    rw [← e1]; exact Option.some.inj (hown.symm.trans hown2)
  have h6 := u_fits hfc hkC hkind (Or.inr hlay) hi (hty j hj) hn hfit
  refine W.putFinK C.1 C.2.1 hown (hts _ hlink) hi hst hcf (C.2.2.2.2.2.1 hini) (by rw [q2]; exact h6) q1 q3 (by rw [hsl]; exact k2_hasslot (q4 j hj)) rfl rfl hd fun H' e1 e2 e3 => ?_
  rw [hsl] at e1 ⊢
  have hkeep : ∀ q, q < G.1 → H'[q]? = H[q]? := fun q hq => e3 q (fun z => by rw [z] at hq; exact absurd hq (Nat.not_lt.mpr (Nat.le_add_right _ _)))
  refine kk.2 p e R s m args below meth c H' _ cells slots mc ms ls C h1 h2 (by rw [hlsh]; exact h3) (by rw [hsl0]; exact h4) ⟨⟨by rw [hlsh]; exact e2.trans hW.1.1, fun k' e' he' => ?_⟩, hW.2.1, hW.2.2.kept hkeep⟩ (fun q hq => (hkeep q hq).trans (hz q hq)) ?_ hl
  · rw [List.getElem?_set] at he'
    by_cases hk : k = k'
    · subst hk
      rw [if_pos rfl, if_pos (List.getElem?_eq_some_iff.mp he).1] at he'
      cases he'
      refine ⟨_, hc, t_OB.to (V := updV (vp_V (ax_fs G.1 μ k fs)) j (.ref (G.1 + q))) ⟨_, e1, q2, q3, t_set q4 hap hj _⟩ (fun i hi' => ?_)⟩
      have hjl := (List.getElem?_eq_some_iff.mp hv).1
      by_cases hij : i = j
      · subst hij
        simp only [updV, if_true, vp_V]
        rw [List.getD_eq_getElem?_getD, ax_fs_get (f := some (some q)) (by rw [List.getElem?_set, if_pos rfl, if_pos hjl])]
        rfl
      · simp only [updV, if_neg hij, vp_V, List.getD_eq_getElem?_getD]
        unfold ax_fs
        rw [List.getElem?_mapIdx, List.getElem?_mapIdx, List.getElem?_set, if_neg (fun z => hij z.symm)]
    · rw [if_neg hk] at he'
      exact (hW.1.2 k' e' he').kept (e3 _ (fun z => hk (Nat.add_left_cancel z).symm))
  · intro q hq
    rcases List.mem_append.mp hq with h | h
    · exact hL q h
    · rw [List.mem_singleton.mp h]
      exact Nat.le_add_right _ _
theorem ax_iald {k n : Nat} {i : Int32} (hd : decode b pc = .ok (.iaload, 1)) (he : sh[k]? = some (.inr (.inl (0, n)))) (hi : vp_in i n) (kk : ax_X G l own b nL rt ini d r (pc + 1) lv (.int (μ k i.toNatClampNeg) :: st) sh μ) : ax_X G l own b nL rt ini d r pc lv (.int i :: .ref (G.1 + k) :: st) sh μ :=
  ⟨kk.1, fun p e R s m args below meth c H locs cells slots mc ms ls C h1 h2 h3 h4 hW hz hL hl => va_iald C.1 C.2.1 hW.2.1 (ax_one hW.1 he) 0 0 rfl rfl hi hd (kk.2 p e R s m args below meth c H locs cells slots mc ms ls C h1 h2 h3 h4 hW hz hL hl)⟩
theorem ax_zald {k n : Nat} {i : Int32} (hd : decode b pc = .ok (.baload, 1)) (he : sh[k]? = some (.inr (.inl (1, n)))) (hi : vp_in i n) (kk : ax_X G l own b nL rt ini d r (pc + 1) lv (.int (μ k i.toNatClampNeg) :: st) sh μ) : ax_X G l own b nL rt ini d r pc lv (.int i :: .ref (G.1 + k) :: st) sh μ :=
  ⟨kk.1, fun p e R s m args below meth c H locs cells slots mc ms ls C h1 h2 h3 h4 hW hz hL hl => va_zald C.1 C.2.1 hW.2.1 (ax_one hW.1 he) 0 1 rfl rfl hi hd (kk.2 p e R s m args below meth c H locs cells slots mc ms ls C h1 h2 h3 h4 hW hz hL hl)⟩
theorem ax_alen {k t n : Nat} {v : Int32} (hd : decode b pc = .ok (.arraylength, 1)) (he : sh[k]? = some (.inr (.inl (t, n)))) (htt : t < 2) (hv : Int32.ofNat n = v) (kk : ax_X G l own b nL rt ini d r (pc + 1) lv (.int v :: st) sh μ) : ax_X G l own b nL rt ini d r pc lv (.ref (G.1 + k) :: st) sh μ := by
  refine ⟨kk.1, fun p e R s m args below meth c H locs cells slots mc ms ls C h1 h2 h3 h4 hW hz hL hl => ?_⟩
  match t, htt, he with
  | 0, _, he => exact va_alen C.1 C.2.1 hW.2.1 (ax_one hW.1 he) 0 0 rfl rfl hv hd (kk.2 p e R s m args below meth c H locs cells slots mc ms ls C h1 h2 h3 h4 hW hz hL hl)
  | 1, _, he => exact va_alen C.1 C.2.1 hW.2.1 (ax_one hW.1 he) 0 1 rfl rfl hv hd (kk.2 p e R s m args below meth c H locs cells slots mc ms ls C h1 h2 h3 h4 hW hz hL hl)
theorem ax_aald {k b0 n : Nat} {i : Int32} (hd : decode b pc = .ok (.aaload, 1)) (he : sh[k]? = some (.inr (.inr (b0, n)))) (hi : vp_in i n) (kk : ax_X G l own b nL rt ini d r (pc + 1) lv (.ref (G.1 + (b0 + i.toNatClampNeg)) :: st) sh μ) : ax_X G l own b nL rt ini d r pc lv (.int i :: .ref (G.1 + k) :: st) sh μ := by
  refine ⟨kk.1, fun p e R s m args below meth c H locs cells slots mc ms ls C h1 h2 h3 h4 hW hz hL hl => ?_⟩
  have hlt : i.toNatClampNeg < n := Nat.not_le.mp fun q => hi (Or.inr q)
  have hc := hW.1.2 k _ he
  refine W.aald (v := .ref (G.1 + (b0 + i.toNatClampNeg))) (ty := .array .int) C.1 C.2.1 hc ((hW.2.1.2 2 _ rfl).1 n _) rfl (fun q => by cases q) (by show ¬ (i < 0 ∨ (arrV _ _ _).slots.size ≤ _); rw [arrV_size]; exact hi) (by show (arrV _ _ _).slots[_]? = _; rw [arrV_read _ _ hlt]; simp [hlt, va_rf]) rfl rfl hd (kk.2 p e R s m args below meth c H locs cells slots mc ms ls C h1 h2 h3 h4 hW hz hL hl)
theorem ax_iast {k n : Nat} {i x : Int32} (hd : decode b pc = .ok (.iastore, 1)) (he : sh[k]? = some (.inr (.inl (0, n)))) (hi : vp_in i n) (kk : ax_X G l own b nL rt ini d r (pc + 1) lv st sh (ax_w μ k i.toNatClampNeg x)) : ax_X G l own b nL rt ini d r pc lv (.int x :: .int i :: .ref (G.1 + k) :: st) sh μ := by
  refine ⟨kk.1, fun p e R s m args below meth c H locs cells slots mc ms ls C h1 h2 h3 h4 hW hz hL hl => ?_⟩
  have hc := hW.1.2 k _ he
  refine W.iast C.1 C.2.1 hc ((hW.2.1.2 0 _ rfl).1 n (fun j => .int (μ k j))) (fun q => by cases q) (by show ¬ (i < 0 ∨ (arrV _ _ _).slots.size ≤ _); rw [arrV_size]; exact hi) rfl rfl hd fun H1 e1 e2 e3 => ?_
  have hkeep : ∀ q, q < G.1 → H1[q]? = H[q]? := fun q hq => e3 q (fun z => by rw [z] at hq; exact absurd hq (Nat.not_lt.mpr (Nat.le_add_right _ _)))
  refine kk.2 p e R s m args below meth c H1 _ cells slots mc ms ls C h1 h2 h3 h4 ⟨ax_upd hW.1 he e2 e3 ?_ (fun k' e' hk' _ => ax_en_congr (ax_w_ne hk')), hW.2.1, hW.2.2.kept hkeep⟩ (fun q hq => (hkeep q hq).trans (hz q hq)) (fun q hq => ?_) hl
  · show H1[_]? = some (vp_cell _ _)
    rw [e1, ax_w_eq, vp_cell_i, vp_cell_i, arrV_store]
    congr 2
    funext q
    by_cases hq : q = i.toNatClampNeg
    · subst hq
      simp [updV, upd]
    · simp [updV, upd, hq]
  · rcases List.mem_append.mp hq with h | h
    · exact hL q h
    · rw [List.mem_singleton.mp h]
      exact Nat.le_add_right _ _
theorem ax_zast {k n : Nat} {i x : Int32} (hd : decode b pc = .ok (.bastore, 1)) (he : sh[k]? = some (.inr (.inl (1, n)))) (hi : vp_in i n) (kk : ax_X G l own b nL rt ini d r (pc + 1) lv st sh (ax_w μ k i.toNatClampNeg (vp_nar .boolean x))) : ax_X G l own b nL rt ini d r pc lv (.int x :: .int i :: .ref (G.1 + k) :: st) sh μ := by
  refine ⟨kk.1, fun p e R s m args below meth c H locs cells slots mc ms ls C h1 h2 h3 h4 hW hz hL hl => ?_⟩
  have hc := hW.1.2 k _ he
  refine W.zast C.1 C.2.1 hc ((hW.2.1.2 1 _ rfl).1 n (fun j => .int (μ k j))) (fun q => by cases q) (by show ¬ (i < 0 ∨ (arrV _ _ _).slots.size ≤ _); rw [arrV_size]; exact hi) rfl rfl hd fun H1 e1 e2 e3 => ?_
  have hkeep : ∀ q, q < G.1 → H1[q]? = H[q]? := fun q hq => e3 q (fun z => by rw [z] at hq; exact absurd hq (Nat.not_lt.mpr (Nat.le_add_right _ _)))
  refine kk.2 p e R s m args below meth c H1 _ cells slots mc ms ls C h1 h2 h3 h4 ⟨ax_upd hW.1 he e2 e3 ?_ (fun k' e' hk' _ => ax_en_congr (ax_w_ne hk')), hW.2.1, hW.2.2.kept hkeep⟩ (fun q hq => (hkeep q hq).trans (hz q hq)) (fun q hq => ?_) hl
  · show H1[_]? = some (vp_cell _ _)
    rw [e1, ax_w_eq, vp_cell_i, vp_cell_i, arrV_store]
    congr 2
    funext q
    by_cases hq : q = i.toNatClampNeg
    · subst hq
      simp [updV, upd, vp_nar, narrow]
    · simp [updV, upd, hq]
  · rcases List.mem_append.mp hq with h | h
    · exact hL q h
    · rw [List.mem_singleton.mp h]
      exact Nat.le_add_right _ _
/-- ends -/
theorem ax_ireti {x : Int32} (hd : decode b pc = .ok (.ireturn, 1)) (hrt : ∃ ty, rt = some ty ∧ narrow ty (.int x) = .int x) (hr : r = (some (.int x), sh, μ)) : ax_X G l own b nL rt ini d r pc lv [.int x] sh μ := by
  subst hr
  refine ⟨⟨Nat.le_refl _, Nat.le_refl _⟩, fun p e R s m args below meth c H locs cells slots mc ms ls C h1 h2 h3 h4 hW hz hL hl => ?_⟩
  obtain ⟨ty, rfl, hn⟩ := hrt
  obtain rfl : mc = cells := by dsimp only at h3; omega
  obtain rfl : ms = slots := by dsimp only at h4; omega
  exact W.zret C.1 C.2.1 C.2.2.2.1 hn (fun t ht hWt => ⟨rfl, by rw [ht]; exact hW.1, fun q hq => by rw [ht]; exact hz q hq⟩) hL hd C.2.2.2.2.1
theorem ax_lret {x : Int64} (hd : decode b pc = .ok (.lreturn, 1)) (hrt : rt = some .long) (hr : r = (some (.long x), sh, μ)) : ax_X G l own b nL rt ini d r pc lv [.long x] sh μ := by
  subst hr
  subst hrt
  refine ⟨⟨Nat.le_refl _, Nat.le_refl _⟩, fun p e R s m args below meth c H locs cells slots mc ms ls C h1 h2 h3 h4 hW hz hL hl => ?_⟩
  obtain rfl : mc = cells := by dsimp only at h3; omega
  obtain rfl : ms = slots := by dsimp only at h4; omega
  exact W.lret C.1 C.2.1 C.2.2.2.1 (fun t ht hWt => ⟨rfl, by rw [ht]; exact hW.1, fun q hq => by rw [ht]; exact hz q hq⟩) hL hd C.2.2.2.2.1
theorem ax_vret (hd : decode b pc = .ok (.return_, 1)) (hrt : rt = none) (hr : r = (none, sh, μ)) : ax_X G l own b nL rt ini d r pc lv [] sh μ := by
  subst hr
  subst hrt
  refine ⟨⟨Nat.le_refl _, Nat.le_refl _⟩, fun p e R s m args below meth c H locs cells slots mc ms ls C h1 h2 h3 h4 hW hz hL hl => ?_⟩
  obtain rfl : mc = cells := by dsimp only at h3; omega
  obtain rfl : ms = slots := by dsimp only at h4; omega
  exact W.vret C.1 C.2.1 C.2.2.2.1 (fun t ht hWt => ⟨rfl, by rw [ht]; exact hW.1, fun q hq => by rw [ht]; exact hz q hq⟩) hL hd C.2.2.2.2.1
theorem ax_aret {x : Nat} {nm : String} (hd : decode b pc = .ok (.areturn, 1)) (hrt : rt = some (.object nm)) (hr : r = (some (.ref x), sh, μ)) : ax_X G l own b nL rt ini d r pc lv [.ref x] sh μ := by
  subst hr
  subst hrt
  refine ⟨⟨Nat.le_refl _, Nat.le_refl _⟩, fun p e R s m args below meth c H locs cells slots mc ms ls C h1 h2 h3 h4 hW hz hL hl => ?_⟩
  obtain rfl : mc = cells := by dsimp only at h3; omega
  obtain rfl : ms = slots := by dsimp only at h4; omega
  exact W.aret C.1 C.2.1 C.2.2.2.1 (Or.inl ⟨nm, rfl⟩) (Or.inr ⟨x, rfl⟩) (fun t ht hWt => ⟨rfl, by rw [ht]; exact hW.1, fun q hq => by rw [ht]; exact hz q hq⟩) hL hd C.2.2.2.2.1
theorem ax_ldcS {idx i : Nat} {q : String × Nat × String × List Int32} (hd : decode b pc = .ok (.ldc idx, 2)) (hq : ax_strs[i]? = some q) (ho : q.1 = own) (hi : q.2.1 = idx) (kk : ax_X G l own b nL rt ini d r (pc + 2) lv (.ref (G.2.2.2.1 i) :: st) sh μ) : ax_X G l own b nL rt ini d r pc lv st sh μ := by
  refine ⟨kk.1, fun p e R s m args below meth c H locs cells slots mc ms ls C h1 h2 h3 h4 hW hz hL hl => ?_⟩
  subst ho
  subst hi
  exact va_ldcS C.1 C.2.1 C.2.2.2.2.2.2.1 (hW.2.2.2.1 i q hq) hd (kk.2 p e R s m args below meth c H locs cells slots mc ms ls C h1 h2 h3 h4 hW hz hL hl)
/-- calls -/
theorem ax_blind {args0 : List Value} : FrameBlind (va_Pc args0 (fun U => ax_W G sh μ U U.heap)) := fun a U g mk h => by
  obtain ⟨h0, h1, h2, hs, hr, hz1, ⟨v, h4, h5⟩, h6, h7, h8, h9⟩ := h
  exact ⟨h0, h1, va_K.moved (u := U) (U := U.calling g mk a) (Vm.Alike.refl U.vm) h2, hs.moved (u := U) (U := U.calling g mk a) (Vm.Alike.refl U.vm), fun i q hq => vk_R.same (u := U) (U := U.calling g mk a) rfl (hr i q hq), va_Z.moved (u := U) (U := U.calling g mk a) (Vm.Alike.refl U.vm) hz1, ⟨v, h4, va_Z.moved (u := U) (U := U.calling g mk a) (Vm.Alike.refl U.vm) h5⟩, fun q hq => va_Nw.same (u := U) (U := U.calling g mk a) rfl rfl (h6 q hq), Jvm.Stand.arrayOver_alikeB (s := U) (U := U.calling g mk a) (Vm.Alike.refl U.vm) h7, va_X.moved (u := U) (U := U.calling g mk a) (Vm.Alike.refl U.vm) h8, h9⟩
theorem ax_pre {s U : State} {H : Heap} {As : List Value} (hW : ax_W G sh μ s H) (hU : U.heap = H) (hw : s.WarmedH U.vm) : va_Pc As (fun U => ax_W G sh μ U U.heap) As.toArray U := ⟨rfl, by rw [hU]; exact hW.1, va_K.moved hw.alike hW.2.1, by rw [hU]; exact hW.2.2.moved hw⟩
theorem ax_good {y : MethodName} {b' : ByteArray} {nL' : Nat} {rt' : Option FieldType} (hc : Cond.code y b' nL' rt' ∈ ax_T) : GoodIn ax_T (.code y b' nL' rt' :: ax_T) := fun w hw => by
  have h : w ∈ ax_T := (List.mem_cons.mp hw).elim (fun e => e ▸ hc) id
  exact ⟨h, good_of_word (List.mem_filter.mp h).2⟩
/-- what is known behind a call -/
theorem ax_back {y : MethodName} {b' : ByteArray} {nL' : Nat} {rt' : Option FieldType} {d' : Nat} {As : List Value} {r' : ax_R} {rest st0 : List Value} (hA : sh.length ≤ r'.2.1.length ∧ ax_sl sh ≤ ax_sl r'.2.1) (kk : ax_X G l own b nL rt ini d r (pc + 3) lv (r'.1.toList ++ rest) r'.2.1 r'.2.2)
    {p : Program} {e : Env} {R : Room} {s : State} {m : MethodId} {args : Array Value} {below : List Frame} {meth : Method} {c : Code} {H : Heap} {locs : List Loc} {cells slots mc ms : Nat} {ls : Array Slot} (C : ax_C own b nL rt ini d p R s m args meth c) (h1 : mc ≤ R.cells) (h2 : ms ≤ R.slots) (h3 : cells + r.2.1.length = mc + sh.length) (h4 : slots + ax_sl r.2.1 = ms + ax_sl sh) (hW : ax_W G sh μ s H) (hz : ∀ q, q < G.1 → H[q]? = s.heap[q]?) (hL : ∀ q ∈ locs, G.1 ≤ q.base) (hl : lv_has ls nL lv) {a : Array Value}
    (hr : va_Run p l e R s m args below meth c H locs cells slots (r'.2.1.length - sh.length) (ax_sl r'.2.1 - ax_sl sh) (F0 m pc ls st0) rest (ax_Q G r' a) (fun q => G.1 ≤ q)) : W p l e R s m args below meth c H locs cells slots (MQ below (ax_Q G r) args s mc ms (fun q => G.1 ≤ q)) (F0 m pc ls st0) := by
  intro T hT X
  obtain ⟨v, st₀, t, T', L, h0, X', hL', e1, e2, ⟨hv, hH, hk⟩, sx⟩ := hr T hT X
  have hv' : v = r'.1 := by cases hv; rfl
  subst hv'
  have hw : s.WarmedH T'.vm := X'.warmed
  have k1 := kk.1
  have hkz : ∀ q, q < G.1 → T'.heap[q]? = H[q]? := fun q hq => by rw [e1, hk q hq, h0]
  obtain ⟨t2, a1, b1⟩ := kk.2 p e R s m args below meth c T'.heap (locs ++ L) _ _ mc ms ls C h1 h2 (by omega) (by omega) ⟨by rw [e1]; exact hH, hW.2.1, hW.2.2.kept hkz⟩ (fun q hq => (hkz q hq).trans (hz q hq)) (fun q hq => (List.mem_append.mp hq).elim (hL q) (hL' q)) hl T' rfl X'
  exact ⟨t2, sx t2 a1, b1⟩
theorem ax_callV {idx ci k n : Nat} {y : MethodName} {b' : ByteArray} {nL' : Nat} {rt' : Option FieldType} {d' : Nat} {As : List Value} {r' : ax_R} {rest : List Value} {fs : List (Option (Option Nat))} {st0 : List Value} (hd : decode b pc = .ok (.invokevirtual idx, 3)) (hA : ax_A G l y b' nL' rt' d' (.ref (G.1 + k) :: As) sh μ r')
    (hw : Cond.code y b' nL' rt' ∈ ax_T ∧ Cond.methodLink own idx y ∈ ax_T ∧ Cond.instanceMethod y ∈ ax_T ∧ Cond.selects y.cls y y ∈ ax_T ∧ Cond.initialized y.cls ∈ ax_T)
    (hy : y.cls ≠ "java/lang/invoke/MethodHandle" ∧ y.cls ≠ "java/lang/invoke/VarHandle" ∧ (parseMethodDescriptor y.desc).map (fun d => d.parameters.length) = some n)
    (he : sh[k]? = some (.inl (ci, fs))) (hcl : ∀ q : vw_C, vwCl[ci]? = some q → q.1 = y.cls) (hci : ci < vwCl.length) (hst : st0 = As.reverse ++ .ref (G.1 + k) :: rest) (hn : As.length = n) (hd' : d' + 1 ≤ d) (hnL : nL' ≤ 21) (hcat : (rest.map fun v => v.category).sum ≤ 8) (kk : ax_X G l own b nL rt ini d r (pc + 3) lv (r'.1.toList ++ rest) r'.2.1 r'.2.2) : ax_X G l own b nL rt ini d r pc lv st0 sh μ := by
  refine ⟨⟨Nat.le_trans hA.1.1 kk.1.1, Nat.le_trans hA.1.2 kk.1.2⟩, fun p e R s m args below meth c H locs cells slots mc ms ls C h1 h2 h3 h4 hW hz hL hl => ?_⟩
  have hA1 := hA.1
  have k1 := kk.1
  have hts := C.2.2.2.2.2.2.2.1
  have hfr := C.2.2.2.2.2.2.2.2.1
  have hlo := C.2.2.2.2.2.2.2.2.2
  have hgood := ax_good hw.1
  subst hst
  have hq : vwCl[ci]? = some vwCl[ci] := List.getElem?_eq_getElem hci
  refine ax_back (y := y) (b' := b') (nL' := nL') (rt' := rt') (d' := d') (As := As) (r' := r') hA.1 kk C h1 h2 h3 h4 hW hz hL hl (va_runV (C := y.cls) (n := n) (Ts := ax_T) ⟨C.1, C.2.1, C.2.2.1, C.2.2.2.2.2.2.1, hts⟩ hA.2 ⟨callB_of (Ts := ax_T) (ws' := ax_T) n hts hgood rfl rfl rfl (hts _ hw.2.2.2.2) (hts _ hw.2.1) hy ⟨by show d' + 1 ≤ _; omega, by show 8 + (nL' + 11) + 40 * d' ≤ _; omega⟩, hts _ hw.2.2.1, hts _ hw.2.2.2.1⟩ ⟨ax_blind, ?_, fun U hU hWU => ax_pre hW hU hWU⟩ rfl hn hl.1 rfl (by show 2 * 0 + _ ≤ 8; omega) hd ⟨by omega, by omega⟩)
  have hrc := va_recv hW.2.1 (ax_one hW.1 he) (q0 := 0) (ci := ci) hq rfl
  rw [hcl _ hq] at hrc
  exact hrc
theorem ax_callS {idx n : Nat} {y : MethodName} {b' : ByteArray} {nL' : Nat} {rt' : Option FieldType} {d' : Nat} {As : List Value} {r' : ax_R} {rest : List Value} {st0 : List Value} (hd : decode b pc = .ok (.invokestatic idx, 3)) (hA : ax_A G l y b' nL' rt' d' As sh μ r')
    (hw : Cond.code y b' nL' rt' ∈ ax_T ∧ Cond.methodLink own idx y ∈ ax_T ∧ Cond.static y ∈ ax_T ∧ Cond.initialized y.cls ∈ ax_T)
    (hy : y.cls ≠ "java/lang/invoke/MethodHandle" ∧ y.cls ≠ "java/lang/invoke/VarHandle" ∧ (parseMethodDescriptor y.desc).map (fun d => d.parameters.length) = some n)
    (hst : st0 = As.reverse ++ rest) (hn : As.length = n) (hd' : d' + 1 ≤ d) (hnL : nL' ≤ 21) (hcat : (rest.map fun v => v.category).sum ≤ 8) (kk : ax_X G l own b nL rt ini d r (pc + 3) lv (r'.1.toList ++ rest) r'.2.1 r'.2.2) : ax_X G l own b nL rt ini d r pc lv st0 sh μ := by
  refine ⟨⟨Nat.le_trans hA.1.1 kk.1.1, Nat.le_trans hA.1.2 kk.1.2⟩, fun p e R s m args below meth c H locs cells slots mc ms ls C h1 h2 h3 h4 hW hz hL hl => ?_⟩
  have hA1 := hA.1
  have k1 := kk.1
  have hts := C.2.2.2.2.2.2.2.1
  have hfr := C.2.2.2.2.2.2.2.2.1
  have hlo := C.2.2.2.2.2.2.2.2.2
  have hgood := ax_good hw.1
  subst hst
  exact ax_back (y := y) (b' := b') (nL' := nL') (rt' := rt') (d' := d') (As := As) (r' := r') hA.1 kk C h1 h2 h3 h4 hW hz hL hl (va_runS (n := n) (Ts := ax_T) ⟨C.1, C.2.1, C.2.2.1, C.2.2.2.2.2.2.1, hts⟩ hA.2 ⟨callB_of (Ts := ax_T) (ws' := ax_T) n hts hgood rfl rfl rfl (hts _ hw.2.2.2) (hts _ hw.2.1) hy ⟨by show d' + 1 ≤ _; omega, by show 8 + (nL' + 11) + 40 * d' ≤ _; omega⟩, hts _ hw.2.2.1⟩ ⟨ax_blind, fun U hU hWU => ax_pre hW hU hWU⟩ rfl hn hl.1 rfl (by show 2 * 0 + _ ≤ 8; omega) hd ⟨by omega, by omega⟩)

theorem ax_objInit {idx k : Nat} (hd : decode b pc = .ok (.invokespecial idx, 3)) (hw : Cond.methodLink own idx Lib.objectInit ∈ ax_T ∧ Cond.instanceMethod Lib.objectInit ∈ ax_T ∧ Cond.code Lib.objectInit ⟨#[0xb1]⟩ 1 none ∈ ax_T) (hd1 : 1 ≤ d) (hcat : (st.map fun v => v.category).sum ≤ 8) (kk : ax_X G l own b nL rt ini d r (pc + 3) lv st sh μ) : ax_X G l own b nL rt ini d r pc lv (.ref k :: st) sh μ := by
  refine ⟨kk.1, fun p e R s m args below meth c H locs cells slots mc ms ls C h1 h2 h3 h4 hW hz hL hl => ?_⟩
  have hts := C.2.2.2.2.2.2.2.1
  have hfr := C.2.2.2.2.2.2.2.2.1
  have hlo := C.2.2.2.2.2.2.2.2.2
  exact W.objInit C.1 C.2.1 C.2.2.2.2.2.2.1 (hts _ hw.1) (hts _ hw.2.1) (hts _ hw.2.2) rfl (by rw [C.2.2.1]; exact hl.1) rfl hd (by omega) (by show 2 * 0 + _ + 12 ≤ _; omega) (kk.2 p e R s m args below meth c H locs cells slots mc ms ls C h1 h2 h3 h4 hW hz hL hl)
theorem ax_slapp {e0 : ax_E} : ax_sl (sh ++ [e0]) = ax_sl sh + ax_e1 e0 := by unfold ax_sl; simp
theorem ax_Happ {e0 : ax_E} {μ' : ax_M} {H H' : Heap} (h : ax_H G sh μ H) (h1 : H'.size = H.size + 1) (h2 : ∀ q, q < H.size → H'[q]? = H[q]?) (h3 : ∀ (k : Nat) (j : Nat), k < sh.length → μ' k j = μ k j) (h4 : va_at G.2.1 vwCl (G.1 + sh.length, ax_en G μ' sh.length e0) H') : ax_H G (sh ++ [e0]) μ' H' := by
  refine ⟨by rw [h1, h.1, List.length_append]; rfl, fun k e hk => ?_⟩
  by_cases hl : k < sh.length
  · rw [List.getElem?_append_left hl] at hk
    rw [ax_en_congr (fun j => h3 k j hl)]
    exact (h.2 k e hk).kept (h2 _ (by rw [h.1]; exact Nat.add_lt_add_left hl _))
  · rw [List.getElem?_append_right (Nat.not_lt.mp hl)] at hk
    have h0 : k - sh.length < 1 := (List.getElem?_eq_some_iff.mp hk).1
    have hk0 : k = sh.length := by omega
    subst hk0
    rw [Nat.sub_self] at hk
    cases hk
    exact h4
theorem ax_z_ne {k k' : Nat} (h : k' ≠ k) (j : Nat) : ax_z μ k k' j = μ k' j := by simp [ax_z, h]
theorem ax_new {idx ci k : Nat} {C0 : String} {T : u_T} {N : Nat} {t : Nat → FieldType} {fs : List (Option (Option Nat))} {sh' : List ax_E} (hd : decode b pc = .ok (.new idx, 3)) (hc : vwCl[ci]? = some (C0, T, N)) (hw : Cond.classLink own idx C0 ∈ ax_T ∧ Cond.instantiable C0 N ∈ ax_T ∧ Cond.initialized C0 ∈ ax_T) (hin : ∀ w ∈ u_ws C0 T N, w ∈ ax_T) (ht : ∀ k, k < N → parseFieldDescriptor (T k).2.2.1 = some (t k)) (hfs : (List.range N).map (fun j => defaultValue (t j)) = ax_fs 0 (fun _ _ => 0) 0 fs) (hnn : fs.all (fun f => f = none ∨ f = some none) = true) (hk : sh.length = k) (hsh : sh ++ [.inl (ci, fs)] = sh') (kk : ax_X G l own b nL rt ini d r (pc + 3) lv (.ref (G.1 + k) :: st) sh' (ax_z μ k)) : ax_X G l own b nL rt ini d r pc lv st sh μ := by
  subst hk
  subst hsh
  have hlen : N = fs.length := by
    have := congrArg List.length hfs
    simpa [ax_fs] using this
  have k1 := kk.1
  rw [ax_slapp, List.length_append] at k1
  have k11 : sh.length + 1 ≤ r.2.1.length := k1.1
  have k12 : ax_sl sh + fs.length ≤ ax_sl r.2.1 := k1.2
  refine ⟨⟨by omega, by omega⟩, fun p e R s m args below meth c H locs cells slots mc ms ls C h1 h2 h3 h4 hW hz hL hl => ?_⟩
  have hts := C.2.2.2.2.2.2.2.1
  have hKn := hW.2.1.1 ci _ hc
  refine W.newcK C.1 C.2.1 C.2.2.2.2.2.2.1 (hts _ hw.1) (hts _ hw.2.1) (hts _ hw.2.2) rfl hd (by omega) (by omega) hKn.2.1 hW.1.1 fun H1 kC hkC e1 z1 o1 => ?_
  have hsz := hW.1.1
  have hkeep : ∀ q, q < G.1 → H1[q]? = H[q]? := fun q hq => o1 q (by omega)
  refine kk.2 p e R s m args below meth c H1 locs _ _ mc ms ls C h1 h2 (by rw [List.length_append]; show cells + 1 + _ = _ + (_ + 1); omega) (by rw [ax_slapp]; show slots + N + _ = _ + (_ + fs.length); omega) ⟨ax_Happ hW.1 (by rw [hsz]; exact z1) (fun q hq => o1 q (by omega)) (fun k' j hk' => ax_z_ne (Nat.ne_of_lt hk') j) ?_, hW.2.1, hW.2.2.kept hkeep⟩ (fun q hq => (hkeep q hq).trans (hz q hq)) hL hl
  refine ⟨_, hc, (u_born t hts hin hKn hkC e1 ht).to (fun j hj => ?_)⟩
  have h5 : ((List.range N).map (fun j => defaultValue (t j)))[j]? = (ax_fs 0 (fun _ _ => 0) 0 fs)[j]? := by rw [hfs]
  rw [List.getElem?_map, List.getElem?_range hj] at h5
  simp only [vp_V, List.getD_eq_getElem?_getD]
  have hj2 : j < fs.length := by omega
  have h6 : (ax_fs G.1 (ax_z μ sh.length) sh.length fs)[j]? = (ax_fs 0 (fun _ _ => 0) 0 fs)[j]? := by
    unfold ax_fs
    rw [List.getElem?_mapIdx, List.getElem?_mapIdx]
    have h7 := List.all_eq_true.mp hnn fs[j] (List.getElem_mem hj2)
    rw [List.getElem?_eq_getElem hj2]
    rcases (by simpa using h7 : fs[j] = none ∨ fs[j] = some none) with h8 | h8 <;> rw [h8]
    · simp [ax_fv, ax_z]
    · rfl
  rw [h6, ← h5]
  rfl
theorem ax_newa {k t N : Nat} {at' : ArrayType} {n : Int32} {sh' : List ax_E} (hd : decode b pc = .ok (.newarray at', 2)) (ht : (t = 0 ∧ at' = .int) ∨ (t = 1 ∧ at' = .boolean)) (hn : ¬ n < 0) (hN : n.toNatClampNeg = N) (hb : N ≤ 100000000) (hw : Cond.arrayClass (newarray.typeOf at') ∈ ax_T) (hk : sh.length = k) (hsh : sh ++ [.inr (.inl (t, N))] = sh') (kk : ax_X G l own b nL rt ini d r (pc + 2) lv (.ref (G.1 + k) :: st) sh' (ax_z μ k)) : ax_X G l own b nL rt ini d r pc lv (.int n :: st) sh μ := by
  subst hk
  subst hsh
  have k1 := kk.1
  rw [ax_slapp, List.length_append] at k1
  have k11 : sh.length + 1 ≤ r.2.1.length := k1.1
  have k12 : ax_sl sh + N ≤ ax_sl r.2.1 := k1.2
  refine ⟨⟨by omega, by omega⟩, fun p e R s m args below meth c H locs cells slots mc ms ls C h1 h2 h3 h4 hW hz hL hl => ?_⟩
  have hts := C.2.2.2.2.2.2.2.1
  have hsz := hW.1.1
  have hcb : componentBytes (newarray.typeOf at') ≤ 4 := by rcases ht with ⟨-, rfl⟩ | ⟨-, rfl⟩ <;> decide
  have hmul : N * componentBytes (newarray.typeOf at') ≤ N * 4 := Nat.mul_le_mul_left _ hcb
  refine va_newaK (N := N) C.1 C.2.1 (hts _ hw) rfl hd rfl hn hN (by omega) (by omega) (by omega) hsz fun H1 cA e1 z1 o1 hAr hNm => ?_
  have hkeep : ∀ q, q < G.1 → H1[q]? = H[q]? := fun q hq => o1 q (by omega)
  refine kk.2 p e R s m args below meth c H1 locs _ _ mc ms ls C h1 h2 (by rw [List.length_append]; show cells + 1 + _ = _ + (_ + 1); omega) (by rw [ax_slapp]; show slots + N + _ = _ + (_ + N); omega) ⟨ax_Happ hW.1 (by rw [hsz]; exact z1) (fun q hq => o1 q (by omega)) (fun k' j hk' => ax_z_ne (Nat.ne_of_lt hk') j) ?_, hW.2.1, hW.2.2.kept hkeep⟩ (fun q hq => (hkeep q hq).trans (hz q hq)) hL hl
  show H1[_]? = some (vp_cell _ _)
  rw [e1, vp_cell_i]
  have hz0 : (fun j => Value.int (ax_z μ sh.length sh.length j)) = (fun _ => Value.int 0) := by funext j; simp [ax_z]
  rw [hz0]
  rcases ht with ⟨rfl, rfl⟩ | ⟨rfl, rfl⟩
  · have h9 := (hW.2.1.2 0 _ rfl).2
    cases Option.some.inj (hNm.symm.trans h9)
    rfl
  · have h9 := (hW.2.1.2 1 _ rfl).2
    cases Option.some.inj (hNm.symm.trans h9)
    rfl
theorem ax_cpw {a sp b0 dp n : Nat} : ax_cp μ a sp b0 dp n b0 = va_cpy (μ a) (μ b0) sp dp n := by funext i; simp [ax_cp]
theorem ax_copy {idx ka kb na nb : Nat} {sp dp n : Int32} (hd : decode b pc = .ok (.invokestatic idx, 3)) (hw : Cond.methodLink own idx arraycopyName ∈ ax_T ∧ Cond.native arraycopyName ∈ ax_T ∧ Cond.static arraycopyName ∈ ax_T ∧ Cond.initialized "java/lang/System" ∈ ax_T) (hea : sh[ka]? = some (.inr (.inl (0, na)))) (heb : sh[kb]? = some (.inr (.inl (0, nb)))) (g1 : ¬ sp < 0) (g2 : ¬ dp < 0) (g3 : ¬ n < 0) (g4 : sp.toNatClampNeg + n.toNatClampNeg ≤ na) (g5 : dp.toNatClampNeg + n.toNatClampNeg ≤ nb) (hd1 : 2 ≤ d) (hcat : (st.map fun v => v.category).sum ≤ 8)
    (kk : ax_X G l own b nL rt ini d r (pc + 3) lv st sh (ax_cp μ ka sp.toNatClampNeg kb dp.toNatClampNeg n.toNatClampNeg)) : ax_X G l own b nL rt ini d r pc lv (.int n :: .int dp :: .ref (G.1 + kb) :: .int sp :: .ref (G.1 + ka) :: st) sh μ := by
  refine ⟨kk.1, fun p e R s m args below meth c H locs cells slots mc ms ls C h1 h2 h3 h4 hW hz hL hl => ?_⟩
  have hts := C.2.2.2.2.2.2.2.1
  have hfr := C.2.2.2.2.2.2.2.2.1
  have hlo := C.2.2.2.2.2.2.2.2.2
  have nn : ∀ z : Int32, ¬ z < 0 → z.toInt = (z.toNatClampNeg : Int) := by
    intro z hz
    have hz0 : (0 : Int) ≤ z.toInt := by
      have := Int32.not_lt.mp hz
      simpa using Int32.le_iff_toInt_le.mp this
    show z.toInt = ((z.toInt.toNat : Nat) : Int)
    omega
  intro T hT X
  have hc0 : H[G.1 + ka]? = some (vp_cell (G.2.2.1 0) (na, .inl (μ ka))) := hW.1.2 ka _ hea
  have hc1 : H[G.1 + kb]? = some (vp_cell (G.2.2.1 0) (nb, .inl (μ kb))) := hW.1.2 kb _ heb
  obtain ⟨-, k0, hk0, cm0, hkk0⟩ := (hW.2.1.2 0 _ rfl).1 na (fun j => .int (μ ka j))
  obtain ⟨-, k1, hk1, cm1, hkk1⟩ := (hW.2.1.2 0 _ rfl).1 nb (fun j => .int (μ kb j))
  obtain ⟨vm', X', step⟩ := X.arraycopy C.1 C.2.2.2.2.2.2.1 (hts _ hw.1) (hts _ hw.2.1) (hts _ hw.2.2.1) (hts _ hw.2.2.2) (src := G.1 + ka) (dst := G.1 + kb) (cs := vp_cell (G.2.2.1 0) (na, .inl (μ ka))) (cd := vp_cell (G.2.2.1 0) (nb, .inl (μ kb))) (srcPos := sp) (destPos := dp) (n := n) (by rw [hT]; exact hc0) (by rw [hT]; exact hc1)
    (fun _ h => by cases h) (fun _ h => by cases h) (fun h => by cases h) (fun h => by cases h) hk0 hk1 hkk0 hkk1 (by simp [refKind]) g1 g2 g3
    (by rw [nn sp g1, nn n g3]; show ¬ _ > ((arrV (G.2.2.1 0) na (fun j => .int (μ ka j))).slots.size : Int); rw [arrV_size]; omega)
    (by rw [nn dp g2, nn n g3]; show ¬ _ > ((arrV (G.2.2.1 0) nb (fun j => .int (μ kb j))).slots.size : Int); rw [arrV_size]; omega)
    (fun vm₁ _ i hi => by
      have e : (vp_cell (G.2.2.1 0) (na, .inl (μ ka))).slots.getD (sp.toNatClampNeg + i) .null = .int (μ ka (sp.toNatClampNeg + i)) := by
        show (arrV (G.2.2.1 0) na (fun j => .int (μ ka j))).slots.getD _ _ = _
        rw [Array.getD_eq_getD_getElem?, arrV_read _ _ (by omega)]
        rfl
      refine ⟨?_, ?_⟩
      · rw [e]
        rfl
      · rw [e]
        exact trivial)
    (g := F0 m pc ls (.int n :: .int dp :: .ref (G.1 + kb) :: .int sp :: .ref (G.1 + ka) :: st)) rfl (by rw [C.2.2.1]; exact hl.1) (rest := st) rfl (by rw [C.2.1]; exact hd) (by omega) (by show 2 * 0 + _ + (nativeFrameWords "java/lang/System" "arraycopy" 5 + 11) ≤ _; rw [show nativeFrameWords "java/lang/System" "arraycopy" 5 = 7 from by decide +kernel]; omega)
  have e1 : copied (vp_cell (G.2.2.1 0) (na, .inl (μ ka))) (vp_cell (G.2.2.1 0) (nb, .inl (μ kb))) sp dp n = vp_cell (G.2.2.1 0) (nb, .inl (va_cpy (μ ka) (μ kb) sp.toNatClampNeg dp.toNatClampNeg n.toNatClampNeg)) := va_copied (fun z => .int z) _ _ (μ ka) (μ kb) g4
  rw [e1] at X' step
  have hheap : ((T.setVm vm').setCell (G.1 + kb) (vp_cell (G.2.2.1 0) (nb, .inl (va_cpy (μ ka) (μ kb) sp.toNatClampNeg dp.toNatClampNeg n.toNatClampNeg)))).heap = H.setIfInBounds (G.1 + kb) (vp_cell (G.2.2.1 0) (nb, .inl (va_cpy (μ ka) (μ kb) sp.toNatClampNeg dp.toNatClampNeg n.toNatClampNeg))) := by rw [← hT]; rfl
  have hlt : G.1 + kb < H.size := (Array.getElem?_eq_some_iff.mp hc1).1
  have oq : ∀ q : Nat, q ≠ G.1 + kb → (H.setIfInBounds (G.1 + kb) (vp_cell (G.2.2.1 0) (nb, .inl (va_cpy (μ ka) (μ kb) sp.toNatClampNeg dp.toNatClampNeg n.toNatClampNeg))))[q]? = H[q]? := fun q hq => by simp [Array.getElem?_setIfInBounds, Ne.symm hq]
  have hkeep : ∀ q, q < G.1 → (H.setIfInBounds (G.1 + kb) (vp_cell (G.2.2.1 0) (nb, .inl (va_cpy (μ ka) (μ kb) sp.toNatClampNeg dp.toNatClampNeg n.toNatClampNeg))))[q]? = H[q]? := fun q hq => oq q (by omega)
  obtain ⟨t, a1, b1⟩ := kk.2 p e R s m args below meth c _ _ cells slots mc ms ls C h1 h2 h3 h4 ⟨ax_upd hW.1 heb (by simp) oq (by
      show _ = some (vp_cell _ _)
      rw [ax_cpw]
      simp [Array.getElem?_setIfInBounds, hlt]) (fun k' e' hk' _ => ax_en_congr (fun j => by simp [ax_cp, hk'])), hW.2.1, hW.2.2.kept hkeep⟩ (fun q hq => (hkeep q hq).trans (hz q hq)) (fun q hq => by
      rcases List.mem_append.mp hq with h | h
      · exact hL q h
      · obtain ⟨z, -, hz⟩ := List.mem_map.mp h
        rw [← hz]
        exact Nat.le_add_right _ _) hl _ hheap X'
  exact ⟨t, step t a1, b1⟩
theorem ax_max {idx : Nat} {x y : Int32} (hd : decode b pc = .ok (.invokestatic idx, 3)) (hw : Cond.methodLink own idx Lib.Math.max.name ∈ ax_T ∧ Cond.static Lib.Math.max.name ∈ ax_T ∧ Cond.initialized "java/lang/Math" ∈ ax_T ∧ Cond.code Lib.Math.max.name Lib.Math.max.code 2 (some .int) ∈ ax_T) (hd1 : 1 ≤ d) (hcat : (st.map fun v => v.category).sum ≤ 8) (kk : ax_X G l own b nL rt ini d r (pc + 3) lv (.int (if x < y then y else x) :: st) sh μ) : ax_X G l own b nL rt ini d r pc lv (.int y :: .int x :: st) sh μ := by
  refine ⟨kk.1, fun p e R s m args below meth c H locs cells slots mc ms ls C h1 h2 h3 h4 hW hz hL hl => ?_⟩
  have hts := C.2.2.2.2.2.2.2.1
  have hfr := C.2.2.2.2.2.2.2.2.1
  have hlo := C.2.2.2.2.2.2.2.2.2
  have k1 := kk.1
  exact va_mmax C.1 C.2.1 (by rw [C.2.2.1]; exact hl.1.symm) C.2.2.2.2.2.2.1 (hts _ hw.1) (hts _ hw.2.1) (hts _ hw.2.2.1) (hts _ hw.2.2.2) (by omega) (by omega) (by omega) (by omega) hd (kk.2 p e R s m args below meth c H locs cells slots mc ms ls C h1 h2 h3 h4 hW hz hL hl)
theorem ax_min {idx : Nat} {x y : Int32} (hd : decode b pc = .ok (.invokestatic idx, 3)) (hw : Cond.methodLink own idx Lib.Math.min.name ∈ ax_T ∧ Cond.static Lib.Math.min.name ∈ ax_T ∧ Cond.initialized "java/lang/Math" ∈ ax_T ∧ Cond.code Lib.Math.min.name Lib.Math.min.code 2 (some .int) ∈ ax_T) (hd1 : 1 ≤ d) (hcat : (st.map fun v => v.category).sum ≤ 8) (kk : ax_X G l own b nL rt ini d r (pc + 3) lv (.int (if y < x then y else x) :: st) sh μ) : ax_X G l own b nL rt ini d r pc lv (.int y :: .int x :: st) sh μ := by
  refine ⟨kk.1, fun p e R s m args below meth c H locs cells slots mc ms ls C h1 h2 h3 h4 hW hz hL hl => ?_⟩
  have hts := C.2.2.2.2.2.2.2.1
  have hfr := C.2.2.2.2.2.2.2.2.1
  have hlo := C.2.2.2.2.2.2.2.2.2
  have k1 := kk.1
  exact va_mmin C.1 C.2.1 (by rw [C.2.2.1]; exact hl.1.symm) C.2.2.2.2.2.2.1 (hts _ hw.1) (hts _ hw.2.1) (hts _ hw.2.2.1) (hts _ hw.2.2.2) (by omega) (by omega) (by omega) (by omega) hd (kk.2 p e R s m args below meth c H locs cells slots mc ms ls C h1 h2 h3 h4 hW hz hL hl)
theorem ax_abs {idx : Nat} {x : Int32} (hd : decode b pc = .ok (.invokestatic idx, 3)) (hw : Cond.methodLink own idx Lib.Math.abs.name ∈ ax_T ∧ Cond.static Lib.Math.abs.name ∈ ax_T ∧ Cond.initialized "java/lang/Math" ∈ ax_T ∧ Cond.code Lib.Math.abs.name Lib.Math.abs.code 1 (some .int) ∈ ax_T) (hd1 : 1 ≤ d) (hcat : (st.map fun v => v.category).sum ≤ 8) (kk : ax_X G l own b nL rt ini d r (pc + 3) lv (.int (if 0 ≤ x then x else 0 - x) :: st) sh μ) : ax_X G l own b nL rt ini d r pc lv (.int x :: st) sh μ := by
  refine ⟨kk.1, fun p e R s m args below meth c H locs cells slots mc ms ls C h1 h2 h3 h4 hW hz hL hl => ?_⟩
  have hts := C.2.2.2.2.2.2.2.1
  have hfr := C.2.2.2.2.2.2.2.2.1
  have hlo := C.2.2.2.2.2.2.2.2.2
  have k1 := kk.1
  exact va_mabs C.1 C.2.1 (by rw [C.2.2.1]; exact hl.1.symm) C.2.2.2.2.2.2.1 (hts _ hw.1) (hts _ hw.2.1) (hts _ hw.2.2.1) (hts _ hw.2.2.2) (by omega) (by omega) (by omega) (by omega) hd (kk.2 p e R s m args below meth c H locs cells slots mc ms ls C h1 h2 h3 h4 hW hz hL hl)
theorem ax_callI {idx k n : Nat} {y : MethodName} {b' : ByteArray} {nL' : Nat} {d' : Nat} {As : List Value} {r' : ax_R} {rest : List Value} {st0 : List Value} (hd : decode b pc = .ok (.invokespecial idx, 3)) (hA : ax_A G l y b' nL' none d' (.ref k :: As) sh μ r')
    (hw : Cond.code y b' nL' none ∈ ax_T ∧ Cond.methodLink own idx y ∈ ax_T ∧ Cond.instanceMethod y ∈ ax_T ∧ Cond.initialized y.cls ∈ ax_T)
    (hy : y.cls ≠ "java/lang/invoke/MethodHandle" ∧ y.cls ≠ "java/lang/invoke/VarHandle" ∧ (parseMethodDescriptor y.desc).map (fun d => d.parameters.length) = some n) (hy1 : y.name = "<init>")
    (hst : st0 = As.reverse ++ .ref k :: rest) (hn : As.length = n) (hd' : d' + 1 ≤ d) (hnL : nL' ≤ 21) (hcat : (rest.map fun v => v.category).sum ≤ 8) (kk : ax_X G l own b nL rt ini d r (pc + 3) lv (r'.1.toList ++ rest) r'.2.1 r'.2.2) : ax_X G l own b nL rt ini d r pc lv st0 sh μ := by
  refine ⟨⟨Nat.le_trans hA.1.1 kk.1.1, Nat.le_trans hA.1.2 kk.1.2⟩, fun p e R s m args below meth c H locs cells slots mc ms ls C h1 h2 h3 h4 hW hz hL hl => ?_⟩
  have hA1 := hA.1
  have k1 := kk.1
  have hts := C.2.2.2.2.2.2.2.1
  have hfr := C.2.2.2.2.2.2.2.2.1
  have hlo := C.2.2.2.2.2.2.2.2.2
  have hgood := ax_good hw.1
  subst hst
  exact ax_back (y := y) (b' := b') (nL' := nL') (rt' := none) (d' := d') (As := As) (r' := r') hA.1 kk C h1 h2 h3 h4 hW hz hL hl (va_runI (n := n) (Ts := ax_T) ⟨C.1, C.2.1, C.2.2.1, C.2.2.2.2.2.2.1, hts⟩ hA.2 ⟨callB_of (Ts := ax_T) (ws' := ax_T) n hts hgood rfl rfl rfl (hts _ hw.2.2.2) (hts _ hw.2.1) hy ⟨by show d' + 1 ≤ _; omega, by show 8 + (nL' + 11) + 40 * d' ≤ _; omega⟩, hy1, hts _ hw.2.2.1⟩ ⟨ax_blind, fun U hU hWU => ax_pre hW hU hWU⟩ rfl hn hl.1 rfl (by show 2 * 0 + _ ≤ 8; omega) hd ⟨by omega, by omega⟩)
theorem ax_callIN {idx k n i : Nat} {host : String} {y : MethodName} {b' : ByteArray} {nL' : Nat} {d' : Nat} {As : List Value} {r' : ax_R} {rest : List Value} {st0 : List Value} (hd : decode b pc = .ok (.invokespecial idx, 3)) (hA : ax_A G l y b' nL' none d' (.ref k :: As) sh μ r')
    (hw : Cond.code y b' nL' none ∈ ax_T ∧ Cond.instanceMethod y ∈ ax_T ∧ Cond.initialized y.cls ∈ ax_T) (hnest : ax_nests[i]? = some (own, idx, y, host))
    (hy : y.cls ≠ "java/lang/invoke/MethodHandle" ∧ y.cls ≠ "java/lang/invoke/VarHandle" ∧ (parseMethodDescriptor y.desc).map (fun d => d.parameters.length) = some n) (hy1 : y.name = "<init>")
    (hst : st0 = As.reverse ++ .ref k :: rest) (hn : As.length = n) (hd' : d' + 1 ≤ d) (hnL : nL' ≤ 21) (hcat : (rest.map fun v => v.category).sum ≤ 8) (kk : ax_X G l own b nL rt ini d r (pc + 3) lv (r'.1.toList ++ rest) r'.2.1 r'.2.2) : ax_X G l own b nL rt ini d r pc lv st0 sh μ := by
  refine ⟨⟨Nat.le_trans hA.1.1 kk.1.1, Nat.le_trans hA.1.2 kk.1.2⟩, fun p e R s m args below meth c H locs cells slots mc ms ls C h1 h2 h3 h4 hW hz hL hl => ?_⟩
  have hA1 := hA.1
  have k1 := kk.1
  have hts := C.2.2.2.2.2.2.2.1
  have hfr := C.2.2.2.2.2.2.2.2.1
  have hlo := C.2.2.2.2.2.2.2.2.2
  have hgood := ax_good hw.1
  subst hst
  exact ax_back (y := y) (b' := b') (nL' := nL') (rt' := none) (d' := d') (As := As) (r' := r') hA.1 kk C h1 h2 h3 h4 hW hz hL hl (va_runIN (n := n) (Ts := ax_T) ⟨C.1, C.2.1, C.2.2.1, C.2.2.2.2.2.2.1, hts⟩ hA.2 ⟨va_cnB (Ts := ax_T) (ws' := ax_T) n hts hgood rfl rfl rfl (hW.2.2.2.2.2.2.1 _ (List.mem_of_getElem? hnest)) (hts _ hw.2.2) hy ⟨by show d' + 1 ≤ _; omega, by show 8 + (nL' + 11) + 40 * d' ≤ _; omega⟩, hy1, hts _ hw.2.1⟩ ⟨ax_blind, fun U hU hWU => ax_pre hW hU hWU⟩ rfl hn hl.1 rfl (by show 2 * 0 + _ ≤ 8; omega) hd ⟨by omega, by omega⟩)
theorem ax_callSN {idx n i : Nat} {host : String} {y : MethodName} {b' : ByteArray} {nL' : Nat} {rt' : Option FieldType} {d' : Nat} {As : List Value} {r' : ax_R} {rest : List Value} {st0 : List Value} (hd : decode b pc = .ok (.invokestatic idx, 3)) (hA : ax_A G l y b' nL' rt' d' As sh μ r')
    (hw : Cond.code y b' nL' rt' ∈ ax_T ∧ Cond.static y ∈ ax_T ∧ Cond.initialized y.cls ∈ ax_T) (hnest : ax_nests[i]? = some (own, idx, y, host))
    (hy : y.cls ≠ "java/lang/invoke/MethodHandle" ∧ y.cls ≠ "java/lang/invoke/VarHandle" ∧ (parseMethodDescriptor y.desc).map (fun d => d.parameters.length) = some n)
    (hst : st0 = As.reverse ++ rest) (hn : As.length = n) (hd' : d' + 1 ≤ d) (hnL : nL' ≤ 21) (hcat : (rest.map fun v => v.category).sum ≤ 8) (kk : ax_X G l own b nL rt ini d r (pc + 3) lv (r'.1.toList ++ rest) r'.2.1 r'.2.2) : ax_X G l own b nL rt ini d r pc lv st0 sh μ := by
  refine ⟨⟨Nat.le_trans hA.1.1 kk.1.1, Nat.le_trans hA.1.2 kk.1.2⟩, fun p e R s m args below meth c H locs cells slots mc ms ls C h1 h2 h3 h4 hW hz hL hl => ?_⟩
  have hA1 := hA.1
  have k1 := kk.1
  have hts := C.2.2.2.2.2.2.2.1
  have hfr := C.2.2.2.2.2.2.2.2.1
  have hlo := C.2.2.2.2.2.2.2.2.2
  have hgood := ax_good hw.1
  subst hst
  exact ax_back (y := y) (b' := b') (nL' := nL') (rt' := rt') (d' := d') (As := As) (r' := r') hA.1 kk C h1 h2 h3 h4 hW hz hL hl (va_runSN (n := n) (Ts := ax_T) ⟨C.1, C.2.1, C.2.2.1, C.2.2.2.2.2.2.1, hts⟩ hA.2 ⟨va_cnB (Ts := ax_T) (ws' := ax_T) n hts hgood rfl rfl rfl (hW.2.2.2.2.2.2.1 _ (List.mem_of_getElem? hnest)) (hts _ hw.2.2) hy ⟨by show d' + 1 ≤ _; omega, by show 8 + (nL' + 11) + 40 * d' ≤ _; omega⟩, hts _ hw.2.1, trivial⟩ ⟨ax_blind, fun U hU hWU => ax_pre hW hU hWU⟩ rfl hn hl.1 rfl (by show 2 * 0 + _ ≤ 8; omega) hd ⟨by omega, by omega⟩)
/-- texts -/
theorem ax_sgetf {idx i : Nat} {n dsc : String} {v : Value} (hd : decode b pc = .ok (.getfield idx, 3)) (hi : i < ax_strs.length) (hw : Cond.fieldLink own idx "java/lang/String" n dsc ∈ ax_T) (hv : (n = "coder" ∧ dsc = "B" ∧ v = .int 0) ∨ (n = "value" ∧ dsc = "[B" ∧ v = .ref (G.2.2.2.2.1 i))) (kk : ax_X G l own b nL rt ini d r (pc + 3) lv (v :: st) sh μ) : ax_X G l own b nL rt ini d r pc lv (.ref (G.2.2.2.1 i) :: st) sh μ := by
  refine ⟨kk.1, fun p e R s m args below meth c H locs cells slots mc ms ls C h1 h2 h3 h4 hW hz hL hl => ?_⟩
  have hts := C.2.2.2.2.2.2.2.1
  have hE : va_OF "java/lang/String" n dsc v (G.2.2.2.1 i) (fun q => G.1 ≤ q) s H := by
    rcases hv with ⟨rfl, rfl, rfl⟩ | ⟨rfl, rfl, rfl⟩
    · exact (hW.2.2.1.1 i hi).2.1
    · exact (hW.2.2.1.1 i hi).2.2.1
  obtain ⟨cf, k, fi, f, cell, q1, q2, q3, q4, q5, q6⟩ := hE
  exact W.getf C.1 C.2.1 C.2.2.2.2.2.2.1 (hts _ hw) q1 q2 q3 q4 (v := v) q5 rfl rfl hd (kk.2 p e R s m args below meth c H locs cells slots mc ms ls C h1 h2 h3 h4 hW hz hL hl)
theorem ax_slen {i : Nat} {v : Int32} (hd : decode b pc = .ok (.arraylength, 1)) (hi : i < ax_strs.length) (hv : Int32.ofNat (ax_len.getD i 0) = v) (kk : ax_X G l own b nL rt ini d r (pc + 1) lv (.int v :: st) sh μ) : ax_X G l own b nL rt ini d r pc lv (.ref (G.2.2.2.2.1 i) :: st) sh μ := by
  refine ⟨kk.1, fun p e R s m args below meth c H locs cells slots mc ms ls C h1 h2 h3 h4 hW hz hL hl => ?_⟩
  subst hv
  obtain ⟨cell, q1, q2, q3, q4, q5, q6, q7⟩ := (hW.2.2.1.1 i hi).2.2.2
  exact W.alen (n := Int32.ofNat (ax_len.getD i 0)) C.1 C.2.1 q1 q2 q5 rfl rfl hd (kk.2 p e R s m args below meth c H locs cells slots mc ms ls C h1 h2 h3 h4 hW hz hL hl)
theorem ax_sbald {i : Nat} {j : Int32} (hd : decode b pc = .ok (.baload, 1)) (hi : i < ax_strs.length) (hj : vp_in j (ax_len.getD i 0)) (kk : ax_X G l own b nL rt ini d r (pc + 1) lv (.int ((ax_byt.getD i []).getD j.toNatClampNeg 0) :: st) sh μ) : ax_X G l own b nL rt ini d r pc lv (.int j :: .ref (G.2.2.2.2.1 i) :: st) sh μ := by
  refine ⟨kk.1, fun p e R s m args below meth c H locs cells slots mc ms ls C h1 h2 h3 h4 hW hz hL hl => ?_⟩
  obtain ⟨cell, q1, q2, q3, q4, q5, q6, q7⟩ := (hW.2.2.1.1 i hi).2.2.2
  have hlt : j.toNatClampNeg < ax_len.getD i 0 := Nat.not_le.mp fun q => hj (Or.inr q)
  have hin' : ¬ (j < 0 ∨ cell.slots.size ≤ j.toNatClampNeg) := by
    intro q
    rcases q with q | q
    · exact hj (Or.inl q)
    · omega
  exact W.bald C.1 C.2.1 q1 q2 q3 hin' (q6 _ hlt) rfl rfl hd (kk.2 p e R s m args below meth c H locs cells slots mc ms ls C h1 h2 h3 h4 hW hz hL hl)
theorem ax_gets1 {idx : Nat} (hd : decode b pc = .ok (.getstatic idx, 3)) (hw : Cond.fieldLink own idx "java/lang/String" "COMPACT_STRINGS" "Z" ∈ ax_T) (kk : ax_X G l own b nL rt ini d r (pc + 3) lv (.int 1 :: st) sh μ) : ax_X G l own b nL rt ini d r pc lv st sh μ := by
  refine ⟨kk.1, fun p e R s m args below meth c H locs cells slots mc ms ls C h1 h2 h3 h4 hW hz hL hl => ?_⟩
  have hts := C.2.2.2.2.2.2.2.1
  obtain ⟨cf, kf, fi, f, a, cell, q1, q2, q3, q4, q5, q6, q7, q8⟩ := hW.2.2.2.2.1
  exact W.gets C.1 C.2.1 C.2.2.2.2.2.2.1 (hts _ hw) q1 q2 q3 q4 q5 (fun e => by rw [e] at q6; cases q6) q7 rfl hd (kk.2 p e R s m args below meth c H locs cells slots mc ms ls C h1 h2 h3 h4 hW hz hL hl)
theorem ax_gets2 {idx : Nat} (hd : decode b pc = .ok (.getstatic idx, 3)) (hw : Cond.fieldLink own idx "jdk/internal/util/Preconditions" "SIOOBE_FORMATTER" "Ljava/util/function/BiFunction;" ∈ ax_T) (hx : (sh.length ≤ r.2.1.length ∧ ax_sl sh ≤ ax_sl r.2.1)) (kk : ∀ v : Value, (v = .null ∨ ∃ a, v = .ref a) → ax_X G l own b nL rt ini d r (pc + 3) lv (v :: st) sh μ) : ax_X G l own b nL rt ini d r pc lv st sh μ := by
  refine ⟨hx, fun p e R s m args below meth c H locs cells slots mc ms ls C h1 h2 h3 h4 hW hz hL hl => ?_⟩
  have hts := C.2.2.2.2.2.2.2.1
  obtain ⟨v, hv, cf, kf, fi, f, a, cell, q1, q2, q3, q4, q5, q6, q7, q8⟩ := hW.2.2.2.2.2.1
  exact W.gets C.1 C.2.1 C.2.2.2.2.2.2.1 (hts _ hw) q1 q2 q3 q4 q5 (fun e => by rw [e] at q6; cases q6) q7 rfl hd ((kk v hv).2 p e R s m args below meth c H locs cells slots mc ms ls C h1 h2 h3 h4 hW hz hL hl)
theorem ax_callVS {idx i n : Nat} {y : MethodName} {b' : ByteArray} {nL' : Nat} {rt' : Option FieldType} {d' : Nat} {As : List Value} {r' : ax_R} {rest : List Value} {st0 : List Value} (hd : decode b pc = .ok (.invokevirtual idx, 3)) (hA : ax_A G l y b' nL' rt' d' (.ref (G.2.2.2.1 i) :: As) sh μ r') (hi : i < ax_strs.length)
    (hw : Cond.code y b' nL' rt' ∈ ax_T ∧ Cond.methodLink own idx y ∈ ax_T ∧ Cond.instanceMethod y ∈ ax_T ∧ Cond.selects y.cls y y ∈ ax_T ∧ Cond.initialized y.cls ∈ ax_T)
    (hy : y.cls ≠ "java/lang/invoke/MethodHandle" ∧ y.cls ≠ "java/lang/invoke/VarHandle" ∧ (parseMethodDescriptor y.desc).map (fun d => d.parameters.length) = some n) (hyS : y.cls = "java/lang/String")
    (hst : st0 = As.reverse ++ .ref (G.2.2.2.1 i) :: rest) (hn : As.length = n) (hd' : d' + 1 ≤ d) (hnL : nL' ≤ 21) (hcat : (rest.map fun v => v.category).sum ≤ 8) (kk : ax_X G l own b nL rt ini d r (pc + 3) lv (r'.1.toList ++ rest) r'.2.1 r'.2.2) : ax_X G l own b nL rt ini d r pc lv st0 sh μ := by
  refine ⟨⟨Nat.le_trans hA.1.1 kk.1.1, Nat.le_trans hA.1.2 kk.1.2⟩, fun p e R s m args below meth c H locs cells slots mc ms ls C h1 h2 h3 h4 hW hz hL hl => ?_⟩
  have hA1 := hA.1
  have k1 := kk.1
  have hts := C.2.2.2.2.2.2.2.1
  have hfr := C.2.2.2.2.2.2.2.2.1
  have hlo := C.2.2.2.2.2.2.2.2.2
  have hgood := ax_good hw.1
  subst hst
  refine ax_back (y := y) (b' := b') (nL' := nL') (rt' := rt') (d' := d') (As := As) (r' := r') hA.1 kk C h1 h2 h3 h4 hW hz hL hl (va_runV (C := y.cls) (n := n) (Ts := ax_T) ⟨C.1, C.2.1, C.2.2.1, C.2.2.2.2.2.2.1, hts⟩ hA.2 ⟨callB_of (Ts := ax_T) (ws' := ax_T) n hts hgood rfl rfl rfl (hts _ hw.2.2.2.2) (hts _ hw.2.1) hy ⟨by show d' + 1 ≤ _; omega, by show 8 + (nL' + 11) + 40 * d' ≤ _; omega⟩, hts _ hw.2.2.1, hts _ hw.2.2.2.1⟩ ⟨ax_blind, ?_, fun U hU hWU => ax_pre hW hU hWU⟩ rfl hn hl.1 rfl (by show 2 * 0 + _ ≤ 8; omega) hd ⟨by omega, by omega⟩)
  obtain ⟨cell, q1, q2, q3, -⟩ := (hW.2.2.1.1 i hi).1
  rw [hyS]
  exact ⟨cell, q1, q2, q3⟩

theorem ax_slcons {es : List ax_E} : ax_sl (sh ++ es) = ax_sl sh + ax_sl es := by unfold ax_sl; simp
theorem ax_slrep {e0 : ax_E} (n : Nat) : ax_sl (List.replicate n e0) = n * ax_e1 e0 := by
  induction n with
  | zero => simp [ax_sl]
  | succ n ih => rw [List.replicate_succ, show ∀ (a : ax_E) (q : List ax_E), ax_sl (a :: q) = ax_e1 a + ax_sl q from fun a q => by unfold ax_sl; simp, ih, Nat.succ_mul]; omega
theorem ax_slrows {k N M : Nat} : ax_sl (.inr (.inr (k + 1, N)) :: List.replicate N (.inr (.inl (0, M)))) = N + N * M := by
  rw [show ∀ (a : ax_E) (q : List ax_E), ax_sl (a :: q) = ax_e1 a + ax_sl q from fun a q => by unfold ax_sl; simp, ax_slrep]
  rfl
theorem ax_mna {idx k N M : Nat} {n m' : Int32} {sh' : List ax_E} (hd : decode b pc = .ok (.multianewarray idx 2, 4)) (hw : Cond.classLink own idx "[[I" ∈ ax_T ∧ Cond.arrayClass .int ∈ ax_T) (hn : ¬ n < 0) (hm : ¬ m' < 0) (hN : n.toNatClampNeg = N) (hM : m'.toNatClampNeg = M) (hbN : N ≤ 1000) (hbM : M ≤ 1000) (hk : sh.length = k) (hsh : sh ++ (.inr (.inr (k + 1, N)) :: List.replicate N (.inr (.inl (0, M)))) = sh') (kk : ax_X G l own b nL rt ini d r (pc + 4) lv (.ref (G.1 + k) :: st) sh' (ax_zz μ k (N + 1))) : ax_X G l own b nL rt ini d r pc lv (.int m' :: .int n :: st) sh μ := by
  subst hk
  subst hsh
  subst hN
  subst hM
  have k1 := kk.1
  rw [ax_slcons, List.length_append, ax_slrows] at k1
  simp only [List.length_cons, List.length_replicate] at k1
  refine ⟨⟨by omega, by omega⟩, fun p e R s m args below meth c H locs cells slots mc ms ls C h1 h2 h3 h4 hW hz hL hl => ?_⟩
  have hts := C.2.2.2.2.2.2.2.1
  have hsz := hW.1.1
  intro T hT X
  obtain ⟨vm₁, cA, comp, -, fA, fC, -, -, X', step⟩ := X.multianewarray2F (ty := .int) C.1 C.2.2.2.2.2.2.1 (hts _ hw.1) hW.2.2.2.2.2.2.2.1 (hts _ hw.2) (g := F0 m pc ls (.int m' :: .int n :: st)) rfl (by rw [C.2.1]; exact hd) rfl hn hm (by omega) (by show m'.toNatClampNeg * 4 ≤ _; omega) (by omega) rfl rfl (by omega) (by omega)
  have ec1 : G.2.2.1 0 = comp := Option.some.inj ((hW.2.1.2 0 _ rfl).2.symm.trans fC)
  have ec2 : G.2.2.1 2 = cA := Option.some.inj ((hW.2.1.2 2 _ rfl).2.symm.trans fA)
  subst ec1
  subst ec2
  generalize hF : Jvm.Free.Multi.fill (T.setVm vm₁) (G.2.2.1 2) (G.2.2.1 0) n.toNatClampNeg m'.toNatClampNeg (defaultValue .int) n.toNatClampNeg = F at X' step
  have hTh : (T.setVm vm₁).heap = H := hT
  obtain ⟨f1, f2, -, -⟩ := Jvm.Free.Multi.fill_facts (T.setVm vm₁) (G.2.2.1 2) (G.2.2.1 0) n.toNatClampNeg m'.toNatClampNeg (defaultValue .int) n.toNatClampNeg
  rw [hF, hTh] at f1 f2
  have hold : ∀ x : Nat, x < H.size → F.heap[x]? = H[x]? := fun x hx => by
    have := Jvm.Free.Multi.fill_old (T.setVm vm₁) (G.2.2.1 2) (G.2.2.1 0) n.toNatClampNeg m'.toNatClampNeg (defaultValue .int) (a := x) (by rw [hTh]; exact hx) n.toNatClampNeg
    rw [hF, hTh] at this
    exact this
  have hrow : ∀ j : Nat, j < n.toNatClampNeg → F.heap[H.size + 1 + j]? = some (vp_cell (G.2.2.1 0) (m'.toNatClampNeg, .inl (fun _ => 0))) := fun j hj => by
    have := Jvm.Free.Multi.fill_inner (T.setVm vm₁) (G.2.2.1 2) (G.2.2.1 0) n.toNatClampNeg m'.toNatClampNeg (defaultValue .int) n.toNatClampNeg j hj
    rw [hF, hTh] at this
    rw [this]
    exact congrArg some (arrV_new _ _ _)
  rw [vr_outer] at f2
  have hkeep : ∀ q, q < G.1 → F.heap[q]? = H[q]? := fun q hq => hold q (by omega)
  have eT : T.heap.size = G.1 + sh.length := by rw [hT, hsz]
  rw [eT] at step
  have hH : ax_H G (sh ++ (.inr (.inr (sh.length + 1, n.toNatClampNeg)) :: List.replicate n.toNatClampNeg (.inr (.inl (0, m'.toNatClampNeg))))) (ax_zz μ sh.length (n.toNatClampNeg + 1)) F.heap := by
    refine ⟨by rw [f1, hsz, List.length_append]; simp only [List.length_cons, List.length_replicate]; omega, fun k0 e0 he0 => ?_⟩
    by_cases hl0 : k0 < sh.length
    · rw [List.getElem?_append_left hl0] at he0
      rw [ax_en_congr (fun j => by simp only [ax_zz]; rw [if_neg (by omega)])]
      exact (hW.1.2 k0 e0 he0).kept (hold _ (by show G.1 + k0 < _; omega))
    · rw [List.getElem?_append_right (Nat.not_lt.mp hl0)] at he0
      cases hkk : k0 - sh.length with
      | zero =>
        rw [hkk] at he0
        cases he0
        have hk0 : k0 = sh.length := by omega
        subst hk0
        show F.heap[_]? = some (vp_cell _ _)
        rw [← hsz, f2, vp_cell_q, hsz]
        refine congrArg (fun f => some (arrV _ _ f)) (funext fun j => ?_)
        by_cases hj : j < n.toNatClampNeg
        · simp only [if_pos hj]
          rw [show G.1 + sh.length + 1 + j = G.1 + (sh.length + 1 + j) by omega]
        · simp only [if_neg hj]
      | succ j =>
        rw [hkk, List.getElem?_cons_succ] at he0
        have hj : j < n.toNatClampNeg := by
          have := (List.getElem?_eq_some_iff.mp he0).1
          rwa [List.length_replicate] at this
        rw [List.getElem?_replicate, if_pos hj] at he0
        cases he0
        have hk0 : k0 = sh.length + 1 + j := by omega
        subst hk0
        show F.heap[_]? = some (vp_cell _ _)
        rw [show G.1 + (sh.length + 1 + j) = H.size + 1 + j by omega, hrow j hj]
        refine congrArg (fun f => some (vp_cell _ (_, .inl f))) (funext fun i => ?_)
        simp only [ax_zz]
        rw [if_pos (by omega)]
  obtain ⟨t, a1, b1⟩ := kk.2 p e R s m args below meth c F.heap locs (cells + 1 + n.toNatClampNeg) (slots + n.toNatClampNeg + n.toNatClampNeg * m'.toNatClampNeg) mc ms ls C h1 h2 (by rw [List.length_append]; simp only [List.length_cons, List.length_replicate]; show cells + 1 + n.toNatClampNeg + _ = _; omega) (by rw [ax_slcons, ax_slrows]; omega) ⟨hH, hW.2.1, hW.2.2.kept hkeep⟩ (fun q hq => (hkeep q hq).trans (hz q hq)) hL hl F rfl X'
  exact ⟨t, step t a1, b1⟩

/-- the script -/
theorem ax_scld {i : Int32} (hd : decode b pc = .ok (.iaload, 1)) (hi : vp_in i G.2.2.2.2.2.2.1) (kk : ax_X G l own b nL rt ini d r (pc + 1) lv (.int (G.2.2.2.2.2.2.2 i.toNatClampNeg) :: st) sh μ) : ax_X G l own b nL rt ini d r pc lv (.int i :: .ref G.2.2.2.2.2.1 :: st) sh μ := by
  refine ⟨kk.1, fun p e R s m args below meth c H locs cells slots mc ms ls C h1 h2 h3 h4 hW hz hL hl => ?_⟩
  obtain ⟨scr, q1, q2, q3, q4, q5⟩ := hW.2.2.2.2.2.2.2.2.1
  have hlt : i.toNatClampNeg < G.2.2.2.2.2.2.1 := Nat.not_le.mp fun q => hi (Or.inr q)
  exact W.iald (v := .int (G.2.2.2.2.2.2.2 i.toNatClampNeg)) C.1 C.2.1 q1 q2 q3 (by rw [q4]; exact hi) (q5 _ hlt) rfl rfl hd (kk.2 p e R s m args below meth c H locs cells slots mc ms ls C h1 h2 h3 h4 hW hz hL hl)
theorem ax_sclen (hd : decode b pc = .ok (.arraylength, 1)) (kk : ax_X G l own b nL rt ini d r (pc + 1) lv (.int (Int32.ofNat G.2.2.2.2.2.2.1) :: st) sh μ) : ax_X G l own b nL rt ini d r pc lv (.ref G.2.2.2.2.2.1 :: st) sh μ := by
  refine ⟨kk.1, fun p e R s m args below meth c H locs cells slots mc ms ls C h1 h2 h3 h4 hW hz hL hl => ?_⟩
  obtain ⟨scr, q1, q2, q3, q4, q5⟩ := hW.2.2.2.2.2.2.2.2.1
  exact W.alen (n := Int32.ofNat G.2.2.2.2.2.2.1) C.1 C.2.1 q1 q2 (by rw [q4] <;> rfl) rfl rfl hd (kk.2 p e R s m args below meth c H locs cells slots mc ms ls C h1 h2 h3 h4 hW hz hL hl)

end AX
end
section
theorem ax_dd {b : ByteArray} {L : List (Nat × Instr × Nat)} (h : L.all (fun q => decide (decode b q.1 = .ok (q.2.1, q.2.2))) = true) (k : Nat) {pc n : Nat} {i : Instr} (hk : L[k]? = some (pc, i, n)) : decode b pc = .ok (i, n) := by
  have h1 : decide (decode b pc = .ok (i, n)) = true := List.all_eq_true.mp h (pc, i, n) (List.mem_of_getElem? hk)
  exact of_decide_eq_true h1
def DJ0_coder_7d493 : List (Nat × Instr × Nat) := [(0, .getstatic 38, 3), (3, .ifCond .eq 10, 3), (6, .aload_n 0, 1), (7, .getfield 15, 3), (10, .goto 4, 3), (13, .iconst 1, 1), (14, .ireturn, 1)]
theorem KJ0_coder_7d493 : DJ0_coder_7d493.all (fun q => decide (decode cJ0_coder_7d493 q.1 = .ok (q.2.1, q.2.2))) = true := by decide +kernel
def DJ0_length_8abf5 : List (Nat × Instr × Nat) := [(0, .aload_n 0, 1), (1, .getfield 9, 3), (4, .arraylength, 1), (5, .aload_n 0, 1), (6, .invokevirtual 335, 3), (9, .ishr, 1), (10, .ireturn, 1)]
theorem KJ0_length_8abf5 : DJ0_length_8abf5.all (fun q => decide (decode cJ0_length_8abf5 q.1 = .ok (q.2.1, q.2.2))) = true := by decide +kernel
def DJ0_isLatin1_aae02 : List (Nat × Instr × Nat) := [(0, .getstatic 38, 3), (3, .ifCond .eq 14, 3), (6, .aload_n 0, 1), (7, .getfield 15, 3), (10, .ifCond .ne 7, 3), (13, .iconst 1, 1), (14, .goto 4, 3), (17, .iconst 0, 1), (18, .ireturn, 1)]
theorem KJ0_isLatin1_aae02 : DJ0_isLatin1_aae02.all (fun q => decide (decode cJ0_isLatin1_aae02 q.1 = .ok (q.2.1, q.2.2))) = true := by decide +kernel
def DJ3_checkIndex_8e157 : List (Nat × Instr × Nat) := [(0, .iload_n 0, 1), (1, .ifCond .lt 8, 3), (4, .iload_n 0, 1), (5, .iload_n 1, 1), (6, .if_icmp .lt 10, 3), (9, .aload_n 2, 1), (10, .iload_n 0, 1), (11, .iload_n 1, 1), (12, .invokestatic 95, 3), (15, .athrow, 1), (16, .iload_n 0, 1), (17, .ireturn, 1)]
theorem KJ3_checkIndex_8e157 : DJ3_checkIndex_8e157.all (fun q => decide (decode cJ3_checkIndex_8e157 q.1 = .ok (q.2.1, q.2.2))) = true := by decide +kernel
def DJ0_checkIndex_df160 : List (Nat × Instr × Nat) := [(0, .iload_n 0, 1), (1, .iload_n 1, 1), (2, .getstatic 1053, 3), (5, .invokestatic 1059, 3), (8, .pop, 1), (9, .return_, 1)]
theorem KJ0_checkIndex_df160 : DJ0_checkIndex_df160.all (fun q => decide (decode cJ0_checkIndex_df160 q.1 = .ok (q.2.1, q.2.2))) = true := by decide +kernel
def DJ1_charAt_3b067 : List (Nat × Instr × Nat) := [(0, .iload_n 1, 1), (1, .aload_n 0, 1), (2, .arraylength, 1), (3, .invokestatic 9, 3), (6, .aload_n 0, 1), (7, .iload_n 1, 1), (8, .baload, 1), (9, .sipush 255, 3), (12, .iand, 1), (13, .i2c, 1), (14, .ireturn, 1)]
theorem KJ1_charAt_3b067 : DJ1_charAt_3b067.all (fun q => decide (decode cJ1_charAt_3b067 q.1 = .ok (q.2.1, q.2.2))) = true := by decide +kernel
def DJ0_charAt_5068e : List (Nat × Instr × Nat) := [(0, .aload_n 0, 1), (1, .invokevirtual 492, 3), (4, .ifCond .eq 12, 3), (7, .aload_n 0, 1), (8, .getfield 9, 3), (11, .iload_n 1, 1), (12, .invokestatic 495, 3), (15, .ireturn, 1), (16, .aload_n 0, 1), (17, .getfield 9, 3), (20, .iload_n 1, 1), (21, .invokestatic 498, 3), (24, .ireturn, 1)]
theorem KJ0_charAt_5068e : DJ0_charAt_5068e.all (fun q => decide (decode cJ0_charAt_5068e q.1 = .ok (q.2.1, q.2.2))) = true := by decide +kernel
def DJ1_canEncode_9a6ad : List (Nat × Instr × Nat) := [(0, .iload_n 0, 1), (1, .ifCond .lt 14, 3), (4, .iload_n 0, 1), (5, .sipush 255, 3), (8, .if_icmp .gt 7, 3), (11, .iconst 1, 1), (12, .goto 4, 3), (15, .iconst 0, 1), (16, .ireturn, 1)]
theorem KJ1_canEncode_9a6ad : DJ1_canEncode_9a6ad.all (fun q => decide (decode cJ1_canEncode_9a6ad q.1 = .ok (q.2.1, q.2.2))) = true := by decide +kernel
def DJ1_indexOfChar_4cfef : List (Nat × Instr × Nat) := [(0, .iload_n 1, 1), (1, .i2b, 1), (2, .istore 4, 2), (4, .iload_n 2, 1), (5, .istore 5, 2), (7, .iload 5, 2), (9, .iload_n 3, 1), (10, .if_icmp .ge 21, 3), (13, .aload_n 0, 1), (14, .iload 5, 2), (16, .baload, 1), (17, .iload 4, 2), (19, .if_icmp .ne 6, 3), (22, .iload 5, 2), (24, .ireturn, 1), (25, .iinc 5 1, 3), (28, .goto (-21), 3), (31, .iconst (-1), 1), (32, .ireturn, 1)]
theorem KJ1_indexOfChar_4cfef : DJ1_indexOfChar_4cfef.all (fun q => decide (decode cJ1_indexOfChar_4cfef q.1 = .ok (q.2.1, q.2.2))) = true := by decide +kernel
def DJ1_indexOf_4cfef : List (Nat × Instr × Nat) := [(0, .iload_n 1, 1), (1, .invokestatic 88, 3), (4, .ifCond .ne 5, 3), (7, .iconst (-1), 1), (8, .ireturn, 1), (9, .iload_n 2, 1), (10, .iconst 0, 1), (11, .invokestatic 92, 3), (14, .istore_n 2, 1), (15, .iload_n 3, 1), (16, .aload_n 0, 1), (17, .arraylength, 1), (18, .invokestatic 38, 3), (21, .istore_n 3, 1), (22, .iload_n 2, 1), (23, .iload_n 3, 1), (24, .if_icmp .lt 5, 3), (27, .iconst (-1), 1), (28, .ireturn, 1), (29, .aload_n 0, 1), (30, .iload_n 1, 1), (31, .iload_n 2, 1), (32, .iload_n 3, 1), (33, .invokestatic 95, 3), (36, .ireturn, 1)]
theorem KJ1_indexOf_4cfef : DJ1_indexOf_4cfef.all (fun q => decide (decode cJ1_indexOf_4cfef q.1 = .ok (q.2.1, q.2.2))) = true := by decide +kernel
def DJ0_indexOf_7cf53 : List (Nat × Instr × Nat) := [(0, .aload_n 0, 1), (1, .invokevirtual 492, 3), (4, .ifCond .eq 19, 3), (7, .aload_n 0, 1), (8, .getfield 9, 3), (11, .iload_n 1, 1), (12, .iload_n 2, 1), (13, .aload_n 0, 1), (14, .invokevirtual 505, 3), (17, .invokestatic 637, 3), (20, .goto 16, 3), (23, .aload_n 0, 1), (24, .getfield 9, 3), (27, .iload_n 1, 1), (28, .iload_n 2, 1), (29, .aload_n 0, 1), (30, .invokevirtual 505, 3), (33, .invokestatic 640, 3), (36, .ireturn, 1)]
theorem KJ0_indexOf_7cf53 : DJ0_indexOf_7cf53.all (fun q => decide (decode cJ0_indexOf_7cf53 q.1 = .ok (q.2.1, q.2.2))) = true := by decide +kernel
def DJ0_indexOf_0f7a4 : List (Nat × Instr × Nat) := [(0, .aload_n 0, 1), (1, .iload_n 1, 1), (2, .iconst 0, 1), (3, .invokevirtual 633, 3), (6, .ireturn, 1)]
theorem KJ0_indexOf_0f7a4 : DJ0_indexOf_0f7a4.all (fun q => decide (decode cJ0_indexOf_0f7a4 q.1 = .ok (q.2.1, q.2.2))) = true := by decide +kernel
def DX0_init : List (Nat × Instr × Nat) := [(0, .aload_n 0, 1), (1, .invokespecial 3, 3), (4, .aload_n 0, 1), (5, .bipush 12, 2), (7, .putfield 9, 3), (10, .aload_n 0, 1), (11, .bipush 6, 2), (13, .newarray .int, 2), (15, .putfield 15, 3), (18, .aload_n 0, 1), (19, .bipush 6, 2), (21, .newarray .int, 2), (23, .putfield 19, 3), (26, .aload_n 0, 1), (27, .bipush 6, 2), (29, .newarray .int, 2), (31, .putfield 22, 3), (34, .aload_n 0, 1), (35, .bipush 6, 2), (37, .newarray .int, 2), (39, .putfield 25, 3), (42, .aload_n 0, 1), (43, .bipush 6, 2), (45, .newarray .int, 2), (47, .putfield 28, 3), (50, .aload_n 0, 1), (51, .bipush 6, 2), (53, .newarray .int, 2), (55, .putfield 31, 3), (58, .aload_n 0, 1), (59, .bipush 36, 2), (61, .newarray .int, 2), (63, .putfield 34, 3), (66, .aload_n 0, 1), (67, .bipush 36, 2), (69, .newarray .int, 2), (71, .putfield 37, 3), (74, .aload_n 0, 1), (75, .aload_n 1, 1), (76, .putfield 40, 3), (79, .return_, 1)]
theorem KX0_init : DX0_init.all (fun q => decide (decode cX0_init q.1 = .ok (q.2.1, q.2.2))) = true := by decide +kernel
def DX0_isRug : List (Nat × Instr × Nat) := [(0, .iload_n 1, 1), (1, .ifCond .lt 15, 3), (4, .iload_n 1, 1), (5, .aload_n 0, 1), (6, .getfield 44, 3), (9, .if_icmp .ge 7, 3), (12, .iconst 1, 1), (13, .goto 4, 3), (16, .iconst 0, 1), (17, .ireturn, 1)]
theorem KX0_isRug : DX0_isRug.all (fun q => decide (decode cX0_isRug q.1 = .ok (q.2.1, q.2.2))) = true := by decide +kernel
def DX0_add : List (Nat × Instr × Nat) := [(0, .aload_n 0, 1), (1, .getfield 44, 3), (4, .istore_n 3, 1), (5, .aload_n 0, 1), (6, .dup, 1), (7, .getfield 44, 3), (10, .iconst 1, 1), (11, .iadd, 1), (12, .putfield 44, 3), (15, .aload_n 0, 1), (16, .getfield 15, 3), (19, .iload_n 3, 1), (20, .iload_n 1, 1), (21, .bipush 10, 2), (23, .idiv, 1), (24, .iastore, 1), (25, .aload_n 0, 1), (26, .getfield 19, 3), (29, .iload_n 3, 1), (30, .iload_n 1, 1), (31, .bipush 10, 2), (33, .irem, 1), (34, .iastore, 1), (35, .aload_n 0, 1), (36, .getfield 31, 3), (39, .iload_n 3, 1), (40, .iconst 0, 1), (41, .iastore, 1), (42, .aload_n 0, 1), (43, .iload_n 3, 1), (44, .iload_n 2, 1), (45, .bipush 100, 2), (47, .idiv, 1), (48, .iload_n 2, 1), (49, .bipush 100, 2), (51, .irem, 1), (52, .invokevirtual 47, 3), (55, .iload_n 3, 1), (56, .ireturn, 1)]
theorem KX0_add : DX0_add.all (fun q => decide (decode cX0_add q.1 = .ok (q.2.1, q.2.2))) = true := by decide +kernel
def DX0_lay : List (Nat × Instr × Nat) := [(0, .aload_n 0, 1), (1, .getfield 22, 3), (4, .iload_n 1, 1), (5, .iload_n 2, 1), (6, .iastore, 1), (7, .aload_n 0, 1), (8, .getfield 25, 3), (11, .iload_n 1, 1), (12, .iload_n 3, 1), (13, .iastore, 1), (14, .aload_n 0, 1), (15, .getfield 28, 3), (18, .iload_n 1, 1), (19, .iload_n 3, 1), (20, .invokestatic 51, 3), (23, .iload_n 2, 1), (24, .invokestatic 51, 3), (27, .isub, 1), (28, .iconst 1, 1), (29, .iadd, 1), (30, .iload_n 3, 1), (31, .invokestatic 55, 3), (34, .iload_n 2, 1), (35, .invokestatic 55, 3), (38, .isub, 1), (39, .iconst 1, 1), (40, .iadd, 1), (41, .imul, 1), (42, .iastore, 1), (43, .return_, 1)]
theorem KX0_lay : DX0_lay.all (fun q => decide (decode cX0_lay q.1 = .ok (q.2.1, q.2.2))) = true := by decide +kernel
def DX0_corners : List (Nat × Instr × Nat) := [(0, .bipush 100, 2), (2, .aload_n 0, 1), (3, .getfield 22, 3), (6, .iload_n 1, 1), (7, .iaload, 1), (8, .imul, 1), (9, .aload_n 0, 1), (10, .getfield 25, 3), (13, .iload_n 1, 1), (14, .iaload, 1), (15, .iadd, 1), (16, .ireturn, 1)]
theorem KX0_corners : DX0_corners.all (fun q => decide (decode cX0_corners q.1 = .ok (q.2.1, q.2.2))) = true := by decide +kernel
def DX0_liesOn : List (Nat × Instr × Nat) := [(0, .iload_n 2, 1), (1, .invokestatic 51, 3), (4, .aload_n 0, 1), (5, .getfield 22, 3), (8, .iload_n 1, 1), (9, .iaload, 1), (10, .invokestatic 51, 3), (13, .if_icmp .lt 55, 3), (16, .iload_n 2, 1), (17, .invokestatic 51, 3), (20, .aload_n 0, 1), (21, .getfield 25, 3), (24, .iload_n 1, 1), (25, .iaload, 1), (26, .invokestatic 51, 3), (29, .if_icmp .gt 39, 3), (32, .iload_n 2, 1), (33, .invokestatic 55, 3), (36, .aload_n 0, 1), (37, .getfield 22, 3), (40, .iload_n 1, 1), (41, .iaload, 1), (42, .invokestatic 55, 3), (45, .if_icmp .lt 23, 3), (48, .iload_n 2, 1), (49, .invokestatic 55, 3), (52, .aload_n 0, 1), (53, .getfield 25, 3), (56, .iload_n 1, 1), (57, .iaload, 1), (58, .invokestatic 55, 3), (61, .if_icmp .gt 7, 3), (64, .iconst 1, 1), (65, .goto 4, 3), (68, .iconst 0, 1), (69, .ireturn, 1)]
theorem KX0_liesOn : DX0_liesOn.all (fun q => decide (decode cX0_liesOn q.1 = .ok (q.2.1, q.2.2))) = true := by decide +kernel
def DX0_hasFringeOn : List (Nat × Instr × Nat) := [(0, .iload_n 2, 1), (1, .invokestatic 51, 3), (4, .aload_n 0, 1), (5, .getfield 22, 3), (8, .iload_n 1, 1), (9, .iaload, 1), (10, .invokestatic 51, 3), (13, .if_icmp .eq 51, 3), (16, .iload_n 2, 1), (17, .invokestatic 51, 3), (20, .aload_n 0, 1), (21, .getfield 25, 3), (24, .iload_n 1, 1), (25, .iaload, 1), (26, .invokestatic 51, 3), (29, .if_icmp .eq 35, 3), (32, .iload_n 2, 1), (33, .invokestatic 55, 3), (36, .aload_n 0, 1), (37, .getfield 22, 3), (40, .iload_n 1, 1), (41, .iaload, 1), (42, .invokestatic 55, 3), (45, .if_icmp .eq 19, 3), (48, .iload_n 2, 1), (49, .invokestatic 55, 3), (52, .aload_n 0, 1), (53, .getfield 25, 3), (56, .iload_n 1, 1), (57, .iaload, 1), (58, .invokestatic 55, 3), (61, .if_icmp .ne 7, 3), (64, .iconst 1, 1), (65, .goto 4, 3), (68, .iconst 0, 1), (69, .ireturn, 1)]
theorem KX0_hasFringeOn : DX0_hasFringeOn.all (fun q => decide (decode cX0_hasFringeOn q.1 = .ok (q.2.1, q.2.2))) = true := by decide +kernel
def DX0_layers : List (Nat × Instr × Nat) := [(0, .iconst 0, 1), (1, .istore_n 2, 1), (2, .iconst 0, 1), (3, .istore_n 3, 1), (4, .iload_n 3, 1), (5, .aload_n 0, 1), (6, .getfield 44, 3), (9, .if_icmp .ge 21, 3), (12, .aload_n 0, 1), (13, .iload_n 3, 1), (14, .iload_n 1, 1), (15, .invokevirtual 58, 3), (18, .ifCond .eq 6, 3), (21, .iinc 2 1, 3), (24, .iinc 3 1, 3), (27, .goto (-23), 3), (30, .iload_n 2, 1), (31, .ireturn, 1)]
theorem KX0_layers : DX0_layers.all (fun q => decide (decode cX0_layers q.1 = .ok (q.2.1, q.2.2))) = true := by decide +kernel
def DX0_says : List (Nat × Instr × Nat) := [(0, .aload_n 0, 1), (1, .getfield 40, 3), (4, .getfield 62, 3), (7, .astore 5, 2), (9, .aload 5, 2), (11, .iconst 0, 1), (12, .iload_n 3, 1), (13, .invokestatic 51, 3), (16, .iastore, 1), (17, .aload 5, 2), (19, .iconst 1, 1), (20, .iload_n 3, 1), (21, .invokestatic 55, 3), (24, .iastore, 1), (25, .aload 5, 2), (27, .iconst 2, 1), (28, .iload 4, 2), (30, .iastore, 1), (31, .aload 5, 2), (33, .iconst 3, 1), (34, .aload_n 0, 1), (35, .getfield 31, 3), (38, .iload_n 2, 1), (39, .iaload, 1), (40, .iastore, 1), (41, .aload 5, 2), (43, .iconst 4, 1), (44, .aload_n 0, 1), (45, .getfield 28, 3), (48, .iload_n 2, 1), (49, .iaload, 1), (50, .iastore, 1), (51, .aload 5, 2), (53, .iconst 5, 1), (54, .aload_n 0, 1), (55, .getfield 19, 3), (58, .iload_n 2, 1), (59, .iaload, 1), (60, .iastore, 1), (61, .aload_n 0, 1), (62, .getfield 40, 3), (65, .aload_n 0, 1), (66, .getfield 67, 3), (69, .iload_n 1, 1), (70, .invokevirtual 70, 3), (73, .istore 6, 2), (75, .iload_n 1, 1), (76, .ifCond .ne 15, 3), (79, .iconst 0, 1), (80, .bipush 99, 2), (82, .iload 6, 2), (84, .invokestatic 74, 3), (87, .invokestatic 79, 3), (90, .ireturn, 1), (91, .iload 6, 2), (93, .ifCond .ne 7, 3), (96, .iconst 0, 1), (97, .goto 4, 3), (100, .iconst 1, 1), (101, .ireturn, 1)]
theorem KX0_says : DX0_says.all (fun q => decide (decode cX0_says q.1 = .ok (q.2.1, q.2.2))) = true := by decide +kernel
def DX0_isAsleep : List (Nat × Instr × Nat) := [(0, .aload_n 0, 1), (1, .getfield 15, 3), (4, .iload_n 1, 1), (5, .iaload, 1), (6, .iconst 5, 1), (7, .if_icmp .ne 5, 3), (10, .iconst 0, 1), (11, .ireturn, 1), (12, .aload_n 0, 1), (13, .iconst 2, 1), (14, .iload_n 1, 1), (15, .aload_n 0, 1), (16, .getfield 22, 3), (19, .iload_n 1, 1), (20, .iaload, 1), (21, .iload_n 2, 1), (22, .invokevirtual 82, 3), (25, .ifCond .eq 7, 3), (28, .iconst 1, 1), (29, .goto 4, 3), (32, .iconst 0, 1), (33, .istore_n 3, 1), (34, .iload_n 3, 1), (35, .ifCond .ne 15, 3), (38, .iload_n 2, 1), (39, .bipush 14, 2), (41, .if_icmp .eq 9, 3), (44, .iload_n 2, 1), (45, .bipush 15, 2), (47, .if_icmp .ne 7, 3), (50, .iconst 1, 1), (51, .goto 4, 3), (54, .iconst 0, 1), (55, .istore 4, 2), (57, .aload_n 0, 1), (58, .getfield 15, 3), (61, .iload_n 1, 1), (62, .iaload, 1), (63, .lookupswitch 39 #[(2, 25), (4, 28)], 25), (88, .iload 4, 2), (90, .ireturn, 1), (91, .iload 4, 2), (93, .ifCond .ne 7, 3), (96, .iconst 1, 1), (97, .goto 4, 3), (100, .iconst 0, 1), (101, .ireturn, 1), (102, .iload_n 3, 1), (103, .ireturn, 1)]
theorem KX0_isAsleep : DX0_isAsleep.all (fun q => decide (decode cX0_isAsleep q.1 = .ok (q.2.1, q.2.2))) = true := by decide +kernel
def DX0_admits : List (Nat × Instr × Nat) := [(0, .aload_n 0, 1), (1, .getfield 15, 3), (4, .iload_n 1, 1), (5, .iaload, 1), (6, .iconst 3, 1), (7, .if_icmp .ne 5, 3), (10, .iconst 1, 1), (11, .ireturn, 1), (12, .aload_n 0, 1), (13, .iconst 1, 1), (14, .iload_n 1, 1), (15, .iload_n 2, 1), (16, .aload_n 0, 1), (17, .getfield 9, 3), (20, .invokevirtual 82, 3), (23, .ifCond .eq 7, 3), (26, .iconst 1, 1), (27, .goto 4, 3), (30, .iconst 0, 1), (31, .istore_n 3, 1), (32, .aload_n 0, 1), (33, .getfield 15, 3), (36, .iload_n 1, 1), (37, .iaload, 1), (38, .iconst 2, 1), (39, .invokestatic 86, 3), (42, .ifCond .eq 30, 3), (45, .iload_n 3, 1), (46, .ifCond .eq 22, 3), (49, .aload_n 0, 1), (50, .getfield 31, 3), (53, .iload_n 1, 1), (54, .iaload, 1), (55, .aload_n 0, 1), (56, .getfield 19, 3), (59, .iload_n 1, 1), (60, .iaload, 1), (61, .if_icmp .ge 7, 3), (64, .iconst 1, 1), (65, .goto 8, 3), (68, .iconst 0, 1), (69, .goto 4, 3), (72, .iload_n 3, 1), (73, .ireturn, 1)]
theorem KX0_admits : DX0_admits.all (fun q => decide (decode cX0_admits q.1 = .ok (q.2.1, q.2.2))) = true := by decide +kernel
def DX0_fineOf : List (Nat × Instr × Nat) := [(0, .iload_n 1, 1), (1, .iconst (-1), 1), (2, .if_icmp .ne 5, 3), (5, .iconst 0, 1), (6, .ireturn, 1), (7, .aload_n 0, 1), (8, .getfield 15, 3), (11, .iload_n 1, 1), (12, .iaload, 1), (13, .iconst 5, 1), (14, .if_icmp .ne 10, 3), (17, .aload_n 0, 1), (18, .getfield 19, 3), (21, .iload_n 1, 1), (22, .iaload, 1), (23, .ireturn, 1), (24, .aload_n 0, 1), (25, .iconst 0, 1), (26, .iload_n 1, 1), (27, .iload_n 2, 1), (28, .iload_n 3, 1), (29, .invokevirtual 82, 3), (32, .istore 4, 2), (34, .aload_n 0, 1), (35, .iload_n 1, 1), (36, .iload_n 2, 1), (37, .invokevirtual 89, 3), (40, .istore 5, 2), (42, .iload 5, 2), (44, .ifCond .eq 17, 3), (47, .iload 4, 2), (49, .iconst 2, 1), (50, .aload_n 0, 1), (51, .getfield 19, 3), (54, .iload_n 1, 1), (55, .iaload, 1), (56, .imul, 1), (57, .iadd, 1), (58, .goto 5, 3), (61, .iload 4, 2), (63, .istore 6, 2), (65, .aload_n 0, 1), (66, .getfield 15, 3), (69, .iload_n 1, 1), (70, .iaload, 1), (71, .tableswitch 51 1 4 #[29, 51, 32, 37], 29), (100, .iload 6, 2), (102, .ireturn, 1), (103, .iconst 2, 1), (104, .iload 6, 2), (106, .imul, 1), (107, .ireturn, 1), (108, .iload 5, 2), (110, .ifCond .eq 7, 3), (113, .iconst 0, 1), (114, .goto 7, 3), (117, .iload 4, 2), (119, .iconst 2, 1), (120, .idiv, 1), (121, .ireturn, 1), (122, .iload 4, 2), (124, .ireturn, 1)]
theorem KX0_fineOf : DX0_fineOf.all (fun q => decide (decode cX0_fineOf q.1 = .ok (q.2.1, q.2.2))) = true := by decide +kernel
def DX0_awakeAt : List (Nat × Instr × Nat) := [(0, .iconst 0, 1), (1, .istore_n 2, 1), (2, .iconst 0, 1), (3, .istore_n 3, 1), (4, .iload_n 3, 1), (5, .aload_n 0, 1), (6, .getfield 44, 3), (9, .if_icmp .ge 24, 3), (12, .aload_n 0, 1), (13, .iload_n 3, 1), (14, .iload_n 1, 1), (15, .invokevirtual 92, 3), (18, .ifCond .ne 9, 3), (21, .iload_n 2, 1), (22, .iconst 1, 1), (23, .iload_n 3, 1), (24, .ishl, 1), (25, .ior, 1), (26, .istore_n 2, 1), (27, .iinc 3 1, 3), (30, .goto (-26), 3), (33, .iload_n 2, 1), (34, .ireturn, 1)]
theorem KX0_awakeAt : DX0_awakeAt.all (fun q => decide (decode cX0_awakeAt q.1 = .ok (q.2.1, q.2.2))) = true := by decide +kernel
def DX0_rulerAmong : List (Nat × Instr × Nat) := [(0, .aload_n 0, 1), (1, .getfield 44, 3), (4, .iconst 1, 1), (5, .isub, 1), (6, .istore_n 3, 1), (7, .iload_n 3, 1), (8, .ifCond .lt 28, 3), (11, .iload_n 1, 1), (12, .iload_n 3, 1), (13, .ishr, 1), (14, .iconst 1, 1), (15, .iand, 1), (16, .ifCond .eq 14, 3), (19, .aload_n 0, 1), (20, .iload_n 3, 1), (21, .iload_n 2, 1), (22, .invokevirtual 58, 3), (25, .ifCond .eq 5, 3), (28, .iload_n 3, 1), (29, .ireturn, 1), (30, .iinc 3 (-1), 3), (33, .goto (-26), 3), (36, .iconst (-1), 1), (37, .ireturn, 1)]
theorem KX0_rulerAmong : DX0_rulerAmong.all (fun q => decide (decode cX0_rulerAmong q.1 = .ok (q.2.1, q.2.2))) = true := by decide +kernel
def DX0_look : List (Nat × Instr × Nat) := [(0, .aload_n 0, 1), (1, .invokevirtual 95, 3), (4, .iconst 0, 1), (5, .istore_n 1, 1), (6, .iload_n 1, 1), (7, .bipush 36, 2), (9, .if_icmp .ge 30, 3), (12, .aload_n 0, 1), (13, .getfield 37, 3), (16, .iload_n 1, 1), (17, .aload_n 0, 1), (18, .aload_n 0, 1), (19, .getfield 34, 3), (22, .iload_n 1, 1), (23, .iaload, 1), (24, .iload_n 1, 1), (25, .aload_n 0, 1), (26, .getfield 9, 3), (29, .invokevirtual 98, 3), (32, .iastore, 1), (33, .iinc 1 1, 3), (36, .goto (-30), 3), (39, .return_, 1)]
theorem KX0_look : DX0_look.all (fun q => decide (decode cX0_look q.1 = .ok (q.2.1, q.2.2))) = true := by decide +kernel
def DX0_findRulers : List (Nat × Instr × Nat) := [(0, .aload_n 0, 1), (1, .aload_n 0, 1), (2, .getfield 9, 3), (5, .invokevirtual 102, 3), (8, .istore_n 1, 1), (9, .iconst 0, 1), (10, .istore_n 2, 1), (11, .iload_n 2, 1), (12, .bipush 36, 2), (14, .if_icmp .ge 21, 3), (17, .aload_n 0, 1), (18, .getfield 34, 3), (21, .iload_n 2, 1), (22, .aload_n 0, 1), (23, .iload_n 1, 1), (24, .iload_n 2, 1), (25, .invokevirtual 105, 3), (28, .iastore, 1), (29, .iinc 2 1, 3), (32, .goto (-21), 3), (35, .return_, 1)]
theorem KX0_findRulers : DX0_findRulers.all (fun q => decide (decode cX0_findRulers q.1 = .ok (q.2.1, q.2.2))) = true := by decide +kernel
def DX0_letsOn : List (Nat × Instr × Nat) := [(0, .aload_n 0, 1), (1, .getfield 34, 3), (4, .iload_n 1, 1), (5, .iaload, 1), (6, .iconst (-1), 1), (7, .if_icmp .eq 17, 3), (10, .aload_n 0, 1), (11, .aload_n 0, 1), (12, .getfield 34, 3), (15, .iload_n 1, 1), (16, .iaload, 1), (17, .iload_n 1, 1), (18, .invokevirtual 108, 3), (21, .ifCond .eq 7, 3), (24, .iconst 1, 1), (25, .goto 4, 3), (28, .iconst 0, 1), (29, .ireturn, 1)]
theorem KX0_letsOn : DX0_letsOn.all (fun q => decide (decode cX0_letsOn q.1 = .ok (q.2.1, q.2.2))) = true := by decide +kernel
def DX0_realm : List (Nat × Instr × Nat) := [(0, .lconst 0, 1), (1, .lstore_n 2, 1), (2, .iconst 0, 1), (3, .istore 4, 2), (5, .iload 4, 2), (7, .bipush 36, 2), (9, .if_icmp .ge 27, 3), (12, .aload_n 0, 1), (13, .getfield 34, 3), (16, .iload 4, 2), (18, .iaload, 1), (19, .iload_n 1, 1), (20, .if_icmp .ne 10, 3), (23, .lload_n 2, 1), (24, .lconst 1, 1), (25, .iload 4, 2), (27, .lshl, 1), (28, .lor, 1), (29, .lstore_n 2, 1), (30, .iinc 4 1, 3), (33, .goto (-28), 3), (36, .lload_n 2, 1), (37, .lreturn, 1)]
theorem KX0_realm : DX0_realm.all (fun q => decide (decode cX0_realm q.1 = .ok (q.2.1, q.2.2))) = true := by decide +kernel
def DX0_fineOfRealm : List (Nat × Instr × Nat) := [(0, .iconst 0, 1), (1, .istore_n 2, 1), (2, .iconst 0, 1), (3, .istore_n 3, 1), (4, .iload_n 3, 1), (5, .bipush 36, 2), (7, .if_icmp .ge 28, 3), (10, .aload_n 0, 1), (11, .getfield 34, 3), (14, .iload_n 3, 1), (15, .iaload, 1), (16, .iload_n 1, 1), (17, .if_icmp .ne 12, 3), (20, .iload_n 2, 1), (21, .aload_n 0, 1), (22, .getfield 37, 3), (25, .iload_n 3, 1), (26, .iaload, 1), (27, .iadd, 1), (28, .istore_n 2, 1), (29, .iinc 3 1, 3), (32, .goto (-28), 3), (35, .iload_n 2, 1), (36, .ireturn, 1)]
theorem KX0_fineOfRealm : DX0_fineOfRealm.all (fun q => decide (decode cX0_fineOfRealm q.1 = .ok (q.2.1, q.2.2))) = true := by decide +kernel
def DX0_ruledNow : List (Nat × Instr × Nat) := [(0, .aload_n 0, 1), (1, .invokevirtual 95, 3), (4, .aload_n 0, 1), (5, .iconst 1, 1), (6, .iload_n 1, 1), (7, .ishl, 1), (8, .invokevirtual 111, 3), (11, .ireturn, 1)]
theorem KX0_ruledNow : DX0_ruledNow.all (fun q => decide (decode cX0_ruledNow q.1 = .ok (q.2.1, q.2.2))) = true := by decide +kernel
def DX0_ruledByAny : List (Nat × Instr × Nat) := [(0, .iconst 0, 1), (1, .istore_n 2, 1), (2, .iconst 0, 1), (3, .istore_n 3, 1), (4, .iload_n 3, 1), (5, .bipush 36, 2), (7, .if_icmp .ge 35, 3), (10, .aload_n 0, 1), (11, .getfield 34, 3), (14, .iload_n 3, 1), (15, .iaload, 1), (16, .iconst (-1), 1), (17, .if_icmp .eq 19, 3), (20, .iload_n 1, 1), (21, .aload_n 0, 1), (22, .getfield 34, 3), (25, .iload_n 3, 1), (26, .iaload, 1), (27, .ishr, 1), (28, .iconst 1, 1), (29, .iand, 1), (30, .ifCond .eq 6, 3), (33, .iinc 2 1, 3), (36, .iinc 3 1, 3), (39, .goto (-35), 3), (42, .iload_n 2, 1), (43, .ireturn, 1)]
theorem KX0_ruledByAny : DX0_ruledByAny.all (fun q => decide (decode cX0_ruledByAny q.1 = .ok (q.2.1, q.2.2))) = true := by decide +kernel
def DX0_neighbours : List (Nat × Instr × Nat) := [(0, .iconst 0, 1), (1, .istore_n 2, 1), (2, .iconst 0, 1), (3, .istore_n 3, 1), (4, .iload_n 3, 1), (5, .bipush 36, 2), (7, .if_icmp .ge 82, 3), (10, .iconst 0, 1), (11, .istore 4, 2), (13, .iload 4, 2), (15, .iconst 4, 1), (16, .if_icmp .ge 67, 3), (19, .iload_n 3, 1), (20, .iload 4, 2), (22, .invokestatic 114, 3), (25, .istore 5, 2), (27, .aload_n 0, 1), (28, .getfield 34, 3), (31, .iload_n 3, 1), (32, .iaload, 1), (33, .iload_n 1, 1), (34, .if_icmp .ne 43, 3), (37, .iload 5, 2), (39, .iconst (-1), 1), (40, .if_icmp .eq 37, 3), (43, .aload_n 0, 1), (44, .getfield 34, 3), (47, .iload 5, 2), (49, .iaload, 1), (50, .iload_n 1, 1), (51, .if_icmp .eq 26, 3), (54, .aload_n 0, 1), (55, .getfield 34, 3), (58, .iload 5, 2), (60, .iaload, 1), (61, .iconst (-1), 1), (62, .if_icmp .eq 15, 3), (65, .iload_n 2, 1), (66, .iconst 1, 1), (67, .aload_n 0, 1), (68, .getfield 34, 3), (71, .iload 5, 2), (73, .iaload, 1), (74, .ishl, 1), (75, .ior, 1), (76, .istore_n 2, 1), (77, .iinc 4 1, 3), (80, .goto (-67), 3), (83, .iinc 3 1, 3), (86, .goto (-82), 3), (89, .iload_n 2, 1), (90, .ireturn, 1)]
theorem KX0_neighbours : DX0_neighbours.all (fun q => decide (decode cX0_neighbours q.1 = .ok (q.2.1, q.2.2))) = true := by decide +kernel
def DX0_joined : List (Nat × Instr × Nat) := [(0, .aload_n 0, 1), (1, .iconst 1, 1), (2, .iload_n 1, 1), (3, .ishl, 1), (4, .invokevirtual 111, 3), (7, .ifCond .ne 7, 3), (10, .iconst 0, 1), (11, .goto 6, 3), (14, .iconst 1, 1), (15, .iload_n 1, 1), (16, .ishl, 1), (17, .istore_n 2, 1), (18, .iconst 0, 1), (19, .istore_n 3, 1), (20, .iload_n 3, 1), (21, .bipush 6, 2), (23, .if_icmp .ge 45, 3), (26, .iconst 0, 1), (27, .istore 4, 2), (29, .iload 4, 2), (31, .aload_n 0, 1), (32, .getfield 44, 3), (35, .if_icmp .ge 27, 3), (38, .iload_n 2, 1), (39, .iload 4, 2), (41, .ishr, 1), (42, .iconst 1, 1), (43, .iand, 1), (44, .ifCond .eq 12, 3), (47, .iload_n 2, 1), (48, .aload_n 0, 1), (49, .iload 4, 2), (51, .invokevirtual 117, 3), (54, .ior, 1), (55, .istore_n 2, 1), (56, .iinc 4 1, 3), (59, .goto (-30), 3), (62, .iinc 3 1, 3), (65, .goto (-45), 3), (68, .iload_n 2, 1), (69, .ireturn, 1)]
theorem KX0_joined : DX0_joined.all (fun q => decide (decode cX0_joined q.1 = .ok (q.2.1, q.2.2))) = true := by decide +kernel
def DX0_welcome : List (Nat × Instr × Nat) := [(0, .iconst 0, 1), (1, .istore_n 2, 1), (2, .iload_n 2, 1), (3, .aload_n 0, 1), (4, .getfield 44, 3), (7, .if_icmp .ge 38, 3), (10, .iload_n 1, 1), (11, .iload_n 2, 1), (12, .ishr, 1), (13, .iconst 1, 1), (14, .iand, 1), (15, .ifCond .eq 24, 3), (18, .aload_n 0, 1), (19, .getfield 31, 3), (22, .iload_n 2, 1), (23, .iaload, 1), (24, .bipush 99, 2), (26, .if_icmp .ge 13, 3), (29, .aload_n 0, 1), (30, .getfield 31, 3), (33, .iload_n 2, 1), (34, .dup2, 1), (35, .iaload, 1), (36, .iconst 1, 1), (37, .iadd, 1), (38, .iastore, 1), (39, .iinc 2 1, 3), (42, .goto (-40), 3), (45, .return_, 1)]
theorem KX0_welcome : DX0_welcome.all (fun q => decide (decode cX0_welcome q.1 = .ok (q.2.1, q.2.2))) = true := by decide +kernel
def DX0_fineOfAll : List (Nat × Instr × Nat) := [(0, .iconst 0, 1), (1, .istore_n 3, 1), (2, .iconst 0, 1), (3, .istore 4, 2), (5, .iload 4, 2), (7, .bipush 36, 2), (9, .if_icmp .ge 26, 3), (12, .iload_n 3, 1), (13, .aload_n 0, 1), (14, .aload_n 0, 1), (15, .iload_n 2, 1), (16, .iload 4, 2), (18, .invokevirtual 105, 3), (21, .iload 4, 2), (23, .iload_n 1, 1), (24, .invokevirtual 98, 3), (27, .iadd, 1), (28, .istore_n 3, 1), (29, .iinc 4 1, 3), (32, .goto (-27), 3), (35, .iload_n 3, 1), (36, .ireturn, 1)]
theorem KX0_fineOfAll : DX0_fineOfAll.all (fun q => decide (decode cX0_fineOfAll q.1 = .ok (q.2.1, q.2.2))) = true := by decide +kernel
def DX0_fineWere : List (Nat × Instr × Nat) := [(0, .aload_n 0, 1), (1, .aload_n 0, 1), (2, .aload_n 0, 1), (3, .iload_n 2, 1), (4, .invokevirtual 102, 3), (7, .iload_n 1, 1), (8, .invokevirtual 105, 3), (11, .iload_n 1, 1), (12, .iload_n 2, 1), (13, .invokevirtual 98, 3), (16, .ireturn, 1)]
theorem KX0_fineWere : DX0_fineWere.all (fun q => decide (decode cX0_fineWere q.1 = .ok (q.2.1, q.2.2))) = true := by decide +kernel
def DX0_firstOther : List (Nat × Instr × Nat) := [(0, .iconst 0, 1), (1, .istore 4, 2), (3, .iload 4, 2), (5, .iload_n 2, 1), (6, .if_icmp .ge 33, 3), (9, .iload 4, 2), (11, .aload_n 1, 1), (12, .arraylength, 1), (13, .if_icmp .ge 26, 3), (16, .aload_n 0, 1), (17, .iload_n 3, 1), (18, .iload 4, 2), (20, .invokevirtual 120, 3), (23, .aload_n 1, 1), (24, .iload 4, 2), (26, .iaload, 1), (27, .if_icmp .eq 6, 3), (30, .iload 4, 2), (32, .ireturn, 1), (33, .iinc 4 1, 3), (36, .goto (-33), 3), (39, .iconst (-1), 1), (40, .ireturn, 1)]
theorem KX0_firstOther : DX0_firstOther.all (fun q => decide (decode cX0_firstOther q.1 = .ok (q.2.1, q.2.2))) = true := by decide +kernel
def DX1_init : List (Nat × Instr × Nat) := [(0, .aload_n 0, 1), (1, .invokespecial 3, 3), (4, .aload_n 0, 1), (5, .bipush 6, 2), (7, .newarray .int, 2), (9, .putfield 9, 3), (12, .aload_n 0, 1), (13, .bipush 6, 2), (15, .newarray .int, 2), (17, .putfield 15, 3), (20, .aload_n 0, 1), (21, .bipush 6, 2), (23, .newarray .int, 2), (25, .putfield 18, 3), (28, .return_, 1)]
theorem KX1_init : DX1_init.all (fun q => decide (decode cX1_init q.1 = .ok (q.2.1, q.2.2))) = true := by decide +kernel
def DX1_keep : List (Nat × Instr × Nat) := [(0, .aload_n 0, 1), (1, .iconst 1, 1), (2, .putfield 21, 3), (5, .aload_n 0, 1), (6, .aload_n 1, 1), (7, .getfield 25, 3), (10, .putfield 31, 3), (13, .aload_n 0, 1), (14, .aload_n 1, 1), (15, .getfield 32, 3), (18, .putfield 35, 3), (21, .aload_n 0, 1), (22, .aload_n 1, 1), (23, .getfield 36, 3), (26, .putfield 39, 3), (29, .aload_n 1, 1), (30, .getfield 40, 3), (33, .iconst 0, 1), (34, .aload_n 0, 1), (35, .getfield 9, 3), (38, .iconst 0, 1), (39, .bipush 6, 2), (41, .invokestatic 41, 3), (44, .aload_n 1, 1), (45, .getfield 47, 3), (48, .iconst 0, 1), (49, .aload_n 0, 1), (50, .getfield 15, 3), (53, .iconst 0, 1), (54, .bipush 6, 2), (56, .invokestatic 41, 3), (59, .aload_n 1, 1), (60, .getfield 48, 3), (63, .iconst 0, 1), (64, .aload_n 0, 1), (65, .getfield 18, 3), (68, .iconst 0, 1), (69, .bipush 6, 2), (71, .invokestatic 41, 3), (74, .return_, 1)]
theorem KX1_keep : DX1_keep.all (fun q => decide (decode cX1_keep q.1 = .ok (q.2.1, q.2.2))) = true := by decide +kernel
def DX1_restore : List (Nat × Instr × Nat) := [(0, .aload_n 1, 1), (1, .aload_n 0, 1), (2, .getfield 31, 3), (5, .putfield 25, 3), (8, .aload_n 1, 1), (9, .aload_n 0, 1), (10, .getfield 35, 3), (13, .putfield 32, 3), (16, .aload_n 1, 1), (17, .aload_n 0, 1), (18, .getfield 39, 3), (21, .putfield 36, 3), (24, .iconst 0, 1), (25, .istore_n 2, 1), (26, .iload_n 2, 1), (27, .aload_n 0, 1), (28, .getfield 31, 3), (31, .if_icmp .ge 32, 3), (34, .iload_n 2, 1), (35, .bipush 6, 2), (37, .if_icmp .ge 26, 3), (40, .aload_n 1, 1), (41, .iload_n 2, 1), (42, .aload_n 0, 1), (43, .getfield 9, 3), (46, .iload_n 2, 1), (47, .iaload, 1), (48, .aload_n 0, 1), (49, .getfield 15, 3), (52, .iload_n 2, 1), (53, .iaload, 1), (54, .invokevirtual 49, 3), (57, .iinc 2 1, 3), (60, .goto (-34), 3), (63, .aload_n 0, 1), (64, .getfield 18, 3), (67, .iconst 0, 1), (68, .aload_n 1, 1), (69, .getfield 48, 3), (72, .iconst 0, 1), (73, .bipush 6, 2), (75, .invokestatic 41, 3), (78, .return_, 1)]
theorem KX1_restore : DX1_restore.all (fun q => decide (decode cX1_restore q.1 = .ok (q.2.1, q.2.2))) = true := by decide +kernel
def DX2_init : List (Nat × Instr × Nat) := [(0, .aload_n 0, 1), (1, .invokespecial 3, 3), (4, .aload_n 0, 1), (5, .aload_n 1, 1), (6, .putfield 9, 3), (9, .return_, 1)]
theorem KX2_init : DX2_init.all (fun q => decide (decode cX2_init q.1 = .ok (q.2.1, q.2.2))) = true := by decide +kernel
def DX2_stroll : List (Nat × Instr × Nat) := [(0, .aload_n 0, 1), (1, .iload_n 2, 1), (2, .putfield 15, 3), (5, .aload_n 0, 1), (6, .iconst 0, 1), (7, .putfield 19, 3), (10, .aload_n 0, 1), (11, .iconst 0, 1), (12, .putfield 22, 3), (15, .iload_n 1, 1), (16, .iconst 1, 1), (17, .iadd, 1), (18, .i2l, 1), (19, .lstore 4, 2), (21, .iconst 0, 1), (22, .istore 6, 2), (24, .iload 6, 2), (26, .iload_n 3, 1), (27, .if_icmp .ge 109, 3), (30, .aload_n 0, 1), (31, .dup, 1), (32, .getfield 19, 3), (35, .aload_n 0, 1), (36, .getfield 9, 3), (39, .getfield 25, 3), (42, .aload_n 0, 1), (43, .getfield 15, 3), (46, .iaload, 1), (47, .iadd, 1), (48, .putfield 19, 3), (51, .lload 4, 2), (53, .ldc2_w 31, 3), (56, .lmul, 1), (57, .ldc2_w 33, 3), (60, .lrem, 1), (61, .lstore 4, 2), (63, .aload_n 0, 1), (64, .getfield 15, 3), (67, .lload 4, 2), (69, .ldc2_w 35, 3), (72, .lrem, 1), (73, .l2i, 1), (74, .invokestatic 37, 3), (77, .istore 7, 2), (79, .iload 7, 2), (81, .iconst (-1), 1), (82, .if_icmp .eq 48, 3), (85, .aload_n 0, 1), (86, .dup, 1), (87, .getfield 22, 3), (90, .aload_n 0, 1), (91, .getfield 9, 3), (94, .getfield 41, 3), (97, .aload_n 0, 1), (98, .getfield 15, 3), (101, .iaload, 1), (102, .aload_n 0, 1), (103, .getfield 9, 3), (106, .getfield 41, 3), (109, .iload 7, 2), (111, .iaload, 1), (112, .if_icmp .ne 7, 3), (115, .iconst 0, 1), (116, .goto 4, 3), (119, .iconst 1, 1), (120, .iadd, 1), (121, .putfield 22, 3), (124, .aload_n 0, 1), (125, .iload 7, 2), (127, .putfield 15, 3), (130, .iinc 6 1, 3), (133, .goto (-109), 3), (136, .return_, 1)]
theorem KX2_stroll : DX2_stroll.all (fun q => decide (decode cX2_stroll q.1 = .ok (q.2.1, q.2.2))) = true := by decide +kernel
def DX3_init : List (Nat × Instr × Nat) := [(0, .aload_n 0, 1), (1, .invokespecial 3, 3), (4, .aload_n 0, 1), (5, .sipush 160, 3), (8, .newarray .int, 2), (10, .putfield 9, 3), (13, .aload_n 0, 1), (14, .iconst 3, 1), (15, .newarray .int, 2), (17, .putfield 15, 3), (20, .aload_n 0, 1), (21, .aload_n 1, 1), (22, .putfield 18, 3), (25, .return_, 1)]
theorem KX3_init : DX3_init.all (fun q => decide (decode cX3_init q.1 = .ok (q.2.1, q.2.2))) = true := by decide +kernel
def DX3_fault : List (Nat × Instr × Nat) := [(0, .aload_n 0, 1), (1, .getfield 18, 3), (4, .invokevirtual 22, 3), (7, .aload_n 0, 1), (8, .iconst 0, 1), (9, .putfield 27, 3), (12, .aload_n 0, 1), (13, .iconst 0, 1), (14, .putfield 31, 3), (17, .aload_n 0, 1), (18, .iconst 0, 1), (19, .putfield 34, 3), (22, .iconst 0, 1), (23, .istore_n 1, 1), (24, .iload_n 1, 1), (25, .iconst 3, 1), (26, .if_icmp .ge 38, 3), (29, .aload_n 0, 1), (30, .bipush 9, 2), (32, .iload_n 1, 1), (33, .iadd, 1), (34, .invokevirtual 38, 3), (37, .aload_n 0, 1), (38, .iconst 0, 1), (39, .invokevirtual 42, 3), (42, .aload_n 0, 1), (43, .bipush 19, 2), (45, .invokevirtual 38, 3), (48, .aload_n 0, 1), (49, .getfield 15, 3), (52, .iload_n 1, 1), (53, .aload_n 0, 1), (54, .getfield 27, 3), (57, .iastore, 1), (58, .iinc 1 1, 3), (61, .goto (-37), 3), (64, .aload_n 0, 1), (65, .bipush 21, 2), (67, .invokevirtual 38, 3), (70, .aload_n 0, 1), (71, .getfield 34, 3), (74, .ifCond .eq 18, 3), (77, .aload_n 0, 1), (78, .getfield 18, 3), (81, .getfield 45, 3), (84, .aload_n 0, 1), (85, .getfield 31, 3), (88, .iaload, 1), (89, .goto 4, 3), (92, .iconst (-1), 1), (93, .ireturn, 1)]
theorem KX3_fault : DX3_fault.all (fun q => decide (decode cX3_fault q.1 = .ok (q.2.1, q.2.2))) = true := by decide +kernel
def DX3_isAt : List (Nat × Instr × Nat) := [(0, .aload_n 0, 1), (1, .getfield 34, 3), (4, .ifCond .ne 23, 3), (7, .aload_n 0, 1), (8, .getfield 18, 3), (11, .getfield 48, 3), (14, .aload_n 0, 1), (15, .getfield 31, 3), (18, .iaload, 1), (19, .iload_n 1, 1), (20, .if_icmp .ne 7, 3), (23, .iconst 1, 1), (24, .goto 4, 3), (27, .iconst 0, 1), (28, .ireturn, 1)]
theorem KX3_isAt : DX3_isAt.all (fun q => decide (decode cX3_isAt q.1 = .ok (q.2.1, q.2.2))) = true := by decide +kernel
def DX3_demand : List (Nat × Instr × Nat) := [(0, .aload_n 0, 1), (1, .iload_n 1, 1), (2, .invokevirtual 51, 3), (5, .ifCond .eq 10, 3), (8, .aload_n 0, 1), (9, .invokevirtual 55, 3), (12, .goto 8, 3), (15, .aload_n 0, 1), (16, .iconst 1, 1), (17, .putfield 34, 3), (20, .return_, 1)]
theorem KX3_demand : DX3_demand.all (fun q => decide (decode cX3_demand q.1 = .ok (q.2.1, q.2.2))) = true := by decide +kernel
def DX3_goOn : List (Nat × Instr × Nat) := [(0, .aload_n 0, 1), (1, .getfield 31, 3), (4, .aload_n 0, 1), (5, .getfield 18, 3), (8, .getfield 58, 3), (11, .iconst 1, 1), (12, .isub, 1), (13, .if_icmp .ge 13, 3), (16, .aload_n 0, 1), (17, .dup, 1), (18, .getfield 31, 3), (21, .iconst 1, 1), (22, .iadd, 1), (23, .putfield 31, 3), (26, .return_, 1)]
theorem KX3_goOn : DX3_goOn.all (fun q => decide (decode cX3_goOn q.1 = .ok (q.2.1, q.2.2))) = true := by decide +kernel
def DX3_write : List (Nat × Instr × Nat) := [(0, .aload_n 0, 1), (1, .getfield 27, 3), (4, .sipush 160, 3), (7, .if_icmp .ge 20, 3), (10, .aload_n 0, 1), (11, .getfield 9, 3), (14, .aload_n 0, 1), (15, .dup, 1), (16, .getfield 27, 3), (19, .dup_x1, 1), (20, .iconst 1, 1), (21, .iadd, 1), (22, .putfield 27, 3), (25, .iload_n 1, 1), (26, .iastore, 1), (27, .return_, 1)]
theorem KX3_write : DX3_write.all (fun q => decide (decode cX3_write q.1 = .ok (q.2.1, q.2.2))) = true := by decide +kernel
def DX3_readOr : List (Nat × Instr × Nat) := [(0, .aload_n 0, 1), (1, .iload_n 1, 1), (2, .invokevirtual 61, 3), (5, .iconst 0, 1), (6, .istore_n 2, 1), (7, .iload_n 2, 1), (8, .sipush 160, 3), (11, .if_icmp .ge 33, 3), (14, .aload_n 0, 1), (15, .bipush 6, 2), (17, .invokevirtual 51, 3), (20, .ifCond .eq 24, 3), (23, .aload_n 0, 1), (24, .invokevirtual 55, 3), (27, .aload_n 0, 1), (28, .iload_n 1, 1), (29, .invokevirtual 61, 3), (32, .aload_n 0, 1), (33, .bipush 6, 2), (35, .invokevirtual 64, 3), (38, .iinc 2 1, 3), (41, .goto (-34), 3), (44, .return_, 1)]
theorem KX3_readOr : DX3_readOr.all (fun q => decide (decode cX3_readOr q.1 = .ok (q.2.1, q.2.2))) = true := by decide +kernel
def DX3_readAnd : List (Nat × Instr × Nat) := [(0, .aload_n 0, 1), (1, .iload_n 1, 1), (2, .invokevirtual 67, 3), (5, .iconst 0, 1), (6, .istore_n 2, 1), (7, .iload_n 2, 1), (8, .sipush 160, 3), (11, .if_icmp .ge 33, 3), (14, .aload_n 0, 1), (15, .bipush 7, 2), (17, .invokevirtual 51, 3), (20, .ifCond .eq 24, 3), (23, .aload_n 0, 1), (24, .invokevirtual 55, 3), (27, .aload_n 0, 1), (28, .iload_n 1, 1), (29, .invokevirtual 67, 3), (32, .aload_n 0, 1), (33, .bipush 7, 2), (35, .invokevirtual 64, 3), (38, .iinc 2 1, 3), (41, .goto (-34), 3), (44, .return_, 1)]
theorem KX3_readAnd : DX3_readAnd.all (fun q => decide (decode cX3_readAnd q.1 = .ok (q.2.1, q.2.2))) = true := by decide +kernel
def DX3_readNot : List (Nat × Instr × Nat) := [(0, .aload_n 0, 1), (1, .bipush 8, 2), (3, .invokevirtual 51, 3), (6, .ifCond .eq 25, 3), (9, .aload_n 0, 1), (10, .iload_n 1, 1), (11, .invokevirtual 70, 3), (14, .ifCond .eq 16, 3), (17, .aload_n 0, 1), (18, .iload_n 1, 1), (19, .iconst 1, 1), (20, .iadd, 1), (21, .invokevirtual 67, 3), (24, .aload_n 0, 1), (25, .bipush 8, 2), (27, .invokevirtual 64, 3), (30, .return_, 1), (31, .aload_n 0, 1), (32, .iload_n 1, 1), (33, .invokevirtual 73, 3), (36, .aload_n 0, 1), (37, .bipush 12, 2), (39, .invokevirtual 51, 3), (42, .ifCond .ne 12, 3), (45, .aload_n 0, 1), (46, .bipush 13, 2), (48, .invokevirtual 51, 3), (51, .ifCond .eq 30, 3), (54, .aload_n 0, 1), (55, .getfield 18, 3), (58, .getfield 48, 3), (61, .aload_n 0, 1), (62, .getfield 31, 3), (65, .iaload, 1), (66, .istore_n 2, 1), (67, .aload_n 0, 1), (68, .invokevirtual 55, 3), (71, .aload_n 0, 1), (72, .iload_n 1, 1), (73, .invokevirtual 73, 3), (76, .aload_n 0, 1), (77, .iload_n 2, 1), (78, .invokevirtual 64, 3), (81, .return_, 1)]
theorem KX3_readNot : DX3_readNot.all (fun q => decide (decode cX3_readNot q.1 = .ok (q.2.1, q.2.2))) = true := by decide +kernel
def DX3_readSum : List (Nat × Instr × Nat) := [(0, .aload_n 0, 1), (1, .iload_n 1, 1), (2, .invokevirtual 76, 3), (5, .iconst 0, 1), (6, .istore_n 2, 1), (7, .iload_n 2, 1), (8, .sipush 160, 3), (11, .if_icmp .ge 54, 3), (14, .aload_n 0, 1), (15, .bipush 14, 2), (17, .invokevirtual 51, 3), (20, .ifCond .ne 12, 3), (23, .aload_n 0, 1), (24, .bipush 15, 2), (26, .invokevirtual 51, 3), (29, .ifCond .eq 36, 3), (32, .aload_n 0, 1), (33, .getfield 18, 3), (36, .getfield 48, 3), (39, .aload_n 0, 1), (40, .getfield 31, 3), (43, .iaload, 1), (44, .istore_n 3, 1), (45, .aload_n 0, 1), (46, .invokevirtual 55, 3), (49, .aload_n 0, 1), (50, .iload_n 1, 1), (51, .invokevirtual 76, 3), (54, .aload_n 0, 1), (55, .iload_n 3, 1), (56, .invokevirtual 64, 3), (59, .iinc 2 1, 3), (62, .goto (-55), 3), (65, .return_, 1)]
theorem KX3_readSum : DX3_readSum.all (fun q => decide (decode cX3_readSum q.1 = .ok (q.2.1, q.2.2))) = true := by decide +kernel
def DX3_readTerm : List (Nat × Instr × Nat) := [(0, .aload_n 0, 1), (1, .iload_n 1, 1), (2, .invokevirtual 79, 3), (5, .iconst 0, 1), (6, .istore_n 2, 1), (7, .iload_n 2, 1), (8, .sipush 160, 3), (11, .if_icmp .ge 33, 3), (14, .aload_n 0, 1), (15, .bipush 16, 2), (17, .invokevirtual 51, 3), (20, .ifCond .eq 24, 3), (23, .aload_n 0, 1), (24, .invokevirtual 55, 3), (27, .aload_n 0, 1), (28, .iload_n 1, 1), (29, .invokevirtual 79, 3), (32, .aload_n 0, 1), (33, .bipush 16, 2), (35, .invokevirtual 64, 3), (38, .iinc 2 1, 3), (41, .goto (-34), 3), (44, .return_, 1)]
theorem KX3_readTerm : DX3_readTerm.all (fun q => decide (decode cX3_readTerm q.1 = .ok (q.2.1, q.2.2))) = true := by decide +kernel
def DX3_readOne : List (Nat × Instr × Nat) := [(0, .aload_n 0, 1), (1, .bipush 15, 2), (3, .invokevirtual 51, 3), (6, .ifCond .eq 27, 3), (9, .aload_n 0, 1), (10, .iload_n 1, 1), (11, .invokevirtual 70, 3), (14, .ifCond .eq 121, 3), (17, .aload_n 0, 1), (18, .iload_n 1, 1), (19, .iconst 1, 1), (20, .iadd, 1), (21, .invokevirtual 79, 3), (24, .aload_n 0, 1), (25, .bipush 20, 2), (27, .invokevirtual 64, 3), (30, .goto 105, 3), (33, .aload_n 0, 1), (34, .bipush 17, 2), (36, .invokevirtual 51, 3), (39, .ifCond .eq 27, 3), (42, .aload_n 0, 1), (43, .iload_n 1, 1), (44, .invokevirtual 70, 3), (47, .ifCond .eq 88, 3), (50, .aload_n 0, 1), (51, .iload_n 1, 1), (52, .iconst 1, 1), (53, .iadd, 1), (54, .invokevirtual 42, 3), (57, .aload_n 0, 1), (58, .bipush 18, 2), (60, .invokevirtual 38, 3), (63, .goto 72, 3), (66, .aload_n 0, 1), (67, .getfield 34, 3), (70, .ifCond .ne 60, 3), (73, .aload_n 0, 1), (74, .getfield 18, 3), (77, .getfield 48, 3), (80, .aload_n 0, 1), (81, .getfield 31, 3), (84, .iaload, 1), (85, .bipush 23, 2), (87, .if_icmp .ge 20, 3), (90, .aload_n 0, 1), (91, .getfield 18, 3), (94, .getfield 48, 3), (97, .aload_n 0, 1), (98, .getfield 31, 3), (101, .iaload, 1), (102, .bipush 6, 2), (104, .if_icmp .ge 26, 3), (107, .aload_n 0, 1), (108, .aload_n 0, 1), (109, .getfield 18, 3), (112, .getfield 48, 3), (115, .aload_n 0, 1), (116, .getfield 31, 3), (119, .iaload, 1), (120, .invokevirtual 64, 3), (123, .aload_n 0, 1), (124, .invokevirtual 55, 3), (127, .goto 8, 3), (130, .aload_n 0, 1), (131, .iconst 1, 1), (132, .putfield 34, 3), (135, .return_, 1)]
theorem KX3_readOne : DX3_readOne.all (fun q => decide (decode cX3_readOne q.1 = .ok (q.2.1, q.2.2))) = true := by decide +kernel
def DX3_opens : List (Nat × Instr × Nat) := [(0, .iload_n 1, 1), (1, .iconst 5, 1), (2, .if_icmp .lt 10, 3), (5, .aload_n 0, 1), (6, .iconst 1, 1), (7, .putfield 34, 3), (10, .iconst 0, 1), (11, .ireturn, 1), (12, .aload_n 0, 1), (13, .invokevirtual 55, 3), (16, .iconst 1, 1), (17, .ireturn, 1)]
theorem KX3_opens : DX3_opens.all (fun q => decide (decode cX3_opens q.1 = .ok (q.2.1, q.2.2))) = true := by decide +kernel
def DX4_init : List (Nat × Instr × Nat) := [(0, .aload_n 0, 1), (1, .invokespecial 3, 3), (4, .aload_n 0, 1), (5, .iconst 4, 1), (6, .bipush 40, 2), (8, .multianewarray 9 2, 4), (12, .putfield 11, 3), (15, .aload_n 0, 1), (16, .iconst 4, 1), (17, .newarray .int, 2), (19, .putfield 16, 3), (22, .aload_n 0, 1), (23, .iconst 4, 1), (24, .newarray .int, 2), (26, .putfield 20, 3), (29, .iconst 0, 1), (30, .istore_n 1, 1), (31, .iload_n 1, 1), (32, .iconst 4, 1), (33, .if_icmp .ge 16, 3), (36, .aload_n 0, 1), (37, .getfield 16, 3), (40, .iload_n 1, 1), (41, .iconst (-1), 1), (42, .iastore, 1), (43, .iinc 1 1, 3), (46, .goto (-15), 3), (49, .return_, 1)]
theorem KX4_init : DX4_init.all (fun q => decide (decode cX4_init q.1 = .ok (q.2.1, q.2.2))) = true := by decide +kernel
def DX4_refuses : List (Nat × Instr × Nat) := [(0, .iload_n 1, 1), (1, .ifCond .lt 8, 3), (4, .iload_n 1, 1), (5, .iconst 4, 1), (6, .if_icmp .lt 6, 3), (9, .bipush (-2), 2), (11, .ireturn, 1), (12, .aload_n 0, 1), (13, .getfield 16, 3), (16, .iload_n 1, 1), (17, .iaload, 1), (18, .iconst (-1), 1), (19, .if_icmp .ne 8, 3), (22, .bipush (-11), 2), (24, .goto 4, 3), (27, .iconst 0, 1), (28, .ireturn, 1)]
theorem KX4_refuses : DX4_refuses.all (fun q => decide (decode cX4_refuses q.1 = .ok (q.2.1, q.2.2))) = true := by decide +kernel
def DX4_renew : List (Nat × Instr × Nat) := [(0, .aload_n 0, 1), (1, .getfield 16, 3), (4, .iload_n 1, 1), (5, .iload_n 2, 1), (6, .iastore, 1), (7, .aload_n 0, 1), (8, .getfield 20, 3), (11, .iload_n 1, 1), (12, .iload_n 3, 1), (13, .iastore, 1), (14, .iconst 0, 1), (15, .istore 4, 2), (17, .iload 4, 2), (19, .iload_n 3, 1), (20, .if_icmp .ge 26, 3), (23, .iload 4, 2), (25, .bipush 40, 2), (27, .if_icmp .ge 19, 3), (30, .aload_n 0, 1), (31, .getfield 11, 3), (34, .iload_n 1, 1), (35, .aaload, 1), (36, .iload 4, 2), (38, .iconst 0, 1), (39, .iastore, 1), (40, .iinc 4 1, 3), (43, .goto (-26), 3), (46, .return_, 1)]
theorem KX4_renew : DX4_renew.all (fun q => decide (decode cX4_renew q.1 = .ok (q.2.1, q.2.2))) = true := by decide +kernel
def DX4_write : List (Nat × Instr × Nat) := [(0, .aload_n 0, 1), (1, .getfield 16, 3), (4, .iload_n 1, 1), (5, .iaload, 1), (6, .lookupswitch 52 #[(0, 26), (1, 39)], 26), (32, .aload_n 0, 1), (33, .getfield 11, 3), (36, .iload_n 1, 1), (37, .aaload, 1), (38, .iload_n 2, 1), (39, .iload_n 3, 1), (40, .i2b, 1), (41, .iastore, 1), (42, .goto 25, 3), (45, .aload_n 0, 1), (46, .getfield 11, 3), (49, .iload_n 1, 1), (50, .aaload, 1), (51, .iload_n 2, 1), (52, .iload_n 3, 1), (53, .i2s, 1), (54, .iastore, 1), (55, .goto 12, 3), (58, .aload_n 0, 1), (59, .getfield 11, 3), (62, .iload_n 1, 1), (63, .aaload, 1), (64, .iload_n 2, 1), (65, .iload_n 3, 1), (66, .iastore, 1), (67, .return_, 1)]
theorem KX4_write : DX4_write.all (fun q => decide (decode cX4_write q.1 = .ok (q.2.1, q.2.2))) = true := by decide +kernel
def DX5_init : List (Nat × Instr × Nat) := [(0, .aload_n 0, 1), (1, .invokespecial 3, 3), (4, .aload_n 0, 1), (5, .aload_n 1, 1), (6, .putfield 9, 3), (9, .return_, 1)]
theorem KX5_init : DX5_init.all (fun q => decide (decode cX5_init q.1 = .ok (q.2.1, q.2.2))) = true := by decide +kernel
def DX5_begin : List (Nat × Instr × Nat) := [(0, .aload_n 0, 1), (1, .iconst 0, 1), (2, .putfield 15, 3), (5, .aload_n 0, 1), (6, .iconst 0, 1), (7, .putfield 19, 3), (10, .aload_n 0, 1), (11, .iconst 0, 1), (12, .putfield 22, 3), (15, .aload_n 0, 1), (16, .iconst (-1), 1), (17, .putfield 25, 3), (20, .return_, 1)]
theorem KX5_begin : DX5_begin.all (fun q => decide (decode cX5_begin q.1 = .ok (q.2.1, q.2.2))) = true := by decide +kernel
def DX5_crosses : List (Nat × Instr × Nat) := [(0, .aload_n 0, 1), (1, .getfield 25, 3), (4, .iconst (-1), 1), (5, .if_icmp .eq 31, 3), (8, .aload_n 0, 1), (9, .getfield 9, 3), (12, .getfield 28, 3), (15, .aload_n 0, 1), (16, .getfield 25, 3), (19, .iaload, 1), (20, .aload_n 0, 1), (21, .getfield 9, 3), (24, .getfield 28, 3), (27, .iload_n 1, 1), (28, .iaload, 1), (29, .if_icmp .eq 7, 3), (32, .iconst 1, 1), (33, .goto 4, 3), (36, .iconst 0, 1), (37, .ireturn, 1)]
theorem KX5_crosses : DX5_crosses.all (fun q => decide (decode cX5_crosses q.1 = .ok (q.2.1, q.2.2))) = true := by decide +kernel
def DX5_isStopped : List (Nat × Instr × Nat) := [(0, .aload_n 0, 1), (1, .getfield 25, 3), (4, .iconst (-1), 1), (5, .if_icmp .eq 11, 3), (8, .aload_n 0, 1), (9, .iload_n 1, 1), (10, .invokevirtual 34, 3), (13, .ifCond .eq 18, 3), (16, .aload_n 0, 1), (17, .getfield 9, 3), (20, .iload_n 1, 1), (21, .invokevirtual 38, 3), (24, .ifCond .ne 7, 3), (27, .iconst 1, 1), (28, .goto 4, 3), (31, .iconst 0, 1), (32, .ireturn, 1)]
theorem KX5_isStopped : DX5_isStopped.all (fun q => decide (decode cX5_isStopped q.1 = .ok (q.2.1, q.2.2))) = true := by decide +kernel
def DX5_go : List (Nat × Instr × Nat) := [(0, .aload_n 0, 1), (1, .dup, 1), (2, .getfield 15, 3), (5, .aload_n 0, 1), (6, .getfield 9, 3), (9, .getfield 41, 3), (12, .iload_n 1, 1), (13, .iaload, 1), (14, .iadd, 1), (15, .putfield 15, 3), (18, .aload_n 0, 1), (19, .iload_n 1, 1), (20, .invokevirtual 34, 3), (23, .ifCond .eq 13, 3), (26, .aload_n 0, 1), (27, .dup, 1), (28, .getfield 19, 3), (31, .iconst 1, 1), (32, .iadd, 1), (33, .putfield 19, 3), (36, .aload_n 0, 1), (37, .getfield 9, 3), (40, .getfield 28, 3), (43, .iload_n 1, 1), (44, .iaload, 1), (45, .iconst (-1), 1), (46, .if_icmp .eq 23, 3), (49, .aload_n 0, 1), (50, .dup, 1), (51, .getfield 22, 3), (54, .iconst 1, 1), (55, .aload_n 0, 1), (56, .getfield 9, 3), (59, .getfield 28, 3), (62, .iload_n 1, 1), (63, .iaload, 1), (64, .ishl, 1), (65, .ior, 1), (66, .putfield 22, 3), (69, .aload_n 0, 1), (70, .iload_n 1, 1), (71, .putfield 25, 3), (74, .return_, 1)]
theorem KX5_go : DX5_go.all (fun q => decide (decode cX5_go q.1 = .ok (q.2.1, q.2.2))) = true := by decide +kernel
def DX5_answer : List (Nat × Instr × Nat) := [(0, .iload_n 1, 1), (1, .tableswitch 42 0 2 #[27, 32, 37], 27), (28, .aload_n 0, 1), (29, .getfield 15, 3), (32, .ireturn, 1), (33, .aload_n 0, 1), (34, .getfield 19, 3), (37, .ireturn, 1), (38, .aload_n 0, 1), (39, .getfield 22, 3), (42, .ireturn, 1), (43, .bipush (-7), 2), (45, .ireturn, 1)]
theorem KX5_answer : DX5_answer.all (fun q => decide (decode cX5_answer q.1 = .ok (q.2.1, q.2.2))) = true := by decide +kernel
def DX6_init : List (Nat × Instr × Nat) := [(0, .aload_n 0, 1), (1, .invokespecial 3, 3), (4, .aload_n 0, 1), (5, .sipush 160, 3), (8, .newarray .int, 2), (10, .putfield 9, 3), (13, .aload_n 0, 1), (14, .sipush 161, 3), (17, .newarray .int, 2), (19, .putfield 15, 3), (22, .aload_n 0, 1), (23, .sipush 161, 3), (26, .newarray .int, 2), (28, .putfield 18, 3), (31, .return_, 1)]
theorem KX6_init : DX6_init.all (fun q => decide (decode cX6_init q.1 = .ok (q.2.1, q.2.2))) = true := by decide +kernel
def DX6_add : List (Nat × Instr × Nat) := [(0, .aload_n 0, 1), (1, .getfield 21, 3), (4, .sipush 160, 3), (7, .if_icmp .ge 20, 3), (10, .aload_n 0, 1), (11, .getfield 9, 3), (14, .aload_n 0, 1), (15, .dup, 1), (16, .getfield 21, 3), (19, .dup_x1, 1), (20, .iconst 1, 1), (21, .iadd, 1), (22, .putfield 21, 3), (25, .iload_n 1, 1), (26, .iastore, 1), (27, .return_, 1)]
theorem KX6_add : DX6_add.all (fun q => decide (decode cX6_add q.1 = .ok (q.2.1, q.2.2))) = true := by decide +kernel
def DX6_split : List (Nat × Instr × Nat) := [(0, .aload_n 0, 1), (1, .iconst 0, 1), (2, .putfield 25, 3), (5, .iconst 0, 1), (6, .istore_n 1, 1), (7, .iconst 0, 1), (8, .istore_n 2, 1), (9, .iload_n 2, 1), (10, .sipush 160, 3), (13, .if_icmp .ge 64, 3), (16, .iload_n 1, 1), (17, .aload_n 0, 1), (18, .getfield 21, 3), (21, .if_icmp .ge 56, 3), (24, .aload_n 0, 1), (25, .getfield 9, 3), (28, .iload_n 1, 1), (29, .iaload, 1), (30, .bipush 32, 2), (32, .if_icmp .eq 14, 3), (35, .aload_n 0, 1), (36, .getfield 9, 3), (39, .iload_n 1, 1), (40, .iaload, 1), (41, .bipush 10, 2), (43, .if_icmp .ne 9, 3), (46, .iinc 1 1, 3), (49, .goto 22, 3), (52, .aload_n 0, 1), (53, .iload_n 1, 1), (54, .invokevirtual 28, 3), (57, .istore_n 3, 1), (58, .aload_n 0, 1), (59, .aload_n 0, 1), (60, .iload_n 1, 1), (61, .iload_n 3, 1), (62, .invokevirtual 32, 3), (65, .iload_n 1, 1), (66, .invokevirtual 36, 3), (69, .iload_n 3, 1), (70, .istore_n 1, 1), (71, .iinc 2 1, 3), (74, .goto (-65), 3), (77, .aload_n 0, 1), (78, .bipush 21, 2), (80, .aload_n 0, 1), (81, .getfield 21, 3), (84, .invokevirtual 36, 3), (87, .return_, 1)]
theorem KX6_split : DX6_split.all (fun q => decide (decode cX6_split q.1 = .ok (q.2.1, q.2.2))) = true := by decide +kernel
def DX6_note : List (Nat × Instr × Nat) := [(0, .aload_n 0, 1), (1, .getfield 25, 3), (4, .sipush 160, 3), (7, .if_icmp .gt 33, 3), (10, .aload_n 0, 1), (11, .getfield 15, 3), (14, .aload_n 0, 1), (15, .getfield 25, 3), (18, .iload_n 1, 1), (19, .iastore, 1), (20, .aload_n 0, 1), (21, .getfield 18, 3), (24, .aload_n 0, 1), (25, .getfield 25, 3), (28, .iload_n 2, 1), (29, .iastore, 1), (30, .aload_n 0, 1), (31, .dup, 1), (32, .getfield 25, 3), (35, .iconst 1, 1), (36, .iadd, 1), (37, .putfield 25, 3), (40, .return_, 1)]
theorem KX6_note : DX6_note.all (fun q => decide (decode cX6_note q.1 = .ok (q.2.1, q.2.2))) = true := by decide +kernel
def DX6_endOf : List (Nat × Instr × Nat) := [(0, .aload_n 0, 1), (1, .getfield 9, 3), (4, .iload_n 1, 1), (5, .iaload, 1), (6, .invokestatic 40, 3), (9, .istore_n 2, 1), (10, .iload_n 1, 1), (11, .iconst 1, 1), (12, .iadd, 1), (13, .istore_n 3, 1), (14, .iconst 0, 1), (15, .istore 4, 2), (17, .iload 4, 2), (19, .sipush 160, 3), (22, .if_icmp .ge 37, 3), (25, .iload_n 2, 1), (26, .ifCond .eq 33, 3), (29, .iload_n 3, 1), (30, .aload_n 0, 1), (31, .getfield 21, 3), (34, .if_icmp .ge 25, 3), (37, .aload_n 0, 1), (38, .getfield 9, 3), (41, .iload_n 3, 1), (42, .iaload, 1), (43, .invokestatic 40, 3), (46, .iload_n 2, 1), (47, .if_icmp .ne 12, 3), (50, .iinc 3 1, 3), (53, .iinc 4 1, 3), (56, .goto (-39), 3), (59, .iload_n 3, 1), (60, .ireturn, 1)]
theorem KX6_endOf : DX6_endOf.all (fun q => decide (decode cX6_endOf q.1 = .ok (q.2.1, q.2.2))) = true := by decide +kernel
def DX6_sortOf : List (Nat × Instr × Nat) := [(0, .iload_n 0, 1), (1, .bipush 97, 2), (3, .if_icmp .lt 11, 3), (6, .iload_n 0, 1), (7, .bipush 122, 2), (9, .if_icmp .gt 5, 3), (12, .iconst 1, 1), (13, .ireturn, 1), (14, .iload_n 0, 1), (15, .bipush 48, 2), (17, .if_icmp .lt 13, 3), (20, .iload_n 0, 1), (21, .bipush 57, 2), (23, .if_icmp .gt 7, 3), (26, .iconst 2, 1), (27, .goto 4, 3), (30, .iconst 0, 1), (31, .ireturn, 1)]
theorem KX6_sortOf : DX6_sortOf.all (fun q => decide (decode cX6_sortOf q.1 = .ok (q.2.1, q.2.2))) = true := by decide +kernel
def DX6_tokenOf : List (Nat × Instr × Nat) := [(0, .aload_n 0, 1), (1, .getfield 9, 3), (4, .iload_n 1, 1), (5, .iaload, 1), (6, .invokestatic 40, 3), (9, .lookupswitch 56 #[(1, 27), (2, 34)], 27), (36, .aload_n 0, 1), (37, .iload_n 1, 1), (38, .iload_n 2, 1), (39, .invokevirtual 43, 3), (42, .ireturn, 1), (43, .iload_n 2, 1), (44, .iload_n 1, 1), (45, .isub, 1), (46, .iconst 4, 1), (47, .if_icmp .le 8, 3), (50, .bipush 22, 2), (52, .goto 12, 3), (55, .bipush 23, 2), (57, .aload_n 0, 1), (58, .iload_n 1, 1), (59, .iload_n 2, 1), (60, .invokevirtual 46, 3), (63, .iadd, 1), (64, .ireturn, 1), (65, .aload_n 0, 1), (66, .getfield 9, 3), (69, .iload_n 1, 1), (70, .iaload, 1), (71, .invokestatic 49, 3), (74, .ireturn, 1)]
theorem KX6_tokenOf : DX6_tokenOf.all (fun q => decide (decode cX6_tokenOf q.1 = .ok (q.2.1, q.2.2))) = true := by decide +kernel
def DX6_word : List (Nat × Instr × Nat) := [(0, .iconst 0, 1), (1, .istore_n 3, 1), (2, .iload_n 3, 1), (3, .bipush 12, 2), (5, .if_icmp .ge 24, 3), (8, .aload_n 0, 1), (9, .iload_n 3, 1), (10, .invokestatic 52, 3), (13, .iload_n 1, 1), (14, .iload_n 2, 1), (15, .invokevirtual 56, 3), (18, .ifCond .eq 5, 3), (21, .iload_n 3, 1), (22, .ireturn, 1), (23, .iinc 3 1, 3), (26, .goto (-24), 3), (29, .bipush 22, 2), (31, .ireturn, 1)]
theorem KX6_word : DX6_word.all (fun q => decide (decode cX6_word q.1 = .ok (q.2.1, q.2.2))) = true := by decide +kernel
def DX6_spells : List (Nat × Instr × Nat) := [(0, .aload_n 1, 1), (1, .invokevirtual 60, 3), (4, .iload_n 3, 1), (5, .iload_n 2, 1), (6, .isub, 1), (7, .if_icmp .eq 5, 3), (10, .iconst 0, 1), (11, .ireturn, 1), (12, .iconst 0, 1), (13, .istore 4, 2), (15, .iload 4, 2), (17, .aload_n 1, 1), (18, .invokevirtual 60, 3), (21, .if_icmp .ge 29, 3), (24, .aload_n 1, 1), (25, .iload 4, 2), (27, .invokevirtual 66, 3), (30, .aload_n 0, 1), (31, .getfield 9, 3), (34, .iload_n 2, 1), (35, .iload 4, 2), (37, .iadd, 1), (38, .iaload, 1), (39, .if_icmp .eq 5, 3), (42, .iconst 0, 1), (43, .ireturn, 1), (44, .iinc 4 1, 3), (47, .goto (-32), 3), (50, .iconst 1, 1), (51, .ireturn, 1)]
theorem KX6_spells : DX6_spells.all (fun q => decide (decode cX6_spells q.1 = .ok (q.2.1, q.2.2))) = true := by decide +kernel
def DX6_spelled : List (Nat × Instr × Nat) := [(0, .iload_n 0, 1), (1, .tableswitch 92 0 10 #[59, 62, 65, 68, 71, 74, 77, 80, 83, 86, 89], 59), (60, .ldc 70, 2), (62, .areturn, 1), (63, .ldc 72, 2), (65, .areturn, 1), (66, .ldc 74, 2), (68, .areturn, 1), (69, .ldc 76, 2), (71, .areturn, 1), (72, .ldc 78, 2), (74, .areturn, 1), (75, .ldc 79, 2), (77, .areturn, 1), (78, .ldc 81, 2), (80, .areturn, 1), (81, .ldc 83, 2), (83, .areturn, 1), (84, .ldc 85, 2), (86, .areturn, 1), (87, .ldc 87, 2), (89, .areturn, 1), (90, .ldc 89, 2), (92, .areturn, 1), (93, .ldc 91, 2), (95, .areturn, 1)]
theorem KX6_spelled : DX6_spelled.all (fun q => decide (decode cX6_spelled q.1 = .ok (q.2.1, q.2.2))) = true := by decide +kernel
def DX6_number : List (Nat × Instr × Nat) := [(0, .iconst 0, 1), (1, .istore_n 3, 1), (2, .iload_n 1, 1), (3, .istore 4, 2), (5, .iload 4, 2), (7, .iload_n 2, 1), (8, .if_icmp .ge 25, 3), (11, .bipush 10, 2), (13, .iload_n 3, 1), (14, .imul, 1), (15, .aload_n 0, 1), (16, .getfield 9, 3), (19, .iload 4, 2), (21, .iaload, 1), (22, .iadd, 1), (23, .bipush 48, 2), (25, .isub, 1), (26, .istore_n 3, 1), (27, .iinc 4 1, 3), (30, .goto (-25), 3), (33, .iload_n 3, 1), (34, .ireturn, 1)]
theorem KX6_number : DX6_number.all (fun q => decide (decode cX6_number q.1 = .ok (q.2.1, q.2.2))) = true := by decide +kernel
def DX6_sign : List (Nat × Instr × Nat) := [(0, .ldc 93, 2), (2, .iload_n 0, 1), (3, .i2c, 1), (4, .invokevirtual 95, 3), (7, .istore_n 1, 1), (8, .iload_n 1, 1), (9, .ifCond .ge 8, 3), (12, .bipush 22, 2), (14, .goto 7, 3), (17, .bipush 12, 2), (19, .iload_n 1, 1), (20, .iadd, 1), (21, .ireturn, 1)]
theorem KX6_sign : DX6_sign.all (fun q => decide (decode cX6_sign q.1 = .ok (q.2.1, q.2.2))) = true := by decide +kernel
def DX7_init : List (Nat × Instr × Nat) := [(0, .aload_n 0, 1), (1, .invokespecial 3, 3), (4, .aload_n 0, 1), (5, .bipush 6, 2), (7, .sipush 160, 3), (10, .multianewarray 9 2, 4), (14, .putfield 11, 3), (17, .aload_n 0, 1), (18, .bipush 6, 2), (20, .iconst 3, 1), (21, .multianewarray 9 2, 4), (25, .putfield 16, 3), (28, .aload_n 0, 1), (29, .bipush 6, 2), (31, .newarray .int, 2), (33, .putfield 19, 3), (36, .aload_n 0, 1), (37, .sipush 160, 3), (40, .newarray .int, 2), (42, .putfield 23, 3), (45, .return_, 1)]
theorem KX7_init : DX7_init.all (fun q => decide (decode cX7_init q.1 = .ok (q.2.1, q.2.2))) = true := by decide +kernel
def DX7_add : List (Nat × Instr × Nat) := [(0, .aload_n 0, 1), (1, .getfield 26, 3), (4, .bipush 6, 2), (6, .if_icmp .lt 6, 3), (9, .bipush (-4), 2), (11, .ireturn, 1), (12, .aload_n 1, 1), (13, .iconst 0, 1), (14, .aload_n 0, 1), (15, .getfield 11, 3), (18, .aload_n 0, 1), (19, .getfield 26, 3), (22, .aaload, 1), (23, .iconst 0, 1), (24, .sipush 160, 3), (27, .invokestatic 30, 3), (30, .aload_n 2, 1), (31, .iconst 0, 1), (32, .aload_n 0, 1), (33, .getfield 16, 3), (36, .aload_n 0, 1), (37, .getfield 26, 3), (40, .aaload, 1), (41, .iconst 0, 1), (42, .iconst 3, 1), (43, .invokestatic 30, 3), (46, .aload_n 0, 1), (47, .dup, 1), (48, .getfield 26, 3), (51, .dup_x1, 1), (52, .iconst 1, 1), (53, .iadd, 1), (54, .putfield 26, 3), (57, .ireturn, 1)]
theorem KX7_add : DX7_add.all (fun q => decide (decode cX7_add q.1 = .ok (q.2.1, q.2.2))) = true := by decide +kernel
def DX7_value : List (Nat × Instr × Nat) := [(0, .iconst 0, 1), (1, .istore_n 3, 1), (2, .iload_n 2, 1), (3, .ifCond .ne 7, 3), (6, .iconst 0, 1), (7, .goto 13, 3), (10, .aload_n 0, 1), (11, .getfield 16, 3), (14, .iload_n 1, 1), (15, .aaload, 1), (16, .iload_n 2, 1), (17, .iconst 1, 1), (18, .isub, 1), (19, .iaload, 1), (20, .istore 4, 2), (22, .iload 4, 2), (24, .istore 5, 2), (26, .iload 5, 2), (28, .aload_n 0, 1), (29, .getfield 16, 3), (32, .iload_n 1, 1), (33, .aaload, 1), (34, .iload_n 2, 1), (35, .iaload, 1), (36, .if_icmp .ge 345, 3), (39, .aload_n 0, 1), (40, .getfield 11, 3), (43, .iload_n 1, 1), (44, .aaload, 1), (45, .iload 5, 2), (47, .iaload, 1), (48, .istore 6, 2), (50, .iload 6, 2), (52, .bipush 23, 2), (54, .if_icmp .lt 27, 3), (57, .iload_n 3, 1), (58, .sipush 160, 3), (61, .if_icmp .ge 20, 3), (64, .aload_n 0, 1), (65, .getfield 23, 3), (68, .iload_n 3, 1), (69, .iinc 3 1, 3), (72, .iload 6, 2), (74, .bipush 23, 2), (76, .isub, 1), (77, .iastore, 1), (78, .goto 297, 3), (81, .iload 6, 2), (83, .bipush 6, 2), (85, .if_icmp .ge 29, 3), (88, .iload_n 3, 1), (89, .sipush 160, 3), (92, .if_icmp .ge 22, 3), (95, .aload_n 0, 1), (96, .getfield 23, 3), (99, .iload_n 3, 1), (100, .iinc 3 1, 3), (103, .aload_n 0, 1), (104, .getfield 19, 3), (107, .iload 6, 2), (109, .iaload, 1), (110, .iastore, 1), (111, .goto 264, 3), (114, .iload 6, 2), (116, .bipush 8, 2), (118, .if_icmp .ne 34, 3), (121, .iload_n 3, 1), (122, .ifCond .le 30, 3), (125, .aload_n 0, 1), (126, .getfield 23, 3), (129, .iload_n 3, 1), (130, .iconst 1, 1), (131, .isub, 1), (132, .aload_n 0, 1), (133, .getfield 23, 3), (136, .iload_n 3, 1), (137, .iconst 1, 1), (138, .isub, 1), (139, .iaload, 1), (140, .ifCond .ne 7, 3), (143, .iconst 1, 1), (144, .goto 4, 3), (147, .iconst 0, 1), (148, .iastore, 1), (149, .goto 226, 3), (152, .iload 6, 2), (154, .bipush 20, 2), (156, .if_icmp .ne 27, 3), (159, .iload_n 3, 1), (160, .ifCond .le 23, 3), (163, .aload_n 0, 1), (164, .getfield 23, 3), (167, .iload_n 3, 1), (168, .iconst 1, 1), (169, .isub, 1), (170, .aload_n 0, 1), (171, .getfield 23, 3), (174, .iload_n 3, 1), (175, .iconst 1, 1), (176, .isub, 1), (177, .iaload, 1), (178, .ineg, 1), (179, .iastore, 1), (180, .goto 195, 3), (183, .iload_n 3, 1), (184, .iconst 1, 1), (185, .if_icmp .le 190, 3), (188, .iinc 3 (-1), 3), (191, .aload_n 0, 1), (192, .getfield 23, 3), (195, .iload_n 3, 1), (196, .iconst 1, 1), (197, .isub, 1), (198, .iaload, 1), (199, .istore 7, 2), (201, .aload_n 0, 1), (202, .getfield 23, 3), (205, .iload_n 3, 1), (206, .iaload, 1), (207, .istore 8, 2), (209, .iload 6, 2), (211, .tableswitch 147 6 15 #[53, 73, 147, 147, 147, 147, 93, 110, 127, 137], 53), (264, .iload 7, 2), (266, .ifCond .ne 8, 3), (269, .iload 8, 2), (271, .ifCond .eq 7, 3), (274, .iconst 1, 1), (275, .goto 4, 3), (278, .iconst 0, 1), (279, .istore 7, 2), (281, .goto 84, 3), (284, .iload 7, 2), (286, .ifCond .eq 12, 3), (289, .iload 8, 2), (291, .ifCond .eq 7, 3), (294, .iconst 1, 1), (295, .goto 4, 3), (298, .iconst 0, 1), (299, .istore 7, 2), (301, .goto 64, 3), (304, .iload 7, 2), (306, .iload 8, 2), (308, .if_icmp .ge 7, 3), (311, .iconst 1, 1), (312, .goto 4, 3), (315, .iconst 0, 1), (316, .istore 7, 2), (318, .goto 47, 3), (321, .iload 7, 2), (323, .iload 8, 2), (325, .if_icmp .ne 7, 3), (328, .iconst 1, 1), (329, .goto 4, 3), (332, .iconst 0, 1), (333, .istore 7, 2), (335, .goto 30, 3), (338, .iload 7, 2), (340, .iload 8, 2), (342, .iadd, 1), (343, .istore 7, 2), (345, .goto 20, 3), (348, .iload 7, 2), (350, .iload 8, 2), (352, .isub, 1), (353, .istore 7, 2), (355, .goto 10, 3), (358, .iload 7, 2), (360, .iload 8, 2), (362, .imul, 1), (363, .istore 7, 2), (365, .aload_n 0, 1), (366, .getfield 23, 3), (369, .iload_n 3, 1), (370, .iconst 1, 1), (371, .isub, 1), (372, .iload 7, 2), (374, .iastore, 1), (375, .iinc 5 1, 3), (378, .goto (-352), 3), (381, .aload_n 0, 1), (382, .getfield 23, 3), (385, .iconst 0, 1), (386, .iaload, 1), (387, .ireturn, 1)]
theorem KX7_value : DX7_value.all (fun q => decide (decode cX7_value q.1 = .ok (q.2.1, q.2.2))) = true := by decide +kernel
def DX8_init : List (Nat × Instr × Nat) := [(0, .aload_n 0, 1), (1, .invokespecial 3, 3), (4, .aload_n 0, 1), (5, .bipush 36, 2), (7, .newarray .boolean, 2), (9, .putfield 9, 3), (12, .aload_n 0, 1), (13, .bipush 36, 2), (15, .newarray .int, 2), (17, .putfield 15, 3), (20, .aload_n 0, 1), (21, .aload_n 1, 1), (22, .putfield 19, 3), (25, .return_, 1)]
theorem KX8_init : DX8_init.all (fun q => decide (decode cX8_init q.1 = .ok (q.2.1, q.2.2))) = true := by decide +kernel
def DX8_least : List (Nat × Instr × Nat) := [(0, .iconst 0, 1), (1, .istore 4, 2), (3, .iload 4, 2), (5, .bipush 36, 2), (7, .if_icmp .ge 33, 3), (10, .aload_n 0, 1), (11, .getfield 9, 3), (14, .iload 4, 2), (16, .aload_n 0, 1), (17, .getfield 19, 3), (20, .iload 4, 2), (22, .invokevirtual 23, 3), (25, .bastore, 1), (26, .aload_n 0, 1), (27, .getfield 15, 3), (30, .iload 4, 2), (32, .iconst (-1), 1), (33, .iastore, 1), (34, .iinc 4 1, 3), (37, .goto (-34), 3), (40, .aload_n 0, 1), (41, .getfield 9, 3), (44, .iload_n 1, 1), (45, .baload, 1), (46, .ifCond .eq 25, 3), (49, .aload_n 0, 1), (50, .getfield 15, 3), (53, .iload_n 1, 1), (54, .iload_n 3, 1), (55, .iconst 1, 1), (56, .if_icmp .ne 7, 3), (59, .iconst 0, 1), (60, .goto 10, 3), (63, .aload_n 0, 1), (64, .iload_n 1, 1), (65, .iload_n 1, 1), (66, .iload_n 3, 1), (67, .invokevirtual 29, 3), (70, .iastore, 1), (71, .iconst 1, 1), (72, .istore 4, 2), (74, .iconst 0, 1), (75, .istore 5, 2), (77, .iload 5, 2), (79, .bipush 36, 2), (81, .if_icmp .ge 64, 3), (84, .iload 4, 2), (86, .ifCond .eq 59, 3), (89, .iconst 0, 1), (90, .istore 4, 2), (92, .iconst 0, 1), (93, .istore 6, 2), (95, .iload 6, 2), (97, .bipush 36, 2), (99, .if_icmp .ge 40, 3), (102, .iload 4, 2), (104, .aload_n 0, 1), (105, .getfield 15, 3), (108, .iload 6, 2), (110, .iaload, 1), (111, .iconst (-1), 1), (112, .if_icmp .eq 17, 3), (115, .aload_n 0, 1), (116, .iload 6, 2), (118, .iload_n 3, 1), (119, .invokevirtual 33, 3), (122, .ifCond .eq 7, 3), (125, .iconst 1, 1), (126, .goto 4, 3), (129, .iconst 0, 1), (130, .ior, 1), (131, .istore 4, 2), (133, .iinc 6 1, 3), (136, .goto (-41), 3), (139, .iinc 5 1, 3), (142, .goto (-65), 3), (145, .aload_n 0, 1), (146, .getfield 15, 3), (149, .iload_n 2, 1), (150, .iaload, 1), (151, .ireturn, 1)]
theorem KX8_least : DX8_least.all (fun q => decide (decode cX8_least q.1 = .ok (q.2.1, q.2.2))) = true := by decide +kernel
def DX8_lowersBeside : List (Nat × Instr × Nat) := [(0, .iconst 0, 1), (1, .istore_n 3, 1), (2, .iconst 0, 1), (3, .istore 4, 2), (5, .iload 4, 2), (7, .iconst 4, 1), (8, .if_icmp .ge 84, 3), (11, .iload_n 1, 1), (12, .iload 4, 2), (14, .invokestatic 37, 3), (17, .istore 5, 2), (19, .iload 5, 2), (21, .iconst (-1), 1), (22, .if_icmp .eq 64, 3), (25, .aload_n 0, 1), (26, .getfield 9, 3), (29, .iload 5, 2), (31, .baload, 1), (32, .ifCond .eq 54, 3), (35, .aload_n 0, 1), (36, .getfield 15, 3), (39, .iload_n 1, 1), (40, .iaload, 1), (41, .aload_n 0, 1), (42, .iload_n 1, 1), (43, .iload 5, 2), (45, .iload_n 2, 1), (46, .invokevirtual 29, 3), (49, .iadd, 1), (50, .istore 6, 2), (52, .aload_n 0, 1), (53, .getfield 15, 3), (56, .iload 5, 2), (58, .iaload, 1), (59, .iconst (-1), 1), (60, .if_icmp .eq 15, 3), (63, .iload 6, 2), (65, .aload_n 0, 1), (66, .getfield 15, 3), (69, .iload 5, 2), (71, .iaload, 1), (72, .if_icmp .ge 14, 3), (75, .aload_n 0, 1), (76, .getfield 15, 3), (79, .iload 5, 2), (81, .iload 6, 2), (83, .iastore, 1), (84, .iconst 1, 1), (85, .istore_n 3, 1), (86, .iinc 4 1, 3), (89, .goto (-84), 3), (92, .iload_n 3, 1), (93, .ireturn, 1)]
theorem KX8_lowersBeside : DX8_lowersBeside.all (fun q => decide (decode cX8_lowersBeside q.1 = .ok (q.2.1, q.2.2))) = true := by decide +kernel
def DX8_stepCost : List (Nat × Instr × Nat) := [(0, .iload_n 3, 1), (1, .lookupswitch 64 #[(0, 27), (1, 37)], 27), (28, .aload_n 0, 1), (29, .getfield 19, 3), (32, .getfield 41, 3), (35, .iload_n 2, 1), (36, .iaload, 1), (37, .ireturn, 1), (38, .aload_n 0, 1), (39, .getfield 19, 3), (42, .getfield 44, 3), (45, .iload_n 1, 1), (46, .iaload, 1), (47, .aload_n 0, 1), (48, .getfield 19, 3), (51, .getfield 44, 3), (54, .iload_n 2, 1), (55, .iaload, 1), (56, .if_icmp .ne 7, 3), (59, .iconst 0, 1), (60, .goto 4, 3), (63, .iconst 1, 1), (64, .ireturn, 1), (65, .iconst 1, 1), (66, .ireturn, 1)]
theorem KX8_stepCost : DX8_stepCost.all (fun q => decide (decode cX8_stepCost q.1 = .ok (q.2.1, q.2.2))) = true := by decide +kernel
def DX9_init : List (Nat × Instr × Nat) := [(0, .aload_n 0, 1), (1, .invokespecial 1, 3), (4, .aload_n 0, 1), (5, .new 7, 3), (8, .dup, 1), (9, .invokespecial 9, 3), (12, .putfield 10, 3), (15, .aload_n 0, 1), (16, .new 16, 3), (19, .dup, 1), (20, .invokespecial 18, 3), (23, .putfield 19, 3), (26, .aload_n 0, 1), (27, .new 23, 3), (30, .dup, 1), (31, .aload_n 0, 1), (32, .getfield 19, 3), (35, .invokespecial 25, 3), (38, .putfield 28, 3), (41, .aload_n 0, 1), (42, .new 32, 3), (45, .dup, 1), (46, .aload_n 0, 1), (47, .getfield 10, 3), (50, .invokespecial 34, 3), (53, .putfield 37, 3), (56, .aload_n 0, 1), (57, .new 41, 3), (60, .dup, 1), (61, .aload_n 0, 1), (62, .getfield 37, 3), (65, .invokespecial 43, 3), (68, .putfield 46, 3), (71, .aload_n 0, 1), (72, .new 50, 3), (75, .dup, 1), (76, .aload_n 0, 1), (77, .getfield 37, 3), (80, .invokespecial 52, 3), (83, .putfield 53, 3), (86, .aload_n 0, 1), (87, .new 57, 3), (90, .dup, 1), (91, .aload_n 0, 1), (92, .getfield 37, 3), (95, .invokespecial 59, 3), (98, .putfield 60, 3), (101, .aload_n 0, 1), (102, .new 64, 3), (105, .dup, 1), (106, .invokespecial 66, 3), (109, .putfield 67, 3), (112, .aload_n 0, 1), (113, .new 71, 3), (116, .dup, 1), (117, .invokespecial 73, 3), (120, .putfield 74, 3), (123, .iconst 0, 1), (124, .istore_n 1, 1), (125, .iload_n 1, 1), (126, .ldc 78, 2), (128, .invokevirtual 80, 3), (131, .if_icmp .ge 22, 3), (134, .aload_n 0, 1), (135, .getfield 19, 3), (138, .ldc 78, 2), (140, .iload_n 1, 1), (141, .invokevirtual 86, 3), (144, .invokevirtual 90, 3), (147, .iinc 1 1, 3), (150, .goto (-25), 3), (153, .aload_n 0, 1), (154, .invokevirtual 94, 3), (157, .pop, 1), (158, .return_, 1)]
theorem KX9_init : DX9_init.all (fun q => decide (decode cX9_init q.1 = .ok (q.2.1, q.2.2))) = true := by decide +kernel
def DX9_count : List (Nat × Instr × Nat) := [(0, .iload_n 1, 1), (1, .tableswitch 75 0 4 #[35, 43, 51, 59, 67], 35), (36, .aload_n 0, 1), (37, .getfield 37, 3), (40, .getfield 97, 3), (43, .ireturn, 1), (44, .aload_n 0, 1), (45, .getfield 37, 3), (48, .getfield 101, 3), (51, .ireturn, 1), (52, .aload_n 0, 1), (53, .getfield 10, 3), (56, .getfield 104, 3), (59, .ireturn, 1), (60, .aload_n 0, 1), (61, .getfield 37, 3), (64, .getfield 107, 3), (67, .ireturn, 1), (68, .aload_n 0, 1), (69, .getfield 19, 3), (72, .getfield 110, 3), (75, .ireturn, 1), (76, .bipush (-2), 2), (78, .ireturn, 1)]
theorem KX9_count : DX9_count.all (fun q => decide (decode cX9_count q.1 = .ok (q.2.1, q.2.2))) = true := by decide +kernel
def DX9_strikes : List (Nat × Instr × Nat) := [(0, .iload_n 1, 1), (1, .ifCond .lt 9, 3), (4, .iload_n 1, 1), (5, .bipush 24, 2), (7, .if_icmp .lt 6, 3), (10, .bipush (-2), 2), (12, .ireturn, 1), (13, .aload_n 0, 1), (14, .getfield 37, 3), (17, .getfield 101, 3), (20, .istore_n 2, 1), (21, .aload_n 0, 1), (22, .getfield 37, 3), (25, .iload_n 1, 1), (26, .putfield 101, 3), (29, .iload_n 2, 1), (30, .ireturn, 1)]
theorem KX9_strikes : DX9_strikes.all (fun q => decide (decode cX9_strikes q.1 = .ok (q.2.1, q.2.2))) = true := by decide +kernel
def DX9_feed : List (Nat × Instr × Nat) := [(0, .iload_n 1, 1), (1, .iconst 1, 1), (2, .if_icmp .lt 46, 3), (5, .iload_n 1, 1), (6, .iconst 5, 1), (7, .if_icmp .gt 41, 3), (10, .iload_n 2, 1), (11, .invokestatic 113, 3), (14, .ifCond .eq 34, 3), (17, .iload_n 3, 1), (18, .invokestatic 113, 3), (21, .ifCond .eq 27, 3), (24, .iload 4, 2), (26, .invokestatic 113, 3), (29, .ifCond .eq 19, 3), (32, .iload 5, 2), (34, .invokestatic 113, 3), (37, .ifCond .eq 11, 3), (40, .iload 6, 2), (42, .invokestatic 113, 3), (45, .ifCond .ne 6, 3), (48, .bipush (-2), 2), (50, .ireturn, 1), (51, .iload_n 1, 1), (52, .sipush 160, 3), (55, .aload_n 0, 1), (56, .getfield 19, 3), (59, .getfield 110, 3), (62, .isub, 1), (63, .if_icmp .le 6, 3), (66, .bipush (-4), 2), (68, .ireturn, 1), (69, .aload_n 0, 1), (70, .getfield 19, 3), (73, .iload_n 2, 1), (74, .invokevirtual 90, 3), (77, .iload_n 1, 1), (78, .iconst 1, 1), (79, .if_icmp .le 11, 3), (82, .aload_n 0, 1), (83, .getfield 19, 3), (86, .iload_n 3, 1), (87, .invokevirtual 90, 3), (90, .iload_n 1, 1), (91, .iconst 2, 1), (92, .if_icmp .le 12, 3), (95, .aload_n 0, 1), (96, .getfield 19, 3), (99, .iload 4, 2), (101, .invokevirtual 90, 3), (104, .iload_n 1, 1), (105, .iconst 3, 1), (106, .if_icmp .le 12, 3), (109, .aload_n 0, 1), (110, .getfield 19, 3), (113, .iload 5, 2), (115, .invokevirtual 90, 3), (118, .iload_n 1, 1), (119, .iconst 4, 1), (120, .if_icmp .le 12, 3), (123, .aload_n 0, 1), (124, .getfield 19, 3), (127, .iload 6, 2), (129, .invokevirtual 90, 3), (132, .aload_n 0, 1), (133, .getfield 19, 3), (136, .getfield 110, 3), (139, .ireturn, 1)]
theorem KX9_feed : DX9_feed.all (fun q => decide (decode cX9_feed q.1 = .ok (q.2.1, q.2.2))) = true := by decide +kernel
def DX9_text : List (Nat × Instr × Nat) := [(0, .aload_n 0, 1), (1, .getfield 10, 3), (4, .getfield 104, 3), (7, .bipush 6, 2), (9, .if_icmp .lt 8, 3), (12, .bipush (-4), 2), (14, .goto 7, 3), (17, .aload_n 0, 1), (18, .invokevirtual 94, 3), (21, .ireturn, 1)]
theorem KX9_text : DX9_text.all (fun q => decide (decode cX9_text q.1 = .ok (q.2.1, q.2.2))) = true := by decide +kernel
def DX9_force : List (Nat × Instr × Nat) := [(0, .iload_n 1, 1), (1, .ifCond .lt 14, 3), (4, .iload_n 1, 1), (5, .aload_n 0, 1), (6, .getfield 10, 3), (9, .getfield 104, 3), (12, .if_icmp .lt 6, 3), (15, .bipush (-2), 2), (17, .ireturn, 1), (18, .aload_n 0, 1), (19, .getfield 37, 3), (22, .getfield 107, 3), (25, .istore_n 2, 1), (26, .aload_n 0, 1), (27, .getfield 37, 3), (30, .iload_n 1, 1), (31, .putfield 107, 3), (34, .iload_n 2, 1), (35, .ireturn, 1)]
theorem KX9_force : DX9_force.all (fun q => decide (decode cX9_force q.1 = .ok (q.2.1, q.2.2))) = true := by decide +kernel
def DX9_asks : List (Nat × Instr × Nat) := [(0, .iload_n 1, 1), (1, .ifCond .lt 26, 3), (4, .iload_n 1, 1), (5, .iconst 3, 1), (6, .if_icmp .ge 21, 3), (9, .aload_n 0, 1), (10, .getfield 37, 3), (13, .iload_n 2, 1), (14, .invokevirtual 117, 3), (17, .ifCond .eq 10, 3), (20, .iload_n 3, 1), (21, .invokestatic 120, 3), (24, .ifCond .ne 6, 3), (27, .bipush (-2), 2), (29, .ireturn, 1), (30, .aload_n 0, 1), (31, .getfield 37, 3), (34, .iload_n 1, 1), (35, .iload_n 2, 1), (36, .iload_n 3, 1), (37, .aload_n 0, 1), (38, .getfield 37, 3), (41, .getfield 101, 3), (44, .invokevirtual 123, 3), (47, .ireturn, 1)]
theorem KX9_asks : DX9_asks.all (fun q => decide (decode cX9_asks q.1 = .ok (q.2.1, q.2.2))) = true := by decide +kernel
def DX9_spread : List (Nat × Instr × Nat) := [(0, .iload_n 1, 1), (1, .ifCond .lt 16, 3), (4, .iload_n 1, 1), (5, .bipush 60, 2), (7, .if_icmp .ge 10, 3), (10, .iload_n 2, 1), (11, .invokestatic 127, 3), (14, .ifCond .ne 6, 3), (17, .bipush (-2), 2), (19, .ireturn, 1), (20, .aload_n 0, 1), (21, .getfield 37, 3), (24, .getfield 97, 3), (27, .bipush 6, 2), (29, .if_icmp .lt 8, 3), (32, .bipush (-4), 2), (34, .goto 12, 3), (37, .aload_n 0, 1), (38, .getfield 37, 3), (41, .iload_n 1, 1), (42, .iload_n 2, 1), (43, .invokevirtual 130, 3), (46, .ireturn, 1)]
theorem KX9_spread : DX9_spread.all (fun q => decide (decode cX9_spread q.1 = .ok (q.2.1, q.2.2))) = true := by decide +kernel
def DX9_put : List (Nat × Instr × Nat) := [(0, .aload_n 0, 1), (1, .getfield 37, 3), (4, .iload_n 1, 1), (5, .invokevirtual 117, 3), (8, .ifCond .ne 6, 3), (11, .bipush (-5), 2), (13, .ireturn, 1), (14, .iload_n 2, 1), (15, .ifCond .ne 39, 3), (18, .iload_n 3, 1), (19, .invokestatic 127, 3), (22, .ifCond .eq 32, 3), (25, .aload_n 0, 1), (26, .getfield 37, 3), (29, .iload_n 1, 1), (30, .invokevirtual 133, 3), (33, .istore 4, 2), (35, .aload_n 0, 1), (36, .getfield 37, 3), (39, .iload_n 1, 1), (40, .iload_n 3, 1), (41, .bipush 100, 2), (43, .idiv, 1), (44, .iload_n 3, 1), (45, .bipush 100, 2), (47, .irem, 1), (48, .invokevirtual 137, 3), (51, .iload 4, 2), (53, .ireturn, 1), (54, .iload_n 2, 1), (55, .iconst 1, 1), (56, .if_icmp .ne 37, 3), (59, .iload_n 3, 1), (60, .ifCond .lt 33, 3), (63, .iload_n 3, 1), (64, .bipush 100, 2), (66, .if_icmp .ge 27, 3), (69, .aload_n 0, 1), (70, .getfield 37, 3), (73, .getfield 141, 3), (76, .iload_n 1, 1), (77, .iaload, 1), (78, .istore 4, 2), (80, .aload_n 0, 1), (81, .getfield 37, 3), (84, .getfield 141, 3), (87, .iload_n 1, 1), (88, .iload_n 3, 1), (89, .iastore, 1), (90, .iload 4, 2), (92, .ireturn, 1), (93, .bipush (-7), 2), (95, .ireturn, 1)]
theorem KX9_put : DX9_put.all (fun q => decide (decode cX9_put q.1 = .ok (q.2.1, q.2.2))) = true := by decide +kernel
def DX9_told : List (Nat × Instr × Nat) := [(0, .aload_n 0, 1), (1, .getfield 37, 3), (4, .iload_n 1, 1), (5, .invokevirtual 117, 3), (8, .ifCond .ne 6, 3), (11, .bipush (-5), 2), (13, .ireturn, 1), (14, .iload_n 2, 1), (15, .tableswitch 123 0 6 #[41, 50, 60, 70, 80, 90, 99], 41), (56, .aload_n 0, 1), (57, .getfield 37, 3), (60, .iload_n 1, 1), (61, .invokevirtual 133, 3), (64, .ireturn, 1), (65, .aload_n 0, 1), (66, .getfield 37, 3), (69, .getfield 141, 3), (72, .iload_n 1, 1), (73, .iaload, 1), (74, .ireturn, 1), (75, .aload_n 0, 1), (76, .getfield 37, 3), (79, .getfield 145, 3), (82, .iload_n 1, 1), (83, .iaload, 1), (84, .ireturn, 1), (85, .aload_n 0, 1), (86, .getfield 37, 3), (89, .getfield 148, 3), (92, .iload_n 1, 1), (93, .iaload, 1), (94, .ireturn, 1), (95, .aload_n 0, 1), (96, .getfield 37, 3), (99, .getfield 151, 3), (102, .iload_n 1, 1), (103, .iaload, 1), (104, .ireturn, 1), (105, .aload_n 0, 1), (106, .getfield 37, 3), (109, .iload_n 1, 1), (110, .invokevirtual 153, 3), (113, .ireturn, 1), (114, .aload_n 0, 1), (115, .getfield 37, 3), (118, .iload_n 1, 1), (119, .aload_n 0, 1), (120, .getfield 37, 3), (123, .getfield 101, 3), (126, .invokevirtual 156, 3), (129, .ifCond .eq 7, 3), (132, .iconst 1, 1), (133, .goto 4, 3), (136, .iconst 0, 1), (137, .ireturn, 1), (138, .bipush (-7), 2), (140, .ireturn, 1)]
theorem KX9_told : DX9_told.all (fun q => decide (decode cX9_told q.1 = .ok (q.2.1, q.2.2))) = true := by decide +kernel
def DX9_over : List (Nat × Instr × Nat) := [(0, .iload_n 1, 1), (1, .invokestatic 120, 3), (4, .ifCond .ne 6, 3), (7, .bipush (-5), 2), (9, .ireturn, 1), (10, .aload_n 0, 1), (11, .getfield 37, 3), (14, .invokevirtual 160, 3), (17, .iload_n 2, 1), (18, .tableswitch 76 0 3 #[30, 40, 50, 67], 30), (48, .aload_n 0, 1), (49, .getfield 37, 3), (52, .getfield 163, 3), (55, .iload_n 1, 1), (56, .iaload, 1), (57, .ireturn, 1), (58, .aload_n 0, 1), (59, .getfield 37, 3), (62, .getfield 166, 3), (65, .iload_n 1, 1), (66, .iaload, 1), (67, .ireturn, 1), (68, .aload_n 0, 1), (69, .getfield 37, 3), (72, .iload_n 1, 1), (73, .invokevirtual 169, 3), (76, .ifCond .eq 7, 3), (79, .iconst 1, 1), (80, .goto 4, 3), (83, .iconst 0, 1), (84, .ireturn, 1), (85, .aload_n 0, 1), (86, .getfield 37, 3), (89, .iload_n 1, 1), (90, .invokevirtual 172, 3), (93, .ireturn, 1), (94, .bipush (-7), 2), (96, .ireturn, 1)]
theorem KX9_over : DX9_over.all (fun q => decide (decode cX9_over q.1 = .ok (q.2.1, q.2.2))) = true := by decide +kernel
def DX9_rules : List (Nat × Instr × Nat) := [(0, .iload_n 1, 1), (1, .iconst (-1), 1), (2, .if_icmp .eq 18, 3), (5, .aload_n 0, 1), (6, .getfield 37, 3), (9, .iload_n 1, 1), (10, .invokevirtual 117, 3), (13, .ifCond .ne 7, 3), (16, .ldc2_w 175, 3), (19, .lreturn, 1), (20, .aload_n 0, 1), (21, .getfield 37, 3), (24, .invokevirtual 177, 3), (27, .aload_n 0, 1), (28, .getfield 37, 3), (31, .iload_n 1, 1), (32, .invokevirtual 180, 3), (35, .lreturn, 1)]
theorem KX9_rules : DX9_rules.all (fun q => decide (decode cX9_rules q.1 = .ok (q.2.1, q.2.2))) = true := by decide +kernel
def DX9_walk : List (Nat × Instr × Nat) := [(0, .aload_n 0, 1), (1, .iload_n 1, 1), (2, .invokevirtual 184, 3), (5, .istore_n 3, 1), (6, .iload_n 3, 1), (7, .ifCond .eq 5, 3), (10, .iload_n 3, 1), (11, .ireturn, 1), (12, .aload_n 0, 1), (13, .getfield 37, 3), (16, .invokevirtual 160, 3), (19, .aload_n 0, 1), (20, .iload_n 1, 1), (21, .invokevirtual 187, 3), (24, .istore 4, 2), (26, .iload_n 2, 1), (27, .ifCond .ne 8, 3), (30, .iload 4, 2), (32, .goto 13, 3), (35, .aload_n 0, 1), (36, .getfield 46, 3), (39, .iload_n 2, 1), (40, .iconst 1, 1), (41, .isub, 1), (42, .invokevirtual 190, 3), (45, .ireturn, 1)]
theorem KX9_walk : DX9_walk.all (fun q => decide (decode cX9_walk q.1 = .ok (q.2.1, q.2.2))) = true := by decide +kernel
def DX9_visit : List (Nat × Instr × Nat) := [(0, .aload_n 0, 1), (1, .iload_n 1, 1), (2, .invokevirtual 184, 3), (5, .istore_n 2, 1), (6, .iload_n 2, 1), (7, .ifCond .eq 5, 3), (10, .iload_n 2, 1), (11, .ireturn, 1), (12, .aload_n 0, 1), (13, .getfield 37, 3), (16, .invokevirtual 160, 3), (19, .aload_n 0, 1), (20, .iload_n 1, 1), (21, .invokevirtual 187, 3), (24, .iconst (-1), 1), (25, .if_icmp .eq 6, 3), (28, .bipush (-3), 2), (30, .ireturn, 1), (31, .aload_n 0, 1), (32, .getfield 37, 3), (35, .aload_n 0, 1), (36, .getfield 46, 3), (39, .getfield 193, 3), (42, .invokevirtual 194, 3), (45, .aload_n 0, 1), (46, .getfield 46, 3), (49, .getfield 197, 3), (52, .ireturn, 1)]
theorem KX9_visit : DX9_visit.all (fun q => decide (decode cX9_visit q.1 = .ok (q.2.1, q.2.2))) = true := by decide +kernel
def DX9_ball : List (Nat × Instr × Nat) := [(0, .iload_n 1, 1), (1, .invokestatic 120, 3), (4, .ifCond .ne 6, 3), (7, .bipush (-5), 2), (9, .ireturn, 1), (10, .iload_n 2, 1), (11, .ifCond .lt 17, 3), (14, .iload_n 2, 1), (15, .iconst 4, 1), (16, .if_icmp .ge 12, 3), (19, .iload_n 3, 1), (20, .ifCond .lt 8, 3), (23, .iload_n 3, 1), (24, .iconst 2, 1), (25, .if_icmp .le 6, 3), (28, .bipush (-7), 2), (30, .ireturn, 1), (31, .aload_n 0, 1), (32, .getfield 37, 3), (35, .invokevirtual 160, 3), (38, .aload_n 0, 1), (39, .getfield 46, 3), (42, .invokevirtual 200, 3), (45, .iload_n 1, 1), (46, .istore 4, 2), (48, .iconst 0, 1), (49, .istore 5, 2), (51, .iload 5, 2), (53, .bipush 6, 2), (55, .if_icmp .ge 32, 3), (58, .iload 4, 2), (60, .iconst (-1), 1), (61, .if_icmp .eq 26, 3), (64, .aload_n 0, 1), (65, .getfield 46, 3), (68, .iload 4, 2), (70, .invokevirtual 203, 3), (73, .iload 4, 2), (75, .iload_n 2, 1), (76, .invokestatic 206, 3), (79, .istore 4, 2), (81, .iinc 5 1, 3), (84, .goto (-33), 3), (87, .aload_n 0, 1), (88, .getfield 46, 3), (91, .iload_n 3, 1), (92, .ifCond .ne 7, 3), (95, .iconst 0, 1), (96, .goto 6, 3), (99, .iconst 3, 1), (100, .iload_n 3, 1), (101, .isub, 1), (102, .invokevirtual 190, 3), (105, .ireturn, 1)]
theorem KX9_ball : DX9_ball.all (fun q => decide (decode cX9_ball q.1 = .ok (q.2.1, q.2.2))) = true := by decide +kernel
def DX9_way : List (Nat × Instr × Nat) := [(0, .iload_n 1, 1), (1, .ifCond .lt 32, 3), (4, .iload_n 1, 1), (5, .bipush 100, 2), (7, .idiv, 1), (8, .invokestatic 120, 3), (11, .ifCond .eq 22, 3), (14, .iload_n 1, 1), (15, .bipush 100, 2), (17, .irem, 1), (18, .invokestatic 120, 3), (21, .ifCond .eq 12, 3), (24, .iload_n 2, 1), (25, .ifCond .lt 8, 3), (28, .iload_n 2, 1), (29, .iconst 2, 1), (30, .if_icmp .le 6, 3), (33, .bipush (-2), 2), (35, .ireturn, 1), (36, .aload_n 0, 1), (37, .getfield 37, 3), (40, .invokevirtual 160, 3), (43, .aload_n 0, 1), (44, .getfield 53, 3), (47, .iload_n 1, 1), (48, .bipush 100, 2), (50, .idiv, 1), (51, .iload_n 1, 1), (52, .bipush 100, 2), (54, .irem, 1), (55, .iload_n 2, 1), (56, .invokevirtual 209, 3), (59, .ireturn, 1)]
theorem KX9_way : DX9_way.all (fun q => decide (decode cX9_way q.1 = .ok (q.2.1, q.2.2))) = true := by decide +kernel
def DX9_borders : List (Nat × Instr × Nat) := [(0, .aload_n 0, 1), (1, .getfield 37, 3), (4, .iload_n 1, 1), (5, .invokevirtual 117, 3), (8, .ifCond .ne 6, 3), (11, .bipush (-5), 2), (13, .ireturn, 1), (14, .aload_n 0, 1), (15, .getfield 37, 3), (18, .invokevirtual 177, 3), (21, .aload_n 0, 1), (22, .getfield 37, 3), (25, .iload_n 1, 1), (26, .invokevirtual 213, 3), (29, .ireturn, 1)]
theorem KX9_borders : DX9_borders.all (fun q => decide (decode cX9_borders q.1 = .ok (q.2.1, q.2.2))) = true := by decide +kernel
def DX9_league : List (Nat × Instr × Nat) := [(0, .aload_n 0, 1), (1, .getfield 37, 3), (4, .iload_n 1, 1), (5, .invokevirtual 117, 3), (8, .ifCond .ne 6, 3), (11, .bipush (-5), 2), (13, .ireturn, 1), (14, .iload_n 2, 1), (15, .ifCond .eq 11, 3), (18, .iload_n 2, 1), (19, .iconst 1, 1), (20, .if_icmp .eq 6, 3), (23, .bipush (-7), 2), (25, .ireturn, 1), (26, .aload_n 0, 1), (27, .getfield 37, 3), (30, .invokevirtual 177, 3), (33, .aload_n 0, 1), (34, .getfield 37, 3), (37, .iload_n 1, 1), (38, .invokevirtual 216, 3), (41, .istore_n 3, 1), (42, .iload_n 2, 1), (43, .ifCond .ne 7, 3), (46, .iload_n 3, 1), (47, .goto 11, 3), (50, .aload_n 0, 1), (51, .getfield 37, 3), (54, .iload_n 3, 1), (55, .invokevirtual 219, 3), (58, .ireturn, 1)]
theorem KX9_league : DX9_league.all (fun q => decide (decode cX9_league q.1 = .ok (q.2.1, q.2.2))) = true := by decide +kernel
def DX9_place : List (Nat × Instr × Nat) := [(0, .aload_n 0, 1), (1, .getfield 37, 3), (4, .iload_n 1, 1), (5, .invokevirtual 117, 3), (8, .ifCond .ne 6, 3), (11, .bipush (-5), 2), (13, .ireturn, 1), (14, .iload_n 2, 1), (15, .ifCond .eq 11, 3), (18, .iload_n 2, 1), (19, .iconst 1, 1), (20, .if_icmp .eq 6, 3), (23, .bipush (-7), 2), (25, .ireturn, 1), (26, .aload_n 0, 1), (27, .getfield 37, 3), (30, .getfield 222, 3), (33, .iload_n 1, 1), (34, .iaload, 1), (35, .istore_n 3, 1), (36, .aload_n 0, 1), (37, .getfield 37, 3), (40, .getfield 225, 3), (43, .iload_n 1, 1), (44, .iaload, 1), (45, .istore 4, 2), (47, .iconst (-1), 1), (48, .istore 5, 2), (50, .iconst (-1), 1), (51, .istore 6, 2), (53, .iconst 0, 1), (54, .istore 7, 2), (56, .iload 7, 2), (58, .bipush 36, 2), (60, .if_icmp .ge 89, 3), (63, .iload 7, 2), (65, .iload 4, 2), (67, .iadd, 1), (68, .iload_n 3, 1), (69, .isub, 1), (70, .istore 8, 2), (72, .iload 7, 2), (74, .invokestatic 228, 3), (77, .iload 4, 2), (79, .invokestatic 228, 3), (82, .iadd, 1), (83, .iload_n 3, 1), (84, .invokestatic 228, 3), (87, .isub, 1), (88, .bipush 6, 2), (90, .if_icmp .ge 53, 3), (93, .iload 8, 2), (95, .bipush 36, 2), (97, .if_icmp .ge 46, 3), (100, .aload_n 0, 1), (101, .getfield 37, 3), (104, .iload_n 1, 1), (105, .iload 7, 2), (107, .iload 8, 2), (109, .invokevirtual 137, 3), (112, .aload_n 0, 1), (113, .getfield 37, 3), (116, .iload_n 1, 1), (117, .invokevirtual 153, 3), (120, .istore 9, 2), (122, .iload 9, 2), (124, .iload 6, 2), (126, .if_icmp .le 17, 3), (129, .iload 9, 2), (131, .istore 6, 2), (133, .bipush 100, 2), (135, .iload 7, 2), (137, .imul, 1), (138, .iload 8, 2), (140, .iadd, 1), (141, .istore 5, 2), (143, .iinc 7 1, 3), (146, .goto (-90), 3), (149, .aload_n 0, 1), (150, .getfield 37, 3), (153, .iload_n 1, 1), (154, .iload_n 3, 1), (155, .iload 4, 2), (157, .invokevirtual 137, 3), (160, .iload_n 2, 1), (161, .ifCond .ne 8, 3), (164, .iload 5, 2), (166, .goto 5, 3), (169, .iload 6, 2), (171, .ireturn, 1)]
theorem KX9_place : DX9_place.all (fun q => decide (decode cX9_place q.1 = .ok (q.2.1, q.2.2))) = true := by decide +kernel
def DX9_freest : List (Nat × Instr × Nat) := [(0, .iload_n 1, 1), (1, .ifCond .eq 11, 3), (4, .iload_n 1, 1), (5, .iconst 1, 1), (6, .if_icmp .eq 6, 3), (9, .bipush (-2), 2), (11, .ireturn, 1), (12, .iconst 0, 1), (13, .istore_n 2, 1), (14, .aload_n 0, 1), (15, .getfield 37, 3), (18, .iconst 0, 1), (19, .aload_n 0, 1), (20, .getfield 37, 3), (23, .iconst 0, 1), (24, .invokevirtual 231, 3), (27, .invokevirtual 234, 3), (30, .istore_n 3, 1), (31, .iconst 1, 1), (32, .istore 4, 2), (34, .iload 4, 2), (36, .bipush 24, 2), (38, .if_icmp .ge 41, 3), (41, .aload_n 0, 1), (42, .getfield 37, 3), (45, .iload 4, 2), (47, .aload_n 0, 1), (48, .getfield 37, 3), (51, .iload 4, 2), (53, .invokevirtual 231, 3), (56, .invokevirtual 234, 3), (59, .istore 5, 2), (61, .iload 5, 2), (63, .iload_n 3, 1), (64, .if_icmp .ge 9, 3), (67, .iload 5, 2), (69, .istore_n 3, 1), (70, .iload 4, 2), (72, .istore_n 2, 1), (73, .iinc 4 1, 3), (76, .goto (-42), 3), (79, .iload_n 1, 1), (80, .ifCond .ne 7, 3), (83, .iload_n 2, 1), (84, .goto 4, 3), (87, .iload_n 3, 1), (88, .ireturn, 1)]
theorem KX9_freest : DX9_freest.all (fun q => decide (decode cX9_freest q.1 = .ok (q.2.1, q.2.2))) = true := by decide +kernel
def DX9_fold : List (Nat × Instr × Nat) := [(0, .iload_n 1, 1), (1, .ifCond .eq 11, 3), (4, .iload_n 1, 1), (5, .iconst 1, 1), (6, .if_icmp .eq 6, 3), (9, .bipush (-2), 2), (11, .ireturn, 1), (12, .iconst (-1), 1), (13, .istore_n 2, 1), (14, .iconst 0, 1), (15, .istore_n 3, 1), (16, .aload_n 0, 1), (17, .getfield 37, 3), (20, .aload_n 0, 1), (21, .getfield 37, 3), (24, .getfield 101, 3), (27, .invokevirtual 231, 3), (30, .istore 4, 2), (32, .iconst 0, 1), (33, .istore 5, 2), (35, .iload 5, 2), (37, .aload_n 0, 1), (38, .getfield 37, 3), (41, .getfield 97, 3), (44, .if_icmp .ge 51, 3), (47, .aload_n 0, 1), (48, .getfield 37, 3), (51, .aload_n 0, 1), (52, .getfield 37, 3), (55, .getfield 101, 3), (58, .iload 4, 2), (60, .iconst 1, 1), (61, .iload 5, 2), (63, .ishl, 1), (64, .iconst (-1), 1), (65, .ixor, 1), (66, .iand, 1), (67, .invokevirtual 234, 3), (70, .istore 6, 2), (72, .iload_n 2, 1), (73, .iconst (-1), 1), (74, .if_icmp .eq 9, 3), (77, .iload 6, 2), (79, .iload_n 3, 1), (80, .if_icmp .ge 9, 3), (83, .iload 6, 2), (85, .istore_n 3, 1), (86, .iload 5, 2), (88, .istore_n 2, 1), (89, .iinc 5 1, 3), (92, .goto (-57), 3), (95, .iload_n 1, 1), (96, .ifCond .ne 7, 3), (99, .iload_n 2, 1), (100, .goto 4, 3), (103, .iload_n 3, 1), (104, .ireturn, 1)]
theorem KX9_fold : DX9_fold.all (fun q => decide (decode cX9_fold q.1 = .ok (q.2.1, q.2.2))) = true := by decide +kernel
def DX9_share : List (Nat × Instr × Nat) := [(0, .aload_n 0, 1), (1, .getfield 37, 3), (4, .iload_n 1, 1), (5, .invokevirtual 117, 3), (8, .ifCond .eq 12, 3), (11, .iload_n 2, 1), (12, .ifCond .lt 8, 3), (15, .iload_n 2, 1), (16, .iconst 1, 1), (17, .if_icmp .le 7, 3), (20, .ldc2_w 175, 3), (23, .lreturn, 1), (24, .aload_n 0, 1), (25, .getfield 37, 3), (28, .iload_n 1, 1), (29, .invokevirtual 153, 3), (32, .bipush 36, 2), (34, .iload_n 2, 1), (35, .invokestatic 237, 3), (38, .lreturn, 1)]
theorem KX9_share : DX9_share.all (fun q => decide (decode cX9_share q.1 = .ok (q.2.1, q.2.2))) = true := by decide +kernel
def DX9_mean : List (Nat × Instr × Nat) := [(0, .aload_n 0, 1), (1, .getfield 37, 3), (4, .iload_n 1, 1), (5, .invokevirtual 117, 3), (8, .ifCond .eq 12, 3), (11, .iload_n 2, 1), (12, .ifCond .lt 8, 3), (15, .iload_n 2, 1), (16, .iconst 1, 1), (17, .if_icmp .le 7, 3), (20, .ldc2_w 175, 3), (23, .lreturn, 1), (24, .aload_n 0, 1), (25, .getfield 37, 3), (28, .invokevirtual 160, 3), (31, .aload_n 0, 1), (32, .getfield 37, 3), (35, .iconst 1, 1), (36, .iload_n 1, 1), (37, .ishl, 1), (38, .invokevirtual 219, 3), (41, .istore_n 3, 1), (42, .iload_n 3, 1), (43, .ifCond .ne 9, 3), (46, .ldc2_w 175, 3), (49, .goto 16, 3), (52, .aload_n 0, 1), (53, .getfield 37, 3), (56, .iload_n 1, 1), (57, .invokevirtual 241, 3), (60, .iload_n 3, 1), (61, .iload_n 2, 1), (62, .invokestatic 237, 3), (65, .lreturn, 1)]
theorem KX9_mean : DX9_mean.all (fun q => decide (decode cX9_mean q.1 = .ok (q.2.1, q.2.2))) = true := by decide +kernel
def DX9_judge : List (Nat × Instr × Nat) := [(0, .aload_n 0, 1), (1, .iload_n 1, 1), (2, .iload_n 2, 1), (3, .invokevirtual 244, 3), (6, .istore_n 3, 1), (7, .iload_n 3, 1), (8, .ifCond .eq 7, 3), (11, .iload_n 3, 1), (12, .goto 29, 3), (15, .aload_n 0, 1), (16, .getfield 37, 3), (19, .aload_n 0, 1), (20, .getfield 74, 3), (23, .getfield 247, 3), (26, .iload_n 1, 1), (27, .aaload, 1), (28, .aload_n 0, 1), (29, .getfield 74, 3), (32, .getfield 251, 3), (35, .iload_n 1, 1), (36, .iaload, 1), (37, .iload_n 2, 1), (38, .invokevirtual 252, 3), (41, .ireturn, 1)]
theorem KX9_judge : DX9_judge.all (fun q => decide (decode cX9_judge q.1 = .ok (q.2.1, q.2.2))) = true := by decide +kernel
def DX9_kinds : List (Nat × Instr × Nat) := [(0, .aload_n 0, 1), (1, .iload_n 1, 1), (2, .iload_n 2, 1), (3, .invokevirtual 244, 3), (6, .istore 5, 2), (8, .iload 5, 2), (10, .ifCond .eq 6, 3), (13, .iload 5, 2), (15, .ireturn, 1), (16, .aload_n 0, 1), (17, .getfield 37, 3), (20, .iload_n 3, 1), (21, .invokevirtual 117, 3), (24, .ifCond .ne 6, 3), (27, .bipush (-6), 2), (29, .ireturn, 1), (30, .iload 4, 2), (32, .ifCond .eq 12, 3), (35, .iload 4, 2), (37, .iconst 1, 1), (38, .if_icmp .eq 6, 3), (41, .bipush (-7), 2), (43, .ireturn, 1), (44, .iload 4, 2), (46, .ifCond .ne 13, 3), (49, .aload_n 0, 1), (50, .getfield 37, 3), (53, .getfield 145, 3), (56, .goto 10, 3), (59, .aload_n 0, 1), (60, .getfield 37, 3), (63, .getfield 148, 3), (66, .astore 6, 2), (68, .iload 4, 2), (70, .ifCond .ne 8, 3), (73, .bipush 6, 2), (75, .goto 5, 3), (78, .bipush 10, 2), (80, .istore 7, 2), (82, .aload 6, 2), (84, .iload_n 3, 1), (85, .iaload, 1), (86, .istore 8, 2), (88, .iconst 0, 1), (89, .istore 9, 2), (91, .iconst 0, 1), (92, .istore 10, 2), (94, .iload 10, 2), (96, .iload 7, 2), (98, .if_icmp .ge 54, 3), (101, .aload 6, 2), (103, .iload_n 3, 1), (104, .iload 10, 2), (106, .iastore, 1), (107, .aload_n 0, 1), (108, .getfield 37, 3), (111, .aload_n 0, 1), (112, .getfield 74, 3), (115, .getfield 247, 3), (118, .iload_n 1, 1), (119, .aaload, 1), (120, .aload_n 0, 1), (121, .getfield 74, 3), (124, .getfield 251, 3), (127, .iload_n 1, 1), (128, .iaload, 1), (129, .iload_n 2, 1), (130, .invokevirtual 252, 3), (133, .iconst (-1), 1), (134, .if_icmp .ne 12, 3), (137, .iload 9, 2), (139, .iconst 1, 1), (140, .iload 10, 2), (142, .ishl, 1), (143, .ior, 1), (144, .istore 9, 2), (146, .iinc 10 1, 3), (149, .goto (-55), 3), (152, .aload 6, 2), (154, .iload_n 3, 1), (155, .iload 8, 2), (157, .iastore, 1), (158, .iload 9, 2), (160, .ireturn, 1)]
theorem KX9_kinds : DX9_kinds.all (fun q => decide (decode cX9_kinds q.1 = .ok (q.2.1, q.2.2))) = true := by decide +kernel
def DX9_crowds : List (Nat × Instr × Nat) := [(0, .aload_n 0, 1), (1, .iload_n 1, 1), (2, .iload_n 2, 1), (3, .invokevirtual 244, 3), (6, .istore 5, 2), (8, .iload 5, 2), (10, .ifCond .eq 6, 3), (13, .iload 5, 2), (15, .ireturn, 1), (16, .aload_n 0, 1), (17, .getfield 37, 3), (20, .iload_n 3, 1), (21, .invokevirtual 117, 3), (24, .ifCond .ne 6, 3), (27, .bipush (-6), 2), (29, .ireturn, 1), (30, .iload 4, 2), (32, .ifCond .eq 12, 3), (35, .iload 4, 2), (37, .iconst 1, 1), (38, .if_icmp .eq 6, 3), (41, .bipush (-7), 2), (43, .ireturn, 1), (44, .aload_n 0, 1), (45, .getfield 37, 3), (48, .getfield 141, 3), (51, .iload_n 3, 1), (52, .iaload, 1), (53, .istore 6, 2), (55, .iconst 0, 1), (56, .istore 7, 2), (58, .iconst (-1), 1), (59, .istore 8, 2), (61, .bipush 99, 2), (63, .istore 9, 2), (65, .iload 9, 2), (67, .ifCond .lt 57, 3), (70, .aload_n 0, 1), (71, .getfield 37, 3), (74, .getfield 141, 3), (77, .iload_n 3, 1), (78, .iload 9, 2), (80, .iastore, 1), (81, .aload_n 0, 1), (82, .getfield 37, 3), (85, .aload_n 0, 1), (86, .getfield 74, 3), (89, .getfield 247, 3), (92, .iload_n 1, 1), (93, .aaload, 1), (94, .aload_n 0, 1), (95, .getfield 74, 3), (98, .getfield 251, 3), (101, .iload_n 1, 1), (102, .iaload, 1), (103, .iload_n 2, 1), (104, .invokevirtual 252, 3), (107, .iconst (-1), 1), (108, .if_icmp .ne 10, 3), (111, .iinc 7 1, 3), (114, .iload 9, 2), (116, .istore 8, 2), (118, .iinc 9 (-1), 3), (121, .goto (-56), 3), (124, .aload_n 0, 1), (125, .getfield 37, 3), (128, .getfield 141, 3), (131, .iload_n 3, 1), (132, .iload 6, 2), (134, .iastore, 1), (135, .iload 4, 2), (137, .ifCond .ne 8, 3), (140, .iload 7, 2), (142, .goto 5, 3), (145, .iload 8, 2), (147, .ireturn, 1)]
theorem KX9_crowds : DX9_crowds.all (fun q => decide (decode cX9_crowds q.1 = .ok (q.2.1, q.2.2))) = true := by decide +kernel
def DX9_where : List (Nat × Instr × Nat) := [(0, .aload_n 0, 1), (1, .iload_n 1, 1), (2, .iconst 0, 1), (3, .invokevirtual 244, 3), (6, .ifCond .eq 7, 3), (9, .ldc2_w 175, 3), (12, .lreturn, 1), (13, .lconst 0, 1), (14, .lstore_n 2, 1), (15, .iconst 0, 1), (16, .istore 4, 2), (18, .iload 4, 2), (20, .bipush 36, 2), (22, .if_icmp .ge 47, 3), (25, .aload_n 0, 1), (26, .getfield 37, 3), (29, .aload_n 0, 1), (30, .getfield 74, 3), (33, .getfield 247, 3), (36, .iload_n 1, 1), (37, .aaload, 1), (38, .aload_n 0, 1), (39, .getfield 74, 3), (42, .getfield 251, 3), (45, .iload_n 1, 1), (46, .iaload, 1), (47, .iload 4, 2), (49, .invokevirtual 252, 3), (52, .iconst (-1), 1), (53, .if_icmp .ne 10, 3), (56, .lload_n 2, 1), (57, .lconst 1, 1), (58, .iload 4, 2), (60, .lshl, 1), (61, .lor, 1), (62, .lstore_n 2, 1), (63, .iinc 4 1, 3), (66, .goto (-48), 3), (69, .lload_n 2, 1), (70, .lreturn, 1)]
theorem KX9_where : DX9_where.all (fun q => decide (decode cX9_where q.1 = .ok (q.2.1, q.2.2))) = true := by decide +kernel
def DX9_laws : List (Nat × Instr × Nat) := [(0, .aload_n 0, 1), (1, .iload_n 1, 1), (2, .iload_n 2, 1), (3, .invokevirtual 244, 3), (6, .istore_n 3, 1), (7, .iload_n 3, 1), (8, .ifCond .eq 5, 3), (11, .iload_n 3, 1), (12, .ireturn, 1), (13, .aload_n 0, 1), (14, .getfield 37, 3), (17, .getfield 107, 3), (20, .istore 4, 2), (22, .iconst 0, 1), (23, .istore 5, 2), (25, .iconst 0, 1), (26, .istore 6, 2), (28, .iload 6, 2), (30, .aload_n 0, 1), (31, .getfield 10, 3), (34, .getfield 104, 3), (37, .if_icmp .ge 57, 3), (40, .aload_n 0, 1), (41, .getfield 37, 3), (44, .iload 6, 2), (46, .putfield 107, 3), (49, .aload_n 0, 1), (50, .getfield 37, 3), (53, .aload_n 0, 1), (54, .getfield 74, 3), (57, .getfield 247, 3), (60, .iload_n 1, 1), (61, .aaload, 1), (62, .aload_n 0, 1), (63, .getfield 74, 3), (66, .getfield 251, 3), (69, .iload_n 1, 1), (70, .iaload, 1), (71, .iload_n 2, 1), (72, .invokevirtual 252, 3), (75, .iconst (-1), 1), (76, .if_icmp .ne 12, 3), (79, .iload 5, 2), (81, .iconst 1, 1), (82, .iload 6, 2), (84, .ishl, 1), (85, .ior, 1), (86, .istore 5, 2), (88, .iinc 6 1, 3), (91, .goto (-63), 3), (94, .aload_n 0, 1), (95, .getfield 37, 3), (98, .iload 4, 2), (100, .putfield 107, 3), (103, .iload 5, 2), (105, .ireturn, 1)]
theorem KX9_laws : DX9_laws.all (fun q => decide (decode cX9_laws q.1 = .ok (q.2.1, q.2.2))) = true := by decide +kernel
def DX9_film : List (Nat × Instr × Nat) := [(0, .iload_n 1, 1), (1, .ifCond .lt 8, 3), (4, .iload_n 1, 1), (5, .iconst 4, 1), (6, .if_icmp .lt 6, 3), (9, .bipush (-2), 2), (11, .ireturn, 1), (12, .iload_n 2, 1), (13, .invokestatic 120, 3), (16, .ifCond .ne 6, 3), (19, .bipush (-5), 2), (21, .ireturn, 1), (22, .iload_n 3, 1), (23, .ifCond .lt 9, 3), (26, .iload_n 3, 1), (27, .bipush 24, 2), (29, .if_icmp .le 6, 3), (32, .bipush (-7), 2), (34, .ireturn, 1), (35, .aload_n 0, 1), (36, .getfield 74, 3), (39, .iload_n 1, 1), (40, .iconst 1, 1), (41, .iload_n 3, 1), (42, .invokevirtual 256, 3), (45, .iconst 0, 1), (46, .istore 4, 2), (48, .iload 4, 2), (50, .iload_n 3, 1), (51, .if_icmp .ge 29, 3), (54, .aload_n 0, 1), (55, .getfield 74, 3), (58, .iload_n 1, 1), (59, .iload 4, 2), (61, .aload_n 0, 1), (62, .getfield 37, 3), (65, .iload_n 2, 1), (66, .iload 4, 2), (68, .invokevirtual 259, 3), (71, .invokevirtual 262, 3), (74, .iinc 4 1, 3), (77, .goto (-29), 3), (80, .iload_n 3, 1), (81, .ireturn, 1)]
theorem KX9_film : DX9_film.all (fun q => decide (decode cX9_film q.1 = .ok (q.2.1, q.2.2))) = true := by decide +kernel
def DX9_drawn : List (Nat × Instr × Nat) := [(0, .iload_n 1, 1), (1, .invokestatic 265, 3), (4, .ifCond .eq 10, 3), (7, .iload_n 2, 1), (8, .invokestatic 268, 3), (11, .ifCond .ne 6, 3), (14, .bipush (-2), 2), (16, .ireturn, 1), (17, .aload_n 0, 1), (18, .getfield 37, 3), (21, .invokevirtual 160, 3), (24, .aload_n 0, 1), (25, .getfield 60, 3), (28, .iload_n 1, 1), (29, .iload_n 2, 1), (30, .bipush 100, 2), (32, .idiv, 1), (33, .iload_n 2, 1), (34, .bipush 100, 2), (36, .irem, 1), (37, .invokevirtual 271, 3), (40, .iload_n 3, 1), (41, .tableswitch 51 0 2 #[27, 35, 43], 27), (68, .aload_n 0, 1), (69, .getfield 60, 3), (72, .getfield 274, 3), (75, .ireturn, 1), (76, .aload_n 0, 1), (77, .getfield 60, 3), (80, .getfield 275, 3), (83, .ireturn, 1), (84, .aload_n 0, 1), (85, .getfield 60, 3), (88, .getfield 278, 3), (91, .ireturn, 1), (92, .bipush (-2), 2), (94, .ireturn, 1)]
theorem KX9_drawn : DX9_drawn.all (fun q => decide (decode cX9_drawn q.1 = .ok (q.2.1, q.2.2))) = true := by decide +kernel
def DX9_odds : List (Nat × Instr × Nat) := [(0, .iload_n 1, 1), (1, .invokestatic 265, 3), (4, .ifCond .eq 21, 3), (7, .iload_n 2, 1), (8, .iconst 1, 1), (9, .if_icmp .lt 16, 3), (12, .iload_n 2, 1), (13, .bipush 40, 2), (15, .if_icmp .gt 10, 3), (18, .iload_n 3, 1), (19, .invokestatic 268, 3), (22, .ifCond .ne 7, 3), (25, .ldc2_w 175, 3), (28, .lreturn, 1), (29, .iload 4, 2), (31, .ifCond .lt 22, 3), (34, .iload 4, 2), (36, .ldc_w 281, 3), (39, .if_icmp .gt 14, 3), (42, .iload 5, 2), (44, .ifCond .lt 9, 3), (47, .iload 5, 2), (49, .iconst 1, 1), (50, .if_icmp .le 7, 3), (53, .ldc2_w 175, 3), (56, .lreturn, 1), (57, .aload_n 0, 1), (58, .getfield 37, 3), (61, .invokevirtual 160, 3), (64, .iconst 0, 1), (65, .istore 6, 2), (67, .iconst 0, 1), (68, .istore 7, 2), (70, .iload 7, 2), (72, .iload_n 2, 1), (73, .if_icmp .ge 43, 3), (76, .aload_n 0, 1), (77, .getfield 60, 3), (80, .iload_n 1, 1), (81, .iload 7, 2), (83, .iadd, 1), (84, .iload_n 3, 1), (85, .bipush 100, 2), (87, .idiv, 1), (88, .iload_n 3, 1), (89, .bipush 100, 2), (91, .irem, 1), (92, .invokevirtual 271, 3), (95, .aload_n 0, 1), (96, .getfield 60, 3), (99, .getfield 274, 3), (102, .iload 4, 2), (104, .if_icmp .lt 6, 3), (107, .iinc 6 1, 3), (110, .iinc 7 1, 3), (113, .goto (-43), 3), (116, .iload 6, 2), (118, .iload_n 2, 1), (119, .iload 5, 2), (121, .invokestatic 237, 3), (124, .lreturn, 1)]
theorem KX9_odds : DX9_odds.all (fun q => decide (decode cX9_odds q.1 = .ok (q.2.1, q.2.2))) = true := by decide +kernel
def DX9_image : List (Nat × Instr × Nat) := [(0, .aload_n 0, 1), (1, .getfield 67, 3), (4, .aload_n 0, 1), (5, .getfield 37, 3), (8, .invokevirtual 282, 3), (11, .aload_n 0, 1), (12, .getfield 37, 3), (15, .getfield 97, 3), (18, .ireturn, 1)]
theorem KX9_image : DX9_image.all (fun q => decide (decode cX9_image q.1 = .ok (q.2.1, q.2.2))) = true := by decide +kernel
def DX9_back : List (Nat × Instr × Nat) := [(0, .aload_n 0, 1), (1, .getfield 67, 3), (4, .getfield 285, 3), (7, .ifCond .ne 6, 3), (10, .bipush (-3), 2), (12, .ireturn, 1), (13, .aload_n 0, 1), (14, .getfield 67, 3), (17, .aload_n 0, 1), (18, .getfield 37, 3), (21, .invokevirtual 289, 3), (24, .aload_n 0, 1), (25, .getfield 37, 3), (28, .getfield 97, 3), (31, .ireturn, 1)]
theorem KX9_back : DX9_back.all (fun q => decide (decode cX9_back q.1 = .ok (q.2.1, q.2.2))) = true := by decide +kernel
def DX9_sheet : List (Nat × Instr × Nat) := [(0, .iload_n 1, 1), (1, .ifCond .lt 18, 3), (4, .iload_n 1, 1), (5, .iconst 4, 1), (6, .if_icmp .ge 13, 3), (9, .iload_n 2, 1), (10, .iconst (-1), 1), (11, .if_icmp .lt 8, 3), (14, .iload_n 2, 1), (15, .iconst 3, 1), (16, .if_icmp .lt 6, 3), (19, .bipush (-2), 2), (21, .ireturn, 1), (22, .iload_n 2, 1), (23, .iconst (-1), 1), (24, .if_icmp .ne 15, 3), (27, .aload_n 0, 1), (28, .getfield 74, 3), (31, .iload_n 1, 1), (32, .iconst (-1), 1), (33, .iconst 0, 1), (34, .invokevirtual 256, 3), (37, .iconst 1, 1), (38, .ireturn, 1), (39, .iload_n 3, 1), (40, .bipush 40, 2), (42, .if_icmp .le 6, 3), (45, .bipush (-2), 2), (47, .ireturn, 1), (48, .iload_n 3, 1), (49, .ifCond .ge 6, 3), (52, .bipush (-14), 2), (54, .ireturn, 1), (55, .aload_n 0, 1), (56, .getfield 74, 3), (59, .iload_n 1, 1), (60, .iload_n 2, 1), (61, .iload_n 3, 1), (62, .invokevirtual 256, 3), (65, .iconst 1, 1), (66, .ireturn, 1)]
theorem KX9_sheet : DX9_sheet.all (fun q => decide (decode cX9_sheet q.1 = .ok (q.2.1, q.2.2))) = true := by decide +kernel
def DX9_cell : List (Nat × Instr × Nat) := [(0, .aload_n 0, 1), (1, .getfield 74, 3), (4, .iload_n 1, 1), (5, .invokevirtual 292, 3), (8, .istore 4, 2), (10, .iload 4, 2), (12, .ifCond .eq 6, 3), (15, .iload 4, 2), (17, .ireturn, 1), (18, .iload_n 2, 1), (19, .ifCond .lt 16, 3), (22, .iload_n 2, 1), (23, .aload_n 0, 1), (24, .getfield 74, 3), (27, .getfield 251, 3), (30, .iload_n 1, 1), (31, .iaload, 1), (32, .if_icmp .lt 6, 3), (35, .bipush (-12), 2), (37, .ireturn, 1), (38, .aload_n 0, 1), (39, .getfield 74, 3), (42, .iload_n 1, 1), (43, .iload_n 2, 1), (44, .iload_n 3, 1), (45, .invokevirtual 262, 3), (48, .iconst 1, 1), (49, .ireturn, 1)]
theorem KX9_cell : DX9_cell.all (fun q => decide (decode cX9_cell q.1 = .ok (q.2.1, q.2.2))) = true := by decide +kernel
def DX9_copy : List (Nat × Instr × Nat) := [(0, .iload_n 1, 1), (1, .ifCond .lt 17, 3), (4, .iload_n 1, 1), (5, .iconst 4, 1), (6, .if_icmp .ge 12, 3), (9, .iload_n 3, 1), (10, .ifCond .lt 8, 3), (13, .iload_n 3, 1), (14, .iconst 4, 1), (15, .if_icmp .lt 6, 3), (18, .bipush (-2), 2), (20, .ireturn, 1), (21, .aload_n 0, 1), (22, .getfield 74, 3), (25, .getfield 295, 3), (28, .iload_n 1, 1), (29, .iaload, 1), (30, .iconst (-1), 1), (31, .if_icmp .eq 16, 3), (34, .aload_n 0, 1), (35, .getfield 74, 3), (38, .getfield 295, 3), (41, .iload_n 3, 1), (42, .iaload, 1), (43, .iconst (-1), 1), (44, .if_icmp .ne 6, 3), (47, .bipush (-11), 2), (49, .ireturn, 1), (50, .aload_n 0, 1), (51, .getfield 74, 3), (54, .getfield 295, 3), (57, .iload_n 1, 1), (58, .iaload, 1), (59, .aload_n 0, 1), (60, .getfield 74, 3), (63, .getfield 295, 3), (66, .iload_n 3, 1), (67, .iaload, 1), (68, .if_icmp .eq 6, 3), (71, .bipush (-13), 2), (73, .ireturn, 1), (74, .iload_n 2, 1), (75, .ifCond .lt 46, 3), (78, .iload 4, 2), (80, .ifCond .lt 41, 3), (83, .iload 5, 2), (85, .ifCond .lt 36, 3), (88, .iload 5, 2), (90, .aload_n 0, 1), (91, .getfield 74, 3), (94, .getfield 251, 3), (97, .iload_n 1, 1), (98, .iaload, 1), (99, .iload_n 2, 1), (100, .isub, 1), (101, .if_icmp .gt 20, 3), (104, .iload 5, 2), (106, .aload_n 0, 1), (107, .getfield 74, 3), (110, .getfield 251, 3), (113, .iload_n 3, 1), (114, .iaload, 1), (115, .iload 4, 2), (117, .isub, 1), (118, .if_icmp .le 6, 3), (121, .bipush (-12), 2), (123, .ireturn, 1), (124, .aload_n 0, 1), (125, .getfield 74, 3), (128, .getfield 247, 3), (131, .iload_n 1, 1), (132, .aaload, 1), (133, .iload_n 2, 1), (134, .aload_n 0, 1), (135, .getfield 74, 3), (138, .getfield 247, 3), (141, .iload_n 3, 1), (142, .aaload, 1), (143, .iload 4, 2), (145, .iload 5, 2), (147, .invokestatic 298, 3), (150, .iload 5, 2), (152, .ireturn, 1)]
theorem KX9_copy : DX9_copy.all (fun q => decide (decode cX9_copy q.1 = .ok (q.2.1, q.2.2))) = true := by decide +kernel
def DX9_rugsBy : List (Nat × Instr × Nat) := [(0, .iload_n 1, 1), (1, .ifCond .lt 29, 3), (4, .iload_n 1, 1), (5, .iconst 4, 1), (6, .if_icmp .ge 24, 3), (9, .iload_n 2, 1), (10, .ifCond .lt 20, 3), (13, .iload_n 2, 1), (14, .iconst 3, 1), (15, .if_icmp .ge 15, 3), (18, .iload 4, 2), (20, .ifCond .lt 10, 3), (23, .iload 4, 2), (25, .bipush 6, 2), (27, .if_icmp .le 6, 3), (30, .bipush (-2), 2), (32, .ireturn, 1), (33, .aload_n 0, 1), (34, .getfield 74, 3), (37, .getfield 295, 3), (40, .iload_n 1, 1), (41, .iaload, 1), (42, .iconst (-1), 1), (43, .if_icmp .ne 6, 3), (46, .bipush (-11), 2), (48, .ireturn, 1), (49, .aload_n 0, 1), (50, .getfield 74, 3), (53, .getfield 295, 3), (56, .iload_n 1, 1), (57, .iaload, 1), (58, .iload_n 2, 1), (59, .if_icmp .eq 6, 3), (62, .bipush (-13), 2), (64, .ireturn, 1), (65, .iconst 0, 1), (66, .istore 5, 2), (68, .iload_n 3, 1), (69, .istore 6, 2), (71, .iconst 0, 1), (72, .istore 7, 2), (74, .iload 7, 2), (76, .iload 4, 2), (78, .if_icmp .ge 72, 3), (81, .iload 6, 2), (83, .ifCond .lt 19, 3), (86, .iload 6, 2), (88, .aload_n 0, 1), (89, .getfield 74, 3), (92, .getfield 251, 3), (95, .iload_n 1, 1), (96, .iaload, 1), (97, .iconst 2, 1), (98, .isub, 1), (99, .if_icmp .le 6, 3), (102, .bipush (-12), 2), (104, .ireturn, 1), (105, .aload_n 0, 1), (106, .aload_n 0, 1), (107, .getfield 74, 3), (110, .getfield 247, 3), (113, .iload_n 1, 1), (114, .aaload, 1), (115, .iload 6, 2), (117, .iaload, 1), (118, .aload_n 0, 1), (119, .getfield 74, 3), (122, .getfield 247, 3), (125, .iload_n 1, 1), (126, .aaload, 1), (127, .iload 6, 2), (129, .iconst 1, 1), (130, .iadd, 1), (131, .iaload, 1), (132, .invokevirtual 304, 3), (135, .ifCond .lt 6, 3), (138, .iinc 5 1, 3), (141, .iinc 6 2, 3), (144, .iinc 7 1, 3), (147, .goto (-73), 3), (150, .iload 5, 2), (152, .ireturn, 1)]
theorem KX9_rugsBy : DX9_rugsBy.all (fun q => decide (decode cX9_rugsBy q.1 = .ok (q.2.1, q.2.2))) = true := by decide +kernel
def DX9_taken : List (Nat × Instr × Nat) := [(0, .iload_n 2, 1), (1, .ifCond .lt 9, 3), (4, .iload_n 2, 1), (5, .bipush 6, 2), (7, .if_icmp .le 6, 3), (10, .bipush (-2), 2), (12, .ireturn, 1), (13, .iload_n 1, 1), (14, .ifCond .lt 9, 3), (17, .iload_n 1, 1), (18, .bipush 12, 2), (20, .if_icmp .lt 6, 3), (23, .bipush (-12), 2), (25, .ireturn, 1), (26, .iload_n 1, 1), (27, .bipush 6, 2), (29, .irem, 1), (30, .istore_n 3, 1), (31, .aload_n 0, 1), (32, .getfield 37, 3), (35, .iload_n 3, 1), (36, .invokevirtual 117, 3), (39, .ifCond .ne 6, 3), (42, .bipush (-11), 2), (44, .ireturn, 1), (45, .iload_n 2, 1), (46, .bipush 6, 2), (48, .if_icmp .ne 7, 3), (51, .iconst 1, 1), (52, .goto 4, 3), (55, .iconst 0, 1), (56, .istore 4, 2), (58, .iload 4, 2), (60, .iload_n 1, 1), (61, .bipush 6, 2), (63, .if_icmp .lt 7, 3), (66, .iconst 1, 1), (67, .goto 4, 3), (70, .iconst 0, 1), (71, .if_icmp .eq 6, 3), (74, .bipush (-13), 2), (76, .ireturn, 1), (77, .iload 4, 2), (79, .ifCond .eq 13, 3), (82, .aload_n 0, 1), (83, .getfield 37, 3), (86, .getfield 141, 3), (89, .iload_n 3, 1), (90, .iaload, 1), (91, .ireturn, 1), (92, .aload_n 0, 1), (93, .getfield 37, 3), (96, .getfield 145, 3), (99, .iload_n 3, 1), (100, .iaload, 1), (101, .iload_n 2, 1), (102, .invokestatic 307, 3), (105, .ifCond .eq 7, 3), (108, .iload_n 3, 1), (109, .goto 5, 3), (112, .bipush (-13), 2), (114, .ireturn, 1)]
theorem KX9_taken : DX9_taken.all (fun q => decide (decode cX9_taken q.1 = .ok (q.2.1, q.2.2))) = true := by decide +kernel
def DX9_readTape : List (Nat × Instr × Nat) := [(0, .aload_n 0, 1), (1, .getfield 28, 3), (4, .invokevirtual 310, 3), (7, .istore_n 1, 1), (8, .aload_n 0, 1), (9, .getfield 19, 3), (12, .iconst 0, 1), (13, .putfield 110, 3), (16, .iload_n 1, 1), (17, .iconst (-1), 1), (18, .if_icmp .ne 27, 3), (21, .aload_n 0, 1), (22, .getfield 10, 3), (25, .aload_n 0, 1), (26, .getfield 28, 3), (29, .getfield 313, 3), (32, .aload_n 0, 1), (33, .getfield 28, 3), (36, .getfield 316, 3), (39, .invokevirtual 319, 3), (42, .goto 7, 3), (45, .bipush (-100), 2), (47, .iload_n 1, 1), (48, .isub, 1), (49, .ireturn, 1)]
theorem KX9_readTape : DX9_readTape.all (fun q => decide (decode cX9_readTape q.1 = .ok (q.2.1, q.2.2))) = true := by decide +kernel
def DX9_refusesWalk : List (Nat × Instr × Nat) := [(0, .aload_n 0, 1), (1, .getfield 74, 3), (4, .iload_n 1, 1), (5, .invokevirtual 292, 3), (8, .istore_n 2, 1), (9, .iload_n 2, 1), (10, .ifCond .eq 5, 3), (13, .iload_n 2, 1), (14, .ireturn, 1), (15, .aload_n 0, 1), (16, .getfield 74, 3), (19, .getfield 247, 3), (22, .iload_n 1, 1), (23, .aaload, 1), (24, .aload_n 0, 1), (25, .getfield 74, 3), (28, .getfield 251, 3), (31, .iload_n 1, 1), (32, .iaload, 1), (33, .invokestatic 322, 3), (36, .ifCond .eq 7, 3), (39, .iconst 0, 1), (40, .goto 5, 3), (43, .bipush (-2), 2), (45, .ireturn, 1)]
theorem KX9_refusesWalk : DX9_refusesWalk.all (fun q => decide (decode cX9_refusesWalk q.1 = .ok (q.2.1, q.2.2))) = true := by decide +kernel
def DX9_refusesFines : List (Nat × Instr × Nat) := [(0, .aload_n 0, 1), (1, .getfield 74, 3), (4, .iload_n 1, 1), (5, .invokevirtual 292, 3), (8, .istore_n 3, 1), (9, .iload_n 3, 1), (10, .ifCond .eq 5, 3), (13, .iload_n 3, 1), (14, .ireturn, 1), (15, .aload_n 0, 1), (16, .getfield 74, 3), (19, .getfield 251, 3), (22, .iload_n 1, 1), (23, .iaload, 1), (24, .bipush 24, 2), (26, .if_icmp .le 6, 3), (29, .bipush (-2), 2), (31, .ireturn, 1), (32, .iload_n 2, 1), (33, .invokestatic 120, 3), (36, .ifCond .eq 7, 3), (39, .iconst 0, 1), (40, .goto 5, 3), (43, .bipush (-5), 2), (45, .ireturn, 1)]
theorem KX9_refusesFines : DX9_refusesFines.all (fun q => decide (decode cX9_refusesFines q.1 = .ok (q.2.1, q.2.2))) = true := by decide +kernel
def DX9_goThrough : List (Nat × Instr × Nat) := [(0, .aload_n 0, 1), (1, .getfield 46, 3), (4, .invokevirtual 200, 3), (7, .iconst 0, 1), (8, .istore_n 2, 1), (9, .iload_n 2, 1), (10, .aload_n 0, 1), (11, .getfield 74, 3), (14, .getfield 251, 3), (17, .iload_n 1, 1), (18, .iaload, 1), (19, .if_icmp .ge 42, 3), (22, .aload_n 0, 1), (23, .getfield 74, 3), (26, .getfield 247, 3), (29, .iload_n 1, 1), (30, .aaload, 1), (31, .iload_n 2, 1), (32, .iaload, 1), (33, .istore_n 3, 1), (34, .aload_n 0, 1), (35, .getfield 46, 3), (38, .iload_n 3, 1), (39, .invokevirtual 326, 3), (42, .ifCond .eq 5, 3), (45, .iload_n 2, 1), (46, .ireturn, 1), (47, .aload_n 0, 1), (48, .getfield 46, 3), (51, .iload_n 3, 1), (52, .invokevirtual 203, 3), (55, .iinc 2 1, 3), (58, .goto (-49), 3), (61, .iconst (-1), 1), (62, .ireturn, 1)]
theorem KX9_goThrough : DX9_goThrough.all (fun q => decide (decode cX9_goThrough q.1 = .ok (q.2.1, q.2.2))) = true := by decide +kernel
def DX9_isByte : List (Nat × Instr × Nat) := [(0, .iload_n 0, 1), (1, .ifCond .lt 14, 3), (4, .iload_n 0, 1), (5, .sipush 255, 3), (8, .if_icmp .gt 7, 3), (11, .iconst 1, 1), (12, .goto 4, 3), (15, .iconst 0, 1), (16, .ireturn, 1)]
theorem KX9_isByte : DX9_isByte.all (fun q => decide (decode cX9_isByte q.1 = .ok (q.2.1, q.2.2))) = true := by decide +kernel
def DX9_isSeed : List (Nat × Instr × Nat) := [(0, .iload_n 0, 1), (1, .ifCond .lt 14, 3), (4, .iload_n 0, 1), (5, .ldc_w 329, 3), (8, .if_icmp .ge 7, 3), (11, .iconst 1, 1), (12, .goto 4, 3), (15, .iconst 0, 1), (16, .ireturn, 1)]
theorem KX9_isSeed : DX9_isSeed.all (fun q => decide (decode cX9_isSeed q.1 = .ok (q.2.1, q.2.2))) = true := by decide +kernel
def DX9_isCellSteps : List (Nat × Instr × Nat) := [(0, .iload_n 0, 1), (1, .ifCond .lt 14, 3), (4, .iload_n 0, 1), (5, .sipush 3600, 3), (8, .if_icmp .ge 7, 3), (11, .iconst 1, 1), (12, .goto 4, 3), (15, .iconst 0, 1), (16, .ireturn, 1)]
theorem KX9_isCellSteps : DX9_isCellSteps.all (fun q => decide (decode cX9_isCellSteps q.1 = .ok (q.2.1, q.2.2))) = true := by decide +kernel
def DX9_isCell : List (Nat × Instr × Nat) := [(0, .iload_n 0, 1), (1, .ifCond .lt 13, 3), (4, .iload_n 0, 1), (5, .bipush 36, 2), (7, .if_icmp .ge 7, 3), (10, .iconst 1, 1), (11, .goto 4, 3), (14, .iconst 0, 1), (15, .ireturn, 1)]
theorem KX9_isCell : DX9_isCell.all (fun q => decide (decode cX9_isCell q.1 = .ok (q.2.1, q.2.2))) = true := by decide +kernel
def DX9_columnOf : List (Nat × Instr × Nat) := [(0, .iload_n 0, 1), (1, .bipush 6, 2), (3, .irem, 1), (4, .ireturn, 1)]
theorem KX9_columnOf : DX9_columnOf.all (fun q => decide (decode cX9_columnOf q.1 = .ok (q.2.1, q.2.2))) = true := by decide +kernel
def DX9_rowOf : List (Nat × Instr × Nat) := [(0, .iload_n 0, 1), (1, .bipush 6, 2), (3, .idiv, 1), (4, .ireturn, 1)]
theorem KX9_rowOf : DX9_rowOf.all (fun q => decide (decode cX9_rowOf q.1 = .ok (q.2.1, q.2.2))) = true := by decide +kernel
def DX9_areCorners : List (Nat × Instr × Nat) := [(0, .iload_n 0, 1), (1, .ifCond .lt 23, 3), (4, .iload_n 0, 1), (5, .bipush 100, 2), (7, .idiv, 1), (8, .invokestatic 120, 3), (11, .ifCond .eq 13, 3), (14, .iload_n 0, 1), (15, .bipush 100, 2), (17, .irem, 1), (18, .invokestatic 120, 3), (21, .ifCond .ne 5, 3), (24, .iconst 0, 1), (25, .ireturn, 1), (26, .iload_n 0, 1), (27, .bipush 100, 2), (29, .irem, 1), (30, .invokestatic 228, 3), (33, .iload_n 0, 1), (34, .bipush 100, 2), (36, .idiv, 1), (37, .invokestatic 228, 3), (40, .if_icmp .lt 24, 3), (43, .iload_n 0, 1), (44, .bipush 100, 2), (46, .irem, 1), (47, .invokestatic 330, 3), (50, .iload_n 0, 1), (51, .bipush 100, 2), (53, .idiv, 1), (54, .invokestatic 330, 3), (57, .if_icmp .lt 7, 3), (60, .iconst 1, 1), (61, .goto 4, 3), (64, .iconst 0, 1), (65, .ireturn, 1)]
theorem KX9_areCorners : DX9_areCorners.all (fun q => decide (decode cX9_areCorners q.1 = .ok (q.2.1, q.2.2))) = true := by decide +kernel
def DX9_stepFrom : List (Nat × Instr × Nat) := [(0, .iload_n 1, 1), (1, .tableswitch 95 0 3 #[31, 47, 62, 79], 31), (32, .iload_n 0, 1), (33, .invokestatic 228, 3), (36, .iconst 5, 1), (37, .if_icmp .ge 9, 3), (40, .iload_n 0, 1), (41, .iconst 1, 1), (42, .iadd, 1), (43, .goto 4, 3), (46, .iconst (-1), 1), (47, .ireturn, 1), (48, .iload_n 0, 1), (49, .invokestatic 228, 3), (52, .ifCond .le 9, 3), (55, .iload_n 0, 1), (56, .iconst 1, 1), (57, .isub, 1), (58, .goto 4, 3), (61, .iconst (-1), 1), (62, .ireturn, 1), (63, .iload_n 0, 1), (64, .invokestatic 330, 3), (67, .iconst 5, 1), (68, .if_icmp .ge 10, 3), (71, .iload_n 0, 1), (72, .bipush 6, 2), (74, .iadd, 1), (75, .goto 4, 3), (78, .iconst (-1), 1), (79, .ireturn, 1), (80, .iload_n 0, 1), (81, .invokestatic 330, 3), (84, .ifCond .le 10, 3), (87, .iload_n 0, 1), (88, .bipush 6, 2), (90, .isub, 1), (91, .goto 4, 3), (94, .iconst (-1), 1), (95, .ireturn, 1), (96, .iconst (-1), 1), (97, .ireturn, 1)]
theorem KX9_stepFrom : DX9_stepFrom.all (fun q => decide (decode cX9_stepFrom q.1 = .ok (q.2.1, q.2.2))) = true := by decide +kernel
def DX9_areBeside : List (Nat × Instr × Nat) := [(0, .iload_n 0, 1), (1, .invokestatic 228, 3), (4, .iload_n 1, 1), (5, .invokestatic 228, 3), (8, .isub, 1), (9, .invokestatic 333, 3), (12, .istore_n 2, 1), (13, .iload_n 0, 1), (14, .invokestatic 330, 3), (17, .iload_n 1, 1), (18, .invokestatic 330, 3), (21, .isub, 1), (22, .invokestatic 333, 3), (25, .istore_n 3, 1), (26, .iload_n 2, 1), (27, .iload_n 3, 1), (28, .iadd, 1), (29, .iconst 1, 1), (30, .if_icmp .ne 7, 3), (33, .iconst 1, 1), (34, .goto 4, 3), (37, .iconst 0, 1), (38, .ireturn, 1)]
theorem KX9_areBeside : DX9_areBeside.all (fun q => decide (decode cX9_areBeside q.1 = .ok (q.2.1, q.2.2))) = true := by decide +kernel
def DX9_isWalk : List (Nat × Instr × Nat) := [(0, .iconst 0, 1), (1, .istore_n 2, 1), (2, .iload_n 2, 1), (3, .iload_n 1, 1), (4, .if_icmp .ge 44, 3), (7, .iload_n 2, 1), (8, .aload_n 0, 1), (9, .arraylength, 1), (10, .if_icmp .ge 38, 3), (13, .aload_n 0, 1), (14, .iload_n 2, 1), (15, .iaload, 1), (16, .invokestatic 120, 3), (19, .ifCond .eq 21, 3), (22, .iload_n 2, 1), (23, .ifCond .le 19, 3), (26, .aload_n 0, 1), (27, .iload_n 2, 1), (28, .iconst 1, 1), (29, .isub, 1), (30, .iaload, 1), (31, .aload_n 0, 1), (32, .iload_n 2, 1), (33, .iaload, 1), (34, .invokestatic 338, 3), (37, .ifCond .ne 5, 3), (40, .iconst 0, 1), (41, .ireturn, 1), (42, .iinc 2 1, 3), (45, .goto (-43), 3), (48, .iconst 1, 1), (49, .ireturn, 1)]
theorem KX9_isWalk : DX9_isWalk.all (fun q => decide (decode cX9_isWalk q.1 = .ok (q.2.1, q.2.2))) = true := by decide +kernel
def DX9_isA : List (Nat × Instr × Nat) := [(0, .iload_n 1, 1), (1, .tableswitch 61 0 2 #[27, 29, 45], 27), (28, .iconst 1, 1), (29, .ireturn, 1), (30, .iload_n 0, 1), (31, .iconst 1, 1), (32, .if_icmp .eq 8, 3), (35, .iload_n 0, 1), (36, .iconst 3, 1), (37, .if_icmp .ne 7, 3), (40, .iconst 1, 1), (41, .goto 4, 3), (44, .iconst 0, 1), (45, .ireturn, 1), (46, .iload_n 0, 1), (47, .iconst 2, 1), (48, .if_icmp .eq 8, 3), (51, .iload_n 0, 1), (52, .iconst 4, 1), (53, .if_icmp .ne 7, 3), (56, .iconst 1, 1), (57, .goto 4, 3), (60, .iconst 0, 1), (61, .ireturn, 1), (62, .iload_n 0, 1), (63, .iload_n 1, 1), (64, .if_icmp .ne 7, 3), (67, .iconst 1, 1), (68, .goto 4, 3), (71, .iconst 0, 1), (72, .ireturn, 1)]
theorem KX9_isA : DX9_isA.all (fun q => decide (decode cX9_isA q.1 = .ok (q.2.1, q.2.2))) = true := by decide +kernel
def DX9_inLowestTerms : List (Nat × Instr × Nat) := [(0, .iload_n 0, 1), (1, .istore_n 3, 1), (2, .iload_n 1, 1), (3, .istore 4, 2), (5, .iconst 0, 1), (6, .istore 5, 2), (8, .iload 5, 2), (10, .sipush 1000, 3), (13, .if_icmp .ge 27, 3), (16, .iload 4, 2), (18, .ifCond .eq 22, 3), (21, .iload_n 3, 1), (22, .iload 4, 2), (24, .irem, 1), (25, .istore 6, 2), (27, .iload 4, 2), (29, .istore_n 3, 1), (30, .iload 6, 2), (32, .istore 4, 2), (34, .iinc 5 1, 3), (37, .goto (-29), 3), (40, .iload_n 2, 1), (41, .ifCond .ne 7, 3), (44, .iload_n 0, 1), (45, .goto 4, 3), (48, .iload_n 1, 1), (49, .istore 5, 2), (51, .iload_n 3, 1), (52, .ifCond .ne 9, 3), (55, .iload 5, 2), (57, .i2l, 1), (58, .goto 8, 3), (61, .iload 5, 2), (63, .iload_n 3, 1), (64, .idiv, 1), (65, .i2l, 1), (66, .lreturn, 1)]
theorem KX9_inLowestTerms : DX9_inLowestTerms.all (fun q => decide (decode cX9_inLowestTerms q.1 = .ok (q.2.1, q.2.2))) = true := by decide +kernel
end
section
def DX10_in : List (Nat × Instr × Nat) := [(0, .iload_n 0, 1), (1, .iload_n 1, 1), (2, .if_icmp .lt 12, 3), (5, .iload_n 0, 1), (6, .iload_n 2, 1), (7, .if_icmp .gt 7, 3), (10, .iconst 1, 1), (11, .goto 4, 3), (14, .iconst 0, 1), (15, .ireturn, 1)]
theorem KX10_in : DX10_in.all (fun q => decide (decode cX10_in q.1 = .ok (q.2.1, q.2.2))) = true := by decide +kernel
def DX10_within : List (Nat × Instr × Nat) := [(0, .iload_n 0, 1), (1, .iload_n 1, 1), (2, .if_icmp .ge 7, 3), (5, .iload_n 1, 1), (6, .goto 13, 3), (9, .iload_n 0, 1), (10, .iload_n 2, 1), (11, .if_icmp .le 7, 3), (14, .iload_n 2, 1), (15, .goto 4, 3), (18, .iload_n 0, 1), (19, .ireturn, 1)]
theorem KX10_within : DX10_within.all (fun q => decide (decode cX10_within q.1 = .ok (q.2.1, q.2.2))) = true := by decide +kernel
def DX10_isRug : List (Nat × Instr × Nat) := [(0, .iload_n 1, 1), (1, .iconst 0, 1), (2, .aload_n 0, 1), (3, .getfield 78, 3), (6, .iconst 1, 1), (7, .isub, 1), (8, .invokestatic 81, 3), (11, .ireturn, 1)]
theorem KX10_isRug : DX10_isRug.all (fun q => decide (decode cX10_isRug q.1 = .ok (q.2.1, q.2.2))) = true := by decide +kernel
def DX10_isCell : List (Nat × Instr × Nat) := [(0, .iload_n 0, 1), (1, .iconst 0, 1), (2, .bipush 35, 2), (4, .invokestatic 81, 3), (7, .ireturn, 1)]
theorem KX10_isCell : DX10_isCell.all (fun q => decide (decode cX10_isCell q.1 = .ok (q.2.1, q.2.2))) = true := by decide +kernel
def DX10_areCorners : List (Nat × Instr × Nat) := [(0, .iload_n 0, 1), (1, .iconst 0, 1), (2, .sipush 3535, 3), (5, .invokestatic 81, 3), (8, .ifCond .eq 12, 3), (11, .iload_n 0, 1), (12, .bipush 100, 2), (14, .irem, 1), (15, .bipush 36, 2), (17, .if_icmp .lt 5, 3), (20, .iconst 0, 1), (21, .ireturn, 1), (22, .iload_n 0, 1), (23, .bipush 100, 2), (25, .idiv, 1), (26, .istore_n 1, 1), (27, .iload_n 0, 1), (28, .bipush 100, 2), (30, .irem, 1), (31, .istore_n 2, 1), (32, .iload_n 1, 1), (33, .bipush 6, 2), (35, .irem, 1), (36, .iload_n 2, 1), (37, .bipush 6, 2), (39, .irem, 1), (40, .if_icmp .gt 18, 3), (43, .iload_n 1, 1), (44, .bipush 6, 2), (46, .idiv, 1), (47, .iload_n 2, 1), (48, .bipush 6, 2), (50, .idiv, 1), (51, .if_icmp .gt 7, 3), (54, .iconst 1, 1), (55, .goto 4, 3), (58, .iconst 0, 1), (59, .ireturn, 1)]
theorem KX10_areCorners : DX10_areCorners.all (fun q => decide (decode cX10_areCorners q.1 = .ok (q.2.1, q.2.2))) = true := by decide +kernel
def DX10_without0 : List (Nat × Instr × Nat) := [(0, .iload_n 0, 1), (1, .iload_n 1, 1), (2, .if_icmp .ge 9, 3), (5, .iload_n 1, 1), (6, .iload_n 0, 1), (7, .isub, 1), (8, .goto 6, 3), (11, .iload_n 0, 1), (12, .iload_n 1, 1), (13, .isub, 1), (14, .ireturn, 1)]
theorem KX10_without0 : DX10_without0.all (fun q => decide (decode cX10_without0 q.1 = .ok (q.2.1, q.2.2))) = true := by decide +kernel
def DX10_isBeside : List (Nat × Instr × Nat) := [(0, .iload_n 0, 1), (1, .bipush 6, 2), (3, .irem, 1), (4, .iload_n 1, 1), (5, .bipush 6, 2), (7, .irem, 1), (8, .invokestatic 85, 3), (11, .iload_n 0, 1), (12, .bipush 6, 2), (14, .idiv, 1), (15, .iload_n 1, 1), (16, .bipush 6, 2), (18, .idiv, 1), (19, .invokestatic 85, 3), (22, .iadd, 1), (23, .iconst 1, 1), (24, .if_icmp .ne 7, 3), (27, .iconst 1, 1), (28, .goto 4, 3), (31, .iconst 0, 1), (32, .ireturn, 1)]
theorem KX10_isBeside : DX10_isBeside.all (fun q => decide (decode cX10_isBeside q.1 = .ok (q.2.1, q.2.2))) = true := by decide +kernel
def DX10_lies : List (Nat × Instr × Nat) := [(0, .aload_n 0, 1), (1, .getfield 16, 3), (4, .iconst 3, 1), (5, .iload_n 1, 1), (6, .imul, 1), (7, .iaload, 1), (8, .istore_n 3, 1), (9, .aload_n 0, 1), (10, .getfield 16, 3), (13, .iconst 3, 1), (14, .iload_n 1, 1), (15, .imul, 1), (16, .iconst 1, 1), (17, .iadd, 1), (18, .iaload, 1), (19, .istore 4, 2), (21, .iload_n 2, 1), (22, .bipush 6, 2), (24, .irem, 1), (25, .iload_n 3, 1), (26, .bipush 6, 2), (28, .irem, 1), (29, .iload 4, 2), (31, .bipush 6, 2), (33, .irem, 1), (34, .invokestatic 81, 3), (37, .ifCond .eq 26, 3), (40, .iload_n 2, 1), (41, .bipush 6, 2), (43, .idiv, 1), (44, .iload_n 3, 1), (45, .bipush 6, 2), (47, .idiv, 1), (48, .iload 4, 2), (50, .bipush 6, 2), (52, .idiv, 1), (53, .invokestatic 81, 3), (56, .ifCond .eq 7, 3), (59, .iconst 1, 1), (60, .goto 4, 3), (63, .iconst 0, 1), (64, .ireturn, 1)]
theorem KX10_lies : DX10_lies.all (fun q => decide (decode cX10_lies q.1 = .ok (q.2.1, q.2.2))) = true := by decide +kernel
def DX10_isFringe : List (Nat × Instr × Nat) := [(0, .aload_n 0, 1), (1, .getfield 16, 3), (4, .iconst 3, 1), (5, .iload_n 1, 1), (6, .imul, 1), (7, .iaload, 1), (8, .istore_n 3, 1), (9, .aload_n 0, 1), (10, .getfield 16, 3), (13, .iconst 3, 1), (14, .iload_n 1, 1), (15, .imul, 1), (16, .iconst 1, 1), (17, .iadd, 1), (18, .iaload, 1), (19, .istore 4, 2), (21, .iload_n 2, 1), (22, .bipush 6, 2), (24, .irem, 1), (25, .iload_n 3, 1), (26, .bipush 6, 2), (28, .irem, 1), (29, .if_icmp .eq 15, 3), (32, .iload_n 2, 1), (33, .bipush 6, 2), (35, .irem, 1), (36, .iload 4, 2), (38, .bipush 6, 2), (40, .irem, 1), (41, .if_icmp .ne 7, 3), (44, .iconst 1, 1), (45, .goto 4, 3), (48, .iconst 0, 1), (49, .istore 5, 2), (51, .iload 5, 2), (53, .ifCond .ne 26, 3), (56, .iload_n 2, 1), (57, .bipush 6, 2), (59, .idiv, 1), (60, .iload_n 3, 1), (61, .bipush 6, 2), (63, .idiv, 1), (64, .if_icmp .eq 15, 3), (67, .iload_n 2, 1), (68, .bipush 6, 2), (70, .idiv, 1), (71, .iload 4, 2), (73, .bipush 6, 2), (75, .idiv, 1), (76, .if_icmp .ne 7, 3), (79, .iconst 1, 1), (80, .goto 4, 3), (83, .iconst 0, 1), (84, .ireturn, 1)]
theorem KX10_isFringe : DX10_isFringe.all (fun q => decide (decode cX10_isFringe q.1 = .ok (q.2.1, q.2.2))) = true := by decide +kernel
def DX10_sizeOf : List (Nat × Instr × Nat) := [(0, .aload_n 0, 1), (1, .getfield 16, 3), (4, .iconst 3, 1), (5, .iload_n 1, 1), (6, .imul, 1), (7, .iaload, 1), (8, .istore_n 2, 1), (9, .aload_n 0, 1), (10, .getfield 16, 3), (13, .iconst 3, 1), (14, .iload_n 1, 1), (15, .imul, 1), (16, .iconst 1, 1), (17, .iadd, 1), (18, .iaload, 1), (19, .istore_n 3, 1), (20, .iload_n 3, 1), (21, .bipush 6, 2), (23, .irem, 1), (24, .iload_n 2, 1), (25, .bipush 6, 2), (27, .irem, 1), (28, .isub, 1), (29, .iconst 1, 1), (30, .iadd, 1), (31, .iload_n 3, 1), (32, .bipush 6, 2), (34, .idiv, 1), (35, .iload_n 2, 1), (36, .bipush 6, 2), (38, .idiv, 1), (39, .isub, 1), (40, .iconst 1, 1), (41, .iadd, 1), (42, .imul, 1), (43, .ireturn, 1)]
theorem KX10_sizeOf : DX10_sizeOf.all (fun q => decide (decode cX10_sizeOf q.1 = .ok (q.2.1, q.2.2))) = true := by decide +kernel
def DX10_count : List (Nat × Instr × Nat) := [(0, .iload_n 1, 1), (1, .tableswitch 60 0 4 #[35, 40, 45, 50, 55], 35), (36, .aload_n 0, 1), (37, .getfield 78, 3), (40, .ireturn, 1), (41, .aload_n 0, 1), (42, .getfield 19, 3), (45, .ireturn, 1), (46, .aload_n 0, 1), (47, .getfield 89, 3), (50, .ireturn, 1), (51, .aload_n 0, 1), (52, .getfield 92, 3), (55, .ireturn, 1), (56, .aload_n 0, 1), (57, .getfield 71, 3), (60, .ireturn, 1), (61, .bipush (-2), 2), (63, .ireturn, 1)]
theorem KX10_count : DX10_count.all (fun q => decide (decode cX10_count q.1 = .ok (q.2.1, q.2.2))) = true := by decide +kernel
def DX10_strikes : List (Nat × Instr × Nat) := [(0, .iload_n 1, 1), (1, .iconst 0, 1), (2, .bipush 23, 2), (4, .invokestatic 81, 3), (7, .ifCond .ne 6, 3), (10, .bipush (-2), 2), (12, .ireturn, 1), (13, .aload_n 0, 1), (14, .getfield 19, 3), (17, .istore_n 2, 1), (18, .aload_n 0, 1), (19, .iload_n 1, 1), (20, .putfield 19, 3), (23, .iload_n 2, 1), (24, .ireturn, 1)]
theorem KX10_strikes : DX10_strikes.all (fun q => decide (decode cX10_strikes q.1 = .ok (q.2.1, q.2.2))) = true := by decide +kernel
def DX10_isByte : List (Nat × Instr × Nat) := [(0, .iload_n 0, 1), (1, .iconst 0, 1), (2, .sipush 255, 3), (5, .invokestatic 81, 3), (8, .ireturn, 1)]
theorem KX10_isByte : DX10_isByte.all (fun q => decide (decode cX10_isByte q.1 = .ok (q.2.1, q.2.2))) = true := by decide +kernel
def DX10_feed : List (Nat × Instr × Nat) := [(0, .iload_n 1, 1), (1, .iconst 1, 1), (2, .iconst 5, 1), (3, .invokestatic 81, 3), (6, .ifCond .eq 41, 3), (9, .iload_n 2, 1), (10, .invokestatic 95, 3), (13, .ifCond .eq 34, 3), (16, .iload_n 3, 1), (17, .invokestatic 95, 3), (20, .ifCond .eq 27, 3), (23, .iload 4, 2), (25, .invokestatic 95, 3), (28, .ifCond .eq 19, 3), (31, .iload 5, 2), (33, .invokestatic 95, 3), (36, .ifCond .eq 11, 3), (39, .iload 6, 2), (41, .invokestatic 95, 3), (44, .ifCond .ne 6, 3), (47, .bipush (-2), 2), (49, .ireturn, 1), (50, .aload_n 0, 1), (51, .getfield 71, 3), (54, .iload_n 1, 1), (55, .iadd, 1), (56, .sipush 160, 3), (59, .if_icmp .le 6, 3), (62, .bipush (-4), 2), (64, .ireturn, 1), (65, .iconst 0, 1), (66, .istore 7, 2), (68, .iload 7, 2), (70, .iload_n 1, 1), (71, .if_icmp .ge 71, 3), (74, .aload_n 0, 1), (75, .getfield 23, 3), (78, .aload_n 0, 1), (79, .getfield 71, 3), (82, .iload 7, 2), (84, .ifCond .ne 7, 3), (87, .iload_n 2, 1), (88, .goto 37, 3), (91, .iload 7, 2), (93, .iconst 1, 1), (94, .if_icmp .ne 7, 3), (97, .iload_n 3, 1), (98, .goto 27, 3), (101, .iload 7, 2), (103, .iconst 2, 1), (104, .if_icmp .ne 8, 3), (107, .iload 4, 2), (109, .goto 16, 3), (112, .iload 7, 2), (114, .iconst 3, 1), (115, .if_icmp .ne 8, 3), (118, .iload 5, 2), (120, .goto 5, 3), (123, .iload 6, 2), (125, .iastore, 1), (126, .aload_n 0, 1), (127, .dup, 1), (128, .getfield 71, 3), (131, .iconst 1, 1), (132, .iadd, 1), (133, .putfield 71, 3), (136, .iinc 7 1, 3), (139, .goto (-71), 3), (142, .aload_n 0, 1), (143, .getfield 71, 3), (146, .ireturn, 1)]
theorem KX10_feed : DX10_feed.all (fun q => decide (decode cX10_feed q.1 = .ok (q.2.1, q.2.2))) = true := by decide +kernel
def DX10_wordFrom : List (Nat × Instr × Nat) := [(0, .iconst 0, 1), (1, .istore_n 3, 1), (2, .iload_n 3, 1), (3, .bipush 12, 2), (5, .if_icmp .ge 96, 3), (8, .iload_n 2, 1), (9, .iload_n 1, 1), (10, .isub, 1), (11, .bipush 8, 2), (13, .if_icmp .gt 7, 3), (16, .iconst 1, 1), (17, .goto 4, 3), (20, .iconst 0, 1), (21, .istore 4, 2), (23, .iconst 0, 1), (24, .istore 5, 2), (26, .iload 5, 2), (28, .bipush 8, 2), (30, .if_icmp .ge 58, 3), (33, .iload 4, 2), (35, .ifCond .eq 53, 3), (38, .aload_n 0, 1), (39, .getfield 50, 3), (42, .bipush 8, 2), (44, .iload_n 3, 1), (45, .imul, 1), (46, .iload 5, 2), (48, .iadd, 1), (49, .iaload, 1), (50, .iload_n 1, 1), (51, .iload 5, 2), (53, .iadd, 1), (54, .iload_n 2, 1), (55, .if_icmp .ge 15, 3), (58, .aload_n 0, 1), (59, .getfield 23, 3), (62, .iload_n 1, 1), (63, .iload 5, 2), (65, .iadd, 1), (66, .iaload, 1), (67, .goto 5, 3), (70, .bipush 32, 2), (72, .if_icmp .ne 7, 3), (75, .iconst 1, 1), (76, .goto 4, 3), (79, .iconst 0, 1), (80, .istore 4, 2), (82, .iinc 5 1, 3), (85, .goto (-59), 3), (88, .iload 4, 2), (90, .ifCond .eq 5, 3), (93, .iload_n 3, 1), (94, .ireturn, 1), (95, .iinc 3 1, 3), (98, .goto (-96), 3), (101, .bipush 12, 2), (103, .ireturn, 1)]
theorem KX10_wordFrom : DX10_wordFrom.all (fun q => decide (decode cX10_wordFrom q.1 = .ok (q.2.1, q.2.2))) = true := by decide +kernel
def DX10_next : List (Nat × Instr × Nat) := [(0, .aload_n 0, 1), (1, .getfield 99, 3), (4, .aload_n 0, 1), (5, .getfield 71, 3), (8, .if_icmp .ge 44, 3), (11, .aload_n 0, 1), (12, .getfield 23, 3), (15, .aload_n 0, 1), (16, .getfield 99, 3), (19, .iaload, 1), (20, .bipush 32, 2), (22, .if_icmp .eq 17, 3), (25, .aload_n 0, 1), (26, .getfield 23, 3), (29, .aload_n 0, 1), (30, .getfield 99, 3), (33, .iaload, 1), (34, .bipush 10, 2), (36, .if_icmp .ne 16, 3), (39, .aload_n 0, 1), (40, .dup, 1), (41, .getfield 99, 3), (44, .iconst 1, 1), (45, .iadd, 1), (46, .putfield 99, 3), (49, .goto (-49), 3), (52, .aload_n 0, 1), (53, .aload_n 0, 1), (54, .getfield 99, 3), (57, .putfield 102, 3), (60, .aload_n 0, 1), (61, .iconst 0, 1), (62, .putfield 105, 3), (65, .aload_n 0, 1), (66, .iconst 0, 1), (67, .putfield 108, 3), (70, .aload_n 0, 1), (71, .getfield 99, 3), (74, .aload_n 0, 1), (75, .getfield 71, 3), (78, .if_icmp .ne 4, 3), (81, .return_, 1), (82, .aload_n 0, 1), (83, .getfield 23, 3), (86, .aload_n 0, 1), (87, .getfield 99, 3), (90, .iaload, 1), (91, .istore_n 1, 1), (92, .iload_n 1, 1), (93, .bipush 97, 2), (95, .bipush 122, 2), (97, .invokestatic 81, 3), (100, .ifCond .eq 117, 3), (103, .aload_n 0, 1), (104, .getfield 99, 3), (107, .aload_n 0, 1), (108, .getfield 71, 3), (111, .if_icmp .ge 35, 3), (114, .aload_n 0, 1), (115, .getfield 23, 3), (118, .aload_n 0, 1), (119, .getfield 99, 3), (122, .iaload, 1), (123, .bipush 97, 2), (125, .bipush 122, 2), (127, .invokestatic 81, 3), (130, .ifCond .eq 16, 3), (133, .aload_n 0, 1), (134, .dup, 1), (135, .getfield 99, 3), (138, .iconst 1, 1), (139, .iadd, 1), (140, .putfield 99, 3), (143, .goto (-40), 3), (146, .aload_n 0, 1), (147, .aload_n 0, 1), (148, .getfield 102, 3), (151, .aload_n 0, 1), (152, .getfield 99, 3), (155, .invokevirtual 111, 3), (158, .istore_n 2, 1), (159, .aload_n 0, 1), (160, .iload_n 2, 1), (161, .iconst 3, 1), (162, .if_icmp .ge 7, 3), (165, .iconst 3, 1), (166, .goto 29, 3), (169, .iload_n 2, 1), (170, .bipush 9, 2), (172, .if_icmp .ge 7, 3), (175, .iconst 2, 1), (176, .goto 19, 3), (179, .iload_n 2, 1), (180, .bipush 12, 2), (182, .if_icmp .ne 7, 3), (185, .iconst (-1), 1), (186, .goto 9, 3), (189, .iconst 4, 1), (190, .iload_n 2, 1), (191, .iadd, 1), (192, .bipush 9, 2), (194, .isub, 1), (195, .putfield 105, 3), (198, .aload_n 0, 1), (199, .iload_n 2, 1), (200, .iconst 3, 1), (201, .if_icmp .ge 7, 3), (204, .iload_n 2, 1), (205, .goto 6, 3), (208, .iload_n 2, 1), (209, .iconst 3, 1), (210, .isub, 1), (211, .putfield 108, 3), (214, .goto 189, 3), (217, .iload_n 1, 1), (218, .bipush 48, 2), (220, .bipush 57, 2), (222, .invokestatic 81, 3), (225, .ifCond .eq 101, 3), (228, .iconst 0, 1), (229, .istore_n 2, 1), (230, .aload_n 0, 1), (231, .getfield 99, 3), (234, .aload_n 0, 1), (235, .getfield 71, 3), (238, .if_icmp .ge 71, 3), (241, .aload_n 0, 1), (242, .getfield 23, 3), (245, .aload_n 0, 1), (246, .getfield 99, 3), (249, .iaload, 1), (250, .bipush 48, 2), (252, .bipush 57, 2), (254, .invokestatic 81, 3), (257, .ifCond .eq 52, 3), (260, .aload_n 0, 1), (261, .iload_n 2, 1), (262, .iconst 4, 1), (263, .if_icmp .ge 26, 3), (266, .bipush 10, 2), (268, .aload_n 0, 1), (269, .getfield 108, 3), (272, .imul, 1), (273, .aload_n 0, 1), (274, .getfield 23, 3), (277, .aload_n 0, 1), (278, .getfield 99, 3), (281, .iaload, 1), (282, .iadd, 1), (283, .bipush 48, 2), (285, .isub, 1), (286, .goto 4, 3), (289, .iconst 0, 1), (290, .putfield 108, 3), (293, .iinc 2 1, 3), (296, .aload_n 0, 1), (297, .dup, 1), (298, .getfield 99, 3), (301, .iconst 1, 1), (302, .iadd, 1), (303, .putfield 99, 3), (306, .goto (-76), 3), (309, .aload_n 0, 1), (310, .iload_n 2, 1), (311, .iconst 4, 1), (312, .if_icmp .le 7, 3), (315, .iconst (-1), 1), (316, .goto 4, 3), (319, .iconst 1, 1), (320, .putfield 105, 3), (323, .goto 80, 3), (326, .iload_n 1, 1), (327, .bipush 40, 2), (329, .if_icmp .eq 45, 3), (332, .iload_n 1, 1), (333, .bipush 41, 2), (335, .if_icmp .eq 39, 3), (338, .iload_n 1, 1), (339, .bipush 59, 2), (341, .if_icmp .eq 33, 3), (344, .iload_n 1, 1), (345, .bipush 43, 2), (347, .if_icmp .eq 27, 3), (350, .iload_n 1, 1), (351, .bipush 45, 2), (353, .if_icmp .eq 21, 3), (356, .iload_n 1, 1), (357, .bipush 42, 2), (359, .if_icmp .eq 15, 3), (362, .iload_n 1, 1), (363, .bipush 60, 2), (365, .if_icmp .eq 9, 3), (368, .iload_n 1, 1), (369, .bipush 61, 2), (371, .if_icmp .ne 7, 3), (374, .iconst 1, 1), (375, .goto 4, 3), (378, .iconst 0, 1), (379, .istore_n 2, 1), (380, .aload_n 0, 1), (381, .iload_n 2, 1), (382, .ifCond .eq 7, 3), (385, .iload_n 1, 1), (386, .goto 4, 3), (389, .iconst (-1), 1), (390, .putfield 105, 3), (393, .aload_n 0, 1), (394, .dup, 1), (395, .getfield 99, 3), (398, .iconst 1, 1), (399, .iadd, 1), (400, .putfield 99, 3), (403, .return_, 1)]
theorem KX10_next : DX10_next.all (fun q => decide (decode cX10_next q.1 = .ok (q.2.1, q.2.2))) = true := by decide +kernel
def DX10_rank : List (Nat × Instr × Nat) := [(0, .iload_n 0, 1), (1, .ifCond .ne 7, 3), (4, .iconst 0, 1), (5, .goto 66, 3), (8, .iload_n 0, 1), (9, .bipush 11, 2), (11, .if_icmp .ne 7, 3), (14, .iconst 1, 1), (15, .goto 56, 3), (18, .iload_n 0, 1), (19, .bipush 12, 2), (21, .if_icmp .ne 7, 3), (24, .iconst 2, 1), (25, .goto 46, 3), (28, .iload_n 0, 1), (29, .bipush 13, 2), (31, .if_icmp .ne 7, 3), (34, .iconst 3, 1), (35, .goto 36, 3), (38, .iload_n 0, 1), (39, .bipush 15, 2), (41, .if_icmp .gt 7, 3), (44, .iconst 4, 1), (45, .goto 26, 3), (48, .iload_n 0, 1), (49, .bipush 17, 2), (51, .if_icmp .gt 7, 3), (54, .iconst 5, 1), (55, .goto 16, 3), (58, .iload_n 0, 1), (59, .bipush 18, 2), (61, .if_icmp .ne 8, 3), (64, .bipush 6, 2), (66, .goto 5, 3), (69, .bipush 7, 2), (71, .ireturn, 1)]
theorem KX10_rank : DX10_rank.all (fun q => decide (decode cX10_rank q.1 = .ok (q.2.1, q.2.2))) = true := by decide +kernel
def DX10_puts : List (Nat × Instr × Nat) := [(0, .aload_n 0, 1), (1, .getfield 26, 3), (4, .sipush 200, 3), (7, .aload_n 0, 1), (8, .getfield 89, 3), (11, .imul, 1), (12, .aload_n 0, 1), (13, .getfield 114, 3), (16, .iadd, 1), (17, .iload_n 1, 1), (18, .iastore, 1), (19, .aload_n 0, 1), (20, .dup, 1), (21, .getfield 114, 3), (24, .iconst 1, 1), (25, .iadd, 1), (26, .putfield 114, 3), (29, .return_, 1)]
theorem KX10_puts : DX10_puts.all (fun q => decide (decode cX10_puts q.1 = .ok (q.2.1, q.2.2))) = true := by decide +kernel
def DX10_unwinds : List (Nat × Instr × Nat) := [(0, .aload_n 0, 1), (1, .getfield 117, 3), (4, .ifCond .le 75, 3), (7, .aload_n 0, 1), (8, .getfield 53, 3), (11, .aload_n 0, 1), (12, .getfield 117, 3), (15, .iconst 1, 1), (16, .isub, 1), (17, .iaload, 1), (18, .invokestatic 120, 3), (21, .iload_n 1, 1), (22, .if_icmp .lt 57, 3), (25, .aload_n 0, 1), (26, .dup, 1), (27, .getfield 117, 3), (30, .iconst 1, 1), (31, .isub, 1), (32, .putfield 117, 3), (35, .aload_n 0, 1), (36, .getfield 53, 3), (39, .aload_n 0, 1), (40, .getfield 117, 3), (43, .iaload, 1), (44, .istore_n 2, 1), (45, .aload_n 0, 1), (46, .dup, 1), (47, .getfield 124, 3), (50, .iload_n 2, 1), (51, .bipush 13, 2), (53, .if_icmp .eq 9, 3), (56, .iload_n 2, 1), (57, .bipush 19, 2), (59, .if_icmp .ne 7, 3), (62, .iconst 1, 1), (63, .goto 4, 3), (66, .iconst 0, 1), (67, .isub, 1), (68, .putfield 124, 3), (71, .aload_n 0, 1), (72, .iload_n 2, 1), (73, .invokevirtual 127, 3), (76, .goto (-76), 3), (79, .return_, 1)]
theorem KX10_unwinds : DX10_unwinds.all (fun q => decide (decode cX10_unwinds q.1 = .ok (q.2.1, q.2.2))) = true := by decide +kernel
def DX10_holds : List (Nat × Instr × Nat) := [(0, .aload_n 0, 1), (1, .getfield 53, 3), (4, .aload_n 0, 1), (5, .getfield 117, 3), (8, .iload_n 1, 1), (9, .iastore, 1), (10, .aload_n 0, 1), (11, .dup, 1), (12, .getfield 117, 3), (15, .iconst 1, 1), (16, .iadd, 1), (17, .putfield 117, 3), (20, .return_, 1)]
theorem KX10_holds : DX10_holds.all (fun q => decide (decode cX10_holds q.1 = .ok (q.2.1, q.2.2))) = true := by decide +kernel
def DX10_opensOne : List (Nat × Instr × Nat) := [(0, .aload_n 0, 1), (1, .getfield 124, 3), (4, .iconst 5, 1), (5, .if_icmp .ne 5, 3), (8, .iconst 0, 1), (9, .ireturn, 1), (10, .aload_n 0, 1), (11, .dup, 1), (12, .getfield 124, 3), (15, .iconst 1, 1), (16, .iadd, 1), (17, .putfield 124, 3), (20, .aload_n 0, 1), (21, .iload_n 1, 1), (22, .invokevirtual 131, 3), (25, .iconst 1, 1), (26, .ireturn, 1)]
theorem KX10_opensOne : DX10_opensOne.all (fun q => decide (decode cX10_opensOne q.1 = .ok (q.2.1, q.2.2))) = true := by decide +kernel
def DX10_between : List (Nat × Instr × Nat) := [(0, .aload_n 0, 1), (1, .iload_n 1, 1), (2, .invokestatic 120, 3), (5, .iconst 4, 1), (6, .if_icmp .ne 7, 3), (9, .iconst 5, 1), (10, .goto 7, 3), (13, .iload_n 1, 1), (14, .invokestatic 120, 3), (17, .invokevirtual 134, 3), (20, .iload_n 1, 1), (21, .invokestatic 120, 3), (24, .iconst 4, 1), (25, .if_icmp .ne 30, 3), (28, .aload_n 0, 1), (29, .getfield 117, 3), (32, .ifCond .le 23, 3), (35, .aload_n 0, 1), (36, .getfield 53, 3), (39, .aload_n 0, 1), (40, .getfield 117, 3), (43, .iconst 1, 1), (44, .isub, 1), (45, .iaload, 1), (46, .invokestatic 120, 3), (49, .iconst 4, 1), (50, .if_icmp .ne 5, 3), (53, .iconst 0, 1), (54, .ireturn, 1), (55, .aload_n 0, 1), (56, .iload_n 1, 1), (57, .invokevirtual 131, 3), (60, .iconst 1, 1), (61, .ireturn, 1)]
theorem KX10_between : DX10_between.all (fun q => decide (decode cX10_between q.1 = .ok (q.2.1, q.2.2))) = true := by decide +kernel
def DX10_signOf : List (Nat × Instr × Nat) := [(0, .aload_n 0, 1), (1, .getfield 105, 3), (4, .iconst 4, 1), (5, .if_icmp .ne 8, 3), (8, .bipush 11, 2), (10, .goto 87, 3), (13, .aload_n 0, 1), (14, .getfield 105, 3), (17, .iconst 5, 1), (18, .if_icmp .ne 8, 3), (21, .bipush 12, 2), (23, .goto 74, 3), (26, .aload_n 0, 1), (27, .getfield 105, 3), (30, .bipush 60, 2), (32, .if_icmp .ne 8, 3), (35, .bipush 14, 2), (37, .goto 60, 3), (40, .aload_n 0, 1), (41, .getfield 105, 3), (44, .bipush 61, 2), (46, .if_icmp .ne 8, 3), (49, .bipush 15, 2), (51, .goto 46, 3), (54, .aload_n 0, 1), (55, .getfield 105, 3), (58, .bipush 43, 2), (60, .if_icmp .ne 8, 3), (63, .bipush 16, 2), (65, .goto 32, 3), (68, .aload_n 0, 1), (69, .getfield 105, 3), (72, .bipush 45, 2), (74, .if_icmp .ne 8, 3), (77, .bipush 17, 2), (79, .goto 18, 3), (82, .aload_n 0, 1), (83, .getfield 105, 3), (86, .bipush 42, 2), (88, .if_icmp .ne 8, 3), (91, .bipush 18, 2), (93, .goto 4, 3), (96, .iconst (-1), 1), (97, .ireturn, 1)]
theorem KX10_signOf : DX10_signOf.all (fun q => decide (decode cX10_signOf q.1 = .ok (q.2.1, q.2.2))) = true := by decide +kernel
def DX10_eRead : List (Nat × Instr × Nat) := [(0, .aload_n 0, 1), (1, .iconst 0, 1), (2, .putfield 117, 3), (5, .aload_n 0, 1), (6, .iconst 0, 1), (7, .putfield 124, 3), (10, .iconst 1, 1), (11, .istore_n 1, 1), (12, .iconst 1, 1), (13, .istore_n 2, 1), (14, .aload_n 0, 1), (15, .invokevirtual 137, 3), (18, .iload_n 1, 1), (19, .ifCond .eq 131, 3), (22, .aload_n 0, 1), (23, .getfield 105, 3), (26, .iconst 1, 1), (27, .if_icmp .eq 11, 3), (30, .aload_n 0, 1), (31, .getfield 105, 3), (34, .iconst 2, 1), (35, .if_icmp .ne 40, 3), (38, .aload_n 0, 1), (39, .aload_n 0, 1), (40, .getfield 105, 3), (43, .iconst 1, 1), (44, .if_icmp .ne 13, 3), (47, .ldc 140, 2), (49, .aload_n 0, 1), (50, .getfield 108, 3), (53, .iadd, 1), (54, .goto 7, 3), (57, .aload_n 0, 1), (58, .getfield 108, 3), (61, .invokevirtual 127, 3), (64, .aload_n 0, 1), (65, .bipush 7, 2), (67, .invokevirtual 134, 3), (70, .iconst 0, 1), (71, .istore_n 1, 1), (72, .goto (-58), 3), (75, .aload_n 0, 1), (76, .getfield 105, 3), (79, .bipush 6, 2), (81, .if_icmp .ne 18, 3), (84, .iload_n 2, 1), (85, .ifCond .eq 14, 3), (88, .aload_n 0, 1), (89, .bipush 13, 2), (91, .invokevirtual 141, 3), (94, .ifCond .ne (-80), 3), (97, .iconst 0, 1), (98, .ireturn, 1), (99, .aload_n 0, 1), (100, .getfield 105, 3), (103, .bipush 45, 2), (105, .if_icmp .ne 19, 3), (108, .aload_n 0, 1), (109, .bipush 19, 2), (111, .invokevirtual 141, 3), (114, .ifCond .ne 5, 3), (117, .iconst 0, 1), (118, .ireturn, 1), (119, .iconst 0, 1), (120, .istore_n 2, 1), (121, .goto (-107), 3), (124, .aload_n 0, 1), (125, .getfield 105, 3), (128, .bipush 40, 2), (130, .if_icmp .ne 18, 3), (133, .aload_n 0, 1), (134, .iconst 0, 1), (135, .invokevirtual 141, 3), (138, .ifCond .ne 5, 3), (141, .iconst 0, 1), (142, .ireturn, 1), (143, .iconst 1, 1), (144, .istore_n 2, 1), (145, .goto (-131), 3), (148, .iconst 0, 1), (149, .ireturn, 1), (150, .aload_n 0, 1), (151, .getfield 105, 3), (154, .bipush 59, 2), (156, .if_icmp .ne 21, 3), (159, .aload_n 0, 1), (160, .iconst 1, 1), (161, .invokevirtual 134, 3), (164, .aload_n 0, 1), (165, .getfield 117, 3), (168, .ifCond .ne 7, 3), (171, .iconst 1, 1), (172, .goto 4, 3), (175, .iconst 0, 1), (176, .ireturn, 1), (177, .aload_n 0, 1), (178, .getfield 105, 3), (181, .bipush 41, 2), (183, .if_icmp .ne 46, 3), (186, .aload_n 0, 1), (187, .iconst 1, 1), (188, .invokevirtual 134, 3), (191, .aload_n 0, 1), (192, .getfield 117, 3), (195, .ifCond .ne 5, 3), (198, .iconst 0, 1), (199, .ireturn, 1), (200, .aload_n 0, 1), (201, .dup, 1), (202, .getfield 117, 3), (205, .iconst 1, 1), (206, .isub, 1), (207, .putfield 117, 3), (210, .aload_n 0, 1), (211, .dup, 1), (212, .getfield 124, 3), (215, .iconst 1, 1), (216, .isub, 1), (217, .putfield 124, 3), (220, .aload_n 0, 1), (221, .bipush 7, 2), (223, .invokevirtual 134, 3), (226, .goto (-212), 3), (229, .aload_n 0, 1), (230, .invokevirtual 144, 3), (233, .istore_n 3, 1), (234, .iload_n 3, 1), (235, .iconst (-1), 1), (236, .if_icmp .eq 11, 3), (239, .aload_n 0, 1), (240, .iload_n 3, 1), (241, .invokevirtual 147, 3), (244, .ifCond .ne 5, 3), (247, .iconst 0, 1), (248, .ireturn, 1), (249, .iconst 1, 1), (250, .istore_n 1, 1), (251, .iload_n 3, 1), (252, .bipush 12, 2), (254, .if_icmp .gt 7, 3), (257, .iconst 1, 1), (258, .goto 4, 3), (261, .iconst 0, 1), (262, .istore_n 2, 1), (263, .goto (-249), 3)]
theorem KX10_eRead : DX10_eRead.all (fun q => decide (decode cX10_eRead q.1 = .ok (q.2.1, q.2.2))) = true := by decide +kernel
def DX10_text : List (Nat × Instr × Nat) := [(0, .aload_n 0, 1), (1, .getfield 89, 3), (4, .bipush 6, 2), (6, .if_icmp .ne 6, 3), (9, .bipush (-4), 2), (11, .ireturn, 1), (12, .aload_n 0, 1), (13, .iconst 0, 1), (14, .putfield 99, 3), (17, .aload_n 0, 1), (18, .iconst 0, 1), (19, .putfield 114, 3), (22, .iconst 1, 1), (23, .istore_n 1, 1), (24, .iconst 0, 1), (25, .istore_n 2, 1), (26, .iload_n 2, 1), (27, .iconst 3, 1), (28, .if_icmp .ge 73, 3), (31, .iload_n 1, 1), (32, .ifCond .eq 69, 3), (35, .aload_n 0, 1), (36, .invokevirtual 137, 3), (39, .aload_n 0, 1), (40, .getfield 105, 3), (43, .iconst 3, 1), (44, .if_icmp .ne 15, 3), (47, .aload_n 0, 1), (48, .getfield 108, 3), (51, .iload_n 2, 1), (52, .if_icmp .ne 7, 3), (55, .iconst 1, 1), (56, .goto 4, 3), (59, .iconst 0, 1), (60, .istore_n 1, 1), (61, .aload_n 0, 1), (62, .getfield 29, 3), (65, .iconst 4, 1), (66, .aload_n 0, 1), (67, .getfield 89, 3), (70, .imul, 1), (71, .iload_n 2, 1), (72, .iadd, 1), (73, .aload_n 0, 1), (74, .getfield 114, 3), (77, .iastore, 1), (78, .iload_n 1, 1), (79, .ifCond .eq 14, 3), (82, .aload_n 0, 1), (83, .invokevirtual 150, 3), (86, .ifCond .eq 7, 3), (89, .iconst 1, 1), (90, .goto 4, 3), (93, .iconst 0, 1), (94, .istore_n 1, 1), (95, .iinc 2 1, 3), (98, .goto (-72), 3), (101, .iload_n 1, 1), (102, .ifCond .eq 20, 3), (105, .aload_n 0, 1), (106, .invokevirtual 137, 3), (109, .aload_n 0, 1), (110, .getfield 105, 3), (113, .ifCond .ne 7, 3), (116, .iconst 1, 1), (117, .goto 4, 3), (120, .iconst 0, 1), (121, .istore_n 1, 1), (122, .aload_n 0, 1), (123, .getfield 29, 3), (126, .iconst 4, 1), (127, .aload_n 0, 1), (128, .getfield 89, 3), (131, .imul, 1), (132, .iconst 3, 1), (133, .iadd, 1), (134, .aload_n 0, 1), (135, .getfield 114, 3), (138, .iastore, 1), (139, .aload_n 0, 1), (140, .iconst 0, 1), (141, .putfield 71, 3), (144, .iload_n 1, 1), (145, .ifCond .ne 11, 3), (148, .bipush (-100), 2), (150, .aload_n 0, 1), (151, .getfield 102, 3), (154, .isub, 1), (155, .ireturn, 1), (156, .aload_n 0, 1), (157, .dup, 1), (158, .getfield 89, 3), (161, .iconst 1, 1), (162, .iadd, 1), (163, .putfield 89, 3), (166, .aload_n 0, 1), (167, .getfield 89, 3), (170, .iconst 1, 1), (171, .isub, 1), (172, .ireturn, 1)]
theorem KX10_text : DX10_text.all (fun q => decide (decode cX10_text q.1 = .ok (q.2.1, q.2.2))) = true := by decide +kernel
def DX10_two : List (Nat × Instr × Nat) := [(0, .iload_n 0, 1), (1, .tableswitch 101 11 17 #[43, 57, 101, 71, 82, 93, 97], 43), (44, .iload_n 1, 1), (45, .ifCond .ne 7, 3), (48, .iload_n 2, 1), (49, .ifCond .eq 7, 3), (52, .iconst 1, 1), (53, .goto 4, 3), (56, .iconst 0, 1), (57, .ireturn, 1), (58, .iload_n 1, 1), (59, .ifCond .eq 11, 3), (62, .iload_n 2, 1), (63, .ifCond .eq 7, 3), (66, .iconst 1, 1), (67, .goto 4, 3), (70, .iconst 0, 1), (71, .ireturn, 1), (72, .iload_n 1, 1), (73, .iload_n 2, 1), (74, .if_icmp .ge 7, 3), (77, .iconst 1, 1), (78, .goto 4, 3), (81, .iconst 0, 1), (82, .ireturn, 1), (83, .iload_n 1, 1), (84, .iload_n 2, 1), (85, .if_icmp .ne 7, 3), (88, .iconst 1, 1), (89, .goto 4, 3), (92, .iconst 0, 1), (93, .ireturn, 1), (94, .iload_n 1, 1), (95, .iload_n 2, 1), (96, .iadd, 1), (97, .ireturn, 1), (98, .iload_n 1, 1), (99, .iload_n 2, 1), (100, .isub, 1), (101, .ireturn, 1), (102, .iload_n 1, 1), (103, .iload_n 2, 1), (104, .imul, 1), (105, .ireturn, 1)]
theorem KX10_two : DX10_two.all (fun q => decide (decode cX10_two q.1 = .ok (q.2.1, q.2.2))) = true := by decide +kernel
def DX10_says : List (Nat × Instr × Nat) := [(0, .iconst 0, 1), (1, .istore_n 2, 1), (2, .aload_n 0, 1), (3, .getfield 29, 3), (6, .iconst 4, 1), (7, .aload_n 0, 1), (8, .getfield 92, 3), (11, .imul, 1), (12, .iload_n 1, 1), (13, .iadd, 1), (14, .iaload, 1), (15, .istore_n 3, 1), (16, .iload_n 3, 1), (17, .aload_n 0, 1), (18, .getfield 29, 3), (21, .iconst 4, 1), (22, .aload_n 0, 1), (23, .getfield 92, 3), (26, .imul, 1), (27, .iload_n 1, 1), (28, .iadd, 1), (29, .iconst 1, 1), (30, .iadd, 1), (31, .iaload, 1), (32, .if_icmp .ge 165, 3), (35, .aload_n 0, 1), (36, .getfield 26, 3), (39, .sipush 200, 3), (42, .aload_n 0, 1), (43, .getfield 92, 3), (46, .imul, 1), (47, .iload_n 3, 1), (48, .iadd, 1), (49, .iaload, 1), (50, .istore 4, 2), (52, .iload 4, 2), (54, .ldc 140, 2), (56, .if_icmp .ge 10, 3), (59, .iload 4, 2), (61, .bipush 11, 2), (63, .if_icmp .ge 37, 3), (66, .aload_n 0, 1), (67, .getfield 56, 3), (70, .iload_n 2, 1), (71, .iload 4, 2), (73, .bipush 11, 2), (75, .if_icmp .ge 13, 3), (78, .aload_n 0, 1), (79, .getfield 59, 3), (82, .iload 4, 2), (84, .iaload, 1), (85, .goto 8, 3), (88, .iload 4, 2), (90, .ldc 140, 2), (92, .isub, 1), (93, .iastore, 1), (94, .iinc 2 1, 3), (97, .goto 94, 3), (100, .iload 4, 2), (102, .bipush 13, 2), (104, .if_icmp .ne 30, 3), (107, .aload_n 0, 1), (108, .getfield 56, 3), (111, .iload_n 2, 1), (112, .iconst 1, 1), (113, .isub, 1), (114, .aload_n 0, 1), (115, .getfield 56, 3), (118, .iload_n 2, 1), (119, .iconst 1, 1), (120, .isub, 1), (121, .iaload, 1), (122, .ifCond .ne 7, 3), (125, .iconst 1, 1), (126, .goto 4, 3), (129, .iconst 0, 1), (130, .iastore, 1), (131, .goto 60, 3), (134, .iload 4, 2), (136, .bipush 19, 2), (138, .if_icmp .ne 23, 3), (141, .aload_n 0, 1), (142, .getfield 56, 3), (145, .iload_n 2, 1), (146, .iconst 1, 1), (147, .isub, 1), (148, .aload_n 0, 1), (149, .getfield 56, 3), (152, .iload_n 2, 1), (153, .iconst 1, 1), (154, .isub, 1), (155, .iaload, 1), (156, .ineg, 1), (157, .iastore, 1), (158, .goto 33, 3), (161, .iinc 2 (-1), 3), (164, .aload_n 0, 1), (165, .getfield 56, 3), (168, .iload_n 2, 1), (169, .iconst 1, 1), (170, .isub, 1), (171, .iload 4, 2), (173, .aload_n 0, 1), (174, .getfield 56, 3), (177, .iload_n 2, 1), (178, .iconst 1, 1), (179, .isub, 1), (180, .iaload, 1), (181, .aload_n 0, 1), (182, .getfield 56, 3), (185, .iload_n 2, 1), (186, .iaload, 1), (187, .invokestatic 154, 3), (190, .iastore, 1), (191, .iinc 3 1, 3), (194, .goto (-178), 3), (197, .aload_n 0, 1), (198, .getfield 56, 3), (201, .iconst 0, 1), (202, .iaload, 1), (203, .ireturn, 1)]
theorem KX10_says : DX10_says.all (fun q => decide (decode cX10_says q.1 = .ok (q.2.1, q.2.2))) = true := by decide +kernel
def DX10_force : List (Nat × Instr × Nat) := [(0, .iload_n 1, 1), (1, .iconst 0, 1), (2, .aload_n 0, 1), (3, .getfield 89, 3), (6, .iconst 1, 1), (7, .isub, 1), (8, .invokestatic 81, 3), (11, .ifCond .ne 6, 3), (14, .bipush (-2), 2), (16, .ireturn, 1), (17, .aload_n 0, 1), (18, .getfield 92, 3), (21, .istore_n 2, 1), (22, .aload_n 0, 1), (23, .iload_n 1, 1), (24, .putfield 92, 3), (27, .iload_n 2, 1), (28, .ireturn, 1)]
theorem KX10_force : DX10_force.all (fun q => decide (decode cX10_force q.1 = .ok (q.2.1, q.2.2))) = true := by decide +kernel
def DX10_asksOf : List (Nat × Instr × Nat) := [(0, .aload_n 0, 1), (1, .getfield 59, 3), (4, .iconst 0, 1), (5, .iload_n 3, 1), (6, .bipush 6, 2), (8, .irem, 1), (9, .iastore, 1), (10, .aload_n 0, 1), (11, .getfield 59, 3), (14, .iconst 1, 1), (15, .iload_n 3, 1), (16, .bipush 6, 2), (18, .idiv, 1), (19, .iastore, 1), (20, .aload_n 0, 1), (21, .getfield 59, 3), (24, .iconst 2, 1), (25, .aload_n 0, 1), (26, .getfield 19, 3), (29, .iastore, 1), (30, .aload_n 0, 1), (31, .getfield 59, 3), (34, .iconst 3, 1), (35, .aload_n 0, 1), (36, .getfield 16, 3), (39, .iconst 3, 1), (40, .iload_n 2, 1), (41, .imul, 1), (42, .iconst 2, 1), (43, .iadd, 1), (44, .iaload, 1), (45, .iastore, 1), (46, .aload_n 0, 1), (47, .getfield 59, 3), (50, .iconst 4, 1), (51, .aload_n 0, 1), (52, .iload_n 2, 1), (53, .invokevirtual 158, 3), (56, .iastore, 1), (57, .aload_n 0, 1), (58, .getfield 59, 3), (61, .iconst 5, 1), (62, .aload_n 0, 1), (63, .getfield 13, 3), (66, .iload_n 2, 1), (67, .iaload, 1), (68, .iastore, 1), (69, .aload_n 0, 1), (70, .iload_n 1, 1), (71, .invokevirtual 161, 3), (74, .istore 4, 2), (76, .iload_n 1, 1), (77, .ifCond .ne 14, 3), (80, .iload 4, 2), (82, .iconst 0, 1), (83, .bipush 99, 2), (85, .invokestatic 164, 3), (88, .goto 13, 3), (91, .iload 4, 2), (93, .ifCond .ne 7, 3), (96, .iconst 0, 1), (97, .goto 4, 3), (100, .iconst 1, 1), (101, .ireturn, 1)]
theorem KX10_asksOf : DX10_asksOf.all (fun q => decide (decode cX10_asksOf q.1 = .ok (q.2.1, q.2.2))) = true := by decide +kernel
def DX10_asks : List (Nat × Instr × Nat) := [(0, .iload_n 1, 1), (1, .iconst 0, 1), (2, .iconst 2, 1), (3, .invokestatic 81, 3), (6, .ifCond .eq 28, 3), (9, .aload_n 0, 1), (10, .iload_n 2, 1), (11, .invokevirtual 167, 3), (14, .ifCond .eq 20, 3), (17, .iload_n 3, 1), (18, .invokestatic 170, 3), (21, .ifCond .eq 13, 3), (24, .aload_n 0, 1), (25, .iload_n 1, 1), (26, .iload_n 2, 1), (27, .iload_n 3, 1), (28, .invokevirtual 173, 3), (31, .goto 5, 3), (34, .bipush (-2), 2), (36, .ireturn, 1)]
theorem KX10_asks : DX10_asks.all (fun q => decide (decode cX10_asks q.1 = .ok (q.2.1, q.2.2))) = true := by decide +kernel
def DX10_spread : List (Nat × Instr × Nat) := [(0, .iload_n 1, 1), (1, .iconst 0, 1), (2, .bipush 59, 2), (4, .invokestatic 81, 3), (7, .ifCond .eq 10, 3), (10, .iload_n 2, 1), (11, .invokestatic 176, 3), (14, .ifCond .ne 6, 3), (17, .bipush (-2), 2), (19, .ireturn, 1), (20, .aload_n 0, 1), (21, .getfield 78, 3), (24, .bipush 6, 2), (26, .if_icmp .ne 6, 3), (29, .bipush (-4), 2), (31, .ireturn, 1), (32, .aload_n 0, 1), (33, .getfield 7, 3), (36, .aload_n 0, 1), (37, .getfield 78, 3), (40, .iload_n 1, 1), (41, .bipush 10, 2), (43, .idiv, 1), (44, .iastore, 1), (45, .aload_n 0, 1), (46, .getfield 13, 3), (49, .aload_n 0, 1), (50, .getfield 78, 3), (53, .iload_n 1, 1), (54, .bipush 10, 2), (56, .irem, 1), (57, .iastore, 1), (58, .aload_n 0, 1), (59, .getfield 16, 3), (62, .iconst 3, 1), (63, .aload_n 0, 1), (64, .getfield 78, 3), (67, .imul, 1), (68, .iload_n 2, 1), (69, .bipush 100, 2), (71, .idiv, 1), (72, .iastore, 1), (73, .aload_n 0, 1), (74, .getfield 16, 3), (77, .iconst 3, 1), (78, .aload_n 0, 1), (79, .getfield 78, 3), (82, .imul, 1), (83, .iconst 1, 1), (84, .iadd, 1), (85, .iload_n 2, 1), (86, .bipush 100, 2), (88, .irem, 1), (89, .iastore, 1), (90, .aload_n 0, 1), (91, .getfield 16, 3), (94, .iconst 3, 1), (95, .aload_n 0, 1), (96, .getfield 78, 3), (99, .imul, 1), (100, .iconst 2, 1), (101, .iadd, 1), (102, .iconst 0, 1), (103, .iastore, 1), (104, .aload_n 0, 1), (105, .dup, 1), (106, .getfield 78, 3), (109, .iconst 1, 1), (110, .iadd, 1), (111, .putfield 78, 3), (114, .aload_n 0, 1), (115, .getfield 78, 3), (118, .iconst 1, 1), (119, .isub, 1), (120, .ireturn, 1)]
theorem KX10_spread : DX10_spread.all (fun q => decide (decode cX10_spread q.1 = .ok (q.2.1, q.2.2))) = true := by decide +kernel
def DX10_cornersOf : List (Nat × Instr × Nat) := [(0, .bipush 100, 2), (2, .aload_n 0, 1), (3, .getfield 16, 3), (6, .iconst 3, 1), (7, .iload_n 1, 1), (8, .imul, 1), (9, .iaload, 1), (10, .imul, 1), (11, .aload_n 0, 1), (12, .getfield 16, 3), (15, .iconst 3, 1), (16, .iload_n 1, 1), (17, .imul, 1), (18, .iconst 1, 1), (19, .iadd, 1), (20, .iaload, 1), (21, .iadd, 1), (22, .ireturn, 1)]
theorem KX10_cornersOf : DX10_cornersOf.all (fun q => decide (decode cX10_cornersOf q.1 = .ok (q.2.1, q.2.2))) = true := by decide +kernel
def DX10_put : List (Nat × Instr × Nat) := [(0, .aload_n 0, 1), (1, .iload_n 1, 1), (2, .invokevirtual 167, 3), (5, .ifCond .ne 6, 3), (8, .bipush (-5), 2), (10, .ireturn, 1), (11, .iload_n 2, 1), (12, .ifCond .ne 10, 3), (15, .iload_n 3, 1), (16, .invokestatic 176, 3), (19, .goto 23, 3), (22, .iload_n 2, 1), (23, .iconst 1, 1), (24, .if_icmp .ne 17, 3), (27, .iload_n 3, 1), (28, .iconst 0, 1), (29, .bipush 99, 2), (31, .invokestatic 81, 3), (34, .ifCond .eq 7, 3), (37, .iconst 1, 1), (38, .goto 4, 3), (41, .iconst 0, 1), (42, .istore 4, 2), (44, .iload 4, 2), (46, .ifCond .ne 6, 3), (49, .bipush (-7), 2), (51, .ireturn, 1), (52, .iload_n 2, 1), (53, .ifCond .ne 11, 3), (56, .aload_n 0, 1), (57, .iload_n 1, 1), (58, .invokevirtual 179, 3), (61, .goto 13, 3), (64, .aload_n 0, 1), (65, .getfield 16, 3), (68, .iconst 3, 1), (69, .iload_n 1, 1), (70, .imul, 1), (71, .iconst 2, 1), (72, .iadd, 1), (73, .iaload, 1), (74, .istore 5, 2), (76, .iload_n 2, 1), (77, .ifCond .ne 32, 3), (80, .aload_n 0, 1), (81, .getfield 16, 3), (84, .iconst 3, 1), (85, .iload_n 1, 1), (86, .imul, 1), (87, .iload_n 3, 1), (88, .bipush 100, 2), (90, .idiv, 1), (91, .iastore, 1), (92, .aload_n 0, 1), (93, .getfield 16, 3), (96, .iconst 3, 1), (97, .iload_n 1, 1), (98, .imul, 1), (99, .iconst 1, 1), (100, .iadd, 1), (101, .iload_n 3, 1), (102, .bipush 100, 2), (104, .irem, 1), (105, .iastore, 1), (106, .goto 14, 3), (109, .aload_n 0, 1), (110, .getfield 16, 3), (113, .iconst 3, 1), (114, .iload_n 1, 1), (115, .imul, 1), (116, .iconst 2, 1), (117, .iadd, 1), (118, .iload_n 3, 1), (119, .iastore, 1), (120, .iload 5, 2), (122, .ireturn, 1)]
theorem KX10_put : DX10_put.all (fun q => decide (decode cX10_put q.1 = .ok (q.2.1, q.2.2))) = true := by decide +kernel
def DX10_isNursed : List (Nat × Instr × Nat) := [(0, .iload_n 2, 1), (1, .iconst 1, 1), (2, .if_icmp .eq 21, 3), (5, .aload_n 0, 1), (6, .getfield 19, 3), (9, .bipush 14, 2), (11, .if_icmp .eq 12, 3), (14, .aload_n 0, 1), (15, .getfield 19, 3), (18, .bipush 15, 2), (20, .if_icmp .ne 7, 3), (23, .iconst 1, 1), (24, .goto 4, 3), (27, .iconst 0, 1), (28, .ireturn, 1)]
theorem KX10_isNursed : DX10_isNursed.all (fun q => decide (decode cX10_isNursed q.1 = .ok (q.2.1, q.2.2))) = true := by decide +kernel
def DX10_isAsleep : List (Nat × Instr × Nat) := [(0, .aload_n 0, 1), (1, .getfield 7, 3), (4, .iload_n 1, 1), (5, .iaload, 1), (6, .iconst 5, 1), (7, .if_icmp .ne 5, 3), (10, .iconst 0, 1), (11, .ireturn, 1), (12, .aload_n 0, 1), (13, .iconst 2, 1), (14, .iload_n 1, 1), (15, .aload_n 0, 1), (16, .getfield 16, 3), (19, .iconst 3, 1), (20, .iload_n 1, 1), (21, .imul, 1), (22, .iaload, 1), (23, .invokevirtual 173, 3), (26, .istore_n 2, 1), (27, .aload_n 0, 1), (28, .getfield 7, 3), (31, .iload_n 1, 1), (32, .iaload, 1), (33, .iconst 2, 1), (34, .if_icmp .ne 12, 3), (37, .aload_n 0, 1), (38, .iload_n 1, 1), (39, .iload_n 2, 1), (40, .invokevirtual 182, 3), (43, .goto 40, 3), (46, .aload_n 0, 1), (47, .getfield 7, 3), (50, .iload_n 1, 1), (51, .iaload, 1), (52, .iconst 4, 1), (53, .if_icmp .ne 20, 3), (56, .aload_n 0, 1), (57, .iload_n 1, 1), (58, .iload_n 2, 1), (59, .invokevirtual 182, 3), (62, .ifCond .ne 7, 3), (65, .iconst 1, 1), (66, .goto 17, 3), (69, .iconst 0, 1), (70, .goto 13, 3), (73, .iload_n 2, 1), (74, .iconst 1, 1), (75, .if_icmp .ne 7, 3), (78, .iconst 1, 1), (79, .goto 4, 3), (82, .iconst 0, 1), (83, .ireturn, 1)]
theorem KX10_isAsleep : DX10_isAsleep.all (fun q => decide (decode cX10_isAsleep q.1 = .ok (q.2.1, q.2.2))) = true := by decide +kernel
def DX10_rulesBut : List (Nat × Instr × Nat) := [(0, .iconst 0, 1), (1, .istore_n 2, 1), (2, .iload_n 2, 1), (3, .bipush 36, 2), (5, .if_icmp .ge 16, 3), (8, .aload_n 0, 1), (9, .getfield 62, 3), (12, .iload_n 2, 1), (13, .iconst (-1), 1), (14, .iastore, 1), (15, .iinc 2 1, 3), (18, .goto (-16), 3), (21, .iconst 0, 1), (22, .istore_n 2, 1), (23, .iload_n 2, 1), (24, .aload_n 0, 1), (25, .getfield 78, 3), (28, .if_icmp .ge 61, 3), (31, .iload_n 2, 1), (32, .iload_n 1, 1), (33, .if_icmp .eq 50, 3), (36, .aload_n 0, 1), (37, .iload_n 2, 1), (38, .invokevirtual 186, 3), (41, .ifCond .ne 42, 3), (44, .iconst 0, 1), (45, .istore_n 3, 1), (46, .iload_n 3, 1), (47, .bipush 36, 2), (49, .if_icmp .ge 34, 3), (52, .aload_n 0, 1), (53, .getfield 62, 3), (56, .iload_n 3, 1), (57, .aload_n 0, 1), (58, .iload_n 2, 1), (59, .iload_n 3, 1), (60, .invokevirtual 189, 3), (63, .ifCond .eq 7, 3), (66, .iload_n 2, 1), (67, .goto 9, 3), (70, .aload_n 0, 1), (71, .getfield 62, 3), (74, .iload_n 3, 1), (75, .iaload, 1), (76, .iastore, 1), (77, .iinc 3 1, 3), (80, .goto (-34), 3), (83, .iinc 2 1, 3), (86, .goto (-63), 3), (89, .return_, 1)]
theorem KX10_rulesBut : DX10_rulesBut.all (fun q => decide (decode cX10_rulesBut q.1 = .ok (q.2.1, q.2.2))) = true := by decide +kernel
def DX10_finedBy : List (Nat × Instr × Nat) := [(0, .aload_n 0, 1), (1, .getfield 7, 3), (4, .iload_n 1, 1), (5, .iaload, 1), (6, .iconst 5, 1), (7, .if_icmp .ne 10, 3), (10, .aload_n 0, 1), (11, .getfield 13, 3), (14, .iload_n 1, 1), (15, .iaload, 1), (16, .ireturn, 1), (17, .aload_n 0, 1), (18, .iconst 0, 1), (19, .iload_n 1, 1), (20, .iload_n 2, 1), (21, .invokevirtual 173, 3), (24, .istore_n 3, 1), (25, .aload_n 0, 1), (26, .iload_n 1, 1), (27, .iload_n 2, 1), (28, .invokevirtual 192, 3), (31, .istore 4, 2), (33, .iload 4, 2), (35, .ifCond .eq 16, 3), (38, .iload_n 3, 1), (39, .iconst 2, 1), (40, .aload_n 0, 1), (41, .getfield 13, 3), (44, .iload_n 1, 1), (45, .iaload, 1), (46, .imul, 1), (47, .iadd, 1), (48, .goto 4, 3), (51, .iload_n 3, 1), (52, .istore 5, 2), (54, .aload_n 0, 1), (55, .getfield 7, 3), (58, .iload_n 1, 1), (59, .iaload, 1), (60, .tableswitch 53 1 4 #[32, 53, 35, 40], 32), (92, .iload 5, 2), (94, .ireturn, 1), (95, .iconst 2, 1), (96, .iload 5, 2), (98, .imul, 1), (99, .ireturn, 1), (100, .iload 4, 2), (102, .ifCond .eq 7, 3), (105, .iconst 0, 1), (106, .goto 6, 3), (109, .iload_n 3, 1), (110, .iconst 2, 1), (111, .idiv, 1), (112, .ireturn, 1), (113, .iload_n 3, 1), (114, .ireturn, 1)]
theorem KX10_finedBy : DX10_finedBy.all (fun q => decide (decode cX10_finedBy q.1 = .ok (q.2.1, q.2.2))) = true := by decide +kernel
def DX10_finedAt : List (Nat × Instr × Nat) := [(0, .aload_n 0, 1), (1, .getfield 62, 3), (4, .iload_n 1, 1), (5, .iaload, 1), (6, .istore_n 2, 1), (7, .iload_n 2, 1), (8, .iconst (-1), 1), (9, .if_icmp .ne 7, 3), (12, .iconst 0, 1), (13, .goto 9, 3), (16, .aload_n 0, 1), (17, .iload_n 2, 1), (18, .iload_n 1, 1), (19, .invokevirtual 195, 3), (22, .ireturn, 1)]
theorem KX10_finedAt : DX10_finedAt.all (fun q => decide (decode cX10_finedAt q.1 = .ok (q.2.1, q.2.2))) = true := by decide +kernel
def DX10_isLetOn : List (Nat × Instr × Nat) := [(0, .aload_n 0, 1), (1, .getfield 62, 3), (4, .iload_n 1, 1), (5, .iaload, 1), (6, .istore_n 2, 1), (7, .iload_n 2, 1), (8, .iconst (-1), 1), (9, .if_icmp .eq 18, 3), (12, .aload_n 0, 1), (13, .getfield 7, 3), (16, .iload_n 2, 1), (17, .iconst 0, 1), (18, .iconst 5, 1), (19, .invokestatic 164, 3), (22, .iaload, 1), (23, .iconst 3, 1), (24, .if_icmp .ne 5, 3), (27, .iconst 1, 1), (28, .ireturn, 1), (29, .aload_n 0, 1), (30, .iconst 1, 1), (31, .iload_n 2, 1), (32, .iload_n 1, 1), (33, .invokevirtual 173, 3), (36, .iconst 1, 1), (37, .if_icmp .ne 7, 3), (40, .iconst 1, 1), (41, .goto 4, 3), (44, .iconst 0, 1), (45, .istore_n 3, 1), (46, .aload_n 0, 1), (47, .getfield 7, 3), (50, .iload_n 2, 1), (51, .iaload, 1), (52, .iconst 2, 1), (53, .if_icmp .eq 13, 3), (56, .aload_n 0, 1), (57, .getfield 7, 3), (60, .iload_n 2, 1), (61, .iaload, 1), (62, .iconst 4, 1), (63, .if_icmp .ne 7, 3), (66, .iconst 1, 1), (67, .goto 4, 3), (70, .iconst 0, 1), (71, .istore 4, 2), (73, .iload 4, 2), (75, .ifCond .eq 34, 3), (78, .iload_n 3, 1), (79, .ifCond .eq 26, 3), (82, .aload_n 0, 1), (83, .getfield 16, 3), (86, .iconst 3, 1), (87, .iload_n 2, 1), (88, .imul, 1), (89, .iconst 2, 1), (90, .iadd, 1), (91, .iaload, 1), (92, .aload_n 0, 1), (93, .getfield 13, 3), (96, .iload_n 2, 1), (97, .iaload, 1), (98, .if_icmp .ge 7, 3), (101, .iconst 1, 1), (102, .goto 8, 3), (105, .iconst 0, 1), (106, .goto 4, 3), (109, .iload_n 3, 1), (110, .ireturn, 1)]
theorem KX10_isLetOn : DX10_isLetOn.all (fun q => decide (decode cX10_isLetOn q.1 = .ok (q.2.1, q.2.2))) = true := by decide +kernel
def DX10_ruledBy : List (Nat × Instr × Nat) := [(0, .iconst 0, 1), (1, .istore_n 2, 1), (2, .iconst 0, 1), (3, .istore_n 3, 1), (4, .iload_n 3, 1), (5, .bipush 36, 2), (7, .if_icmp .ge 27, 3), (10, .iload_n 2, 1), (11, .aload_n 0, 1), (12, .getfield 62, 3), (15, .iload_n 3, 1), (16, .iaload, 1), (17, .iload_n 1, 1), (18, .if_icmp .ne 7, 3), (21, .iconst 1, 1), (22, .goto 4, 3), (25, .iconst 0, 1), (26, .iadd, 1), (27, .istore_n 2, 1), (28, .iinc 3 1, 3), (31, .goto (-27), 3), (34, .iload_n 2, 1), (35, .ireturn, 1)]
theorem KX10_ruledBy : DX10_ruledBy.all (fun q => decide (decode cX10_ruledBy q.1 = .ok (q.2.1, q.2.2))) = true := by decide +kernel
def DX10_ruledNow : List (Nat × Instr × Nat) := [(0, .aload_n 0, 1), (1, .iconst (-1), 1), (2, .invokevirtual 198, 3), (5, .aload_n 0, 1), (6, .iload_n 1, 1), (7, .invokevirtual 201, 3), (10, .ireturn, 1)]
theorem KX10_ruledNow : DX10_ruledNow.all (fun q => decide (decode cX10_ruledNow q.1 = .ok (q.2.1, q.2.2))) = true := by decide +kernel
def DX10_told : List (Nat × Instr × Nat) := [(0, .aload_n 0, 1), (1, .iload_n 1, 1), (2, .invokevirtual 167, 3), (5, .ifCond .ne 6, 3), (8, .bipush (-5), 2), (10, .ireturn, 1), (11, .iload_n 2, 1), (12, .tableswitch 101 0 6 #[44, 50, 61, 68, 75, 81, 87], 44), (56, .aload_n 0, 1), (57, .iload_n 1, 1), (58, .invokevirtual 179, 3), (61, .ireturn, 1), (62, .aload_n 0, 1), (63, .getfield 16, 3), (66, .iconst 3, 1), (67, .iload_n 1, 1), (68, .imul, 1), (69, .iconst 2, 1), (70, .iadd, 1), (71, .iaload, 1), (72, .ireturn, 1), (73, .aload_n 0, 1), (74, .getfield 7, 3), (77, .iload_n 1, 1), (78, .iaload, 1), (79, .ireturn, 1), (80, .aload_n 0, 1), (81, .getfield 13, 3), (84, .iload_n 1, 1), (85, .iaload, 1), (86, .ireturn, 1), (87, .aload_n 0, 1), (88, .iload_n 1, 1), (89, .invokevirtual 158, 3), (92, .ireturn, 1), (93, .aload_n 0, 1), (94, .iload_n 1, 1), (95, .invokevirtual 204, 3), (98, .ireturn, 1), (99, .aload_n 0, 1), (100, .iload_n 1, 1), (101, .invokevirtual 186, 3), (104, .ifCond .eq 7, 3), (107, .iconst 1, 1), (108, .goto 4, 3), (111, .iconst 0, 1), (112, .ireturn, 1), (113, .bipush (-7), 2), (115, .ireturn, 1)]
theorem KX10_told : DX10_told.all (fun q => decide (decode cX10_told q.1 = .ok (q.2.1, q.2.2))) = true := by decide +kernel
def DX10_over : List (Nat × Instr × Nat) := [(0, .iload_n 1, 1), (1, .invokestatic 170, 3), (4, .ifCond .ne 6, 3), (7, .bipush (-5), 2), (9, .ireturn, 1), (10, .iload_n 2, 1), (11, .iconst 0, 1), (12, .iconst 3, 1), (13, .invokestatic 81, 3), (16, .ifCond .ne 6, 3), (19, .bipush (-7), 2), (21, .ireturn, 1), (22, .aload_n 0, 1), (23, .iconst (-1), 1), (24, .invokevirtual 198, 3), (27, .iload_n 2, 1), (28, .iconst 3, 1), (29, .if_icmp .ge 43, 3), (32, .iload_n 2, 1), (33, .ifCond .ne 12, 3), (36, .aload_n 0, 1), (37, .getfield 62, 3), (40, .iload_n 1, 1), (41, .iaload, 1), (42, .goto 29, 3), (45, .iload_n 2, 1), (46, .iconst 1, 1), (47, .if_icmp .ne 11, 3), (50, .aload_n 0, 1), (51, .iload_n 1, 1), (52, .invokevirtual 207, 3), (55, .goto 16, 3), (58, .aload_n 0, 1), (59, .iload_n 1, 1), (60, .invokevirtual 210, 3), (63, .ifCond .eq 7, 3), (66, .iconst 1, 1), (67, .goto 4, 3), (70, .iconst 0, 1), (71, .ireturn, 1), (72, .iconst 0, 1), (73, .istore_n 3, 1), (74, .iconst 0, 1), (75, .istore 4, 2), (77, .iload 4, 2), (79, .aload_n 0, 1), (80, .getfield 78, 3), (83, .if_icmp .ge 27, 3), (86, .iload_n 3, 1), (87, .aload_n 0, 1), (88, .iload 4, 2), (90, .iload_n 1, 1), (91, .invokevirtual 189, 3), (94, .ifCond .eq 7, 3), (97, .iconst 1, 1), (98, .goto 4, 3), (101, .iconst 0, 1), (102, .iadd, 1), (103, .istore_n 3, 1), (104, .iinc 4 1, 3), (107, .goto (-30), 3), (110, .iload_n 3, 1), (111, .ireturn, 1)]
theorem KX10_over : DX10_over.all (fun q => decide (decode cX10_over q.1 = .ok (q.2.1, q.2.2))) = true := by decide +kernel
def DX10_rules : List (Nat × Instr × Nat) := [(0, .iload_n 1, 1), (1, .iconst (-1), 1), (2, .if_icmp .eq 15, 3), (5, .aload_n 0, 1), (6, .iload_n 1, 1), (7, .invokevirtual 167, 3), (10, .ifCond .ne 7, 3), (13, .ldc2_w 213, 3), (16, .lreturn, 1), (17, .aload_n 0, 1), (18, .iconst (-1), 1), (19, .invokevirtual 198, 3), (22, .lconst 0, 1), (23, .lstore_n 2, 1), (24, .iconst 0, 1), (25, .istore 4, 2), (27, .iload 4, 2), (29, .bipush 36, 2), (31, .if_icmp .ge 31, 3), (34, .lload_n 2, 1), (35, .aload_n 0, 1), (36, .getfield 62, 3), (39, .iload 4, 2), (41, .iaload, 1), (42, .iload_n 1, 1), (43, .if_icmp .ne 10, 3), (46, .lconst 1, 1), (47, .iload 4, 2), (49, .lshl, 1), (50, .goto 4, 3), (53, .lconst 0, 1), (54, .lor, 1), (55, .lstore_n 2, 1), (56, .iinc 4 1, 3), (59, .goto (-32), 3), (62, .lload_n 2, 1), (63, .lreturn, 1)]
theorem KX10_rules : DX10_rules.all (fun q => decide (decode cX10_rules q.1 = .ok (q.2.1, q.2.2))) = true := by decide +kernel
def DX10_walkWrong : List (Nat × Instr × Nat) := [(0, .iload_n 1, 1), (1, .iconst 0, 1), (2, .iconst 3, 1), (3, .invokestatic 81, 3), (6, .ifCond .ne 6, 3), (9, .bipush (-2), 2), (11, .ireturn, 1), (12, .aload_n 0, 1), (13, .getfield 38, 3), (16, .iload_n 1, 1), (17, .iaload, 1), (18, .iconst (-1), 1), (19, .if_icmp .ne 6, 3), (22, .bipush (-11), 2), (24, .ireturn, 1), (25, .iconst 0, 1), (26, .istore_n 2, 1), (27, .iload_n 2, 1), (28, .aload_n 0, 1), (29, .getfield 41, 3), (32, .iload_n 1, 1), (33, .iaload, 1), (34, .if_icmp .ge 63, 3), (37, .aload_n 0, 1), (38, .getfield 44, 3), (41, .bipush 40, 2), (43, .iload_n 1, 1), (44, .imul, 1), (45, .iload_n 2, 1), (46, .iadd, 1), (47, .iaload, 1), (48, .istore_n 3, 1), (49, .iload_n 3, 1), (50, .invokestatic 170, 3), (53, .istore 4, 2), (55, .iload 4, 2), (57, .ifCond .eq 26, 3), (60, .iload_n 2, 1), (61, .ifCond .le 22, 3), (64, .iload_n 3, 1), (65, .aload_n 0, 1), (66, .getfield 44, 3), (69, .bipush 40, 2), (71, .iload_n 1, 1), (72, .imul, 1), (73, .iload_n 2, 1), (74, .iadd, 1), (75, .iconst 1, 1), (76, .isub, 1), (77, .iaload, 1), (78, .invokestatic 215, 3), (81, .istore 4, 2), (83, .iload 4, 2), (85, .ifCond .ne 6, 3), (88, .bipush (-2), 2), (90, .ireturn, 1), (91, .iinc 2 1, 3), (94, .goto (-67), 3), (97, .iconst 0, 1), (98, .ireturn, 1)]
theorem KX10_walkWrong : DX10_walkWrong.all (fun q => decide (decode cX10_walkWrong q.1 = .ok (q.2.1, q.2.2))) = true := by decide +kernel
def DX10_goesOver : List (Nat × Instr × Nat) := [(0, .aload_n 0, 1), (1, .iconst (-1), 1), (2, .invokevirtual 198, 3), (5, .aload_n 0, 1), (6, .iconst (-1), 1), (7, .putfield 218, 3), (10, .aload_n 0, 1), (11, .iconst 0, 1), (12, .putfield 221, 3), (15, .aload_n 0, 1), (16, .iconst 0, 1), (17, .putfield 224, 3), (20, .aload_n 0, 1), (21, .iconst 0, 1), (22, .putfield 227, 3), (25, .iconst 0, 1), (26, .istore_n 2, 1), (27, .iload_n 2, 1), (28, .aload_n 0, 1), (29, .getfield 41, 3), (32, .iload_n 1, 1), (33, .iaload, 1), (34, .if_icmp .ge 183, 3), (37, .aload_n 0, 1), (38, .getfield 218, 3), (41, .iconst (-1), 1), (42, .if_icmp .ne 175, 3), (45, .aload_n 0, 1), (46, .getfield 44, 3), (49, .bipush 40, 2), (51, .iload_n 1, 1), (52, .imul, 1), (53, .iload_n 2, 1), (54, .iadd, 1), (55, .iaload, 1), (56, .iconst 0, 1), (57, .bipush 35, 2), (59, .invokestatic 164, 3), (62, .istore_n 3, 1), (63, .iconst 0, 1), (64, .istore 4, 2), (66, .iload_n 2, 1), (67, .ifCond .le 43, 3), (70, .aload_n 0, 1), (71, .getfield 62, 3), (74, .iload_n 3, 1), (75, .iaload, 1), (76, .aload_n 0, 1), (77, .getfield 62, 3), (80, .aload_n 0, 1), (81, .getfield 44, 3), (84, .bipush 40, 2), (86, .iload_n 1, 1), (87, .imul, 1), (88, .iload_n 2, 1), (89, .iadd, 1), (90, .iconst 1, 1), (91, .isub, 1), (92, .iaload, 1), (93, .iconst 0, 1), (94, .bipush 35, 2), (96, .invokestatic 164, 3), (99, .iaload, 1), (100, .if_icmp .eq 7, 3), (103, .iconst 1, 1), (104, .goto 4, 3), (107, .iconst 0, 1), (108, .istore 4, 2), (110, .iload_n 2, 1), (111, .ifCond .eq 8, 3), (114, .iload 4, 2), (116, .ifCond .eq 7, 3), (119, .iconst 1, 1), (120, .goto 4, 3), (123, .iconst 0, 1), (124, .istore 5, 2), (126, .iload 5, 2), (128, .ifCond .eq 19, 3), (131, .aload_n 0, 1), (132, .iload_n 3, 1), (133, .invokevirtual 210, 3), (136, .ifCond .ne 11, 3), (139, .aload_n 0, 1), (140, .iload_n 2, 1), (141, .putfield 218, 3), (144, .goto 67, 3), (147, .aload_n 0, 1), (148, .dup, 1), (149, .getfield 221, 3), (152, .aload_n 0, 1), (153, .iload_n 3, 1), (154, .invokevirtual 207, 3), (157, .iadd, 1), (158, .putfield 221, 3), (161, .aload_n 0, 1), (162, .dup, 1), (163, .getfield 224, 3), (166, .iload 4, 2), (168, .ifCond .eq 7, 3), (171, .iconst 1, 1), (172, .goto 4, 3), (175, .iconst 0, 1), (176, .iadd, 1), (177, .putfield 224, 3), (180, .aload_n 0, 1), (181, .dup, 1), (182, .getfield 227, 3), (185, .aload_n 0, 1), (186, .getfield 62, 3), (189, .iload_n 3, 1), (190, .iaload, 1), (191, .iconst (-1), 1), (192, .if_icmp .ne 7, 3), (195, .iconst 0, 1), (196, .goto 11, 3), (199, .iconst 1, 1), (200, .aload_n 0, 1), (201, .getfield 62, 3), (204, .iload_n 3, 1), (205, .iaload, 1), (206, .ishl, 1), (207, .ior, 1), (208, .putfield 227, 3), (211, .iinc 2 1, 3), (214, .goto (-187), 3), (217, .return_, 1)]
theorem KX10_goesOver : DX10_goesOver.all (fun q => decide (decode cX10_goesOver q.1 = .ok (q.2.1, q.2.2))) = true := by decide +kernel
def DX10_walk : List (Nat × Instr × Nat) := [(0, .aload_n 0, 1), (1, .iload_n 1, 1), (2, .invokevirtual 230, 3), (5, .istore_n 3, 1), (6, .iload_n 3, 1), (7, .ifCond .eq 5, 3), (10, .iload_n 3, 1), (11, .ireturn, 1), (12, .iload_n 2, 1), (13, .iconst 0, 1), (14, .iconst 3, 1), (15, .invokestatic 81, 3), (18, .ifCond .ne 6, 3), (21, .bipush (-7), 2), (23, .ireturn, 1), (24, .aload_n 0, 1), (25, .iload_n 1, 1), (26, .invokevirtual 233, 3), (29, .iload_n 2, 1), (30, .ifCond .ne 10, 3), (33, .aload_n 0, 1), (34, .getfield 218, 3), (37, .goto 31, 3), (40, .iload_n 2, 1), (41, .iconst 1, 1), (42, .if_icmp .ne 10, 3), (45, .aload_n 0, 1), (46, .getfield 221, 3), (49, .goto 19, 3), (52, .iload_n 2, 1), (53, .iconst 2, 1), (54, .if_icmp .ne 10, 3), (57, .aload_n 0, 1), (58, .getfield 224, 3), (61, .goto 7, 3), (64, .aload_n 0, 1), (65, .getfield 227, 3), (68, .ireturn, 1)]
theorem KX10_walk : DX10_walk.all (fun q => decide (decode cX10_walk q.1 = .ok (q.2.1, q.2.2))) = true := by decide +kernel
def DX10_visit : List (Nat × Instr × Nat) := [(0, .aload_n 0, 1), (1, .iload_n 1, 1), (2, .invokevirtual 230, 3), (5, .istore_n 2, 1), (6, .iload_n 2, 1), (7, .ifCond .eq 5, 3), (10, .iload_n 2, 1), (11, .ireturn, 1), (12, .aload_n 0, 1), (13, .iload_n 1, 1), (14, .invokevirtual 233, 3), (17, .aload_n 0, 1), (18, .getfield 218, 3), (21, .iconst (-1), 1), (22, .if_icmp .eq 6, 3), (25, .bipush (-3), 2), (27, .ireturn, 1), (28, .iconst 0, 1), (29, .istore_n 3, 1), (30, .iload_n 3, 1), (31, .aload_n 0, 1), (32, .getfield 78, 3), (35, .if_icmp .ge 49, 3), (38, .aload_n 0, 1), (39, .getfield 227, 3), (42, .iload_n 3, 1), (43, .ishr, 1), (44, .iconst 1, 1), (45, .iand, 1), (46, .iconst 1, 1), (47, .if_icmp .ne 31, 3), (50, .aload_n 0, 1), (51, .getfield 16, 3), (54, .iconst 3, 1), (55, .iload_n 3, 1), (56, .imul, 1), (57, .iconst 2, 1), (58, .iadd, 1), (59, .aload_n 0, 1), (60, .getfield 16, 3), (63, .iconst 3, 1), (64, .iload_n 3, 1), (65, .imul, 1), (66, .iconst 2, 1), (67, .iadd, 1), (68, .iaload, 1), (69, .iconst 1, 1), (70, .iadd, 1), (71, .iconst 0, 1), (72, .bipush 99, 2), (74, .invokestatic 164, 3), (77, .iastore, 1), (78, .iinc 3 1, 3), (81, .goto (-51), 3), (84, .aload_n 0, 1), (85, .getfield 221, 3), (88, .ireturn, 1)]
theorem KX10_visit : DX10_visit.all (fun q => decide (decode cX10_visit q.1 = .ok (q.2.1, q.2.2))) = true := by decide +kernel
def DX10_besideOf : List (Nat × Instr × Nat) := [(0, .iload_n 1, 1), (1, .tableswitch 73 0 2 #[27, 43, 58], 27), (28, .iload_n 0, 1), (29, .bipush 6, 2), (31, .irem, 1), (32, .iconst 5, 1), (33, .if_icmp .ge 9, 3), (36, .iload_n 0, 1), (37, .iconst 1, 1), (38, .iadd, 1), (39, .goto 4, 3), (42, .iconst (-1), 1), (43, .ireturn, 1), (44, .iload_n 0, 1), (45, .bipush 6, 2), (47, .irem, 1), (48, .ifCond .le 9, 3), (51, .iload_n 0, 1), (52, .iconst 1, 1), (53, .isub, 1), (54, .goto 4, 3), (57, .iconst (-1), 1), (58, .ireturn, 1), (59, .iload_n 0, 1), (60, .bipush 30, 2), (62, .if_icmp .ge 10, 3), (65, .iload_n 0, 1), (66, .bipush 6, 2), (68, .iadd, 1), (69, .goto 4, 3), (72, .iconst (-1), 1), (73, .ireturn, 1), (74, .iload_n 0, 1), (75, .iconst 5, 1), (76, .if_icmp .le 10, 3), (79, .iload_n 0, 1), (80, .bipush 6, 2), (82, .isub, 1), (83, .goto 4, 3), (86, .iconst (-1), 1), (87, .ireturn, 1)]
theorem KX10_besideOf : DX10_besideOf.all (fun q => decide (decode cX10_besideOf q.1 = .ok (q.2.1, q.2.2))) = true := by decide +kernel
def DX10_ball : List (Nat × Instr × Nat) := [(0, .iload_n 1, 1), (1, .invokestatic 170, 3), (4, .ifCond .ne 6, 3), (7, .bipush (-5), 2), (9, .ireturn, 1), (10, .iload_n 2, 1), (11, .iconst 0, 1), (12, .iconst 3, 1), (13, .invokestatic 81, 3), (16, .ifCond .eq 12, 3), (19, .iload_n 3, 1), (20, .iconst 0, 1), (21, .iconst 2, 1), (22, .invokestatic 81, 3), (25, .ifCond .ne 6, 3), (28, .bipush (-7), 2), (30, .ireturn, 1), (31, .aload_n 0, 1), (32, .iconst (-1), 1), (33, .invokevirtual 198, 3), (36, .iconst 0, 1), (37, .istore 4, 2), (39, .iconst 0, 1), (40, .istore 5, 2), (42, .iconst 0, 1), (43, .istore 6, 2), (45, .iload_n 1, 1), (46, .istore 7, 2), (48, .iload 7, 2), (50, .iconst (-1), 1), (51, .if_icmp .eq 97, 3), (54, .iload 7, 2), (56, .iload_n 2, 1), (57, .invokestatic 236, 3), (60, .istore 8, 2), (62, .iload 4, 2), (64, .aload_n 0, 1), (65, .iload 7, 2), (67, .invokevirtual 207, 3), (70, .iadd, 1), (71, .istore 4, 2), (73, .iload 5, 2), (75, .aload_n 0, 1), (76, .getfield 62, 3), (79, .iload 7, 2), (81, .iaload, 1), (82, .iconst (-1), 1), (83, .if_icmp .ne 7, 3), (86, .iconst 0, 1), (87, .goto 12, 3), (90, .iconst 1, 1), (91, .aload_n 0, 1), (92, .getfield 62, 3), (95, .iload 7, 2), (97, .iaload, 1), (98, .ishl, 1), (99, .ior, 1), (100, .istore 5, 2), (102, .iload 8, 2), (104, .iconst (-1), 1), (105, .if_icmp .eq 36, 3), (108, .iload 6, 2), (110, .aload_n 0, 1), (111, .getfield 62, 3), (114, .iload 7, 2), (116, .iaload, 1), (117, .aload_n 0, 1), (118, .getfield 62, 3), (121, .iload 8, 2), (123, .iconst 0, 1), (124, .bipush 35, 2), (126, .invokestatic 164, 3), (129, .iaload, 1), (130, .if_icmp .eq 7, 3), (133, .iconst 1, 1), (134, .goto 4, 3), (137, .iconst 0, 1), (138, .iadd, 1), (139, .istore 6, 2), (141, .iload 8, 2), (143, .istore 7, 2), (145, .goto (-97), 3), (148, .iload_n 3, 1), (149, .ifCond .ne 8, 3), (152, .iload 4, 2), (154, .goto 15, 3), (157, .iload_n 3, 1), (158, .iconst 1, 1), (159, .if_icmp .ne 8, 3), (162, .iload 5, 2), (164, .goto 5, 3), (167, .iload 6, 2), (169, .ireturn, 1)]
theorem KX10_ball : DX10_ball.all (fun q => decide (decode cX10_ball q.1 = .ok (q.2.1, q.2.2))) = true := by decide +kernel
def DX10_relaxes : List (Nat × Instr × Nat) := [(0, .aload_n 0, 1), (1, .getfield 68, 3), (4, .iload_n 1, 1), (5, .iaload, 1), (6, .iconst (-1), 1), (7, .if_icmp .eq 13, 3), (10, .aload_n 0, 1), (11, .getfield 65, 3), (14, .iload_n 2, 1), (15, .iaload, 1), (16, .iconst (-1), 1), (17, .if_icmp .ne 5, 3), (20, .iconst 0, 1), (21, .ireturn, 1), (22, .iload_n 3, 1), (23, .ifCond .eq 26, 3), (26, .aload_n 0, 1), (27, .getfield 62, 3), (30, .iload_n 1, 1), (31, .iaload, 1), (32, .aload_n 0, 1), (33, .getfield 62, 3), (36, .iload_n 2, 1), (37, .iaload, 1), (38, .if_icmp .ne 7, 3), (41, .iconst 0, 1), (42, .goto 13, 3), (45, .iconst 1, 1), (46, .goto 9, 3), (49, .aload_n 0, 1), (50, .getfield 65, 3), (53, .iload_n 2, 1), (54, .iaload, 1), (55, .istore 4, 2), (57, .aload_n 0, 1), (58, .getfield 68, 3), (61, .iload_n 1, 1), (62, .iaload, 1), (63, .iload 4, 2), (65, .iadd, 1), (66, .istore 5, 2), (68, .aload_n 0, 1), (69, .getfield 68, 3), (72, .iload_n 2, 1), (73, .iaload, 1), (74, .iconst (-1), 1), (75, .if_icmp .eq 16, 3), (78, .aload_n 0, 1), (79, .getfield 68, 3), (82, .iload_n 2, 1), (83, .iaload, 1), (84, .iload 5, 2), (86, .if_icmp .gt 5, 3), (89, .iconst 0, 1), (90, .ireturn, 1), (91, .aload_n 0, 1), (92, .getfield 68, 3), (95, .iload_n 2, 1), (96, .iload 5, 2), (98, .iastore, 1), (99, .iconst 1, 1), (100, .ireturn, 1)]
theorem KX10_relaxes : DX10_relaxes.all (fun q => decide (decode cX10_relaxes q.1 = .ok (q.2.1, q.2.2))) = true := by decide +kernel
def DX10_way : List (Nat × Instr × Nat) := [(0, .iload_n 1, 1), (1, .iconst 0, 1), (2, .sipush 3535, 3), (5, .invokestatic 81, 3), (8, .ifCond .eq 21, 3), (11, .iload_n 1, 1), (12, .bipush 100, 2), (14, .irem, 1), (15, .bipush 36, 2), (17, .if_icmp .ge 12, 3), (20, .iload_n 2, 1), (21, .iconst 0, 1), (22, .iconst 2, 1), (23, .invokestatic 81, 3), (26, .ifCond .ne 6, 3), (29, .bipush (-2), 2), (31, .ireturn, 1), (32, .aload_n 0, 1), (33, .iconst (-1), 1), (34, .invokevirtual 198, 3), (37, .iconst 0, 1), (38, .istore_n 3, 1), (39, .iload_n 3, 1), (40, .bipush 36, 2), (42, .if_icmp .ge 47, 3), (45, .aload_n 0, 1), (46, .getfield 65, 3), (49, .iload_n 3, 1), (50, .aload_n 0, 1), (51, .iload_n 3, 1), (52, .invokevirtual 210, 3), (55, .ifCond .ne 7, 3), (58, .iconst (-1), 1), (59, .goto 16, 3), (62, .iload_n 2, 1), (63, .ifCond .ne 11, 3), (66, .aload_n 0, 1), (67, .iload_n 3, 1), (68, .invokevirtual 207, 3), (71, .goto 4, 3), (74, .iconst 1, 1), (75, .iastore, 1), (76, .aload_n 0, 1), (77, .getfield 68, 3), (80, .iload_n 3, 1), (81, .iconst (-1), 1), (82, .iastore, 1), (83, .iinc 3 1, 3), (86, .goto (-47), 3), (89, .iload_n 1, 1), (90, .bipush 100, 2), (92, .idiv, 1), (93, .istore_n 3, 1), (94, .aload_n 0, 1), (95, .getfield 68, 3), (98, .iload_n 3, 1), (99, .iload_n 2, 1), (100, .iconst 1, 1), (101, .if_icmp .ne 17, 3), (104, .aload_n 0, 1), (105, .getfield 65, 3), (108, .iload_n 3, 1), (109, .iaload, 1), (110, .iconst (-1), 1), (111, .if_icmp .eq 7, 3), (114, .iconst 0, 1), (115, .goto 9, 3), (118, .aload_n 0, 1), (119, .getfield 65, 3), (122, .iload_n 3, 1), (123, .iaload, 1), (124, .iastore, 1), (125, .iconst 1, 1), (126, .istore 4, 2), (128, .iload 4, 2), (130, .ifCond .eq 143, 3), (133, .iconst 0, 1), (134, .istore 4, 2), (136, .iconst 0, 1), (137, .istore 5, 2), (139, .iload 5, 2), (141, .bipush 36, 2), (143, .if_icmp .ge 127, 3), (146, .iload 5, 2), (148, .bipush 6, 2), (150, .irem, 1), (151, .iconst 5, 1), (152, .if_icmp .ge 53, 3), (155, .iload 4, 2), (157, .aload_n 0, 1), (158, .iload 5, 2), (160, .iload 5, 2), (162, .iconst 1, 1), (163, .iadd, 1), (164, .iload_n 2, 1), (165, .iconst 1, 1), (166, .if_icmp .ne 7, 3), (169, .iconst 1, 1), (170, .goto 4, 3), (173, .iconst 0, 1), (174, .invokevirtual 239, 3), (177, .ior, 1), (178, .istore 4, 2), (180, .iload 4, 2), (182, .aload_n 0, 1), (183, .iload 5, 2), (185, .iconst 1, 1), (186, .iadd, 1), (187, .iload 5, 2), (189, .iload_n 2, 1), (190, .iconst 1, 1), (191, .if_icmp .ne 7, 3), (194, .iconst 1, 1), (195, .goto 4, 3), (198, .iconst 0, 1), (199, .invokevirtual 239, 3), (202, .ior, 1), (203, .istore 4, 2), (205, .iload 5, 2), (207, .bipush 30, 2), (209, .if_icmp .ge 55, 3), (212, .iload 4, 2), (214, .aload_n 0, 1), (215, .iload 5, 2), (217, .iload 5, 2), (219, .bipush 6, 2), (221, .iadd, 1), (222, .iload_n 2, 1), (223, .iconst 1, 1), (224, .if_icmp .ne 7, 3), (227, .iconst 1, 1), (228, .goto 4, 3), (231, .iconst 0, 1), (232, .invokevirtual 239, 3), (235, .ior, 1), (236, .istore 4, 2), (238, .iload 4, 2), (240, .aload_n 0, 1), (241, .iload 5, 2), (243, .bipush 6, 2), (245, .iadd, 1), (246, .iload 5, 2), (248, .iload_n 2, 1), (249, .iconst 1, 1), (250, .if_icmp .ne 7, 3), (253, .iconst 1, 1), (254, .goto 4, 3), (257, .iconst 0, 1), (258, .invokevirtual 239, 3), (261, .ior, 1), (262, .istore 4, 2), (264, .iinc 5 1, 3), (267, .goto (-128), 3), (270, .goto (-142), 3), (273, .aload_n 0, 1), (274, .getfield 68, 3), (277, .iload_n 1, 1), (278, .bipush 100, 2), (280, .irem, 1), (281, .iaload, 1), (282, .ireturn, 1)]
theorem KX10_way : DX10_way.all (fun q => decide (decode cX10_way q.1 = .ok (q.2.1, q.2.2))) = true := by decide +kernel
def DX10_besides : List (Nat × Instr × Nat) := [(0, .iconst 0, 1), (1, .istore_n 2, 1), (2, .iconst 0, 1), (3, .istore_n 3, 1), (4, .iload_n 3, 1), (5, .bipush 36, 2), (7, .if_icmp .ge 86, 3), (10, .iconst 0, 1), (11, .istore 4, 2), (13, .iload 4, 2), (15, .iconst 4, 1), (16, .if_icmp .ge 71, 3), (19, .iload_n 3, 1), (20, .iload 4, 2), (22, .invokestatic 236, 3), (25, .istore 5, 2), (27, .aload_n 0, 1), (28, .getfield 62, 3), (31, .iload_n 3, 1), (32, .iaload, 1), (33, .iload_n 1, 1), (34, .if_icmp .ne 47, 3), (37, .iload 5, 2), (39, .iconst (-1), 1), (40, .if_icmp .eq 41, 3), (43, .aload_n 0, 1), (44, .getfield 62, 3), (47, .iload 5, 2), (49, .iconst 0, 1), (50, .bipush 35, 2), (52, .invokestatic 164, 3), (55, .iaload, 1), (56, .istore 6, 2), (58, .iload_n 2, 1), (59, .iload 6, 2), (61, .iconst (-1), 1), (62, .if_icmp .eq 9, 3), (65, .iload 6, 2), (67, .iload_n 1, 1), (68, .if_icmp .ne 7, 3), (71, .iconst 0, 1), (72, .goto 7, 3), (75, .iconst 1, 1), (76, .iload 6, 2), (78, .ishl, 1), (79, .ior, 1), (80, .istore_n 2, 1), (81, .iinc 4 1, 3), (84, .goto (-71), 3), (87, .iinc 3 1, 3), (90, .goto (-86), 3), (93, .iload_n 2, 1), (94, .ireturn, 1)]
theorem KX10_besides : DX10_besides.all (fun q => decide (decode cX10_besides q.1 = .ok (q.2.1, q.2.2))) = true := by decide +kernel
def DX10_borders : List (Nat × Instr × Nat) := [(0, .aload_n 0, 1), (1, .iload_n 1, 1), (2, .invokevirtual 167, 3), (5, .ifCond .ne 6, 3), (8, .bipush (-5), 2), (10, .ireturn, 1), (11, .aload_n 0, 1), (12, .iconst (-1), 1), (13, .invokevirtual 198, 3), (16, .aload_n 0, 1), (17, .iload_n 1, 1), (18, .invokevirtual 243, 3), (21, .ireturn, 1)]
theorem KX10_borders : DX10_borders.all (fun q => decide (decode cX10_borders q.1 = .ok (q.2.1, q.2.2))) = true := by decide +kernel
def DX10_league : List (Nat × Instr × Nat) := [(0, .aload_n 0, 1), (1, .iload_n 1, 1), (2, .invokevirtual 167, 3), (5, .ifCond .ne 6, 3), (8, .bipush (-5), 2), (10, .ireturn, 1), (11, .iload_n 2, 1), (12, .iconst 0, 1), (13, .iconst 1, 1), (14, .invokestatic 81, 3), (17, .ifCond .ne 6, 3), (20, .bipush (-7), 2), (22, .ireturn, 1), (23, .aload_n 0, 1), (24, .iconst (-1), 1), (25, .invokevirtual 198, 3), (28, .aload_n 0, 1), (29, .iload_n 1, 1), (30, .invokevirtual 201, 3), (33, .ifCond .ne 7, 3), (36, .iconst 0, 1), (37, .goto 6, 3), (40, .iconst 1, 1), (41, .iload_n 1, 1), (42, .ishl, 1), (43, .istore_n 3, 1), (44, .iconst 1, 1), (45, .istore 4, 2), (47, .iload 4, 2), (49, .ifCond .eq 63, 3), (52, .iload_n 3, 1), (53, .istore 5, 2), (55, .iconst 0, 1), (56, .istore 6, 2), (58, .iload 6, 2), (60, .aload_n 0, 1), (61, .getfield 78, 3), (64, .if_icmp .ge 32, 3), (67, .iload_n 3, 1), (68, .iload_n 3, 1), (69, .iload 6, 2), (71, .ishr, 1), (72, .iconst 1, 1), (73, .iand, 1), (74, .iconst 1, 1), (75, .if_icmp .ne 12, 3), (78, .aload_n 0, 1), (79, .iload 6, 2), (81, .invokevirtual 243, 3), (84, .goto 4, 3), (87, .iconst 0, 1), (88, .ior, 1), (89, .istore_n 3, 1), (90, .iinc 6 1, 3), (93, .goto (-35), 3), (96, .iload_n 3, 1), (97, .iload 5, 2), (99, .if_icmp .eq 7, 3), (102, .iconst 1, 1), (103, .goto 4, 3), (106, .iconst 0, 1), (107, .istore 4, 2), (109, .goto (-62), 3), (112, .iconst 0, 1), (113, .istore 5, 2), (115, .iconst 0, 1), (116, .istore 6, 2), (118, .iload 6, 2), (120, .aload_n 0, 1), (121, .getfield 78, 3), (124, .if_icmp .ge 34, 3), (127, .iload 5, 2), (129, .iload_n 3, 1), (130, .iload 6, 2), (132, .ishr, 1), (133, .iconst 1, 1), (134, .iand, 1), (135, .iconst 1, 1), (136, .if_icmp .ne 12, 3), (139, .aload_n 0, 1), (140, .iload 6, 2), (142, .invokevirtual 201, 3), (145, .goto 4, 3), (148, .iconst 0, 1), (149, .iadd, 1), (150, .istore 5, 2), (152, .iinc 6 1, 3), (155, .goto (-37), 3), (158, .iload_n 2, 1), (159, .ifCond .ne 7, 3), (162, .iload_n 3, 1), (163, .goto 5, 3), (166, .iload 5, 2), (168, .ireturn, 1)]
theorem KX10_league : DX10_league.all (fun q => decide (decode cX10_league q.1 = .ok (q.2.1, q.2.2))) = true := by decide +kernel
def DX10_place : List (Nat × Instr × Nat) := [(0, .aload_n 0, 1), (1, .iload_n 1, 1), (2, .invokevirtual 167, 3), (5, .ifCond .ne 6, 3), (8, .bipush (-5), 2), (10, .ireturn, 1), (11, .iload_n 2, 1), (12, .iconst 0, 1), (13, .iconst 1, 1), (14, .invokestatic 81, 3), (17, .ifCond .ne 6, 3), (20, .bipush (-7), 2), (22, .ireturn, 1), (23, .aload_n 0, 1), (24, .getfield 16, 3), (27, .iconst 3, 1), (28, .iload_n 1, 1), (29, .imul, 1), (30, .iaload, 1), (31, .istore_n 3, 1), (32, .aload_n 0, 1), (33, .getfield 16, 3), (36, .iconst 3, 1), (37, .iload_n 1, 1), (38, .imul, 1), (39, .iconst 1, 1), (40, .iadd, 1), (41, .iaload, 1), (42, .istore 4, 2), (44, .iload 4, 2), (46, .bipush 6, 2), (48, .irem, 1), (49, .iload_n 3, 1), (50, .bipush 6, 2), (52, .irem, 1), (53, .isub, 1), (54, .istore 5, 2), (56, .iload 4, 2), (58, .bipush 6, 2), (60, .idiv, 1), (61, .iload_n 3, 1), (62, .bipush 6, 2), (64, .idiv, 1), (65, .isub, 1), (66, .istore 6, 2), (68, .iconst (-1), 1), (69, .istore 7, 2), (71, .iconst 0, 1), (72, .istore 8, 2), (74, .iconst 0, 1), (75, .istore 9, 2), (77, .iload 9, 2), (79, .bipush 36, 2), (81, .if_icmp .ge 124, 3), (84, .iload 9, 2), (86, .bipush 6, 2), (88, .irem, 1), (89, .iload 5, 2), (91, .iadd, 1), (92, .bipush 6, 2), (94, .if_icmp .ge 105, 3), (97, .iload 9, 2), (99, .bipush 6, 2), (101, .idiv, 1), (102, .iload 6, 2), (104, .iadd, 1), (105, .bipush 6, 2), (107, .if_icmp .ge 92, 3), (110, .aload_n 0, 1), (111, .getfield 16, 3), (114, .iconst 3, 1), (115, .iload_n 1, 1), (116, .imul, 1), (117, .iload 9, 2), (119, .iastore, 1), (120, .aload_n 0, 1), (121, .getfield 16, 3), (124, .iconst 3, 1), (125, .iload_n 1, 1), (126, .imul, 1), (127, .iconst 1, 1), (128, .iadd, 1), (129, .iload 9, 2), (131, .iload 5, 2), (133, .iadd, 1), (134, .bipush 6, 2), (136, .iload 6, 2), (138, .imul, 1), (139, .iadd, 1), (140, .iastore, 1), (141, .aload_n 0, 1), (142, .iload_n 1, 1), (143, .invokevirtual 204, 3), (146, .istore 10, 2), (148, .iload 7, 2), (150, .iconst (-1), 1), (151, .if_icmp .eq 10, 3), (154, .iload 10, 2), (156, .iload 8, 2), (158, .if_icmp .le 7, 3), (161, .iconst 1, 1), (162, .goto 4, 3), (165, .iconst 0, 1), (166, .istore 11, 2), (168, .iload 11, 2), (170, .ifCond .eq 11, 3), (173, .aload_n 0, 1), (174, .iload_n 1, 1), (175, .invokevirtual 179, 3), (178, .goto 5, 3), (181, .iload 7, 2), (183, .istore 7, 2), (185, .iload 11, 2), (187, .ifCond .eq 8, 3), (190, .iload 10, 2), (192, .goto 5, 3), (195, .iload 8, 2), (197, .istore 8, 2), (199, .iinc 9 1, 3), (202, .goto (-125), 3), (205, .aload_n 0, 1), (206, .getfield 16, 3), (209, .iconst 3, 1), (210, .iload_n 1, 1), (211, .imul, 1), (212, .iload_n 3, 1), (213, .iastore, 1), (214, .aload_n 0, 1), (215, .getfield 16, 3), (218, .iconst 3, 1), (219, .iload_n 1, 1), (220, .imul, 1), (221, .iconst 1, 1), (222, .iadd, 1), (223, .iload 4, 2), (225, .iastore, 1), (226, .iload_n 2, 1), (227, .ifCond .ne 8, 3), (230, .iload 7, 2), (232, .goto 5, 3), (235, .iload 8, 2), (237, .ireturn, 1)]
theorem KX10_place : DX10_place.all (fun q => decide (decode cX10_place q.1 = .ok (q.2.1, q.2.2))) = true := by decide +kernel
def DX10_finedAll : List (Nat × Instr × Nat) := [(0, .aload_n 0, 1), (1, .iload_n 1, 1), (2, .invokevirtual 198, 3), (5, .iconst 0, 1), (6, .istore_n 2, 1), (7, .iconst 0, 1), (8, .istore_n 3, 1), (9, .iload_n 3, 1), (10, .bipush 36, 2), (12, .if_icmp .ge 17, 3), (15, .iload_n 2, 1), (16, .aload_n 0, 1), (17, .iload_n 3, 1), (18, .invokevirtual 207, 3), (21, .iadd, 1), (22, .istore_n 2, 1), (23, .iinc 3 1, 3), (26, .goto (-17), 3), (29, .iload_n 2, 1), (30, .ireturn, 1)]
theorem KX10_finedAll : DX10_finedAll.all (fun q => decide (decode cX10_finedAll q.1 = .ok (q.2.1, q.2.2))) = true := by decide +kernel
def DX10_freest : List (Nat × Instr × Nat) := [(0, .iload_n 1, 1), (1, .iconst 0, 1), (2, .iconst 1, 1), (3, .invokestatic 81, 3), (6, .ifCond .ne 6, 3), (9, .bipush (-2), 2), (11, .ireturn, 1), (12, .aload_n 0, 1), (13, .getfield 19, 3), (16, .istore_n 2, 1), (17, .iconst (-1), 1), (18, .istore_n 3, 1), (19, .iconst 0, 1), (20, .istore 4, 2), (22, .iconst 0, 1), (23, .istore 5, 2), (25, .iload 5, 2), (27, .bipush 24, 2), (29, .if_icmp .ge 67, 3), (32, .aload_n 0, 1), (33, .iload 5, 2), (35, .putfield 19, 3), (38, .aload_n 0, 1), (39, .iconst (-1), 1), (40, .invokevirtual 246, 3), (43, .istore 6, 2), (45, .iload_n 3, 1), (46, .iconst (-1), 1), (47, .if_icmp .eq 10, 3), (50, .iload 6, 2), (52, .iload 4, 2), (54, .if_icmp .ge 7, 3), (57, .iconst 1, 1), (58, .goto 4, 3), (61, .iconst 0, 1), (62, .istore 7, 2), (64, .iload 7, 2), (66, .ifCond .eq 8, 3), (69, .iload 5, 2), (71, .goto 4, 3), (74, .iload_n 3, 1), (75, .istore_n 3, 1), (76, .iload 7, 2), (78, .ifCond .eq 8, 3), (81, .iload 6, 2), (83, .goto 5, 3), (86, .iload 4, 2), (88, .istore 4, 2), (90, .iinc 5 1, 3), (93, .goto (-68), 3), (96, .aload_n 0, 1), (97, .iload_n 2, 1), (98, .putfield 19, 3), (101, .iload_n 1, 1), (102, .ifCond .ne 7, 3), (105, .iload_n 3, 1), (106, .goto 5, 3), (109, .iload 4, 2), (111, .ireturn, 1)]
theorem KX10_freest : DX10_freest.all (fun q => decide (decode cX10_freest q.1 = .ok (q.2.1, q.2.2))) = true := by decide +kernel
def DX10_fold : List (Nat × Instr × Nat) := [(0, .iload_n 1, 1), (1, .iconst 0, 1), (2, .iconst 1, 1), (3, .invokestatic 81, 3), (6, .ifCond .ne 6, 3), (9, .bipush (-2), 2), (11, .ireturn, 1), (12, .iconst (-1), 1), (13, .istore_n 2, 1), (14, .aload_n 0, 1), (15, .iconst (-1), 1), (16, .invokevirtual 246, 3), (19, .istore_n 3, 1), (20, .iconst 0, 1), (21, .istore 4, 2), (23, .iload 4, 2), (25, .aload_n 0, 1), (26, .getfield 78, 3), (29, .if_icmp .ge 59, 3), (32, .aload_n 0, 1), (33, .iload 4, 2), (35, .invokevirtual 246, 3), (38, .istore 5, 2), (40, .iload_n 2, 1), (41, .iconst (-1), 1), (42, .if_icmp .eq 9, 3), (45, .iload 5, 2), (47, .iload_n 3, 1), (48, .if_icmp .ge 7, 3), (51, .iconst 1, 1), (52, .goto 4, 3), (55, .iconst 0, 1), (56, .istore 6, 2), (58, .iload 6, 2), (60, .ifCond .eq 8, 3), (63, .iload 4, 2), (65, .goto 4, 3), (68, .iload_n 2, 1), (69, .istore_n 2, 1), (70, .iload 6, 2), (72, .ifCond .eq 8, 3), (75, .iload 5, 2), (77, .goto 4, 3), (80, .iload_n 3, 1), (81, .istore_n 3, 1), (82, .iinc 4 1, 3), (85, .goto (-62), 3), (88, .iload_n 1, 1), (89, .ifCond .ne 7, 3), (92, .iload_n 2, 1), (93, .goto 4, 3), (96, .iload_n 3, 1), (97, .ireturn, 1)]
theorem KX10_fold : DX10_fold.all (fun q => decide (decode cX10_fold q.1 = .ok (q.2.1, q.2.2))) = true := by decide +kernel
def DX10_lowest : List (Nat × Instr × Nat) := [(0, .lload_n 0, 1), (1, .lconst 0, 1), (2, .lcmp, 1), (3, .ifCond .ne 7, 3), (6, .iload 4, 2), (8, .i2l, 1), (9, .lreturn, 1), (10, .lload_n 0, 1), (11, .lstore 5, 2), (13, .lload_n 2, 1), (14, .lstore 7, 2), (16, .lload 7, 2), (18, .lconst 0, 1), (19, .lcmp, 1), (20, .ifCond .eq 21, 3), (23, .lload 5, 2), (25, .lload 7, 2), (27, .lrem, 1), (28, .lstore 9, 2), (30, .lload 7, 2), (32, .lstore 5, 2), (34, .lload 9, 2), (36, .lstore 7, 2), (38, .goto (-22), 3), (41, .iload 4, 2), (43, .ifCond .ne 7, 3), (46, .lload_n 0, 1), (47, .goto 4, 3), (50, .lload_n 2, 1), (51, .lload 5, 2), (53, .ldiv, 1), (54, .lreturn, 1)]
theorem KX10_lowest : DX10_lowest.all (fun q => decide (decode cX10_lowest q.1 = .ok (q.2.1, q.2.2))) = true := by decide +kernel
def DX10_share : List (Nat × Instr × Nat) := [(0, .aload_n 0, 1), (1, .iload_n 1, 1), (2, .invokevirtual 167, 3), (5, .ifCond .eq 28, 3), (8, .iload_n 2, 1), (9, .iconst 0, 1), (10, .iconst 1, 1), (11, .invokestatic 81, 3), (14, .ifCond .eq 19, 3), (17, .aload_n 0, 1), (18, .iload_n 1, 1), (19, .invokevirtual 204, 3), (22, .i2l, 1), (23, .ldc2_w 249, 3), (26, .iload_n 2, 1), (27, .invokestatic 251, 3), (30, .goto 6, 3), (33, .ldc2_w 213, 3), (36, .lreturn, 1)]
theorem KX10_share : DX10_share.all (fun q => decide (decode cX10_share q.1 = .ok (q.2.1, q.2.2))) = true := by decide +kernel
def DX10_mean : List (Nat × Instr × Nat) := [(0, .aload_n 0, 1), (1, .iload_n 1, 1), (2, .invokevirtual 167, 3), (5, .ifCond .eq 12, 3), (8, .iload_n 2, 1), (9, .iconst 0, 1), (10, .iconst 1, 1), (11, .invokestatic 81, 3), (14, .ifCond .ne 7, 3), (17, .ldc2_w 213, 3), (20, .lreturn, 1), (21, .aload_n 0, 1), (22, .iconst (-1), 1), (23, .invokevirtual 198, 3), (26, .aload_n 0, 1), (27, .iload_n 1, 1), (28, .invokevirtual 201, 3), (31, .istore_n 3, 1), (32, .iconst 0, 1), (33, .istore 4, 2), (35, .iconst 0, 1), (36, .istore 5, 2), (38, .iload 5, 2), (40, .bipush 36, 2), (42, .if_icmp .ge 35, 3), (45, .iload 4, 2), (47, .aload_n 0, 1), (48, .getfield 62, 3), (51, .iload 5, 2), (53, .iaload, 1), (54, .iload_n 1, 1), (55, .if_icmp .ne 12, 3), (58, .aload_n 0, 1), (59, .iload 5, 2), (61, .invokevirtual 207, 3), (64, .goto 4, 3), (67, .iconst 0, 1), (68, .iadd, 1), (69, .istore 4, 2), (71, .iinc 5 1, 3), (74, .goto (-36), 3), (77, .iload_n 3, 1), (78, .ifCond .ne 9, 3), (81, .ldc2_w 213, 3), (84, .goto 12, 3), (87, .iload 4, 2), (89, .i2l, 1), (90, .iload_n 3, 1), (91, .i2l, 1), (92, .iload_n 2, 1), (93, .invokestatic 251, 3), (96, .lreturn, 1)]
theorem KX10_mean : DX10_mean.all (fun q => decide (decode cX10_mean q.1 = .ok (q.2.1, q.2.2))) = true := by decide +kernel
def DX10_sheetWrong : List (Nat × Instr × Nat) := [(0, .iload_n 1, 1), (1, .iconst 0, 1), (2, .iconst 3, 1), (3, .invokestatic 81, 3), (6, .ifCond .ne 6, 3), (9, .bipush (-2), 2), (11, .ireturn, 1), (12, .aload_n 0, 1), (13, .getfield 38, 3), (16, .iload_n 1, 1), (17, .iaload, 1), (18, .iconst (-1), 1), (19, .if_icmp .ne 6, 3), (22, .bipush (-11), 2), (24, .ireturn, 1), (25, .aload_n 0, 1), (26, .getfield 41, 3), (29, .iload_n 1, 1), (30, .iaload, 1), (31, .bipush 24, 2), (33, .if_icmp .le 8, 3), (36, .bipush (-2), 2), (38, .goto 4, 3), (41, .iconst 0, 1), (42, .ireturn, 1)]
theorem KX10_sheetWrong : DX10_sheetWrong.all (fun q => decide (decode cX10_sheetWrong q.1 = .ok (q.2.1, q.2.2))) = true := by decide +kernel
def DX10_toldWrong : List (Nat × Instr × Nat) := [(0, .aload_n 0, 1), (1, .iload_n 1, 1), (2, .invokevirtual 255, 3), (5, .istore_n 3, 1), (6, .iload_n 3, 1), (7, .ifCond .eq 7, 3), (10, .iload_n 3, 1), (11, .goto 16, 3), (14, .iload_n 2, 1), (15, .invokestatic 170, 3), (18, .ifCond .eq 7, 3), (21, .iconst 0, 1), (22, .goto 5, 3), (25, .bipush (-5), 2), (27, .ireturn, 1)]
theorem KX10_toldWrong : DX10_toldWrong.all (fun q => decide (decode cX10_toldWrong q.1 = .ok (q.2.1, q.2.2))) = true := by decide +kernel
def DX10_unlike : List (Nat × Instr × Nat) := [(0, .aload_n 0, 1), (1, .getfield 19, 3), (4, .istore_n 3, 1), (5, .iconst (-1), 1), (6, .istore 4, 2), (8, .iconst 0, 1), (9, .istore 5, 2), (11, .iload 5, 2), (13, .aload_n 0, 1), (14, .getfield 41, 3), (17, .iload_n 1, 1), (18, .iaload, 1), (19, .if_icmp .ge 54, 3), (22, .iload 4, 2), (24, .iconst (-1), 1), (25, .if_icmp .ne 48, 3), (28, .aload_n 0, 1), (29, .iload 5, 2), (31, .putfield 19, 3), (34, .aload_n 0, 1), (35, .iconst (-1), 1), (36, .invokevirtual 198, 3), (39, .aload_n 0, 1), (40, .getfield 44, 3), (43, .bipush 40, 2), (45, .iload_n 1, 1), (46, .imul, 1), (47, .iload 5, 2), (49, .iadd, 1), (50, .iaload, 1), (51, .aload_n 0, 1), (52, .iload_n 2, 1), (53, .invokevirtual 207, 3), (56, .if_icmp .ne 7, 3), (59, .iconst (-1), 1), (60, .goto 5, 3), (63, .iload 5, 2), (65, .istore 4, 2), (67, .iinc 5 1, 3), (70, .goto (-59), 3), (73, .aload_n 0, 1), (74, .iload_n 3, 1), (75, .putfield 19, 3), (78, .iload 4, 2), (80, .ireturn, 1)]
theorem KX10_unlike : DX10_unlike.all (fun q => decide (decode cX10_unlike q.1 = .ok (q.2.1, q.2.2))) = true := by decide +kernel
def DX10_judge : List (Nat × Instr × Nat) := [(0, .aload_n 0, 1), (1, .iload_n 1, 1), (2, .iload_n 2, 1), (3, .invokevirtual 258, 3), (6, .istore_n 3, 1), (7, .iload_n 3, 1), (8, .ifCond .ne 12, 3), (11, .aload_n 0, 1), (12, .iload_n 1, 1), (13, .iload_n 2, 1), (14, .invokevirtual 261, 3), (17, .goto 4, 3), (20, .iload_n 3, 1), (21, .ireturn, 1)]
theorem KX10_judge : DX10_judge.all (fun q => decide (decode cX10_judge q.1 = .ok (q.2.1, q.2.2))) = true := by decide +kernel
def DX10_kinds : List (Nat × Instr × Nat) := [(0, .aload_n 0, 1), (1, .iload_n 1, 1), (2, .iload_n 2, 1), (3, .invokevirtual 258, 3), (6, .istore 5, 2), (8, .iload 5, 2), (10, .ifCond .eq 6, 3), (13, .iload 5, 2), (15, .ireturn, 1), (16, .aload_n 0, 1), (17, .iload_n 3, 1), (18, .invokevirtual 167, 3), (21, .ifCond .ne 6, 3), (24, .bipush (-6), 2), (26, .ireturn, 1), (27, .iload 4, 2), (29, .iconst 0, 1), (30, .iconst 1, 1), (31, .invokestatic 81, 3), (34, .ifCond .ne 6, 3), (37, .bipush (-7), 2), (39, .ireturn, 1), (40, .aload_n 0, 1), (41, .getfield 7, 3), (44, .iload_n 3, 1), (45, .iaload, 1), (46, .istore 6, 2), (48, .aload_n 0, 1), (49, .getfield 13, 3), (52, .iload_n 3, 1), (53, .iaload, 1), (54, .istore 7, 2), (56, .iconst 0, 1), (57, .istore 8, 2), (59, .iconst 0, 1), (60, .istore 9, 2), (62, .iload 9, 2), (64, .iload 4, 2), (66, .ifCond .ne 8, 3), (69, .bipush 6, 2), (71, .goto 5, 3), (74, .bipush 10, 2), (76, .if_icmp .ge 69, 3), (79, .aload_n 0, 1), (80, .getfield 7, 3), (83, .iload_n 3, 1), (84, .iload 4, 2), (86, .ifCond .ne 8, 3), (89, .iload 9, 2), (91, .goto 5, 3), (94, .iload 6, 2), (96, .iastore, 1), (97, .aload_n 0, 1), (98, .getfield 13, 3), (101, .iload_n 3, 1), (102, .iload 4, 2), (104, .iconst 1, 1), (105, .if_icmp .ne 8, 3), (108, .iload 9, 2), (110, .goto 5, 3), (113, .iload 7, 2), (115, .iastore, 1), (116, .iload 8, 2), (118, .aload_n 0, 1), (119, .iload_n 1, 1), (120, .iload_n 2, 1), (121, .invokevirtual 261, 3), (124, .iconst (-1), 1), (125, .if_icmp .ne 10, 3), (128, .iconst 1, 1), (129, .iload 9, 2), (131, .ishl, 1), (132, .goto 4, 3), (135, .iconst 0, 1), (136, .ior, 1), (137, .istore 8, 2), (139, .iinc 9 1, 3), (142, .goto (-80), 3), (145, .aload_n 0, 1), (146, .getfield 7, 3), (149, .iload_n 3, 1), (150, .iload 6, 2), (152, .iastore, 1), (153, .aload_n 0, 1), (154, .getfield 13, 3), (157, .iload_n 3, 1), (158, .iload 7, 2), (160, .iastore, 1), (161, .iload 8, 2), (163, .ireturn, 1)]
theorem KX10_kinds : DX10_kinds.all (fun q => decide (decode cX10_kinds q.1 = .ok (q.2.1, q.2.2))) = true := by decide +kernel
def DX10_crowds : List (Nat × Instr × Nat) := [(0, .aload_n 0, 1), (1, .iload_n 1, 1), (2, .iload_n 2, 1), (3, .invokevirtual 258, 3), (6, .istore 5, 2), (8, .iload 5, 2), (10, .ifCond .eq 6, 3), (13, .iload 5, 2), (15, .ireturn, 1), (16, .aload_n 0, 1), (17, .iload_n 3, 1), (18, .invokevirtual 167, 3), (21, .ifCond .ne 6, 3), (24, .bipush (-6), 2), (26, .ireturn, 1), (27, .iload 4, 2), (29, .iconst 0, 1), (30, .iconst 1, 1), (31, .invokestatic 81, 3), (34, .ifCond .ne 6, 3), (37, .bipush (-7), 2), (39, .ireturn, 1), (40, .aload_n 0, 1), (41, .getfield 16, 3), (44, .iconst 3, 1), (45, .iload_n 3, 1), (46, .imul, 1), (47, .iconst 2, 1), (48, .iadd, 1), (49, .iaload, 1), (50, .istore 6, 2), (52, .iconst 0, 1), (53, .istore 7, 2), (55, .iconst (-1), 1), (56, .istore 8, 2), (58, .iconst 0, 1), (59, .istore 9, 2), (61, .iload 9, 2), (63, .bipush 99, 2), (65, .if_icmp .gt 73, 3), (68, .aload_n 0, 1), (69, .getfield 16, 3), (72, .iconst 3, 1), (73, .iload_n 3, 1), (74, .imul, 1), (75, .iconst 2, 1), (76, .iadd, 1), (77, .iload 9, 2), (79, .iastore, 1), (80, .aload_n 0, 1), (81, .iload_n 1, 1), (82, .iload_n 2, 1), (83, .invokevirtual 261, 3), (86, .iconst (-1), 1), (87, .if_icmp .ne 7, 3), (90, .iconst 1, 1), (91, .goto 4, 3), (94, .iconst 0, 1), (95, .istore 10, 2), (97, .iload 7, 2), (99, .iload 10, 2), (101, .ifCond .eq 7, 3), (104, .iconst 1, 1), (105, .goto 4, 3), (108, .iconst 0, 1), (109, .iadd, 1), (110, .istore 7, 2), (112, .iload 10, 2), (114, .ifCond .eq 14, 3), (117, .iload 8, 2), (119, .iconst (-1), 1), (120, .if_icmp .ne 8, 3), (123, .iload 9, 2), (125, .goto 5, 3), (128, .iload 8, 2), (130, .istore 8, 2), (132, .iinc 9 1, 3), (135, .goto (-74), 3), (138, .aload_n 0, 1), (139, .getfield 16, 3), (142, .iconst 3, 1), (143, .iload_n 3, 1), (144, .imul, 1), (145, .iconst 2, 1), (146, .iadd, 1), (147, .iload 6, 2), (149, .iastore, 1), (150, .iload 4, 2), (152, .ifCond .ne 8, 3), (155, .iload 7, 2), (157, .goto 5, 3), (160, .iload 8, 2), (162, .ireturn, 1)]
theorem KX10_crowds : DX10_crowds.all (fun q => decide (decode cX10_crowds q.1 = .ok (q.2.1, q.2.2))) = true := by decide +kernel
def DX10_where : List (Nat × Instr × Nat) := [(0, .aload_n 0, 1), (1, .iload_n 1, 1), (2, .invokevirtual 255, 3), (5, .ifCond .eq 7, 3), (8, .ldc2_w 213, 3), (11, .lreturn, 1), (12, .aload_n 0, 1), (13, .getfield 19, 3), (16, .istore_n 2, 1), (17, .ldc2_w 264, 3), (20, .lstore_n 3, 1), (21, .iconst 0, 1), (22, .istore 5, 2), (24, .iload 5, 2), (26, .aload_n 0, 1), (27, .getfield 41, 3), (30, .iload_n 1, 1), (31, .iaload, 1), (32, .if_icmp .ge 74, 3), (35, .aload_n 0, 1), (36, .iload 5, 2), (38, .putfield 19, 3), (41, .aload_n 0, 1), (42, .iconst (-1), 1), (43, .invokevirtual 198, 3), (46, .iconst 0, 1), (47, .istore 6, 2), (49, .iload 6, 2), (51, .bipush 36, 2), (53, .if_icmp .ge 47, 3), (56, .lload_n 3, 1), (57, .aload_n 0, 1), (58, .getfield 44, 3), (61, .bipush 40, 2), (63, .iload_n 1, 1), (64, .imul, 1), (65, .iload 5, 2), (67, .iadd, 1), (68, .iaload, 1), (69, .aload_n 0, 1), (70, .iload 6, 2), (72, .invokevirtual 207, 3), (75, .if_icmp .ne 9, 3), (78, .ldc2_w 266, 3), (81, .goto 11, 3), (84, .lconst 1, 1), (85, .iload 6, 2), (87, .lshl, 1), (88, .ldc2_w 266, 3), (91, .lxor, 1), (92, .land, 1), (93, .lstore_n 3, 1), (94, .iinc 6 1, 3), (97, .goto (-48), 3), (100, .iinc 5 1, 3), (103, .goto (-79), 3), (106, .aload_n 0, 1), (107, .iload_n 2, 1), (108, .putfield 19, 3), (111, .lload_n 3, 1), (112, .lreturn, 1)]
theorem KX10_where : DX10_where.all (fun q => decide (decode cX10_where q.1 = .ok (q.2.1, q.2.2))) = true := by decide +kernel
def DX10_laws : List (Nat × Instr × Nat) := [(0, .aload_n 0, 1), (1, .iload_n 1, 1), (2, .iload_n 2, 1), (3, .invokevirtual 258, 3), (6, .istore_n 3, 1), (7, .iload_n 3, 1), (8, .ifCond .eq 5, 3), (11, .iload_n 3, 1), (12, .ireturn, 1), (13, .aload_n 0, 1), (14, .getfield 92, 3), (17, .istore 4, 2), (19, .iconst 0, 1), (20, .istore 5, 2), (22, .iconst 0, 1), (23, .istore 6, 2), (25, .iload 6, 2), (27, .aload_n 0, 1), (28, .getfield 89, 3), (31, .if_icmp .ge 38, 3), (34, .aload_n 0, 1), (35, .iload 6, 2), (37, .putfield 92, 3), (40, .iload 5, 2), (42, .aload_n 0, 1), (43, .iload_n 1, 1), (44, .iload_n 2, 1), (45, .invokevirtual 261, 3), (48, .iconst (-1), 1), (49, .if_icmp .ne 10, 3), (52, .iconst 1, 1), (53, .iload 6, 2), (55, .ishl, 1), (56, .goto 4, 3), (59, .iconst 0, 1), (60, .ior, 1), (61, .istore 5, 2), (63, .iinc 6 1, 3), (66, .goto (-41), 3), (69, .aload_n 0, 1), (70, .iload 4, 2), (72, .putfield 92, 3), (75, .iload 5, 2), (77, .ireturn, 1)]
theorem KX10_laws : DX10_laws.all (fun q => decide (decode cX10_laws q.1 = .ok (q.2.1, q.2.2))) = true := by decide +kernel
def DX10_film : List (Nat × Instr × Nat) := [(0, .iload_n 1, 1), (1, .iconst 0, 1), (2, .iconst 3, 1), (3, .invokestatic 81, 3), (6, .ifCond .ne 6, 3), (9, .bipush (-2), 2), (11, .ireturn, 1), (12, .iload_n 2, 1), (13, .invokestatic 170, 3), (16, .ifCond .ne 6, 3), (19, .bipush (-5), 2), (21, .ireturn, 1), (22, .iload_n 3, 1), (23, .iconst 0, 1), (24, .bipush 24, 2), (26, .invokestatic 81, 3), (29, .ifCond .ne 6, 3), (32, .bipush (-7), 2), (34, .ireturn, 1), (35, .aload_n 0, 1), (36, .getfield 19, 3), (39, .istore 4, 2), (41, .aload_n 0, 1), (42, .getfield 38, 3), (45, .iload_n 1, 1), (46, .iconst 1, 1), (47, .iastore, 1), (48, .aload_n 0, 1), (49, .getfield 41, 3), (52, .iload_n 1, 1), (53, .iload_n 3, 1), (54, .iastore, 1), (55, .iconst 0, 1), (56, .istore 5, 2), (58, .iload 5, 2), (60, .bipush 40, 2), (62, .if_icmp .ge 56, 3), (65, .aload_n 0, 1), (66, .getfield 44, 3), (69, .bipush 40, 2), (71, .iload_n 1, 1), (72, .imul, 1), (73, .iload 5, 2), (75, .iadd, 1), (76, .iconst 0, 1), (77, .iastore, 1), (78, .iload 5, 2), (80, .iload_n 3, 1), (81, .if_icmp .ge 31, 3), (84, .aload_n 0, 1), (85, .iload 5, 2), (87, .putfield 19, 3), (90, .aload_n 0, 1), (91, .iconst (-1), 1), (92, .invokevirtual 198, 3), (95, .aload_n 0, 1), (96, .getfield 44, 3), (99, .bipush 40, 2), (101, .iload_n 1, 1), (102, .imul, 1), (103, .iload 5, 2), (105, .iadd, 1), (106, .aload_n 0, 1), (107, .iload_n 2, 1), (108, .invokevirtual 207, 3), (111, .iastore, 1), (112, .iinc 5 1, 3), (115, .goto (-57), 3), (118, .aload_n 0, 1), (119, .iload 4, 2), (121, .putfield 19, 3), (124, .iload_n 3, 1), (125, .ireturn, 1)]
theorem KX10_film : DX10_film.all (fun q => decide (decode cX10_film q.1 = .ok (q.2.1, q.2.2))) = true := by decide +kernel
def DX10_walksBy : List (Nat × Instr × Nat) := [(0, .iload_n 1, 1), (1, .i2l, 1), (2, .lconst 1, 1), (3, .ladd, 1), (4, .lstore_n 3, 1), (5, .aload_n 0, 1), (6, .iconst 0, 1), (7, .putfield 221, 3), (10, .aload_n 0, 1), (11, .iconst 0, 1), (12, .putfield 224, 3), (15, .aload_n 0, 1), (16, .iload_n 2, 1), (17, .bipush 100, 2), (19, .idiv, 1), (20, .iconst 0, 1), (21, .bipush 35, 2), (23, .invokestatic 164, 3), (26, .putfield 268, 3), (29, .iconst 0, 1), (30, .istore 5, 2), (32, .iload 5, 2), (34, .iload_n 2, 1), (35, .bipush 100, 2), (37, .irem, 1), (38, .if_icmp .ge 102, 3), (41, .lload_n 3, 1), (42, .ldc2_w 271, 3), (45, .lmul, 1), (46, .ldc2_w 273, 3), (49, .lrem, 1), (50, .lstore_n 3, 1), (51, .aload_n 0, 1), (52, .getfield 268, 3), (55, .lload_n 3, 1), (56, .ldc2_w 275, 3), (59, .lrem, 1), (60, .l2i, 1), (61, .invokestatic 236, 3), (64, .istore 6, 2), (66, .aload_n 0, 1), (67, .dup, 1), (68, .getfield 221, 3), (71, .aload_n 0, 1), (72, .aload_n 0, 1), (73, .getfield 268, 3), (76, .invokevirtual 207, 3), (79, .iadd, 1), (80, .putfield 221, 3), (83, .iload 6, 2), (85, .iconst (-1), 1), (86, .if_icmp .eq 48, 3), (89, .aload_n 0, 1), (90, .dup, 1), (91, .getfield 224, 3), (94, .aload_n 0, 1), (95, .getfield 62, 3), (98, .aload_n 0, 1), (99, .getfield 268, 3), (102, .iaload, 1), (103, .aload_n 0, 1), (104, .getfield 62, 3), (107, .iload 6, 2), (109, .iconst 0, 1), (110, .bipush 35, 2), (112, .invokestatic 164, 3), (115, .iaload, 1), (116, .if_icmp .eq 7, 3), (119, .iconst 1, 1), (120, .goto 4, 3), (123, .iconst 0, 1), (124, .iadd, 1), (125, .putfield 224, 3), (128, .aload_n 0, 1), (129, .iload 6, 2), (131, .putfield 268, 3), (134, .iinc 5 1, 3), (137, .goto (-105), 3), (140, .return_, 1)]
theorem KX10_walksBy : DX10_walksBy.all (fun q => decide (decode cX10_walksBy q.1 = .ok (q.2.1, q.2.2))) = true := by decide +kernel
def DX10_drawn : List (Nat × Instr × Nat) := [(0, .iload_n 1, 1), (1, .iconst 0, 1), (2, .ldc_w 277, 3), (5, .invokestatic 81, 3), (8, .ifCond .eq 23, 3), (11, .iload_n 2, 1), (12, .iconst 0, 1), (13, .sipush 3599, 3), (16, .invokestatic 81, 3), (19, .ifCond .eq 12, 3), (22, .iload_n 3, 1), (23, .iconst 0, 1), (24, .iconst 2, 1), (25, .invokestatic 81, 3), (28, .ifCond .ne 6, 3), (31, .bipush (-2), 2), (33, .ireturn, 1), (34, .aload_n 0, 1), (35, .iconst (-1), 1), (36, .invokevirtual 198, 3), (39, .aload_n 0, 1), (40, .iload_n 1, 1), (41, .iload_n 2, 1), (42, .invokevirtual 278, 3), (45, .iload_n 3, 1), (46, .ifCond .ne 10, 3), (49, .aload_n 0, 1), (50, .getfield 221, 3), (53, .goto 19, 3), (56, .iload_n 3, 1), (57, .iconst 1, 1), (58, .if_icmp .ne 10, 3), (61, .aload_n 0, 1), (62, .getfield 268, 3), (65, .goto 7, 3), (68, .aload_n 0, 1), (69, .getfield 224, 3), (72, .ireturn, 1)]
theorem KX10_drawn : DX10_drawn.all (fun q => decide (decode cX10_drawn q.1 = .ok (q.2.1, q.2.2))) = true := by decide +kernel
def DX10_odds : List (Nat × Instr × Nat) := [(0, .iload_n 1, 1), (1, .iconst 0, 1), (2, .ldc_w 277, 3), (5, .invokestatic 81, 3), (8, .ifCond .eq 28, 3), (11, .iload_n 2, 1), (12, .iconst 1, 1), (13, .bipush 40, 2), (15, .invokestatic 81, 3), (18, .ifCond .eq 18, 3), (21, .iload_n 3, 1), (22, .iconst 0, 1), (23, .sipush 3599, 3), (26, .invokestatic 81, 3), (29, .ifCond .eq 7, 3), (32, .iconst 1, 1), (33, .goto 4, 3), (36, .iconst 0, 1), (37, .istore 6, 2), (39, .iload 6, 2), (41, .ifCond .eq 25, 3), (44, .iload 4, 2), (46, .iconst 0, 1), (47, .ldc_w 277, 3), (50, .invokestatic 81, 3), (53, .ifCond .eq 13, 3), (56, .iload 5, 2), (58, .iconst 0, 1), (59, .iconst 1, 1), (60, .invokestatic 81, 3), (63, .ifCond .ne 7, 3), (66, .ldc2_w 213, 3), (69, .lreturn, 1), (70, .aload_n 0, 1), (71, .iconst (-1), 1), (72, .invokevirtual 198, 3), (75, .lconst 0, 1), (76, .lstore 7, 2), (78, .iconst 0, 1), (79, .istore 9, 2), (81, .iload 9, 2), (83, .iload_n 2, 1), (84, .if_icmp .ge 37, 3), (87, .aload_n 0, 1), (88, .iload_n 1, 1), (89, .iload 9, 2), (91, .iadd, 1), (92, .iload_n 3, 1), (93, .invokevirtual 278, 3), (96, .lload 7, 2), (98, .aload_n 0, 1), (99, .getfield 221, 3), (102, .iload 4, 2), (104, .if_icmp .lt 7, 3), (107, .lconst 1, 1), (108, .goto 4, 3), (111, .lconst 0, 1), (112, .ladd, 1), (113, .lstore 7, 2), (115, .iinc 9 1, 3), (118, .goto (-37), 3), (121, .lload 7, 2), (123, .iload_n 2, 1), (124, .i2l, 1), (125, .iload 5, 2), (127, .invokestatic 251, 3), (130, .lreturn, 1)]
theorem KX10_odds : DX10_odds.all (fun q => decide (decode cX10_odds q.1 = .ok (q.2.1, q.2.2))) = true := by decide +kernel
def DX10_image : List (Nat × Instr × Nat) := [(0, .aload_n 0, 1), (1, .iconst 1, 1), (2, .putfield 282, 3), (5, .iconst 0, 1), (6, .istore_n 1, 1), (7, .iload_n 1, 1), (8, .bipush 18, 2), (10, .if_icmp .ge 21, 3), (13, .aload_n 0, 1), (14, .getfield 32, 3), (17, .iload_n 1, 1), (18, .aload_n 0, 1), (19, .getfield 16, 3), (22, .iload_n 1, 1), (23, .iaload, 1), (24, .iastore, 1), (25, .iinc 1 1, 3), (28, .goto (-21), 3), (31, .aload_n 0, 1), (32, .getfield 35, 3), (35, .iconst 0, 1), (36, .aload_n 0, 1), (37, .getfield 78, 3), (40, .iastore, 1), (41, .aload_n 0, 1), (42, .getfield 35, 3), (45, .iconst 1, 1), (46, .aload_n 0, 1), (47, .getfield 19, 3), (50, .iastore, 1), (51, .aload_n 0, 1), (52, .getfield 35, 3), (55, .iconst 2, 1), (56, .aload_n 0, 1), (57, .getfield 92, 3), (60, .iastore, 1), (61, .aload_n 0, 1), (62, .getfield 78, 3), (65, .ireturn, 1)]
theorem KX10_image : DX10_image.all (fun q => decide (decode cX10_image q.1 = .ok (q.2.1, q.2.2))) = true := by decide +kernel
def DX10_back : List (Nat × Instr × Nat) := [(0, .aload_n 0, 1), (1, .getfield 282, 3), (4, .ifCond .ne 6, 3), (7, .bipush (-3), 2), (9, .ireturn, 1), (10, .iconst 0, 1), (11, .istore_n 1, 1), (12, .iload_n 1, 1), (13, .bipush 18, 2), (15, .if_icmp .ge 21, 3), (18, .aload_n 0, 1), (19, .getfield 16, 3), (22, .iload_n 1, 1), (23, .aload_n 0, 1), (24, .getfield 32, 3), (27, .iload_n 1, 1), (28, .iaload, 1), (29, .iastore, 1), (30, .iinc 1 1, 3), (33, .goto (-21), 3), (36, .aload_n 0, 1), (37, .aload_n 0, 1), (38, .getfield 35, 3), (41, .iconst 0, 1), (42, .iaload, 1), (43, .putfield 78, 3), (46, .aload_n 0, 1), (47, .aload_n 0, 1), (48, .getfield 35, 3), (51, .iconst 1, 1), (52, .iaload, 1), (53, .putfield 19, 3), (56, .aload_n 0, 1), (57, .aload_n 0, 1), (58, .getfield 35, 3), (61, .iconst 2, 1), (62, .iaload, 1), (63, .putfield 92, 3), (66, .aload_n 0, 1), (67, .getfield 78, 3), (70, .ireturn, 1)]
theorem KX10_back : DX10_back.all (fun q => decide (decode cX10_back q.1 = .ok (q.2.1, q.2.2))) = true := by decide +kernel
def DX10_sheet : List (Nat × Instr × Nat) := [(0, .iload_n 1, 1), (1, .iconst 0, 1), (2, .iconst 3, 1), (3, .invokestatic 81, 3), (6, .ifCond .eq 23, 3), (9, .iload_n 2, 1), (10, .iconst (-1), 1), (11, .iconst 2, 1), (12, .invokestatic 81, 3), (15, .ifCond .eq 14, 3), (18, .iload_n 2, 1), (19, .iconst (-1), 1), (20, .if_icmp .eq 12, 3), (23, .iload_n 3, 1), (24, .bipush 40, 2), (26, .if_icmp .le 6, 3), (29, .bipush (-2), 2), (31, .ireturn, 1), (32, .iload_n 2, 1), (33, .iconst (-1), 1), (34, .if_icmp .eq 10, 3), (37, .iload_n 3, 1), (38, .ifCond .ge 6, 3), (41, .bipush (-14), 2), (43, .ireturn, 1), (44, .aload_n 0, 1), (45, .getfield 38, 3), (48, .iload_n 1, 1), (49, .iload_n 2, 1), (50, .iastore, 1), (51, .aload_n 0, 1), (52, .getfield 41, 3), (55, .iload_n 1, 1), (56, .iload_n 2, 1), (57, .iconst (-1), 1), (58, .if_icmp .ne 7, 3), (61, .iconst 0, 1), (62, .goto 4, 3), (65, .iload_n 3, 1), (66, .iastore, 1), (67, .iconst 0, 1), (68, .istore 4, 2), (70, .iload 4, 2), (72, .bipush 40, 2), (74, .if_icmp .ge 22, 3), (77, .aload_n 0, 1), (78, .getfield 44, 3), (81, .bipush 40, 2), (83, .iload_n 1, 1), (84, .imul, 1), (85, .iload 4, 2), (87, .iadd, 1), (88, .iconst 0, 1), (89, .iastore, 1), (90, .iinc 4 1, 3), (93, .goto (-23), 3), (96, .iconst 1, 1), (97, .ireturn, 1)]
theorem KX10_sheet : DX10_sheet.all (fun q => decide (decode cX10_sheet q.1 = .ok (q.2.1, q.2.2))) = true := by decide +kernel
def DX10_cell : List (Nat × Instr × Nat) := [(0, .iload_n 1, 1), (1, .iconst 0, 1), (2, .iconst 3, 1), (3, .invokestatic 81, 3), (6, .ifCond .ne 6, 3), (9, .bipush (-2), 2), (11, .ireturn, 1), (12, .aload_n 0, 1), (13, .getfield 38, 3), (16, .iload_n 1, 1), (17, .iaload, 1), (18, .iconst (-1), 1), (19, .if_icmp .ne 6, 3), (22, .bipush (-11), 2), (24, .ireturn, 1), (25, .iload_n 2, 1), (26, .iconst 0, 1), (27, .aload_n 0, 1), (28, .getfield 41, 3), (31, .iload_n 1, 1), (32, .iaload, 1), (33, .iconst 1, 1), (34, .isub, 1), (35, .invokestatic 81, 3), (38, .ifCond .ne 6, 3), (41, .bipush (-12), 2), (43, .ireturn, 1), (44, .aload_n 0, 1), (45, .getfield 44, 3), (48, .bipush 40, 2), (50, .iload_n 1, 1), (51, .imul, 1), (52, .iload_n 2, 1), (53, .iadd, 1), (54, .aload_n 0, 1), (55, .getfield 38, 3), (58, .iload_n 1, 1), (59, .iaload, 1), (60, .ifCond .ne 8, 3), (63, .iload_n 3, 1), (64, .i2b, 1), (65, .goto 19, 3), (68, .aload_n 0, 1), (69, .getfield 38, 3), (72, .iload_n 1, 1), (73, .iaload, 1), (74, .iconst 1, 1), (75, .if_icmp .ne 8, 3), (78, .iload_n 3, 1), (79, .i2s, 1), (80, .goto 4, 3), (83, .iload_n 3, 1), (84, .iastore, 1), (85, .iconst 1, 1), (86, .ireturn, 1)]
theorem KX10_cell : DX10_cell.all (fun q => decide (decode cX10_cell q.1 = .ok (q.2.1, q.2.2))) = true := by decide +kernel
def DX10_copy : List (Nat × Instr × Nat) := [(0, .iload_n 1, 1), (1, .iconst 0, 1), (2, .iconst 3, 1), (3, .invokestatic 81, 3), (6, .ifCond .eq 12, 3), (9, .iload_n 3, 1), (10, .iconst 0, 1), (11, .iconst 3, 1), (12, .invokestatic 81, 3), (15, .ifCond .ne 6, 3), (18, .bipush (-2), 2), (20, .ireturn, 1), (21, .aload_n 0, 1), (22, .getfield 38, 3), (25, .iload_n 1, 1), (26, .iaload, 1), (27, .iconst (-1), 1), (28, .if_icmp .eq 13, 3), (31, .aload_n 0, 1), (32, .getfield 38, 3), (35, .iload_n 3, 1), (36, .iaload, 1), (37, .iconst (-1), 1), (38, .if_icmp .ne 6, 3), (41, .bipush (-11), 2), (43, .ireturn, 1), (44, .aload_n 0, 1), (45, .getfield 38, 3), (48, .iload_n 1, 1), (49, .iaload, 1), (50, .aload_n 0, 1), (51, .getfield 38, 3), (54, .iload_n 3, 1), (55, .iaload, 1), (56, .if_icmp .eq 6, 3), (59, .bipush (-13), 2), (61, .ireturn, 1), (62, .iload 5, 2), (64, .ifCond .lt 60, 3), (67, .iload_n 2, 1), (68, .ifCond .lt 56, 3), (71, .iload 4, 2), (73, .ifCond .lt 51, 3), (76, .iload_n 2, 1), (77, .aload_n 0, 1), (78, .getfield 41, 3), (81, .iload_n 1, 1), (82, .iaload, 1), (83, .if_icmp .gt 41, 3), (86, .iload 4, 2), (88, .aload_n 0, 1), (89, .getfield 41, 3), (92, .iload_n 3, 1), (93, .iaload, 1), (94, .if_icmp .gt 30, 3), (97, .iload 5, 2), (99, .aload_n 0, 1), (100, .getfield 41, 3), (103, .iload_n 1, 1), (104, .iaload, 1), (105, .iload_n 2, 1), (106, .isub, 1), (107, .if_icmp .gt 17, 3), (110, .iload 5, 2), (112, .aload_n 0, 1), (113, .getfield 41, 3), (116, .iload_n 3, 1), (117, .iaload, 1), (118, .iload 4, 2), (120, .isub, 1), (121, .if_icmp .le 6, 3), (124, .bipush (-12), 2), (126, .ireturn, 1), (127, .bipush 40, 2), (129, .iload_n 1, 1), (130, .imul, 1), (131, .iload_n 2, 1), (132, .iadd, 1), (133, .istore 6, 2), (135, .bipush 40, 2), (137, .iload_n 3, 1), (138, .imul, 1), (139, .iload 4, 2), (141, .iadd, 1), (142, .istore 7, 2), (144, .iconst 0, 1), (145, .istore 8, 2), (147, .iload 8, 2), (149, .iload 5, 2), (151, .if_icmp .ge 50, 3), (154, .iload 6, 2), (156, .iload 7, 2), (158, .if_icmp .ge 13, 3), (161, .iload 5, 2), (163, .iconst 1, 1), (164, .isub, 1), (165, .iload 8, 2), (167, .isub, 1), (168, .goto 5, 3), (171, .iload 8, 2), (173, .istore 9, 2), (175, .aload_n 0, 1), (176, .getfield 44, 3), (179, .iload 7, 2), (181, .iload 9, 2), (183, .iadd, 1), (184, .aload_n 0, 1), (185, .getfield 44, 3), (188, .iload 6, 2), (190, .iload 9, 2), (192, .iadd, 1), (193, .iaload, 1), (194, .iastore, 1), (195, .iinc 8 1, 3), (198, .goto (-51), 3), (201, .iload 5, 2), (203, .ireturn, 1)]
theorem KX10_copy : DX10_copy.all (fun q => decide (decode cX10_copy q.1 = .ok (q.2.1, q.2.2))) = true := by decide +kernel
def DX10_rugsBy : List (Nat × Instr × Nat) := [(0, .iload_n 1, 1), (1, .iconst 0, 1), (2, .iconst 3, 1), (3, .invokestatic 81, 3), (6, .ifCond .eq 23, 3), (9, .iload_n 2, 1), (10, .iconst 0, 1), (11, .iconst 2, 1), (12, .invokestatic 81, 3), (15, .ifCond .eq 14, 3), (18, .iload 4, 2), (20, .iconst 0, 1), (21, .bipush 6, 2), (23, .invokestatic 81, 3), (26, .ifCond .ne 6, 3), (29, .bipush (-2), 2), (31, .ireturn, 1), (32, .aload_n 0, 1), (33, .getfield 38, 3), (36, .iload_n 1, 1), (37, .iaload, 1), (38, .iconst (-1), 1), (39, .if_icmp .ne 6, 3), (42, .bipush (-11), 2), (44, .ireturn, 1), (45, .aload_n 0, 1), (46, .getfield 38, 3), (49, .iload_n 1, 1), (50, .iaload, 1), (51, .iload_n 2, 1), (52, .if_icmp .eq 6, 3), (55, .bipush (-13), 2), (57, .ireturn, 1), (58, .iconst 0, 1), (59, .istore 5, 2), (61, .iconst 0, 1), (62, .istore 6, 2), (64, .iload 6, 2), (66, .iload 4, 2), (68, .if_icmp .ge 85, 3), (71, .iload_n 3, 1), (72, .iconst 2, 1), (73, .iload 6, 2), (75, .imul, 1), (76, .iadd, 1), (77, .istore 7, 2), (79, .iload_n 3, 1), (80, .ifCond .lt 22, 3), (83, .iload 7, 2), (85, .iload_n 3, 1), (86, .if_icmp .lt 16, 3), (89, .iload 7, 2), (91, .aload_n 0, 1), (92, .getfield 41, 3), (95, .iload_n 1, 1), (96, .iaload, 1), (97, .iconst 2, 1), (98, .isub, 1), (99, .if_icmp .le 6, 3), (102, .bipush (-12), 2), (104, .ireturn, 1), (105, .bipush 40, 2), (107, .iload_n 1, 1), (108, .imul, 1), (109, .iload 7, 2), (111, .iadd, 1), (112, .istore 8, 2), (114, .iload 5, 2), (116, .aload_n 0, 1), (117, .aload_n 0, 1), (118, .getfield 44, 3), (121, .iload 8, 2), (123, .iaload, 1), (124, .aload_n 0, 1), (125, .getfield 44, 3), (128, .iload 8, 2), (130, .iconst 1, 1), (131, .iadd, 1), (132, .iaload, 1), (133, .invokevirtual 286, 3), (136, .ifCond .lt 7, 3), (139, .iconst 1, 1), (140, .goto 4, 3), (143, .iconst 0, 1), (144, .iadd, 1), (145, .istore 5, 2), (147, .iinc 6 1, 3), (150, .goto (-86), 3), (153, .iload 5, 2), (155, .ireturn, 1)]
theorem KX10_rugsBy : DX10_rugsBy.all (fun q => decide (decode cX10_rugsBy q.1 = .ok (q.2.1, q.2.2))) = true := by decide +kernel
def DX10_isUnder : List (Nat × Instr × Nat) := [(0, .iload_n 1, 1), (1, .ifCond .eq 28, 3), (4, .iload_n 0, 1), (5, .iload_n 1, 1), (6, .if_icmp .eq 23, 3), (9, .iload_n 1, 1), (10, .iconst 1, 1), (11, .if_icmp .ne 8, 3), (14, .iload_n 0, 1), (15, .iconst 3, 1), (16, .if_icmp .eq 13, 3), (19, .iload_n 1, 1), (20, .iconst 2, 1), (21, .if_icmp .ne 12, 3), (24, .iload_n 0, 1), (25, .iconst 4, 1), (26, .if_icmp .ne 7, 3), (29, .iconst 1, 1), (30, .goto 4, 3), (33, .iconst 0, 1), (34, .ireturn, 1)]
theorem KX10_isUnder : DX10_isUnder.all (fun q => decide (decode cX10_isUnder q.1 = .ok (q.2.1, q.2.2))) = true := by decide +kernel
def DX10_taken : List (Nat × Instr × Nat) := [(0, .iload_n 2, 1), (1, .iconst 0, 1), (2, .bipush 6, 2), (4, .invokestatic 81, 3), (7, .ifCond .ne 6, 3), (10, .bipush (-2), 2), (12, .ireturn, 1), (13, .iload_n 1, 1), (14, .iconst 0, 1), (15, .bipush 11, 2), (17, .invokestatic 81, 3), (20, .ifCond .ne 6, 3), (23, .bipush (-12), 2), (25, .ireturn, 1), (26, .iload_n 1, 1), (27, .bipush 6, 2), (29, .irem, 1), (30, .aload_n 0, 1), (31, .getfield 78, 3), (34, .if_icmp .lt 6, 3), (37, .bipush (-11), 2), (39, .ireturn, 1), (40, .iload_n 1, 1), (41, .bipush 6, 2), (43, .if_icmp .lt 28, 3), (46, .iload_n 2, 1), (47, .bipush 6, 2), (49, .if_icmp .ne 19, 3), (52, .aload_n 0, 1), (53, .getfield 16, 3), (56, .iconst 3, 1), (57, .iload_n 1, 1), (58, .bipush 6, 2), (60, .isub, 1), (61, .imul, 1), (62, .iconst 2, 1), (63, .iadd, 1), (64, .iaload, 1), (65, .goto 5, 3), (68, .bipush (-13), 2), (70, .ireturn, 1), (71, .iload_n 2, 1), (72, .bipush 6, 2), (74, .if_icmp .ge 20, 3), (77, .aload_n 0, 1), (78, .getfield 7, 3), (81, .iload_n 1, 1), (82, .iaload, 1), (83, .iload_n 2, 1), (84, .invokestatic 289, 3), (87, .ifCond .eq 7, 3), (90, .iload_n 1, 1), (91, .goto 5, 3), (94, .bipush (-13), 2), (96, .ireturn, 1)]
theorem KX10_taken : DX10_taken.all (fun q => decide (decode cX10_taken q.1 = .ok (q.2.1, q.2.2))) = true := by decide +kernel
end
section
def DX10_init_0 : List (Nat × Instr × Nat) := [(0, .aload_n 0, 1), (1, .invokespecial 1, 3), (4, .aload_n 0, 1), (5, .bipush 6, 2), (7, .newarray .int, 2), (9, .putfield 7, 3), (12, .aload_n 0, 1), (13, .bipush 6, 2), (15, .newarray .int, 2), (17, .putfield 13, 3), (20, .aload_n 0, 1), (21, .bipush 18, 2), (23, .newarray .int, 2), (25, .putfield 16, 3), (28, .aload_n 0, 1), (29, .bipush 12, 2), (31, .putfield 19, 3), (34, .aload_n 0, 1), (35, .sipush 160, 3), (38, .newarray .int, 2), (40, .putfield 23, 3), (43, .aload_n 0, 1), (44, .sipush 1200, 3), (47, .newarray .int, 2), (49, .putfield 26, 3)]
theorem KX10_init_0 : DX10_init_0.all (fun q => decide (decode cX10_init q.1 = .ok (q.2.1, q.2.2))) = true := by decide +kernel
def DX10_init_1 : List (Nat × Instr × Nat) := [(52, .aload_n 0, 1), (53, .bipush 24, 2), (55, .newarray .int, 2), (57, .putfield 29, 3), (60, .aload_n 0, 1), (61, .bipush 18, 2), (63, .newarray .int, 2), (65, .putfield 32, 3), (68, .aload_n 0, 1), (69, .iconst 3, 1), (70, .newarray .int, 2), (72, .putfield 35, 3), (75, .aload_n 0, 1), (76, .iconst 4, 1), (77, .newarray .int, 2), (79, .dup, 1), (80, .iconst 0, 1), (81, .iconst (-1), 1), (82, .iastore, 1), (83, .dup, 1), (84, .iconst 1, 1), (85, .iconst (-1), 1), (86, .iastore, 1), (87, .dup, 1), (88, .iconst 2, 1)]
theorem KX10_init_1 : DX10_init_1.all (fun q => decide (decode cX10_init q.1 = .ok (q.2.1, q.2.2))) = true := by decide +kernel
def DX10_init_2 : List (Nat × Instr × Nat) := [(89, .iconst (-1), 1), (90, .iastore, 1), (91, .dup, 1), (92, .iconst 3, 1), (93, .iconst (-1), 1), (94, .iastore, 1), (95, .putfield 38, 3), (98, .aload_n 0, 1), (99, .iconst 4, 1), (100, .newarray .int, 2), (102, .putfield 41, 3), (105, .aload_n 0, 1), (106, .sipush 160, 3), (109, .newarray .int, 2), (111, .putfield 44, 3), (114, .aload_n 0, 1), (115, .bipush 57, 2), (117, .newarray .int, 2), (119, .dup, 1), (120, .iconst 0, 1), (121, .bipush 102, 2), (123, .iastore, 1), (124, .dup, 1), (125, .iconst 1, 1), (126, .bipush 105, 2)]
theorem KX10_init_2 : DX10_init_2.all (fun q => decide (decode cX10_init q.1 = .ok (q.2.1, q.2.2))) = true := by decide +kernel
def DX10_init_3 : List (Nat × Instr × Nat) := [(128, .iastore, 1), (129, .dup, 1), (130, .iconst 2, 1), (131, .bipush 110, 2), (133, .iastore, 1), (134, .dup, 1), (135, .iconst 3, 1), (136, .bipush 101, 2), (138, .iastore, 1), (139, .dup, 1), (140, .iconst 4, 1), (141, .bipush 115, 2), (143, .iastore, 1), (144, .dup, 1), (145, .iconst 5, 1), (146, .bipush 32, 2), (148, .iastore, 1), (149, .dup, 1), (150, .bipush 6, 2), (152, .bipush 49, 2), (154, .iastore, 1), (155, .dup, 1), (156, .bipush 7, 2), (158, .bipush 32, 2), (160, .iastore, 1)]
theorem KX10_init_3 : DX10_init_3.all (fun q => decide (decode cX10_init q.1 = .ok (q.2.1, q.2.2))) = true := by decide +kernel
def DX10_init_4 : List (Nat × Instr × Nat) := [(161, .dup, 1), (162, .bipush 8, 2), (164, .bipush 43, 2), (166, .iastore, 1), (167, .dup, 1), (168, .bipush 9, 2), (170, .bipush 32, 2), (172, .iastore, 1), (173, .dup, 1), (174, .bipush 10, 2), (176, .bipush 103, 2), (178, .iastore, 1), (179, .dup, 1), (180, .bipush 11, 2), (182, .bipush 117, 2), (184, .iastore, 1), (185, .dup, 1), (186, .bipush 12, 2), (188, .bipush 101, 2), (190, .iastore, 1), (191, .dup, 1), (192, .bipush 13, 2), (194, .bipush 115, 2), (196, .iastore, 1), (197, .dup, 1)]
theorem KX10_init_4 : DX10_init_4.all (fun q => decide (decode cX10_init q.1 = .ok (q.2.1, q.2.2))) = true := by decide +kernel
def DX10_init_5 : List (Nat × Instr × Nat) := [(198, .bipush 14, 2), (200, .bipush 116, 2), (202, .iastore, 1), (203, .dup, 1), (204, .bipush 15, 2), (206, .bipush 115, 2), (208, .iastore, 1), (209, .dup, 1), (210, .bipush 16, 2), (212, .bipush 32, 2), (214, .iastore, 1), (215, .dup, 1), (216, .bipush 17, 2), (218, .bipush 59, 2), (220, .iastore, 1), (221, .dup, 1), (222, .bipush 18, 2), (224, .bipush 32, 2), (226, .iastore, 1), (227, .dup, 1), (228, .bipush 19, 2), (230, .bipush 97, 2), (232, .iastore, 1), (233, .dup, 1), (234, .bipush 20, 2)]
theorem KX10_init_5 : DX10_init_5.all (fun q => decide (decode cX10_init q.1 = .ok (q.2.1, q.2.2))) = true := by decide +kernel
def DX10_init_6 : List (Nat × Instr × Nat) := [(236, .bipush 100, 2), (238, .iastore, 1), (239, .dup, 1), (240, .bipush 21, 2), (242, .bipush 109, 2), (244, .iastore, 1), (245, .dup, 1), (246, .bipush 22, 2), (248, .bipush 105, 2), (250, .iastore, 1), (251, .dup, 1), (252, .bipush 23, 2), (254, .bipush 116, 2), (256, .iastore, 1), (257, .dup, 1), (258, .bipush 24, 2), (260, .bipush 115, 2), (262, .iastore, 1), (263, .dup, 1), (264, .bipush 25, 2), (266, .bipush 32, 2), (268, .iastore, 1), (269, .dup, 1), (270, .bipush 26, 2), (272, .bipush 103, 2)]
theorem KX10_init_6 : DX10_init_6.all (fun q => decide (decode cX10_init q.1 = .ok (q.2.1, q.2.2))) = true := by decide +kernel
def DX10_init_7 : List (Nat × Instr × Nat) := [(274, .iastore, 1), (275, .dup, 1), (276, .bipush 27, 2), (278, .bipush 117, 2), (280, .iastore, 1), (281, .dup, 1), (282, .bipush 28, 2), (284, .bipush 101, 2), (286, .iastore, 1), (287, .dup, 1), (288, .bipush 29, 2), (290, .bipush 115, 2), (292, .iastore, 1), (293, .dup, 1), (294, .bipush 30, 2), (296, .bipush 116, 2), (298, .iastore, 1), (299, .dup, 1), (300, .bipush 31, 2), (302, .bipush 115, 2), (304, .iastore, 1), (305, .dup, 1), (306, .bipush 32, 2), (308, .bipush 32, 2), (310, .iastore, 1)]
theorem KX10_init_7 : DX10_init_7.all (fun q => decide (decode cX10_init q.1 = .ok (q.2.1, q.2.2))) = true := by decide +kernel
def DX10_init_8 : List (Nat × Instr × Nat) := [(311, .dup, 1), (312, .bipush 33, 2), (314, .bipush 60, 2), (316, .iastore, 1), (317, .dup, 1), (318, .bipush 34, 2), (320, .bipush 32, 2), (322, .iastore, 1), (323, .dup, 1), (324, .bipush 35, 2), (326, .bipush 50, 2), (328, .iastore, 1), (329, .dup, 1), (330, .bipush 36, 2), (332, .bipush 48, 2), (334, .iastore, 1), (335, .dup, 1), (336, .bipush 37, 2), (338, .bipush 32, 2), (340, .iastore, 1), (341, .dup, 1), (342, .bipush 38, 2), (344, .bipush 59, 2), (346, .iastore, 1), (347, .dup, 1)]
theorem KX10_init_8 : DX10_init_8.all (fun q => decide (decode cX10_init q.1 = .ok (q.2.1, q.2.2))) = true := by decide +kernel
def DX10_init_9 : List (Nat × Instr × Nat) := [(348, .bipush 39, 2), (350, .bipush 32, 2), (352, .iastore, 1), (353, .dup, 1), (354, .bipush 40, 2), (356, .bipush 115, 2), (358, .iastore, 1), (359, .dup, 1), (360, .bipush 41, 2), (362, .bipush 108, 2), (364, .iastore, 1), (365, .dup, 1), (366, .bipush 42, 2), (368, .bipush 101, 2), (370, .iastore, 1), (371, .dup, 1), (372, .bipush 43, 2), (374, .bipush 101, 2), (376, .iastore, 1), (377, .dup, 1), (378, .bipush 44, 2), (380, .bipush 112, 2), (382, .iastore, 1), (383, .dup, 1), (384, .bipush 45, 2)]
theorem KX10_init_9 : DX10_init_9.all (fun q => decide (decode cX10_init q.1 = .ok (q.2.1, q.2.2))) = true := by decide +kernel
def DX10_init_10 : List (Nat × Instr × Nat) := [(386, .bipush 115, 2), (388, .iastore, 1), (389, .dup, 1), (390, .bipush 46, 2), (392, .bipush 32, 2), (394, .iastore, 1), (395, .dup, 1), (396, .bipush 47, 2), (398, .bipush 104, 2), (400, .iastore, 1), (401, .dup, 1), (402, .bipush 48, 2), (404, .bipush 111, 2), (406, .iastore, 1), (407, .dup, 1), (408, .bipush 49, 2), (410, .bipush 117, 2), (412, .iastore, 1), (413, .dup, 1), (414, .bipush 50, 2), (416, .bipush 114, 2), (418, .iastore, 1), (419, .dup, 1), (420, .bipush 51, 2), (422, .bipush 32, 2)]
theorem KX10_init_10 : DX10_init_10.all (fun q => decide (decode cX10_init q.1 = .ok (q.2.1, q.2.2))) = true := by decide +kernel
def DX10_init_11 : List (Nat × Instr × Nat) := [(424, .iastore, 1), (425, .dup, 1), (426, .bipush 52, 2), (428, .bipush 60, 2), (430, .iastore, 1), (431, .dup, 1), (432, .bipush 53, 2), (434, .bipush 32, 2), (436, .iastore, 1), (437, .dup, 1), (438, .bipush 54, 2), (440, .bipush 54, 2), (442, .iastore, 1), (443, .dup, 1), (444, .bipush 55, 2), (446, .bipush 32, 2), (448, .iastore, 1), (449, .dup, 1), (450, .bipush 56, 2), (452, .bipush 59, 2), (454, .iastore, 1), (455, .putfield 47, 3), (458, .aload_n 0, 1), (459, .bipush 96, 2), (461, .newarray .int, 2)]
theorem KX10_init_11 : DX10_init_11.all (fun q => decide (decode cX10_init q.1 = .ok (q.2.1, q.2.2))) = true := by decide +kernel
def DX10_init_12 : List (Nat × Instr × Nat) := [(463, .dup, 1), (464, .iconst 0, 1), (465, .bipush 102, 2), (467, .iastore, 1), (468, .dup, 1), (469, .iconst 1, 1), (470, .bipush 105, 2), (472, .iastore, 1), (473, .dup, 1), (474, .iconst 2, 1), (475, .bipush 110, 2), (477, .iastore, 1), (478, .dup, 1), (479, .iconst 3, 1), (480, .bipush 101, 2), (482, .iastore, 1), (483, .dup, 1), (484, .iconst 4, 1), (485, .bipush 115, 2), (487, .iastore, 1), (488, .dup, 1), (489, .iconst 5, 1), (490, .bipush 32, 2), (492, .iastore, 1), (493, .dup, 1)]
theorem KX10_init_12 : DX10_init_12.all (fun q => decide (decode cX10_init q.1 = .ok (q.2.1, q.2.2))) = true := by decide +kernel
def DX10_init_13 : List (Nat × Instr × Nat) := [(494, .bipush 6, 2), (496, .bipush 32, 2), (498, .iastore, 1), (499, .dup, 1), (500, .bipush 7, 2), (502, .bipush 32, 2), (504, .iastore, 1), (505, .dup, 1), (506, .bipush 8, 2), (508, .bipush 97, 2), (510, .iastore, 1), (511, .dup, 1), (512, .bipush 9, 2), (514, .bipush 100, 2), (516, .iastore, 1), (517, .dup, 1), (518, .bipush 10, 2), (520, .bipush 109, 2), (522, .iastore, 1), (523, .dup, 1), (524, .bipush 11, 2), (526, .bipush 105, 2), (528, .iastore, 1), (529, .dup, 1), (530, .bipush 12, 2)]
theorem KX10_init_13 : DX10_init_13.all (fun q => decide (decode cX10_init q.1 = .ok (q.2.1, q.2.2))) = true := by decide +kernel
def DX10_init_14 : List (Nat × Instr × Nat) := [(532, .bipush 116, 2), (534, .iastore, 1), (535, .dup, 1), (536, .bipush 13, 2), (538, .bipush 115, 2), (540, .iastore, 1), (541, .dup, 1), (542, .bipush 14, 2), (544, .bipush 32, 2), (546, .iastore, 1), (547, .dup, 1), (548, .bipush 15, 2), (550, .bipush 32, 2), (552, .iastore, 1), (553, .dup, 1), (554, .bipush 16, 2), (556, .bipush 115, 2), (558, .iastore, 1), (559, .dup, 1), (560, .bipush 17, 2), (562, .bipush 108, 2), (564, .iastore, 1), (565, .dup, 1), (566, .bipush 18, 2), (568, .bipush 101, 2)]
theorem KX10_init_14 : DX10_init_14.all (fun q => decide (decode cX10_init q.1 = .ok (q.2.1, q.2.2))) = true := by decide +kernel
def DX10_init_15 : List (Nat × Instr × Nat) := [(570, .iastore, 1), (571, .dup, 1), (572, .bipush 19, 2), (574, .bipush 101, 2), (576, .iastore, 1), (577, .dup, 1), (578, .bipush 20, 2), (580, .bipush 112, 2), (582, .iastore, 1), (583, .dup, 1), (584, .bipush 21, 2), (586, .bipush 115, 2), (588, .iastore, 1), (589, .dup, 1), (590, .bipush 22, 2), (592, .bipush 32, 2), (594, .iastore, 1), (595, .dup, 1), (596, .bipush 23, 2), (598, .bipush 32, 2), (600, .iastore, 1), (601, .dup, 1), (602, .bipush 24, 2), (604, .bipush 99, 2), (606, .iastore, 1)]
theorem KX10_init_15 : DX10_init_15.all (fun q => decide (decode cX10_init q.1 = .ok (q.2.1, q.2.2))) = true := by decide +kernel
def DX10_init_16 : List (Nat × Instr × Nat) := [(607, .dup, 1), (608, .bipush 25, 2), (610, .bipush 111, 2), (612, .iastore, 1), (613, .dup, 1), (614, .bipush 26, 2), (616, .bipush 108, 2), (618, .iastore, 1), (619, .dup, 1), (620, .bipush 27, 2), (622, .bipush 117, 2), (624, .iastore, 1), (625, .dup, 1), (626, .bipush 28, 2), (628, .bipush 109, 2), (630, .iastore, 1), (631, .dup, 1), (632, .bipush 29, 2), (634, .bipush 110, 2), (636, .iastore, 1), (637, .dup, 1), (638, .bipush 30, 2), (640, .bipush 32, 2), (642, .iastore, 1), (643, .dup, 1)]
theorem KX10_init_16 : DX10_init_16.all (fun q => decide (decode cX10_init q.1 = .ok (q.2.1, q.2.2))) = true := by decide +kernel
def DX10_init_17 : List (Nat × Instr × Nat) := [(644, .bipush 31, 2), (646, .bipush 32, 2), (648, .iastore, 1), (649, .dup, 1), (650, .bipush 32, 2), (652, .bipush 114, 2), (654, .iastore, 1), (655, .dup, 1), (656, .bipush 33, 2), (658, .bipush 111, 2), (660, .iastore, 1), (661, .dup, 1), (662, .bipush 34, 2), (664, .bipush 119, 2), (666, .iastore, 1), (667, .dup, 1), (668, .bipush 35, 2), (670, .bipush 32, 2), (672, .iastore, 1), (673, .dup, 1), (674, .bipush 36, 2), (676, .bipush 32, 2), (678, .iastore, 1), (679, .dup, 1), (680, .bipush 37, 2)]
theorem KX10_init_17 : DX10_init_17.all (fun q => decide (decode cX10_init q.1 = .ok (q.2.1, q.2.2))) = true := by decide +kernel
def DX10_init_18 : List (Nat × Instr × Nat) := [(682, .bipush 32, 2), (684, .iastore, 1), (685, .dup, 1), (686, .bipush 38, 2), (688, .bipush 32, 2), (690, .iastore, 1), (691, .dup, 1), (692, .bipush 39, 2), (694, .bipush 32, 2), (696, .iastore, 1), (697, .dup, 1), (698, .bipush 40, 2), (700, .bipush 104, 2), (702, .iastore, 1), (703, .dup, 1), (704, .bipush 41, 2), (706, .bipush 111, 2), (708, .iastore, 1), (709, .dup, 1), (710, .bipush 42, 2), (712, .bipush 117, 2), (714, .iastore, 1), (715, .dup, 1), (716, .bipush 43, 2), (718, .bipush 114, 2)]
theorem KX10_init_18 : DX10_init_18.all (fun q => decide (decode cX10_init q.1 = .ok (q.2.1, q.2.2))) = true := by decide +kernel
def DX10_init_19 : List (Nat × Instr × Nat) := [(720, .iastore, 1), (721, .dup, 1), (722, .bipush 44, 2), (724, .bipush 32, 2), (726, .iastore, 1), (727, .dup, 1), (728, .bipush 45, 2), (730, .bipush 32, 2), (732, .iastore, 1), (733, .dup, 1), (734, .bipush 46, 2), (736, .bipush 32, 2), (738, .iastore, 1), (739, .dup, 1), (740, .bipush 47, 2), (742, .bipush 32, 2), (744, .iastore, 1), (745, .dup, 1), (746, .bipush 48, 2), (748, .bipush 103, 2), (750, .iastore, 1), (751, .dup, 1), (752, .bipush 49, 2), (754, .bipush 117, 2), (756, .iastore, 1)]
theorem KX10_init_19 : DX10_init_19.all (fun q => decide (decode cX10_init q.1 = .ok (q.2.1, q.2.2))) = true := by decide +kernel
def DX10_init_20 : List (Nat × Instr × Nat) := [(757, .dup, 1), (758, .bipush 50, 2), (760, .bipush 101, 2), (762, .iastore, 1), (763, .dup, 1), (764, .bipush 51, 2), (766, .bipush 115, 2), (768, .iastore, 1), (769, .dup, 1), (770, .bipush 52, 2), (772, .bipush 116, 2), (774, .iastore, 1), (775, .dup, 1), (776, .bipush 53, 2), (778, .bipush 115, 2), (780, .iastore, 1), (781, .dup, 1), (782, .bipush 54, 2), (784, .bipush 32, 2), (786, .iastore, 1), (787, .dup, 1), (788, .bipush 55, 2), (790, .bipush 32, 2), (792, .iastore, 1), (793, .dup, 1)]
theorem KX10_init_20 : DX10_init_20.all (fun q => decide (decode cX10_init q.1 = .ok (q.2.1, q.2.2))) = true := by decide +kernel
def DX10_init_21 : List (Nat × Instr × Nat) := [(794, .bipush 56, 2), (796, .bipush 115, 2), (798, .iastore, 1), (799, .dup, 1), (800, .bipush 57, 2), (802, .bipush 105, 2), (804, .iastore, 1), (805, .dup, 1), (806, .bipush 58, 2), (808, .bipush 122, 2), (810, .iastore, 1), (811, .dup, 1), (812, .bipush 59, 2), (814, .bipush 101, 2), (816, .iastore, 1), (817, .dup, 1), (818, .bipush 60, 2), (820, .bipush 32, 2), (822, .iastore, 1), (823, .dup, 1), (824, .bipush 61, 2), (826, .bipush 32, 2), (828, .iastore, 1), (829, .dup, 1), (830, .bipush 62, 2)]
theorem KX10_init_21 : DX10_init_21.all (fun q => decide (decode cX10_init q.1 = .ok (q.2.1, q.2.2))) = true := by decide +kernel
def DX10_init_22 : List (Nat × Instr × Nat) := [(832, .bipush 32, 2), (834, .iastore, 1), (835, .dup, 1), (836, .bipush 63, 2), (838, .bipush 32, 2), (840, .iastore, 1), (841, .dup, 1), (842, .bipush 64, 2), (844, .bipush 109, 2), (846, .iastore, 1), (847, .dup, 1), (848, .bipush 65, 2), (850, .bipush 111, 2), (852, .iastore, 1), (853, .dup, 1), (854, .bipush 66, 2), (856, .bipush 114, 2), (858, .iastore, 1), (859, .dup, 1), (860, .bipush 67, 2), (862, .bipush 101, 2), (864, .iastore, 1), (865, .dup, 1), (866, .bipush 68, 2), (868, .bipush 32, 2)]
theorem KX10_init_22 : DX10_init_22.all (fun q => decide (decode cX10_init q.1 = .ok (q.2.1, q.2.2))) = true := by decide +kernel
def DX10_init_23 : List (Nat × Instr × Nat) := [(870, .iastore, 1), (871, .dup, 1), (872, .bipush 69, 2), (874, .bipush 32, 2), (876, .iastore, 1), (877, .dup, 1), (878, .bipush 70, 2), (880, .bipush 32, 2), (882, .iastore, 1), (883, .dup, 1), (884, .bipush 71, 2), (886, .bipush 32, 2), (888, .iastore, 1), (889, .dup, 1), (890, .bipush 72, 2), (892, .bipush 111, 2), (894, .iastore, 1), (895, .dup, 1), (896, .bipush 73, 2), (898, .bipush 114, 2), (900, .iastore, 1), (901, .dup, 1), (902, .bipush 74, 2), (904, .bipush 32, 2), (906, .iastore, 1)]
theorem KX10_init_23 : DX10_init_23.all (fun q => decide (decode cX10_init q.1 = .ok (q.2.1, q.2.2))) = true := by decide +kernel
def DX10_init_24 : List (Nat × Instr × Nat) := [(907, .dup, 1), (908, .bipush 75, 2), (910, .bipush 32, 2), (912, .iastore, 1), (913, .dup, 1), (914, .bipush 76, 2), (916, .bipush 32, 2), (918, .iastore, 1), (919, .dup, 1), (920, .bipush 77, 2), (922, .bipush 32, 2), (924, .iastore, 1), (925, .dup, 1), (926, .bipush 78, 2), (928, .bipush 32, 2), (930, .iastore, 1), (931, .dup, 1), (932, .bipush 79, 2), (934, .bipush 32, 2), (936, .iastore, 1), (937, .dup, 1), (938, .bipush 80, 2), (940, .bipush 97, 2), (942, .iastore, 1), (943, .dup, 1)]
theorem KX10_init_24 : DX10_init_24.all (fun q => decide (decode cX10_init q.1 = .ok (q.2.1, q.2.2))) = true := by decide +kernel
def DX10_init_25 : List (Nat × Instr × Nat) := [(944, .bipush 81, 2), (946, .bipush 110, 2), (948, .iastore, 1), (949, .dup, 1), (950, .bipush 82, 2), (952, .bipush 100, 2), (954, .iastore, 1), (955, .dup, 1), (956, .bipush 83, 2), (958, .bipush 32, 2), (960, .iastore, 1), (961, .dup, 1), (962, .bipush 84, 2), (964, .bipush 32, 2), (966, .iastore, 1), (967, .dup, 1), (968, .bipush 85, 2), (970, .bipush 32, 2), (972, .iastore, 1), (973, .dup, 1), (974, .bipush 86, 2), (976, .bipush 32, 2), (978, .iastore, 1), (979, .dup, 1), (980, .bipush 87, 2)]
theorem KX10_init_25 : DX10_init_25.all (fun q => decide (decode cX10_init q.1 = .ok (q.2.1, q.2.2))) = true := by decide +kernel
def DX10_init_26 : List (Nat × Instr × Nat) := [(982, .bipush 32, 2), (984, .iastore, 1), (985, .dup, 1), (986, .bipush 88, 2), (988, .bipush 110, 2), (990, .iastore, 1), (991, .dup, 1), (992, .bipush 89, 2), (994, .bipush 111, 2), (996, .iastore, 1), (997, .dup, 1), (998, .bipush 90, 2), (1000, .bipush 116, 2), (1002, .iastore, 1), (1003, .dup, 1), (1004, .bipush 91, 2), (1006, .bipush 32, 2), (1008, .iastore, 1), (1009, .dup, 1), (1010, .bipush 92, 2), (1012, .bipush 32, 2), (1014, .iastore, 1), (1015, .dup, 1), (1016, .bipush 93, 2), (1018, .bipush 32, 2)]
theorem KX10_init_26 : DX10_init_26.all (fun q => decide (decode cX10_init q.1 = .ok (q.2.1, q.2.2))) = true := by decide +kernel
def DX10_init_27 : List (Nat × Instr × Nat) := [(1020, .iastore, 1), (1021, .dup, 1), (1022, .bipush 94, 2), (1024, .bipush 32, 2), (1026, .iastore, 1), (1027, .dup, 1), (1028, .bipush 95, 2), (1030, .bipush 32, 2), (1032, .iastore, 1), (1033, .putfield 50, 3), (1036, .aload_n 0, 1), (1037, .sipush 200, 3), (1040, .newarray .int, 2), (1042, .putfield 53, 3), (1045, .aload_n 0, 1), (1046, .sipush 200, 3), (1049, .newarray .int, 2), (1051, .putfield 56, 3), (1054, .aload_n 0, 1), (1055, .bipush 6, 2), (1057, .newarray .int, 2), (1059, .putfield 59, 3), (1062, .aload_n 0, 1), (1063, .bipush 36, 2), (1065, .newarray .int, 2)]
theorem KX10_init_27 : DX10_init_27.all (fun q => decide (decode cX10_init q.1 = .ok (q.2.1, q.2.2))) = true := by decide +kernel
def DX10_init_28 : List (Nat × Instr × Nat) := [(1067, .putfield 62, 3), (1070, .aload_n 0, 1), (1071, .bipush 36, 2), (1073, .newarray .int, 2), (1075, .putfield 65, 3), (1078, .aload_n 0, 1), (1079, .bipush 36, 2), (1081, .newarray .int, 2), (1083, .putfield 68, 3), (1086, .iconst 0, 1), (1087, .istore_n 1, 1), (1088, .iload_n 1, 1), (1089, .bipush 57, 2), (1091, .if_icmp .ge 21, 3), (1094, .aload_n 0, 1), (1095, .getfield 23, 3), (1098, .iload_n 1, 1), (1099, .aload_n 0, 1), (1100, .getfield 47, 3), (1103, .iload_n 1, 1), (1104, .iaload, 1), (1105, .iastore, 1), (1106, .iinc 1 1, 3), (1109, .goto (-21), 3), (1112, .aload_n 0, 1)]
theorem KX10_init_28 : DX10_init_28.all (fun q => decide (decode cX10_init q.1 = .ok (q.2.1, q.2.2))) = true := by decide +kernel
def DX10_init_29 : List (Nat × Instr × Nat) := [(1113, .bipush 57, 2), (1115, .putfield 71, 3), (1118, .aload_n 0, 1), (1119, .invokevirtual 74, 3), (1122, .pop, 1), (1123, .return_, 1)]
theorem KX10_init_29 : DX10_init_29.all (fun q => decide (decode cX10_init q.1 = .ok (q.2.1, q.2.2))) = true := by decide +kernel
end
section
def DL_law_0 : List (Nat × Instr × Nat) := [(0, .new 7, 3), (3, .dup, 1), (4, .invokespecial 9, 3), (7, .astore_n 1, 1), (8, .new 10, 3), (11, .dup, 1), (12, .invokespecial 12, 3), (15, .astore_n 2, 1), (16, .iconst 0, 1), (17, .istore_n 3, 1), (18, .iload_n 3, 1), (19, .aload_n 0, 1), (20, .arraylength, 1), (21, .bipush 7, 2), (23, .isub, 1), (24, .if_icmp .gt 1486, 3), (27, .aload_n 0, 1), (28, .iload_n 3, 1), (29, .iaload, 1), (30, .bipush 63, 2), (32, .iand, 1), (33, .tableswitch 1471 0 36 #[163, 186, 209, 284, 297, 320, 363, 396, 439, 472, 505, 529, 562, 585, 628, 661, 684, 717, 750, 773, 796, 830, 864, 897, 950, 1003, 1027, 1060, 1103, 1146, 1210, 1223, 1236, 1279, 1322, 1385, 1438], 163), (196, .aload_n 1, 1), (197, .aload_n 0, 1), (198, .iload_n 3, 1)]
theorem KL_law_0 : DL_law_0.all (fun q => decide (decode code q.1 = .ok (q.2.1, q.2.2))) = true := by decide +kernel
def DL_law_1 : List (Nat × Instr × Nat) := [(199, .iconst 1, 1), (200, .iadd, 1), (201, .iaload, 1), (202, .invokevirtual 13, 3), (205, .aload_n 2, 1), (206, .aload_n 0, 1), (207, .iload_n 3, 1), (208, .iconst 1, 1), (209, .iadd, 1), (210, .iaload, 1), (211, .invokevirtual 17, 3), (214, .if_icmp .eq 1290, 3), (217, .iconst 0, 1), (218, .ireturn, 1), (219, .aload_n 1, 1), (220, .aload_n 0, 1), (221, .iload_n 3, 1), (222, .iconst 1, 1), (223, .iadd, 1), (224, .iaload, 1), (225, .invokevirtual 18, 3), (228, .aload_n 2, 1), (229, .aload_n 0, 1), (230, .iload_n 3, 1), (231, .iconst 1, 1)]
theorem KL_law_1 : DL_law_1.all (fun q => decide (decode code q.1 = .ok (q.2.1, q.2.2))) = true := by decide +kernel
def DL_law_2 : List (Nat × Instr × Nat) := [(232, .iadd, 1), (233, .iaload, 1), (234, .invokevirtual 21, 3), (237, .if_icmp .eq 1267, 3), (240, .iconst 0, 1), (241, .ireturn, 1), (242, .aload_n 1, 1), (243, .aload_n 0, 1), (244, .iload_n 3, 1), (245, .iconst 1, 1), (246, .iadd, 1), (247, .iaload, 1), (248, .aload_n 0, 1), (249, .iload_n 3, 1), (250, .iconst 2, 1), (251, .iadd, 1), (252, .iaload, 1), (253, .aload_n 0, 1), (254, .iload_n 3, 1), (255, .iconst 3, 1), (256, .iadd, 1), (257, .iaload, 1), (258, .aload_n 0, 1), (259, .iload_n 3, 1), (260, .iconst 4, 1)]
theorem KL_law_2 : DL_law_2.all (fun q => decide (decode code q.1 = .ok (q.2.1, q.2.2))) = true := by decide +kernel
def DL_law_3 : List (Nat × Instr × Nat) := [(261, .iadd, 1), (262, .iaload, 1), (263, .aload_n 0, 1), (264, .iload_n 3, 1), (265, .iconst 5, 1), (266, .iadd, 1), (267, .iaload, 1), (268, .aload_n 0, 1), (269, .iload_n 3, 1), (270, .bipush 6, 2), (272, .iadd, 1), (273, .iaload, 1), (274, .invokevirtual 22, 3), (277, .aload_n 2, 1), (278, .aload_n 0, 1), (279, .iload_n 3, 1), (280, .iconst 1, 1), (281, .iadd, 1), (282, .iaload, 1), (283, .aload_n 0, 1), (284, .iload_n 3, 1), (285, .iconst 2, 1), (286, .iadd, 1), (287, .iaload, 1), (288, .aload_n 0, 1)]
theorem KL_law_3 : DL_law_3.all (fun q => decide (decode code q.1 = .ok (q.2.1, q.2.2))) = true := by decide +kernel
def DL_law_4 : List (Nat × Instr × Nat) := [(289, .iload_n 3, 1), (290, .iconst 3, 1), (291, .iadd, 1), (292, .iaload, 1), (293, .aload_n 0, 1), (294, .iload_n 3, 1), (295, .iconst 4, 1), (296, .iadd, 1), (297, .iaload, 1), (298, .aload_n 0, 1), (299, .iload_n 3, 1), (300, .iconst 5, 1), (301, .iadd, 1), (302, .iaload, 1), (303, .aload_n 0, 1), (304, .iload_n 3, 1), (305, .bipush 6, 2), (307, .iadd, 1), (308, .iaload, 1), (309, .invokevirtual 26, 3), (312, .if_icmp .eq 1192, 3), (315, .iconst 0, 1), (316, .ireturn, 1), (317, .aload_n 1, 1), (318, .invokevirtual 27, 3)]
theorem KL_law_4 : DL_law_4.all (fun q => decide (decode code q.1 = .ok (q.2.1, q.2.2))) = true := by decide +kernel
def DL_law_5 : List (Nat × Instr × Nat) := [(321, .aload_n 2, 1), (322, .invokevirtual 31, 3), (325, .if_icmp .eq 1179, 3), (328, .iconst 0, 1), (329, .ireturn, 1), (330, .aload_n 1, 1), (331, .aload_n 0, 1), (332, .iload_n 3, 1), (333, .iconst 1, 1), (334, .iadd, 1), (335, .iaload, 1), (336, .invokevirtual 32, 3), (339, .aload_n 2, 1), (340, .aload_n 0, 1), (341, .iload_n 3, 1), (342, .iconst 1, 1), (343, .iadd, 1), (344, .iaload, 1), (345, .invokevirtual 35, 3), (348, .if_icmp .eq 1156, 3), (351, .iconst 0, 1), (352, .ireturn, 1), (353, .aload_n 1, 1), (354, .aload_n 0, 1), (355, .iload_n 3, 1)]
theorem KL_law_5 : DL_law_5.all (fun q => decide (decode code q.1 = .ok (q.2.1, q.2.2))) = true := by decide +kernel
def DL_law_6 : List (Nat × Instr × Nat) := [(356, .iconst 1, 1), (357, .iadd, 1), (358, .iaload, 1), (359, .aload_n 0, 1), (360, .iload_n 3, 1), (361, .iconst 2, 1), (362, .iadd, 1), (363, .iaload, 1), (364, .aload_n 0, 1), (365, .iload_n 3, 1), (366, .iconst 3, 1), (367, .iadd, 1), (368, .iaload, 1), (369, .invokevirtual 36, 3), (372, .aload_n 2, 1), (373, .aload_n 0, 1), (374, .iload_n 3, 1), (375, .iconst 1, 1), (376, .iadd, 1), (377, .iaload, 1), (378, .aload_n 0, 1), (379, .iload_n 3, 1), (380, .iconst 2, 1), (381, .iadd, 1), (382, .iaload, 1)]
theorem KL_law_6 : DL_law_6.all (fun q => decide (decode code q.1 = .ok (q.2.1, q.2.2))) = true := by decide +kernel
def DL_law_7 : List (Nat × Instr × Nat) := [(383, .aload_n 0, 1), (384, .iload_n 3, 1), (385, .iconst 3, 1), (386, .iadd, 1), (387, .iaload, 1), (388, .invokevirtual 40, 3), (391, .if_icmp .eq 1113, 3), (394, .iconst 0, 1), (395, .ireturn, 1), (396, .aload_n 1, 1), (397, .aload_n 0, 1), (398, .iload_n 3, 1), (399, .iconst 1, 1), (400, .iadd, 1), (401, .iaload, 1), (402, .aload_n 0, 1), (403, .iload_n 3, 1), (404, .iconst 2, 1), (405, .iadd, 1), (406, .iaload, 1), (407, .invokevirtual 41, 3), (410, .aload_n 2, 1), (411, .aload_n 0, 1), (412, .iload_n 3, 1), (413, .iconst 1, 1)]
theorem KL_law_7 : DL_law_7.all (fun q => decide (decode code q.1 = .ok (q.2.1, q.2.2))) = true := by decide +kernel
def DL_law_8 : List (Nat × Instr × Nat) := [(414, .iadd, 1), (415, .iaload, 1), (416, .aload_n 0, 1), (417, .iload_n 3, 1), (418, .iconst 2, 1), (419, .iadd, 1), (420, .iaload, 1), (421, .invokevirtual 45, 3), (424, .if_icmp .eq 1080, 3), (427, .iconst 0, 1), (428, .ireturn, 1), (429, .aload_n 1, 1), (430, .aload_n 0, 1), (431, .iload_n 3, 1), (432, .iconst 1, 1), (433, .iadd, 1), (434, .iaload, 1), (435, .aload_n 0, 1), (436, .iload_n 3, 1), (437, .iconst 2, 1), (438, .iadd, 1), (439, .iaload, 1), (440, .aload_n 0, 1), (441, .iload_n 3, 1), (442, .iconst 3, 1)]
theorem KL_law_8 : DL_law_8.all (fun q => decide (decode code q.1 = .ok (q.2.1, q.2.2))) = true := by decide +kernel
def DL_law_9 : List (Nat × Instr × Nat) := [(443, .iadd, 1), (444, .iaload, 1), (445, .invokevirtual 46, 3), (448, .aload_n 2, 1), (449, .aload_n 0, 1), (450, .iload_n 3, 1), (451, .iconst 1, 1), (452, .iadd, 1), (453, .iaload, 1), (454, .aload_n 0, 1), (455, .iload_n 3, 1), (456, .iconst 2, 1), (457, .iadd, 1), (458, .iaload, 1), (459, .aload_n 0, 1), (460, .iload_n 3, 1), (461, .iconst 3, 1), (462, .iadd, 1), (463, .iaload, 1), (464, .invokevirtual 49, 3), (467, .if_icmp .eq 1037, 3), (470, .iconst 0, 1), (471, .ireturn, 1), (472, .aload_n 1, 1), (473, .aload_n 0, 1)]
theorem KL_law_9 : DL_law_9.all (fun q => decide (decode code q.1 = .ok (q.2.1, q.2.2))) = true := by decide +kernel
def DL_law_10 : List (Nat × Instr × Nat) := [(474, .iload_n 3, 1), (475, .iconst 1, 1), (476, .iadd, 1), (477, .iaload, 1), (478, .aload_n 0, 1), (479, .iload_n 3, 1), (480, .iconst 2, 1), (481, .iadd, 1), (482, .iaload, 1), (483, .invokevirtual 50, 3), (486, .aload_n 2, 1), (487, .aload_n 0, 1), (488, .iload_n 3, 1), (489, .iconst 1, 1), (490, .iadd, 1), (491, .iaload, 1), (492, .aload_n 0, 1), (493, .iload_n 3, 1), (494, .iconst 2, 1), (495, .iadd, 1), (496, .iaload, 1), (497, .invokevirtual 53, 3), (500, .if_icmp .eq 1004, 3), (503, .iconst 0, 1), (504, .ireturn, 1)]
theorem KL_law_10 : DL_law_10.all (fun q => decide (decode code q.1 = .ok (q.2.1, q.2.2))) = true := by decide +kernel
def DL_law_11 : List (Nat × Instr × Nat) := [(505, .aload_n 1, 1), (506, .aload_n 0, 1), (507, .iload_n 3, 1), (508, .iconst 1, 1), (509, .iadd, 1), (510, .iaload, 1), (511, .aload_n 0, 1), (512, .iload_n 3, 1), (513, .iconst 2, 1), (514, .iadd, 1), (515, .iaload, 1), (516, .invokevirtual 54, 3), (519, .aload_n 2, 1), (520, .aload_n 0, 1), (521, .iload_n 3, 1), (522, .iconst 1, 1), (523, .iadd, 1), (524, .iaload, 1), (525, .aload_n 0, 1), (526, .iload_n 3, 1), (527, .iconst 2, 1), (528, .iadd, 1), (529, .iaload, 1), (530, .invokevirtual 57, 3), (533, .if_icmp .eq 971, 3)]
theorem KL_law_11 : DL_law_11.all (fun q => decide (decode code q.1 = .ok (q.2.1, q.2.2))) = true := by decide +kernel
def DL_law_12 : List (Nat × Instr × Nat) := [(536, .iconst 0, 1), (537, .ireturn, 1), (538, .aload_n 1, 1), (539, .aload_n 0, 1), (540, .iload_n 3, 1), (541, .iconst 1, 1), (542, .iadd, 1), (543, .iaload, 1), (544, .invokevirtual 58, 3), (547, .aload_n 2, 1), (548, .aload_n 0, 1), (549, .iload_n 3, 1), (550, .iconst 1, 1), (551, .iadd, 1), (552, .iaload, 1), (553, .invokevirtual 62, 3), (556, .lcmp, 1), (557, .ifCond .eq 947, 3), (560, .iconst 0, 1), (561, .ireturn, 1), (562, .aload_n 1, 1), (563, .aload_n 0, 1), (564, .iload_n 3, 1), (565, .iconst 1, 1), (566, .iadd, 1)]
theorem KL_law_12 : DL_law_12.all (fun q => decide (decode code q.1 = .ok (q.2.1, q.2.2))) = true := by decide +kernel
def DL_law_13 : List (Nat × Instr × Nat) := [(567, .iaload, 1), (568, .aload_n 0, 1), (569, .iload_n 3, 1), (570, .iconst 2, 1), (571, .iadd, 1), (572, .iaload, 1), (573, .invokevirtual 63, 3), (576, .aload_n 2, 1), (577, .aload_n 0, 1), (578, .iload_n 3, 1), (579, .iconst 1, 1), (580, .iadd, 1), (581, .iaload, 1), (582, .aload_n 0, 1), (583, .iload_n 3, 1), (584, .iconst 2, 1), (585, .iadd, 1), (586, .iaload, 1), (587, .invokevirtual 66, 3), (590, .if_icmp .eq 914, 3), (593, .iconst 0, 1), (594, .ireturn, 1), (595, .aload_n 1, 1), (596, .aload_n 0, 1), (597, .iload_n 3, 1)]
theorem KL_law_13 : DL_law_13.all (fun q => decide (decode code q.1 = .ok (q.2.1, q.2.2))) = true := by decide +kernel
def DL_law_14 : List (Nat × Instr × Nat) := [(598, .iconst 1, 1), (599, .iadd, 1), (600, .iaload, 1), (601, .invokevirtual 67, 3), (604, .aload_n 2, 1), (605, .aload_n 0, 1), (606, .iload_n 3, 1), (607, .iconst 1, 1), (608, .iadd, 1), (609, .iaload, 1), (610, .invokevirtual 70, 3), (613, .if_icmp .eq 891, 3), (616, .iconst 0, 1), (617, .ireturn, 1), (618, .aload_n 1, 1), (619, .aload_n 0, 1), (620, .iload_n 3, 1), (621, .iconst 1, 1), (622, .iadd, 1), (623, .iaload, 1), (624, .aload_n 0, 1), (625, .iload_n 3, 1), (626, .iconst 2, 1), (627, .iadd, 1), (628, .iaload, 1)]
theorem KL_law_14 : DL_law_14.all (fun q => decide (decode code q.1 = .ok (q.2.1, q.2.2))) = true := by decide +kernel
def DL_law_15 : List (Nat × Instr × Nat) := [(629, .aload_n 0, 1), (630, .iload_n 3, 1), (631, .iconst 3, 1), (632, .iadd, 1), (633, .iaload, 1), (634, .invokevirtual 71, 3), (637, .aload_n 2, 1), (638, .aload_n 0, 1), (639, .iload_n 3, 1), (640, .iconst 1, 1), (641, .iadd, 1), (642, .iaload, 1), (643, .aload_n 0, 1), (644, .iload_n 3, 1), (645, .iconst 2, 1), (646, .iadd, 1), (647, .iaload, 1), (648, .aload_n 0, 1), (649, .iload_n 3, 1), (650, .iconst 3, 1), (651, .iadd, 1), (652, .iaload, 1), (653, .invokevirtual 74, 3), (656, .if_icmp .eq 848, 3), (659, .iconst 0, 1)]
theorem KL_law_15 : DL_law_15.all (fun q => decide (decode code q.1 = .ok (q.2.1, q.2.2))) = true := by decide +kernel
def DL_law_16 : List (Nat × Instr × Nat) := [(660, .ireturn, 1), (661, .aload_n 1, 1), (662, .aload_n 0, 1), (663, .iload_n 3, 1), (664, .iconst 1, 1), (665, .iadd, 1), (666, .iaload, 1), (667, .aload_n 0, 1), (668, .iload_n 3, 1), (669, .iconst 2, 1), (670, .iadd, 1), (671, .iaload, 1), (672, .invokevirtual 75, 3), (675, .aload_n 2, 1), (676, .aload_n 0, 1), (677, .iload_n 3, 1), (678, .iconst 1, 1), (679, .iadd, 1), (680, .iaload, 1), (681, .aload_n 0, 1), (682, .iload_n 3, 1), (683, .iconst 2, 1), (684, .iadd, 1), (685, .iaload, 1), (686, .invokevirtual 78, 3)]
theorem KL_law_16 : DL_law_16.all (fun q => decide (decode code q.1 = .ok (q.2.1, q.2.2))) = true := by decide +kernel
def DL_law_17 : List (Nat × Instr × Nat) := [(689, .if_icmp .eq 815, 3), (692, .iconst 0, 1), (693, .ireturn, 1), (694, .aload_n 1, 1), (695, .aload_n 0, 1), (696, .iload_n 3, 1), (697, .iconst 1, 1), (698, .iadd, 1), (699, .iaload, 1), (700, .invokevirtual 79, 3), (703, .aload_n 2, 1), (704, .aload_n 0, 1), (705, .iload_n 3, 1), (706, .iconst 1, 1), (707, .iadd, 1), (708, .iaload, 1), (709, .invokevirtual 82, 3), (712, .if_icmp .eq 792, 3), (715, .iconst 0, 1), (716, .ireturn, 1), (717, .aload_n 1, 1), (718, .aload_n 0, 1), (719, .iload_n 3, 1), (720, .iconst 1, 1), (721, .iadd, 1)]
theorem KL_law_17 : DL_law_17.all (fun q => decide (decode code q.1 = .ok (q.2.1, q.2.2))) = true := by decide +kernel
def DL_law_18 : List (Nat × Instr × Nat) := [(722, .iaload, 1), (723, .aload_n 0, 1), (724, .iload_n 3, 1), (725, .iconst 2, 1), (726, .iadd, 1), (727, .iaload, 1), (728, .invokevirtual 83, 3), (731, .aload_n 2, 1), (732, .aload_n 0, 1), (733, .iload_n 3, 1), (734, .iconst 1, 1), (735, .iadd, 1), (736, .iaload, 1), (737, .aload_n 0, 1), (738, .iload_n 3, 1), (739, .iconst 2, 1), (740, .iadd, 1), (741, .iaload, 1), (742, .invokevirtual 86, 3), (745, .if_icmp .eq 759, 3), (748, .iconst 0, 1), (749, .ireturn, 1), (750, .aload_n 1, 1), (751, .aload_n 0, 1), (752, .iload_n 3, 1)]
theorem KL_law_18 : DL_law_18.all (fun q => decide (decode code q.1 = .ok (q.2.1, q.2.2))) = true := by decide +kernel
def DL_law_19 : List (Nat × Instr × Nat) := [(753, .iconst 1, 1), (754, .iadd, 1), (755, .iaload, 1), (756, .aload_n 0, 1), (757, .iload_n 3, 1), (758, .iconst 2, 1), (759, .iadd, 1), (760, .iaload, 1), (761, .invokevirtual 87, 3), (764, .aload_n 2, 1), (765, .aload_n 0, 1), (766, .iload_n 3, 1), (767, .iconst 1, 1), (768, .iadd, 1), (769, .iaload, 1), (770, .aload_n 0, 1), (771, .iload_n 3, 1), (772, .iconst 2, 1), (773, .iadd, 1), (774, .iaload, 1), (775, .invokevirtual 90, 3), (778, .if_icmp .eq 726, 3), (781, .iconst 0, 1), (782, .ireturn, 1), (783, .aload_n 1, 1)]
theorem KL_law_19 : DL_law_19.all (fun q => decide (decode code q.1 = .ok (q.2.1, q.2.2))) = true := by decide +kernel
def DL_law_20 : List (Nat × Instr × Nat) := [(784, .aload_n 0, 1), (785, .iload_n 3, 1), (786, .iconst 1, 1), (787, .iadd, 1), (788, .iaload, 1), (789, .invokevirtual 91, 3), (792, .aload_n 2, 1), (793, .aload_n 0, 1), (794, .iload_n 3, 1), (795, .iconst 1, 1), (796, .iadd, 1), (797, .iaload, 1), (798, .invokevirtual 94, 3), (801, .if_icmp .eq 703, 3), (804, .iconst 0, 1), (805, .ireturn, 1), (806, .aload_n 1, 1), (807, .aload_n 0, 1), (808, .iload_n 3, 1), (809, .iconst 1, 1), (810, .iadd, 1), (811, .iaload, 1), (812, .invokevirtual 95, 3), (815, .aload_n 2, 1), (816, .aload_n 0, 1)]
theorem KL_law_20 : DL_law_20.all (fun q => decide (decode code q.1 = .ok (q.2.1, q.2.2))) = true := by decide +kernel
def DL_law_21 : List (Nat × Instr × Nat) := [(817, .iload_n 3, 1), (818, .iconst 1, 1), (819, .iadd, 1), (820, .iaload, 1), (821, .invokevirtual 98, 3), (824, .if_icmp .eq 680, 3), (827, .iconst 0, 1), (828, .ireturn, 1), (829, .aload_n 1, 1), (830, .aload_n 0, 1), (831, .iload_n 3, 1), (832, .iconst 1, 1), (833, .iadd, 1), (834, .iaload, 1), (835, .aload_n 0, 1), (836, .iload_n 3, 1), (837, .iconst 2, 1), (838, .iadd, 1), (839, .iaload, 1), (840, .invokevirtual 99, 3), (843, .aload_n 2, 1), (844, .aload_n 0, 1), (845, .iload_n 3, 1), (846, .iconst 1, 1), (847, .iadd, 1)]
theorem KL_law_21 : DL_law_21.all (fun q => decide (decode code q.1 = .ok (q.2.1, q.2.2))) = true := by decide +kernel
def DL_law_22 : List (Nat × Instr × Nat) := [(848, .iaload, 1), (849, .aload_n 0, 1), (850, .iload_n 3, 1), (851, .iconst 2, 1), (852, .iadd, 1), (853, .iaload, 1), (854, .invokevirtual 103, 3), (857, .lcmp, 1), (858, .ifCond .eq 646, 3), (861, .iconst 0, 1), (862, .ireturn, 1), (863, .aload_n 1, 1), (864, .aload_n 0, 1), (865, .iload_n 3, 1), (866, .iconst 1, 1), (867, .iadd, 1), (868, .iaload, 1), (869, .aload_n 0, 1), (870, .iload_n 3, 1), (871, .iconst 2, 1), (872, .iadd, 1), (873, .iaload, 1), (874, .invokevirtual 104, 3), (877, .aload_n 2, 1), (878, .aload_n 0, 1)]
theorem KL_law_22 : DL_law_22.all (fun q => decide (decode code q.1 = .ok (q.2.1, q.2.2))) = true := by decide +kernel
def DL_law_23 : List (Nat × Instr × Nat) := [(879, .iload_n 3, 1), (880, .iconst 1, 1), (881, .iadd, 1), (882, .iaload, 1), (883, .aload_n 0, 1), (884, .iload_n 3, 1), (885, .iconst 2, 1), (886, .iadd, 1), (887, .iaload, 1), (888, .invokevirtual 107, 3), (891, .lcmp, 1), (892, .ifCond .eq 612, 3), (895, .iconst 0, 1), (896, .ireturn, 1), (897, .aload_n 1, 1), (898, .aload_n 0, 1), (899, .iload_n 3, 1), (900, .iconst 1, 1), (901, .iadd, 1), (902, .iaload, 1), (903, .aload_n 0, 1), (904, .iload_n 3, 1), (905, .iconst 2, 1), (906, .iadd, 1), (907, .iaload, 1)]
theorem KL_law_23 : DL_law_23.all (fun q => decide (decode code q.1 = .ok (q.2.1, q.2.2))) = true := by decide +kernel
def DL_law_24 : List (Nat × Instr × Nat) := [(908, .invokevirtual 108, 3), (911, .aload_n 2, 1), (912, .aload_n 0, 1), (913, .iload_n 3, 1), (914, .iconst 1, 1), (915, .iadd, 1), (916, .iaload, 1), (917, .aload_n 0, 1), (918, .iload_n 3, 1), (919, .iconst 2, 1), (920, .iadd, 1), (921, .iaload, 1), (922, .invokevirtual 111, 3), (925, .if_icmp .eq 579, 3), (928, .iconst 0, 1), (929, .ireturn, 1), (930, .aload_n 1, 1), (931, .aload_n 0, 1), (932, .iload_n 3, 1), (933, .iconst 1, 1), (934, .iadd, 1), (935, .iaload, 1), (936, .aload_n 0, 1), (937, .iload_n 3, 1), (938, .iconst 2, 1)]
theorem KL_law_24 : DL_law_24.all (fun q => decide (decode code q.1 = .ok (q.2.1, q.2.2))) = true := by decide +kernel
def DL_law_25 : List (Nat × Instr × Nat) := [(939, .iadd, 1), (940, .iaload, 1), (941, .aload_n 0, 1), (942, .iload_n 3, 1), (943, .iconst 3, 1), (944, .iadd, 1), (945, .iaload, 1), (946, .aload_n 0, 1), (947, .iload_n 3, 1), (948, .iconst 4, 1), (949, .iadd, 1), (950, .iaload, 1), (951, .invokevirtual 112, 3), (954, .aload_n 2, 1), (955, .aload_n 0, 1), (956, .iload_n 3, 1), (957, .iconst 1, 1), (958, .iadd, 1), (959, .iaload, 1), (960, .aload_n 0, 1), (961, .iload_n 3, 1), (962, .iconst 2, 1), (963, .iadd, 1), (964, .iaload, 1), (965, .aload_n 0, 1)]
theorem KL_law_25 : DL_law_25.all (fun q => decide (decode code q.1 = .ok (q.2.1, q.2.2))) = true := by decide +kernel
def DL_law_26 : List (Nat × Instr × Nat) := [(966, .iload_n 3, 1), (967, .iconst 3, 1), (968, .iadd, 1), (969, .iaload, 1), (970, .aload_n 0, 1), (971, .iload_n 3, 1), (972, .iconst 4, 1), (973, .iadd, 1), (974, .iaload, 1), (975, .invokevirtual 116, 3), (978, .if_icmp .eq 526, 3), (981, .iconst 0, 1), (982, .ireturn, 1), (983, .aload_n 1, 1), (984, .aload_n 0, 1), (985, .iload_n 3, 1), (986, .iconst 1, 1), (987, .iadd, 1), (988, .iaload, 1), (989, .aload_n 0, 1), (990, .iload_n 3, 1), (991, .iconst 2, 1), (992, .iadd, 1), (993, .iaload, 1), (994, .aload_n 0, 1)]
theorem KL_law_26 : DL_law_26.all (fun q => decide (decode code q.1 = .ok (q.2.1, q.2.2))) = true := by decide +kernel
def DL_law_27 : List (Nat × Instr × Nat) := [(995, .iload_n 3, 1), (996, .iconst 3, 1), (997, .iadd, 1), (998, .iaload, 1), (999, .aload_n 0, 1), (1000, .iload_n 3, 1), (1001, .iconst 4, 1), (1002, .iadd, 1), (1003, .iaload, 1), (1004, .invokevirtual 117, 3), (1007, .aload_n 2, 1), (1008, .aload_n 0, 1), (1009, .iload_n 3, 1), (1010, .iconst 1, 1), (1011, .iadd, 1), (1012, .iaload, 1), (1013, .aload_n 0, 1), (1014, .iload_n 3, 1), (1015, .iconst 2, 1), (1016, .iadd, 1), (1017, .iaload, 1), (1018, .aload_n 0, 1), (1019, .iload_n 3, 1), (1020, .iconst 3, 1), (1021, .iadd, 1)]
theorem KL_law_27 : DL_law_27.all (fun q => decide (decode code q.1 = .ok (q.2.1, q.2.2))) = true := by decide +kernel
def DL_law_28 : List (Nat × Instr × Nat) := [(1022, .iaload, 1), (1023, .aload_n 0, 1), (1024, .iload_n 3, 1), (1025, .iconst 4, 1), (1026, .iadd, 1), (1027, .iaload, 1), (1028, .invokevirtual 120, 3), (1031, .if_icmp .eq 473, 3), (1034, .iconst 0, 1), (1035, .ireturn, 1), (1036, .aload_n 1, 1), (1037, .aload_n 0, 1), (1038, .iload_n 3, 1), (1039, .iconst 1, 1), (1040, .iadd, 1), (1041, .iaload, 1), (1042, .invokevirtual 121, 3), (1045, .aload_n 2, 1), (1046, .aload_n 0, 1), (1047, .iload_n 3, 1), (1048, .iconst 1, 1), (1049, .iadd, 1), (1050, .iaload, 1), (1051, .invokevirtual 124, 3), (1054, .lcmp, 1)]
theorem KL_law_28 : DL_law_28.all (fun q => decide (decode code q.1 = .ok (q.2.1, q.2.2))) = true := by decide +kernel
def DL_law_29 : List (Nat × Instr × Nat) := [(1055, .ifCond .eq 449, 3), (1058, .iconst 0, 1), (1059, .ireturn, 1), (1060, .aload_n 1, 1), (1061, .aload_n 0, 1), (1062, .iload_n 3, 1), (1063, .iconst 1, 1), (1064, .iadd, 1), (1065, .iaload, 1), (1066, .aload_n 0, 1), (1067, .iload_n 3, 1), (1068, .iconst 2, 1), (1069, .iadd, 1), (1070, .iaload, 1), (1071, .invokevirtual 125, 3), (1074, .aload_n 2, 1), (1075, .aload_n 0, 1), (1076, .iload_n 3, 1), (1077, .iconst 1, 1), (1078, .iadd, 1), (1079, .iaload, 1), (1080, .aload_n 0, 1), (1081, .iload_n 3, 1), (1082, .iconst 2, 1), (1083, .iadd, 1)]
theorem KL_law_29 : DL_law_29.all (fun q => decide (decode code q.1 = .ok (q.2.1, q.2.2))) = true := by decide +kernel
def DL_law_30 : List (Nat × Instr × Nat) := [(1084, .iaload, 1), (1085, .invokevirtual 128, 3), (1088, .if_icmp .eq 416, 3), (1091, .iconst 0, 1), (1092, .ireturn, 1), (1093, .aload_n 1, 1), (1094, .aload_n 0, 1), (1095, .iload_n 3, 1), (1096, .iconst 1, 1), (1097, .iadd, 1), (1098, .iaload, 1), (1099, .aload_n 0, 1), (1100, .iload_n 3, 1), (1101, .iconst 2, 1), (1102, .iadd, 1), (1103, .iaload, 1), (1104, .aload_n 0, 1), (1105, .iload_n 3, 1), (1106, .iconst 3, 1), (1107, .iadd, 1), (1108, .iaload, 1), (1109, .invokevirtual 129, 3), (1112, .aload_n 2, 1), (1113, .aload_n 0, 1), (1114, .iload_n 3, 1)]
theorem KL_law_30 : DL_law_30.all (fun q => decide (decode code q.1 = .ok (q.2.1, q.2.2))) = true := by decide +kernel
def DL_law_31 : List (Nat × Instr × Nat) := [(1115, .iconst 1, 1), (1116, .iadd, 1), (1117, .iaload, 1), (1118, .aload_n 0, 1), (1119, .iload_n 3, 1), (1120, .iconst 2, 1), (1121, .iadd, 1), (1122, .iaload, 1), (1123, .aload_n 0, 1), (1124, .iload_n 3, 1), (1125, .iconst 3, 1), (1126, .iadd, 1), (1127, .iaload, 1), (1128, .invokevirtual 132, 3), (1131, .if_icmp .eq 373, 3), (1134, .iconst 0, 1), (1135, .ireturn, 1), (1136, .aload_n 1, 1), (1137, .aload_n 0, 1), (1138, .iload_n 3, 1), (1139, .iconst 1, 1), (1140, .iadd, 1), (1141, .iaload, 1), (1142, .aload_n 0, 1), (1143, .iload_n 3, 1)]
theorem KL_law_31 : DL_law_31.all (fun q => decide (decode code q.1 = .ok (q.2.1, q.2.2))) = true := by decide +kernel
def DL_law_32 : List (Nat × Instr × Nat) := [(1144, .iconst 2, 1), (1145, .iadd, 1), (1146, .iaload, 1), (1147, .aload_n 0, 1), (1148, .iload_n 3, 1), (1149, .iconst 3, 1), (1150, .iadd, 1), (1151, .iaload, 1), (1152, .invokevirtual 133, 3), (1155, .aload_n 2, 1), (1156, .aload_n 0, 1), (1157, .iload_n 3, 1), (1158, .iconst 1, 1), (1159, .iadd, 1), (1160, .iaload, 1), (1161, .aload_n 0, 1), (1162, .iload_n 3, 1), (1163, .iconst 2, 1), (1164, .iadd, 1), (1165, .iaload, 1), (1166, .aload_n 0, 1), (1167, .iload_n 3, 1), (1168, .iconst 3, 1), (1169, .iadd, 1), (1170, .iaload, 1)]
theorem KL_law_32 : DL_law_32.all (fun q => decide (decode code q.1 = .ok (q.2.1, q.2.2))) = true := by decide +kernel
def DL_law_33 : List (Nat × Instr × Nat) := [(1171, .invokevirtual 136, 3), (1174, .if_icmp .eq 330, 3), (1177, .iconst 0, 1), (1178, .ireturn, 1), (1179, .aload_n 1, 1), (1180, .aload_n 0, 1), (1181, .iload_n 3, 1), (1182, .iconst 1, 1), (1183, .iadd, 1), (1184, .iaload, 1), (1185, .aload_n 0, 1), (1186, .iload_n 3, 1), (1187, .iconst 2, 1), (1188, .iadd, 1), (1189, .iaload, 1), (1190, .aload_n 0, 1), (1191, .iload_n 3, 1), (1192, .iconst 3, 1), (1193, .iadd, 1), (1194, .iaload, 1), (1195, .aload_n 0, 1), (1196, .iload_n 3, 1), (1197, .iconst 4, 1), (1198, .iadd, 1), (1199, .iaload, 1)]
theorem KL_law_33 : DL_law_33.all (fun q => decide (decode code q.1 = .ok (q.2.1, q.2.2))) = true := by decide +kernel
def DL_law_34 : List (Nat × Instr × Nat) := [(1200, .aload_n 0, 1), (1201, .iload_n 3, 1), (1202, .iconst 5, 1), (1203, .iadd, 1), (1204, .iaload, 1), (1205, .invokevirtual 137, 3), (1208, .aload_n 2, 1), (1209, .aload_n 0, 1), (1210, .iload_n 3, 1), (1211, .iconst 1, 1), (1212, .iadd, 1), (1213, .iaload, 1), (1214, .aload_n 0, 1), (1215, .iload_n 3, 1), (1216, .iconst 2, 1), (1217, .iadd, 1), (1218, .iaload, 1), (1219, .aload_n 0, 1), (1220, .iload_n 3, 1), (1221, .iconst 3, 1), (1222, .iadd, 1), (1223, .iaload, 1), (1224, .aload_n 0, 1), (1225, .iload_n 3, 1), (1226, .iconst 4, 1)]
theorem KL_law_34 : DL_law_34.all (fun q => decide (decode code q.1 = .ok (q.2.1, q.2.2))) = true := by decide +kernel
def DL_law_35 : List (Nat × Instr × Nat) := [(1227, .iadd, 1), (1228, .iaload, 1), (1229, .aload_n 0, 1), (1230, .iload_n 3, 1), (1231, .iconst 5, 1), (1232, .iadd, 1), (1233, .iaload, 1), (1234, .invokevirtual 141, 3), (1237, .lcmp, 1), (1238, .ifCond .eq 266, 3), (1241, .iconst 0, 1), (1242, .ireturn, 1), (1243, .aload_n 1, 1), (1244, .invokevirtual 142, 3), (1247, .aload_n 2, 1), (1248, .invokevirtual 145, 3), (1251, .if_icmp .eq 253, 3), (1254, .iconst 0, 1), (1255, .ireturn, 1), (1256, .aload_n 1, 1), (1257, .invokevirtual 146, 3), (1260, .aload_n 2, 1), (1261, .invokevirtual 149, 3), (1264, .if_icmp .eq 240, 3), (1267, .iconst 0, 1)]
theorem KL_law_35 : DL_law_35.all (fun q => decide (decode code q.1 = .ok (q.2.1, q.2.2))) = true := by decide +kernel
def DL_law_36 : List (Nat × Instr × Nat) := [(1268, .ireturn, 1), (1269, .aload_n 1, 1), (1270, .aload_n 0, 1), (1271, .iload_n 3, 1), (1272, .iconst 1, 1), (1273, .iadd, 1), (1274, .iaload, 1), (1275, .aload_n 0, 1), (1276, .iload_n 3, 1), (1277, .iconst 2, 1), (1278, .iadd, 1), (1279, .iaload, 1), (1280, .aload_n 0, 1), (1281, .iload_n 3, 1), (1282, .iconst 3, 1), (1283, .iadd, 1), (1284, .iaload, 1), (1285, .invokevirtual 150, 3), (1288, .aload_n 2, 1), (1289, .aload_n 0, 1), (1290, .iload_n 3, 1), (1291, .iconst 1, 1), (1292, .iadd, 1), (1293, .iaload, 1), (1294, .aload_n 0, 1)]
theorem KL_law_36 : DL_law_36.all (fun q => decide (decode code q.1 = .ok (q.2.1, q.2.2))) = true := by decide +kernel
def DL_law_37 : List (Nat × Instr × Nat) := [(1295, .iload_n 3, 1), (1296, .iconst 2, 1), (1297, .iadd, 1), (1298, .iaload, 1), (1299, .aload_n 0, 1), (1300, .iload_n 3, 1), (1301, .iconst 3, 1), (1302, .iadd, 1), (1303, .iaload, 1), (1304, .invokevirtual 153, 3), (1307, .if_icmp .eq 197, 3), (1310, .iconst 0, 1), (1311, .ireturn, 1), (1312, .aload_n 1, 1), (1313, .aload_n 0, 1), (1314, .iload_n 3, 1), (1315, .iconst 1, 1), (1316, .iadd, 1), (1317, .iaload, 1), (1318, .aload_n 0, 1), (1319, .iload_n 3, 1), (1320, .iconst 2, 1), (1321, .iadd, 1), (1322, .iaload, 1), (1323, .aload_n 0, 1)]
theorem KL_law_37 : DL_law_37.all (fun q => decide (decode code q.1 = .ok (q.2.1, q.2.2))) = true := by decide +kernel
def DL_law_38 : List (Nat × Instr × Nat) := [(1324, .iload_n 3, 1), (1325, .iconst 3, 1), (1326, .iadd, 1), (1327, .iaload, 1), (1328, .invokevirtual 154, 3), (1331, .aload_n 2, 1), (1332, .aload_n 0, 1), (1333, .iload_n 3, 1), (1334, .iconst 1, 1), (1335, .iadd, 1), (1336, .iaload, 1), (1337, .aload_n 0, 1), (1338, .iload_n 3, 1), (1339, .iconst 2, 1), (1340, .iadd, 1), (1341, .iaload, 1), (1342, .aload_n 0, 1), (1343, .iload_n 3, 1), (1344, .iconst 3, 1), (1345, .iadd, 1), (1346, .iaload, 1), (1347, .invokevirtual 157, 3), (1350, .if_icmp .eq 154, 3), (1353, .iconst 0, 1), (1354, .ireturn, 1)]
theorem KL_law_38 : DL_law_38.all (fun q => decide (decode code q.1 = .ok (q.2.1, q.2.2))) = true := by decide +kernel
def DL_law_39 : List (Nat × Instr × Nat) := [(1355, .aload_n 1, 1), (1356, .aload_n 0, 1), (1357, .iload_n 3, 1), (1358, .iconst 1, 1), (1359, .iadd, 1), (1360, .iaload, 1), (1361, .aload_n 0, 1), (1362, .iload_n 3, 1), (1363, .iconst 2, 1), (1364, .iadd, 1), (1365, .iaload, 1), (1366, .aload_n 0, 1), (1367, .iload_n 3, 1), (1368, .iconst 3, 1), (1369, .iadd, 1), (1370, .iaload, 1), (1371, .aload_n 0, 1), (1372, .iload_n 3, 1), (1373, .iconst 4, 1), (1374, .iadd, 1), (1375, .iaload, 1), (1376, .aload_n 0, 1), (1377, .iload_n 3, 1), (1378, .iconst 5, 1), (1379, .iadd, 1)]
theorem KL_law_39 : DL_law_39.all (fun q => decide (decode code q.1 = .ok (q.2.1, q.2.2))) = true := by decide +kernel
def DL_law_40 : List (Nat × Instr × Nat) := [(1380, .iaload, 1), (1381, .invokevirtual 158, 3), (1384, .aload_n 2, 1), (1385, .aload_n 0, 1), (1386, .iload_n 3, 1), (1387, .iconst 1, 1), (1388, .iadd, 1), (1389, .iaload, 1), (1390, .aload_n 0, 1), (1391, .iload_n 3, 1), (1392, .iconst 2, 1), (1393, .iadd, 1), (1394, .iaload, 1), (1395, .aload_n 0, 1), (1396, .iload_n 3, 1), (1397, .iconst 3, 1), (1398, .iadd, 1), (1399, .iaload, 1), (1400, .aload_n 0, 1), (1401, .iload_n 3, 1), (1402, .iconst 4, 1), (1403, .iadd, 1), (1404, .iaload, 1), (1405, .aload_n 0, 1), (1406, .iload_n 3, 1)]
theorem KL_law_40 : DL_law_40.all (fun q => decide (decode code q.1 = .ok (q.2.1, q.2.2))) = true := by decide +kernel
def DL_law_41 : List (Nat × Instr × Nat) := [(1407, .iconst 5, 1), (1408, .iadd, 1), (1409, .iaload, 1), (1410, .invokevirtual 162, 3), (1413, .if_icmp .eq 91, 3), (1416, .iconst 0, 1), (1417, .ireturn, 1), (1418, .aload_n 1, 1), (1419, .aload_n 0, 1), (1420, .iload_n 3, 1), (1421, .iconst 1, 1), (1422, .iadd, 1), (1423, .iaload, 1), (1424, .aload_n 0, 1), (1425, .iload_n 3, 1), (1426, .iconst 2, 1), (1427, .iadd, 1), (1428, .iaload, 1), (1429, .aload_n 0, 1), (1430, .iload_n 3, 1), (1431, .iconst 3, 1), (1432, .iadd, 1), (1433, .iaload, 1), (1434, .aload_n 0, 1), (1435, .iload_n 3, 1)]
theorem KL_law_41 : DL_law_41.all (fun q => decide (decode code q.1 = .ok (q.2.1, q.2.2))) = true := by decide +kernel
def DL_law_42 : List (Nat × Instr × Nat) := [(1436, .iconst 4, 1), (1437, .iadd, 1), (1438, .iaload, 1), (1439, .invokevirtual 163, 3), (1442, .aload_n 2, 1), (1443, .aload_n 0, 1), (1444, .iload_n 3, 1), (1445, .iconst 1, 1), (1446, .iadd, 1), (1447, .iaload, 1), (1448, .aload_n 0, 1), (1449, .iload_n 3, 1), (1450, .iconst 2, 1), (1451, .iadd, 1), (1452, .iaload, 1), (1453, .aload_n 0, 1), (1454, .iload_n 3, 1), (1455, .iconst 3, 1), (1456, .iadd, 1), (1457, .iaload, 1), (1458, .aload_n 0, 1), (1459, .iload_n 3, 1), (1460, .iconst 4, 1), (1461, .iadd, 1), (1462, .iaload, 1)]
theorem KL_law_42 : DL_law_42.all (fun q => decide (decode code q.1 = .ok (q.2.1, q.2.2))) = true := by decide +kernel
def DL_law_43 : List (Nat × Instr × Nat) := [(1463, .invokevirtual 166, 3), (1466, .if_icmp .eq 38, 3), (1469, .iconst 0, 1), (1470, .ireturn, 1), (1471, .aload_n 1, 1), (1472, .aload_n 0, 1), (1473, .iload_n 3, 1), (1474, .iconst 1, 1), (1475, .iadd, 1), (1476, .iaload, 1), (1477, .aload_n 0, 1), (1478, .iload_n 3, 1), (1479, .iconst 2, 1), (1480, .iadd, 1), (1481, .iaload, 1), (1482, .invokevirtual 167, 3), (1485, .aload_n 2, 1), (1486, .aload_n 0, 1), (1487, .iload_n 3, 1), (1488, .iconst 1, 1), (1489, .iadd, 1), (1490, .iaload, 1), (1491, .aload_n 0, 1), (1492, .iload_n 3, 1), (1493, .iconst 2, 1)]
theorem KL_law_43 : DL_law_43.all (fun q => decide (decode code q.1 = .ok (q.2.1, q.2.2))) = true := by decide +kernel
def DL_law_44 : List (Nat × Instr × Nat) := [(1494, .iadd, 1), (1495, .iaload, 1), (1496, .invokevirtual 170, 3), (1499, .if_icmp .eq 5, 3), (1502, .iconst 0, 1), (1503, .ireturn, 1), (1504, .iinc 3 7, 3), (1507, .goto (-1489), 3), (1510, .iconst 1, 1), (1511, .ireturn, 1)]
theorem KL_law_44 : DL_law_44.all (fun q => decide (decode code q.1 = .ok (q.2.1, q.2.2))) = true := by decide +kernel
end
