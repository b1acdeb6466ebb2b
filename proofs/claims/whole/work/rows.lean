section
-- ===== PART A: goes FIRST, ahead of the names: the tables' words, and 'selects' of the private methods out of them =====
/-- a private method of a class that the tables say can be made, by its rows of tables_1 -/
def lw_okq (q : MethodName × Nat) : Prop := (q.1.cls ≠ "java/lang/invoke/MethodHandle" ∧ q.1.cls ≠ "java/lang/invoke/VarHandle") ∧ Cond.instantiable q.1.cls q.2 ∈ tables_1 ∧ Cond.privateMethod q.1 ∈ tables_1 ∧ Cond.instanceMethod q.1 ∈ tables_1
theorem lw_p0 : lw_okq (⟨"RugIsJurisdiction", "readTape", "()I"⟩, 9) := ⟨⟨by decide +kernel, by decide +kernel⟩, List.mem_of_getElem? (i := 20) (by decide +kernel), List.mem_of_getElem? (i := 339) (by decide +kernel), List.mem_of_getElem? (i := 340) (by decide +kernel)⟩
theorem lw_p1 : lw_okq (⟨"RugIsJurisdiction$Reader", "readOr", "(I)V"⟩, 6) := ⟨⟨by decide +kernel, by decide +kernel⟩, List.mem_of_getElem? (i := 81) (by decide +kernel), List.mem_of_getElem? (i := 470) (by decide +kernel), List.mem_of_getElem? (i := 471) (by decide +kernel)⟩
theorem lw_p2 : lw_okq (⟨"RugIsJurisdiction$Reader", "readAnd", "(I)V"⟩, 6) := ⟨⟨by decide +kernel, by decide +kernel⟩, List.mem_of_getElem? (i := 81) (by decide +kernel), List.mem_of_getElem? (i := 474) (by decide +kernel), List.mem_of_getElem? (i := 475) (by decide +kernel)⟩
theorem lw_p3 : lw_okq (⟨"RugIsJurisdiction$Reader", "readNot", "(I)V"⟩, 6) := ⟨⟨by decide +kernel, by decide +kernel⟩, List.mem_of_getElem? (i := 81) (by decide +kernel), List.mem_of_getElem? (i := 478) (by decide +kernel), List.mem_of_getElem? (i := 479) (by decide +kernel)⟩
theorem lw_p4 : lw_okq (⟨"RugIsJurisdiction$Reader", "readSum", "(I)V"⟩, 6) := ⟨⟨by decide +kernel, by decide +kernel⟩, List.mem_of_getElem? (i := 81) (by decide +kernel), List.mem_of_getElem? (i := 490) (by decide +kernel), List.mem_of_getElem? (i := 491) (by decide +kernel)⟩
theorem lw_p5 : lw_okq (⟨"RugIsJurisdiction$Reader", "readTerm", "(I)V"⟩, 6) := ⟨⟨by decide +kernel, by decide +kernel⟩, List.mem_of_getElem? (i := 81) (by decide +kernel), List.mem_of_getElem? (i := 494) (by decide +kernel), List.mem_of_getElem? (i := 495) (by decide +kernel)⟩
theorem lw_p6 : lw_okq (⟨"RugIsJurisdiction$Reader", "readOne", "(I)V"⟩, 6) := ⟨⟨by decide +kernel, by decide +kernel⟩, List.mem_of_getElem? (i := 81) (by decide +kernel), List.mem_of_getElem? (i := 498) (by decide +kernel), List.mem_of_getElem? (i := 499) (by decide +kernel)⟩
theorem lw_p7 : lw_okq (⟨"RugIsJurisdiction", "refusesWalk", "(I)I"⟩, 9) := ⟨⟨by decide +kernel, by decide +kernel⟩, List.mem_of_getElem? (i := 20) (by decide +kernel), List.mem_of_getElem? (i := 693) (by decide +kernel), List.mem_of_getElem? (i := 694) (by decide +kernel)⟩
theorem lw_p8 : lw_okq (⟨"RugIsJurisdiction", "goThrough", "(I)I"⟩, 9) := ⟨⟨by decide +kernel, by decide +kernel⟩, List.mem_of_getElem? (i := 20) (by decide +kernel), List.mem_of_getElem? (i := 710) (by decide +kernel), List.mem_of_getElem? (i := 711) (by decide +kernel)⟩
theorem lw_p9 : lw_okq (⟨"RugIsJurisdiction", "refusesFines", "(II)I"⟩, 9) := ⟨⟨by decide +kernel, by decide +kernel⟩, List.mem_of_getElem? (i := 20) (by decide +kernel), List.mem_of_getElem? (i := 823) (by decide +kernel), List.mem_of_getElem? (i := 824) (by decide +kernel)⟩
theorem lw_p10 : lw_okq (⟨"RugIsJurisdictionModel", "next", "()V"⟩, 37) := ⟨⟨by decide +kernel, by decide +kernel⟩, List.mem_of_getElem? (i := 929) (by decide +kernel), List.mem_of_getElem? (i := 939) (by decide +kernel), List.mem_of_getElem? (i := 940) (by decide +kernel)⟩
theorem lw_p11 : lw_okq (⟨"RugIsJurisdictionModel", "wordFrom", "(II)I"⟩, 37) := ⟨⟨by decide +kernel, by decide +kernel⟩, List.mem_of_getElem? (i := 929) (by decide +kernel), List.mem_of_getElem? (i := 946) (by decide +kernel), List.mem_of_getElem? (i := 947) (by decide +kernel)⟩
theorem lw_p12 : lw_okq (⟨"RugIsJurisdictionModel", "eRead", "()Z"⟩, 37) := ⟨⟨by decide +kernel, by decide +kernel⟩, List.mem_of_getElem? (i := 929) (by decide +kernel), List.mem_of_getElem? (i := 950) (by decide +kernel), List.mem_of_getElem? (i := 951) (by decide +kernel)⟩
theorem lw_p13 : lw_okq (⟨"RugIsJurisdictionModel", "puts", "(I)V"⟩, 37) := ⟨⟨by decide +kernel, by decide +kernel⟩, List.mem_of_getElem? (i := 929) (by decide +kernel), List.mem_of_getElem? (i := 955) (by decide +kernel), List.mem_of_getElem? (i := 956) (by decide +kernel)⟩
theorem lw_p14 : lw_okq (⟨"RugIsJurisdictionModel", "unwinds", "(I)V"⟩, 37) := ⟨⟨by decide +kernel, by decide +kernel⟩, List.mem_of_getElem? (i := 929) (by decide +kernel), List.mem_of_getElem? (i := 959) (by decide +kernel), List.mem_of_getElem? (i := 960) (by decide +kernel)⟩
theorem lw_p15 : lw_okq (⟨"RugIsJurisdictionModel", "opensOne", "(I)Z"⟩, 37) := ⟨⟨by decide +kernel, by decide +kernel⟩, List.mem_of_getElem? (i := 929) (by decide +kernel), List.mem_of_getElem? (i := 966) (by decide +kernel), List.mem_of_getElem? (i := 967) (by decide +kernel)⟩
def lw_privs_1 : List (MethodName × Nat) := [(⟨"RugIsJurisdiction", "readTape", "()I"⟩, 9), (⟨"RugIsJurisdiction$Reader", "readOr", "(I)V"⟩, 6), (⟨"RugIsJurisdiction$Reader", "readAnd", "(I)V"⟩, 6), (⟨"RugIsJurisdiction$Reader", "readNot", "(I)V"⟩, 6), (⟨"RugIsJurisdiction$Reader", "readSum", "(I)V"⟩, 6), (⟨"RugIsJurisdiction$Reader", "readTerm", "(I)V"⟩, 6), (⟨"RugIsJurisdiction$Reader", "readOne", "(I)V"⟩, 6), (⟨"RugIsJurisdiction", "refusesWalk", "(I)I"⟩, 9), (⟨"RugIsJurisdiction", "goThrough", "(I)I"⟩, 9), (⟨"RugIsJurisdiction", "refusesFines", "(II)I"⟩, 9), (⟨"RugIsJurisdictionModel", "next", "()V"⟩, 37), (⟨"RugIsJurisdictionModel", "wordFrom", "(II)I"⟩, 37), (⟨"RugIsJurisdictionModel", "eRead", "()Z"⟩, 37), (⟨"RugIsJurisdictionModel", "puts", "(I)V"⟩, 37), (⟨"RugIsJurisdictionModel", "unwinds", "(I)V"⟩, 37), (⟨"RugIsJurisdictionModel", "opensOne", "(I)Z"⟩, 37)]
theorem lw_r1 : ∀ q ∈ lw_privs_1, lw_okq q := List.forall_mem_cons.mpr ⟨lw_p0, List.forall_mem_cons.mpr ⟨lw_p1, List.forall_mem_cons.mpr ⟨lw_p2, List.forall_mem_cons.mpr ⟨lw_p3, List.forall_mem_cons.mpr ⟨lw_p4, List.forall_mem_cons.mpr ⟨lw_p5, List.forall_mem_cons.mpr ⟨lw_p6, List.forall_mem_cons.mpr ⟨lw_p7, List.forall_mem_cons.mpr ⟨lw_p8, List.forall_mem_cons.mpr ⟨lw_p9, List.forall_mem_cons.mpr ⟨lw_p10, List.forall_mem_cons.mpr ⟨lw_p11, List.forall_mem_cons.mpr ⟨lw_p12, List.forall_mem_cons.mpr ⟨lw_p13, List.forall_mem_cons.mpr ⟨lw_p14, List.forall_mem_cons.mpr ⟨lw_p15, fun _ h => absurd h List.not_mem_nil⟩⟩⟩⟩⟩⟩⟩⟩⟩⟩⟩⟩⟩⟩⟩⟩
theorem lw_p16 : lw_okq (⟨"RugIsJurisdictionModel", "holds", "(I)V"⟩, 37) := ⟨⟨by decide +kernel, by decide +kernel⟩, List.mem_of_getElem? (i := 929) (by decide +kernel), List.mem_of_getElem? (i := 970) (by decide +kernel), List.mem_of_getElem? (i := 971) (by decide +kernel)⟩
theorem lw_p17 : lw_okq (⟨"RugIsJurisdictionModel", "signOf", "()I"⟩, 37) := ⟨⟨by decide +kernel, by decide +kernel⟩, List.mem_of_getElem? (i := 929) (by decide +kernel), List.mem_of_getElem? (i := 974) (by decide +kernel), List.mem_of_getElem? (i := 975) (by decide +kernel)⟩
theorem lw_p18 : lw_okq (⟨"RugIsJurisdictionModel", "between", "(I)Z"⟩, 37) := ⟨⟨by decide +kernel, by decide +kernel⟩, List.mem_of_getElem? (i := 929) (by decide +kernel), List.mem_of_getElem? (i := 978) (by decide +kernel), List.mem_of_getElem? (i := 979) (by decide +kernel)⟩
theorem lw_p19 : lw_okq (⟨"RugIsJurisdictionModel", "isRug", "(I)Z"⟩, 37) := ⟨⟨by decide +kernel, by decide +kernel⟩, List.mem_of_getElem? (i := 929) (by decide +kernel), List.mem_of_getElem? (i := 1118) (by decide +kernel), List.mem_of_getElem? (i := 1119) (by decide +kernel)⟩
theorem lw_p20 : lw_okq (⟨"RugIsJurisdictionModel", "asksOf", "(III)I"⟩, 37) := ⟨⟨by decide +kernel, by decide +kernel⟩, List.mem_of_getElem? (i := 929) (by decide +kernel), List.mem_of_getElem? (i := 1125) (by decide +kernel), List.mem_of_getElem? (i := 1126) (by decide +kernel)⟩
theorem lw_p21 : lw_okq (⟨"RugIsJurisdictionModel", "sizeOf", "(I)I"⟩, 37) := ⟨⟨by decide +kernel, by decide +kernel⟩, List.mem_of_getElem? (i := 929) (by decide +kernel), List.mem_of_getElem? (i := 1129) (by decide +kernel), List.mem_of_getElem? (i := 1130) (by decide +kernel)⟩
theorem lw_p22 : lw_okq (⟨"RugIsJurisdictionModel", "says", "(I)I"⟩, 37) := ⟨⟨by decide +kernel, by decide +kernel⟩, List.mem_of_getElem? (i := 929) (by decide +kernel), List.mem_of_getElem? (i := 1133) (by decide +kernel), List.mem_of_getElem? (i := 1134) (by decide +kernel)⟩
theorem lw_p23 : lw_okq (⟨"RugIsJurisdictionModel", "cornersOf", "(I)I"⟩, 37) := ⟨⟨by decide +kernel, by decide +kernel⟩, List.mem_of_getElem? (i := 929) (by decide +kernel), List.mem_of_getElem? (i := 1154) (by decide +kernel), List.mem_of_getElem? (i := 1155) (by decide +kernel)⟩
theorem lw_p24 : lw_okq (⟨"RugIsJurisdictionModel", "ruledNow", "(I)I"⟩, 37) := ⟨⟨by decide +kernel, by decide +kernel⟩, List.mem_of_getElem? (i := 929) (by decide +kernel), List.mem_of_getElem? (i := 1162) (by decide +kernel), List.mem_of_getElem? (i := 1163) (by decide +kernel)⟩
theorem lw_p25 : lw_okq (⟨"RugIsJurisdictionModel", "rulesBut", "(I)V"⟩, 37) := ⟨⟨by decide +kernel, by decide +kernel⟩, List.mem_of_getElem? (i := 929) (by decide +kernel), List.mem_of_getElem? (i := 1166) (by decide +kernel), List.mem_of_getElem? (i := 1167) (by decide +kernel)⟩
theorem lw_p26 : lw_okq (⟨"RugIsJurisdictionModel", "isAsleep", "(I)Z"⟩, 37) := ⟨⟨by decide +kernel, by decide +kernel⟩, List.mem_of_getElem? (i := 929) (by decide +kernel), List.mem_of_getElem? (i := 1170) (by decide +kernel), List.mem_of_getElem? (i := 1171) (by decide +kernel)⟩
theorem lw_p27 : lw_okq (⟨"RugIsJurisdictionModel", "isNursed", "(II)Z"⟩, 37) := ⟨⟨by decide +kernel, by decide +kernel⟩, List.mem_of_getElem? (i := 929) (by decide +kernel), List.mem_of_getElem? (i := 1174) (by decide +kernel), List.mem_of_getElem? (i := 1175) (by decide +kernel)⟩
theorem lw_p28 : lw_okq (⟨"RugIsJurisdictionModel", "lies", "(II)Z"⟩, 37) := ⟨⟨by decide +kernel, by decide +kernel⟩, List.mem_of_getElem? (i := 929) (by decide +kernel), List.mem_of_getElem? (i := 1178) (by decide +kernel), List.mem_of_getElem? (i := 1179) (by decide +kernel)⟩
theorem lw_p29 : lw_okq (⟨"RugIsJurisdictionModel", "ruledBy", "(I)I"⟩, 37) := ⟨⟨by decide +kernel, by decide +kernel⟩, List.mem_of_getElem? (i := 929) (by decide +kernel), List.mem_of_getElem? (i := 1182) (by decide +kernel), List.mem_of_getElem? (i := 1183) (by decide +kernel)⟩
theorem lw_p30 : lw_okq (⟨"RugIsJurisdictionModel", "finedAt", "(I)I"⟩, 37) := ⟨⟨by decide +kernel, by decide +kernel⟩, List.mem_of_getElem? (i := 929) (by decide +kernel), List.mem_of_getElem? (i := 1190) (by decide +kernel), List.mem_of_getElem? (i := 1191) (by decide +kernel)⟩
theorem lw_p31 : lw_okq (⟨"RugIsJurisdictionModel", "finedBy", "(II)I"⟩, 37) := ⟨⟨by decide +kernel, by decide +kernel⟩, List.mem_of_getElem? (i := 929) (by decide +kernel), List.mem_of_getElem? (i := 1194) (by decide +kernel), List.mem_of_getElem? (i := 1195) (by decide +kernel)⟩
def lw_privs_2 : List (MethodName × Nat) := [(⟨"RugIsJurisdictionModel", "holds", "(I)V"⟩, 37), (⟨"RugIsJurisdictionModel", "signOf", "()I"⟩, 37), (⟨"RugIsJurisdictionModel", "between", "(I)Z"⟩, 37), (⟨"RugIsJurisdictionModel", "isRug", "(I)Z"⟩, 37), (⟨"RugIsJurisdictionModel", "asksOf", "(III)I"⟩, 37), (⟨"RugIsJurisdictionModel", "sizeOf", "(I)I"⟩, 37), (⟨"RugIsJurisdictionModel", "says", "(I)I"⟩, 37), (⟨"RugIsJurisdictionModel", "cornersOf", "(I)I"⟩, 37), (⟨"RugIsJurisdictionModel", "ruledNow", "(I)I"⟩, 37), (⟨"RugIsJurisdictionModel", "rulesBut", "(I)V"⟩, 37), (⟨"RugIsJurisdictionModel", "isAsleep", "(I)Z"⟩, 37), (⟨"RugIsJurisdictionModel", "isNursed", "(II)Z"⟩, 37), (⟨"RugIsJurisdictionModel", "lies", "(II)Z"⟩, 37), (⟨"RugIsJurisdictionModel", "ruledBy", "(I)I"⟩, 37), (⟨"RugIsJurisdictionModel", "finedAt", "(I)I"⟩, 37), (⟨"RugIsJurisdictionModel", "finedBy", "(II)I"⟩, 37)]
theorem lw_r2 : ∀ q ∈ lw_privs_2, lw_okq q := List.forall_mem_cons.mpr ⟨lw_p16, List.forall_mem_cons.mpr ⟨lw_p17, List.forall_mem_cons.mpr ⟨lw_p18, List.forall_mem_cons.mpr ⟨lw_p19, List.forall_mem_cons.mpr ⟨lw_p20, List.forall_mem_cons.mpr ⟨lw_p21, List.forall_mem_cons.mpr ⟨lw_p22, List.forall_mem_cons.mpr ⟨lw_p23, List.forall_mem_cons.mpr ⟨lw_p24, List.forall_mem_cons.mpr ⟨lw_p25, List.forall_mem_cons.mpr ⟨lw_p26, List.forall_mem_cons.mpr ⟨lw_p27, List.forall_mem_cons.mpr ⟨lw_p28, List.forall_mem_cons.mpr ⟨lw_p29, List.forall_mem_cons.mpr ⟨lw_p30, List.forall_mem_cons.mpr ⟨lw_p31, fun _ h => absurd h List.not_mem_nil⟩⟩⟩⟩⟩⟩⟩⟩⟩⟩⟩⟩⟩⟩⟩⟩
theorem lw_p32 : lw_okq (⟨"RugIsJurisdictionModel", "isFringe", "(II)Z"⟩, 37) := ⟨⟨by decide +kernel, by decide +kernel⟩, List.mem_of_getElem? (i := 929) (by decide +kernel), List.mem_of_getElem? (i := 1198) (by decide +kernel), List.mem_of_getElem? (i := 1199) (by decide +kernel)⟩
theorem lw_p33 : lw_okq (⟨"RugIsJurisdictionModel", "isLetOn", "(I)Z"⟩, 37) := ⟨⟨by decide +kernel, by decide +kernel⟩, List.mem_of_getElem? (i := 929) (by decide +kernel), List.mem_of_getElem? (i := 1202) (by decide +kernel), List.mem_of_getElem? (i := 1203) (by decide +kernel)⟩
theorem lw_p34 : lw_okq (⟨"RugIsJurisdictionModel", "walkWrong", "(I)I"⟩, 37) := ⟨⟨by decide +kernel, by decide +kernel⟩, List.mem_of_getElem? (i := 929) (by decide +kernel), List.mem_of_getElem? (i := 1215) (by decide +kernel), List.mem_of_getElem? (i := 1216) (by decide +kernel)⟩
theorem lw_p35 : lw_okq (⟨"RugIsJurisdictionModel", "goesOver", "(I)V"⟩, 37) := ⟨⟨by decide +kernel, by decide +kernel⟩, List.mem_of_getElem? (i := 929) (by decide +kernel), List.mem_of_getElem? (i := 1225) (by decide +kernel), List.mem_of_getElem? (i := 1226) (by decide +kernel)⟩
theorem lw_p36 : lw_okq (⟨"RugIsJurisdictionModel", "relaxes", "(IIZ)Z"⟩, 37) := ⟨⟨by decide +kernel, by decide +kernel⟩, List.mem_of_getElem? (i := 929) (by decide +kernel), List.mem_of_getElem? (i := 1244) (by decide +kernel), List.mem_of_getElem? (i := 1245) (by decide +kernel)⟩
theorem lw_p37 : lw_okq (⟨"RugIsJurisdictionModel", "besides", "(I)I"⟩, 37) := ⟨⟨by decide +kernel, by decide +kernel⟩, List.mem_of_getElem? (i := 929) (by decide +kernel), List.mem_of_getElem? (i := 1252) (by decide +kernel), List.mem_of_getElem? (i := 1253) (by decide +kernel)⟩
theorem lw_p38 : lw_okq (⟨"RugIsJurisdictionModel", "finedAll", "(I)I"⟩, 37) := ⟨⟨by decide +kernel, by decide +kernel⟩, List.mem_of_getElem? (i := 929) (by decide +kernel), List.mem_of_getElem? (i := 1268) (by decide +kernel), List.mem_of_getElem? (i := 1269) (by decide +kernel)⟩
theorem lw_p39 : lw_okq (⟨"RugIsJurisdictionModel", "toldWrong", "(II)I"⟩, 37) := ⟨⟨by decide +kernel, by decide +kernel⟩, List.mem_of_getElem? (i := 929) (by decide +kernel), List.mem_of_getElem? (i := 1292) (by decide +kernel), List.mem_of_getElem? (i := 1293) (by decide +kernel)⟩
theorem lw_p40 : lw_okq (⟨"RugIsJurisdictionModel", "sheetWrong", "(I)I"⟩, 37) := ⟨⟨by decide +kernel, by decide +kernel⟩, List.mem_of_getElem? (i := 929) (by decide +kernel), List.mem_of_getElem? (i := 1296) (by decide +kernel), List.mem_of_getElem? (i := 1297) (by decide +kernel)⟩
theorem lw_p41 : lw_okq (⟨"RugIsJurisdictionModel", "unlike", "(II)I"⟩, 37) := ⟨⟨by decide +kernel, by decide +kernel⟩, List.mem_of_getElem? (i := 929) (by decide +kernel), List.mem_of_getElem? (i := 1300) (by decide +kernel), List.mem_of_getElem? (i := 1301) (by decide +kernel)⟩
theorem lw_p42 : lw_okq (⟨"RugIsJurisdictionModel", "walksBy", "(II)V"⟩, 37) := ⟨⟨by decide +kernel, by decide +kernel⟩, List.mem_of_getElem? (i := 929) (by decide +kernel), List.mem_of_getElem? (i := 1331) (by decide +kernel), List.mem_of_getElem? (i := 1332) (by decide +kernel)⟩
def lw_privs_3 : List (MethodName × Nat) := [(⟨"RugIsJurisdictionModel", "isFringe", "(II)Z"⟩, 37), (⟨"RugIsJurisdictionModel", "isLetOn", "(I)Z"⟩, 37), (⟨"RugIsJurisdictionModel", "walkWrong", "(I)I"⟩, 37), (⟨"RugIsJurisdictionModel", "goesOver", "(I)V"⟩, 37), (⟨"RugIsJurisdictionModel", "relaxes", "(IIZ)Z"⟩, 37), (⟨"RugIsJurisdictionModel", "besides", "(I)I"⟩, 37), (⟨"RugIsJurisdictionModel", "finedAll", "(I)I"⟩, 37), (⟨"RugIsJurisdictionModel", "toldWrong", "(II)I"⟩, 37), (⟨"RugIsJurisdictionModel", "sheetWrong", "(I)I"⟩, 37), (⟨"RugIsJurisdictionModel", "unlike", "(II)I"⟩, 37), (⟨"RugIsJurisdictionModel", "walksBy", "(II)V"⟩, 37)]
theorem lw_r3 : ∀ q ∈ lw_privs_3, lw_okq q := List.forall_mem_cons.mpr ⟨lw_p32, List.forall_mem_cons.mpr ⟨lw_p33, List.forall_mem_cons.mpr ⟨lw_p34, List.forall_mem_cons.mpr ⟨lw_p35, List.forall_mem_cons.mpr ⟨lw_p36, List.forall_mem_cons.mpr ⟨lw_p37, List.forall_mem_cons.mpr ⟨lw_p38, List.forall_mem_cons.mpr ⟨lw_p39, List.forall_mem_cons.mpr ⟨lw_p40, List.forall_mem_cons.mpr ⟨lw_p41, List.forall_mem_cons.mpr ⟨lw_p42, fun _ h => absurd h List.not_mem_nil⟩⟩⟩⟩⟩⟩⟩⟩⟩⟩⟩
def lw_privs : List (MethodName × Nat) := lw_privs_1 ++ (lw_privs_2 ++ (lw_privs_3))
def lw_tbl : List Cond := k2_sels lw_privs ++ tables_1
theorem lw_privs_ok : ∀ q ∈ lw_privs, lw_okq q := by
  show ∀ q ∈ lw_privs_1 ++ (lw_privs_2 ++ (lw_privs_3)), lw_okq q
  exact List.forall_mem_append.mpr ⟨lw_r1, List.forall_mem_append.mpr ⟨lw_r2, lw_r3⟩⟩
-- ===== end of PART A; then your names; then what follows =====
end
section
/-! ===== BEGIN words of one list among another's, by their places ===== -/
theorem goodIn_r {big : List Cond} (ws : List Cond) (ps : List Nat) (hp : ws = ps.filterMap (fun i => big[i]?)) (h : ws.all goodWord = true) : GoodIn big ws := by
  intro w hw
  have h1 := List.all_eq_true.mp h w hw
  rw [hp] at hw
  obtain ⟨i, -, hi⟩ := List.mem_filterMap.mp hw
  have hm : w ∈ big := by first | exact List.mem_of_getElem? hi | exact List.getElem?_mem hi
  exact ⟨hm, good_of_word h1⟩
theorem goodIn_app {big a b : List Cond} (ha : GoodIn big a) (hb : GoodIn big b) : GoodIn big (a ++ b) := fun w h => (List.mem_append.mp h).elim (ha w) (hb w)
theorem goodIn_ca {big a b : List Cond} {c : Cond} (ha : GoodIn big (c :: a)) (hb : GoodIn big b) : GoodIn big (c :: (a ++ b)) := fun w h => (List.mem_cons.mp h).elim (fun e => ha w (List.mem_cons.mpr (Or.inl e))) (fun h => (List.mem_append.mp h).elim (fun h => ha w (List.mem_cons.mpr (Or.inr h))) (hb w))
theorem goodIn_sub {big ws : List Cond} (hm : ∀ w ∈ ws, w ∈ big) (h : ws.all goodWord = true) : GoodIn big ws := fun w hw => ⟨hm w hw, good_of_word (List.all_eq_true.mp h w hw)⟩
theorem vr_outer (c : ClassId) (N h0 : Nat) : ∀ i : Nat, Jvm.Free.Multi.outerC c N h0 i = arrV c N (fun j => va_rf (if j < i then some (h0 + 1 + j) else none))
  | 0 => by
    show ({ cls := c, slots := Array.replicate N .null, vm := .none } : Cell) = _
    rw [arrV_new]
    refine congrArg (arrV c N) (funext fun j => ?_)
    simp [va_rf]
  | i + 1 => by
    show (Jvm.Free.Multi.outerC c N h0 i).setSlot i (.ref (h0 + 1 + i)) = _
    rw [vr_outer c N h0 i, arrV_store]
    refine congrArg (arrV c N) (funext fun j => ?_)
    by_cases e : j = i
    · subst e
      simp [updV, va_rf]
    · by_cases h : j < i
      · simp [updV, e, h, Nat.lt_succ_of_lt h]
      · simp [updV, e, h, show ¬ j < i + 1 by omega]
/-! ===== END ===== -/
/-! ===== BEGIN printed: names, fields, word lists, decode rows ===== -/
def RX0 : String := "RugIsJurisdiction$Common"
def TX0 : u_T := fun k => match k with
  | 0 => ("RugIsJurisdiction$Common", "texts", "LRugIsJurisdiction$Texts;", true)
  | 1 => ("RugIsJurisdiction$Common", "rugs", "I", false)
  | 2 => ("RugIsJurisdiction$Common", "hour", "I", false)
  | 3 => ("RugIsJurisdiction$Common", "law", "I", false)
  | 4 => ("RugIsJurisdiction$Common", "kind", "[I", true)
  | 5 => ("RugIsJurisdiction$Common", "more", "[I", true)
  | 6 => ("RugIsJurisdiction$Common", "from", "[I", true)
  | 7 => ("RugIsJurisdiction$Common", "to", "[I", true)
  | 8 => ("RugIsJurisdiction$Common", "size", "[I", true)
  | 9 => ("RugIsJurisdiction$Common", "guests", "[I", true)
  | 10 => ("RugIsJurisdiction$Common", "ruler", "[I", true)
  | _ => ("RugIsJurisdiction$Common", "fine", "[I", true)
def tyX0 : Nat → FieldType := fun k => match k with
  | 0 => .object "RugIsJurisdiction$Texts"
  | 1 => .int
  | 2 => .int
  | 3 => .int
  | 4 => .array .int
  | 5 => .array .int
  | 6 => .array .int
  | 7 => .array .int
  | 8 => .array .int
  | 9 => .array .int
  | 10 => .array .int
  | _ => .array .int
abbrev wsX00 : List Cond := u_ws RX0 TX0 12
theorem nmX0 : ∀ a, a < 12 → ∀ b, b < 12 → a ≠ b → (TX0 a).2.1 ≠ (TX0 b).2.1 := by decide +kernel
theorem tyX0_ok : ∀ k, k < 12 → parseFieldDescriptor (TX0 k).2.2.1 = some (tyX0 k) := by decide +kernel
abbrev cX0_init : ByteArray := prog_2_method_1_code
def yX0_init : MethodName := ⟨RX0, "<init>", "(LRugIsJurisdiction$Texts;)V"⟩
abbrev cX0_isRug : ByteArray := prog_2_method_2_code
def yX0_isRug : MethodName := ⟨RX0, "isRug", "(I)Z"⟩
abbrev cX0_add : ByteArray := prog_2_method_3_code
def yX0_add : MethodName := ⟨RX0, "add", "(II)I"⟩
abbrev cX0_lay : ByteArray := prog_2_method_4_code
def yX0_lay : MethodName := ⟨RX0, "lay", "(III)V"⟩
abbrev cX0_corners : ByteArray := prog_2_method_5_code
def yX0_corners : MethodName := ⟨RX0, "corners", "(I)I"⟩
abbrev cX0_liesOn : ByteArray := prog_2_method_6_code
def yX0_liesOn : MethodName := ⟨RX0, "liesOn", "(II)Z"⟩
abbrev cX0_hasFringeOn : ByteArray := prog_2_method_7_code
def yX0_hasFringeOn : MethodName := ⟨RX0, "hasFringeOn", "(II)Z"⟩
abbrev cX0_layers : ByteArray := prog_2_method_8_code
def yX0_layers : MethodName := ⟨RX0, "layers", "(I)I"⟩
abbrev cX0_says : ByteArray := prog_2_method_9_code
def yX0_says : MethodName := ⟨RX0, "says", "(IIII)I"⟩
abbrev cX0_isAsleep : ByteArray := prog_2_method_10_code
def yX0_isAsleep : MethodName := ⟨RX0, "isAsleep", "(II)Z"⟩
abbrev cX0_admits : ByteArray := prog_2_method_11_code
def yX0_admits : MethodName := ⟨RX0, "admits", "(II)Z"⟩
abbrev cX0_fineOf : ByteArray := prog_2_method_12_code
def yX0_fineOf : MethodName := ⟨RX0, "fineOf", "(III)I"⟩
abbrev cX0_awakeAt : ByteArray := prog_2_method_13_code
def yX0_awakeAt : MethodName := ⟨RX0, "awakeAt", "(I)I"⟩
abbrev cX0_rulerAmong : ByteArray := prog_2_method_14_code
def yX0_rulerAmong : MethodName := ⟨RX0, "rulerAmong", "(II)I"⟩
abbrev cX0_look : ByteArray := prog_2_method_15_code
def yX0_look : MethodName := ⟨RX0, "look", "()V"⟩
abbrev cX0_findRulers : ByteArray := prog_2_method_16_code
def yX0_findRulers : MethodName := ⟨RX0, "findRulers", "()V"⟩
abbrev cX0_letsOn : ByteArray := prog_2_method_17_code
def yX0_letsOn : MethodName := ⟨RX0, "letsOn", "(I)Z"⟩
abbrev cX0_realm : ByteArray := prog_2_method_18_code
def yX0_realm : MethodName := ⟨RX0, "realm", "(I)J"⟩
abbrev cX0_fineOfRealm : ByteArray := prog_2_method_19_code
def yX0_fineOfRealm : MethodName := ⟨RX0, "fineOfRealm", "(I)I"⟩
abbrev cX0_ruledNow : ByteArray := prog_2_method_20_code
def yX0_ruledNow : MethodName := ⟨RX0, "ruledNow", "(I)I"⟩
abbrev cX0_ruledByAny : ByteArray := prog_2_method_21_code
def yX0_ruledByAny : MethodName := ⟨RX0, "ruledByAny", "(I)I"⟩
abbrev cX0_neighbours : ByteArray := prog_2_method_22_code
def yX0_neighbours : MethodName := ⟨RX0, "neighbours", "(I)I"⟩
abbrev cX0_joined : ByteArray := prog_2_method_23_code
def yX0_joined : MethodName := ⟨RX0, "joined", "(I)I"⟩
abbrev cX0_welcome : ByteArray := prog_2_method_24_code
def yX0_welcome : MethodName := ⟨RX0, "welcome", "(I)V"⟩
abbrev cX0_fineOfAll : ByteArray := prog_2_method_25_code
def yX0_fineOfAll : MethodName := ⟨RX0, "fineOfAll", "(II)I"⟩
abbrev cX0_fineWere : ByteArray := prog_2_method_26_code
def yX0_fineWere : MethodName := ⟨RX0, "fineWere", "(II)I"⟩
abbrev cX0_firstOther : ByteArray := prog_2_method_27_code
def yX0_firstOther : MethodName := ⟨RX0, "firstOther", "([III)I"⟩
def RX1 : String := "RugIsJurisdiction$Image"
def TX1 : u_T := fun k => match k with
  | 0 => ("RugIsJurisdiction$Image", "isThere", "Z", false)
  | 1 => ("RugIsJurisdiction$Image", "rugs", "I", false)
  | 2 => ("RugIsJurisdiction$Image", "hour", "I", false)
  | 3 => ("RugIsJurisdiction$Image", "law", "I", false)
  | 4 => ("RugIsJurisdiction$Image", "from", "[I", true)
  | 5 => ("RugIsJurisdiction$Image", "to", "[I", true)
  | _ => ("RugIsJurisdiction$Image", "guests", "[I", true)
def tyX1 : Nat → FieldType := fun k => match k with
  | 0 => .boolean
  | 1 => .int
  | 2 => .int
  | 3 => .int
  | 4 => .array .int
  | 5 => .array .int
  | _ => .array .int
abbrev wsX10 : List Cond := u_ws RX1 TX1 7
theorem nmX1 : ∀ a, a < 7 → ∀ b, b < 7 → a ≠ b → (TX1 a).2.1 ≠ (TX1 b).2.1 := by decide +kernel
theorem tyX1_ok : ∀ k, k < 7 → parseFieldDescriptor (TX1 k).2.2.1 = some (tyX1 k) := by decide +kernel
abbrev cX1_init : ByteArray := prog_3_method_1_code
def yX1_init : MethodName := ⟨RX1, "<init>", "()V"⟩
abbrev cX1_keep : ByteArray := prog_3_method_2_code
def yX1_keep : MethodName := ⟨RX1, "keep", "(LRugIsJurisdiction$Common;)V"⟩
abbrev cX1_restore : ByteArray := prog_3_method_3_code
def yX1_restore : MethodName := ⟨RX1, "restore", "(LRugIsJurisdiction$Common;)V"⟩
def RX2 : String := "RugIsJurisdiction$Lots"
def TX2 : u_T := fun k => match k with
  | 0 => ("RugIsJurisdiction$Lots", "common", "LRugIsJurisdiction$Common;", true)
  | 1 => ("RugIsJurisdiction$Lots", "at", "I", false)
  | 2 => ("RugIsJurisdiction$Lots", "fined", "I", false)
  | _ => ("RugIsJurisdiction$Lots", "borders", "I", false)
def tyX2 : Nat → FieldType := fun k => match k with
  | 0 => .object "RugIsJurisdiction$Common"
  | 1 => .int
  | 2 => .int
  | _ => .int
abbrev wsX20 : List Cond := u_ws RX2 TX2 4
theorem nmX2 : ∀ a, a < 4 → ∀ b, b < 4 → a ≠ b → (TX2 a).2.1 ≠ (TX2 b).2.1 := by decide +kernel
theorem tyX2_ok : ∀ k, k < 4 → parseFieldDescriptor (TX2 k).2.2.1 = some (tyX2 k) := by decide +kernel
abbrev cX2_init : ByteArray := prog_4_method_1_code
def yX2_init : MethodName := ⟨RX2, "<init>", "(LRugIsJurisdiction$Common;)V"⟩
abbrev cX2_stroll : ByteArray := prog_4_method_2_code
def yX2_stroll : MethodName := ⟨RX2, "stroll", "(III)V"⟩
def RX3 : String := "RugIsJurisdiction$Reader"
def TX3 : u_T := fun k => match k with
  | 0 => ("RugIsJurisdiction$Reader", "tape", "LRugIsJurisdiction$Tape;", true)
  | 1 => ("RugIsJurisdiction$Reader", "codes", "[I", true)
  | 2 => ("RugIsJurisdiction$Reader", "ends", "[I", true)
  | 3 => ("RugIsJurisdiction$Reader", "written", "I", false)
  | 4 => ("RugIsJurisdiction$Reader", "at", "I", false)
  | _ => ("RugIsJurisdiction$Reader", "isWrong", "Z", false)
def tyX3 : Nat → FieldType := fun k => match k with
  | 0 => .object "RugIsJurisdiction$Tape"
  | 1 => .array .int
  | 2 => .array .int
  | 3 => .int
  | 4 => .int
  | _ => .boolean
abbrev wsX30 : List Cond := u_ws RX3 TX3 6
theorem nmX3 : ∀ a, a < 6 → ∀ b, b < 6 → a ≠ b → (TX3 a).2.1 ≠ (TX3 b).2.1 := by decide +kernel
theorem tyX3_ok : ∀ k, k < 6 → parseFieldDescriptor (TX3 k).2.2.1 = some (tyX3 k) := by decide +kernel
abbrev cX3_init : ByteArray := prog_5_method_1_code
def yX3_init : MethodName := ⟨RX3, "<init>", "(LRugIsJurisdiction$Tape;)V"⟩
abbrev cX3_fault : ByteArray := prog_5_method_2_code
def yX3_fault : MethodName := ⟨RX3, "fault", "()I"⟩
abbrev cX3_isAt : ByteArray := prog_5_method_3_code
def yX3_isAt : MethodName := ⟨RX3, "isAt", "(I)Z"⟩
abbrev cX3_demand : ByteArray := prog_5_method_4_code
def yX3_demand : MethodName := ⟨RX3, "demand", "(I)V"⟩
abbrev cX3_goOn : ByteArray := prog_5_method_5_code
def yX3_goOn : MethodName := ⟨RX3, "goOn", "()V"⟩
abbrev cX3_write : ByteArray := prog_5_method_6_code
def yX3_write : MethodName := ⟨RX3, "write", "(I)V"⟩
abbrev cX3_readOr : ByteArray := prog_5_method_7_code
def yX3_readOr : MethodName := ⟨RX3, "readOr", "(I)V"⟩
abbrev cX3_readAnd : ByteArray := prog_5_method_8_code
def yX3_readAnd : MethodName := ⟨RX3, "readAnd", "(I)V"⟩
abbrev cX3_readNot : ByteArray := prog_5_method_9_code
def yX3_readNot : MethodName := ⟨RX3, "readNot", "(I)V"⟩
abbrev cX3_readSum : ByteArray := prog_5_method_10_code
def yX3_readSum : MethodName := ⟨RX3, "readSum", "(I)V"⟩
abbrev cX3_readTerm : ByteArray := prog_5_method_11_code
def yX3_readTerm : MethodName := ⟨RX3, "readTerm", "(I)V"⟩
abbrev cX3_readOne : ByteArray := prog_5_method_12_code
def yX3_readOne : MethodName := ⟨RX3, "readOne", "(I)V"⟩
abbrev cX3_opens : ByteArray := prog_5_method_13_code
def yX3_opens : MethodName := ⟨RX3, "opens", "(I)Z"⟩
def RX4 : String := "RugIsJurisdiction$Sheets"
def TX4 : u_T := fun k => match k with
  | 0 => ("RugIsJurisdiction$Sheets", "row", "[[I", true)
  | 1 => ("RugIsJurisdiction$Sheets", "sort", "[I", true)
  | _ => ("RugIsJurisdiction$Sheets", "size", "[I", true)
def tyX4 : Nat → FieldType := fun k => match k with
  | 0 => .array (.array .int)
  | 1 => .array .int
  | _ => .array .int
abbrev wsX40 : List Cond := u_ws RX4 TX4 3
theorem nmX4 : ∀ a, a < 3 → ∀ b, b < 3 → a ≠ b → (TX4 a).2.1 ≠ (TX4 b).2.1 := by decide +kernel
theorem tyX4_ok : ∀ k, k < 3 → parseFieldDescriptor (TX4 k).2.2.1 = some (tyX4 k) := by decide +kernel
abbrev cX4_init : ByteArray := prog_6_method_1_code
def yX4_init : MethodName := ⟨RX4, "<init>", "()V"⟩
abbrev cX4_refuses : ByteArray := prog_6_method_2_code
def yX4_refuses : MethodName := ⟨RX4, "refuses", "(I)I"⟩
abbrev cX4_renew : ByteArray := prog_6_method_3_code
def yX4_renew : MethodName := ⟨RX4, "renew", "(III)V"⟩
abbrev cX4_write : ByteArray := prog_6_method_4_code
def yX4_write : MethodName := ⟨RX4, "write", "(III)V"⟩
def RX5 : String := "RugIsJurisdiction$Tally"
def TX5 : u_T := fun k => match k with
  | 0 => ("RugIsJurisdiction$Tally", "common", "LRugIsJurisdiction$Common;", true)
  | 1 => ("RugIsJurisdiction$Tally", "fined", "I", false)
  | 2 => ("RugIsJurisdiction$Tally", "borders", "I", false)
  | 3 => ("RugIsJurisdiction$Tally", "rugs", "I", false)
  | _ => ("RugIsJurisdiction$Tally", "last", "I", false)
def tyX5 : Nat → FieldType := fun k => match k with
  | 0 => .object "RugIsJurisdiction$Common"
  | 1 => .int
  | 2 => .int
  | 3 => .int
  | _ => .int
abbrev wsX50 : List Cond := u_ws RX5 TX5 5
theorem nmX5 : ∀ a, a < 5 → ∀ b, b < 5 → a ≠ b → (TX5 a).2.1 ≠ (TX5 b).2.1 := by decide +kernel
theorem tyX5_ok : ∀ k, k < 5 → parseFieldDescriptor (TX5 k).2.2.1 = some (tyX5 k) := by decide +kernel
abbrev cX5_init : ByteArray := prog_7_method_1_code
def yX5_init : MethodName := ⟨RX5, "<init>", "(LRugIsJurisdiction$Common;)V"⟩
abbrev cX5_begin : ByteArray := prog_7_method_2_code
def yX5_begin : MethodName := ⟨RX5, "begin", "()V"⟩
abbrev cX5_crosses : ByteArray := prog_7_method_3_code
def yX5_crosses : MethodName := ⟨RX5, "crosses", "(I)Z"⟩
abbrev cX5_isStopped : ByteArray := prog_7_method_4_code
def yX5_isStopped : MethodName := ⟨RX5, "isStopped", "(I)Z"⟩
abbrev cX5_go : ByteArray := prog_7_method_5_code
def yX5_go : MethodName := ⟨RX5, "go", "(I)V"⟩
abbrev cX5_answer : ByteArray := prog_7_method_6_code
def yX5_answer : MethodName := ⟨RX5, "answer", "(I)I"⟩
def RX6 : String := "RugIsJurisdiction$Tape"
def TX6 : u_T := fun k => match k with
  | 0 => ("RugIsJurisdiction$Tape", "bytes", "[I", true)
  | 1 => ("RugIsJurisdiction$Tape", "size", "I", false)
  | 2 => ("RugIsJurisdiction$Tape", "tokens", "[I", true)
  | 3 => ("RugIsJurisdiction$Tape", "places", "[I", true)
  | _ => ("RugIsJurisdiction$Tape", "known", "I", false)
def tyX6 : Nat → FieldType := fun k => match k with
  | 0 => .array .int
  | 1 => .int
  | 2 => .array .int
  | 3 => .array .int
  | _ => .int
abbrev wsX60 : List Cond := u_ws RX6 TX6 5
theorem nmX6 : ∀ a, a < 5 → ∀ b, b < 5 → a ≠ b → (TX6 a).2.1 ≠ (TX6 b).2.1 := by decide +kernel
theorem tyX6_ok : ∀ k, k < 5 → parseFieldDescriptor (TX6 k).2.2.1 = some (tyX6 k) := by decide +kernel
abbrev cX6_init : ByteArray := prog_8_method_1_code
def yX6_init : MethodName := ⟨RX6, "<init>", "()V"⟩
abbrev cX6_add : ByteArray := prog_8_method_2_code
def yX6_add : MethodName := ⟨RX6, "add", "(I)V"⟩
abbrev cX6_split : ByteArray := prog_8_method_3_code
def yX6_split : MethodName := ⟨RX6, "split", "()V"⟩
abbrev cX6_note : ByteArray := prog_8_method_4_code
def yX6_note : MethodName := ⟨RX6, "note", "(II)V"⟩
abbrev cX6_endOf : ByteArray := prog_8_method_5_code
def yX6_endOf : MethodName := ⟨RX6, "endOf", "(I)I"⟩
abbrev cX6_sortOf : ByteArray := prog_8_method_6_code
def yX6_sortOf : MethodName := ⟨RX6, "sortOf", "(I)I"⟩
abbrev cX6_tokenOf : ByteArray := prog_8_method_7_code
def yX6_tokenOf : MethodName := ⟨RX6, "tokenOf", "(II)I"⟩
abbrev cX6_word : ByteArray := prog_8_method_8_code
def yX6_word : MethodName := ⟨RX6, "word", "(II)I"⟩
abbrev cX6_spells : ByteArray := prog_8_method_9_code
def yX6_spells : MethodName := ⟨RX6, "spells", "(Ljava/lang/String;II)Z"⟩
abbrev cX6_spelled : ByteArray := prog_8_method_10_code
def yX6_spelled : MethodName := ⟨RX6, "spelled", "(I)Ljava/lang/String;"⟩
abbrev cX6_number : ByteArray := prog_8_method_11_code
def yX6_number : MethodName := ⟨RX6, "number", "(II)I"⟩
abbrev cX6_sign : ByteArray := prog_8_method_12_code
def yX6_sign : MethodName := ⟨RX6, "sign", "(I)I"⟩
def RX7 : String := "RugIsJurisdiction$Texts"
def TX7 : u_T := fun k => match k with
  | 0 => ("RugIsJurisdiction$Texts", "known", "I", false)
  | 1 => ("RugIsJurisdiction$Texts", "codes", "[[I", true)
  | 2 => ("RugIsJurisdiction$Texts", "ends", "[[I", true)
  | 3 => ("RugIsJurisdiction$Texts", "names", "[I", true)
  | _ => ("RugIsJurisdiction$Texts", "stack", "[I", true)
def tyX7 : Nat → FieldType := fun k => match k with
  | 0 => .int
  | 1 => .array (.array .int)
  | 2 => .array (.array .int)
  | 3 => .array .int
  | _ => .array .int
abbrev wsX70 : List Cond := u_ws RX7 TX7 5
theorem nmX7 : ∀ a, a < 5 → ∀ b, b < 5 → a ≠ b → (TX7 a).2.1 ≠ (TX7 b).2.1 := by decide +kernel
theorem tyX7_ok : ∀ k, k < 5 → parseFieldDescriptor (TX7 k).2.2.1 = some (tyX7 k) := by decide +kernel
abbrev cX7_init : ByteArray := prog_9_method_1_code
def yX7_init : MethodName := ⟨RX7, "<init>", "()V"⟩
abbrev cX7_add : ByteArray := prog_9_method_2_code
def yX7_add : MethodName := ⟨RX7, "add", "([I[I)I"⟩
abbrev cX7_value : ByteArray := prog_9_method_3_code
def yX7_value : MethodName := ⟨RX7, "value", "(II)I"⟩
def RX8 : String := "RugIsJurisdiction$Ways"
def TX8 : u_T := fun k => match k with
  | 0 => ("RugIsJurisdiction$Ways", "common", "LRugIsJurisdiction$Common;", true)
  | 1 => ("RugIsJurisdiction$Ways", "isOpen", "[Z", true)
  | _ => ("RugIsJurisdiction$Ways", "cost", "[I", true)
def tyX8 : Nat → FieldType := fun k => match k with
  | 0 => .object "RugIsJurisdiction$Common"
  | 1 => .array .boolean
  | _ => .array .int
abbrev wsX80 : List Cond := u_ws RX8 TX8 3
theorem nmX8 : ∀ a, a < 3 → ∀ b, b < 3 → a ≠ b → (TX8 a).2.1 ≠ (TX8 b).2.1 := by decide +kernel
theorem tyX8_ok : ∀ k, k < 3 → parseFieldDescriptor (TX8 k).2.2.1 = some (tyX8 k) := by decide +kernel
abbrev cX8_init : ByteArray := prog_10_method_1_code
def yX8_init : MethodName := ⟨RX8, "<init>", "(LRugIsJurisdiction$Common;)V"⟩
abbrev cX8_least : ByteArray := prog_10_method_2_code
def yX8_least : MethodName := ⟨RX8, "least", "(III)I"⟩
abbrev cX8_lowersBeside : ByteArray := prog_10_method_3_code
def yX8_lowersBeside : MethodName := ⟨RX8, "lowersBeside", "(II)Z"⟩
abbrev cX8_stepCost : ByteArray := prog_10_method_4_code
def yX8_stepCost : MethodName := ⟨RX8, "stepCost", "(III)I"⟩
def RX9 : String := "RugIsJurisdiction"
def TX9 : u_T := fun k => match k with
  | 0 => ("RugIsJurisdiction", "texts", "LRugIsJurisdiction$Texts;", true)
  | 1 => ("RugIsJurisdiction", "tape", "LRugIsJurisdiction$Tape;", true)
  | 2 => ("RugIsJurisdiction", "reader", "LRugIsJurisdiction$Reader;", true)
  | 3 => ("RugIsJurisdiction", "common", "LRugIsJurisdiction$Common;", true)
  | 4 => ("RugIsJurisdiction", "tally", "LRugIsJurisdiction$Tally;", true)
  | 5 => ("RugIsJurisdiction", "ways", "LRugIsJurisdiction$Ways;", true)
  | 6 => ("RugIsJurisdiction", "lots", "LRugIsJurisdiction$Lots;", true)
  | 7 => ("RugIsJurisdiction", "kept", "LRugIsJurisdiction$Image;", true)
  | _ => ("RugIsJurisdiction", "sheets", "LRugIsJurisdiction$Sheets;", true)
def tyX9 : Nat → FieldType := fun k => match k with
  | 0 => .object "RugIsJurisdiction$Texts"
  | 1 => .object "RugIsJurisdiction$Tape"
  | 2 => .object "RugIsJurisdiction$Reader"
  | 3 => .object "RugIsJurisdiction$Common"
  | 4 => .object "RugIsJurisdiction$Tally"
  | 5 => .object "RugIsJurisdiction$Ways"
  | 6 => .object "RugIsJurisdiction$Lots"
  | 7 => .object "RugIsJurisdiction$Image"
  | _ => .object "RugIsJurisdiction$Sheets"
abbrev wsX90 : List Cond := u_ws RX9 TX9 9
theorem nmX9 : ∀ a, a < 9 → ∀ b, b < 9 → a ≠ b → (TX9 a).2.1 ≠ (TX9 b).2.1 := by decide +kernel
theorem tyX9_ok : ∀ k, k < 9 → parseFieldDescriptor (TX9 k).2.2.1 = some (tyX9 k) := by decide +kernel
abbrev cX9_init : ByteArray := prog_1_method_1_code
def yX9_init : MethodName := ⟨RX9, "<init>", "()V"⟩
abbrev cX9_count : ByteArray := prog_1_method_2_code
def yX9_count : MethodName := ⟨RX9, "count", "(I)I"⟩
abbrev cX9_strikes : ByteArray := prog_1_method_3_code
def yX9_strikes : MethodName := ⟨RX9, "strikes", "(I)I"⟩
abbrev cX9_feed : ByteArray := prog_1_method_4_code
def yX9_feed : MethodName := ⟨RX9, "feed", "(IIIIII)I"⟩
abbrev cX9_text : ByteArray := prog_1_method_5_code
def yX9_text : MethodName := ⟨RX9, "text", "()I"⟩
abbrev cX9_force : ByteArray := prog_1_method_6_code
def yX9_force : MethodName := ⟨RX9, "force", "(I)I"⟩
abbrev cX9_asks : ByteArray := prog_1_method_7_code
def yX9_asks : MethodName := ⟨RX9, "asks", "(III)I"⟩
abbrev cX9_spread : ByteArray := prog_1_method_8_code
def yX9_spread : MethodName := ⟨RX9, "spread", "(II)I"⟩
abbrev cX9_put : ByteArray := prog_1_method_9_code
def yX9_put : MethodName := ⟨RX9, "put", "(III)I"⟩
abbrev cX9_told : ByteArray := prog_1_method_10_code
def yX9_told : MethodName := ⟨RX9, "told", "(II)I"⟩
abbrev cX9_over : ByteArray := prog_1_method_11_code
def yX9_over : MethodName := ⟨RX9, "over", "(II)I"⟩
abbrev cX9_rules : ByteArray := prog_1_method_12_code
def yX9_rules : MethodName := ⟨RX9, "rules", "(I)J"⟩
abbrev cX9_walk : ByteArray := prog_1_method_13_code
def yX9_walk : MethodName := ⟨RX9, "walk", "(II)I"⟩
abbrev cX9_visit : ByteArray := prog_1_method_14_code
def yX9_visit : MethodName := ⟨RX9, "visit", "(I)I"⟩
abbrev cX9_ball : ByteArray := prog_1_method_15_code
def yX9_ball : MethodName := ⟨RX9, "ball", "(III)I"⟩
abbrev cX9_way : ByteArray := prog_1_method_16_code
def yX9_way : MethodName := ⟨RX9, "way", "(II)I"⟩
abbrev cX9_borders : ByteArray := prog_1_method_17_code
def yX9_borders : MethodName := ⟨RX9, "borders", "(I)I"⟩
abbrev cX9_league : ByteArray := prog_1_method_18_code
def yX9_league : MethodName := ⟨RX9, "league", "(II)I"⟩
abbrev cX9_place : ByteArray := prog_1_method_19_code
def yX9_place : MethodName := ⟨RX9, "place", "(II)I"⟩
abbrev cX9_freest : ByteArray := prog_1_method_20_code
def yX9_freest : MethodName := ⟨RX9, "freest", "(I)I"⟩
abbrev cX9_fold : ByteArray := prog_1_method_21_code
def yX9_fold : MethodName := ⟨RX9, "fold", "(I)I"⟩
abbrev cX9_share : ByteArray := prog_1_method_22_code
def yX9_share : MethodName := ⟨RX9, "share", "(II)J"⟩
abbrev cX9_mean : ByteArray := prog_1_method_23_code
def yX9_mean : MethodName := ⟨RX9, "mean", "(II)J"⟩
abbrev cX9_judge : ByteArray := prog_1_method_24_code
def yX9_judge : MethodName := ⟨RX9, "judge", "(II)I"⟩
abbrev cX9_kinds : ByteArray := prog_1_method_25_code
def yX9_kinds : MethodName := ⟨RX9, "kinds", "(IIII)I"⟩
abbrev cX9_crowds : ByteArray := prog_1_method_26_code
def yX9_crowds : MethodName := ⟨RX9, "crowds", "(IIII)I"⟩
abbrev cX9_where : ByteArray := prog_1_method_27_code
def yX9_where : MethodName := ⟨RX9, "where", "(I)J"⟩
abbrev cX9_laws : ByteArray := prog_1_method_28_code
def yX9_laws : MethodName := ⟨RX9, "laws", "(II)I"⟩
abbrev cX9_film : ByteArray := prog_1_method_29_code
def yX9_film : MethodName := ⟨RX9, "film", "(III)I"⟩
abbrev cX9_drawn : ByteArray := prog_1_method_30_code
def yX9_drawn : MethodName := ⟨RX9, "drawn", "(III)I"⟩
abbrev cX9_odds : ByteArray := prog_1_method_31_code
def yX9_odds : MethodName := ⟨RX9, "odds", "(IIIII)J"⟩
abbrev cX9_image : ByteArray := prog_1_method_32_code
def yX9_image : MethodName := ⟨RX9, "image", "()I"⟩
abbrev cX9_back : ByteArray := prog_1_method_33_code
def yX9_back : MethodName := ⟨RX9, "back", "()I"⟩
abbrev cX9_sheet : ByteArray := prog_1_method_34_code
def yX9_sheet : MethodName := ⟨RX9, "sheet", "(III)I"⟩
abbrev cX9_cell : ByteArray := prog_1_method_35_code
def yX9_cell : MethodName := ⟨RX9, "cell", "(III)I"⟩
abbrev cX9_copy : ByteArray := prog_1_method_36_code
def yX9_copy : MethodName := ⟨RX9, "copy", "(IIIII)I"⟩
abbrev cX9_rugsBy : ByteArray := prog_1_method_37_code
def yX9_rugsBy : MethodName := ⟨RX9, "rugsBy", "(IIII)I"⟩
abbrev cX9_taken : ByteArray := prog_1_method_38_code
def yX9_taken : MethodName := ⟨RX9, "taken", "(II)I"⟩
abbrev cX9_readTape : ByteArray := prog_1_method_39_code
def yX9_readTape : MethodName := ⟨RX9, "readTape", "()I"⟩
abbrev cX9_refusesWalk : ByteArray := prog_1_method_40_code
def yX9_refusesWalk : MethodName := ⟨RX9, "refusesWalk", "(I)I"⟩
abbrev cX9_refusesFines : ByteArray := prog_1_method_41_code
def yX9_refusesFines : MethodName := ⟨RX9, "refusesFines", "(II)I"⟩
abbrev cX9_goThrough : ByteArray := prog_1_method_42_code
def yX9_goThrough : MethodName := ⟨RX9, "goThrough", "(I)I"⟩
abbrev cX9_isByte : ByteArray := prog_1_method_43_code
def yX9_isByte : MethodName := ⟨RX9, "isByte", "(I)Z"⟩
abbrev cX9_isSeed : ByteArray := prog_1_method_44_code
def yX9_isSeed : MethodName := ⟨RX9, "isSeed", "(I)Z"⟩
abbrev cX9_isCellSteps : ByteArray := prog_1_method_45_code
def yX9_isCellSteps : MethodName := ⟨RX9, "isCellSteps", "(I)Z"⟩
abbrev cX9_isCell : ByteArray := prog_1_method_46_code
def yX9_isCell : MethodName := ⟨RX9, "isCell", "(I)Z"⟩
abbrev cX9_columnOf : ByteArray := prog_1_method_47_code
def yX9_columnOf : MethodName := ⟨RX9, "columnOf", "(I)I"⟩
abbrev cX9_rowOf : ByteArray := prog_1_method_48_code
def yX9_rowOf : MethodName := ⟨RX9, "rowOf", "(I)I"⟩
abbrev cX9_areCorners : ByteArray := prog_1_method_49_code
def yX9_areCorners : MethodName := ⟨RX9, "areCorners", "(I)Z"⟩
abbrev cX9_stepFrom : ByteArray := prog_1_method_50_code
def yX9_stepFrom : MethodName := ⟨RX9, "stepFrom", "(II)I"⟩
abbrev cX9_areBeside : ByteArray := prog_1_method_51_code
def yX9_areBeside : MethodName := ⟨RX9, "areBeside", "(II)Z"⟩
abbrev cX9_isWalk : ByteArray := prog_1_method_52_code
def yX9_isWalk : MethodName := ⟨RX9, "isWalk", "([II)Z"⟩
abbrev cX9_isA : ByteArray := prog_1_method_53_code
def yX9_isA : MethodName := ⟨RX9, "isA", "(II)Z"⟩
abbrev cX9_inLowestTerms : ByteArray := prog_1_method_54_code
def yX9_inLowestTerms : MethodName := ⟨RX9, "inLowestTerms", "(III)J"⟩
def RX10 : String := "RugIsJurisdictionModel"
def TX10 : u_T := fun k => match k with
  | 0 => ("RugIsJurisdictionModel", "rugs", "I", false)
  | 1 => ("RugIsJurisdictionModel", "kind", "[I", true)
  | 2 => ("RugIsJurisdictionModel", "moreOf", "[I", true)
  | 3 => ("RugIsJurisdictionModel", "rows", "[I", true)
  | 4 => ("RugIsJurisdictionModel", "hour", "I", false)
  | 5 => ("RugIsJurisdictionModel", "tape", "[I", true)
  | 6 => ("RugIsJurisdictionModel", "taped", "I", false)
  | 7 => ("RugIsJurisdictionModel", "codes", "[I", true)
  | 8 => ("RugIsJurisdictionModel", "starts", "[I", true)
  | 9 => ("RugIsJurisdictionModel", "texts", "I", false)
  | 10 => ("RugIsJurisdictionModel", "rule", "I", false)
  | 11 => ("RugIsJurisdictionModel", "hasImage", "Z", false)
  | 12 => ("RugIsJurisdictionModel", "imageRows", "[I", true)
  | 13 => ("RugIsJurisdictionModel", "imageHeld", "[I", true)
  | 14 => ("RugIsJurisdictionModel", "sheetSort", "[I", true)
  | 15 => ("RugIsJurisdictionModel", "sheetSize", "[I", true)
  | 16 => ("RugIsJurisdictionModel", "cells", "[I", true)
  | 17 => ("RugIsJurisdictionModel", "law", "[I", true)
  | 18 => ("RugIsJurisdictionModel", "at", "I", false)
  | 19 => ("RugIsJurisdictionModel", "begun", "I", false)
  | 20 => ("RugIsJurisdictionModel", "token", "I", false)
  | 21 => ("RugIsJurisdictionModel", "value", "I", false)
  | 22 => ("RugIsJurisdictionModel", "words", "[I", true)
  | 23 => ("RugIsJurisdictionModel", "held", "[I", true)
  | 24 => ("RugIsJurisdictionModel", "heldMany", "I", false)
  | 25 => ("RugIsJurisdictionModel", "opens", "I", false)
  | 26 => ("RugIsJurisdictionModel", "out", "I", false)
  | 27 => ("RugIsJurisdictionModel", "stack", "[I", true)
  | 28 => ("RugIsJurisdictionModel", "named", "[I", true)
  | 29 => ("RugIsJurisdictionModel", "ruler", "[I", true)
  | 30 => ("RugIsJurisdictionModel", "stopAt", "I", false)
  | 31 => ("RugIsJurisdictionModel", "fines", "I", false)
  | 32 => ("RugIsJurisdictionModel", "borders0", "I", false)
  | 33 => ("RugIsJurisdictionModel", "ruling", "I", false)
  | 34 => ("RugIsJurisdictionModel", "weight", "[I", true)
  | 35 => ("RugIsJurisdictionModel", "wayTo", "[I", true)
  | _ => ("RugIsJurisdictionModel", "lastCell", "I", false)
def tyX10 : Nat → FieldType := fun k => match k with
  | 0 => .int
  | 1 => .array .int
  | 2 => .array .int
  | 3 => .array .int
  | 4 => .int
  | 5 => .array .int
  | 6 => .int
  | 7 => .array .int
  | 8 => .array .int
  | 9 => .int
  | 10 => .int
  | 11 => .boolean
  | 12 => .array .int
  | 13 => .array .int
  | 14 => .array .int
  | 15 => .array .int
  | 16 => .array .int
  | 17 => .array .int
  | 18 => .int
  | 19 => .int
  | 20 => .int
  | 21 => .int
  | 22 => .array .int
  | 23 => .array .int
  | 24 => .int
  | 25 => .int
  | 26 => .int
  | 27 => .array .int
  | 28 => .array .int
  | 29 => .array .int
  | 30 => .int
  | 31 => .int
  | 32 => .int
  | 33 => .int
  | 34 => .array .int
  | 35 => .array .int
  | _ => .int
abbrev wsX100 : List Cond := u_ws RX10 TX10 37
theorem nmX10 : ∀ a, a < 37 → ∀ b, b < 37 → a ≠ b → (TX10 a).2.1 ≠ (TX10 b).2.1 := by decide +kernel
theorem tyX10_ok : ∀ k, k < 37 → parseFieldDescriptor (TX10 k).2.2.1 = some (tyX10 k) := by decide +kernel
abbrev cX10_init : ByteArray := prog_12_method_1_code
def yX10_init : MethodName := ⟨RX10, "<init>", "()V"⟩
abbrev cX10_in : ByteArray := prog_12_method_3_code
def yX10_in : MethodName := ⟨RX10, "in", "(III)Z"⟩
abbrev cX10_within : ByteArray := prog_12_method_4_code
def yX10_within : MethodName := ⟨RX10, "within", "(III)I"⟩
abbrev cX10_isRug : ByteArray := prog_12_method_5_code
def yX10_isRug : MethodName := ⟨RX10, "isRug", "(I)Z"⟩
abbrev cX10_isCell : ByteArray := prog_12_method_6_code
def yX10_isCell : MethodName := ⟨RX10, "isCell", "(I)Z"⟩
abbrev cX10_areCorners : ByteArray := prog_12_method_7_code
def yX10_areCorners : MethodName := ⟨RX10, "areCorners", "(I)Z"⟩
abbrev cX10_without0 : ByteArray := prog_12_method_8_code
def yX10_without0 : MethodName := ⟨RX10, "without0", "(II)I"⟩
abbrev cX10_isBeside : ByteArray := prog_12_method_9_code
def yX10_isBeside : MethodName := ⟨RX10, "isBeside", "(II)Z"⟩
abbrev cX10_lies : ByteArray := prog_12_method_10_code
def yX10_lies : MethodName := ⟨RX10, "lies", "(II)Z"⟩
abbrev cX10_isFringe : ByteArray := prog_12_method_11_code
def yX10_isFringe : MethodName := ⟨RX10, "isFringe", "(II)Z"⟩
abbrev cX10_sizeOf : ByteArray := prog_12_method_12_code
def yX10_sizeOf : MethodName := ⟨RX10, "sizeOf", "(I)I"⟩
abbrev cX10_count : ByteArray := prog_12_method_13_code
def yX10_count : MethodName := ⟨RX10, "count", "(I)I"⟩
abbrev cX10_strikes : ByteArray := prog_12_method_14_code
def yX10_strikes : MethodName := ⟨RX10, "strikes", "(I)I"⟩
abbrev cX10_isByte : ByteArray := prog_12_method_15_code
def yX10_isByte : MethodName := ⟨RX10, "isByte", "(I)Z"⟩
abbrev cX10_feed : ByteArray := prog_12_method_16_code
def yX10_feed : MethodName := ⟨RX10, "feed", "(IIIIII)I"⟩
abbrev cX10_wordFrom : ByteArray := prog_12_method_17_code
def yX10_wordFrom : MethodName := ⟨RX10, "wordFrom", "(II)I"⟩
abbrev cX10_next : ByteArray := prog_12_method_18_code
def yX10_next : MethodName := ⟨RX10, "next", "()V"⟩
abbrev cX10_rank : ByteArray := prog_12_method_19_code
def yX10_rank : MethodName := ⟨RX10, "rank", "(I)I"⟩
abbrev cX10_puts : ByteArray := prog_12_method_20_code
def yX10_puts : MethodName := ⟨RX10, "puts", "(I)V"⟩
abbrev cX10_unwinds : ByteArray := prog_12_method_21_code
def yX10_unwinds : MethodName := ⟨RX10, "unwinds", "(I)V"⟩
abbrev cX10_holds : ByteArray := prog_12_method_22_code
def yX10_holds : MethodName := ⟨RX10, "holds", "(I)V"⟩
abbrev cX10_opensOne : ByteArray := prog_12_method_23_code
def yX10_opensOne : MethodName := ⟨RX10, "opensOne", "(I)Z"⟩
abbrev cX10_between : ByteArray := prog_12_method_24_code
def yX10_between : MethodName := ⟨RX10, "between", "(I)Z"⟩
abbrev cX10_signOf : ByteArray := prog_12_method_25_code
def yX10_signOf : MethodName := ⟨RX10, "signOf", "()I"⟩
abbrev cX10_eRead : ByteArray := prog_12_method_26_code
def yX10_eRead : MethodName := ⟨RX10, "eRead", "()Z"⟩
abbrev cX10_text : ByteArray := prog_12_method_27_code
def yX10_text : MethodName := ⟨RX10, "text", "()I"⟩
abbrev cX10_two : ByteArray := prog_12_method_28_code
def yX10_two : MethodName := ⟨RX10, "two", "(III)I"⟩
abbrev cX10_says : ByteArray := prog_12_method_29_code
def yX10_says : MethodName := ⟨RX10, "says", "(I)I"⟩
abbrev cX10_force : ByteArray := prog_12_method_30_code
def yX10_force : MethodName := ⟨RX10, "force", "(I)I"⟩
abbrev cX10_asksOf : ByteArray := prog_12_method_31_code
def yX10_asksOf : MethodName := ⟨RX10, "asksOf", "(III)I"⟩
abbrev cX10_asks : ByteArray := prog_12_method_32_code
def yX10_asks : MethodName := ⟨RX10, "asks", "(III)I"⟩
abbrev cX10_spread : ByteArray := prog_12_method_33_code
def yX10_spread : MethodName := ⟨RX10, "spread", "(II)I"⟩
abbrev cX10_cornersOf : ByteArray := prog_12_method_34_code
def yX10_cornersOf : MethodName := ⟨RX10, "cornersOf", "(I)I"⟩
abbrev cX10_put : ByteArray := prog_12_method_35_code
def yX10_put : MethodName := ⟨RX10, "put", "(III)I"⟩
abbrev cX10_isNursed : ByteArray := prog_12_method_36_code
def yX10_isNursed : MethodName := ⟨RX10, "isNursed", "(II)Z"⟩
abbrev cX10_isAsleep : ByteArray := prog_12_method_37_code
def yX10_isAsleep : MethodName := ⟨RX10, "isAsleep", "(I)Z"⟩
abbrev cX10_rulesBut : ByteArray := prog_12_method_38_code
def yX10_rulesBut : MethodName := ⟨RX10, "rulesBut", "(I)V"⟩
abbrev cX10_finedBy : ByteArray := prog_12_method_39_code
def yX10_finedBy : MethodName := ⟨RX10, "finedBy", "(II)I"⟩
abbrev cX10_finedAt : ByteArray := prog_12_method_40_code
def yX10_finedAt : MethodName := ⟨RX10, "finedAt", "(I)I"⟩
abbrev cX10_isLetOn : ByteArray := prog_12_method_41_code
def yX10_isLetOn : MethodName := ⟨RX10, "isLetOn", "(I)Z"⟩
abbrev cX10_ruledBy : ByteArray := prog_12_method_42_code
def yX10_ruledBy : MethodName := ⟨RX10, "ruledBy", "(I)I"⟩
abbrev cX10_ruledNow : ByteArray := prog_12_method_43_code
def yX10_ruledNow : MethodName := ⟨RX10, "ruledNow", "(I)I"⟩
abbrev cX10_told : ByteArray := prog_12_method_44_code
def yX10_told : MethodName := ⟨RX10, "told", "(II)I"⟩
abbrev cX10_over : ByteArray := prog_12_method_45_code
def yX10_over : MethodName := ⟨RX10, "over", "(II)I"⟩
abbrev cX10_rules : ByteArray := prog_12_method_46_code
def yX10_rules : MethodName := ⟨RX10, "rules", "(I)J"⟩
abbrev cX10_walkWrong : ByteArray := prog_12_method_47_code
def yX10_walkWrong : MethodName := ⟨RX10, "walkWrong", "(I)I"⟩
abbrev cX10_goesOver : ByteArray := prog_12_method_48_code
def yX10_goesOver : MethodName := ⟨RX10, "goesOver", "(I)V"⟩
abbrev cX10_walk : ByteArray := prog_12_method_49_code
def yX10_walk : MethodName := ⟨RX10, "walk", "(II)I"⟩
abbrev cX10_visit : ByteArray := prog_12_method_50_code
def yX10_visit : MethodName := ⟨RX10, "visit", "(I)I"⟩
abbrev cX10_besideOf : ByteArray := prog_12_method_51_code
def yX10_besideOf : MethodName := ⟨RX10, "besideOf", "(II)I"⟩
abbrev cX10_ball : ByteArray := prog_12_method_52_code
def yX10_ball : MethodName := ⟨RX10, "ball", "(III)I"⟩
abbrev cX10_relaxes : ByteArray := prog_12_method_53_code
def yX10_relaxes : MethodName := ⟨RX10, "relaxes", "(IIZ)Z"⟩
abbrev cX10_way : ByteArray := prog_12_method_54_code
def yX10_way : MethodName := ⟨RX10, "way", "(II)I"⟩
abbrev cX10_besides : ByteArray := prog_12_method_55_code
def yX10_besides : MethodName := ⟨RX10, "besides", "(I)I"⟩
abbrev cX10_borders : ByteArray := prog_12_method_56_code
def yX10_borders : MethodName := ⟨RX10, "borders", "(I)I"⟩
abbrev cX10_league : ByteArray := prog_12_method_57_code
def yX10_league : MethodName := ⟨RX10, "league", "(II)I"⟩
abbrev cX10_place : ByteArray := prog_12_method_58_code
def yX10_place : MethodName := ⟨RX10, "place", "(II)I"⟩
abbrev cX10_finedAll : ByteArray := prog_12_method_59_code
def yX10_finedAll : MethodName := ⟨RX10, "finedAll", "(I)I"⟩
abbrev cX10_freest : ByteArray := prog_12_method_60_code
def yX10_freest : MethodName := ⟨RX10, "freest", "(I)I"⟩
abbrev cX10_fold : ByteArray := prog_12_method_61_code
def yX10_fold : MethodName := ⟨RX10, "fold", "(I)I"⟩
abbrev cX10_lowest : ByteArray := prog_12_method_62_code
def yX10_lowest : MethodName := ⟨RX10, "lowest", "(JJI)J"⟩
abbrev cX10_share : ByteArray := prog_12_method_63_code
def yX10_share : MethodName := ⟨RX10, "share", "(II)J"⟩
abbrev cX10_mean : ByteArray := prog_12_method_64_code
def yX10_mean : MethodName := ⟨RX10, "mean", "(II)J"⟩
abbrev cX10_sheetWrong : ByteArray := prog_12_method_65_code
def yX10_sheetWrong : MethodName := ⟨RX10, "sheetWrong", "(I)I"⟩
abbrev cX10_toldWrong : ByteArray := prog_12_method_66_code
def yX10_toldWrong : MethodName := ⟨RX10, "toldWrong", "(II)I"⟩
abbrev cX10_unlike : ByteArray := prog_12_method_67_code
def yX10_unlike : MethodName := ⟨RX10, "unlike", "(II)I"⟩
abbrev cX10_judge : ByteArray := prog_12_method_68_code
def yX10_judge : MethodName := ⟨RX10, "judge", "(II)I"⟩
abbrev cX10_kinds : ByteArray := prog_12_method_69_code
def yX10_kinds : MethodName := ⟨RX10, "kinds", "(IIII)I"⟩
abbrev cX10_crowds : ByteArray := prog_12_method_70_code
def yX10_crowds : MethodName := ⟨RX10, "crowds", "(IIII)I"⟩
abbrev cX10_where : ByteArray := prog_12_method_71_code
def yX10_where : MethodName := ⟨RX10, "where", "(I)J"⟩
abbrev cX10_laws : ByteArray := prog_12_method_72_code
def yX10_laws : MethodName := ⟨RX10, "laws", "(II)I"⟩
abbrev cX10_film : ByteArray := prog_12_method_73_code
def yX10_film : MethodName := ⟨RX10, "film", "(III)I"⟩
abbrev cX10_walksBy : ByteArray := prog_12_method_74_code
def yX10_walksBy : MethodName := ⟨RX10, "walksBy", "(II)V"⟩
abbrev cX10_drawn : ByteArray := prog_12_method_75_code
def yX10_drawn : MethodName := ⟨RX10, "drawn", "(III)I"⟩
abbrev cX10_odds : ByteArray := prog_12_method_76_code
def yX10_odds : MethodName := ⟨RX10, "odds", "(IIIII)J"⟩
abbrev cX10_image : ByteArray := prog_12_method_77_code
def yX10_image : MethodName := ⟨RX10, "image", "()I"⟩
abbrev cX10_back : ByteArray := prog_12_method_78_code
def yX10_back : MethodName := ⟨RX10, "back", "()I"⟩
abbrev cX10_sheet : ByteArray := prog_12_method_79_code
def yX10_sheet : MethodName := ⟨RX10, "sheet", "(III)I"⟩
abbrev cX10_cell : ByteArray := prog_12_method_80_code
def yX10_cell : MethodName := ⟨RX10, "cell", "(III)I"⟩
abbrev cX10_copy : ByteArray := prog_12_method_81_code
def yX10_copy : MethodName := ⟨RX10, "copy", "(IIIII)I"⟩
abbrev cX10_rugsBy : ByteArray := prog_12_method_82_code
def yX10_rugsBy : MethodName := ⟨RX10, "rugsBy", "(IIII)I"⟩
abbrev cX10_isUnder : ByteArray := prog_12_method_83_code
def yX10_isUnder : MethodName := ⟨RX10, "isUnder", "(II)Z"⟩
abbrev cX10_taken : ByteArray := prog_12_method_84_code
def yX10_taken : MethodName := ⟨RX10, "taken", "(II)I"⟩
def RJ11 : String := "java/lang/Character"
def TJ11 : u_T := fun k => match k with
  | _ => ("", "", "", false)
def tyJ11 : Nat → FieldType := fun k => match k with
  | _ => .int
abbrev wsJ110 : List Cond := u_ws RJ11 TJ11 0
theorem nmJ11 : ∀ a, a < 0 → ∀ b, b < 0 → a ≠ b → (TJ11 a).2.1 ≠ (TJ11 b).2.1 := by decide +kernel
theorem tyJ11_ok : ∀ k, k < 0 → parseFieldDescriptor (TJ11 k).2.2.1 = some (tyJ11 k) := by decide +kernel
abbrev cJ11_isValidCodePoint_9a6ad : ByteArray := prog_13_method_11_code
def yJ11_isValidCodePoint_9a6ad : MethodName := ⟨RJ11, "isValidCodePoint", "(I)Z"⟩
abbrev cJ11_highSurrogate_5068e : ByteArray := prog_13_method_28_code
def yJ11_highSurrogate_5068e : MethodName := ⟨RJ11, "highSurrogate", "(I)C"⟩
abbrev cJ11_lowSurrogate_5068e : ByteArray := prog_13_method_29_code
def yJ11_lowSurrogate_5068e : MethodName := ⟨RJ11, "lowSurrogate", "(I)C"⟩
def RJ9 : String := "java/lang/Math"
def TJ9 : u_T := fun k => match k with
  | _ => ("", "", "", false)
def tyJ9 : Nat → FieldType := fun k => match k with
  | _ => .int
abbrev wsJ90 : List Cond := u_ws RJ9 TJ9 0
theorem nmJ9 : ∀ a, a < 0 → ∀ b, b < 0 → a ≠ b → (TJ9 a).2.1 ≠ (TJ9 b).2.1 := by decide +kernel
theorem tyJ9_ok : ∀ k, k < 0 → parseFieldDescriptor (TJ9 k).2.2.1 = some (tyJ9 k) := by decide +kernel
abbrev cJ9_abs_0f7a4 : ByteArray := prog_14_method_59_code
def yJ9_abs_0f7a4 : MethodName := ⟨RJ9, "abs", "(I)I"⟩
abbrev cJ9_max_7cf53 : ByteArray := prog_14_method_65_code
def yJ9_max_7cf53 : MethodName := ⟨RJ9, "max", "(II)I"⟩
abbrev cJ9_min_7cf53 : ByteArray := prog_14_method_69_code
def yJ9_min_7cf53 : MethodName := ⟨RJ9, "min", "(II)I"⟩
def RJ0 : String := "java/lang/String"
def TJ0 : u_T := fun k => match k with
  | _ => ("", "", "", false)
def tyJ0 : Nat → FieldType := fun k => match k with
  | _ => .int
abbrev wsJ00 : List Cond := u_ws RJ0 TJ0 0
theorem nmJ0 : ∀ a, a < 0 → ∀ b, b < 0 → a ≠ b → (TJ0 a).2.1 ≠ (TJ0 b).2.1 := by decide +kernel
theorem tyJ0_ok : ∀ k, k < 0 → parseFieldDescriptor (TJ0 k).2.2.1 = some (tyJ0 k) := by decide +kernel
abbrev cJ0_length_8abf5 : ByteArray := prog_15_method_54_code
def yJ0_length_8abf5 : MethodName := ⟨RJ0, "length", "()I"⟩
abbrev cJ0_charAt_5068e : ByteArray := prog_15_method_56_code
def yJ0_charAt_5068e : MethodName := ⟨RJ0, "charAt", "(I)C"⟩
abbrev cJ0_indexOf_0f7a4 : ByteArray := prog_15_method_79_code
def yJ0_indexOf_0f7a4 : MethodName := ⟨RJ0, "indexOf", "(I)I"⟩
abbrev cJ0_indexOf_7cf53 : ByteArray := prog_15_method_80_code
def yJ0_indexOf_7cf53 : MethodName := ⟨RJ0, "indexOf", "(II)I"⟩
abbrev cJ0_coder_7d493 : ByteArray := prog_15_method_152_code
def yJ0_coder_7d493 : MethodName := ⟨RJ0, "coder", "()B"⟩
abbrev cJ0_isLatin1_aae02 : ByteArray := prog_15_method_154_code
def yJ0_isLatin1_aae02 : MethodName := ⟨RJ0, "isLatin1", "()Z"⟩
abbrev cJ0_checkIndex_df160 : ByteArray := prog_15_method_155_code
def yJ0_checkIndex_df160 : MethodName := ⟨RJ0, "checkIndex", "(II)V"⟩
abbrev cJ0_checkBoundsBeginEnd_23922 : ByteArray := prog_15_method_158_code
def yJ0_checkBoundsBeginEnd_23922 : MethodName := ⟨RJ0, "checkBoundsBeginEnd", "(III)V"⟩
def RJ1 : String := "java/lang/StringLatin1"
def TJ1 : u_T := fun k => match k with
  | _ => ("", "", "", false)
def tyJ1 : Nat → FieldType := fun k => match k with
  | _ => .int
abbrev wsJ10 : List Cond := u_ws RJ1 TJ1 0
theorem nmJ1 : ∀ a, a < 0 → ∀ b, b < 0 → a ≠ b → (TJ1 a).2.1 ≠ (TJ1 b).2.1 := by decide +kernel
theorem tyJ1_ok : ∀ k, k < 0 → parseFieldDescriptor (TJ1 k).2.2.1 = some (tyJ1 k) := by decide +kernel
abbrev cJ1_charAt_3b067 : ByteArray := prog_16_method_2_code
def yJ1_charAt_3b067 : MethodName := ⟨RJ1, "charAt", "([BI)C"⟩
abbrev cJ1_canEncode_9a6ad : ByteArray := prog_16_method_4_code
def yJ1_canEncode_9a6ad : MethodName := ⟨RJ1, "canEncode", "(I)Z"⟩
abbrev cJ1_indexOf_4cfef : ByteArray := prog_16_method_22_code
def yJ1_indexOf_4cfef : MethodName := ⟨RJ1, "indexOf", "([BIII)I"⟩
abbrev cJ1_indexOfChar_4cfef : ByteArray := prog_16_method_23_code
def yJ1_indexOfChar_4cfef : MethodName := ⟨RJ1, "indexOfChar", "([BIII)I"⟩
def RJ2 : String := "java/lang/StringUTF16"
def TJ2 : u_T := fun k => match k with
  | _ => ("", "", "", false)
def tyJ2 : Nat → FieldType := fun k => match k with
  | _ => .int
abbrev wsJ20 : List Cond := u_ws RJ2 TJ2 0
theorem nmJ2 : ∀ a, a < 0 → ∀ b, b < 0 → a ≠ b → (TJ2 a).2.1 ≠ (TJ2 b).2.1 := by decide +kernel
theorem tyJ2_ok : ∀ k, k < 0 → parseFieldDescriptor (TJ2 k).2.2.1 = some (tyJ2 k) := by decide +kernel
abbrev cJ2_getChar_3b067 : ByteArray := prog_17_method_5_code
def yJ2_getChar_3b067 : MethodName := ⟨RJ2, "getChar", "([BI)C"⟩
abbrev cJ2_length_9d52b : ByteArray := prog_17_method_6_code
def yJ2_length_9d52b : MethodName := ⟨RJ2, "length", "([B)I"⟩
abbrev cJ2_indexOf_4cfef : ByteArray := prog_17_method_40_code
def yJ2_indexOf_4cfef : MethodName := ⟨RJ2, "indexOf", "([BIII)I"⟩
abbrev cJ2_indexOfChar_4cfef : ByteArray := prog_17_method_47_code
def yJ2_indexOfChar_4cfef : MethodName := ⟨RJ2, "indexOfChar", "([BIII)I"⟩
abbrev cJ2_indexOfCharUnsafe_4cfef : ByteArray := prog_17_method_48_code
def yJ2_indexOfCharUnsafe_4cfef : MethodName := ⟨RJ2, "indexOfCharUnsafe", "([BIII)I"⟩
abbrev cJ2_indexOfSupplementary_4cfef : ByteArray := prog_17_method_49_code
def yJ2_indexOfSupplementary_4cfef : MethodName := ⟨RJ2, "indexOfSupplementary", "([BIII)I"⟩
abbrev cJ2_charAt_3b067 : ByteArray := prog_17_method_83_code
def yJ2_charAt_3b067 : MethodName := ⟨RJ2, "charAt", "([BI)C"⟩
abbrev cJ2_checkIndex_2214a : ByteArray := prog_17_method_91_code
def yJ2_checkIndex_2214a : MethodName := ⟨RJ2, "checkIndex", "(I[B)V"⟩
abbrev cJ2_checkBoundsBeginEnd_d044e : ByteArray := prog_17_method_93_code
def yJ2_checkBoundsBeginEnd_d044e : MethodName := ⟨RJ2, "checkBoundsBeginEnd", "(II[B)V"⟩
def RJ10 : String := "java/lang/System"
def TJ10 : u_T := fun k => match k with
  | _ => ("", "", "", false)
def tyJ10 : Nat → FieldType := fun k => match k with
  | _ => .int
abbrev wsJ100 : List Cond := u_ws RJ10 TJ10 0
theorem nmJ10 : ∀ a, a < 0 → ∀ b, b < 0 → a ≠ b → (TJ10 a).2.1 ≠ (TJ10 b).2.1 := by decide +kernel
theorem tyJ10_ok : ∀ k, k < 0 → parseFieldDescriptor (TJ10 k).2.2.1 = some (tyJ10 k) := by decide +kernel
def RJ3 : String := "jdk/internal/util/Preconditions"
def TJ3 : u_T := fun k => match k with
  | _ => ("", "", "", false)
def tyJ3 : Nat → FieldType := fun k => match k with
  | _ => .int
abbrev wsJ30 : List Cond := u_ws RJ3 TJ3 0
theorem nmJ3 : ∀ a, a < 0 → ∀ b, b < 0 → a ≠ b → (TJ3 a).2.1 ≠ (TJ3 b).2.1 := by decide +kernel
theorem tyJ3_ok : ∀ k, k < 0 → parseFieldDescriptor (TJ3 k).2.2.1 = some (tyJ3 k) := by decide +kernel
abbrev cJ3_checkIndex_8e157 : ByteArray := prog_19_method_11_code
def yJ3_checkIndex_8e157 : MethodName := ⟨RJ3, "checkIndex", "(IILjava/util/function/BiFunction;)I"⟩
abbrev cJ3_checkFromToIndex_8c36e : ByteArray := prog_19_method_12_code
def yJ3_checkFromToIndex_8c36e : MethodName := ⟨RJ3, "checkFromToIndex", "(IIILjava/util/function/BiFunction;)I"⟩
def RL : String := "RugIsJurisdictionLaw"
abbrev cL_law : ByteArray := code
def yL_law : MethodName := ⟨RL, "law", "([I)Z"⟩
abbrev vwCl : List vw_C := [(RX0, TX0, 12), (RX1, TX1, 7), (RX2, TX2, 4), (RX3, TX3, 6), (RX4, TX4, 3), (RX5, TX5, 5), (RX6, TX6, 5), (RX7, TX7, 5), (RX8, TX8, 3), (RX9, TX9, 9), (RX10, TX10, 37)]
end
section
/-! ===== the judgement: a machine at a place of a method, over cells of a known shape and a memory of ints ===== -/
def ax_T : List Cond := lw_tbl.filter goodWord
theorem ax_in {w : Cond} (h : w ∈ tables_1) (hg : goodWord w = true) : w ∈ ax_T := List.mem_filter.mpr ⟨by unfold lw_tbl; exact List.mem_append_right _ h, hg⟩
theorem ax_in2 {w : Cond} (h : w ∈ lw_tbl) (hg : goodWord w = true) : w ∈ ax_T := List.mem_filter.mpr ⟨h, hg⟩
abbrev ax_M : Type := Nat → Nat → Int32
/-- a cell: an object (its class, its fields: an int, null, a cell), a row of ints or booleans (which, how long), a row of rows (the first of them, how many) -/
abbrev ax_E : Type := (Nat × List (Option (Option Nat))) ⊕ ((Nat × Nat) ⊕ (Nat × Nat))
/-- where the cells begin; the classes; the rows' classes; where the texts and their bytes lie -/
abbrev ax_G : Type := Nat × (va_G × ((Nat → ClassId) × ((Nat → Nat) × (Nat → Nat))))
def ax_w (μ : ax_M) (k i : Nat) (v : Int32) : ax_M := fun k' i' => if k' = k then (if i' = i then v else μ k' i') else μ k' i'
def ax_z (μ : ax_M) (k : Nat) : ax_M := fun k' i' => if k' = k then 0 else μ k' i'
def ax_zz (μ : ax_M) (k n : Nat) : ax_M := fun k' i' => if k ≤ k' ∧ k' < k + n then 0 else μ k' i'
def ax_cp (μ : ax_M) (a sp b dp n : Nat) : ax_M := fun k' i' => if k' = b then (va_cpy (μ a) (μ b) sp dp n i') else μ k' i'
def ax_fv (z : Nat) (μ : ax_M) (k j : Nat) (f : Option (Option Nat)) : Value := match f with
  | none => .int (μ k j)
  | some none => .null
  | some (some q) => .ref (z + q)
def ax_fs (z : Nat) (μ : ax_M) (k : Nat) (fs : List (Option (Option Nat))) : List Value := fs.mapIdx (fun j f => ax_fv z μ k j f)
def ax_en (G : ax_G) (μ : ax_M) (k : Nat) (e : ax_E) : va_E := match e with
  | .inl o => .inr (o.1, ax_fs G.1 μ k o.2)
  | .inr (.inl a) => .inl (G.2.2.1 a.1, (a.2, .inl (μ k)))
  | .inr (.inr b) => .inl (G.2.2.1 2, (b.2, .inr (.inr (.inr (.inr (fun i => if i < b.2 then some (G.1 + (b.1 + i)) else none))))))
def ax_H (G : ax_G) (sh : List ax_E) (μ : ax_M) (H : Heap) : Prop := H.size = G.1 + sh.length ∧ ∀ (k : Nat) (e : ax_E), sh[k]? = some e → va_at G.2.1 vwCl (G.1 + k, ax_en G μ k e) H
def ax_ty : List FieldType := [.int, .boolean, .array .int]
def ax_tys (G : ax_G) : List (ClassId × FieldType) := [(G.2.2.1 0, .int), (G.2.2.1 1, .boolean), (G.2.2.1 2, .array .int)]
def ax_strs : List (String × Nat × String × List Int32) := [("RugIsJurisdiction", 78, "fines 1 + guests ; admits guests < 20 ; sleeps hour < 6 ;", [102, 105, 110, 101, 115, 32, 49, 32, 43, 32, 103, 117, 101, 115, 116, 115, 32, 59, 32, 97, 100, 109, 105, 116, 115, 32, 103, 117, 101, 115, 116, 115, 32, 60, 32, 50, 48, 32, 59, 32, 115, 108, 101, 101, 112, 115, 32, 104, 111, 117, 114, 32, 60, 32, 54, 32, 59]), ("RugIsJurisdiction$Tape", 70, "column", [99, 111, 108, 117, 109, 110]), ("RugIsJurisdiction$Tape", 72, "row", [114, 111, 119]), ("RugIsJurisdiction$Tape", 74, "hour", [104, 111, 117, 114]), ("RugIsJurisdiction$Tape", 76, "guests", [103, 117, 101, 115, 116, 115]), ("RugIsJurisdiction$Tape", 78, "size", [115, 105, 122, 101]), ("RugIsJurisdiction$Tape", 79, "more", [109, 111, 114, 101]), ("RugIsJurisdiction$Tape", 81, "or", [111, 114]), ("RugIsJurisdiction$Tape", 83, "and", [97, 110, 100]), ("RugIsJurisdiction$Tape", 85, "not", [110, 111, 116]), ("RugIsJurisdiction$Tape", 87, "fines", [102, 105, 110, 101, 115]), ("RugIsJurisdiction$Tape", 89, "admits", [97, 100, 109, 105, 116, 115]), ("RugIsJurisdiction$Tape", 91, "sleeps", [115, 108, 101, 101, 112, 115]), ("RugIsJurisdiction$Tape", 93, "<=+-*();", [60, 61, 43, 45, 42, 40, 41, 59])]
def ax_nests : List (String × Nat × MethodName × String) := [("RugIsJurisdiction", 9, ⟨"RugIsJurisdiction$Texts", "<init>", "()V"⟩, "RugIsJurisdiction"), ("RugIsJurisdiction", 18, ⟨"RugIsJurisdiction$Tape", "<init>", "()V"⟩, "RugIsJurisdiction"), ("RugIsJurisdiction", 66, ⟨"RugIsJurisdiction$Image", "<init>", "()V"⟩, "RugIsJurisdiction"), ("RugIsJurisdiction$Common", 51, ⟨"RugIsJurisdiction", "columnOf", "(I)I"⟩, "RugIsJurisdiction"), ("RugIsJurisdiction$Common", 55, ⟨"RugIsJurisdiction", "rowOf", "(I)I"⟩, "RugIsJurisdiction"), ("RugIsJurisdiction$Common", 86, ⟨"RugIsJurisdiction", "isA", "(II)Z"⟩, "RugIsJurisdiction"), ("RugIsJurisdiction$Ways", 37, ⟨"RugIsJurisdiction", "stepFrom", "(II)I"⟩, "RugIsJurisdiction"), ("RugIsJurisdiction$Common", 114, ⟨"RugIsJurisdiction", "stepFrom", "(II)I"⟩, "RugIsJurisdiction"), ("RugIsJurisdiction$Lots", 37, ⟨"RugIsJurisdiction", "stepFrom", "(II)I"⟩, "RugIsJurisdiction")]
def ax_len : List Nat := ax_strs.map (fun q => q.2.2.2.length)
def ax_byt : List (List Int32) := ax_strs.map (fun q => q.2.2.2)
/-- what lies below the cells: the texts, the JDK's statics -/
def ax_O (G : ax_G) (s : State) (H : Heap) : Prop := vk_S ax_strs.length ax_len ax_byt G.2.2.2.1 G.2.2.2.2 (fun q => G.1 ≤ q) s H ∧ (∀ (i : Nat) (q : String × Nat × String × List Int32), ax_strs[i]? = some q → vk_R q.1 q.2.1 q.2.2.1 (G.2.2.2.1 i) s) ∧ va_Z "java/lang/String" "COMPACT_STRINGS" "Z" (.int 1) (fun q => G.1 ≤ q) s H ∧ (∃ v : Value, (v = .null ∨ ∃ a, v = .ref a) ∧ va_Z "jdk/internal/util/Preconditions" "SIOOBE_FORMATTER" "Ljava/util/function/BiFunction;" v (fun q => G.1 ≤ q) s H) ∧ (∀ q ∈ ax_nests, va_Nw (.methodLinkNest q.1 q.2.1 q.2.2.1 q.2.2.2) s) ∧ (Cond.arrayOver (.array .int)).before #[] s = true
theorem ax_O.moved {G : ax_G} {u U : State} {H : Heap} (hW : u.WarmedH U.vm) (h : ax_O G u H) : ax_O G U H := by
  obtain ⟨h1, h2, h3, ⟨v, h4, h5⟩, h6, h7⟩ := h
  exact ⟨vk_S.moved hW.alike h1, fun i q hq => vk_R.warm hW (h2 i q hq), va_Z.moved hW.alike h3, ⟨v, h4, va_Z.moved hW.alike h5⟩, fun q hq => va_Nw.warmM hW (h6 q hq), Jvm.Stand.arrayOver_alikeB hW.alike h7⟩
theorem ax_O.kept {G : ax_G} {U : State} {H H1 : Heap} (h : ax_O G U H) (hq : ∀ a : Nat, a < G.1 → H1[a]? = H[a]?) : ax_O G U H1 := by
  obtain ⟨h1, h2, h3, ⟨v, h4, h5⟩, h6, h7⟩ := h
  have hq' : ∀ a : Nat, a < H.size → ¬ (G.1 ≤ a) → H1[a]? = H[a]? := fun a _ h => hq a (Nat.not_le.mp h)
  exact ⟨vk_S.kept h1 hq', h2, va_Z.kept h3 hq', ⟨v, h4, va_Z.kept h5 hq'⟩, h6, h7⟩
def ax_W (G : ax_G) (sh : List ax_E) (μ : ax_M) (s : State) (H : Heap) : Prop := ax_H G sh μ H ∧ va_K G.2.1 vwCl (ax_tys G) s ∧ ax_O G s H
def ax_e1 (e : ax_E) : Nat := match e with
  | .inl o => o.2.length
  | .inr (.inl a) => a.2
  | .inr (.inr b) => b.2
def ax_sl (sh : List ax_E) : Nat := (sh.map ax_e1).sum
/-- what a place of a method takes from its start -/
def ax_C (own : String) (b : ByteArray) (nL : Nat) (rt : Option FieldType) (ini : Bool) (d : Nat) (p : Program) (R : Room) (s : State) (m : MethodId) (args : Array Value) (meth : Method) (c : Code) : Prop :=
  p.tables.exec = Jvm.exec ∧ c.code = b ∧ c.maxLocals = nL ∧ meth.sig.returnType = rt ∧ meth.locks = false ∧ (ini = true → meth.name = "<init>") ∧ s.vm.findClass own = some m.cls ∧ (∀ w ∈ ax_T, w.before args s = true) ∧ d ≤ R.frames ∧ 40 * d ≤ R.locals
abbrev ax_R : Type := Option Value × List ax_E × ax_M
def ax_Q (G : ax_G) (r : ax_R) : Array Value → State → Outcome → State → Prop := fun _ st o t => o = .returned r.1 ∧ ax_H G r.2.1 r.2.2 t.heap ∧ ∀ q, q < G.1 → t.heap[q]? = st.heap[q]?
def ax_X (G : ax_G) (l : Launch) (own : String) (b : ByteArray) (nL : Nat) (rt : Option FieldType) (ini : Bool) (d : Nat) (r : ax_R) (pc : Nat) (lv : List (Nat × Value)) (st : List Value) (sh : List ax_E) (μ : ax_M) : Prop :=
  (sh.length ≤ r.2.1.length ∧ ax_sl sh ≤ ax_sl r.2.1) ∧ ∀ (p : Program) (e : Env) (R : Room) (s : State) (m : MethodId) (args : Array Value) (below : List Frame) (meth : Method) (c : Code) (H : Heap) (locs : List Loc) (cells slots mc ms : Nat) (ls : Array Slot),
    ax_C own b nL rt ini d p R s m args meth c → mc ≤ R.cells → ms ≤ R.slots → cells + r.2.1.length = mc + sh.length → slots + ax_sl r.2.1 = ms + ax_sl sh →
    ax_W G sh μ s H → (∀ q, q < G.1 → H[q]? = s.heap[q]?) → (∀ q ∈ locs, G.1 ≤ q.base) → lv_has ls nL lv →
    W p l e R s m args below meth c H locs cells slots (MQ below (ax_Q G r) args s mc ms (fun q => G.1 ≤ q)) (F0 m pc ls st)
def ax_rm (d mc ms : Nat) : Room := { frames := d, cells := mc, slots := ms, locals := 40 * d }
/-- a method's contract -/
def ax_A (G : ax_G) (l : Launch) (y : MethodName) (b : ByteArray) (nL : Nat) (rt : Option FieldType) (d : Nat) (args : List Value) (sh : List ax_E) (μ : ax_M) (r : ax_R) : Prop :=
  (sh.length ≤ r.2.1.length ∧ ax_sl sh ≤ ax_sl r.2.1) ∧ Met l y (.code y b nL rt :: ax_T) (ax_rm d (r.2.1.length - sh.length) (ax_sl r.2.1 - ax_sl sh)) (va_Pc args (fun U => ax_W G sh μ U U.heap)) (ax_Q G r) (r.2.1.length - sh.length) (ax_sl r.2.1 - ax_sl sh) (fun q => G.1 ≤ q)
set_option maxHeartbeats 4000000 in
theorem ax_A.of {G : ax_G} {l : Launch} {y : MethodName} {b : ByteArray} {nL : Nat} {rt : Option FieldType} {d : Nat} {args : List Value} {sh : List ax_E} {μ : ax_M} {r : ax_R} (ini : Bool) (hy : plainName y.cls = true) (hini : ini = true → y.name = "<init>") (hn : (lg_sl args).length ≤ nL)
    (h : ax_X G l y.cls b nL rt ini d r 0 (lv_args 0 args) [] sh μ) : ax_A G l y b nL rt d args sh μ r := by
  refine ⟨h.1, Met.ofW (cc := b) (maxL := nL) (ret := rt) hy rfl ?_⟩
  intro p e s m args0 below meth c s₁ B hml hv
  obtain ⟨rfl, hW⟩ := hv
  have hts := atoms_spec (ws := .code y b nL rt :: ax_T) B.pre
  have hown : s.vm.findClass y.cls = some m.cls := findClass_of_methodNamed B.named
  have hin : meth.name = y.name := (name_of_methodNamed B.named B.method).1
  have hl := lv_entry args (n := nL) hn
  rw [lg_entry_eq]
  have hsh := hW.1.1
  have h1 := h.1
  exact h.2 p e (headSpec (.code y b nL rt :: ax_T) (ax_rm d (r.2.1.length - sh.length) (ax_sl r.2.1 - ax_sl sh))).room s m _ below meth c s.heap [] 0 0 _ _ _
    ⟨B.exec, B.bytes, hml, B.returns, B.notSynchronized, fun z => by rw [hin]; exact hini z, hown, fun w hw => hts w (List.mem_cons_of_mem _ hw), Nat.le_refl d, Nat.le_refl (40 * d)⟩ (Nat.le_refl _) (Nat.le_refl _) (by omega) (by omega) hW (fun _ _ => rfl) (fun _ h => by cases h) hl
theorem ax_upd {H H' : Heap} {G : ax_G} {sh : List ax_E} {μ μ' : ax_M} {k : Nat} {e : ax_E} (h : ax_H G sh μ H) (he : sh[k]? = some e) (h1 : H'.size = H.size) (h2 : ∀ q, q ≠ G.1 + k → H'[q]? = H[q]?) (h3 : va_at G.2.1 vwCl (G.1 + k, ax_en G μ' k e) H') (h4 : ∀ (k' : Nat) (e' : ax_E), k' ≠ k → sh[k']? = some e' → ax_en G μ' k' e' = ax_en G μ k' e') : ax_H G sh μ' H' := by
  refine ⟨h1.trans h.1, fun k' e' he' => ?_⟩
  by_cases hk : k' = k
  · subst hk
    rw [he] at he'
    cases he'
    exact h3
  · rw [h4 k' e' hk he']
    exact (h.2 k' e' he').kept (h2 _ (fun q => hk (Nat.add_left_cancel q)))
theorem ax_fs_get {z : Nat} {μ : ax_M} {k j : Nat} {fs : List (Option (Option Nat))} {f : Option (Option Nat)} (h : fs[j]? = some f) : (ax_fs z μ k fs)[j]? = some (ax_fv z μ k j f) := by
  unfold ax_fs
  rw [List.getElem?_mapIdx, h]
  rfl
theorem ax_fs_congr {z : Nat} {μ μ' : ax_M} {k : Nat} {fs : List (Option (Option Nat))} (h : ∀ j, μ' k j = μ k j) : ax_fs z μ' k fs = ax_fs z μ k fs := by
  unfold ax_fs
  congr 1
  funext j f
  cases f with
  | none => simp [ax_fv, h]
  | some f => cases f <;> rfl
theorem ax_en_congr {G : ax_G} {μ μ' : ax_M} {k : Nat} {e : ax_E} (h : ∀ j, μ' k j = μ k j) : ax_en G μ' k e = ax_en G μ k e := by
  have hf : μ' k = μ k := funext h
  rcases e with o | a | b
  · simp only [ax_en, ax_fs_congr h]
  · simp only [ax_en, hf]
  · rfl
theorem ax_w_ne {μ : ax_M} {k i k' : Nat} {v : Int32} (h : k' ≠ k) (j : Nat) : ax_w μ k i v k' j = μ k' j := by simp [ax_w, h]
theorem ax_w_eq {μ : ax_M} {k i : Nat} {v : Int32} : ax_w μ k i v k = upd (μ k) i v := by
  funext j
  simp only [ax_w, if_true, upd]
/-- what a field's row stands on -/
def ax_FL (own : String) (idx ci j : Nat) : Prop := ∃ r : vw_C, vwCl[ci]? = some r ∧ j < r.2.2 ∧ Cond.fieldLink own idx (r.2.1 j).1 (r.2.1 j).2.1 (r.2.1 j).2.2.1 ∈ ax_T ∧ ∀ w ∈ u_ws r.1 r.2.1 r.2.2, w ∈ ax_T
def ax_FT (ci : Nat) (t : Nat → FieldType) : Prop := ∃ r : vw_C, vwCl[ci]? = some r ∧ (∀ k, k < r.2.2 → parseFieldDescriptor (r.2.1 k).2.2.1 = some (t k)) ∧ (∀ a, a < r.2.2 → ∀ b, b < r.2.2 → a ≠ b → (r.2.1 a).2.1 ≠ (r.2.1 b).2.1)
section AX
variable {G : ax_G} {l : Launch} {own : String} {b : ByteArray} {nL : Nat} {rt : Option FieldType} {ini : Bool} {d : Nat} {r : ax_R} {pc : Nat} {lv lv' : List (Nat × Value)} {st : List Value} {sh : List ax_E} {μ : ax_M}
theorem ax_iconst {n : Int} {v : Int32} (hd : decode b pc = .ok (.iconst n, 1)) (hv : Int32.ofInt n = v) (k : ax_X G l own b nL rt ini d r (pc + 1) lv (.int v :: st) sh μ) : ax_X G l own b nL rt ini d r pc lv (st) sh μ :=
  ⟨k.1, fun p e R s m args below meth c H locs cells slots mc ms ls C h1 h2 h3 h4 hW hz hL hl => lv_iconst C.1 C.2.1 hd hv (k.2 p e R s m args below meth c H locs cells slots mc ms ls C h1 h2 h3 h4 hW hz hL hl)⟩
theorem ax_bipush {n : Int} {v : Int32} (hd : decode b pc = .ok (.bipush n, 2)) (hv : (Int8.ofInt n).toInt32 = v) (k : ax_X G l own b nL rt ini d r (pc + 2) lv (.int v :: st) sh μ) : ax_X G l own b nL rt ini d r pc lv (st) sh μ :=
  ⟨k.1, fun p e R s m args below meth c H locs cells slots mc ms ls C h1 h2 h3 h4 hW hz hL hl => lv_bipush C.1 C.2.1 hd hv (k.2 p e R s m args below meth c H locs cells slots mc ms ls C h1 h2 h3 h4 hW hz hL hl)⟩
theorem ax_sipush {n : Int} {v : Int32} (hd : decode b pc = .ok (.sipush n, 3)) (hv : (Int16.ofInt n).toInt32 = v) (k : ax_X G l own b nL rt ini d r (pc + 3) lv (.int v :: st) sh μ) : ax_X G l own b nL rt ini d r pc lv (st) sh μ :=
  ⟨k.1, fun p e R s m args below meth c H locs cells slots mc ms ls C h1 h2 h3 h4 hW hz hL hl => lv_sipush C.1 C.2.1 hd hv (k.2 p e R s m args below meth c H locs cells slots mc ms ls C h1 h2 h3 h4 hW hz hL hl)⟩
theorem ax_lconst {n : Fin 2} {v : Int64} (hd : decode b pc = .ok (.lconst n, 1)) (hv : Int64.ofNat (n : Nat) = v) (k : ax_X G l own b nL rt ini d r (pc + 1) lv (.long v :: st) sh μ) : ax_X G l own b nL rt ini d r pc lv (st) sh μ :=
  ⟨k.1, fun p e R s m args below meth c H locs cells slots mc ms ls C h1 h2 h3 h4 hW hz hL hl => lv_lconst C.1 C.2.1 hd hv (k.2 p e R s m args below meth c H locs cells slots mc ms ls C h1 h2 h3 h4 hW hz hL hl)⟩
theorem ax_ldc {idx : Nat} {v : Int32} (hd : decode b pc = .ok (.ldc idx, 2)) (hw : Cond.constant own idx v ∈ ax_T) (k : ax_X G l own b nL rt ini d r (pc + 2) lv (.int v :: st) sh μ) : ax_X G l own b nL rt ini d r pc lv (st) sh μ :=
  ⟨k.1, fun p e R s m args below meth c H locs cells slots mc ms ls C h1 h2 h3 h4 hW hz hL hl => lv_ldc C.1 C.2.1 C.2.2.2.2.2.2.1 (C.2.2.2.2.2.2.2.1 _ hw) hd (k.2 p e R s m args below meth c H locs cells slots mc ms ls C h1 h2 h3 h4 hW hz hL hl)⟩
theorem ax_ldc2 {idx : Nat} {v : Int64} (hd : decode b pc = .ok (.ldc2_w idx, 3)) (hw : Cond.constantLong own idx v ∈ ax_T) (k : ax_X G l own b nL rt ini d r (pc + 3) lv (.long v :: st) sh μ) : ax_X G l own b nL rt ini d r pc lv (st) sh μ :=
  ⟨k.1, fun p e R s m args below meth c H locs cells slots mc ms ls C h1 h2 h3 h4 hW hz hL hl => lv_ldc2 C.1 C.2.1 C.2.2.2.2.2.2.1 (C.2.2.2.2.2.2.2.1 _ hw) hd (k.2 p e R s m args below meth c H locs cells slots mc ms ls C h1 h2 h3 h4 hW hz hL hl)⟩
theorem ax_iload {i q : Nat} {x : Int32} (hd : decode b pc = .ok (.iload i, 2)) (hq : lv[q]? = some (i, .int x)) (k : ax_X G l own b nL rt ini d r (pc + 2) lv (.int x :: st) sh μ) : ax_X G l own b nL rt ini d r pc lv (st) sh μ :=
  ⟨k.1, fun p e R s m args below meth c H locs cells slots mc ms ls C h1 h2 h3 h4 hW hz hL hl => lv_iload C.1 C.2.1 hd (lv_at hl q hq) (k.2 p e R s m args below meth c H locs cells slots mc ms ls C h1 h2 h3 h4 hW hz hL hl)⟩
theorem ax_iload_n {n : Fin 4} {i q : Nat} {x : Int32} (hd : decode b pc = .ok (.iload_n n, 1)) (hi : (n : Nat) = i) (hq : lv[q]? = some (i, .int x)) (k : ax_X G l own b nL rt ini d r (pc + 1) lv (.int x :: st) sh μ) : ax_X G l own b nL rt ini d r pc lv (st) sh μ :=
  ⟨k.1, fun p e R s m args below meth c H locs cells slots mc ms ls C h1 h2 h3 h4 hW hz hL hl => lv_iload_n C.1 C.2.1 hd hi (lv_at hl q hq) (k.2 p e R s m args below meth c H locs cells slots mc ms ls C h1 h2 h3 h4 hW hz hL hl)⟩
theorem ax_lload {i q : Nat} {x : Int64} (hd : decode b pc = .ok (.lload i, 2)) (hq : lv[q]? = some (i, .long x)) (k : ax_X G l own b nL rt ini d r (pc + 2) lv (.long x :: st) sh μ) : ax_X G l own b nL rt ini d r pc lv (st) sh μ :=
  ⟨k.1, fun p e R s m args below meth c H locs cells slots mc ms ls C h1 h2 h3 h4 hW hz hL hl => lv_lload C.1 C.2.1 hd (lv_at hl q hq) (k.2 p e R s m args below meth c H locs cells slots mc ms ls C h1 h2 h3 h4 hW hz hL hl)⟩
theorem ax_lload_n {n : Fin 4} {i q : Nat} {x : Int64} (hd : decode b pc = .ok (.lload_n n, 1)) (hi : (n : Nat) = i) (hq : lv[q]? = some (i, .long x)) (k : ax_X G l own b nL rt ini d r (pc + 1) lv (.long x :: st) sh μ) : ax_X G l own b nL rt ini d r pc lv (st) sh μ :=
  ⟨k.1, fun p e R s m args below meth c H locs cells slots mc ms ls C h1 h2 h3 h4 hW hz hL hl => lv_lload_n C.1 C.2.1 hd hi (lv_at hl q hq) (k.2 p e R s m args below meth c H locs cells slots mc ms ls C h1 h2 h3 h4 hW hz hL hl)⟩
theorem ax_aload {i q : Nat} {x : Nat} (hd : decode b pc = .ok (.aload i, 2)) (hq : lv[q]? = some (i, .ref x)) (k : ax_X G l own b nL rt ini d r (pc + 2) lv (.ref x :: st) sh μ) : ax_X G l own b nL rt ini d r pc lv (st) sh μ :=
  ⟨k.1, fun p e R s m args below meth c H locs cells slots mc ms ls C h1 h2 h3 h4 hW hz hL hl => lv_aload C.1 C.2.1 hd (lv_at hl q hq) (k.2 p e R s m args below meth c H locs cells slots mc ms ls C h1 h2 h3 h4 hW hz hL hl)⟩
theorem ax_aload_n {n : Fin 4} {i q : Nat} {x : Nat} (hd : decode b pc = .ok (.aload_n n, 1)) (hi : (n : Nat) = i) (hq : lv[q]? = some (i, .ref x)) (k : ax_X G l own b nL rt ini d r (pc + 1) lv (.ref x :: st) sh μ) : ax_X G l own b nL rt ini d r pc lv (st) sh μ :=
  ⟨k.1, fun p e R s m args below meth c H locs cells slots mc ms ls C h1 h2 h3 h4 hW hz hL hl => lv_aload_n C.1 C.2.1 hd hi (lv_at hl q hq) (k.2 p e R s m args below meth c H locs cells slots mc ms ls C h1 h2 h3 h4 hW hz hL hl)⟩
theorem ax_istore {i : Nat} {x : Int32} (hd : decode b pc = .ok (.istore i, 2)) (hn : i < nL) (hlv : (i, Value.int x) :: lv.filter (fun q => !(q.1 == i) && !(q.1 + 1 == i && q.2.category == 2)) = lv') (k : ax_X G l own b nL rt ini d r (pc + 2) lv' st sh μ) : ax_X G l own b nL rt ini d r pc lv (.int x :: st) sh μ :=
  ⟨k.1, fun p e R s m args below meth c H locs cells slots mc ms ls C h1 h2 h3 h4 hW hz hL hl => lv_istore C.1 C.2.1 hd hl hn hlv (fun ls' hl' => k.2 p e R s m args below meth c H locs cells slots mc ms ls' C h1 h2 h3 h4 hW hz hL hl')⟩
theorem ax_istore_n {n : Fin 4} {i : Nat} {x : Int32} (hd : decode b pc = .ok (.istore_n n, 1)) (hi : (n : Nat) = i) (hn : i < nL) (hlv : (i, Value.int x) :: lv.filter (fun q => !(q.1 == i) && !(q.1 + 1 == i && q.2.category == 2)) = lv') (k : ax_X G l own b nL rt ini d r (pc + 1) lv' st sh μ) : ax_X G l own b nL rt ini d r pc lv (.int x :: st) sh μ :=
  ⟨k.1, fun p e R s m args below meth c H locs cells slots mc ms ls C h1 h2 h3 h4 hW hz hL hl => lv_istore_n C.1 C.2.1 hd hi hl hn hlv (fun ls' hl' => k.2 p e R s m args below meth c H locs cells slots mc ms ls' C h1 h2 h3 h4 hW hz hL hl')⟩
theorem ax_lstore {i : Nat} {x : Int64} (hd : decode b pc = .ok (.lstore i, 2)) (hn : i + 1 < nL) (hlv : (i, Value.long x) :: lv.filter (fun q => !(q.1 == i) && (!(q.1 == i + 1) && !(q.1 + 1 == i && q.2.category == 2))) = lv') (k : ax_X G l own b nL rt ini d r (pc + 2) lv' st sh μ) : ax_X G l own b nL rt ini d r pc lv (.long x :: st) sh μ :=
  ⟨k.1, fun p e R s m args below meth c H locs cells slots mc ms ls C h1 h2 h3 h4 hW hz hL hl => lv_lstore C.1 C.2.1 hd hl hn hlv (fun ls' hl' => k.2 p e R s m args below meth c H locs cells slots mc ms ls' C h1 h2 h3 h4 hW hz hL hl')⟩
theorem ax_lstore_n {n : Fin 4} {i : Nat} {x : Int64} (hd : decode b pc = .ok (.lstore_n n, 1)) (hi : (n : Nat) = i) (hn : i + 1 < nL) (hlv : (i, Value.long x) :: lv.filter (fun q => !(q.1 == i) && (!(q.1 == i + 1) && !(q.1 + 1 == i && q.2.category == 2))) = lv') (k : ax_X G l own b nL rt ini d r (pc + 1) lv' st sh μ) : ax_X G l own b nL rt ini d r pc lv (.long x :: st) sh μ :=
  ⟨k.1, fun p e R s m args below meth c H locs cells slots mc ms ls C h1 h2 h3 h4 hW hz hL hl => lv_lstore_n C.1 C.2.1 hd hi hl hn hlv (fun ls' hl' => k.2 p e R s m args below meth c H locs cells slots mc ms ls' C h1 h2 h3 h4 hW hz hL hl')⟩
theorem ax_astore {i : Nat} {x : Nat} (hd : decode b pc = .ok (.astore i, 2)) (hn : i < nL) (hlv : (i, Value.ref x) :: lv.filter (fun q => !(q.1 == i) && !(q.1 + 1 == i && q.2.category == 2)) = lv') (k : ax_X G l own b nL rt ini d r (pc + 2) lv' st sh μ) : ax_X G l own b nL rt ini d r pc lv (.ref x :: st) sh μ :=
  ⟨k.1, fun p e R s m args below meth c H locs cells slots mc ms ls C h1 h2 h3 h4 hW hz hL hl => lv_astore C.1 C.2.1 hd hl hn hlv (fun ls' hl' => k.2 p e R s m args below meth c H locs cells slots mc ms ls' C h1 h2 h3 h4 hW hz hL hl')⟩
theorem ax_astore_n {n : Fin 4} {i : Nat} {x : Nat} (hd : decode b pc = .ok (.astore_n n, 1)) (hi : (n : Nat) = i) (hn : i < nL) (hlv : (i, Value.ref x) :: lv.filter (fun q => !(q.1 == i) && !(q.1 + 1 == i && q.2.category == 2)) = lv') (k : ax_X G l own b nL rt ini d r (pc + 1) lv' st sh μ) : ax_X G l own b nL rt ini d r pc lv (.ref x :: st) sh μ :=
  ⟨k.1, fun p e R s m args below meth c H locs cells slots mc ms ls C h1 h2 h3 h4 hW hz hL hl => lv_astore_n C.1 C.2.1 hd hi hl hn hlv (fun ls' hl' => k.2 p e R s m args below meth c H locs cells slots mc ms ls' C h1 h2 h3 h4 hW hz hL hl')⟩
theorem ax_iinc {i q : Nat} {n : Int} {x v : Int32} (hd : decode b pc = .ok (.iinc i n, 3)) (hq : lv[q]? = some (i, .int x)) (hv : x + Int32.ofInt n = v) (hn : i < nL) (hlv : (i, Value.int v) :: lv.filter (fun q => !(q.1 == i) && !(q.1 + 1 == i && q.2.category == 2)) = lv') (k : ax_X G l own b nL rt ini d r (pc + 3) lv' st sh μ) : ax_X G l own b nL rt ini d r pc lv st sh μ :=
  ⟨k.1, fun p e R s m args below meth c H locs cells slots mc ms ls C h1 h2 h3 h4 hW hz hL hl => lv_iinc C.1 C.2.1 hd hl hq hv hn hlv (fun ls' hl' => k.2 p e R s m args below meth c H locs cells slots mc ms ls' C h1 h2 h3 h4 hW hz hL hl')⟩
theorem ax_iadd {x y : Int32} (hd : decode b pc = .ok (.iadd, 1))  (k : ax_X G l own b nL rt ini d r (pc + 1) lv (.int (x + y) :: st) sh μ) : ax_X G l own b nL rt ini d r pc lv (.int y :: .int x :: st) sh μ :=
  ⟨k.1, fun p e R s m args below meth c H locs cells slots mc ms ls C h1 h2 h3 h4 hW hz hL hl => lv_iadd C.1 C.2.1 hd (k.2 p e R s m args below meth c H locs cells slots mc ms ls C h1 h2 h3 h4 hW hz hL hl)⟩
theorem ax_isub {x y : Int32} (hd : decode b pc = .ok (.isub, 1))  (k : ax_X G l own b nL rt ini d r (pc + 1) lv (.int (x - y) :: st) sh μ) : ax_X G l own b nL rt ini d r pc lv (.int y :: .int x :: st) sh μ :=
  ⟨k.1, fun p e R s m args below meth c H locs cells slots mc ms ls C h1 h2 h3 h4 hW hz hL hl => lv_isub C.1 C.2.1 hd (k.2 p e R s m args below meth c H locs cells slots mc ms ls C h1 h2 h3 h4 hW hz hL hl)⟩
theorem ax_imul {x y : Int32} (hd : decode b pc = .ok (.imul, 1))  (k : ax_X G l own b nL rt ini d r (pc + 1) lv (.int (x * y) :: st) sh μ) : ax_X G l own b nL rt ini d r pc lv (.int y :: .int x :: st) sh μ :=
  ⟨k.1, fun p e R s m args below meth c H locs cells slots mc ms ls C h1 h2 h3 h4 hW hz hL hl => lv_imul C.1 C.2.1 hd (k.2 p e R s m args below meth c H locs cells slots mc ms ls C h1 h2 h3 h4 hW hz hL hl)⟩
theorem ax_iand {x y : Int32} (hd : decode b pc = .ok (.iand, 1))  (k : ax_X G l own b nL rt ini d r (pc + 1) lv (.int (x &&& y) :: st) sh μ) : ax_X G l own b nL rt ini d r pc lv (.int y :: .int x :: st) sh μ :=
  ⟨k.1, fun p e R s m args below meth c H locs cells slots mc ms ls C h1 h2 h3 h4 hW hz hL hl => lv_iand C.1 C.2.1 hd (k.2 p e R s m args below meth c H locs cells slots mc ms ls C h1 h2 h3 h4 hW hz hL hl)⟩
theorem ax_ior {x y : Int32} (hd : decode b pc = .ok (.ior, 1))  (k : ax_X G l own b nL rt ini d r (pc + 1) lv (.int (x ||| y) :: st) sh μ) : ax_X G l own b nL rt ini d r pc lv (.int y :: .int x :: st) sh μ :=
  ⟨k.1, fun p e R s m args below meth c H locs cells slots mc ms ls C h1 h2 h3 h4 hW hz hL hl => lv_ior C.1 C.2.1 hd (k.2 p e R s m args below meth c H locs cells slots mc ms ls C h1 h2 h3 h4 hW hz hL hl)⟩
theorem ax_ixor {x y : Int32} (hd : decode b pc = .ok (.ixor, 1))  (k : ax_X G l own b nL rt ini d r (pc + 1) lv (.int (x ^^^ y) :: st) sh μ) : ax_X G l own b nL rt ini d r pc lv (.int y :: .int x :: st) sh μ :=
  ⟨k.1, fun p e R s m args below meth c H locs cells slots mc ms ls C h1 h2 h3 h4 hW hz hL hl => lv_ixor C.1 C.2.1 hd (k.2 p e R s m args below meth c H locs cells slots mc ms ls C h1 h2 h3 h4 hW hz hL hl)⟩
theorem ax_ishl {x y : Int32} (hd : decode b pc = .ok (.ishl, 1))  (k : ax_X G l own b nL rt ini d r (pc + 1) lv (.int (x <<< (y &&& 31)) :: st) sh μ) : ax_X G l own b nL rt ini d r pc lv (.int y :: .int x :: st) sh μ :=
  ⟨k.1, fun p e R s m args below meth c H locs cells slots mc ms ls C h1 h2 h3 h4 hW hz hL hl => lv_ishl C.1 C.2.1 hd (k.2 p e R s m args below meth c H locs cells slots mc ms ls C h1 h2 h3 h4 hW hz hL hl)⟩
theorem ax_ishr {x y : Int32} (hd : decode b pc = .ok (.ishr, 1))  (k : ax_X G l own b nL rt ini d r (pc + 1) lv (.int (x >>> (y &&& 31)) :: st) sh μ) : ax_X G l own b nL rt ini d r pc lv (.int y :: .int x :: st) sh μ :=
  ⟨k.1, fun p e R s m args below meth c H locs cells slots mc ms ls C h1 h2 h3 h4 hW hz hL hl => lv_ishr C.1 C.2.1 hd (k.2 p e R s m args below meth c H locs cells slots mc ms ls C h1 h2 h3 h4 hW hz hL hl)⟩
theorem ax_ladd {x y : Int64} (hd : decode b pc = .ok (.ladd, 1))  (k : ax_X G l own b nL rt ini d r (pc + 1) lv (.long (x + y) :: st) sh μ) : ax_X G l own b nL rt ini d r pc lv (.long y :: .long x :: st) sh μ :=
  ⟨k.1, fun p e R s m args below meth c H locs cells slots mc ms ls C h1 h2 h3 h4 hW hz hL hl => lv_ladd C.1 C.2.1 hd (k.2 p e R s m args below meth c H locs cells slots mc ms ls C h1 h2 h3 h4 hW hz hL hl)⟩
theorem ax_lsub {x y : Int64} (hd : decode b pc = .ok (.lsub, 1))  (k : ax_X G l own b nL rt ini d r (pc + 1) lv (.long (x - y) :: st) sh μ) : ax_X G l own b nL rt ini d r pc lv (.long y :: .long x :: st) sh μ :=
  ⟨k.1, fun p e R s m args below meth c H locs cells slots mc ms ls C h1 h2 h3 h4 hW hz hL hl => lv_lsub C.1 C.2.1 hd (k.2 p e R s m args below meth c H locs cells slots mc ms ls C h1 h2 h3 h4 hW hz hL hl)⟩
theorem ax_lmul {x y : Int64} (hd : decode b pc = .ok (.lmul, 1))  (k : ax_X G l own b nL rt ini d r (pc + 1) lv (.long (x * y) :: st) sh μ) : ax_X G l own b nL rt ini d r pc lv (.long y :: .long x :: st) sh μ :=
  ⟨k.1, fun p e R s m args below meth c H locs cells slots mc ms ls C h1 h2 h3 h4 hW hz hL hl => lv_lmul C.1 C.2.1 hd (k.2 p e R s m args below meth c H locs cells slots mc ms ls C h1 h2 h3 h4 hW hz hL hl)⟩
theorem ax_land {x y : Int64} (hd : decode b pc = .ok (.land, 1))  (k : ax_X G l own b nL rt ini d r (pc + 1) lv (.long (x &&& y) :: st) sh μ) : ax_X G l own b nL rt ini d r pc lv (.long y :: .long x :: st) sh μ :=
  ⟨k.1, fun p e R s m args below meth c H locs cells slots mc ms ls C h1 h2 h3 h4 hW hz hL hl => lv_land C.1 C.2.1 hd (k.2 p e R s m args below meth c H locs cells slots mc ms ls C h1 h2 h3 h4 hW hz hL hl)⟩
theorem ax_lor {x y : Int64} (hd : decode b pc = .ok (.lor, 1))  (k : ax_X G l own b nL rt ini d r (pc + 1) lv (.long (x ||| y) :: st) sh μ) : ax_X G l own b nL rt ini d r pc lv (.long y :: .long x :: st) sh μ :=
  ⟨k.1, fun p e R s m args below meth c H locs cells slots mc ms ls C h1 h2 h3 h4 hW hz hL hl => lv_lor C.1 C.2.1 hd (k.2 p e R s m args below meth c H locs cells slots mc ms ls C h1 h2 h3 h4 hW hz hL hl)⟩
theorem ax_lxor {x y : Int64} (hd : decode b pc = .ok (.lxor, 1))  (k : ax_X G l own b nL rt ini d r (pc + 1) lv (.long (x ^^^ y) :: st) sh μ) : ax_X G l own b nL rt ini d r pc lv (.long y :: .long x :: st) sh μ :=
  ⟨k.1, fun p e R s m args below meth c H locs cells slots mc ms ls C h1 h2 h3 h4 hW hz hL hl => lv_lxor C.1 C.2.1 hd (k.2 p e R s m args below meth c H locs cells slots mc ms ls C h1 h2 h3 h4 hW hz hL hl)⟩
theorem ax_idiv {x y : Int32} (hd : decode b pc = .ok (.idiv, 1)) (hy : ¬ y = 0) (k : ax_X G l own b nL rt ini d r (pc + 1) lv (.int (x / y) :: st) sh μ) : ax_X G l own b nL rt ini d r pc lv (.int y :: .int x :: st) sh μ :=
  ⟨k.1, fun p e R s m args below meth c H locs cells slots mc ms ls C h1 h2 h3 h4 hW hz hL hl => lv_idiv C.1 C.2.1 hd hy (k.2 p e R s m args below meth c H locs cells slots mc ms ls C h1 h2 h3 h4 hW hz hL hl)⟩
theorem ax_irem {x y : Int32} (hd : decode b pc = .ok (.irem, 1)) (hy : ¬ y = 0) (k : ax_X G l own b nL rt ini d r (pc + 1) lv (.int (x - x / y * y) :: st) sh μ) : ax_X G l own b nL rt ini d r pc lv (.int y :: .int x :: st) sh μ :=
  ⟨k.1, fun p e R s m args below meth c H locs cells slots mc ms ls C h1 h2 h3 h4 hW hz hL hl => lv_irem C.1 C.2.1 hd hy (k.2 p e R s m args below meth c H locs cells slots mc ms ls C h1 h2 h3 h4 hW hz hL hl)⟩
theorem ax_ldiv {x y : Int64} (hd : decode b pc = .ok (.ldiv, 1)) (hy : ¬ y = 0) (k : ax_X G l own b nL rt ini d r (pc + 1) lv (.long (x / y) :: st) sh μ) : ax_X G l own b nL rt ini d r pc lv (.long y :: .long x :: st) sh μ :=
  ⟨k.1, fun p e R s m args below meth c H locs cells slots mc ms ls C h1 h2 h3 h4 hW hz hL hl => lv_ldiv C.1 C.2.1 hd hy (k.2 p e R s m args below meth c H locs cells slots mc ms ls C h1 h2 h3 h4 hW hz hL hl)⟩
theorem ax_lrem {x y : Int64} (hd : decode b pc = .ok (.lrem, 1)) (hy : ¬ y = 0) (k : ax_X G l own b nL rt ini d r (pc + 1) lv (.long (x - x / y * y) :: st) sh μ) : ax_X G l own b nL rt ini d r pc lv (.long y :: .long x :: st) sh μ :=
  ⟨k.1, fun p e R s m args below meth c H locs cells slots mc ms ls C h1 h2 h3 h4 hW hz hL hl => lv_lrem C.1 C.2.1 hd hy (k.2 p e R s m args below meth c H locs cells slots mc ms ls C h1 h2 h3 h4 hW hz hL hl)⟩
theorem ax_ineg {x : Int32} (hd : decode b pc = .ok (.ineg, 1))  (k : ax_X G l own b nL rt ini d r (pc + 1) lv (.int (-x) :: st) sh μ) : ax_X G l own b nL rt ini d r pc lv (.int x :: st) sh μ :=
  ⟨k.1, fun p e R s m args below meth c H locs cells slots mc ms ls C h1 h2 h3 h4 hW hz hL hl => lv_ineg C.1 C.2.1 hd (k.2 p e R s m args below meth c H locs cells slots mc ms ls C h1 h2 h3 h4 hW hz hL hl)⟩
theorem ax_i2l {x : Int32} (hd : decode b pc = .ok (.i2l, 1))  (k : ax_X G l own b nL rt ini d r (pc + 1) lv (.long x.toInt64 :: st) sh μ) : ax_X G l own b nL rt ini d r pc lv (.int x :: st) sh μ :=
  ⟨k.1, fun p e R s m args below meth c H locs cells slots mc ms ls C h1 h2 h3 h4 hW hz hL hl => lv_i2l C.1 C.2.1 hd rfl (k.2 p e R s m args below meth c H locs cells slots mc ms ls C h1 h2 h3 h4 hW hz hL hl)⟩
theorem ax_l2i {x : Int64} (hd : decode b pc = .ok (.l2i, 1))  (k : ax_X G l own b nL rt ini d r (pc + 1) lv (.int x.toInt32 :: st) sh μ) : ax_X G l own b nL rt ini d r pc lv (.long x :: st) sh μ :=
  ⟨k.1, fun p e R s m args below meth c H locs cells slots mc ms ls C h1 h2 h3 h4 hW hz hL hl => lv_l2i C.1 C.2.1 hd rfl (k.2 p e R s m args below meth c H locs cells slots mc ms ls C h1 h2 h3 h4 hW hz hL hl)⟩
theorem ax_i2b {x : Int32} (hd : decode b pc = .ok (.i2b, 1))  (k : ax_X G l own b nL rt ini d r (pc + 1) lv (.int x.toInt8.toInt32 :: st) sh μ) : ax_X G l own b nL rt ini d r pc lv (.int x :: st) sh μ :=
  ⟨k.1, fun p e R s m args below meth c H locs cells slots mc ms ls C h1 h2 h3 h4 hW hz hL hl => lv_i2b C.1 C.2.1 hd rfl (k.2 p e R s m args below meth c H locs cells slots mc ms ls C h1 h2 h3 h4 hW hz hL hl)⟩
theorem ax_i2s {x : Int32} (hd : decode b pc = .ok (.i2s, 1))  (k : ax_X G l own b nL rt ini d r (pc + 1) lv (.int x.toInt16.toInt32 :: st) sh μ) : ax_X G l own b nL rt ini d r pc lv (.int x :: st) sh μ :=
  ⟨k.1, fun p e R s m args below meth c H locs cells slots mc ms ls C h1 h2 h3 h4 hW hz hL hl => lv_i2s C.1 C.2.1 hd rfl (k.2 p e R s m args below meth c H locs cells slots mc ms ls C h1 h2 h3 h4 hW hz hL hl)⟩
theorem ax_i2c {x : Int32} (hd : decode b pc = .ok (.i2c, 1))  (k : ax_X G l own b nL rt ini d r (pc + 1) lv (.int (x.toUInt32 % 65536).toInt32 :: st) sh μ) : ax_X G l own b nL rt ini d r pc lv (.int x :: st) sh μ :=
  ⟨k.1, fun p e R s m args below meth c H locs cells slots mc ms ls C h1 h2 h3 h4 hW hz hL hl => lv_i2c C.1 C.2.1 hd rfl (k.2 p e R s m args below meth c H locs cells slots mc ms ls C h1 h2 h3 h4 hW hz hL hl)⟩
theorem ax_lshl {x : Int64} {y : Int32} (hd : decode b pc = .ok (.lshl, 1))  (k : ax_X G l own b nL rt ini d r (pc + 1) lv (.long (x <<< (y.toInt64 &&& 63)) :: st) sh μ) : ax_X G l own b nL rt ini d r pc lv (.int y :: .long x :: st) sh μ :=
  ⟨k.1, fun p e R s m args below meth c H locs cells slots mc ms ls C h1 h2 h3 h4 hW hz hL hl => lv_lshl C.1 C.2.1 hd rfl (k.2 p e R s m args below meth c H locs cells slots mc ms ls C h1 h2 h3 h4 hW hz hL hl)⟩
theorem ax_lcmp {x y : Int64} (hd : decode b pc = .ok (.lcmp, 1))  (k : ax_X G l own b nL rt ini d r (pc + 1) lv (.int (lg_cmp x y) :: st) sh μ) : ax_X G l own b nL rt ini d r pc lv (.long y :: .long x :: st) sh μ :=
  ⟨k.1, fun p e R s m args below meth c H locs cells slots mc ms ls C h1 h2 h3 h4 hW hz hL hl => W.lcmp C.1 C.2.1 hd (k.2 p e R s m args below meth c H locs cells slots mc ms ls C h1 h2 h3 h4 hW hz hL hl)⟩
theorem ax_dup {v : Value} (hd : decode b pc = .ok (.dup, 1)) (hv : v.category = 1) (k : ax_X G l own b nL rt ini d r (pc + 1) lv (v :: v :: st) sh μ) : ax_X G l own b nL rt ini d r pc lv (v :: st) sh μ :=
  ⟨k.1, fun p e R s m args below meth c H locs cells slots mc ms ls C h1 h2 h3 h4 hW hz hL hl => lv_dup C.1 C.2.1 hd hv (k.2 p e R s m args below meth c H locs cells slots mc ms ls C h1 h2 h3 h4 hW hz hL hl)⟩
theorem ax_pop {v : Value} (hd : decode b pc = .ok (.pop, 1)) (hv : v.category = 1) (k : ax_X G l own b nL rt ini d r (pc + 1) lv (st) sh μ) : ax_X G l own b nL rt ini d r pc lv (v :: st) sh μ :=
  ⟨k.1, fun p e R s m args below meth c H locs cells slots mc ms ls C h1 h2 h3 h4 hW hz hL hl => lv_pop C.1 C.2.1 hd hv (k.2 p e R s m args below meth c H locs cells slots mc ms ls C h1 h2 h3 h4 hW hz hL hl)⟩
theorem ax_dup_x1 {v u : Value} (hd : decode b pc = .ok (.dup_x1, 1)) (hv : v.category = 1) (hu : u.category = 1) (k : ax_X G l own b nL rt ini d r (pc + 1) lv (v :: u :: v :: st) sh μ) : ax_X G l own b nL rt ini d r pc lv (v :: u :: st) sh μ :=
  ⟨k.1, fun p e R s m args below meth c H locs cells slots mc ms ls C h1 h2 h3 h4 hW hz hL hl => lv_dup_x1 C.1 C.2.1 hd hv hu (k.2 p e R s m args below meth c H locs cells slots mc ms ls C h1 h2 h3 h4 hW hz hL hl)⟩
theorem ax_dup2 {v u : Value} (hd : decode b pc = .ok (.dup2, 1)) (hv : v.category = 1) (hu : u.category = 1) (k : ax_X G l own b nL rt ini d r (pc + 1) lv (v :: u :: v :: u :: st) sh μ) : ax_X G l own b nL rt ini d r pc lv (v :: u :: st) sh μ :=
  ⟨k.1, fun p e R s m args below meth c H locs cells slots mc ms ls C h1 h2 h3 h4 hW hz hL hl => lv_dup2_11 C.1 C.2.1 hd hv hu (k.2 p e R s m args below meth c H locs cells slots mc ms ls C h1 h2 h3 h4 hW hz hL hl)⟩
theorem ax_if_eq_t {x : Int32} {off : Int} {tgt : Nat} (hd : decode b pc = .ok (.ifCond .eq off, 3)) (ht : (pc : Int) + off = (tgt : Int)) (hc : x = 0) (k : ax_X G l own b nL rt ini d r tgt lv st sh μ) : ax_X G l own b nL rt ini d r pc lv (.int x :: st) sh μ :=
  ⟨k.1, fun p e R s m args below meth c H locs cells slots mc ms ls C h1 h2 h3 h4 hW hz hL hl => lv_if_eq C.1 C.2.1 hd ht (fun _ => k.2 p e R s m args below meth c H locs cells slots mc ms ls C h1 h2 h3 h4 hW hz hL hl) (fun q => absurd hc q)⟩
theorem ax_if_eq_f {x : Int32} {off : Int} {tgt : Nat} (hd : decode b pc = .ok (.ifCond .eq off, 3)) (ht : (pc : Int) + off = (tgt : Int)) (hc : ¬ (x = 0)) (k : ax_X G l own b nL rt ini d r (pc + 3) lv st sh μ) : ax_X G l own b nL rt ini d r pc lv (.int x :: st) sh μ :=
  ⟨k.1, fun p e R s m args below meth c H locs cells slots mc ms ls C h1 h2 h3 h4 hW hz hL hl => lv_if_eq C.1 C.2.1 hd ht (fun q => absurd q hc) (fun _ => k.2 p e R s m args below meth c H locs cells slots mc ms ls C h1 h2 h3 h4 hW hz hL hl)⟩
theorem ax_icmp_eq_t {x y : Int32} {off : Int} {tgt : Nat} (hd : decode b pc = .ok (.if_icmp .eq off, 3)) (ht : (pc : Int) + off = (tgt : Int)) (hc : x = y) (k : ax_X G l own b nL rt ini d r tgt lv st sh μ) : ax_X G l own b nL rt ini d r pc lv (.int y :: .int x :: st) sh μ :=
  ⟨k.1, fun p e R s m args below meth c H locs cells slots mc ms ls C h1 h2 h3 h4 hW hz hL hl => lv_icmp_eq C.1 C.2.1 hd ht (fun _ => k.2 p e R s m args below meth c H locs cells slots mc ms ls C h1 h2 h3 h4 hW hz hL hl) (fun q => absurd hc q)⟩
theorem ax_icmp_eq_f {x y : Int32} {off : Int} {tgt : Nat} (hd : decode b pc = .ok (.if_icmp .eq off, 3)) (ht : (pc : Int) + off = (tgt : Int)) (hc : ¬ (x = y)) (k : ax_X G l own b nL rt ini d r (pc + 3) lv st sh μ) : ax_X G l own b nL rt ini d r pc lv (.int y :: .int x :: st) sh μ :=
  ⟨k.1, fun p e R s m args below meth c H locs cells slots mc ms ls C h1 h2 h3 h4 hW hz hL hl => lv_icmp_eq C.1 C.2.1 hd ht (fun q => absurd q hc) (fun _ => k.2 p e R s m args below meth c H locs cells slots mc ms ls C h1 h2 h3 h4 hW hz hL hl)⟩
theorem ax_if_ne_t {x : Int32} {off : Int} {tgt : Nat} (hd : decode b pc = .ok (.ifCond .ne off, 3)) (ht : (pc : Int) + off = (tgt : Int)) (hc : ¬ x = 0) (k : ax_X G l own b nL rt ini d r tgt lv st sh μ) : ax_X G l own b nL rt ini d r pc lv (.int x :: st) sh μ :=
  ⟨k.1, fun p e R s m args below meth c H locs cells slots mc ms ls C h1 h2 h3 h4 hW hz hL hl => lv_if_ne C.1 C.2.1 hd ht (fun _ => k.2 p e R s m args below meth c H locs cells slots mc ms ls C h1 h2 h3 h4 hW hz hL hl) (fun q => absurd q hc)⟩
theorem ax_if_ne_f {x : Int32} {off : Int} {tgt : Nat} (hd : decode b pc = .ok (.ifCond .ne off, 3)) (ht : (pc : Int) + off = (tgt : Int)) (hc : ¬ (¬ x = 0)) (k : ax_X G l own b nL rt ini d r (pc + 3) lv st sh μ) : ax_X G l own b nL rt ini d r pc lv (.int x :: st) sh μ :=
  ⟨k.1, fun p e R s m args below meth c H locs cells slots mc ms ls C h1 h2 h3 h4 hW hz hL hl => lv_if_ne C.1 C.2.1 hd ht (fun q => absurd q hc) (fun _ => k.2 p e R s m args below meth c H locs cells slots mc ms ls C h1 h2 h3 h4 hW hz hL hl)⟩
theorem ax_icmp_ne_t {x y : Int32} {off : Int} {tgt : Nat} (hd : decode b pc = .ok (.if_icmp .ne off, 3)) (ht : (pc : Int) + off = (tgt : Int)) (hc : ¬ x = y) (k : ax_X G l own b nL rt ini d r tgt lv st sh μ) : ax_X G l own b nL rt ini d r pc lv (.int y :: .int x :: st) sh μ :=
  ⟨k.1, fun p e R s m args below meth c H locs cells slots mc ms ls C h1 h2 h3 h4 hW hz hL hl => lv_icmp_ne C.1 C.2.1 hd ht (fun _ => k.2 p e R s m args below meth c H locs cells slots mc ms ls C h1 h2 h3 h4 hW hz hL hl) (fun q => absurd q hc)⟩
theorem ax_icmp_ne_f {x y : Int32} {off : Int} {tgt : Nat} (hd : decode b pc = .ok (.if_icmp .ne off, 3)) (ht : (pc : Int) + off = (tgt : Int)) (hc : ¬ (¬ x = y)) (k : ax_X G l own b nL rt ini d r (pc + 3) lv st sh μ) : ax_X G l own b nL rt ini d r pc lv (.int y :: .int x :: st) sh μ :=
  ⟨k.1, fun p e R s m args below meth c H locs cells slots mc ms ls C h1 h2 h3 h4 hW hz hL hl => lv_icmp_ne C.1 C.2.1 hd ht (fun q => absurd q hc) (fun _ => k.2 p e R s m args below meth c H locs cells slots mc ms ls C h1 h2 h3 h4 hW hz hL hl)⟩
theorem ax_if_lt_t {x : Int32} {off : Int} {tgt : Nat} (hd : decode b pc = .ok (.ifCond .lt off, 3)) (ht : (pc : Int) + off = (tgt : Int)) (hc : x < 0) (k : ax_X G l own b nL rt ini d r tgt lv st sh μ) : ax_X G l own b nL rt ini d r pc lv (.int x :: st) sh μ :=
  ⟨k.1, fun p e R s m args below meth c H locs cells slots mc ms ls C h1 h2 h3 h4 hW hz hL hl => lv_if_lt C.1 C.2.1 hd ht (fun _ => k.2 p e R s m args below meth c H locs cells slots mc ms ls C h1 h2 h3 h4 hW hz hL hl) (fun q => absurd hc q)⟩
theorem ax_if_lt_f {x : Int32} {off : Int} {tgt : Nat} (hd : decode b pc = .ok (.ifCond .lt off, 3)) (ht : (pc : Int) + off = (tgt : Int)) (hc : ¬ (x < 0)) (k : ax_X G l own b nL rt ini d r (pc + 3) lv st sh μ) : ax_X G l own b nL rt ini d r pc lv (.int x :: st) sh μ :=
  ⟨k.1, fun p e R s m args below meth c H locs cells slots mc ms ls C h1 h2 h3 h4 hW hz hL hl => lv_if_lt C.1 C.2.1 hd ht (fun q => absurd q hc) (fun _ => k.2 p e R s m args below meth c H locs cells slots mc ms ls C h1 h2 h3 h4 hW hz hL hl)⟩
theorem ax_icmp_lt_t {x y : Int32} {off : Int} {tgt : Nat} (hd : decode b pc = .ok (.if_icmp .lt off, 3)) (ht : (pc : Int) + off = (tgt : Int)) (hc : x < y) (k : ax_X G l own b nL rt ini d r tgt lv st sh μ) : ax_X G l own b nL rt ini d r pc lv (.int y :: .int x :: st) sh μ :=
  ⟨k.1, fun p e R s m args below meth c H locs cells slots mc ms ls C h1 h2 h3 h4 hW hz hL hl => lv_icmp_lt C.1 C.2.1 hd ht (fun _ => k.2 p e R s m args below meth c H locs cells slots mc ms ls C h1 h2 h3 h4 hW hz hL hl) (fun q => absurd hc q)⟩
theorem ax_icmp_lt_f {x y : Int32} {off : Int} {tgt : Nat} (hd : decode b pc = .ok (.if_icmp .lt off, 3)) (ht : (pc : Int) + off = (tgt : Int)) (hc : ¬ (x < y)) (k : ax_X G l own b nL rt ini d r (pc + 3) lv st sh μ) : ax_X G l own b nL rt ini d r pc lv (.int y :: .int x :: st) sh μ :=
  ⟨k.1, fun p e R s m args below meth c H locs cells slots mc ms ls C h1 h2 h3 h4 hW hz hL hl => lv_icmp_lt C.1 C.2.1 hd ht (fun q => absurd q hc) (fun _ => k.2 p e R s m args below meth c H locs cells slots mc ms ls C h1 h2 h3 h4 hW hz hL hl)⟩
theorem ax_if_ge_t {x : Int32} {off : Int} {tgt : Nat} (hd : decode b pc = .ok (.ifCond .ge off, 3)) (ht : (pc : Int) + off = (tgt : Int)) (hc : 0 ≤ x) (k : ax_X G l own b nL rt ini d r tgt lv st sh μ) : ax_X G l own b nL rt ini d r pc lv (.int x :: st) sh μ :=
  ⟨k.1, fun p e R s m args below meth c H locs cells slots mc ms ls C h1 h2 h3 h4 hW hz hL hl => lv_if_ge C.1 C.2.1 hd ht (fun _ => k.2 p e R s m args below meth c H locs cells slots mc ms ls C h1 h2 h3 h4 hW hz hL hl) (fun q => absurd hc q)⟩
theorem ax_if_ge_f {x : Int32} {off : Int} {tgt : Nat} (hd : decode b pc = .ok (.ifCond .ge off, 3)) (ht : (pc : Int) + off = (tgt : Int)) (hc : ¬ (0 ≤ x)) (k : ax_X G l own b nL rt ini d r (pc + 3) lv st sh μ) : ax_X G l own b nL rt ini d r pc lv (.int x :: st) sh μ :=
  ⟨k.1, fun p e R s m args below meth c H locs cells slots mc ms ls C h1 h2 h3 h4 hW hz hL hl => lv_if_ge C.1 C.2.1 hd ht (fun q => absurd q hc) (fun _ => k.2 p e R s m args below meth c H locs cells slots mc ms ls C h1 h2 h3 h4 hW hz hL hl)⟩
theorem ax_icmp_ge_t {x y : Int32} {off : Int} {tgt : Nat} (hd : decode b pc = .ok (.if_icmp .ge off, 3)) (ht : (pc : Int) + off = (tgt : Int)) (hc : y ≤ x) (k : ax_X G l own b nL rt ini d r tgt lv st sh μ) : ax_X G l own b nL rt ini d r pc lv (.int y :: .int x :: st) sh μ :=
  ⟨k.1, fun p e R s m args below meth c H locs cells slots mc ms ls C h1 h2 h3 h4 hW hz hL hl => lv_icmp_ge C.1 C.2.1 hd ht (fun _ => k.2 p e R s m args below meth c H locs cells slots mc ms ls C h1 h2 h3 h4 hW hz hL hl) (fun q => absurd hc q)⟩
theorem ax_icmp_ge_f {x y : Int32} {off : Int} {tgt : Nat} (hd : decode b pc = .ok (.if_icmp .ge off, 3)) (ht : (pc : Int) + off = (tgt : Int)) (hc : ¬ (y ≤ x)) (k : ax_X G l own b nL rt ini d r (pc + 3) lv st sh μ) : ax_X G l own b nL rt ini d r pc lv (.int y :: .int x :: st) sh μ :=
  ⟨k.1, fun p e R s m args below meth c H locs cells slots mc ms ls C h1 h2 h3 h4 hW hz hL hl => lv_icmp_ge C.1 C.2.1 hd ht (fun q => absurd q hc) (fun _ => k.2 p e R s m args below meth c H locs cells slots mc ms ls C h1 h2 h3 h4 hW hz hL hl)⟩
theorem ax_if_gt_t {x : Int32} {off : Int} {tgt : Nat} (hd : decode b pc = .ok (.ifCond .gt off, 3)) (ht : (pc : Int) + off = (tgt : Int)) (hc : 0 < x) (k : ax_X G l own b nL rt ini d r tgt lv st sh μ) : ax_X G l own b nL rt ini d r pc lv (.int x :: st) sh μ :=
  ⟨k.1, fun p e R s m args below meth c H locs cells slots mc ms ls C h1 h2 h3 h4 hW hz hL hl => lv_if_gt C.1 C.2.1 hd ht (fun _ => k.2 p e R s m args below meth c H locs cells slots mc ms ls C h1 h2 h3 h4 hW hz hL hl) (fun q => absurd hc q)⟩
theorem ax_if_gt_f {x : Int32} {off : Int} {tgt : Nat} (hd : decode b pc = .ok (.ifCond .gt off, 3)) (ht : (pc : Int) + off = (tgt : Int)) (hc : ¬ (0 < x)) (k : ax_X G l own b nL rt ini d r (pc + 3) lv st sh μ) : ax_X G l own b nL rt ini d r pc lv (.int x :: st) sh μ :=
  ⟨k.1, fun p e R s m args below meth c H locs cells slots mc ms ls C h1 h2 h3 h4 hW hz hL hl => lv_if_gt C.1 C.2.1 hd ht (fun q => absurd q hc) (fun _ => k.2 p e R s m args below meth c H locs cells slots mc ms ls C h1 h2 h3 h4 hW hz hL hl)⟩
theorem ax_icmp_gt_t {x y : Int32} {off : Int} {tgt : Nat} (hd : decode b pc = .ok (.if_icmp .gt off, 3)) (ht : (pc : Int) + off = (tgt : Int)) (hc : y < x) (k : ax_X G l own b nL rt ini d r tgt lv st sh μ) : ax_X G l own b nL rt ini d r pc lv (.int y :: .int x :: st) sh μ :=
  ⟨k.1, fun p e R s m args below meth c H locs cells slots mc ms ls C h1 h2 h3 h4 hW hz hL hl => lv_icmp_gt C.1 C.2.1 hd ht (fun _ => k.2 p e R s m args below meth c H locs cells slots mc ms ls C h1 h2 h3 h4 hW hz hL hl) (fun q => absurd hc q)⟩
theorem ax_icmp_gt_f {x y : Int32} {off : Int} {tgt : Nat} (hd : decode b pc = .ok (.if_icmp .gt off, 3)) (ht : (pc : Int) + off = (tgt : Int)) (hc : ¬ (y < x)) (k : ax_X G l own b nL rt ini d r (pc + 3) lv st sh μ) : ax_X G l own b nL rt ini d r pc lv (.int y :: .int x :: st) sh μ :=
  ⟨k.1, fun p e R s m args below meth c H locs cells slots mc ms ls C h1 h2 h3 h4 hW hz hL hl => lv_icmp_gt C.1 C.2.1 hd ht (fun q => absurd q hc) (fun _ => k.2 p e R s m args below meth c H locs cells slots mc ms ls C h1 h2 h3 h4 hW hz hL hl)⟩
theorem ax_if_le_t {x : Int32} {off : Int} {tgt : Nat} (hd : decode b pc = .ok (.ifCond .le off, 3)) (ht : (pc : Int) + off = (tgt : Int)) (hc : x ≤ 0) (k : ax_X G l own b nL rt ini d r tgt lv st sh μ) : ax_X G l own b nL rt ini d r pc lv (.int x :: st) sh μ :=
  ⟨k.1, fun p e R s m args below meth c H locs cells slots mc ms ls C h1 h2 h3 h4 hW hz hL hl => lv_if_le C.1 C.2.1 hd ht (fun _ => k.2 p e R s m args below meth c H locs cells slots mc ms ls C h1 h2 h3 h4 hW hz hL hl) (fun q => absurd hc q)⟩
theorem ax_if_le_f {x : Int32} {off : Int} {tgt : Nat} (hd : decode b pc = .ok (.ifCond .le off, 3)) (ht : (pc : Int) + off = (tgt : Int)) (hc : ¬ (x ≤ 0)) (k : ax_X G l own b nL rt ini d r (pc + 3) lv st sh μ) : ax_X G l own b nL rt ini d r pc lv (.int x :: st) sh μ :=
  ⟨k.1, fun p e R s m args below meth c H locs cells slots mc ms ls C h1 h2 h3 h4 hW hz hL hl => lv_if_le C.1 C.2.1 hd ht (fun q => absurd q hc) (fun _ => k.2 p e R s m args below meth c H locs cells slots mc ms ls C h1 h2 h3 h4 hW hz hL hl)⟩
theorem ax_icmp_le_t {x y : Int32} {off : Int} {tgt : Nat} (hd : decode b pc = .ok (.if_icmp .le off, 3)) (ht : (pc : Int) + off = (tgt : Int)) (hc : x ≤ y) (k : ax_X G l own b nL rt ini d r tgt lv st sh μ) : ax_X G l own b nL rt ini d r pc lv (.int y :: .int x :: st) sh μ :=
  ⟨k.1, fun p e R s m args below meth c H locs cells slots mc ms ls C h1 h2 h3 h4 hW hz hL hl => lv_icmp_le C.1 C.2.1 hd ht (fun _ => k.2 p e R s m args below meth c H locs cells slots mc ms ls C h1 h2 h3 h4 hW hz hL hl) (fun q => absurd hc q)⟩
theorem ax_icmp_le_f {x y : Int32} {off : Int} {tgt : Nat} (hd : decode b pc = .ok (.if_icmp .le off, 3)) (ht : (pc : Int) + off = (tgt : Int)) (hc : ¬ (x ≤ y)) (k : ax_X G l own b nL rt ini d r (pc + 3) lv st sh μ) : ax_X G l own b nL rt ini d r pc lv (.int y :: .int x :: st) sh μ :=
  ⟨k.1, fun p e R s m args below meth c H locs cells slots mc ms ls C h1 h2 h3 h4 hW hz hL hl => lv_icmp_le C.1 C.2.1 hd ht (fun q => absurd q hc) (fun _ => k.2 p e R s m args below meth c H locs cells slots mc ms ls C h1 h2 h3 h4 hW hz hL hl)⟩
theorem ax_goto {off : Int} {tgt : Nat} (hd : decode b pc = .ok (.goto off, 3)) (ht : (pc : Int) + off = (tgt : Int)) (k : ax_X G l own b nL rt ini d r tgt lv st sh μ) : ax_X G l own b nL rt ini d r pc lv st sh μ :=
  ⟨k.1, fun p e R s m args below meth c H locs cells slots mc ms ls C h1 h2 h3 h4 hW hz hL hl => lv_goto C.1 C.2.1 hd ht (k.2 p e R s m args below meth c H locs cells slots mc ms ls C h1 h2 h3 h4 hW hz hL hl)⟩
theorem ax_tab {dflt lo hi : Int} {offs : Array Int} {len : Nat} {x : Int32} {off : Int} {tgt : Nat} (hd : decode b pc = .ok (.tableswitch dflt lo hi offs, len)) (h1 : ¬ x.toInt < lo) (h2 : ¬ hi < x.toInt) (ho : offs[(x.toInt - lo).toNat]? = some off) (ht : (pc : Int) + off = (tgt : Int)) (k : ax_X G l own b nL rt ini d r tgt lv st sh μ) : ax_X G l own b nL rt ini d r pc lv (.int x :: st) sh μ :=
  ⟨k.1, fun p e R s m args below meth c H locs cells slots mc ms ls C g1 g2 g3 g4 hW hz hL hl => lv_tableIn C.1 C.2.1 hd h1 h2 ho ht (k.2 p e R s m args below meth c H locs cells slots mc ms ls C g1 g2 g3 g4 hW hz hL hl)⟩
theorem ax_tabD {dflt lo hi : Int} {offs : Array Int} {len : Nat} {x : Int32} {tgt : Nat} (hd : decode b pc = .ok (.tableswitch dflt lo hi offs, len)) (h : x.toInt < lo ∨ hi < x.toInt) (ht : (pc : Int) + dflt = (tgt : Int)) (k : ax_X G l own b nL rt ini d r tgt lv st sh μ) : ax_X G l own b nL rt ini d r pc lv (.int x :: st) sh μ :=
  ⟨k.1, fun p e R s m args below meth c H locs cells slots mc ms ls C g1 g2 g3 g4 hW hz hL hl => lv_tableOut C.1 C.2.1 hd h ht (k.2 p e R s m args below meth c H locs cells slots mc ms ls C g1 g2 g3 g4 hW hz hL hl)⟩
theorem ax_look {dflt : Int} {ps : Array (Int × Int)} {len : Nat} {x : Int32} {off : Int} {tgt : Nat} (hd : decode b pc = .ok (.lookupswitch dflt ps, len)) (hp : (ps.toList.zip (ps.toList.drop 1)).all (fun (a, next) => a.1 < next.1) = true) (ho : Op.lookupswitch.offset ps.toList dflt x.toInt = off) (ht : (pc : Int) + off = (tgt : Int)) (k : ax_X G l own b nL rt ini d r tgt lv st sh μ) : ax_X G l own b nL rt ini d r pc lv (.int x :: st) sh μ :=
  ⟨k.1, fun p e R s m args below meth c H locs cells slots mc ms ls C g1 g2 g3 g4 hW hz hL hl => lv_lookup C.1 C.2.1 hd hp ho ht (k.2 p e R s m args below meth c H locs cells slots mc ms ls C g1 g2 g3 g4 hW hz hL hl)⟩
/-- fewer locals told -/
theorem ax_sub (ks : List Nat) (hl' : lv_pick lv ks = lv') (k : ax_X G l own b nL rt ini d r pc lv' st sh μ) : ax_X G l own b nL rt ini d r pc lv st sh μ :=
  ⟨k.1, fun p e R s m args below meth c H locs cells slots mc ms ls C g1 g2 g3 g4 hW hz hL hl => k.2 p e R s m args below meth c H locs cells slots mc ms ls C g1 g2 g3 g4 hW hz hL (lv_sub hl ks hl')⟩
theorem ax_one {k : Nat} {e0 : ax_E} {H : Heap} (h : ax_H G sh μ H) (he : sh[k]? = some e0) : va_P G.2.1 vwCl [(G.1 + k, ax_en G μ k e0)] H := by
  intro i q hq
  match i, hq with
  | 0, hq => cases hq; exact h.2 k e0 he
  | i + 1, hq => simp at hq
theorem ax_getf {idx ci j k : Nat} {fs : List (Option (Option Nat))} {f : Option (Option Nat)} (hd : decode b pc = .ok (.getfield idx, 3)) (hf : ax_FL own idx ci j) (he : sh[k]? = some (.inl (ci, fs))) (hv : fs[j]? = some f) (kk : ax_X G l own b nL rt ini d r (pc + 3) lv (ax_fv G.1 μ k j f :: st) sh μ) : ax_X G l own b nL rt ini d r pc lv (.ref (G.1 + k) :: st) sh μ := by
  refine ⟨kk.1, fun p e R s m args below meth c H locs cells slots mc ms ls C h1 h2 h3 h4 hW hz hL hl => ?_⟩
  obtain ⟨⟨C0, T, N⟩, hc, hj, hlink, hin⟩ := hf
  exact va_get (C := C0) (T := T) (N := N) C.1 C.2.1 C.2.2.2.2.2.2.2.1 hin C.2.2.2.2.2.2.1 hW.2.1 (ax_one hW.1 he) 0 rfl hc j hj (C.2.2.2.2.2.2.2.1 _ hlink) (fun _ h => h) (ax_fs_get hv) hd (kk.2 p e R s m args below meth c H locs cells slots mc ms ls C h1 h2 h3 h4 hW hz hL hl)
theorem ax_getI {idx ci j k : Nat} {fs : List (Option (Option Nat))} (hd : decode b pc = .ok (.getfield idx, 3)) (hf : ax_FL own idx ci j) (he : sh[k]? = some (.inl (ci, fs))) (hv : fs[j]? = some none) (kk : ax_X G l own b nL rt ini d r (pc + 3) lv (.int (μ k j) :: st) sh μ) : ax_X G l own b nL rt ini d r pc lv (.ref (G.1 + k) :: st) sh μ := ax_getf hd hf he hv kk
theorem ax_getR {idx ci j k q : Nat} {fs : List (Option (Option Nat))} (hd : decode b pc = .ok (.getfield idx, 3)) (hf : ax_FL own idx ci j) (he : sh[k]? = some (.inl (ci, fs))) (hv : fs[j]? = some (some (some q))) (kk : ax_X G l own b nL rt ini d r (pc + 3) lv (.ref (G.1 + q) :: st) sh μ) : ax_X G l own b nL rt ini d r pc lv (.ref (G.1 + k) :: st) sh μ := ax_getf hd hf he hv kk
theorem ax_putI {idx ci j k : Nat} {fs : List (Option (Option Nat))} {t : Nat → FieldType} {x : Int32} (hd : decode b pc = .ok (.putfield idx, 3)) (hf : ax_FL own idx ci j) (ht : ax_FT ci t) (he : sh[k]? = some (.inl (ci, fs))) (hv : fs[j]? = some none) (hfin : ∀ r : vw_C, vwCl[ci]? = some r → (r.2.1 j).2.2.2 = false) (hn : narrow (t j) (.int x) = .int x) (hfit : fits (t j) (.int x) = true) (kk : ax_X G l own b nL rt ini d r (pc + 3) lv st sh (ax_w μ k j x)) : ax_X G l own b nL rt ini d r pc lv (.int x :: .ref (G.1 + k) :: st) sh μ := by
  refine ⟨kk.1, fun p e R s m args below meth c H locs cells slots mc ms ls C h1 h2 h3 h4 hW hz hL hl => ?_⟩
  obtain ⟨⟨C0, T, N⟩, hc, hj, hlink, hin⟩ := hf
  obtain ⟨r', hc', hty, hnm⟩ := ht
  cases hc.symm.trans hc'
  have hts := C.2.2.2.2.2.2.2.1
  have hown := C.2.2.2.2.2.2.1
  have hap := va_apart (own := own) hts hin t hty hnm hW.2.1 hc
  obtain ⟨r1, g1, cell, q1, q2, q3, q4⟩ := hW.1.2 k _ he
  cases g1.symm.trans hc
  obtain ⟨hS, hfc, kC, hkC, hkind⟩ := hW.2.1.1 ci _ hc
  obtain ⟨cf, kf, fi, f, hi, hsl⟩ := hS j hj
  have hlay := hts _ (hin _ (u_in_lay hj))
  unfold u_lay at hlay
  rw [if_neg (by rw [hfin _ hc]; decide)] at hlay
  have hst := (u_facts hfc hkC (u_lays hts hin hj) hi).1
  have h6 := u_store hfc hkC hkind hlay hi (hty j hj) hn hfit
  refine W.putK C.1 C.2.1 (f := f) ⟨hown, hts _ hlink, ⟨_, _, _, hi⟩, hst⟩ (by rw [q2]; exact h6) q1 q3 (by rw [hsl]; exact k2_hasslot (q4 j hj)) rfl rfl hd fun H' e1 e2 e3 => ?_
  rw [hsl] at e1 ⊢
  have hlen : j < (ax_fs G.1 μ k fs).length := by rw [show (ax_fs G.1 μ k fs).length = fs.length by simp [ax_fs]]; exact (List.getElem?_eq_some_iff.mp hv).1
  have hkeep : ∀ q, q < G.1 → H'[q]? = H[q]? := fun q hq => e3 q (fun z => by rw [z] at hq; exact absurd hq (Nat.not_lt.mpr (Nat.le_add_right _ _)))
  refine kk.2 p e R s m args below meth c H' _ cells slots mc ms ls C h1 h2 h3 h4 ⟨ax_upd hW.1 he e2 e3 ?_ ?_, hW.2.1, hW.2.2.kept hkeep⟩ (fun q hq => (hkeep q hq).trans (hz q hq)) ?_ hl
  · refine ⟨_, hc, t_OB.to (V := updV (vp_V (ax_fs G.1 μ k fs)) j (.int x)) ⟨_, e1, q2, q3, t_set q4 hap hj _⟩ (fun i hi' => ?_)⟩
    by_cases hij : i = j
    · subst hij
      simp only [updV, if_true, vp_V]
      rw [List.getD_eq_getElem?_getD, ax_fs_get hv]
      simp [ax_fv, ax_w]
    · simp only [updV, if_neg hij, vp_V, List.getD_eq_getElem?_getD]
      unfold ax_fs
      rw [List.getElem?_mapIdx, List.getElem?_mapIdx]
      cases hx : fs[i]? with
      | none => rfl
      | some f1 =>
        cases f1 with
        | none => simp [ax_fv, ax_w, hij]
        | some f2 => cases f2 <;> rfl
  · exact fun k' e' hk' _ => ax_en_congr (ax_w_ne hk')
  · intro q hq
    rcases List.mem_append.mp hq with h | h
    · exact hL q h
    · rw [List.mem_singleton.mp h]
      exact Nat.le_add_right _ _
theorem ax_en1 (G : ax_G) (μ : ax_M) (k t n : Nat) : ax_en G μ k (.inr (.inl (t, n))) = .inl (G.2.2.1 t, (n, .inl (μ k))) := rfl
theorem ax_putR {idx ci j k q : Nat} {fs fs' : List (Option (Option Nat))} {t : Nat → FieldType} {f0 : Option Nat} {sh' : List ax_E} (hd : decode b pc = .ok (.putfield idx, 3)) (hf : ax_FL own idx ci j) (ht : ax_FT ci t) (he : sh[k]? = some (.inl (ci, fs))) (hv : fs[j]? = some (some f0)) (hini : ini = true) (hfin : ∀ r : vw_C, vwCl[ci]? = some r → (r.2.1 j).2.2.2 = true ∧ (r.2.1 j).1 = own) (hn : narrow (t j) (.ref (G.1 + q)) = .ref (G.1 + q)) (hfit : fits (t j) (.ref (G.1 + q)) = true) (hfs : fs.set j (some (some q)) = fs') (hsh : sh.set k (.inl (ci, fs')) = sh') (kk : ax_X G l own b nL rt ini d r (pc + 3) lv st sh' μ) : ax_X G l own b nL rt ini d r pc lv (.ref (G.1 + q) :: .ref (G.1 + k) :: st) sh μ := by
  subst hfs
  subst hsh
  have hlsh : (sh.set k (.inl (ci, fs.set j (some (some q))))).length = sh.length := List.length_set
  have hsl0 : ax_sl (sh.set k (.inl (ci, fs.set j (some (some q))))) = ax_sl sh := by
    unfold ax_sl
    rw [List.map_set, show ax_e1 (.inl (ci, fs.set j (some (some q)))) = ax_e1 (.inl (ci, fs)) from List.length_set]
    congr 1
    apply List.ext_getElem?
    intro i
    rw [List.getElem?_set, List.length_map]
    by_cases hik : k = i
    · subst hik
      have hlt := (List.getElem?_eq_some_iff.mp he).1
      rw [if_pos rfl, if_pos hlt, List.getElem?_map, he]
      rfl
    · rw [if_neg hik]
  have kk1 := kk.1
  rw [hlsh, hsl0] at kk1
  refine ⟨kk1, fun p e R s m args below meth c H locs cells slots mc ms ls C h1 h2 h3 h4 hW hz hL hl => ?_⟩
  obtain ⟨⟨C0, T, N⟩, hc, hj, hlink, hin⟩ := hf
  obtain ⟨r', hc', hty, hnm⟩ := ht
  cases hc.symm.trans hc'
  have hts := C.2.2.2.2.2.2.2.1
  have hown := C.2.2.2.2.2.2.1
  have hap := va_apart (own := own) hts hin t hty hnm hW.2.1 hc
  obtain ⟨r1, g1, cell, q1, q2, q3, q4⟩ := hW.1.2 k _ he
  cases g1.symm.trans hc
  obtain ⟨hS, hfc, kC, hkC, hkind⟩ := hW.2.1.1 ci _ hc
  obtain ⟨cf, kf, fi, f, hi, hsl⟩ := hS j hj
  have hlay := hts _ (hin _ (u_in_lay hj))
  unfold u_lay at hlay
  rw [if_pos (hfin _ hc).1] at hlay
  have hst := (u_facts hfc hkC (u_lays hts hin hj) hi).1
  have hcf : m.cls = cf := by
    obtain ⟨_, _, c', _, _, _, -, -, hf', -, -, -, hown2, -⟩ := Cond.laysFinal_spec hlay
    have e1 : c' = cf := by have := hi.symm.trans hf'; simp at this; exact this.1.symm
    rw [(hfin _ hc).2] at hown2
    rw [← e1]; exact Option.some.inj (hown.symm.trans hown2)
  have h6 := u_fits hfc hkC hkind (Or.inr hlay) hi (hty j hj) hn hfit
  refine W.putFinK C.1 C.2.1 hown (hts _ hlink) hi hst hcf (C.2.2.2.2.2.1 hini) (by rw [q2]; exact h6) q1 q3 (by rw [hsl]; exact k2_hasslot (q4 j hj)) rfl rfl hd fun H' e1 e2 e3 => ?_
  rw [hsl] at e1 ⊢
  have hkeep : ∀ q, q < G.1 → H'[q]? = H[q]? := fun q hq => e3 q (fun z => by rw [z] at hq; exact absurd hq (Nat.not_lt.mpr (Nat.le_add_right _ _)))
  refine kk.2 p e R s m args below meth c H' _ cells slots mc ms ls C h1 h2 (by rw [hlsh]; exact h3) (by rw [hsl0]; exact h4) ⟨⟨by rw [hlsh]; exact e2.trans hW.1.1, fun k' e' he' => ?_⟩, hW.2.1, hW.2.2.kept hkeep⟩ (fun q hq => (hkeep q hq).trans (hz q hq)) ?_ hl
  · rw [List.getElem?_set] at he'
    by_cases hk : k = k'
    · subst hk
      rw [if_pos rfl, if_pos (List.getElem?_eq_some_iff.mp he).1] at he'
      cases he'
      refine ⟨_, hc, t_OB.to (V := updV (vp_V (ax_fs G.1 μ k fs)) j (.ref (G.1 + q))) ⟨_, e1, q2, q3, t_set q4 hap hj _⟩ (fun i hi' => ?_)⟩
      have hjl := (List.getElem?_eq_some_iff.mp hv).1
      by_cases hij : i = j
      · subst hij
        simp only [updV, if_true, vp_V]
        rw [List.getD_eq_getElem?_getD, ax_fs_get (f := some (some q)) (by rw [List.getElem?_set, if_pos rfl, if_pos hjl])]
        rfl
      · simp only [updV, if_neg hij, vp_V, List.getD_eq_getElem?_getD]
        unfold ax_fs
        rw [List.getElem?_mapIdx, List.getElem?_mapIdx, List.getElem?_set, if_neg (fun z => hij z.symm)]
    · rw [if_neg hk] at he'
      exact (hW.1.2 k' e' he').kept (e3 _ (fun z => hk (Nat.add_left_cancel z).symm))
  · intro q hq
    rcases List.mem_append.mp hq with h | h
    · exact hL q h
    · rw [List.mem_singleton.mp h]
      exact Nat.le_add_right _ _
theorem ax_iald {k n : Nat} {i : Int32} (hd : decode b pc = .ok (.iaload, 1)) (he : sh[k]? = some (.inr (.inl (0, n)))) (hi : vp_in i n) (kk : ax_X G l own b nL rt ini d r (pc + 1) lv (.int (μ k i.toNatClampNeg) :: st) sh μ) : ax_X G l own b nL rt ini d r pc lv (.int i :: .ref (G.1 + k) :: st) sh μ :=
  ⟨kk.1, fun p e R s m args below meth c H locs cells slots mc ms ls C h1 h2 h3 h4 hW hz hL hl => va_iald C.1 C.2.1 hW.2.1 (ax_one hW.1 he) 0 0 rfl rfl hi hd (kk.2 p e R s m args below meth c H locs cells slots mc ms ls C h1 h2 h3 h4 hW hz hL hl)⟩
theorem ax_zald {k n : Nat} {i : Int32} (hd : decode b pc = .ok (.baload, 1)) (he : sh[k]? = some (.inr (.inl (1, n)))) (hi : vp_in i n) (kk : ax_X G l own b nL rt ini d r (pc + 1) lv (.int (μ k i.toNatClampNeg) :: st) sh μ) : ax_X G l own b nL rt ini d r pc lv (.int i :: .ref (G.1 + k) :: st) sh μ :=
  ⟨kk.1, fun p e R s m args below meth c H locs cells slots mc ms ls C h1 h2 h3 h4 hW hz hL hl => va_zald C.1 C.2.1 hW.2.1 (ax_one hW.1 he) 0 1 rfl rfl hi hd (kk.2 p e R s m args below meth c H locs cells slots mc ms ls C h1 h2 h3 h4 hW hz hL hl)⟩
theorem ax_alen {k t n : Nat} {v : Int32} (hd : decode b pc = .ok (.arraylength, 1)) (he : sh[k]? = some (.inr (.inl (t, n)))) (htt : t < 2) (hv : Int32.ofNat n = v) (kk : ax_X G l own b nL rt ini d r (pc + 1) lv (.int v :: st) sh μ) : ax_X G l own b nL rt ini d r pc lv (.ref (G.1 + k) :: st) sh μ := by
  refine ⟨kk.1, fun p e R s m args below meth c H locs cells slots mc ms ls C h1 h2 h3 h4 hW hz hL hl => ?_⟩
  match t, htt, he with
  | 0, _, he => exact va_alen C.1 C.2.1 hW.2.1 (ax_one hW.1 he) 0 0 rfl rfl hv hd (kk.2 p e R s m args below meth c H locs cells slots mc ms ls C h1 h2 h3 h4 hW hz hL hl)
  | 1, _, he => exact va_alen C.1 C.2.1 hW.2.1 (ax_one hW.1 he) 0 1 rfl rfl hv hd (kk.2 p e R s m args below meth c H locs cells slots mc ms ls C h1 h2 h3 h4 hW hz hL hl)
theorem ax_aald {k b0 n : Nat} {i : Int32} (hd : decode b pc = .ok (.aaload, 1)) (he : sh[k]? = some (.inr (.inr (b0, n)))) (hi : vp_in i n) (kk : ax_X G l own b nL rt ini d r (pc + 1) lv (.ref (G.1 + (b0 + i.toNatClampNeg)) :: st) sh μ) : ax_X G l own b nL rt ini d r pc lv (.int i :: .ref (G.1 + k) :: st) sh μ := by
  refine ⟨kk.1, fun p e R s m args below meth c H locs cells slots mc ms ls C h1 h2 h3 h4 hW hz hL hl => ?_⟩
  have hlt : i.toNatClampNeg < n := Nat.not_le.mp fun q => hi (Or.inr q)
  have hc := hW.1.2 k _ he
  refine W.aald (v := .ref (G.1 + (b0 + i.toNatClampNeg))) (ty := .array .int) C.1 C.2.1 hc ((hW.2.1.2 2 _ rfl).1 n _) rfl (fun q => by cases q) (by show ¬ (i < 0 ∨ (arrV _ _ _).slots.size ≤ _); rw [arrV_size]; exact hi) (by show (arrV _ _ _).slots[_]? = _; rw [arrV_read _ _ hlt]; simp [hlt, va_rf]) rfl rfl hd (kk.2 p e R s m args below meth c H locs cells slots mc ms ls C h1 h2 h3 h4 hW hz hL hl)
theorem ax_iast {k n : Nat} {i x : Int32} (hd : decode b pc = .ok (.iastore, 1)) (he : sh[k]? = some (.inr (.inl (0, n)))) (hi : vp_in i n) (kk : ax_X G l own b nL rt ini d r (pc + 1) lv st sh (ax_w μ k i.toNatClampNeg x)) : ax_X G l own b nL rt ini d r pc lv (.int x :: .int i :: .ref (G.1 + k) :: st) sh μ := by
  refine ⟨kk.1, fun p e R s m args below meth c H locs cells slots mc ms ls C h1 h2 h3 h4 hW hz hL hl => ?_⟩
  have hc := hW.1.2 k _ he
  refine W.iast C.1 C.2.1 hc ((hW.2.1.2 0 _ rfl).1 n (fun j => .int (μ k j))) (fun q => by cases q) (by show ¬ (i < 0 ∨ (arrV _ _ _).slots.size ≤ _); rw [arrV_size]; exact hi) rfl rfl hd fun H1 e1 e2 e3 => ?_
  have hkeep : ∀ q, q < G.1 → H1[q]? = H[q]? := fun q hq => e3 q (fun z => by rw [z] at hq; exact absurd hq (Nat.not_lt.mpr (Nat.le_add_right _ _)))
  refine kk.2 p e R s m args below meth c H1 _ cells slots mc ms ls C h1 h2 h3 h4 ⟨ax_upd hW.1 he e2 e3 ?_ (fun k' e' hk' _ => ax_en_congr (ax_w_ne hk')), hW.2.1, hW.2.2.kept hkeep⟩ (fun q hq => (hkeep q hq).trans (hz q hq)) (fun q hq => ?_) hl
  · show H1[_]? = some (vp_cell _ _)
    rw [e1, ax_w_eq, vp_cell_i, vp_cell_i, arrV_store]
    congr 2
    funext q
    by_cases hq : q = i.toNatClampNeg
    · subst hq
      simp [updV, upd]
    · simp [updV, upd, hq]
  · rcases List.mem_append.mp hq with h | h
    · exact hL q h
    · rw [List.mem_singleton.mp h]
      exact Nat.le_add_right _ _
theorem ax_zast {k n : Nat} {i x : Int32} (hd : decode b pc = .ok (.bastore, 1)) (he : sh[k]? = some (.inr (.inl (1, n)))) (hi : vp_in i n) (kk : ax_X G l own b nL rt ini d r (pc + 1) lv st sh (ax_w μ k i.toNatClampNeg (vp_nar .boolean x))) : ax_X G l own b nL rt ini d r pc lv (.int x :: .int i :: .ref (G.1 + k) :: st) sh μ := by
  refine ⟨kk.1, fun p e R s m args below meth c H locs cells slots mc ms ls C h1 h2 h3 h4 hW hz hL hl => ?_⟩
  have hc := hW.1.2 k _ he
  refine W.zast C.1 C.2.1 hc ((hW.2.1.2 1 _ rfl).1 n (fun j => .int (μ k j))) (fun q => by cases q) (by show ¬ (i < 0 ∨ (arrV _ _ _).slots.size ≤ _); rw [arrV_size]; exact hi) rfl rfl hd fun H1 e1 e2 e3 => ?_
  have hkeep : ∀ q, q < G.1 → H1[q]? = H[q]? := fun q hq => e3 q (fun z => by rw [z] at hq; exact absurd hq (Nat.not_lt.mpr (Nat.le_add_right _ _)))
  refine kk.2 p e R s m args below meth c H1 _ cells slots mc ms ls C h1 h2 h3 h4 ⟨ax_upd hW.1 he e2 e3 ?_ (fun k' e' hk' _ => ax_en_congr (ax_w_ne hk')), hW.2.1, hW.2.2.kept hkeep⟩ (fun q hq => (hkeep q hq).trans (hz q hq)) (fun q hq => ?_) hl
  · show H1[_]? = some (vp_cell _ _)
    rw [e1, ax_w_eq, vp_cell_i, vp_cell_i, arrV_store]
    congr 2
    funext q
    by_cases hq : q = i.toNatClampNeg
    · subst hq
      simp [updV, upd, vp_nar, narrow]
    · simp [updV, upd, hq]
  · rcases List.mem_append.mp hq with h | h
    · exact hL q h
    · rw [List.mem_singleton.mp h]
      exact Nat.le_add_right _ _
/-- ends -/
theorem ax_ireti {pcx : Nat} {x : Int32} (hd : decode b pc = .ok (.ireturn, 1)) (hrt : ∃ ty, rt = some ty ∧ narrow ty (.int x) = .int x) (hr : r = (some (.int x), sh, μ)) : ax_X G l own b nL rt ini d r pc lv [.int x] sh μ := by
  subst hr
  refine ⟨⟨Nat.le_refl _, Nat.le_refl _⟩, fun p e R s m args below meth c H locs cells slots mc ms ls C h1 h2 h3 h4 hW hz hL hl => ?_⟩
  obtain ⟨ty, rfl, hn⟩ := hrt
  obtain rfl : mc = cells := by dsimp only at h3; omega
  obtain rfl : ms = slots := by dsimp only at h4; omega
  exact W.zret C.1 C.2.1 C.2.2.2.1 hn (fun t ht hWt => ⟨rfl, by rw [ht]; exact hW.1, fun q hq => by rw [ht]; exact hz q hq⟩) hL hd C.2.2.2.2.1
theorem ax_lret {x : Int64} (hd : decode b pc = .ok (.lreturn, 1)) (hrt : rt = some .long) (hr : r = (some (.long x), sh, μ)) : ax_X G l own b nL rt ini d r pc lv [.long x] sh μ := by
  subst hr
  subst hrt
  refine ⟨⟨Nat.le_refl _, Nat.le_refl _⟩, fun p e R s m args below meth c H locs cells slots mc ms ls C h1 h2 h3 h4 hW hz hL hl => ?_⟩
  obtain rfl : mc = cells := by dsimp only at h3; omega
  obtain rfl : ms = slots := by dsimp only at h4; omega
  exact W.lret C.1 C.2.1 C.2.2.2.1 (fun t ht hWt => ⟨rfl, by rw [ht]; exact hW.1, fun q hq => by rw [ht]; exact hz q hq⟩) hL hd C.2.2.2.2.1
theorem ax_vret (hd : decode b pc = .ok (.return_, 1)) (hrt : rt = none) (hr : r = (none, sh, μ)) : ax_X G l own b nL rt ini d r pc lv [] sh μ := by
  subst hr
  subst hrt
  refine ⟨⟨Nat.le_refl _, Nat.le_refl _⟩, fun p e R s m args below meth c H locs cells slots mc ms ls C h1 h2 h3 h4 hW hz hL hl => ?_⟩
  obtain rfl : mc = cells := by dsimp only at h3; omega
  obtain rfl : ms = slots := by dsimp only at h4; omega
  exact W.vret C.1 C.2.1 C.2.2.2.1 (fun t ht hWt => ⟨rfl, by rw [ht]; exact hW.1, fun q hq => by rw [ht]; exact hz q hq⟩) hL hd C.2.2.2.2.1
theorem ax_aret {x : Nat} {nm : String} (hd : decode b pc = .ok (.areturn, 1)) (hrt : rt = some (.object nm)) (hr : r = (some (.ref x), sh, μ)) : ax_X G l own b nL rt ini d r pc lv [.ref x] sh μ := by
  subst hr
  subst hrt
  refine ⟨⟨Nat.le_refl _, Nat.le_refl _⟩, fun p e R s m args below meth c H locs cells slots mc ms ls C h1 h2 h3 h4 hW hz hL hl => ?_⟩
  obtain rfl : mc = cells := by dsimp only at h3; omega
  obtain rfl : ms = slots := by dsimp only at h4; omega
  exact W.aret C.1 C.2.1 C.2.2.2.1 (Or.inl ⟨nm, rfl⟩) (Or.inr ⟨x, rfl⟩) (fun t ht hWt => ⟨rfl, by rw [ht]; exact hW.1, fun q hq => by rw [ht]; exact hz q hq⟩) hL hd C.2.2.2.2.1
theorem ax_ldcS {idx i : Nat} {q : String × Nat × String × List Int32} (hd : decode b pc = .ok (.ldc idx, 2)) (hq : ax_strs[i]? = some q) (ho : q.1 = own) (hi : q.2.1 = idx) (kk : ax_X G l own b nL rt ini d r (pc + 2) lv (.ref (G.2.2.2.1 i) :: st) sh μ) : ax_X G l own b nL rt ini d r pc lv st sh μ := by
  refine ⟨kk.1, fun p e R s m args below meth c H locs cells slots mc ms ls C h1 h2 h3 h4 hW hz hL hl => ?_⟩
  subst ho
  subst hi
  exact va_ldcS C.1 C.2.1 C.2.2.2.2.2.2.1 (hW.2.2.2.1 i q hq) hd (kk.2 p e R s m args below meth c H locs cells slots mc ms ls C h1 h2 h3 h4 hW hz hL hl)
/-- calls -/
theorem ax_blind {args0 : List Value} : FrameBlind (va_Pc args0 (fun U => ax_W G sh μ U U.heap)) := fun a U g mk h => by
  obtain ⟨h0, h1, h2, hs, hr, hz1, ⟨v, h4, h5⟩, h6, h7⟩ := h
  exact ⟨h0, h1, va_K.moved (u := U) (U := U.calling g mk a) (Vm.Alike.refl U.vm) h2, hs.moved (u := U) (U := U.calling g mk a) (Vm.Alike.refl U.vm), fun i q hq => vk_R.same (u := U) (U := U.calling g mk a) rfl (hr i q hq), va_Z.moved (u := U) (U := U.calling g mk a) (Vm.Alike.refl U.vm) hz1, ⟨v, h4, va_Z.moved (u := U) (U := U.calling g mk a) (Vm.Alike.refl U.vm) h5⟩, fun q hq => va_Nw.same (u := U) (U := U.calling g mk a) rfl rfl (h6 q hq), Jvm.Stand.arrayOver_alikeB (s := U) (U := U.calling g mk a) (Vm.Alike.refl U.vm) h7⟩
theorem ax_pre {s U : State} {H : Heap} {As : List Value} (hW : ax_W G sh μ s H) (hU : U.heap = H) (hw : s.WarmedH U.vm) : va_Pc As (fun U => ax_W G sh μ U U.heap) As.toArray U := ⟨rfl, by rw [hU]; exact hW.1, va_K.moved hw.alike hW.2.1, by rw [hU]; exact hW.2.2.moved hw⟩
theorem ax_good {y : MethodName} {b' : ByteArray} {nL' : Nat} {rt' : Option FieldType} (hc : Cond.code y b' nL' rt' ∈ ax_T) : GoodIn ax_T (.code y b' nL' rt' :: ax_T) := fun w hw => by
  have h : w ∈ ax_T := (List.mem_cons.mp hw).elim (fun e => e ▸ hc) id
  exact ⟨h, good_of_word (List.mem_filter.mp h).2⟩
/-- what is known behind a call -/
theorem ax_back {y : MethodName} {b' : ByteArray} {nL' : Nat} {rt' : Option FieldType} {d' : Nat} {As : List Value} {r' : ax_R} {rest st0 : List Value} (hA : sh.length ≤ r'.2.1.length ∧ ax_sl sh ≤ ax_sl r'.2.1) (kk : ax_X G l own b nL rt ini d r (pc + 3) lv (r'.1.toList ++ rest) r'.2.1 r'.2.2)
    {p : Program} {e : Env} {R : Room} {s : State} {m : MethodId} {args : Array Value} {below : List Frame} {meth : Method} {c : Code} {H : Heap} {locs : List Loc} {cells slots mc ms : Nat} {ls : Array Slot} (C : ax_C own b nL rt ini d p R s m args meth c) (h1 : mc ≤ R.cells) (h2 : ms ≤ R.slots) (h3 : cells + r.2.1.length = mc + sh.length) (h4 : slots + ax_sl r.2.1 = ms + ax_sl sh) (hW : ax_W G sh μ s H) (hz : ∀ q, q < G.1 → H[q]? = s.heap[q]?) (hL : ∀ q ∈ locs, G.1 ≤ q.base) (hl : lv_has ls nL lv) {a : Array Value}
    (hr : va_Run p l e R s m args below meth c H locs cells slots (r'.2.1.length - sh.length) (ax_sl r'.2.1 - ax_sl sh) (F0 m pc ls st0) rest (ax_Q G r' a) (fun q => G.1 ≤ q)) : W p l e R s m args below meth c H locs cells slots (MQ below (ax_Q G r) args s mc ms (fun q => G.1 ≤ q)) (F0 m pc ls st0) := by
  intro T hT X
  obtain ⟨v, st₀, t, T', L, h0, X', hL', e1, e2, ⟨hv, hH, hk⟩, sx⟩ := hr T hT X
  have hv' : v = r'.1 := by cases hv; rfl
  subst hv'
  have hw : s.WarmedH T'.vm := X'.warmed
  have k1 := kk.1
  have hkz : ∀ q, q < G.1 → T'.heap[q]? = H[q]? := fun q hq => by rw [e1, hk q hq, h0]
  obtain ⟨t2, a1, b1⟩ := kk.2 p e R s m args below meth c T'.heap (locs ++ L) _ _ mc ms ls C h1 h2 (by omega) (by omega) ⟨by rw [e1]; exact hH, hW.2.1, hW.2.2.kept hkz⟩ (fun q hq => (hkz q hq).trans (hz q hq)) (fun q hq => (List.mem_append.mp hq).elim (hL q) (hL' q)) hl T' rfl X'
  exact ⟨t2, sx t2 a1, b1⟩
theorem ax_callV {idx ci k n : Nat} {y : MethodName} {b' : ByteArray} {nL' : Nat} {rt' : Option FieldType} {d' : Nat} {As : List Value} {r' : ax_R} {rest : List Value} {fs : List (Option (Option Nat))} {st0 : List Value} (hd : decode b pc = .ok (.invokevirtual idx, 3)) (hA : ax_A G l y b' nL' rt' d' (.ref (G.1 + k) :: As) sh μ r')
    (hw : Cond.code y b' nL' rt' ∈ ax_T ∧ Cond.methodLink own idx y ∈ ax_T ∧ Cond.instanceMethod y ∈ ax_T ∧ Cond.selects y.cls y y ∈ ax_T ∧ Cond.initialized y.cls ∈ ax_T)
    (hy : y.cls ≠ "java/lang/invoke/MethodHandle" ∧ y.cls ≠ "java/lang/invoke/VarHandle" ∧ (parseMethodDescriptor y.desc).map (fun d => d.parameters.length) = some n)
    (he : sh[k]? = some (.inl (ci, fs))) (hcl : ∀ q : vw_C, vwCl[ci]? = some q → q.1 = y.cls) (hci : ci < vwCl.length) (hst : st0 = As.reverse ++ .ref (G.1 + k) :: rest) (hn : As.length = n) (hd' : d' + 1 ≤ d) (hnL : nL' ≤ 21) (hcat : (rest.map fun v => v.category).sum ≤ 8) (kk : ax_X G l own b nL rt ini d r (pc + 3) lv (r'.1.toList ++ rest) r'.2.1 r'.2.2) : ax_X G l own b nL rt ini d r pc lv st0 sh μ := by
  refine ⟨⟨Nat.le_trans hA.1.1 kk.1.1, Nat.le_trans hA.1.2 kk.1.2⟩, fun p e R s m args below meth c H locs cells slots mc ms ls C h1 h2 h3 h4 hW hz hL hl => ?_⟩
  have hA1 := hA.1
  have k1 := kk.1
  have hts := C.2.2.2.2.2.2.2.1
  have hfr := C.2.2.2.2.2.2.2.2.1
  have hlo := C.2.2.2.2.2.2.2.2.2
  have hgood := ax_good hw.1
  subst hst
  have hq : vwCl[ci]? = some vwCl[ci] := List.getElem?_eq_getElem hci
  refine ax_back (y := y) (b' := b') (nL' := nL') (rt' := rt') (d' := d') (As := As) (r' := r') hA.1 kk C h1 h2 h3 h4 hW hz hL hl (va_runV (C := y.cls) (n := n) (Ts := ax_T) ⟨C.1, C.2.1, C.2.2.1, C.2.2.2.2.2.2.1, hts⟩ hA.2 ⟨callB_of (Ts := ax_T) (ws' := ax_T) n hts hgood rfl rfl rfl (hts _ hw.2.2.2.2) (hts _ hw.2.1) hy ⟨by show d' + 1 ≤ _; omega, by show 8 + (nL' + 11) + 40 * d' ≤ _; omega⟩, hts _ hw.2.2.1, hts _ hw.2.2.2.1⟩ ⟨ax_blind, ?_, fun U hU hWU => ax_pre hW hU hWU⟩ rfl hn hl.1 rfl (by show 2 * 0 + _ ≤ 8; omega) hd ⟨by omega, by omega⟩)
  have hrc := va_recv hW.2.1 (ax_one hW.1 he) (q0 := 0) (ci := ci) hq rfl
  rw [hcl _ hq] at hrc
  exact hrc
theorem ax_callS {idx n : Nat} {y : MethodName} {b' : ByteArray} {nL' : Nat} {rt' : Option FieldType} {d' : Nat} {As : List Value} {r' : ax_R} {rest : List Value} {st0 : List Value} (hd : decode b pc = .ok (.invokestatic idx, 3)) (hA : ax_A G l y b' nL' rt' d' As sh μ r')
    (hw : Cond.code y b' nL' rt' ∈ ax_T ∧ Cond.methodLink own idx y ∈ ax_T ∧ Cond.static y ∈ ax_T ∧ Cond.initialized y.cls ∈ ax_T)
    (hy : y.cls ≠ "java/lang/invoke/MethodHandle" ∧ y.cls ≠ "java/lang/invoke/VarHandle" ∧ (parseMethodDescriptor y.desc).map (fun d => d.parameters.length) = some n)
    (hst : st0 = As.reverse ++ rest) (hn : As.length = n) (hd' : d' + 1 ≤ d) (hnL : nL' ≤ 21) (hcat : (rest.map fun v => v.category).sum ≤ 8) (kk : ax_X G l own b nL rt ini d r (pc + 3) lv (r'.1.toList ++ rest) r'.2.1 r'.2.2) : ax_X G l own b nL rt ini d r pc lv st0 sh μ := by
  refine ⟨⟨Nat.le_trans hA.1.1 kk.1.1, Nat.le_trans hA.1.2 kk.1.2⟩, fun p e R s m args below meth c H locs cells slots mc ms ls C h1 h2 h3 h4 hW hz hL hl => ?_⟩
  have hA1 := hA.1
  have k1 := kk.1
  have hts := C.2.2.2.2.2.2.2.1
  have hfr := C.2.2.2.2.2.2.2.2.1
  have hlo := C.2.2.2.2.2.2.2.2.2
  have hgood := ax_good hw.1
  subst hst
  exact ax_back (y := y) (b' := b') (nL' := nL') (rt' := rt') (d' := d') (As := As) (r' := r') hA.1 kk C h1 h2 h3 h4 hW hz hL hl (va_runS (n := n) (Ts := ax_T) ⟨C.1, C.2.1, C.2.2.1, C.2.2.2.2.2.2.1, hts⟩ hA.2 ⟨callB_of (Ts := ax_T) (ws' := ax_T) n hts hgood rfl rfl rfl (hts _ hw.2.2.2) (hts _ hw.2.1) hy ⟨by show d' + 1 ≤ _; omega, by show 8 + (nL' + 11) + 40 * d' ≤ _; omega⟩, hts _ hw.2.2.1⟩ ⟨ax_blind, fun U hU hWU => ax_pre hW hU hWU⟩ rfl hn hl.1 rfl (by show 2 * 0 + _ ≤ 8; omega) hd ⟨by omega, by omega⟩)

theorem ax_objInit {idx k : Nat} (hd : decode b pc = .ok (.invokespecial idx, 3)) (hw : Cond.methodLink own idx Lib.objectInit ∈ ax_T ∧ Cond.instanceMethod Lib.objectInit ∈ ax_T ∧ Cond.code Lib.objectInit ⟨#[0xb1]⟩ 1 none ∈ ax_T) (hd1 : 1 ≤ d) (hcat : (st.map fun v => v.category).sum ≤ 8) (kk : ax_X G l own b nL rt ini d r (pc + 3) lv st sh μ) : ax_X G l own b nL rt ini d r pc lv (.ref k :: st) sh μ := by
  refine ⟨kk.1, fun p e R s m args below meth c H locs cells slots mc ms ls C h1 h2 h3 h4 hW hz hL hl => ?_⟩
  have hts := C.2.2.2.2.2.2.2.1
  have hfr := C.2.2.2.2.2.2.2.2.1
  have hlo := C.2.2.2.2.2.2.2.2.2
  exact W.objInit C.1 C.2.1 C.2.2.2.2.2.2.1 (hts _ hw.1) (hts _ hw.2.1) (hts _ hw.2.2) rfl (by rw [C.2.2.1]; exact hl.1) rfl hd (by omega) (by show 2 * 0 + _ + 12 ≤ _; omega) (kk.2 p e R s m args below meth c H locs cells slots mc ms ls C h1 h2 h3 h4 hW hz hL hl)
theorem ax_slapp {e0 : ax_E} : ax_sl (sh ++ [e0]) = ax_sl sh + ax_e1 e0 := by unfold ax_sl; simp
theorem ax_Happ {e0 : ax_E} {μ' : ax_M} {H H' : Heap} (h : ax_H G sh μ H) (h1 : H'.size = H.size + 1) (h2 : ∀ q, q < H.size → H'[q]? = H[q]?) (h3 : ∀ (k : Nat) (j : Nat), k < sh.length → μ' k j = μ k j) (h4 : va_at G.2.1 vwCl (G.1 + sh.length, ax_en G μ' sh.length e0) H') : ax_H G (sh ++ [e0]) μ' H' := by
  refine ⟨by rw [h1, h.1, List.length_append]; rfl, fun k e hk => ?_⟩
  by_cases hl : k < sh.length
  · rw [List.getElem?_append_left hl] at hk
    rw [ax_en_congr (fun j => h3 k j hl)]
    exact (h.2 k e hk).kept (h2 _ (by rw [h.1]; exact Nat.add_lt_add_left hl _))
  · rw [List.getElem?_append_right (Nat.not_lt.mp hl)] at hk
    have h0 : k - sh.length < 1 := (List.getElem?_eq_some_iff.mp hk).1
    have hk0 : k = sh.length := by omega
    subst hk0
    rw [Nat.sub_self] at hk
    cases hk
    exact h4
theorem ax_z_ne {k k' : Nat} (h : k' ≠ k) (j : Nat) : ax_z μ k k' j = μ k' j := by simp [ax_z, h]
theorem ax_new {idx ci k : Nat} {C0 : String} {T : u_T} {N : Nat} {t : Nat → FieldType} {fs : List (Option (Option Nat))} {sh' : List ax_E} (hd : decode b pc = .ok (.new idx, 3)) (hc : vwCl[ci]? = some (C0, T, N)) (hw : Cond.classLink own idx C0 ∈ ax_T ∧ Cond.instantiable C0 N ∈ ax_T ∧ Cond.initialized C0 ∈ ax_T) (hin : ∀ w ∈ u_ws C0 T N, w ∈ ax_T) (ht : ∀ k, k < N → parseFieldDescriptor (T k).2.2.1 = some (t k)) (hfs : (List.range N).map (fun j => defaultValue (t j)) = ax_fs 0 (fun _ _ => 0) 0 fs) (hnn : fs.all (fun f => f = none ∨ f = some none) = true) (hk : sh.length = k) (hsh : sh ++ [.inl (ci, fs)] = sh') (kk : ax_X G l own b nL rt ini d r (pc + 3) lv (.ref (G.1 + k) :: st) sh' (ax_z μ k)) : ax_X G l own b nL rt ini d r pc lv st sh μ := by
  subst hk
  subst hsh
  have hlen : N = fs.length := by
    have := congrArg List.length hfs
    simpa [ax_fs] using this
  have k1 := kk.1
  rw [ax_slapp, List.length_append] at k1
  have k11 : sh.length + 1 ≤ r.2.1.length := k1.1
  have k12 : ax_sl sh + fs.length ≤ ax_sl r.2.1 := k1.2
  refine ⟨⟨by omega, by omega⟩, fun p e R s m args below meth c H locs cells slots mc ms ls C h1 h2 h3 h4 hW hz hL hl => ?_⟩
  have hts := C.2.2.2.2.2.2.2.1
  have hKn := hW.2.1.1 ci _ hc
  refine W.newcK C.1 C.2.1 C.2.2.2.2.2.2.1 (hts _ hw.1) (hts _ hw.2.1) (hts _ hw.2.2) rfl hd (by omega) (by omega) hKn.2.1 hW.1.1 fun H1 kC hkC e1 z1 o1 => ?_
  have hsz := hW.1.1
  have hkeep : ∀ q, q < G.1 → H1[q]? = H[q]? := fun q hq => o1 q (by omega)
  refine kk.2 p e R s m args below meth c H1 locs _ _ mc ms ls C h1 h2 (by rw [List.length_append]; show cells + 1 + _ = _ + (_ + 1); omega) (by rw [ax_slapp]; show slots + N + _ = _ + (_ + fs.length); omega) ⟨ax_Happ hW.1 (by rw [hsz]; exact z1) (fun q hq => o1 q (by omega)) (fun k' j hk' => ax_z_ne (Nat.ne_of_lt hk') j) ?_, hW.2.1, hW.2.2.kept hkeep⟩ (fun q hq => (hkeep q hq).trans (hz q hq)) hL hl
  refine ⟨_, hc, (u_born t hts hin hKn hkC e1 ht).to (fun j hj => ?_)⟩
  have h5 : ((List.range N).map (fun j => defaultValue (t j)))[j]? = (ax_fs 0 (fun _ _ => 0) 0 fs)[j]? := by rw [hfs]
  rw [List.getElem?_map, List.getElem?_range hj] at h5
  simp only [vp_V, List.getD_eq_getElem?_getD]
  have hj2 : j < fs.length := by omega
  have h6 : (ax_fs G.1 (ax_z μ sh.length) sh.length fs)[j]? = (ax_fs 0 (fun _ _ => 0) 0 fs)[j]? := by
    unfold ax_fs
    rw [List.getElem?_mapIdx, List.getElem?_mapIdx]
    have h7 := List.all_eq_true.mp hnn fs[j] (List.getElem_mem hj2)
    rw [List.getElem?_eq_getElem hj2]
    rcases (by simpa using h7 : fs[j] = none ∨ fs[j] = some none) with h8 | h8 <;> rw [h8]
    · simp [ax_fv, ax_z]
    · rfl
  rw [h6, ← h5]
  rfl
theorem ax_newa {k t N : Nat} {at' : ArrayType} {n : Int32} {sh' : List ax_E} (hd : decode b pc = .ok (.newarray at', 2)) (ht : (t = 0 ∧ at' = .int) ∨ (t = 1 ∧ at' = .boolean)) (hn : ¬ n < 0) (hN : n.toNatClampNeg = N) (hb : N ≤ 100000000) (hw : Cond.arrayClass (newarray.typeOf at') ∈ ax_T) (hk : sh.length = k) (hsh : sh ++ [.inr (.inl (t, N))] = sh') (kk : ax_X G l own b nL rt ini d r (pc + 2) lv (.ref (G.1 + k) :: st) sh' (ax_z μ k)) : ax_X G l own b nL rt ini d r pc lv (.int n :: st) sh μ := by
  subst hk
  subst hsh
  have k1 := kk.1
  rw [ax_slapp, List.length_append] at k1
  have k11 : sh.length + 1 ≤ r.2.1.length := k1.1
  have k12 : ax_sl sh + N ≤ ax_sl r.2.1 := k1.2
  refine ⟨⟨by omega, by omega⟩, fun p e R s m args below meth c H locs cells slots mc ms ls C h1 h2 h3 h4 hW hz hL hl => ?_⟩
  have hts := C.2.2.2.2.2.2.2.1
  have hsz := hW.1.1
  have hcb : componentBytes (newarray.typeOf at') ≤ 4 := by rcases ht with ⟨-, rfl⟩ | ⟨-, rfl⟩ <;> decide
  have hmul : N * componentBytes (newarray.typeOf at') ≤ N * 4 := Nat.mul_le_mul_left _ hcb
  refine va_newaK (N := N) C.1 C.2.1 (hts _ hw) rfl hd rfl hn hN (by omega) (by omega) (by omega) hsz fun H1 cA e1 z1 o1 hAr hNm => ?_
  have hkeep : ∀ q, q < G.1 → H1[q]? = H[q]? := fun q hq => o1 q (by omega)
  refine kk.2 p e R s m args below meth c H1 locs _ _ mc ms ls C h1 h2 (by rw [List.length_append]; show cells + 1 + _ = _ + (_ + 1); omega) (by rw [ax_slapp]; show slots + N + _ = _ + (_ + N); omega) ⟨ax_Happ hW.1 (by rw [hsz]; exact z1) (fun q hq => o1 q (by omega)) (fun k' j hk' => ax_z_ne (Nat.ne_of_lt hk') j) ?_, hW.2.1, hW.2.2.kept hkeep⟩ (fun q hq => (hkeep q hq).trans (hz q hq)) hL hl
  show H1[_]? = some (vp_cell _ _)
  rw [e1, vp_cell_i]
  have hz0 : (fun j => Value.int (ax_z μ sh.length sh.length j)) = (fun _ => Value.int 0) := by funext j; simp [ax_z]
  rw [hz0]
  rcases ht with ⟨rfl, rfl⟩ | ⟨rfl, rfl⟩
  · have h9 := (hW.2.1.2 0 _ rfl).2
    cases Option.some.inj (hNm.symm.trans h9)
    rfl
  · have h9 := (hW.2.1.2 1 _ rfl).2
    cases Option.some.inj (hNm.symm.trans h9)
    rfl
theorem ax_cpw {a sp b0 dp n : Nat} : ax_cp μ a sp b0 dp n b0 = va_cpy (μ a) (μ b0) sp dp n := by funext i; simp [ax_cp]
theorem ax_copy {idx ka kb na nb : Nat} {sp dp n : Int32} (hd : decode b pc = .ok (.invokestatic idx, 3)) (hw : Cond.methodLink own idx arraycopyName ∈ ax_T ∧ Cond.native arraycopyName ∈ ax_T ∧ Cond.static arraycopyName ∈ ax_T ∧ Cond.initialized "java/lang/System" ∈ ax_T) (hea : sh[ka]? = some (.inr (.inl (0, na)))) (heb : sh[kb]? = some (.inr (.inl (0, nb)))) (g1 : ¬ sp < 0) (g2 : ¬ dp < 0) (g3 : ¬ n < 0) (g4 : sp.toNatClampNeg + n.toNatClampNeg ≤ na) (g5 : dp.toNatClampNeg + n.toNatClampNeg ≤ nb) (hd1 : 2 ≤ d) (hcat : (st.map fun v => v.category).sum ≤ 8)
    (kk : ax_X G l own b nL rt ini d r (pc + 3) lv st sh (ax_cp μ ka sp.toNatClampNeg kb dp.toNatClampNeg n.toNatClampNeg)) : ax_X G l own b nL rt ini d r pc lv (.int n :: .int dp :: .ref (G.1 + kb) :: .int sp :: .ref (G.1 + ka) :: st) sh μ := by
  refine ⟨kk.1, fun p e R s m args below meth c H locs cells slots mc ms ls C h1 h2 h3 h4 hW hz hL hl => ?_⟩
  have hts := C.2.2.2.2.2.2.2.1
  have hfr := C.2.2.2.2.2.2.2.2.1
  have hlo := C.2.2.2.2.2.2.2.2.2
  have nn : ∀ z : Int32, ¬ z < 0 → z.toInt = (z.toNatClampNeg : Int) := by
    intro z hz
    have hz0 : (0 : Int) ≤ z.toInt := by
      have := Int32.not_lt.mp hz
      simpa using Int32.le_iff_toInt_le.mp this
    show z.toInt = ((z.toInt.toNat : Nat) : Int)
    omega
  intro T hT X
  have hc0 : H[G.1 + ka]? = some (vp_cell (G.2.2.1 0) (na, .inl (μ ka))) := hW.1.2 ka _ hea
  have hc1 : H[G.1 + kb]? = some (vp_cell (G.2.2.1 0) (nb, .inl (μ kb))) := hW.1.2 kb _ heb
  obtain ⟨-, k0, hk0, cm0, hkk0⟩ := (hW.2.1.2 0 _ rfl).1 na (fun j => .int (μ ka j))
  obtain ⟨-, k1, hk1, cm1, hkk1⟩ := (hW.2.1.2 0 _ rfl).1 nb (fun j => .int (μ kb j))
  obtain ⟨vm', X', step⟩ := X.arraycopy C.1 C.2.2.2.2.2.2.1 (hts _ hw.1) (hts _ hw.2.1) (hts _ hw.2.2.1) (hts _ hw.2.2.2) (src := G.1 + ka) (dst := G.1 + kb) (cs := vp_cell (G.2.2.1 0) (na, .inl (μ ka))) (cd := vp_cell (G.2.2.1 0) (nb, .inl (μ kb))) (srcPos := sp) (destPos := dp) (n := n) (by rw [hT]; exact hc0) (by rw [hT]; exact hc1)
    (fun _ h => by cases h) (fun _ h => by cases h) (fun h => by cases h) (fun h => by cases h) hk0 hk1 hkk0 hkk1 (by simp [refKind]) g1 g2 g3
    (by rw [nn sp g1, nn n g3]; show ¬ _ > ((arrV (G.2.2.1 0) na (fun j => .int (μ ka j))).slots.size : Int); rw [arrV_size]; omega)
    (by rw [nn dp g2, nn n g3]; show ¬ _ > ((arrV (G.2.2.1 0) nb (fun j => .int (μ kb j))).slots.size : Int); rw [arrV_size]; omega)
    (fun vm₁ _ i hi => by
      have e : (vp_cell (G.2.2.1 0) (na, .inl (μ ka))).slots.getD (sp.toNatClampNeg + i) .null = .int (μ ka (sp.toNatClampNeg + i)) := by
        show (arrV (G.2.2.1 0) na (fun j => .int (μ ka j))).slots.getD _ _ = _
        rw [Array.getD_eq_getD_getElem?, arrV_read _ _ (by omega)]
        rfl
      refine ⟨?_, ?_⟩
      · rw [e]
        rfl
      · rw [e]
        exact trivial)
    (g := F0 m pc ls (.int n :: .int dp :: .ref (G.1 + kb) :: .int sp :: .ref (G.1 + ka) :: st)) rfl (by rw [C.2.2.1]; exact hl.1) (rest := st) rfl (by rw [C.2.1]; exact hd) (by omega) (by show 2 * 0 + _ + (nativeFrameWords "java/lang/System" "arraycopy" 5 + 11) ≤ _; rw [show nativeFrameWords "java/lang/System" "arraycopy" 5 = 7 from by decide +kernel]; omega)
  have e1 : copied (vp_cell (G.2.2.1 0) (na, .inl (μ ka))) (vp_cell (G.2.2.1 0) (nb, .inl (μ kb))) sp dp n = vp_cell (G.2.2.1 0) (nb, .inl (va_cpy (μ ka) (μ kb) sp.toNatClampNeg dp.toNatClampNeg n.toNatClampNeg)) := va_copied (fun z => .int z) _ _ (μ ka) (μ kb) g4
  rw [e1] at X' step
  have hheap : ((T.setVm vm').setCell (G.1 + kb) (vp_cell (G.2.2.1 0) (nb, .inl (va_cpy (μ ka) (μ kb) sp.toNatClampNeg dp.toNatClampNeg n.toNatClampNeg)))).heap = H.setIfInBounds (G.1 + kb) (vp_cell (G.2.2.1 0) (nb, .inl (va_cpy (μ ka) (μ kb) sp.toNatClampNeg dp.toNatClampNeg n.toNatClampNeg))) := by rw [← hT]; rfl
  have hlt : G.1 + kb < H.size := (Array.getElem?_eq_some_iff.mp hc1).1
  have oq : ∀ q : Nat, q ≠ G.1 + kb → (H.setIfInBounds (G.1 + kb) (vp_cell (G.2.2.1 0) (nb, .inl (va_cpy (μ ka) (μ kb) sp.toNatClampNeg dp.toNatClampNeg n.toNatClampNeg))))[q]? = H[q]? := fun q hq => by simp [Array.getElem?_setIfInBounds, Ne.symm hq]
  have hkeep : ∀ q, q < G.1 → (H.setIfInBounds (G.1 + kb) (vp_cell (G.2.2.1 0) (nb, .inl (va_cpy (μ ka) (μ kb) sp.toNatClampNeg dp.toNatClampNeg n.toNatClampNeg))))[q]? = H[q]? := fun q hq => oq q (by omega)
  obtain ⟨t, a1, b1⟩ := kk.2 p e R s m args below meth c _ _ cells slots mc ms ls C h1 h2 h3 h4 ⟨ax_upd hW.1 heb (by simp) oq (by
      show _ = some (vp_cell _ _)
      rw [ax_cpw]
      simp [Array.getElem?_setIfInBounds, hlt]) (fun k' e' hk' _ => ax_en_congr (fun j => by simp [ax_cp, hk'])), hW.2.1, hW.2.2.kept hkeep⟩ (fun q hq => (hkeep q hq).trans (hz q hq)) (fun q hq => by
      rcases List.mem_append.mp hq with h | h
      · exact hL q h
      · obtain ⟨z, -, hz⟩ := List.mem_map.mp h
        rw [← hz]
        exact Nat.le_add_right _ _) hl _ hheap X'
  exact ⟨t, step t a1, b1⟩
theorem ax_max {idx : Nat} {x y : Int32} (hd : decode b pc = .ok (.invokestatic idx, 3)) (hw : Cond.methodLink own idx Lib.Math.max.name ∈ ax_T ∧ Cond.static Lib.Math.max.name ∈ ax_T ∧ Cond.initialized "java/lang/Math" ∈ ax_T ∧ Cond.code Lib.Math.max.name Lib.Math.max.code 2 (some .int) ∈ ax_T) (hd1 : 1 ≤ d) (hcat : (st.map fun v => v.category).sum ≤ 8) (kk : ax_X G l own b nL rt ini d r (pc + 3) lv (.int (if x < y then y else x) :: st) sh μ) : ax_X G l own b nL rt ini d r pc lv (.int y :: .int x :: st) sh μ := by
  refine ⟨kk.1, fun p e R s m args below meth c H locs cells slots mc ms ls C h1 h2 h3 h4 hW hz hL hl => ?_⟩
  have hts := C.2.2.2.2.2.2.2.1
  have hfr := C.2.2.2.2.2.2.2.2.1
  have hlo := C.2.2.2.2.2.2.2.2.2
  have k1 := kk.1
  exact va_mmax C.1 C.2.1 (by rw [C.2.2.1]; exact hl.1.symm) C.2.2.2.2.2.2.1 (hts _ hw.1) (hts _ hw.2.1) (hts _ hw.2.2.1) (hts _ hw.2.2.2) (by omega) (by omega) (by omega) (by omega) hd (kk.2 p e R s m args below meth c H locs cells slots mc ms ls C h1 h2 h3 h4 hW hz hL hl)
theorem ax_min {idx : Nat} {x y : Int32} (hd : decode b pc = .ok (.invokestatic idx, 3)) (hw : Cond.methodLink own idx Lib.Math.min.name ∈ ax_T ∧ Cond.static Lib.Math.min.name ∈ ax_T ∧ Cond.initialized "java/lang/Math" ∈ ax_T ∧ Cond.code Lib.Math.min.name Lib.Math.min.code 2 (some .int) ∈ ax_T) (hd1 : 1 ≤ d) (hcat : (st.map fun v => v.category).sum ≤ 8) (kk : ax_X G l own b nL rt ini d r (pc + 3) lv (.int (if y < x then y else x) :: st) sh μ) : ax_X G l own b nL rt ini d r pc lv (.int y :: .int x :: st) sh μ := by
  refine ⟨kk.1, fun p e R s m args below meth c H locs cells slots mc ms ls C h1 h2 h3 h4 hW hz hL hl => ?_⟩
  have hts := C.2.2.2.2.2.2.2.1
  have hfr := C.2.2.2.2.2.2.2.2.1
  have hlo := C.2.2.2.2.2.2.2.2.2
  have k1 := kk.1
  exact va_mmin C.1 C.2.1 (by rw [C.2.2.1]; exact hl.1.symm) C.2.2.2.2.2.2.1 (hts _ hw.1) (hts _ hw.2.1) (hts _ hw.2.2.1) (hts _ hw.2.2.2) (by omega) (by omega) (by omega) (by omega) hd (kk.2 p e R s m args below meth c H locs cells slots mc ms ls C h1 h2 h3 h4 hW hz hL hl)
theorem ax_abs {idx : Nat} {x : Int32} (hd : decode b pc = .ok (.invokestatic idx, 3)) (hw : Cond.methodLink own idx Lib.Math.abs.name ∈ ax_T ∧ Cond.static Lib.Math.abs.name ∈ ax_T ∧ Cond.initialized "java/lang/Math" ∈ ax_T ∧ Cond.code Lib.Math.abs.name Lib.Math.abs.code 1 (some .int) ∈ ax_T) (hd1 : 1 ≤ d) (hcat : (st.map fun v => v.category).sum ≤ 8) (kk : ax_X G l own b nL rt ini d r (pc + 3) lv (.int (if 0 ≤ x then x else 0 - x) :: st) sh μ) : ax_X G l own b nL rt ini d r pc lv (.int x :: st) sh μ := by
  refine ⟨kk.1, fun p e R s m args below meth c H locs cells slots mc ms ls C h1 h2 h3 h4 hW hz hL hl => ?_⟩
  have hts := C.2.2.2.2.2.2.2.1
  have hfr := C.2.2.2.2.2.2.2.2.1
  have hlo := C.2.2.2.2.2.2.2.2.2
  have k1 := kk.1
  exact va_mabs C.1 C.2.1 (by rw [C.2.2.1]; exact hl.1.symm) C.2.2.2.2.2.2.1 (hts _ hw.1) (hts _ hw.2.1) (hts _ hw.2.2.1) (hts _ hw.2.2.2) (by omega) (by omega) (by omega) (by omega) hd (kk.2 p e R s m args below meth c H locs cells slots mc ms ls C h1 h2 h3 h4 hW hz hL hl)
theorem ax_callI {idx k n : Nat} {y : MethodName} {b' : ByteArray} {nL' : Nat} {d' : Nat} {As : List Value} {r' : ax_R} {rest : List Value} {st0 : List Value} (hd : decode b pc = .ok (.invokespecial idx, 3)) (hA : ax_A G l y b' nL' none d' (.ref k :: As) sh μ r')
    (hw : Cond.code y b' nL' none ∈ ax_T ∧ Cond.methodLink own idx y ∈ ax_T ∧ Cond.instanceMethod y ∈ ax_T ∧ Cond.initialized y.cls ∈ ax_T)
    (hy : y.cls ≠ "java/lang/invoke/MethodHandle" ∧ y.cls ≠ "java/lang/invoke/VarHandle" ∧ (parseMethodDescriptor y.desc).map (fun d => d.parameters.length) = some n) (hy1 : y.name = "<init>")
    (hst : st0 = As.reverse ++ .ref k :: rest) (hn : As.length = n) (hd' : d' + 1 ≤ d) (hnL : nL' ≤ 21) (hcat : (rest.map fun v => v.category).sum ≤ 8) (kk : ax_X G l own b nL rt ini d r (pc + 3) lv (r'.1.toList ++ rest) r'.2.1 r'.2.2) : ax_X G l own b nL rt ini d r pc lv st0 sh μ := by
  refine ⟨⟨Nat.le_trans hA.1.1 kk.1.1, Nat.le_trans hA.1.2 kk.1.2⟩, fun p e R s m args below meth c H locs cells slots mc ms ls C h1 h2 h3 h4 hW hz hL hl => ?_⟩
  have hA1 := hA.1
  have k1 := kk.1
  have hts := C.2.2.2.2.2.2.2.1
  have hfr := C.2.2.2.2.2.2.2.2.1
  have hlo := C.2.2.2.2.2.2.2.2.2
  have hgood := ax_good hw.1
  subst hst
  exact ax_back (y := y) (b' := b') (nL' := nL') (rt' := none) (d' := d') (As := As) (r' := r') hA.1 kk C h1 h2 h3 h4 hW hz hL hl (va_runI (n := n) (Ts := ax_T) ⟨C.1, C.2.1, C.2.2.1, C.2.2.2.2.2.2.1, hts⟩ hA.2 ⟨callB_of (Ts := ax_T) (ws' := ax_T) n hts hgood rfl rfl rfl (hts _ hw.2.2.2) (hts _ hw.2.1) hy ⟨by show d' + 1 ≤ _; omega, by show 8 + (nL' + 11) + 40 * d' ≤ _; omega⟩, hy1, hts _ hw.2.2.1⟩ ⟨ax_blind, fun U hU hWU => ax_pre hW hU hWU⟩ rfl hn hl.1 rfl (by show 2 * 0 + _ ≤ 8; omega) hd ⟨by omega, by omega⟩)
theorem ax_callIN {idx k n i : Nat} {host : String} {y : MethodName} {b' : ByteArray} {nL' : Nat} {d' : Nat} {As : List Value} {r' : ax_R} {rest : List Value} {st0 : List Value} (hd : decode b pc = .ok (.invokespecial idx, 3)) (hA : ax_A G l y b' nL' none d' (.ref k :: As) sh μ r')
    (hw : Cond.code y b' nL' none ∈ ax_T ∧ Cond.instanceMethod y ∈ ax_T ∧ Cond.initialized y.cls ∈ ax_T) (hnest : ax_nests[i]? = some (own, idx, y, host))
    (hy : y.cls ≠ "java/lang/invoke/MethodHandle" ∧ y.cls ≠ "java/lang/invoke/VarHandle" ∧ (parseMethodDescriptor y.desc).map (fun d => d.parameters.length) = some n) (hy1 : y.name = "<init>")
    (hst : st0 = As.reverse ++ .ref k :: rest) (hn : As.length = n) (hd' : d' + 1 ≤ d) (hnL : nL' ≤ 21) (hcat : (rest.map fun v => v.category).sum ≤ 8) (kk : ax_X G l own b nL rt ini d r (pc + 3) lv (r'.1.toList ++ rest) r'.2.1 r'.2.2) : ax_X G l own b nL rt ini d r pc lv st0 sh μ := by
  refine ⟨⟨Nat.le_trans hA.1.1 kk.1.1, Nat.le_trans hA.1.2 kk.1.2⟩, fun p e R s m args below meth c H locs cells slots mc ms ls C h1 h2 h3 h4 hW hz hL hl => ?_⟩
  have hA1 := hA.1
  have k1 := kk.1
  have hts := C.2.2.2.2.2.2.2.1
  have hfr := C.2.2.2.2.2.2.2.2.1
  have hlo := C.2.2.2.2.2.2.2.2.2
  have hgood := ax_good hw.1
  subst hst
  exact ax_back (y := y) (b' := b') (nL' := nL') (rt' := none) (d' := d') (As := As) (r' := r') hA.1 kk C h1 h2 h3 h4 hW hz hL hl (va_runIN (n := n) (Ts := ax_T) ⟨C.1, C.2.1, C.2.2.1, C.2.2.2.2.2.2.1, hts⟩ hA.2 ⟨va_cnB (Ts := ax_T) (ws' := ax_T) n hts hgood rfl rfl rfl (hW.2.2.2.2.2.2.1 _ (List.mem_of_getElem? hnest)) (hts _ hw.2.2) hy ⟨by show d' + 1 ≤ _; omega, by show 8 + (nL' + 11) + 40 * d' ≤ _; omega⟩, hy1, hts _ hw.2.1⟩ ⟨ax_blind, fun U hU hWU => ax_pre hW hU hWU⟩ rfl hn hl.1 rfl (by show 2 * 0 + _ ≤ 8; omega) hd ⟨by omega, by omega⟩)
theorem ax_callSN {idx n i : Nat} {host : String} {y : MethodName} {b' : ByteArray} {nL' : Nat} {rt' : Option FieldType} {d' : Nat} {As : List Value} {r' : ax_R} {rest : List Value} {st0 : List Value} (hd : decode b pc = .ok (.invokestatic idx, 3)) (hA : ax_A G l y b' nL' rt' d' As sh μ r')
    (hw : Cond.code y b' nL' rt' ∈ ax_T ∧ Cond.static y ∈ ax_T ∧ Cond.initialized y.cls ∈ ax_T) (hnest : ax_nests[i]? = some (own, idx, y, host))
    (hy : y.cls ≠ "java/lang/invoke/MethodHandle" ∧ y.cls ≠ "java/lang/invoke/VarHandle" ∧ (parseMethodDescriptor y.desc).map (fun d => d.parameters.length) = some n)
    (hst : st0 = As.reverse ++ rest) (hn : As.length = n) (hd' : d' + 1 ≤ d) (hnL : nL' ≤ 21) (hcat : (rest.map fun v => v.category).sum ≤ 8) (kk : ax_X G l own b nL rt ini d r (pc + 3) lv (r'.1.toList ++ rest) r'.2.1 r'.2.2) : ax_X G l own b nL rt ini d r pc lv st0 sh μ := by
  refine ⟨⟨Nat.le_trans hA.1.1 kk.1.1, Nat.le_trans hA.1.2 kk.1.2⟩, fun p e R s m args below meth c H locs cells slots mc ms ls C h1 h2 h3 h4 hW hz hL hl => ?_⟩
  have hA1 := hA.1
  have k1 := kk.1
  have hts := C.2.2.2.2.2.2.2.1
  have hfr := C.2.2.2.2.2.2.2.2.1
  have hlo := C.2.2.2.2.2.2.2.2.2
  have hgood := ax_good hw.1
  subst hst
  exact ax_back (y := y) (b' := b') (nL' := nL') (rt' := rt') (d' := d') (As := As) (r' := r') hA.1 kk C h1 h2 h3 h4 hW hz hL hl (va_runSN (n := n) (Ts := ax_T) ⟨C.1, C.2.1, C.2.2.1, C.2.2.2.2.2.2.1, hts⟩ hA.2 ⟨va_cnB (Ts := ax_T) (ws' := ax_T) n hts hgood rfl rfl rfl (hW.2.2.2.2.2.2.1 _ (List.mem_of_getElem? hnest)) (hts _ hw.2.2) hy ⟨by show d' + 1 ≤ _; omega, by show 8 + (nL' + 11) + 40 * d' ≤ _; omega⟩, hts _ hw.2.1, trivial⟩ ⟨ax_blind, fun U hU hWU => ax_pre hW hU hWU⟩ rfl hn hl.1 rfl (by show 2 * 0 + _ ≤ 8; omega) hd ⟨by omega, by omega⟩)
/-- texts -/
theorem ax_sgetf {idx i : Nat} {n dsc : String} {v : Value} (hd : decode b pc = .ok (.getfield idx, 3)) (hi : i < ax_strs.length) (hw : Cond.fieldLink own idx "java/lang/String" n dsc ∈ ax_T) (hv : (n = "coder" ∧ dsc = "B" ∧ v = .int 0) ∨ (n = "value" ∧ dsc = "[B" ∧ v = .ref (G.2.2.2.2 i))) (kk : ax_X G l own b nL rt ini d r (pc + 3) lv (v :: st) sh μ) : ax_X G l own b nL rt ini d r pc lv (.ref (G.2.2.2.1 i) :: st) sh μ := by
  refine ⟨kk.1, fun p e R s m args below meth c H locs cells slots mc ms ls C h1 h2 h3 h4 hW hz hL hl => ?_⟩
  have hts := C.2.2.2.2.2.2.2.1
  have hE : va_OF "java/lang/String" n dsc v (G.2.2.2.1 i) (fun q => G.1 ≤ q) s H := by
    rcases hv with ⟨rfl, rfl, rfl⟩ | ⟨rfl, rfl, rfl⟩
    · exact (hW.2.2.1.1 i hi).2.1
    · exact (hW.2.2.1.1 i hi).2.2.1
  obtain ⟨cf, k, fi, f, cell, q1, q2, q3, q4, q5, q6⟩ := hE
  exact W.getf C.1 C.2.1 C.2.2.2.2.2.2.1 (hts _ hw) q1 q2 q3 q4 (v := v) q5 rfl rfl hd (kk.2 p e R s m args below meth c H locs cells slots mc ms ls C h1 h2 h3 h4 hW hz hL hl)
theorem ax_slen {i : Nat} {v : Int32} (hd : decode b pc = .ok (.arraylength, 1)) (hi : i < ax_strs.length) (hv : Int32.ofNat (ax_len.getD i 0) = v) (kk : ax_X G l own b nL rt ini d r (pc + 1) lv (.int v :: st) sh μ) : ax_X G l own b nL rt ini d r pc lv (.ref (G.2.2.2.2 i) :: st) sh μ := by
  refine ⟨kk.1, fun p e R s m args below meth c H locs cells slots mc ms ls C h1 h2 h3 h4 hW hz hL hl => ?_⟩
  subst hv
  obtain ⟨cell, q1, q2, q3, q4, q5, q6, q7⟩ := (hW.2.2.1.1 i hi).2.2.2
  exact W.alen (n := Int32.ofNat (ax_len.getD i 0)) C.1 C.2.1 q1 q2 q5 rfl rfl hd (kk.2 p e R s m args below meth c H locs cells slots mc ms ls C h1 h2 h3 h4 hW hz hL hl)
theorem ax_sbald {i : Nat} {j : Int32} (hd : decode b pc = .ok (.baload, 1)) (hi : i < ax_strs.length) (hj : vp_in j (ax_len.getD i 0)) (kk : ax_X G l own b nL rt ini d r (pc + 1) lv (.int ((ax_byt.getD i []).getD j.toNatClampNeg 0) :: st) sh μ) : ax_X G l own b nL rt ini d r pc lv (.int j :: .ref (G.2.2.2.2 i) :: st) sh μ := by
  refine ⟨kk.1, fun p e R s m args below meth c H locs cells slots mc ms ls C h1 h2 h3 h4 hW hz hL hl => ?_⟩
  obtain ⟨cell, q1, q2, q3, q4, q5, q6, q7⟩ := (hW.2.2.1.1 i hi).2.2.2
  have hlt : j.toNatClampNeg < ax_len.getD i 0 := Nat.not_le.mp fun q => hj (Or.inr q)
  have hin' : ¬ (j < 0 ∨ cell.slots.size ≤ j.toNatClampNeg) := by
    intro q
    rcases q with q | q
    · exact hj (Or.inl q)
    · omega
  exact W.bald C.1 C.2.1 q1 q2 q3 hin' (q6 _ hlt) rfl rfl hd (kk.2 p e R s m args below meth c H locs cells slots mc ms ls C h1 h2 h3 h4 hW hz hL hl)
theorem ax_gets1 {idx : Nat} (hd : decode b pc = .ok (.getstatic idx, 3)) (hw : Cond.fieldLink own idx "java/lang/String" "COMPACT_STRINGS" "Z" ∈ ax_T) (kk : ax_X G l own b nL rt ini d r (pc + 3) lv (.int 1 :: st) sh μ) : ax_X G l own b nL rt ini d r pc lv st sh μ := by
  refine ⟨kk.1, fun p e R s m args below meth c H locs cells slots mc ms ls C h1 h2 h3 h4 hW hz hL hl => ?_⟩
  have hts := C.2.2.2.2.2.2.2.1
  obtain ⟨cf, kf, fi, f, a, cell, q1, q2, q3, q4, q5, q6, q7, q8⟩ := hW.2.2.2.2.1
  exact W.gets C.1 C.2.1 C.2.2.2.2.2.2.1 (hts _ hw) q1 q2 q3 q4 q5 (fun e => by rw [e] at q6; cases q6) q7 rfl hd (kk.2 p e R s m args below meth c H locs cells slots mc ms ls C h1 h2 h3 h4 hW hz hL hl)
theorem ax_gets2 {idx : Nat} (hd : decode b pc = .ok (.getstatic idx, 3)) (hw : Cond.fieldLink own idx "jdk/internal/util/Preconditions" "SIOOBE_FORMATTER" "Ljava/util/function/BiFunction;" ∈ ax_T) (hx : (sh.length ≤ r.2.1.length ∧ ax_sl sh ≤ ax_sl r.2.1)) (kk : ∀ v : Value, (v = .null ∨ ∃ a, v = .ref a) → ax_X G l own b nL rt ini d r (pc + 3) lv (v :: st) sh μ) : ax_X G l own b nL rt ini d r pc lv st sh μ := by
  refine ⟨hx, fun p e R s m args below meth c H locs cells slots mc ms ls C h1 h2 h3 h4 hW hz hL hl => ?_⟩
  have hts := C.2.2.2.2.2.2.2.1
  obtain ⟨v, hv, cf, kf, fi, f, a, cell, q1, q2, q3, q4, q5, q6, q7, q8⟩ := hW.2.2.2.2.2.1
  exact W.gets C.1 C.2.1 C.2.2.2.2.2.2.1 (hts _ hw) q1 q2 q3 q4 q5 (fun e => by rw [e] at q6; cases q6) q7 rfl hd ((kk v hv).2 p e R s m args below meth c H locs cells slots mc ms ls C h1 h2 h3 h4 hW hz hL hl)
theorem ax_callVS {idx i n : Nat} {y : MethodName} {b' : ByteArray} {nL' : Nat} {rt' : Option FieldType} {d' : Nat} {As : List Value} {r' : ax_R} {rest : List Value} {st0 : List Value} (hd : decode b pc = .ok (.invokevirtual idx, 3)) (hA : ax_A G l y b' nL' rt' d' (.ref (G.2.2.2.1 i) :: As) sh μ r') (hi : i < ax_strs.length)
    (hw : Cond.code y b' nL' rt' ∈ ax_T ∧ Cond.methodLink own idx y ∈ ax_T ∧ Cond.instanceMethod y ∈ ax_T ∧ Cond.selects y.cls y y ∈ ax_T ∧ Cond.initialized y.cls ∈ ax_T)
    (hy : y.cls ≠ "java/lang/invoke/MethodHandle" ∧ y.cls ≠ "java/lang/invoke/VarHandle" ∧ (parseMethodDescriptor y.desc).map (fun d => d.parameters.length) = some n) (hyS : y.cls = "java/lang/String")
    (hst : st0 = As.reverse ++ .ref (G.2.2.2.1 i) :: rest) (hn : As.length = n) (hd' : d' + 1 ≤ d) (hnL : nL' ≤ 21) (hcat : (rest.map fun v => v.category).sum ≤ 8) (kk : ax_X G l own b nL rt ini d r (pc + 3) lv (r'.1.toList ++ rest) r'.2.1 r'.2.2) : ax_X G l own b nL rt ini d r pc lv st0 sh μ := by
  refine ⟨⟨Nat.le_trans hA.1.1 kk.1.1, Nat.le_trans hA.1.2 kk.1.2⟩, fun p e R s m args below meth c H locs cells slots mc ms ls C h1 h2 h3 h4 hW hz hL hl => ?_⟩
  have hA1 := hA.1
  have k1 := kk.1
  have hts := C.2.2.2.2.2.2.2.1
  have hfr := C.2.2.2.2.2.2.2.2.1
  have hlo := C.2.2.2.2.2.2.2.2.2
  have hgood := ax_good hw.1
  subst hst
  refine ax_back (y := y) (b' := b') (nL' := nL') (rt' := rt') (d' := d') (As := As) (r' := r') hA.1 kk C h1 h2 h3 h4 hW hz hL hl (va_runV (C := y.cls) (n := n) (Ts := ax_T) ⟨C.1, C.2.1, C.2.2.1, C.2.2.2.2.2.2.1, hts⟩ hA.2 ⟨callB_of (Ts := ax_T) (ws' := ax_T) n hts hgood rfl rfl rfl (hts _ hw.2.2.2.2) (hts _ hw.2.1) hy ⟨by show d' + 1 ≤ _; omega, by show 8 + (nL' + 11) + 40 * d' ≤ _; omega⟩, hts _ hw.2.2.1, hts _ hw.2.2.2.1⟩ ⟨ax_blind, ?_, fun U hU hWU => ax_pre hW hU hWU⟩ rfl hn hl.1 rfl (by show 2 * 0 + _ ≤ 8; omega) hd ⟨by omega, by omega⟩)
  obtain ⟨cell, q1, q2, q3, -⟩ := (hW.2.2.1.1 i hi).1
  rw [hyS]
  exact ⟨cell, q1, q2, q3⟩

theorem ax_slcons {es : List ax_E} : ax_sl (sh ++ es) = ax_sl sh + ax_sl es := by unfold ax_sl; simp
theorem ax_slrep {e0 : ax_E} (n : Nat) : ax_sl (List.replicate n e0) = n * ax_e1 e0 := by
  induction n with
  | zero => simp [ax_sl]
  | succ n ih => rw [List.replicate_succ, show ∀ (a : ax_E) (q : List ax_E), ax_sl (a :: q) = ax_e1 a + ax_sl q from fun a q => by unfold ax_sl; simp, ih, Nat.succ_mul]; omega
theorem ax_slrows {k N M : Nat} : ax_sl (.inr (.inr (k + 1, N)) :: List.replicate N (.inr (.inl (0, M)))) = N + N * M := by
  rw [show ∀ (a : ax_E) (q : List ax_E), ax_sl (a :: q) = ax_e1 a + ax_sl q from fun a q => by unfold ax_sl; simp, ax_slrep]
  rfl
theorem ax_mna {idx k N M : Nat} {n m' : Int32} {sh' : List ax_E} (hd : decode b pc = .ok (.multianewarray idx 2, 4)) (hw : Cond.classLink own idx "[[I" ∈ ax_T ∧ Cond.arrayClass .int ∈ ax_T) (hn : ¬ n < 0) (hm : ¬ m' < 0) (hN : n.toNatClampNeg = N) (hM : m'.toNatClampNeg = M) (hbN : N ≤ 1000) (hbM : M ≤ 1000) (hk : sh.length = k) (hsh : sh ++ (.inr (.inr (k + 1, N)) :: List.replicate N (.inr (.inl (0, M)))) = sh') (kk : ax_X G l own b nL rt ini d r (pc + 4) lv (.ref (G.1 + k) :: st) sh' (ax_zz μ k (N + 1))) : ax_X G l own b nL rt ini d r pc lv (.int m' :: .int n :: st) sh μ := by
  subst hk
  subst hsh
  subst hN
  subst hM
  have k1 := kk.1
  rw [ax_slcons, List.length_append, ax_slrows] at k1
  simp only [List.length_cons, List.length_replicate] at k1
  refine ⟨⟨by omega, by omega⟩, fun p e R s m args below meth c H locs cells slots mc ms ls C h1 h2 h3 h4 hW hz hL hl => ?_⟩
  have hts := C.2.2.2.2.2.2.2.1
  have hsz := hW.1.1
  intro T hT X
  obtain ⟨vm₁, cA, comp, -, fA, fC, -, -, X', step⟩ := X.multianewarray2F (ty := .int) C.1 C.2.2.2.2.2.2.1 (hts _ hw.1) hW.2.2.2.2.2.2.2 (hts _ hw.2) (g := F0 m pc ls (.int m' :: .int n :: st)) rfl (by rw [C.2.1]; exact hd) rfl hn hm (by omega) (by show m'.toNatClampNeg * 4 ≤ _; omega) (by omega) rfl rfl (by omega) (by omega)
  have ec1 : G.2.2.1 0 = comp := Option.some.inj ((hW.2.1.2 0 _ rfl).2.symm.trans fC)
  have ec2 : G.2.2.1 2 = cA := Option.some.inj ((hW.2.1.2 2 _ rfl).2.symm.trans fA)
  subst ec1
  subst ec2
  generalize hF : Jvm.Free.Multi.fill (T.setVm vm₁) (G.2.2.1 2) (G.2.2.1 0) n.toNatClampNeg m'.toNatClampNeg (defaultValue .int) n.toNatClampNeg = F at X' step
  have hTh : (T.setVm vm₁).heap = H := hT
  obtain ⟨f1, f2, -, -⟩ := Jvm.Free.Multi.fill_facts (T.setVm vm₁) (G.2.2.1 2) (G.2.2.1 0) n.toNatClampNeg m'.toNatClampNeg (defaultValue .int) n.toNatClampNeg
  rw [hF, hTh] at f1 f2
  have hold : ∀ x : Nat, x < H.size → F.heap[x]? = H[x]? := fun x hx => by
    have := Jvm.Free.Multi.fill_old (T.setVm vm₁) (G.2.2.1 2) (G.2.2.1 0) n.toNatClampNeg m'.toNatClampNeg (defaultValue .int) (a := x) (by rw [hTh]; exact hx) n.toNatClampNeg
    rw [hF, hTh] at this
    exact this
  have hrow : ∀ j : Nat, j < n.toNatClampNeg → F.heap[H.size + 1 + j]? = some (vp_cell (G.2.2.1 0) (m'.toNatClampNeg, .inl (fun _ => 0))) := fun j hj => by
    have := Jvm.Free.Multi.fill_inner (T.setVm vm₁) (G.2.2.1 2) (G.2.2.1 0) n.toNatClampNeg m'.toNatClampNeg (defaultValue .int) n.toNatClampNeg j hj
    rw [hF, hTh] at this
    rw [this]
    exact congrArg some (arrV_new _ _ _)
  rw [vr_outer] at f2
  have hkeep : ∀ q, q < G.1 → F.heap[q]? = H[q]? := fun q hq => hold q (by omega)
  have eT : T.heap.size = G.1 + sh.length := by rw [hT, hsz]
  rw [eT] at step
  have hH : ax_H G (sh ++ (.inr (.inr (sh.length + 1, n.toNatClampNeg)) :: List.replicate n.toNatClampNeg (.inr (.inl (0, m'.toNatClampNeg))))) (ax_zz μ sh.length (n.toNatClampNeg + 1)) F.heap := by
    refine ⟨by rw [f1, hsz, List.length_append]; simp only [List.length_cons, List.length_replicate]; omega, fun k0 e0 he0 => ?_⟩
    by_cases hl0 : k0 < sh.length
    · rw [List.getElem?_append_left hl0] at he0
      rw [ax_en_congr (fun j => by simp only [ax_zz]; rw [if_neg (by omega)])]
      exact (hW.1.2 k0 e0 he0).kept (hold _ (by show G.1 + k0 < _; omega))
    · rw [List.getElem?_append_right (Nat.not_lt.mp hl0)] at he0
      cases hkk : k0 - sh.length with
      | zero =>
        rw [hkk] at he0
        cases he0
        have hk0 : k0 = sh.length := by omega
        subst hk0
        show F.heap[_]? = some (vp_cell _ _)
        rw [← hsz, f2, vp_cell_q, hsz]
        refine congrArg (fun f => some (arrV _ _ f)) (funext fun j => ?_)
        by_cases hj : j < n.toNatClampNeg
        · simp only [if_pos hj]
          rw [show G.1 + sh.length + 1 + j = G.1 + (sh.length + 1 + j) by omega]
        · simp only [if_neg hj]
      | succ j =>
        rw [hkk, List.getElem?_cons_succ] at he0
        have hj : j < n.toNatClampNeg := by
          have := (List.getElem?_eq_some_iff.mp he0).1
          rwa [List.length_replicate] at this
        rw [List.getElem?_replicate, if_pos hj] at he0
        cases he0
        have hk0 : k0 = sh.length + 1 + j := by omega
        subst hk0
        show F.heap[_]? = some (vp_cell _ _)
        rw [show G.1 + (sh.length + 1 + j) = H.size + 1 + j by omega, hrow j hj]
        refine congrArg (fun f => some (vp_cell _ (_, .inl f))) (funext fun i => ?_)
        simp only [ax_zz]
        rw [if_pos (by omega)]
  obtain ⟨t, a1, b1⟩ := kk.2 p e R s m args below meth c F.heap locs (cells + 1 + n.toNatClampNeg) (slots + n.toNatClampNeg + n.toNatClampNeg * m'.toNatClampNeg) mc ms ls C h1 h2 (by rw [List.length_append]; simp only [List.length_cons, List.length_replicate]; show cells + 1 + n.toNatClampNeg + _ = _; omega) (by rw [ax_slcons, ax_slrows]; omega) ⟨hH, hW.2.1, hW.2.2.kept hkeep⟩ (fun q hq => (hkeep q hq).trans (hz q hq)) hL hl F rfl X'
  exact ⟨t, step t a1, b1⟩

end AX
end
