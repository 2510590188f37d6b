section
-- ===== PART A: goes FIRST, ahead of the names: the tables' words, and 'selects' of the private methods out of them =====
/-- a private method of a class that the tables say can be made, by its rows of tables_1 -/
def lw_okq (q : MethodName × Nat) : Prop := (q.1.cls ≠ "java/lang/invoke/MethodHandle" ∧ q.1.cls ≠ "java/lang/invoke/VarHandle") ∧ Cond.instantiable q.1.cls q.2 ∈ tables_1 ∧ Cond.privateMethod q.1 ∈ tables_1 ∧ Cond.instanceMethod q.1 ∈ tables_1
theorem lw_p0 : lw_okq (⟨"BitRopes", "feedBytes", "(I)V"⟩, 15) := ⟨⟨by decide +kernel, by decide +kernel⟩, List.mem_of_getElem? (i := 22) (by decide +kernel), List.mem_of_getElem? (i := 284) (by decide +kernel), List.mem_of_getElem? (i := 285) (by decide +kernel)⟩
theorem lw_p1 : lw_okq (⟨"BitRopes$Reader", "readLettersAndDigits", "()V"⟩, 12) := ⟨⟨by decide +kernel, by decide +kernel⟩, List.mem_of_getElem? (i := 30) (by decide +kernel), List.mem_of_getElem? (i := 304) (by decide +kernel), List.mem_of_getElem? (i := 305) (by decide +kernel)⟩
theorem lw_p2 : lw_okq (⟨"BitRopes$State", "readLeaf", "(LBitRopes$Reader;Z)V"⟩, 6) := ⟨⟨by decide +kernel, by decide +kernel⟩, List.mem_of_getElem? (i := 83) (by decide +kernel), List.mem_of_getElem? (i := 327) (by decide +kernel), List.mem_of_getElem? (i := 328) (by decide +kernel)⟩
theorem lw_p3 : lw_okq (⟨"BitRopes$State", "readRow", "(LBitRopes$Reader;)V"⟩, 6) := ⟨⟨by decide +kernel, by decide +kernel⟩, List.mem_of_getElem? (i := 83) (by decide +kernel), List.mem_of_getElem? (i := 343) (by decide +kernel), List.mem_of_getElem? (i := 344) (by decide +kernel)⟩
theorem lw_p4 : lw_okq (⟨"BitRopes$State", "readBits", "(LBitRopes$Reader;LBitRopes$Row;)V"⟩, 6) := ⟨⟨by decide +kernel, by decide +kernel⟩, List.mem_of_getElem? (i := 83) (by decide +kernel), List.mem_of_getElem? (i := 359) (by decide +kernel), List.mem_of_getElem? (i := 360) (by decide +kernel)⟩
theorem lw_p5 : lw_okq (⟨"BitRopes$Row", "leafWith", "(I)I"⟩, 4) := ⟨⟨by decide +kernel, by decide +kernel⟩, List.mem_of_getElem? (i := 107) (by decide +kernel), List.mem_of_getElem? (i := 379) (by decide +kernel), List.mem_of_getElem? (i := 380) (by decide +kernel)⟩
theorem lw_p6 : lw_okq (⟨"BitRopes$Row", "halveIfTooBig", "(II)V"⟩, 4) := ⟨⟨by decide +kernel, by decide +kernel⟩, List.mem_of_getElem? (i := 107) (by decide +kernel), List.mem_of_getElem? (i := 386) (by decide +kernel), List.mem_of_getElem? (i := 387) (by decide +kernel)⟩
theorem lw_p7 : lw_okq (⟨"BitRopes$State", "readLetters", "(LBitRopes$Reader;)V"⟩, 6) := ⟨⟨by decide +kernel, by decide +kernel⟩, List.mem_of_getElem? (i := 83) (by decide +kernel), List.mem_of_getElem? (i := 395) (by decide +kernel), List.mem_of_getElem? (i := 396) (by decide +kernel)⟩
theorem lw_p8 : lw_okq (⟨"BitRopes$State", "readLettersOfWord", "(LBitRopes$Reader;)V"⟩, 6) := ⟨⟨by decide +kernel, by decide +kernel⟩, List.mem_of_getElem? (i := 83) (by decide +kernel), List.mem_of_getElem? (i := 399) (by decide +kernel), List.mem_of_getElem? (i := 400) (by decide +kernel)⟩
theorem lw_p9 : lw_okq (⟨"BitRopes", "closesWithFault", "()Z"⟩, 15) := ⟨⟨by decide +kernel, by decide +kernel⟩, List.mem_of_getElem? (i := 22) (by decide +kernel), List.mem_of_getElem? (i := 419) (by decide +kernel), List.mem_of_getElem? (i := 420) (by decide +kernel)⟩
theorem lw_p10 : lw_okq (⟨"BitRopes", "swapStates", "()V"⟩, 15) := ⟨⟨by decide +kernel, by decide +kernel⟩, List.mem_of_getElem? (i := 22) (by decide +kernel), List.mem_of_getElem? (i := 423) (by decide +kernel), List.mem_of_getElem? (i := 424) (by decide +kernel)⟩
theorem lw_p11 : lw_okq (⟨"BitRopes", "takeBitsOfTape", "(I)I"⟩, 15) := ⟨⟨by decide +kernel, by decide +kernel⟩, List.mem_of_getElem? (i := 22) (by decide +kernel), List.mem_of_getElem? (i := 558) (by decide +kernel), List.mem_of_getElem? (i := 559) (by decide +kernel)⟩
theorem lw_p12 : lw_okq (⟨"BitRopes", "does", "(LBitRopes$Word;III)I"⟩, 15) := ⟨⟨by decide +kernel, by decide +kernel⟩, List.mem_of_getElem? (i := 22) (by decide +kernel), List.mem_of_getElem? (i := 576) (by decide +kernel), List.mem_of_getElem? (i := 577) (by decide +kernel)⟩
theorem lw_p13 : lw_okq (⟨"BitRopes$Row", "mergeWithNext", "(II)V"⟩, 4) := ⟨⟨by decide +kernel, by decide +kernel⟩, List.mem_of_getElem? (i := 107) (by decide +kernel), List.mem_of_getElem? (i := 642) (by decide +kernel), List.mem_of_getElem? (i := 643) (by decide +kernel)⟩
theorem lw_p14 : lw_okq (⟨"BitRopes$Draws", "draw", "(I)I"⟩, 1) := ⟨⟨by decide +kernel, by decide +kernel⟩, List.mem_of_getElem? (i := 753) (by decide +kernel), List.mem_of_getElem? (i := 767) (by decide +kernel), List.mem_of_getElem? (i := 768) (by decide +kernel)⟩
theorem lw_p15 : lw_okq (⟨"BitRopes$Book", "readLine", "(LBitRopes$Reader;LBitRopes$State;)V"⟩, 6) := ⟨⟨by decide +kernel, by decide +kernel⟩, List.mem_of_getElem? (i := 187) (by decide +kernel), List.mem_of_getElem? (i := 793) (by decide +kernel), List.mem_of_getElem? (i := 794) (by decide +kernel)⟩
def lw_privs_1 : List (MethodName × Nat) := [(⟨"BitRopes", "feedBytes", "(I)V"⟩, 15), (⟨"BitRopes$Reader", "readLettersAndDigits", "()V"⟩, 12), (⟨"BitRopes$State", "readLeaf", "(LBitRopes$Reader;Z)V"⟩, 6), (⟨"BitRopes$State", "readRow", "(LBitRopes$Reader;)V"⟩, 6), (⟨"BitRopes$State", "readBits", "(LBitRopes$Reader;LBitRopes$Row;)V"⟩, 6), (⟨"BitRopes$Row", "leafWith", "(I)I"⟩, 4), (⟨"BitRopes$Row", "halveIfTooBig", "(II)V"⟩, 4), (⟨"BitRopes$State", "readLetters", "(LBitRopes$Reader;)V"⟩, 6), (⟨"BitRopes$State", "readLettersOfWord", "(LBitRopes$Reader;)V"⟩, 6), (⟨"BitRopes", "closesWithFault", "()Z"⟩, 15), (⟨"BitRopes", "swapStates", "()V"⟩, 15), (⟨"BitRopes", "takeBitsOfTape", "(I)I"⟩, 15), (⟨"BitRopes", "does", "(LBitRopes$Word;III)I"⟩, 15), (⟨"BitRopes$Row", "mergeWithNext", "(II)V"⟩, 4), (⟨"BitRopes$Draws", "draw", "(I)I"⟩, 1), (⟨"BitRopes$Book", "readLine", "(LBitRopes$Reader;LBitRopes$State;)V"⟩, 6)]
theorem lw_r1 : ∀ q ∈ lw_privs_1, lw_okq q := List.forall_mem_cons.mpr ⟨lw_p0, List.forall_mem_cons.mpr ⟨lw_p1, List.forall_mem_cons.mpr ⟨lw_p2, List.forall_mem_cons.mpr ⟨lw_p3, List.forall_mem_cons.mpr ⟨lw_p4, List.forall_mem_cons.mpr ⟨lw_p5, List.forall_mem_cons.mpr ⟨lw_p6, List.forall_mem_cons.mpr ⟨lw_p7, List.forall_mem_cons.mpr ⟨lw_p8, List.forall_mem_cons.mpr ⟨lw_p9, List.forall_mem_cons.mpr ⟨lw_p10, List.forall_mem_cons.mpr ⟨lw_p11, List.forall_mem_cons.mpr ⟨lw_p12, List.forall_mem_cons.mpr ⟨lw_p13, List.forall_mem_cons.mpr ⟨lw_p14, List.forall_mem_cons.mpr ⟨lw_p15, fun _ h => absurd h List.not_mem_nil⟩⟩⟩⟩⟩⟩⟩⟩⟩⟩⟩⟩⟩⟩⟩⟩
theorem lw_p16 : lw_okq (⟨"BitRopes$Sentence", "readCond", "(LBitRopes$Reader;LBitRopes$State;I)V"⟩, 6) := ⟨⟨by decide +kernel, by decide +kernel⟩, List.mem_of_getElem? (i := 158) (by decide +kernel), List.mem_of_getElem? (i := 838) (by decide +kernel), List.mem_of_getElem? (i := 839) (by decide +kernel)⟩
theorem lw_p17 : lw_okq (⟨"BitRopes$Sentence", "readOne", "(LBitRopes$Reader;LBitRopes$State;I)V"⟩, 6) := ⟨⟨by decide +kernel, by decide +kernel⟩, List.mem_of_getElem? (i := 158) (by decide +kernel), List.mem_of_getElem? (i := 842) (by decide +kernel), List.mem_of_getElem? (i := 843) (by decide +kernel)⟩
theorem lw_p18 : lw_okq (⟨"BitRopes$Sentence", "addStep", "(LBitRopes$Word;II)V"⟩, 6) := ⟨⟨by decide +kernel, by decide +kernel⟩, List.mem_of_getElem? (i := 158) (by decide +kernel), List.mem_of_getElem? (i := 852) (by decide +kernel), List.mem_of_getElem? (i := 853) (by decide +kernel)⟩
theorem lw_p19 : lw_okq (⟨"BitRopes$Sentence", "readPlain", "(LBitRopes$Reader;LBitRopes$State;LBitRopes$Word;)V"⟩, 6) := ⟨⟨by decide +kernel, by decide +kernel⟩, List.mem_of_getElem? (i := 158) (by decide +kernel), List.mem_of_getElem? (i := 856) (by decide +kernel), List.mem_of_getElem? (i := 857) (by decide +kernel)⟩
theorem lw_p20 : lw_okq (⟨"BitRopes$Sentence", "isPlainTrue", "(ILBitRopes$State;I)Z"⟩, 6) := ⟨⟨by decide +kernel, by decide +kernel⟩, List.mem_of_getElem? (i := 158) (by decide +kernel), List.mem_of_getElem? (i := 887) (by decide +kernel), List.mem_of_getElem? (i := 888) (by decide +kernel)⟩
theorem lw_p21 : lw_okq (⟨"java/lang/Throwable", "fillInStackTrace", "(I)Ljava/lang/Throwable;"⟩, 6) := ⟨⟨by decide +kernel, by decide +kernel⟩, List.mem_of_getElem? (i := 971) (by decide +kernel), List.mem_of_getElem? (i := 969) (by decide +kernel), List.mem_of_getElem? (i := 970) (by decide +kernel)⟩
theorem lw_p22 : lw_okq (⟨"BitRopesModel", "come", "(I)V"⟩, 39) := ⟨⟨by decide +kernel, by decide +kernel⟩, List.mem_of_getElem? (i := 1048) (by decide +kernel), List.mem_of_getElem? (i := 1046) (by decide +kernel), List.mem_of_getElem? (i := 1047) (by decide +kernel)⟩
theorem lw_p23 : lw_okq (⟨"BitRopesModel", "begin", "(I)V"⟩, 39) := ⟨⟨by decide +kernel, by decide +kernel⟩, List.mem_of_getElem? (i := 1048) (by decide +kernel), List.mem_of_getElem? (i := 1182) (by decide +kernel), List.mem_of_getElem? (i := 1183) (by decide +kernel)⟩
theorem lw_p24 : lw_okq (⟨"BitRopesModel", "take", "()I"⟩, 39) := ⟨⟨by decide +kernel, by decide +kernel⟩, List.mem_of_getElem? (i := 1048) (by decide +kernel), List.mem_of_getElem? (i := 1186) (by decide +kernel), List.mem_of_getElem? (i := 1187) (by decide +kernel)⟩
theorem lw_p25 : lw_okq (⟨"BitRopesModel", "go", "()V"⟩, 39) := ⟨⟨by decide +kernel, by decide +kernel⟩, List.mem_of_getElem? (i := 1048) (by decide +kernel), List.mem_of_getElem? (i := 1190) (by decide +kernel), List.mem_of_getElem? (i := 1191) (by decide +kernel)⟩
theorem lw_p26 : lw_okq (⟨"BitRopesModel", "tapeAt", "(I)I"⟩, 39) := ⟨⟨by decide +kernel, by decide +kernel⟩, List.mem_of_getElem? (i := 1048) (by decide +kernel), List.mem_of_getElem? (i := 1200) (by decide +kernel), List.mem_of_getElem? (i := 1201) (by decide +kernel)⟩
theorem lw_p27 : lw_okq (⟨"BitRopesModel", "readLine", "(I)Z"⟩, 39) := ⟨⟨by decide +kernel, by decide +kernel⟩, List.mem_of_getElem? (i := 1048) (by decide +kernel), List.mem_of_getElem? (i := 1206) (by decide +kernel), List.mem_of_getElem? (i := 1207) (by decide +kernel)⟩
theorem lw_p28 : lw_okq (⟨"BitRopesModel", "isWord", "(I)Z"⟩, 39) := ⟨⟨by decide +kernel, by decide +kernel⟩, List.mem_of_getElem? (i := 1048) (by decide +kernel), List.mem_of_getElem? (i := 1210) (by decide +kernel), List.mem_of_getElem? (i := 1211) (by decide +kernel)⟩
theorem lw_p29 : lw_okq (⟨"BitRopesModel", "readLeaf", "(I)Z"⟩, 39) := ⟨⟨by decide +kernel, by decide +kernel⟩, List.mem_of_getElem? (i := 1048) (by decide +kernel), List.mem_of_getElem? (i := 1220) (by decide +kernel), List.mem_of_getElem? (i := 1221) (by decide +kernel)⟩
theorem lw_p30 : lw_okq (⟨"BitRopesModel", "bad", "(I)Z"⟩, 39) := ⟨⟨by decide +kernel, by decide +kernel⟩, List.mem_of_getElem? (i := 1048) (by decide +kernel), List.mem_of_getElem? (i := 1224) (by decide +kernel), List.mem_of_getElem? (i := 1225) (by decide +kernel)⟩
theorem lw_p31 : lw_okq (⟨"BitRopesModel", "readNumber", "(II)Z"⟩, 39) := ⟨⟨by decide +kernel, by decide +kernel⟩, List.mem_of_getElem? (i := 1048) (by decide +kernel), List.mem_of_getElem? (i := 1228) (by decide +kernel), List.mem_of_getElem? (i := 1229) (by decide +kernel)⟩
def lw_privs_2 : List (MethodName × Nat) := [(⟨"BitRopes$Sentence", "readCond", "(LBitRopes$Reader;LBitRopes$State;I)V"⟩, 6), (⟨"BitRopes$Sentence", "readOne", "(LBitRopes$Reader;LBitRopes$State;I)V"⟩, 6), (⟨"BitRopes$Sentence", "addStep", "(LBitRopes$Word;II)V"⟩, 6), (⟨"BitRopes$Sentence", "readPlain", "(LBitRopes$Reader;LBitRopes$State;LBitRopes$Word;)V"⟩, 6), (⟨"BitRopes$Sentence", "isPlainTrue", "(ILBitRopes$State;I)Z"⟩, 6), (⟨"java/lang/Throwable", "fillInStackTrace", "(I)Ljava/lang/Throwable;"⟩, 6), (⟨"BitRopesModel", "come", "(I)V"⟩, 39), (⟨"BitRopesModel", "begin", "(I)V"⟩, 39), (⟨"BitRopesModel", "take", "()I"⟩, 39), (⟨"BitRopesModel", "go", "()V"⟩, 39), (⟨"BitRopesModel", "tapeAt", "(I)I"⟩, 39), (⟨"BitRopesModel", "readLine", "(I)Z"⟩, 39), (⟨"BitRopesModel", "isWord", "(I)Z"⟩, 39), (⟨"BitRopesModel", "readLeaf", "(I)Z"⟩, 39), (⟨"BitRopesModel", "bad", "(I)Z"⟩, 39), (⟨"BitRopesModel", "readNumber", "(II)Z"⟩, 39)]
theorem lw_r2 : ∀ q ∈ lw_privs_2, lw_okq q := List.forall_mem_cons.mpr ⟨lw_p16, List.forall_mem_cons.mpr ⟨lw_p17, List.forall_mem_cons.mpr ⟨lw_p18, List.forall_mem_cons.mpr ⟨lw_p19, List.forall_mem_cons.mpr ⟨lw_p20, List.forall_mem_cons.mpr ⟨lw_p21, List.forall_mem_cons.mpr ⟨lw_p22, List.forall_mem_cons.mpr ⟨lw_p23, List.forall_mem_cons.mpr ⟨lw_p24, List.forall_mem_cons.mpr ⟨lw_p25, List.forall_mem_cons.mpr ⟨lw_p26, List.forall_mem_cons.mpr ⟨lw_p27, List.forall_mem_cons.mpr ⟨lw_p28, List.forall_mem_cons.mpr ⟨lw_p29, List.forall_mem_cons.mpr ⟨lw_p30, List.forall_mem_cons.mpr ⟨lw_p31, fun _ h => absurd h List.not_mem_nil⟩⟩⟩⟩⟩⟩⟩⟩⟩⟩⟩⟩⟩⟩⟩⟩
theorem lw_p32 : lw_okq (⟨"BitRopesModel", "readRow", "()Z"⟩, 39) := ⟨⟨by decide +kernel, by decide +kernel⟩, List.mem_of_getElem? (i := 1048) (by decide +kernel), List.mem_of_getElem? (i := 1235) (by decide +kernel), List.mem_of_getElem? (i := 1236) (by decide +kernel)⟩
theorem lw_p33 : lw_okq (⟨"BitRopesModel", "isName", "()Z"⟩, 39) := ⟨⟨by decide +kernel, by decide +kernel⟩, List.mem_of_getElem? (i := 1048) (by decide +kernel), List.mem_of_getElem? (i := 1239) (by decide +kernel), List.mem_of_getElem? (i := 1240) (by decide +kernel)⟩
theorem lw_p34 : lw_okq (⟨"BitRopesModel", "areBits", "()Z"⟩, 39) := ⟨⟨by decide +kernel, by decide +kernel⟩, List.mem_of_getElem? (i := 1048) (by decide +kernel), List.mem_of_getElem? (i := 1246) (by decide +kernel), List.mem_of_getElem? (i := 1247) (by decide +kernel)⟩
theorem lw_p35 : lw_okq (⟨"BitRopesModel", "readLetters", "()Z"⟩, 39) := ⟨⟨by decide +kernel, by decide +kernel⟩, List.mem_of_getElem? (i := 1048) (by decide +kernel), List.mem_of_getElem? (i := 1250) (by decide +kernel), List.mem_of_getElem? (i := 1251) (by decide +kernel)⟩
theorem lw_p36 : lw_okq (⟨"BitRopesModel", "areOf", "(I)Z"⟩, 39) := ⟨⟨by decide +kernel, by decide +kernel⟩, List.mem_of_getElem? (i := 1048) (by decide +kernel), List.mem_of_getElem? (i := 1254) (by decide +kernel), List.mem_of_getElem? (i := 1255) (by decide +kernel)⟩
theorem lw_p37 : lw_okq (⟨"BitRopesModel", "readEnd", "()Z"⟩, 39) := ⟨⟨by decide +kernel, by decide +kernel⟩, List.mem_of_getElem? (i := 1048) (by decide +kernel), List.mem_of_getElem? (i := 1258) (by decide +kernel), List.mem_of_getElem? (i := 1259) (by decide +kernel)⟩
theorem lw_p38 : lw_okq (⟨"BitRopesModel", "isSign", "(I)Z"⟩, 39) := ⟨⟨by decide +kernel, by decide +kernel⟩, List.mem_of_getElem? (i := 1048) (by decide +kernel), List.mem_of_getElem? (i := 1262) (by decide +kernel), List.mem_of_getElem? (i := 1263) (by decide +kernel)⟩
theorem lw_p39 : lw_okq (⟨"BitRopesModel", "startSo", "()V"⟩, 39) := ⟨⟨by decide +kernel, by decide +kernel⟩, List.mem_of_getElem? (i := 1048) (by decide +kernel), List.mem_of_getElem? (i := 1266) (by decide +kernel), List.mem_of_getElem? (i := 1267) (by decide +kernel)⟩
theorem lw_p40 : lw_okq (⟨"BitRopesModel", "putBit", "(III)V"⟩, 39) := ⟨⟨by decide +kernel, by decide +kernel⟩, List.mem_of_getElem? (i := 1048) (by decide +kernel), List.mem_of_getElem? (i := 1270) (by decide +kernel), List.mem_of_getElem? (i := 1271) (by decide +kernel)⟩
theorem lw_p41 : lw_okq (⟨"BitRopesModel", "sizeOf", "(I)I"⟩, 39) := ⟨⟨by decide +kernel, by decide +kernel⟩, List.mem_of_getElem? (i := 1048) (by decide +kernel), List.mem_of_getElem? (i := 1274) (by decide +kernel), List.mem_of_getElem? (i := 1275) (by decide +kernel)⟩
theorem lw_p42 : lw_okq (⟨"BitRopesModel", "leafOf", "(II)I"⟩, 39) := ⟨⟨by decide +kernel, by decide +kernel⟩, List.mem_of_getElem? (i := 1048) (by decide +kernel), List.mem_of_getElem? (i := 1278) (by decide +kernel), List.mem_of_getElem? (i := 1279) (by decide +kernel)⟩
theorem lw_p43 : lw_okq (⟨"BitRopesModel", "leafAt", "(II)I"⟩, 39) := ⟨⟨by decide +kernel, by decide +kernel⟩, List.mem_of_getElem? (i := 1048) (by decide +kernel), List.mem_of_getElem? (i := 1282) (by decide +kernel), List.mem_of_getElem? (i := 1283) (by decide +kernel)⟩
theorem lw_p44 : lw_okq (⟨"BitRopesModel", "splitLeaf", "(II)V"⟩, 39) := ⟨⟨by decide +kernel, by decide +kernel⟩, List.mem_of_getElem? (i := 1048) (by decide +kernel), List.mem_of_getElem? (i := 1286) (by decide +kernel), List.mem_of_getElem? (i := 1287) (by decide +kernel)⟩
theorem lw_p45 : lw_okq (⟨"BitRopesModel", "isRow", "(I)Z"⟩, 39) := ⟨⟨by decide +kernel, by decide +kernel⟩, List.mem_of_getElem? (i := 1048) (by decide +kernel), List.mem_of_getElem? (i := 1298) (by decide +kernel), List.mem_of_getElem? (i := 1299) (by decide +kernel)⟩
theorem lw_p46 : lw_okq (⟨"BitRopesModel", "isThere", "(II)Z"⟩, 39) := ⟨⟨by decide +kernel, by decide +kernel⟩, List.mem_of_getElem? (i := 1048) (by decide +kernel), List.mem_of_getElem? (i := 1306) (by decide +kernel), List.mem_of_getElem? (i := 1307) (by decide +kernel)⟩
theorem lw_p47 : lw_okq (⟨"BitRopesModel", "bitOf", "(II)I"⟩, 39) := ⟨⟨by decide +kernel, by decide +kernel⟩, List.mem_of_getElem? (i := 1048) (by decide +kernel), List.mem_of_getElem? (i := 1310) (by decide +kernel), List.mem_of_getElem? (i := 1311) (by decide +kernel)⟩
def lw_privs_3 : List (MethodName × Nat) := [(⟨"BitRopesModel", "readRow", "()Z"⟩, 39), (⟨"BitRopesModel", "isName", "()Z"⟩, 39), (⟨"BitRopesModel", "areBits", "()Z"⟩, 39), (⟨"BitRopesModel", "readLetters", "()Z"⟩, 39), (⟨"BitRopesModel", "areOf", "(I)Z"⟩, 39), (⟨"BitRopesModel", "readEnd", "()Z"⟩, 39), (⟨"BitRopesModel", "isSign", "(I)Z"⟩, 39), (⟨"BitRopesModel", "startSo", "()V"⟩, 39), (⟨"BitRopesModel", "putBit", "(III)V"⟩, 39), (⟨"BitRopesModel", "sizeOf", "(I)I"⟩, 39), (⟨"BitRopesModel", "leafOf", "(II)I"⟩, 39), (⟨"BitRopesModel", "leafAt", "(II)I"⟩, 39), (⟨"BitRopesModel", "splitLeaf", "(II)V"⟩, 39), (⟨"BitRopesModel", "isRow", "(I)Z"⟩, 39), (⟨"BitRopesModel", "isThere", "(II)Z"⟩, 39), (⟨"BitRopesModel", "bitOf", "(II)I"⟩, 39)]
theorem lw_r3 : ∀ q ∈ lw_privs_3, lw_okq q := List.forall_mem_cons.mpr ⟨lw_p32, List.forall_mem_cons.mpr ⟨lw_p33, List.forall_mem_cons.mpr ⟨lw_p34, List.forall_mem_cons.mpr ⟨lw_p35, List.forall_mem_cons.mpr ⟨lw_p36, List.forall_mem_cons.mpr ⟨lw_p37, List.forall_mem_cons.mpr ⟨lw_p38, List.forall_mem_cons.mpr ⟨lw_p39, List.forall_mem_cons.mpr ⟨lw_p40, List.forall_mem_cons.mpr ⟨lw_p41, List.forall_mem_cons.mpr ⟨lw_p42, List.forall_mem_cons.mpr ⟨lw_p43, List.forall_mem_cons.mpr ⟨lw_p44, List.forall_mem_cons.mpr ⟨lw_p45, List.forall_mem_cons.mpr ⟨lw_p46, List.forall_mem_cons.mpr ⟨lw_p47, fun _ h => absurd h List.not_mem_nil⟩⟩⟩⟩⟩⟩⟩⟩⟩⟩⟩⟩⟩⟩⟩⟩
theorem lw_p48 : lw_okq (⟨"BitRopesModel", "isBit", "(I)Z"⟩, 39) := ⟨⟨by decide +kernel, by decide +kernel⟩, List.mem_of_getElem? (i := 1048) (by decide +kernel), List.mem_of_getElem? (i := 1318) (by decide +kernel), List.mem_of_getElem? (i := 1319) (by decide +kernel)⟩
theorem lw_p49 : lw_okq (⟨"BitRopesModel", "onesIn", "(III)I"⟩, 39) := ⟨⟨by decide +kernel, by decide +kernel⟩, List.mem_of_getElem? (i := 1048) (by decide +kernel), List.mem_of_getElem? (i := 1322) (by decide +kernel), List.mem_of_getElem? (i := 1323) (by decide +kernel)⟩
theorem lw_p50 : lw_okq (⟨"BitRopesModel", "runsOf", "(I)I"⟩, 39) := ⟨⟨by decide +kernel, by decide +kernel⟩, List.mem_of_getElem? (i := 1048) (by decide +kernel), List.mem_of_getElem? (i := 1338) (by decide +kernel), List.mem_of_getElem? (i := 1339) (by decide +kernel)⟩
theorem lw_p51 : lw_okq (⟨"BitRopesModel", "refuse", "()I"⟩, 39) := ⟨⟨by decide +kernel, by decide +kernel⟩, List.mem_of_getElem? (i := 1048) (by decide +kernel), List.mem_of_getElem? (i := 1350) (by decide +kernel), List.mem_of_getElem? (i := 1351) (by decide +kernel)⟩
theorem lw_p52 : lw_okq (⟨"BitRopesModel", "costOf", "(I)I"⟩, 39) := ⟨⟨by decide +kernel, by decide +kernel⟩, List.mem_of_getElem? (i := 1048) (by decide +kernel), List.mem_of_getElem? (i := 1375) (by decide +kernel), List.mem_of_getElem? (i := 1376) (by decide +kernel)⟩
theorem lw_p53 : lw_okq (⟨"BitRopesModel", "asFloat", "(II)I"⟩, 39) := ⟨⟨by decide +kernel, by decide +kernel⟩, List.mem_of_getElem? (i := 1048) (by decide +kernel), List.mem_of_getElem? (i := 1383) (by decide +kernel), List.mem_of_getElem? (i := 1384) (by decide +kernel)⟩
theorem lw_p54 : lw_okq (⟨"BitRopesModel", "firstBits", "(III)J"⟩, 39) := ⟨⟨by decide +kernel, by decide +kernel⟩, List.mem_of_getElem? (i := 1048) (by decide +kernel), List.mem_of_getElem? (i := 1387) (by decide +kernel), List.mem_of_getElem? (i := 1388) (by decide +kernel)⟩
theorem lw_p55 : lw_okq (⟨"BitRopesModel", "asDouble", "(II)J"⟩, 39) := ⟨⟨by decide +kernel, by decide +kernel⟩, List.mem_of_getElem? (i := 1048) (by decide +kernel), List.mem_of_getElem? (i := 1401) (by decide +kernel), List.mem_of_getElem? (i := 1402) (by decide +kernel)⟩
theorem lw_p56 : lw_okq (⟨"BitRopesModel", "areLike", "(II)Z"⟩, 39) := ⟨⟨by decide +kernel, by decide +kernel⟩, List.mem_of_getElem? (i := 1048) (by decide +kernel), List.mem_of_getElem? (i := 1415) (by decide +kernel), List.mem_of_getElem? (i := 1416) (by decide +kernel)⟩
theorem lw_p57 : lw_okq (⟨"BitRopesModel", "firstApart", "(II)I"⟩, 39) := ⟨⟨by decide +kernel, by decide +kernel⟩, List.mem_of_getElem? (i := 1048) (by decide +kernel), List.mem_of_getElem? (i := 1419) (by decide +kernel), List.mem_of_getElem? (i := 1420) (by decide +kernel)⟩
theorem lw_p58 : lw_okq (⟨"BitRopesModel", "areTapeBits", "(II)Z"⟩, 39) := ⟨⟨by decide +kernel, by decide +kernel⟩, List.mem_of_getElem? (i := 1048) (by decide +kernel), List.mem_of_getElem? (i := 1427) (by decide +kernel), List.mem_of_getElem? (i := 1428) (by decide +kernel)⟩
theorem lw_p59 : lw_okq (⟨"BitRopesModel", "isOnTape", "(III)Z"⟩, 39) := ⟨⟨by decide +kernel, by decide +kernel⟩, List.mem_of_getElem? (i := 1048) (by decide +kernel), List.mem_of_getElem? (i := 1431) (by decide +kernel), List.mem_of_getElem? (i := 1432) (by decide +kernel)⟩
theorem lw_p60 : lw_okq (⟨"BitRopesModel", "isLetterAt", "(I)Z"⟩, 39) := ⟨⟨by decide +kernel, by decide +kernel⟩, List.mem_of_getElem? (i := 1048) (by decide +kernel), List.mem_of_getElem? (i := 1447) (by decide +kernel), List.mem_of_getElem? (i := 1448) (by decide +kernel)⟩
theorem lw_p61 : lw_okq (⟨"BitRopesModel", "act", "(IIIIZ)I"⟩, 39) := ⟨⟨by decide +kernel, by decide +kernel⟩, List.mem_of_getElem? (i := 1048) (by decide +kernel), List.mem_of_getElem? (i := 1474) (by decide +kernel), List.mem_of_getElem? (i := 1475) (by decide +kernel)⟩
theorem lw_p62 : lw_okq (⟨"BitRopesModel", "refusal", "(IIII)I"⟩, 39) := ⟨⟨by decide +kernel, by decide +kernel⟩, List.mem_of_getElem? (i := 1048) (by decide +kernel), List.mem_of_getElem? (i := 1478) (by decide +kernel), List.mem_of_getElem? (i := 1479) (by decide +kernel)⟩
theorem lw_p63 : lw_okq (⟨"BitRopesModel", "whyPut", "(III)I"⟩, 39) := ⟨⟨by decide +kernel, by decide +kernel⟩, List.mem_of_getElem? (i := 1048) (by decide +kernel), List.mem_of_getElem? (i := 1482) (by decide +kernel), List.mem_of_getElem? (i := 1483) (by decide +kernel)⟩
def lw_privs_4 : List (MethodName × Nat) := [(⟨"BitRopesModel", "isBit", "(I)Z"⟩, 39), (⟨"BitRopesModel", "onesIn", "(III)I"⟩, 39), (⟨"BitRopesModel", "runsOf", "(I)I"⟩, 39), (⟨"BitRopesModel", "refuse", "()I"⟩, 39), (⟨"BitRopesModel", "costOf", "(I)I"⟩, 39), (⟨"BitRopesModel", "asFloat", "(II)I"⟩, 39), (⟨"BitRopesModel", "firstBits", "(III)J"⟩, 39), (⟨"BitRopesModel", "asDouble", "(II)J"⟩, 39), (⟨"BitRopesModel", "areLike", "(II)Z"⟩, 39), (⟨"BitRopesModel", "firstApart", "(II)I"⟩, 39), (⟨"BitRopesModel", "areTapeBits", "(II)Z"⟩, 39), (⟨"BitRopesModel", "isOnTape", "(III)Z"⟩, 39), (⟨"BitRopesModel", "isLetterAt", "(I)Z"⟩, 39), (⟨"BitRopesModel", "act", "(IIIIZ)I"⟩, 39), (⟨"BitRopesModel", "refusal", "(IIII)I"⟩, 39), (⟨"BitRopesModel", "whyPut", "(III)I"⟩, 39)]
theorem lw_r4 : ∀ q ∈ lw_privs_4, lw_okq q := List.forall_mem_cons.mpr ⟨lw_p48, List.forall_mem_cons.mpr ⟨lw_p49, List.forall_mem_cons.mpr ⟨lw_p50, List.forall_mem_cons.mpr ⟨lw_p51, List.forall_mem_cons.mpr ⟨lw_p52, List.forall_mem_cons.mpr ⟨lw_p53, List.forall_mem_cons.mpr ⟨lw_p54, List.forall_mem_cons.mpr ⟨lw_p55, List.forall_mem_cons.mpr ⟨lw_p56, List.forall_mem_cons.mpr ⟨lw_p57, List.forall_mem_cons.mpr ⟨lw_p58, List.forall_mem_cons.mpr ⟨lw_p59, List.forall_mem_cons.mpr ⟨lw_p60, List.forall_mem_cons.mpr ⟨lw_p61, List.forall_mem_cons.mpr ⟨lw_p62, List.forall_mem_cons.mpr ⟨lw_p63, fun _ h => absurd h List.not_mem_nil⟩⟩⟩⟩⟩⟩⟩⟩⟩⟩⟩⟩⟩⟩⟩⟩
theorem lw_p64 : lw_okq (⟨"BitRopesModel", "snap", "()V"⟩, 39) := ⟨⟨by decide +kernel, by decide +kernel⟩, List.mem_of_getElem? (i := 1048) (by decide +kernel), List.mem_of_getElem? (i := 1489) (by decide +kernel), List.mem_of_getElem? (i := 1490) (by decide +kernel)⟩
theorem lw_p65 : lw_okq (⟨"BitRopesModel", "save", "([II)V"⟩, 39) := ⟨⟨by decide +kernel, by decide +kernel⟩, List.mem_of_getElem? (i := 1048) (by decide +kernel), List.mem_of_getElem? (i := 1493) (by decide +kernel), List.mem_of_getElem? (i := 1494) (by decide +kernel)⟩
theorem lw_p66 : lw_okq (⟨"BitRopesModel", "live", "(IIII)V"⟩, 39) := ⟨⟨by decide +kernel, by decide +kernel⟩, List.mem_of_getElem? (i := 1048) (by decide +kernel), List.mem_of_getElem? (i := 1497) (by decide +kernel), List.mem_of_getElem? (i := 1498) (by decide +kernel)⟩
theorem lw_p67 : lw_okq (⟨"BitRopesModel", "takeBit", "(II)V"⟩, 39) := ⟨⟨by decide +kernel, by decide +kernel⟩, List.mem_of_getElem? (i := 1048) (by decide +kernel), List.mem_of_getElem? (i := 1501) (by decide +kernel), List.mem_of_getElem? (i := 1502) (by decide +kernel)⟩
theorem lw_p68 : lw_okq (⟨"BitRopesModel", "joinLeaves", "(II)V"⟩, 39) := ⟨⟨by decide +kernel, by decide +kernel⟩, List.mem_of_getElem? (i := 1048) (by decide +kernel), List.mem_of_getElem? (i := 1505) (by decide +kernel), List.mem_of_getElem? (i := 1506) (by decide +kernel)⟩
theorem lw_p69 : lw_okq (⟨"BitRopesModel", "moves", "(III)V"⟩, 39) := ⟨⟨by decide +kernel, by decide +kernel⟩, List.mem_of_getElem? (i := 1048) (by decide +kernel), List.mem_of_getElem? (i := 1509) (by decide +kernel), List.mem_of_getElem? (i := 1510) (by decide +kernel)⟩
theorem lw_p70 : lw_okq (⟨"BitRopesModel", "areTwo", "(II)Z"⟩, 39) := ⟨⟨by decide +kernel, by decide +kernel⟩, List.mem_of_getElem? (i := 1048) (by decide +kernel), List.mem_of_getElem? (i := 1533) (by decide +kernel), List.mem_of_getElem? (i := 1534) (by decide +kernel)⟩
theorem lw_p71 : lw_okq (⟨"BitRopesModel", "comeBack", "([II)V"⟩, 39) := ⟨⟨by decide +kernel, by decide +kernel⟩, List.mem_of_getElem? (i := 1048) (by decide +kernel), List.mem_of_getElem? (i := 1553) (by decide +kernel), List.mem_of_getElem? (i := 1554) (by decide +kernel)⟩
theorem lw_p72 : lw_okq (⟨"BitRopesModel", "drawsDeed", "()Z"⟩, 39) := ⟨⟨by decide +kernel, by decide +kernel⟩, List.mem_of_getElem? (i := 1048) (by decide +kernel), List.mem_of_getElem? (i := 1561) (by decide +kernel), List.mem_of_getElem? (i := 1562) (by decide +kernel)⟩
theorem lw_p73 : lw_okq (⟨"BitRopesModel", "draw", "(I)I"⟩, 39) := ⟨⟨by decide +kernel, by decide +kernel⟩, List.mem_of_getElem? (i := 1048) (by decide +kernel), List.mem_of_getElem? (i := 1565) (by decide +kernel), List.mem_of_getElem? (i := 1566) (by decide +kernel)⟩
theorem lw_p74 : lw_okq (⟨"BitRopesModel", "doIf", "(IIII)Z"⟩, 39) := ⟨⟨by decide +kernel, by decide +kernel⟩, List.mem_of_getElem? (i := 1048) (by decide +kernel), List.mem_of_getElem? (i := 1570) (by decide +kernel), List.mem_of_getElem? (i := 1571) (by decide +kernel)⟩
theorem lw_p75 : lw_okq (⟨"BitRopesModel", "stay", "(Z)V"⟩, 39) := ⟨⟨by decide +kernel, by decide +kernel⟩, List.mem_of_getElem? (i := 1048) (by decide +kernel), List.mem_of_getElem? (i := 1574) (by decide +kernel), List.mem_of_getElem? (i := 1575) (by decide +kernel)⟩
theorem lw_p76 : lw_okq (⟨"BitRopesModel", "readBookLine", "()Z"⟩, 39) := ⟨⟨by decide +kernel, by decide +kernel⟩, List.mem_of_getElem? (i := 1048) (by decide +kernel), List.mem_of_getElem? (i := 1582) (by decide +kernel), List.mem_of_getElem? (i := 1583) (by decide +kernel)⟩
theorem lw_p77 : lw_okq (⟨"BitRopesModel", "readRowName", "()Z"⟩, 39) := ⟨⟨by decide +kernel, by decide +kernel⟩, List.mem_of_getElem? (i := 1048) (by decide +kernel), List.mem_of_getElem? (i := 1586) (by decide +kernel), List.mem_of_getElem? (i := 1587) (by decide +kernel)⟩
theorem lw_p78 : lw_okq (⟨"BitRopesModel", "keep", "(IZ)Z"⟩, 39) := ⟨⟨by decide +kernel, by decide +kernel⟩, List.mem_of_getElem? (i := 1048) (by decide +kernel), List.mem_of_getElem? (i := 1590) (by decide +kernel), List.mem_of_getElem? (i := 1591) (by decide +kernel)⟩
theorem lw_p79 : lw_okq (⟨"BitRopesModel", "readOther", "(I)Z"⟩, 39) := ⟨⟨by decide +kernel, by decide +kernel⟩, List.mem_of_getElem? (i := 1048) (by decide +kernel), List.mem_of_getElem? (i := 1594) (by decide +kernel), List.mem_of_getElem? (i := 1595) (by decide +kernel)⟩
def lw_privs_5 : List (MethodName × Nat) := [(⟨"BitRopesModel", "snap", "()V"⟩, 39), (⟨"BitRopesModel", "save", "([II)V"⟩, 39), (⟨"BitRopesModel", "live", "(IIII)V"⟩, 39), (⟨"BitRopesModel", "takeBit", "(II)V"⟩, 39), (⟨"BitRopesModel", "joinLeaves", "(II)V"⟩, 39), (⟨"BitRopesModel", "moves", "(III)V"⟩, 39), (⟨"BitRopesModel", "areTwo", "(II)Z"⟩, 39), (⟨"BitRopesModel", "comeBack", "([II)V"⟩, 39), (⟨"BitRopesModel", "drawsDeed", "()Z"⟩, 39), (⟨"BitRopesModel", "draw", "(I)I"⟩, 39), (⟨"BitRopesModel", "doIf", "(IIII)Z"⟩, 39), (⟨"BitRopesModel", "stay", "(Z)V"⟩, 39), (⟨"BitRopesModel", "readBookLine", "()Z"⟩, 39), (⟨"BitRopesModel", "readRowName", "()Z"⟩, 39), (⟨"BitRopesModel", "keep", "(IZ)Z"⟩, 39), (⟨"BitRopesModel", "readOther", "(I)Z"⟩, 39)]
theorem lw_r5 : ∀ q ∈ lw_privs_5, lw_okq q := List.forall_mem_cons.mpr ⟨lw_p64, List.forall_mem_cons.mpr ⟨lw_p65, List.forall_mem_cons.mpr ⟨lw_p66, List.forall_mem_cons.mpr ⟨lw_p67, List.forall_mem_cons.mpr ⟨lw_p68, List.forall_mem_cons.mpr ⟨lw_p69, List.forall_mem_cons.mpr ⟨lw_p70, List.forall_mem_cons.mpr ⟨lw_p71, List.forall_mem_cons.mpr ⟨lw_p72, List.forall_mem_cons.mpr ⟨lw_p73, List.forall_mem_cons.mpr ⟨lw_p74, List.forall_mem_cons.mpr ⟨lw_p75, List.forall_mem_cons.mpr ⟨lw_p76, List.forall_mem_cons.mpr ⟨lw_p77, List.forall_mem_cons.mpr ⟨lw_p78, List.forall_mem_cons.mpr ⟨lw_p79, fun _ h => absurd h List.not_mem_nil⟩⟩⟩⟩⟩⟩⟩⟩⟩⟩⟩⟩⟩⟩⟩⟩
theorem lw_p80 : lw_okq (⟨"BitRopesModel", "goBy", "(I)I"⟩, 39) := ⟨⟨by decide +kernel, by decide +kernel⟩, List.mem_of_getElem? (i := 1048) (by decide +kernel), List.mem_of_getElem? (i := 1598) (by decide +kernel), List.mem_of_getElem? (i := 1599) (by decide +kernel)⟩
theorem lw_p81 : lw_okq (⟨"BitRopesModel", "allBits", "()I"⟩, 39) := ⟨⟨by decide +kernel, by decide +kernel⟩, List.mem_of_getElem? (i := 1048) (by decide +kernel), List.mem_of_getElem? (i := 1602) (by decide +kernel), List.mem_of_getElem? (i := 1603) (by decide +kernel)⟩
theorem lw_p82 : lw_okq (⟨"BitRopesModel", "readOr", "()Z"⟩, 39) := ⟨⟨by decide +kernel, by decide +kernel⟩, List.mem_of_getElem? (i := 1048) (by decide +kernel), List.mem_of_getElem? (i := 1614) (by decide +kernel), List.mem_of_getElem? (i := 1615) (by decide +kernel)⟩
theorem lw_p83 : lw_okq (⟨"BitRopesModel", "readAnd", "()Z"⟩, 39) := ⟨⟨by decide +kernel, by decide +kernel⟩, List.mem_of_getElem? (i := 1048) (by decide +kernel), List.mem_of_getElem? (i := 1618) (by decide +kernel), List.mem_of_getElem? (i := 1619) (by decide +kernel)⟩
theorem lw_p84 : lw_okq (⟨"BitRopesModel", "readSaid", "()Z"⟩, 39) := ⟨⟨by decide +kernel, by decide +kernel⟩, List.mem_of_getElem? (i := 1048) (by decide +kernel), List.mem_of_getElem? (i := 1622) (by decide +kernel), List.mem_of_getElem? (i := 1623) (by decide +kernel)⟩
theorem lw_p85 : lw_okq (⟨"BitRopesModel", "readBracket", "()Z"⟩, 39) := ⟨⟨by decide +kernel, by decide +kernel⟩, List.mem_of_getElem? (i := 1048) (by decide +kernel), List.mem_of_getElem? (i := 1626) (by decide +kernel), List.mem_of_getElem? (i := 1627) (by decide +kernel)⟩
theorem lw_p86 : lw_okq (⟨"BitRopesModel", "readNot", "()Z"⟩, 39) := ⟨⟨by decide +kernel, by decide +kernel⟩, List.mem_of_getElem? (i := 1048) (by decide +kernel), List.mem_of_getElem? (i := 1630) (by decide +kernel), List.mem_of_getElem? (i := 1631) (by decide +kernel)⟩
theorem lw_p87 : lw_okq (⟨"BitRopesModel", "saysOne", "(IIII)I"⟩, 39) := ⟨⟨by decide +kernel, by decide +kernel⟩, List.mem_of_getElem? (i := 1048) (by decide +kernel), List.mem_of_getElem? (i := 1634) (by decide +kernel), List.mem_of_getElem? (i := 1635) (by decide +kernel)⟩
theorem lw_p88 : lw_okq (⟨"BitRopesModel", "readOf", "(I)Z"⟩, 39) := ⟨⟨by decide +kernel, by decide +kernel⟩, List.mem_of_getElem? (i := 1048) (by decide +kernel), List.mem_of_getElem? (i := 1638) (by decide +kernel), List.mem_of_getElem? (i := 1639) (by decide +kernel)⟩
theorem lw_p89 : lw_okq (⟨"BitRopesModel", "readCompare", "(I)Z"⟩, 39) := ⟨⟨by decide +kernel, by decide +kernel⟩, List.mem_of_getElem? (i := 1048) (by decide +kernel), List.mem_of_getElem? (i := 1642) (by decide +kernel), List.mem_of_getElem? (i := 1643) (by decide +kernel)⟩
theorem lw_p90 : lw_okq (⟨"BitRopesModel", "holds", "(II)Z"⟩, 39) := ⟨⟨by decide +kernel, by decide +kernel⟩, List.mem_of_getElem? (i := 1048) (by decide +kernel), List.mem_of_getElem? (i := 1650) (by decide +kernel), List.mem_of_getElem? (i := 1651) (by decide +kernel)⟩
theorem lw_p91 : lw_okq (⟨"BitRopesModel", "onesOf", "(I)I"⟩, 39) := ⟨⟨by decide +kernel, by decide +kernel⟩, List.mem_of_getElem? (i := 1048) (by decide +kernel), List.mem_of_getElem? (i := 1654) (by decide +kernel), List.mem_of_getElem? (i := 1655) (by decide +kernel)⟩
theorem lw_p92 : lw_okq (⟨"BitRopesModel", "beginsWith", "(II)Z"⟩, 39) := ⟨⟨by decide +kernel, by decide +kernel⟩, List.mem_of_getElem? (i := 1048) (by decide +kernel), List.mem_of_getElem? (i := 1658) (by decide +kernel), List.mem_of_getElem? (i := 1659) (by decide +kernel)⟩
def lw_privs_6 : List (MethodName × Nat) := [(⟨"BitRopesModel", "goBy", "(I)I"⟩, 39), (⟨"BitRopesModel", "allBits", "()I"⟩, 39), (⟨"BitRopesModel", "readOr", "()Z"⟩, 39), (⟨"BitRopesModel", "readAnd", "()Z"⟩, 39), (⟨"BitRopesModel", "readSaid", "()Z"⟩, 39), (⟨"BitRopesModel", "readBracket", "()Z"⟩, 39), (⟨"BitRopesModel", "readNot", "()Z"⟩, 39), (⟨"BitRopesModel", "saysOne", "(IIII)I"⟩, 39), (⟨"BitRopesModel", "readOf", "(I)Z"⟩, 39), (⟨"BitRopesModel", "readCompare", "(I)Z"⟩, 39), (⟨"BitRopesModel", "holds", "(II)Z"⟩, 39), (⟨"BitRopesModel", "onesOf", "(I)I"⟩, 39), (⟨"BitRopesModel", "beginsWith", "(II)Z"⟩, 39)]
theorem lw_r6 : ∀ q ∈ lw_privs_6, lw_okq q := List.forall_mem_cons.mpr ⟨lw_p80, List.forall_mem_cons.mpr ⟨lw_p81, List.forall_mem_cons.mpr ⟨lw_p82, List.forall_mem_cons.mpr ⟨lw_p83, List.forall_mem_cons.mpr ⟨lw_p84, List.forall_mem_cons.mpr ⟨lw_p85, List.forall_mem_cons.mpr ⟨lw_p86, List.forall_mem_cons.mpr ⟨lw_p87, List.forall_mem_cons.mpr ⟨lw_p88, List.forall_mem_cons.mpr ⟨lw_p89, List.forall_mem_cons.mpr ⟨lw_p90, List.forall_mem_cons.mpr ⟨lw_p91, List.forall_mem_cons.mpr ⟨lw_p92, fun _ h => absurd h List.not_mem_nil⟩⟩⟩⟩⟩⟩⟩⟩⟩⟩⟩⟩⟩
def lw_privs : List (MethodName × Nat) := lw_privs_1 ++ (lw_privs_2 ++ (lw_privs_3 ++ (lw_privs_4 ++ (lw_privs_5 ++ (lw_privs_6)))))
def lw_tbl : List Cond := k2_sels lw_privs ++ tables_1
theorem lw_privs_ok : ∀ q ∈ lw_privs, lw_okq q := by
  show ∀ q ∈ lw_privs_1 ++ (lw_privs_2 ++ (lw_privs_3 ++ (lw_privs_4 ++ (lw_privs_5 ++ (lw_privs_6))))), lw_okq q
  exact List.forall_mem_append.mpr ⟨lw_r1, List.forall_mem_append.mpr ⟨lw_r2, List.forall_mem_append.mpr ⟨lw_r3, List.forall_mem_append.mpr ⟨lw_r4, List.forall_mem_append.mpr ⟨lw_r5, lw_r6⟩⟩⟩⟩⟩
end
section
/-! ===== BEGIN printed: names, fields, word lists, decode rows ===== -/
def RX0 : String := "BitRopes$Book"
def TX0 : u_T := fun k => match k with
  | 0 => ("BitRopes$Book", "deeds", "[LBitRopes$Word;", true)
  | 1 => ("BitRopes$Book", "firsts", "[I", true)
  | 2 => ("BitRopes$Book", "seconds", "[I", true)
  | 3 => ("BitRopes$Book", "thirds", "[I", true)
  | 4 => ("BitRopes$Book", "many", "I", false)
  | _ => ("BitRopes$Book", "wrong", "I", false)
def tyX0 : Nat → FieldType := fun k => match k with
  | 0 => .array (.object "BitRopes$Word")
  | 1 => .array .int
  | 2 => .array .int
  | 3 => .array .int
  | 4 => .int
  | _ => .int
abbrev wsX00 : List Cond := u_ws RX0 TX0 6
theorem nmX0 : ∀ a, a < 6 → ∀ b, b < 6 → a ≠ b → (TX0 a).2.1 ≠ (TX0 b).2.1 := by decide +kernel
theorem tyX0_ok : ∀ k, k < 6 → parseFieldDescriptor (TX0 k).2.2.1 = some (tyX0 k) := by decide +kernel
abbrev cX0_init : ByteArray := prog_2_method_1_code
def yX0_init : MethodName := ⟨RX0, "<init>", "()V"⟩
abbrev cX0_readLines : ByteArray := prog_2_method_2_code
def yX0_readLines : MethodName := ⟨RX0, "readLines", "(LBitRopes$Reader;LBitRopes$State;)V"⟩
abbrev cX0_readLine : ByteArray := prog_2_method_3_code
def yX0_readLine : MethodName := ⟨RX0, "readLine", "(LBitRopes$Reader;LBitRopes$State;)V"⟩
abbrev cX0_readThird : ByteArray := prog_2_method_4_code
def yX0_readThird : MethodName := ⟨RX0, "readThird", "(LBitRopes$Reader;LBitRopes$State;LBitRopes$Word;I)I"⟩
abbrev cX0_liveOn : ByteArray := prog_2_method_5_code
def yX0_liveOn : MethodName := ⟨RX0, "liveOn", "(LBitRopes$State;)I"⟩
def RX1 : String := "BitRopes$Draws"
def TX1 : u_T := fun k => match k with
  | _ => ("BitRopes$Draws", "x", "I", false)
def tyX1 : Nat → FieldType := fun k => match k with
  | _ => .int
abbrev wsX10 : List Cond := u_ws RX1 TX1 1
theorem nmX1 : ∀ a, a < 1 → ∀ b, b < 1 → a ≠ b → (TX1 a).2.1 ≠ (TX1 b).2.1 := by decide +kernel
theorem tyX1_ok : ∀ k, k < 1 → parseFieldDescriptor (TX1 k).2.2.1 = some (tyX1 k) := by decide +kernel
abbrev cX1_init : ByteArray := prog_3_method_1_code
def yX1_init : MethodName := ⟨RX1, "<init>", "(I)V"⟩
abbrev cX1_draw : ByteArray := prog_3_method_2_code
def yX1_draw : MethodName := ⟨RX1, "draw", "(I)I"⟩
abbrev cX1_deedOn : ByteArray := prog_3_method_3_code
def yX1_deedOn : MethodName := ⟨RX1, "deedOn", "(LBitRopes$State;)Z"⟩
abbrev cX1_done : ByteArray := prog_3_method_4_code
def yX1_done : MethodName := ⟨RX1, "done", "(LBitRopes$State;LBitRopes$Word;III)Z"⟩
def RX2 : String := "BitRopes$Fraction"
def TX2 : u_T := fun k => match k with
  | _ => ("", "", "", false)
def tyX2 : Nat → FieldType := fun k => match k with
  | _ => .int
abbrev wsX20 : List Cond := u_ws RX2 TX2 0
theorem nmX2 : ∀ a, a < 0 → ∀ b, b < 0 → a ≠ b → (TX2 a).2.1 ≠ (TX2 b).2.1 := by decide +kernel
theorem tyX2_ok : ∀ k, k < 0 → parseFieldDescriptor (TX2 k).2.2.1 = some (tyX2 k) := by decide +kernel
abbrev cX2_asBits : ByteArray := prog_4_method_2_code
def yX2_asBits : MethodName := ⟨RX2, "asBits", "(JJII)J"⟩
def RX3 : String := "BitRopes$History"
def TX3 : u_T := fun k => match k with
  | 0 => ("BitRopes$History", "slots", "[LBitRopes$State;", true)
  | 1 => ("BitRopes$History", "oldest", "I", false)
  | _ => ("BitRopes$History", "kept", "I", false)
def tyX3 : Nat → FieldType := fun k => match k with
  | 0 => .array (.object "BitRopes$State")
  | 1 => .int
  | _ => .int
abbrev wsX30 : List Cond := u_ws RX3 TX3 3
theorem nmX3 : ∀ a, a < 3 → ∀ b, b < 3 → a ≠ b → (TX3 a).2.1 ≠ (TX3 b).2.1 := by decide +kernel
theorem tyX3_ok : ∀ k, k < 3 → parseFieldDescriptor (TX3 k).2.2.1 = some (tyX3 k) := by decide +kernel
abbrev cX3_init : ByteArray := prog_5_method_1_code
def yX3_init : MethodName := ⟨RX3, "<init>", "()V"⟩
abbrev cX3_forget : ByteArray := prog_5_method_2_code
def yX3_forget : MethodName := ⟨RX3, "forget", "()V"⟩
abbrev cX3_keep : ByteArray := prog_5_method_3_code
def yX3_keep : MethodName := ⟨RX3, "keep", "(LBitRopes$State;)V"⟩
abbrev cX3_bringBack : ByteArray := prog_5_method_4_code
def yX3_bringBack : MethodName := ⟨RX3, "bringBack", "(LBitRopes$State;)Z"⟩
def RX4 : String := "BitRopes$Reader"
def TX4 : u_T := fun k => match k with
  | 0 => ("BitRopes$Reader", "bytes", "[I", false)
  | 1 => ("BitRopes$Reader", "length", "I", false)
  | 2 => ("BitRopes$Reader", "most", "I", false)
  | 3 => ("BitRopes$Reader", "next", "I", false)
  | 4 => ("BitRopes$Reader", "kind", "I", false)
  | 5 => ("BitRopes$Reader", "at", "I", false)
  | 6 => ("BitRopes$Reader", "number", "I", false)
  | 7 => ("BitRopes$Reader", "sign", "I", false)
  | 8 => ("BitRopes$Reader", "code", "J", false)
  | 9 => ("BitRopes$Reader", "word", "LBitRopes$Word;", false)
  | 10 => ("BitRopes$Reader", "fault", "I", false)
  | _ => ("BitRopes$Reader", "place", "I", false)
def tyX4 : Nat → FieldType := fun k => match k with
  | 0 => .array .int
  | 1 => .int
  | 2 => .int
  | 3 => .int
  | 4 => .int
  | 5 => .int
  | 6 => .int
  | 7 => .int
  | 8 => .long
  | 9 => .object "BitRopes$Word"
  | 10 => .int
  | _ => .int
abbrev wsX40 : List Cond := u_ws RX4 TX4 12
theorem nmX4 : ∀ a, a < 12 → ∀ b, b < 12 → a ≠ b → (TX4 a).2.1 ≠ (TX4 b).2.1 := by decide +kernel
theorem tyX4_ok : ∀ k, k < 12 → parseFieldDescriptor (TX4 k).2.2.1 = some (tyX4 k) := by decide +kernel
abbrev cX4_init : ByteArray := prog_6_method_1_code
def yX4_init : MethodName := ⟨RX4, "<init>", "()V"⟩
abbrev cX4_open : ByteArray := prog_6_method_2_code
def yX4_open : MethodName := ⟨RX4, "open", "([III)V"⟩
abbrev cX4_advance : ByteArray := prog_6_method_3_code
def yX4_advance : MethodName := ⟨RX4, "advance", "()V"⟩
abbrev cX4_readLettersAndDigits : ByteArray := prog_6_method_4_code
def yX4_readLettersAndDigits : MethodName := ⟨RX4, "readLettersAndDigits", "()V"⟩
abbrev cX4_isSign : ByteArray := prog_6_method_5_code
def yX4_isSign : MethodName := ⟨RX4, "isSign", "(I)Z"⟩
abbrev cX4_goesOn : ByteArray := prog_6_method_6_code
def yX4_goesOn : MethodName := ⟨RX4, "goesOn", "()Z"⟩
abbrev cX4_fail : ByteArray := prog_6_method_7_code
def yX4_fail : MethodName := ⟨RX4, "fail", "(I)V"⟩
abbrev cX4_isAtName : ByteArray := prog_6_method_8_code
def yX4_isAtName : MethodName := ⟨RX4, "isAtName", "()Z"⟩
abbrev cX4_isAtSign : ByteArray := prog_6_method_9_code
def yX4_isAtSign : MethodName := ⟨RX4, "isAtSign", "(I)Z"⟩
abbrev cX4_takeSign : ByteArray := prog_6_method_10_code
def yX4_takeSign : MethodName := ⟨RX4, "takeSign", "(I)V"⟩
abbrev cX4_takeComparison : ByteArray := prog_6_method_11_code
def yX4_takeComparison : MethodName := ⟨RX4, "takeComparison", "()I"⟩
abbrev cX4_takeNumber : ByteArray := prog_6_method_12_code
def yX4_takeNumber : MethodName := ⟨RX4, "takeNumber", "(II)I"⟩
abbrev cX4_takeRow : ByteArray := prog_6_method_13_code
def yX4_takeRow : MethodName := ⟨RX4, "takeRow", "(LBitRopes$State;I)I"⟩
abbrev cX4_lettersOfWord : ByteArray := prog_6_method_14_code
def yX4_lettersOfWord : MethodName := ⟨RX4, "lettersOfWord", "()I"⟩
abbrev cX4_letterOfWord : ByteArray := prog_6_method_15_code
def yX4_letterOfWord : MethodName := ⟨RX4, "letterOfWord", "(I)I"⟩
def RX5 : String := "BitRopes$Row"
def TX5 : u_T := fun k => match k with
  | 0 => ("BitRopes$Row", "bits", "[B", true)
  | 1 => ("BitRopes$Row", "leafSizes", "[I", true)
  | 2 => ("BitRopes$Row", "length", "I", false)
  | _ => ("BitRopes$Row", "leafCount", "I", false)
def tyX5 : Nat → FieldType := fun k => match k with
  | 0 => .array .byte
  | 1 => .array .int
  | 2 => .int
  | _ => .int
abbrev wsX50 : List Cond := u_ws RX5 TX5 4
theorem nmX5 : ∀ a, a < 4 → ∀ b, b < 4 → a ≠ b → (TX5 a).2.1 ≠ (TX5 b).2.1 := by decide +kernel
theorem tyX5_ok : ∀ k, k < 4 → parseFieldDescriptor (TX5 k).2.2.1 = some (tyX5 k) := by decide +kernel
abbrev cX5_init : ByteArray := prog_7_method_1_code
def yX5_init : MethodName := ⟨RX5, "<init>", "()V"⟩
abbrev cX5_clear : ByteArray := prog_7_method_2_code
def yX5_clear : MethodName := ⟨RX5, "clear", "()V"⟩
abbrev cX5_copyFrom : ByteArray := prog_7_method_3_code
def yX5_copyFrom : MethodName := ⟨RX5, "copyFrom", "(LBitRopes$Row;)V"⟩
abbrev cX5_hasGap : ByteArray := prog_7_method_4_code
def yX5_hasGap : MethodName := ⟨RX5, "hasGap", "(I)Z"⟩
abbrev cX5_hasRange : ByteArray := prog_7_method_5_code
def yX5_hasRange : MethodName := ⟨RX5, "hasRange", "(II)Z"⟩
abbrev cX5_bitAt : ByteArray := prog_7_method_6_code
def yX5_bitAt : MethodName := ⟨RX5, "bitAt", "(I)I"⟩
abbrev cX5_countIn : ByteArray := prog_7_method_7_code
def yX5_countIn : MethodName := ⟨RX5, "countIn", "(III)I"⟩
abbrev cX5_placeOf : ByteArray := prog_7_method_8_code
def yX5_placeOf : MethodName := ⟨RX5, "placeOf", "(II)I"⟩
abbrev cX5_nextPlace : ByteArray := prog_7_method_9_code
def yX5_nextPlace : MethodName := ⟨RX5, "nextPlace", "(II)I"⟩
abbrev cX5_runCount : ByteArray := prog_7_method_10_code
def yX5_runCount : MethodName := ⟨RX5, "runCount", "()I"⟩
abbrev cX5_longestRun : ByteArray := prog_7_method_11_code
def yX5_longestRun : MethodName := ⟨RX5, "longestRun", "(I)I"⟩
abbrev cX5_wordFrom : ByteArray := prog_7_method_12_code
def yX5_wordFrom : MethodName := ⟨RX5, "wordFrom", "(I)I"⟩
abbrev cX5_sumOfPlaces : ByteArray := prog_7_method_13_code
def yX5_sumOfPlaces : MethodName := ⟨RX5, "sumOfPlaces", "()I"⟩
abbrev cX5_unlikeBits : ByteArray := prog_7_method_14_code
def yX5_unlikeBits : MethodName := ⟨RX5, "unlikeBits", "(LBitRopes$Row;)I"⟩
abbrev cX5_firstUnlike : ByteArray := prog_7_method_15_code
def yX5_firstUnlike : MethodName := ⟨RX5, "firstUnlike", "(LBitRopes$Row;)I"⟩
abbrev cX5_beginsWith : ByteArray := prog_7_method_16_code
def yX5_beginsWith : MethodName := ⟨RX5, "beginsWith", "(LBitRopes$Row;)Z"⟩
abbrev cX5_hasAt : ByteArray := prog_7_method_17_code
def yX5_hasAt : MethodName := ⟨RX5, "hasAt", "(I[II)Z"⟩
abbrev cX5_leafStart : ByteArray := prog_7_method_18_code
def yX5_leafStart : MethodName := ⟨RX5, "leafStart", "(I)I"⟩
abbrev cX5_leafWith : ByteArray := prog_7_method_19_code
def yX5_leafWith : MethodName := ⟨RX5, "leafWith", "(I)I"⟩
abbrev cX5_insert : ByteArray := prog_7_method_20_code
def yX5_insert : MethodName := ⟨RX5, "insert", "(III)V"⟩
abbrev cX5_halveIfTooBig : ByteArray := prog_7_method_21_code
def yX5_halveIfTooBig : MethodName := ⟨RX5, "halveIfTooBig", "(II)V"⟩
abbrev cX5_remove : ByteArray := prog_7_method_22_code
def yX5_remove : MethodName := ⟨RX5, "remove", "(III)V"⟩
abbrev cX5_mergeWithNext : ByteArray := prog_7_method_23_code
def yX5_mergeWithNext : MethodName := ⟨RX5, "mergeWithNext", "(II)V"⟩
abbrev cX5_turnOver : ByteArray := prog_7_method_24_code
def yX5_turnOver : MethodName := ⟨RX5, "turnOver", "(II)V"⟩
abbrev cX5_append : ByteArray := prog_7_method_25_code
def yX5_append : MethodName := ⟨RX5, "append", "(LBitRopes$Row;II)V"⟩
def RX6 : String := "BitRopes$Script"
def TX6 : u_T := fun k => match k with
  | 0 => ("BitRopes$Script", "signs", "[B", true)
  | _ => ("BitRopes$Script", "length", "I", false)
def tyX6 : Nat → FieldType := fun k => match k with
  | 0 => .array .byte
  | _ => .int
abbrev wsX60 : List Cond := u_ws RX6 TX6 2
theorem nmX6 : ∀ a, a < 2 → ∀ b, b < 2 → a ≠ b → (TX6 a).2.1 ≠ (TX6 b).2.1 := by decide +kernel
theorem tyX6_ok : ∀ k, k < 2 → parseFieldDescriptor (TX6 k).2.2.1 = some (tyX6 k) := by decide +kernel
abbrev cX6_init : ByteArray := prog_8_method_1_code
def yX6_init : MethodName := ⟨RX6, "<init>", "()V"⟩
abbrev cX6_copyFrom : ByteArray := prog_8_method_2_code
def yX6_copyFrom : MethodName := ⟨RX6, "copyFrom", "(LBitRopes$Script;)V"⟩
abbrev cX6_signAt : ByteArray := prog_8_method_3_code
def yX6_signAt : MethodName := ⟨RX6, "signAt", "(I)I"⟩
abbrev cX6_hasRange : ByteArray := prog_8_method_4_code
def yX6_hasRange : MethodName := ⟨RX6, "hasRange", "(II)Z"⟩
abbrev cX6_countIn : ByteArray := prog_8_method_5_code
def yX6_countIn : MethodName := ⟨RX6, "countIn", "(III)I"⟩
abbrev cX6_placeOf : ByteArray := prog_8_method_6_code
def yX6_placeOf : MethodName := ⟨RX6, "placeOf", "(II)I"⟩
abbrev cX6_leastOf : ByteArray := prog_8_method_7_code
def yX6_leastOf : MethodName := ⟨RX6, "leastOf", "(III)I"⟩
abbrev cX6_nodeBit : ByteArray := prog_8_method_8_code
def yX6_nodeBit : MethodName := ⟨RX6, "nodeBit", "(II)I"⟩
abbrev cX6_insert : ByteArray := prog_8_method_9_code
def yX6_insert : MethodName := ⟨RX6, "insert", "(II)V"⟩
abbrev cX6_remove : ByteArray := prog_8_method_10_code
def yX6_remove : MethodName := ⟨RX6, "remove", "(II)V"⟩
def RX7 : String := "BitRopes$Sentence"
def TX7 : u_T := fun k => match k with
  | 0 => ("BitRopes$Sentence", "steps", "[LBitRopes$Word;", true)
  | 1 => ("BitRopes$Sentence", "signs", "[I", true)
  | 2 => ("BitRopes$Sentence", "numbers", "[I", true)
  | 3 => ("BitRopes$Sentence", "stack", "[Z", true)
  | 4 => ("BitRopes$Sentence", "stepCount", "I", false)
  | _ => ("BitRopes$Sentence", "ones", "I", false)
def tyX7 : Nat → FieldType := fun k => match k with
  | 0 => .array (.object "BitRopes$Word")
  | 1 => .array .int
  | 2 => .array .int
  | 3 => .array .boolean
  | 4 => .int
  | _ => .int
abbrev wsX70 : List Cond := u_ws RX7 TX7 6
theorem nmX7 : ∀ a, a < 6 → ∀ b, b < 6 → a ≠ b → (TX7 a).2.1 ≠ (TX7 b).2.1 := by decide +kernel
theorem tyX7_ok : ∀ k, k < 6 → parseFieldDescriptor (TX7 k).2.2.1 = some (tyX7 k) := by decide +kernel
abbrev cX7_init : ByteArray := prog_9_method_1_code
def yX7_init : MethodName := ⟨RX7, "<init>", "()V"⟩
abbrev cX7_clear : ByteArray := prog_9_method_2_code
def yX7_clear : MethodName := ⟨RX7, "clear", "()V"⟩
abbrev cX7_copyFrom : ByteArray := prog_9_method_3_code
def yX7_copyFrom : MethodName := ⟨RX7, "copyFrom", "(LBitRopes$Sentence;)V"⟩
abbrev cX7_readAll : ByteArray := prog_9_method_4_code
def yX7_readAll : MethodName := ⟨RX7, "readAll", "(LBitRopes$Reader;LBitRopes$State;)V"⟩
abbrev cX7_readCond : ByteArray := prog_9_method_5_code
def yX7_readCond : MethodName := ⟨RX7, "readCond", "(LBitRopes$Reader;LBitRopes$State;I)V"⟩
abbrev cX7_readOne : ByteArray := prog_9_method_6_code
def yX7_readOne : MethodName := ⟨RX7, "readOne", "(LBitRopes$Reader;LBitRopes$State;I)V"⟩
abbrev cX7_readPlain : ByteArray := prog_9_method_7_code
def yX7_readPlain : MethodName := ⟨RX7, "readPlain", "(LBitRopes$Reader;LBitRopes$State;LBitRopes$Word;)V"⟩
abbrev cX7_addStep : ByteArray := prog_9_method_8_code
def yX7_addStep : MethodName := ⟨RX7, "addStep", "(LBitRopes$Word;II)V"⟩
abbrev cX7_isTrueOf : ByteArray := prog_9_method_9_code
def yX7_isTrueOf : MethodName := ⟨RX7, "isTrueOf", "(LBitRopes$State;I)Z"⟩
abbrev cX7_isPlainTrue : ByteArray := prog_9_method_10_code
def yX7_isPlainTrue : MethodName := ⟨RX7, "isPlainTrue", "(ILBitRopes$State;I)Z"⟩
abbrev cX7_measure : ByteArray := prog_9_method_11_code
def yX7_measure : MethodName := ⟨RX7, "measure", "(LBitRopes$Word;LBitRopes$Row;I)I"⟩
def RX8 : String := "BitRopes$State"
def TX8 : u_T := fun k => match k with
  | 0 => ("BitRopes$State", "rows", "[LBitRopes$Row;", true)
  | 1 => ("BitRopes$State", "names", "[J", true)
  | 2 => ("BitRopes$State", "script", "LBitRopes$Script;", true)
  | 3 => ("BitRopes$State", "rowCount", "I", false)
  | 4 => ("BitRopes$State", "low", "I", false)
  | _ => ("BitRopes$State", "lettersTold", "Z", false)
def tyX8 : Nat → FieldType := fun k => match k with
  | 0 => .array (.object "BitRopes$Row")
  | 1 => .array .long
  | 2 => .object "BitRopes$Script"
  | 3 => .int
  | 4 => .int
  | _ => .boolean
abbrev wsX80 : List Cond := u_ws RX8 TX8 6
theorem nmX8 : ∀ a, a < 6 → ∀ b, b < 6 → a ≠ b → (TX8 a).2.1 ≠ (TX8 b).2.1 := by decide +kernel
theorem tyX8_ok : ∀ k, k < 6 → parseFieldDescriptor (TX8 k).2.2.1 = some (tyX8 k) := by decide +kernel
abbrev cX8_init : ByteArray := prog_10_method_1_code
def yX8_init : MethodName := ⟨RX8, "<init>", "()V"⟩
abbrev cX8_copyFrom : ByteArray := prog_10_method_2_code
def yX8_copyFrom : MethodName := ⟨RX8, "copyFrom", "(LBitRopes$State;)V"⟩
abbrev cX8_rowAt : ByteArray := prog_10_method_3_code
def yX8_rowAt : MethodName := ⟨RX8, "rowAt", "(I)LBitRopes$Row;"⟩
abbrev cX8_numberOf : ByteArray := prog_10_method_4_code
def yX8_numberOf : MethodName := ⟨RX8, "numberOf", "(J)I"⟩
abbrev cX8_allBits : ByteArray := prog_10_method_5_code
def yX8_allBits : MethodName := ⟨RX8, "allBits", "()I"⟩
abbrev cX8_readLines : ByteArray := prog_10_method_6_code
def yX8_readLines : MethodName := ⟨RX8, "readLines", "(LBitRopes$Reader;)I"⟩
abbrev cX8_readLeaf : ByteArray := prog_10_method_7_code
def yX8_readLeaf : MethodName := ⟨RX8, "readLeaf", "(LBitRopes$Reader;Z)V"⟩
abbrev cX8_readRow : ByteArray := prog_10_method_8_code
def yX8_readRow : MethodName := ⟨RX8, "readRow", "(LBitRopes$Reader;)V"⟩
abbrev cX8_readBits : ByteArray := prog_10_method_9_code
def yX8_readBits : MethodName := ⟨RX8, "readBits", "(LBitRopes$Reader;LBitRopes$Row;)V"⟩
abbrev cX8_readLetters : ByteArray := prog_10_method_10_code
def yX8_readLetters : MethodName := ⟨RX8, "readLetters", "(LBitRopes$Reader;)V"⟩
abbrev cX8_readLettersOfWord : ByteArray := prog_10_method_11_code
def yX8_readLettersOfWord : MethodName := ⟨RX8, "readLettersOfWord", "(LBitRopes$Reader;)V"⟩
abbrev cX8_whyNot : ByteArray := prog_10_method_12_code
def yX8_whyNot : MethodName := ⟨RX8, "whyNot", "(LBitRopes$Word;III)I"⟩
abbrev cX8_whyNotMoved : ByteArray := prog_10_method_13_code
def yX8_whyNotMoved : MethodName := ⟨RX8, "whyNotMoved", "(LBitRopes$Row;ILBitRopes$Row;)I"⟩
abbrev cX8_act : ByteArray := prog_10_method_14_code
def yX8_act : MethodName := ⟨RX8, "act", "(LBitRopes$Word;III)V"⟩
def RX9 : String := "BitRopes$Tree"
def TX9 : u_T := fun k => match k with
  | _ => ("", "", "", false)
def tyX9 : Nat → FieldType := fun k => match k with
  | _ => .int
abbrev wsX90 : List Cond := u_ws RX9 TX9 0
theorem nmX9 : ∀ a, a < 0 → ∀ b, b < 0 → a ≠ b → (TX9 a).2.1 ≠ (TX9 b).2.1 := by decide +kernel
theorem tyX9_ok : ∀ k, k < 0 → parseFieldDescriptor (TX9 k).2.2.1 = some (tyX9 k) := by decide +kernel
abbrev cX9_height : ByteArray := prog_11_method_2_code
def yX9_height : MethodName := ⟨RX9, "height", "(I)I"⟩
abbrev cX9_inner : ByteArray := prog_11_method_3_code
def yX9_inner : MethodName := ⟨RX9, "inner", "(I)I"⟩
abbrev cX9_mixed : ByteArray := prog_11_method_4_code
def yX9_mixed : MethodName := ⟨RX9, "mixed", "(I)I"⟩
abbrev cX9_triples : ByteArray := prog_11_method_5_code
def yX9_triples : MethodName := ⟨RX9, "triples", "(II)I"⟩
abbrev cX9_cost : ByteArray := prog_11_method_6_code
def yX9_cost : MethodName := ⟨RX9, "cost", "(LBitRopes$Row;)I"⟩
def RX10 : String := "BitRopes$Word"
def TX10 : u_T := fun k => match k with
  | _ => ("", "", "", false)
def tyX10 : Nat → FieldType := fun k => match k with
  | _ => .int
abbrev wsX100 : List Cond := u_ws RX10 TX10 0
theorem nmX10 : ∀ a, a < 0 → ∀ b, b < 0 → a ≠ b → (TX10 a).2.1 ≠ (TX10 b).2.1 := by decide +kernel
theorem tyX10_ok : ∀ k, k < 0 → parseFieldDescriptor (TX10 k).2.2.1 = some (tyX10 k) := by decide +kernel
abbrev cX10_withCode : ByteArray := prog_12_method_4_code
def yX10_withCode : MethodName := ⟨RX10, "withCode", "(J)LBitRopes$Word;"⟩
def RX11 : String := "BitRopes"
def TX11 : u_T := fun k => match k with
  | 0 => ("BitRopes", "tape", "[I", true)
  | 1 => ("BitRopes", "tapeSize", "I", false)
  | 2 => ("BitRopes", "reader", "LBitRopes$Reader;", true)
  | 3 => ("BitRopes", "now", "LBitRopes$State;", false)
  | 4 => ("BitRopes", "spare", "LBitRopes$State;", false)
  | 5 => ("BitRopes", "spoken", "LBitRopes$Sentence;", false)
  | 6 => ("BitRopes", "spareSpoken", "LBitRopes$Sentence;", false)
  | 7 => ("BitRopes", "lines", "LBitRopes$Book;", true)
  | 8 => ("BitRopes", "history", "LBitRopes$History;", true)
  | 9 => ("BitRopes", "imageStates", "[LBitRopes$State;", true)
  | 10 => ("BitRopes", "imageSentences", "[LBitRopes$Sentence;", true)
  | 11 => ("BitRopes", "found", "[I", true)
  | 12 => ("BitRopes", "foundCount", "I", false)
  | 13 => ("BitRopes", "latestFault", "I", false)
  | _ => ("BitRopes", "toldOf", "[I", true)
def tyX11 : Nat → FieldType := fun k => match k with
  | 0 => .array .int
  | 1 => .int
  | 2 => .object "BitRopes$Reader"
  | 3 => .object "BitRopes$State"
  | 4 => .object "BitRopes$State"
  | 5 => .object "BitRopes$Sentence"
  | 6 => .object "BitRopes$Sentence"
  | 7 => .object "BitRopes$Book"
  | 8 => .object "BitRopes$History"
  | 9 => .array (.object "BitRopes$State")
  | 10 => .array (.object "BitRopes$Sentence")
  | 11 => .array .int
  | 12 => .int
  | 13 => .int
  | _ => .array .int
abbrev wsX110 : List Cond := u_ws RX11 TX11 15
theorem nmX11 : ∀ a, a < 15 → ∀ b, b < 15 → a ≠ b → (TX11 a).2.1 ≠ (TX11 b).2.1 := by decide +kernel
theorem tyX11_ok : ∀ k, k < 15 → parseFieldDescriptor (TX11 k).2.2.1 = some (tyX11 k) := by decide +kernel
abbrev cX11_init : ByteArray := prog_1_method_1_code
def yX11_init : MethodName := ⟨RX11, "<init>", "()V"⟩
abbrev cX11_feed : ByteArray := prog_1_method_2_code
def yX11_feed : MethodName := ⟨RX11, "feed", "(IIIII)I"⟩
abbrev cX11_feedBytes : ByteArray := prog_1_method_3_code
def yX11_feedBytes : MethodName := ⟨RX11, "feedBytes", "(I)V"⟩
abbrev cX11_end : ByteArray := prog_1_method_4_code
def yX11_end : MethodName := ⟨RX11, "end", "(I)Z"⟩
abbrev cX11_room : ByteArray := prog_1_method_5_code
def yX11_room : MethodName := ⟨RX11, "room", "()I"⟩
abbrev cX11_closesWithFault : ByteArray := prog_1_method_6_code
def yX11_closesWithFault : MethodName := ⟨RX11, "closesWithFault", "()Z"⟩
abbrev cX11_swapStates : ByteArray := prog_1_method_7_code
def yX11_swapStates : MethodName := ⟨RX11, "swapStates", "()V"⟩
abbrev cX11_fault : ByteArray := prog_1_method_8_code
def yX11_fault : MethodName := ⟨RX11, "fault", "()I"⟩
abbrev cX11_size : ByteArray := prog_1_method_9_code
def yX11_size : MethodName := ⟨RX11, "size", "(I)I"⟩
abbrev cX11_bit : ByteArray := prog_1_method_10_code
def yX11_bit : MethodName := ⟨RX11, "bit", "(II)I"⟩
abbrev cX11_rank : ByteArray := prog_1_method_11_code
def yX11_rank : MethodName := ⟨RX11, "rank", "(III)I"⟩
abbrev cX11_isBit : ByteArray := prog_1_method_12_code
def yX11_isBit : MethodName := ⟨RX11, "isBit", "(I)Z"⟩
abbrev cX11_select : ByteArray := prog_1_method_13_code
def yX11_select : MethodName := ⟨RX11, "select", "(III)I"⟩
abbrev cX11_find : ByteArray := prog_1_method_14_code
def yX11_find : MethodName := ⟨RX11, "find", "(III)I"⟩
abbrev cX11_runs : ByteArray := prog_1_method_15_code
def yX11_runs : MethodName := ⟨RX11, "runs", "(I)I"⟩
abbrev cX11_longest : ByteArray := prog_1_method_16_code
def yX11_longest : MethodName := ⟨RX11, "longest", "(II)I"⟩
abbrev cX11_word : ByteArray := prog_1_method_17_code
def yX11_word : MethodName := ⟨RX11, "word", "(II)I"⟩
abbrev cX11_leaves : ByteArray := prog_1_method_18_code
def yX11_leaves : MethodName := ⟨RX11, "leaves", "(I)I"⟩
abbrev cX11_leaf : ByteArray := prog_1_method_19_code
def yX11_leaf : MethodName := ⟨RX11, "leaf", "(III)I"⟩
abbrev cX11_tree : ByteArray := prog_1_method_20_code
def yX11_tree : MethodName := ⟨RX11, "tree", "(II)I"⟩
abbrev cX11_dense : ByteArray := prog_1_method_21_code
def yX11_dense : MethodName := ⟨RX11, "dense", "(III)I"⟩
abbrev cX11_load : ByteArray := prog_1_method_22_code
def yX11_load : MethodName := ⟨RX11, "load", "(I)I"⟩
abbrev cX11_centre : ByteArray := prog_1_method_23_code
def yX11_centre : MethodName := ⟨RX11, "centre", "(II)I"⟩
abbrev cX11_apart : ByteArray := prog_1_method_24_code
def yX11_apart : MethodName := ⟨RX11, "apart", "(II)I"⟩
abbrev cX11_differ : ByteArray := prog_1_method_25_code
def yX11_differ : MethodName := ⟨RX11, "differ", "(II)I"⟩
abbrev cX11_seek : ByteArray := prog_1_method_26_code
def yX11_seek : MethodName := ⟨RX11, "seek", "(I)I"⟩
abbrev cX11_takeBitsOfTape : ByteArray := prog_1_method_27_code
def yX11_takeBitsOfTape : MethodName := ⟨RX11, "takeBitsOfTape", "(I)I"⟩
abbrev cX11_seekAt : ByteArray := prog_1_method_28_code
def yX11_seekAt : MethodName := ⟨RX11, "seekAt", "(I)I"⟩
abbrev cX11_put : ByteArray := prog_1_method_29_code
def yX11_put : MethodName := ⟨RX11, "put", "(III)I"⟩
abbrev cX11_does : ByteArray := prog_1_method_30_code
def yX11_does : MethodName := ⟨RX11, "does", "(LBitRopes$Word;III)I"⟩
abbrev cX11_set : ByteArray := prog_1_method_31_code
def yX11_set : MethodName := ⟨RX11, "set", "(III)I"⟩
abbrev cX11_cut : ByteArray := prog_1_method_32_code
def yX11_cut : MethodName := ⟨RX11, "cut", "(III)I"⟩
abbrev cX11_turn : ByteArray := prog_1_method_33_code
def yX11_turn : MethodName := ⟨RX11, "turn", "(III)I"⟩
abbrev cX11_paste : ByteArray := prog_1_method_34_code
def yX11_paste : MethodName := ⟨RX11, "paste", "(II)I"⟩
abbrev cX11_join : ByteArray := prog_1_method_35_code
def yX11_join : MethodName := ⟨RX11, "join", "(II)I"⟩
abbrev cX11_split : ByteArray := prog_1_method_36_code
def yX11_split : MethodName := ⟨RX11, "split", "(III)I"⟩
abbrev cX11_letters : ByteArray := prog_1_method_37_code
def yX11_letters : MethodName := ⟨RX11, "letters", "()I"⟩
abbrev cX11_letter : ByteArray := prog_1_method_38_code
def yX11_letter : MethodName := ⟨RX11, "letter", "(I)I"⟩
abbrev cX11_count : ByteArray := prog_1_method_39_code
def yX11_count : MethodName := ⟨RX11, "count", "(II)I"⟩
abbrev cX11_isLetter : ByteArray := prog_1_method_40_code
def yX11_isLetter : MethodName := ⟨RX11, "isLetter", "(I)Z"⟩
abbrev cX11_place : ByteArray := prog_1_method_41_code
def yX11_place : MethodName := ⟨RX11, "place", "(II)I"⟩
abbrev cX11_least : ByteArray := prog_1_method_42_code
def yX11_least : MethodName := ⟨RX11, "least", "(III)I"⟩
abbrev cX11_node : ByteArray := prog_1_method_43_code
def yX11_node : MethodName := ⟨RX11, "node", "(II)I"⟩
abbrev cX11_type : ByteArray := prog_1_method_44_code
def yX11_type : MethodName := ⟨RX11, "type", "(II)I"⟩
abbrev cX11_erase : ByteArray := prog_1_method_45_code
def yX11_erase : MethodName := ⟨RX11, "erase", "(II)I"⟩
abbrev cX11_undo : ByteArray := prog_1_method_46_code
def yX11_undo : MethodName := ⟨RX11, "undo", "()I"⟩
abbrev cX11_drawn : ByteArray := prog_1_method_47_code
def yX11_drawn : MethodName := ⟨RX11, "drawn", "(II)I"⟩
abbrev cX11_book : ByteArray := prog_1_method_48_code
def yX11_book : MethodName := ⟨RX11, "book", "(I)I"⟩
abbrev cX11_told : ByteArray := prog_1_method_49_code
def yX11_told : MethodName := ⟨RX11, "told", "(I)I"⟩
abbrev cX11_sentence : ByteArray := prog_1_method_50_code
def yX11_sentence : MethodName := ⟨RX11, "sentence", "()I"⟩
abbrev cX11_said : ByteArray := prog_1_method_51_code
def yX11_said : MethodName := ⟨RX11, "said", "(I)I"⟩
abbrev cX11_image : ByteArray := prog_1_method_52_code
def yX11_image : MethodName := ⟨RX11, "image", "(I)Z"⟩
abbrev cX11_restore : ByteArray := prog_1_method_53_code
def yX11_restore : MethodName := ⟨RX11, "restore", "(I)Z"⟩
abbrev cX11_total : ByteArray := prog_1_method_54_code
def yX11_total : MethodName := ⟨RX11, "total", "(I)I"⟩
def RX12 : String := "BitRopesModel"
def TX12 : u_T := fun k => match k with
  | 0 => ("BitRopesModel", "thrown", "I", false)
  | 1 => ("BitRopesModel", "tape", "[I", true)
  | 2 => ("BitRopesModel", "taped", "I", false)
  | 3 => ("BitRopesModel", "size", "I", false)
  | 4 => ("BitRopesModel", "limit", "I", false)
  | 5 => ("BitRopesModel", "to", "I", false)
  | 6 => ("BitRopesModel", "from", "I", false)
  | 7 => ("BitRopesModel", "kind", "I", false)
  | 8 => ("BitRopesModel", "number", "I", false)
  | 9 => ("BitRopesModel", "sign", "I", false)
  | 10 => ("BitRopesModel", "fault", "I", false)
  | 11 => ("BitRopesModel", "place", "I", false)
  | 12 => ("BitRopesModel", "word", "J", false)
  | 13 => ("BitRopesModel", "told", "I", false)
  | 14 => ("BitRopesModel", "now", "[I", true)
  | 15 => ("BitRopesModel", "read", "[I", true)
  | 16 => ("BitRopesModel", "kept", "[I", true)
  | 17 => ("BitRopesModel", "snaps", "[I", true)
  | 18 => ("BitRopesModel", "aside", "[I", true)
  | 19 => ("BitRopesModel", "then", "[I", true)
  | 20 => ("BitRopesModel", "name", "[J", true)
  | 21 => ("BitRopesModel", "readName", "[J", true)
  | 22 => ("BitRopesModel", "keptName", "[J", true)
  | 23 => ("BitRopesModel", "isKept", "[Z", true)
  | 24 => ("BitRopesModel", "snapMany", "I", false)
  | 25 => ("BitRopesModel", "hasLetters", "Z", false)
  | 26 => ("BitRopesModel", "power", "I", false)
  | 27 => ("BitRopesModel", "sought", "[I", true)
  | 28 => ("BitRopesModel", "soughtMany", "I", false)
  | 29 => ("BitRopesModel", "seed", "I", false)
  | 30 => ("BitRopesModel", "line", "[I", true)
  | 31 => ("BitRopesModel", "written", "[I", true)
  | 32 => ("BitRopesModel", "lineMany", "I", false)
  | 33 => ("BitRopesModel", "hasWritten", "Z", false)
  | 34 => ("BitRopesModel", "node", "[I", true)
  | 35 => ("BitRopesModel", "nodes", "I", false)
  | 36 => ("BitRopesModel", "onesMany", "I", false)
  | 37 => ("BitRopesModel", "within", "I", false)
  | _ => ("BitRopesModel", "top", "I", false)
def tyX12 : Nat → FieldType := fun k => match k with
  | 0 => .int
  | 1 => .array .int
  | 2 => .int
  | 3 => .int
  | 4 => .int
  | 5 => .int
  | 6 => .int
  | 7 => .int
  | 8 => .int
  | 9 => .int
  | 10 => .int
  | 11 => .int
  | 12 => .long
  | 13 => .int
  | 14 => .array .int
  | 15 => .array .int
  | 16 => .array .int
  | 17 => .array .int
  | 18 => .array .int
  | 19 => .array .int
  | 20 => .array .long
  | 21 => .array .long
  | 22 => .array .long
  | 23 => .array .boolean
  | 24 => .int
  | 25 => .boolean
  | 26 => .int
  | 27 => .array .int
  | 28 => .int
  | 29 => .int
  | 30 => .array .int
  | 31 => .array .int
  | 32 => .int
  | 33 => .boolean
  | 34 => .array .int
  | 35 => .int
  | 36 => .int
  | 37 => .int
  | _ => .int
abbrev wsX120 : List Cond := u_ws RX12 TX12 39
theorem nmX12 : ∀ a, a < 39 → ∀ b, b < 39 → a ≠ b → (TX12 a).2.1 ≠ (TX12 b).2.1 := by decide +kernel
theorem tyX12_ok : ∀ k, k < 39 → parseFieldDescriptor (TX12 k).2.2.1 = some (tyX12 k) := by decide +kernel
abbrev cX12_thrown : ByteArray := prog_14_method_1_code
def yX12_thrown : MethodName := ⟨RX12, "thrown", "()I"⟩
abbrev cX12_refuse : ByteArray := prog_14_method_2_code
def yX12_refuse : MethodName := ⟨RX12, "refuse", "()I"⟩
abbrev cX12_come : ByteArray := prog_14_method_3_code
def yX12_come : MethodName := ⟨RX12, "come", "(I)V"⟩
abbrev cX12_feed : ByteArray := prog_14_method_4_code
def yX12_feed : MethodName := ⟨RX12, "feed", "(IIIII)I"⟩
abbrev cX12_end : ByteArray := prog_14_method_5_code
def yX12_end : MethodName := ⟨RX12, "end", "(I)Z"⟩
abbrev cX12_take : ByteArray := prog_14_method_6_code
def yX12_take : MethodName := ⟨RX12, "take", "()I"⟩
abbrev cX12_isIn : ByteArray := prog_14_method_7_code
def yX12_isIn : MethodName := ⟨RX12, "isIn", "(III)Z"⟩
abbrev cX12_tapeAt : ByteArray := prog_14_method_9_code
def yX12_tapeAt : MethodName := ⟨RX12, "tapeAt", "(I)I"⟩
abbrev cX12_isDigit : ByteArray := prog_14_method_10_code
def yX12_isDigit : MethodName := ⟨RX12, "isDigit", "(I)Z"⟩
abbrev cX12_isLetter : ByteArray := prog_14_method_11_code
def yX12_isLetter : MethodName := ⟨RX12, "isLetter", "(I)Z"⟩
abbrev cX12_go : ByteArray := prog_14_method_12_code
def yX12_go : MethodName := ⟨RX12, "go", "()V"⟩
abbrev cX12_spelt : ByteArray := prog_14_method_13_code
def yX12_spelt : MethodName := ⟨RX12, "spelt", "(IIIIIII)J"⟩
abbrev cX12_wordOf : ByteArray := prog_14_method_14_code
def yX12_wordOf : MethodName := ⟨RX12, "wordOf", "(I)J"⟩
abbrev cX12_isWord : ByteArray := prog_14_method_15_code
def yX12_isWord : MethodName := ⟨RX12, "isWord", "(I)Z"⟩
abbrev cX12_isSign : ByteArray := prog_14_method_16_code
def yX12_isSign : MethodName := ⟨RX12, "isSign", "(I)Z"⟩
abbrev cX12_isName : ByteArray := prog_14_method_17_code
def yX12_isName : MethodName := ⟨RX12, "isName", "()Z"⟩
abbrev cX12_bad : ByteArray := prog_14_method_18_code
def yX12_bad : MethodName := ⟨RX12, "bad", "(I)Z"⟩
abbrev cX12_readNumber : ByteArray := prog_14_method_19_code
def yX12_readNumber : MethodName := ⟨RX12, "readNumber", "(II)Z"⟩
abbrev cX12_readEnd : ByteArray := prog_14_method_20_code
def yX12_readEnd : MethodName := ⟨RX12, "readEnd", "()Z"⟩
abbrev cX12_begin : ByteArray := prog_14_method_21_code
def yX12_begin : MethodName := ⟨RX12, "begin", "(I)V"⟩
abbrev cX12_init : ByteArray := prog_14_method_22_code
def yX12_init : MethodName := ⟨RX12, "<init>", "()V"⟩
abbrev cX12_startSo : ByteArray := prog_14_method_23_code
def yX12_startSo : MethodName := ⟨RX12, "startSo", "()V"⟩
abbrev cX12_findIn : ByteArray := prog_14_method_24_code
def yX12_findIn : MethodName := ⟨RX12, "findIn", "([JIJ)I"⟩
abbrev cX12_readLeaf : ByteArray := prog_14_method_25_code
def yX12_readLeaf : MethodName := ⟨RX12, "readLeaf", "(I)Z"⟩
abbrev cX12_areOf : ByteArray := prog_14_method_26_code
def yX12_areOf : MethodName := ⟨RX12, "areOf", "(I)Z"⟩
abbrev cX12_areBits : ByteArray := prog_14_method_27_code
def yX12_areBits : MethodName := ⟨RX12, "areBits", "()Z"⟩
abbrev cX12_readRow : ByteArray := prog_14_method_28_code
def yX12_readRow : MethodName := ⟨RX12, "readRow", "()Z"⟩
abbrev cX12_readLetters : ByteArray := prog_14_method_29_code
def yX12_readLetters : MethodName := ⟨RX12, "readLetters", "()Z"⟩
abbrev cX12_readLine : ByteArray := prog_14_method_30_code
def yX12_readLine : MethodName := ⟨RX12, "readLine", "(I)Z"⟩
abbrev cX12_room : ByteArray := prog_14_method_31_code
def yX12_room : MethodName := ⟨RX12, "room", "()I"⟩
abbrev cX12_fault : ByteArray := prog_14_method_32_code
def yX12_fault : MethodName := ⟨RX12, "fault", "()I"⟩
abbrev cX12_sizeOf : ByteArray := prog_14_method_33_code
def yX12_sizeOf : MethodName := ⟨RX12, "sizeOf", "(I)I"⟩
abbrev cX12_bitOf : ByteArray := prog_14_method_34_code
def yX12_bitOf : MethodName := ⟨RX12, "bitOf", "(II)I"⟩
abbrev cX12_leafAt : ByteArray := prog_14_method_35_code
def yX12_leafAt : MethodName := ⟨RX12, "leafAt", "(II)I"⟩
abbrev cX12_leafOf : ByteArray := prog_14_method_36_code
def yX12_leafOf : MethodName := ⟨RX12, "leafOf", "(II)I"⟩
abbrev cX12_splitLeaf : ByteArray := prog_14_method_37_code
def yX12_splitLeaf : MethodName := ⟨RX12, "splitLeaf", "(II)V"⟩
abbrev cX12_putBit : ByteArray := prog_14_method_38_code
def yX12_putBit : MethodName := ⟨RX12, "putBit", "(III)V"⟩
abbrev cX12_joinLeaves : ByteArray := prog_14_method_39_code
def yX12_joinLeaves : MethodName := ⟨RX12, "joinLeaves", "(II)V"⟩
abbrev cX12_takeBit : ByteArray := prog_14_method_40_code
def yX12_takeBit : MethodName := ⟨RX12, "takeBit", "(II)V"⟩
abbrev cX12_isRow : ByteArray := prog_14_method_41_code
def yX12_isRow : MethodName := ⟨RX12, "isRow", "(I)Z"⟩
abbrev cX12_isBit : ByteArray := prog_14_method_42_code
def yX12_isBit : MethodName := ⟨RX12, "isBit", "(I)Z"⟩
abbrev cX12_isThere : ByteArray := prog_14_method_43_code
def yX12_isThere : MethodName := ⟨RX12, "isThere", "(II)Z"⟩
abbrev cX12_onesIn : ByteArray := prog_14_method_44_code
def yX12_onesIn : MethodName := ⟨RX12, "onesIn", "(III)I"⟩
abbrev cX12_size : ByteArray := prog_14_method_45_code
def yX12_size : MethodName := ⟨RX12, "size", "(I)I"⟩
abbrev cX12_bit : ByteArray := prog_14_method_46_code
def yX12_bit : MethodName := ⟨RX12, "bit", "(II)I"⟩
abbrev cX12_rank : ByteArray := prog_14_method_47_code
def yX12_rank : MethodName := ⟨RX12, "rank", "(III)I"⟩
abbrev cX12_select : ByteArray := prog_14_method_48_code
def yX12_select : MethodName := ⟨RX12, "select", "(III)I"⟩
abbrev cX12_find : ByteArray := prog_14_method_49_code
def yX12_find : MethodName := ⟨RX12, "find", "(III)I"⟩
abbrev cX12_runsOf : ByteArray := prog_14_method_50_code
def yX12_runsOf : MethodName := ⟨RX12, "runsOf", "(I)I"⟩
abbrev cX12_runs : ByteArray := prog_14_method_51_code
def yX12_runs : MethodName := ⟨RX12, "runs", "(I)I"⟩
abbrev cX12_longest : ByteArray := prog_14_method_52_code
def yX12_longest : MethodName := ⟨RX12, "longest", "(II)I"⟩
abbrev cX12_word : ByteArray := prog_14_method_53_code
def yX12_word : MethodName := ⟨RX12, "word", "(II)I"⟩
abbrev cX12_leaves : ByteArray := prog_14_method_54_code
def yX12_leaves : MethodName := ⟨RX12, "leaves", "(I)I"⟩
abbrev cX12_leaf : ByteArray := prog_14_method_55_code
def yX12_leaf : MethodName := ⟨RX12, "leaf", "(III)I"⟩
abbrev cX12_highOf : ByteArray := prog_14_method_56_code
def yX12_highOf : MethodName := ⟨RX12, "highOf", "(I)I"⟩
abbrev cX12_mixedOf : ByteArray := prog_14_method_57_code
def yX12_mixedOf : MethodName := ⟨RX12, "mixedOf", "(I)I"⟩
abbrev cX12_innerOf : ByteArray := prog_14_method_58_code
def yX12_innerOf : MethodName := ⟨RX12, "innerOf", "(I)I"⟩
abbrev cX12_costOf : ByteArray := prog_14_method_59_code
def yX12_costOf : MethodName := ⟨RX12, "costOf", "(I)I"⟩
abbrev cX12_tree : ByteArray := prog_14_method_60_code
def yX12_tree : MethodName := ⟨RX12, "tree", "(II)I"⟩
abbrev cX12_firstBits : ByteArray := prog_14_method_61_code
def yX12_firstBits : MethodName := ⟨RX12, "firstBits", "(III)J"⟩
abbrev cX12_asFloat : ByteArray := prog_14_method_62_code
def yX12_asFloat : MethodName := ⟨RX12, "asFloat", "(II)I"⟩
abbrev cX12_asDouble : ByteArray := prog_14_method_63_code
def yX12_asDouble : MethodName := ⟨RX12, "asDouble", "(II)J"⟩
abbrev cX12_dense : ByteArray := prog_14_method_64_code
def yX12_dense : MethodName := ⟨RX12, "dense", "(III)I"⟩
abbrev cX12_load : ByteArray := prog_14_method_65_code
def yX12_load : MethodName := ⟨RX12, "load", "(I)I"⟩
abbrev cX12_centre : ByteArray := prog_14_method_66_code
def yX12_centre : MethodName := ⟨RX12, "centre", "(II)I"⟩
abbrev cX12_firstApart : ByteArray := prog_14_method_67_code
def yX12_firstApart : MethodName := ⟨RX12, "firstApart", "(II)I"⟩
abbrev cX12_apart : ByteArray := prog_14_method_68_code
def yX12_apart : MethodName := ⟨RX12, "apart", "(II)I"⟩
abbrev cX12_areLike : ByteArray := prog_14_method_69_code
def yX12_areLike : MethodName := ⟨RX12, "areLike", "(II)Z"⟩
abbrev cX12_differ : ByteArray := prog_14_method_70_code
def yX12_differ : MethodName := ⟨RX12, "differ", "(II)I"⟩
abbrev cX12_isOnTape : ByteArray := prog_14_method_71_code
def yX12_isOnTape : MethodName := ⟨RX12, "isOnTape", "(III)Z"⟩
abbrev cX12_areTapeBits : ByteArray := prog_14_method_72_code
def yX12_areTapeBits : MethodName := ⟨RX12, "areTapeBits", "(II)Z"⟩
abbrev cX12_seek : ByteArray := prog_14_method_73_code
def yX12_seek : MethodName := ⟨RX12, "seek", "(I)I"⟩
abbrev cX12_seekAt : ByteArray := prog_14_method_74_code
def yX12_seekAt : MethodName := ⟨RX12, "seekAt", "(I)I"⟩
abbrev cX12_isLetterAt : ByteArray := prog_14_method_75_code
def yX12_isLetterAt : MethodName := ⟨RX12, "isLetterAt", "(I)Z"⟩
abbrev cX12_letters : ByteArray := prog_14_method_76_code
def yX12_letters : MethodName := ⟨RX12, "letters", "()I"⟩
abbrev cX12_letter : ByteArray := prog_14_method_77_code
def yX12_letter : MethodName := ⟨RX12, "letter", "(I)I"⟩
abbrev cX12_count : ByteArray := prog_14_method_78_code
def yX12_count : MethodName := ⟨RX12, "count", "(II)I"⟩
abbrev cX12_place : ByteArray := prog_14_method_79_code
def yX12_place : MethodName := ⟨RX12, "place", "(II)I"⟩
abbrev cX12_least : ByteArray := prog_14_method_80_code
def yX12_least : MethodName := ⟨RX12, "least", "(III)I"⟩
abbrev cX12_isInNode : ByteArray := prog_14_method_81_code
def yX12_isInNode : MethodName := ⟨RX12, "isInNode", "(II)Z"⟩
abbrev cX12_node : ByteArray := prog_14_method_82_code
def yX12_node : MethodName := ⟨RX12, "node", "(II)I"⟩
abbrev cX12_save : ByteArray := prog_14_method_83_code
def yX12_save : MethodName := ⟨RX12, "save", "([II)V"⟩
abbrev cX12_comeBack : ByteArray := prog_14_method_84_code
def yX12_comeBack : MethodName := ⟨RX12, "comeBack", "([II)V"⟩
abbrev cX12_snap : ByteArray := prog_14_method_85_code
def yX12_snap : MethodName := ⟨RX12, "snap", "()V"⟩
abbrev cX12_areThere : ByteArray := prog_14_method_86_code
def yX12_areThere : MethodName := ⟨RX12, "areThere", "(III)Z"⟩
abbrev cX12_whyPut : ByteArray := prog_14_method_87_code
def yX12_whyPut : MethodName := ⟨RX12, "whyPut", "(III)I"⟩
abbrev cX12_refusal : ByteArray := prog_14_method_88_code
def yX12_refusal : MethodName := ⟨RX12, "refusal", "(IIII)I"⟩
abbrev cX12_live : ByteArray := prog_14_method_89_code
def yX12_live : MethodName := ⟨RX12, "live", "(IIII)V"⟩
abbrev cX12_moves : ByteArray := prog_14_method_90_code
def yX12_moves : MethodName := ⟨RX12, "moves", "(III)V"⟩
abbrev cX12_act : ByteArray := prog_14_method_91_code
def yX12_act : MethodName := ⟨RX12, "act", "(IIIIZ)I"⟩
abbrev cX12_put : ByteArray := prog_14_method_92_code
def yX12_put : MethodName := ⟨RX12, "put", "(III)I"⟩
abbrev cX12_set : ByteArray := prog_14_method_93_code
def yX12_set : MethodName := ⟨RX12, "set", "(III)I"⟩
abbrev cX12_cut : ByteArray := prog_14_method_94_code
def yX12_cut : MethodName := ⟨RX12, "cut", "(III)I"⟩
abbrev cX12_turn : ByteArray := prog_14_method_95_code
def yX12_turn : MethodName := ⟨RX12, "turn", "(III)I"⟩
abbrev cX12_paste : ByteArray := prog_14_method_96_code
def yX12_paste : MethodName := ⟨RX12, "paste", "(II)I"⟩
abbrev cX12_areTwo : ByteArray := prog_14_method_97_code
def yX12_areTwo : MethodName := ⟨RX12, "areTwo", "(II)Z"⟩
abbrev cX12_join : ByteArray := prog_14_method_98_code
def yX12_join : MethodName := ⟨RX12, "join", "(II)I"⟩
abbrev cX12_split : ByteArray := prog_14_method_99_code
def yX12_split : MethodName := ⟨RX12, "split", "(III)I"⟩
abbrev cX12_type : ByteArray := prog_14_method_100_code
def yX12_type : MethodName := ⟨RX12, "type", "(II)I"⟩
abbrev cX12_erase : ByteArray := prog_14_method_101_code
def yX12_erase : MethodName := ⟨RX12, "erase", "(II)I"⟩
abbrev cX12_undo : ByteArray := prog_14_method_102_code
def yX12_undo : MethodName := ⟨RX12, "undo", "()I"⟩
abbrev cX12_draw : ByteArray := prog_14_method_103_code
def yX12_draw : MethodName := ⟨RX12, "draw", "(I)I"⟩
abbrev cX12_doIf : ByteArray := prog_14_method_104_code
def yX12_doIf : MethodName := ⟨RX12, "doIf", "(IIII)Z"⟩
abbrev cX12_drawsDeed : ByteArray := prog_14_method_105_code
def yX12_drawsDeed : MethodName := ⟨RX12, "drawsDeed", "()Z"⟩
abbrev cX12_drawn : ByteArray := prog_14_method_106_code
def yX12_drawn : MethodName := ⟨RX12, "drawn", "(II)I"⟩
abbrev cX12_keep : ByteArray := prog_14_method_107_code
def yX12_keep : MethodName := ⟨RX12, "keep", "(IZ)Z"⟩
abbrev cX12_readRowName : ByteArray := prog_14_method_108_code
def yX12_readRowName : MethodName := ⟨RX12, "readRowName", "()Z"⟩
abbrev cX12_readOther : ByteArray := prog_14_method_109_code
def yX12_readOther : MethodName := ⟨RX12, "readOther", "(I)Z"⟩
abbrev cX12_readBookLine : ByteArray := prog_14_method_110_code
def yX12_readBookLine : MethodName := ⟨RX12, "readBookLine", "()Z"⟩
abbrev cX12_goBy : ByteArray := prog_14_method_111_code
def yX12_goBy : MethodName := ⟨RX12, "goBy", "(I)I"⟩
abbrev cX12_allBits : ByteArray := prog_14_method_112_code
def yX12_allBits : MethodName := ⟨RX12, "allBits", "()I"⟩
abbrev cX12_book : ByteArray := prog_14_method_113_code
def yX12_book : MethodName := ⟨RX12, "book", "(I)I"⟩
abbrev cX12_stay : ByteArray := prog_14_method_114_code
def yX12_stay : MethodName := ⟨RX12, "stay", "(Z)V"⟩
abbrev cX12_told : ByteArray := prog_14_method_115_code
def yX12_told : MethodName := ⟨RX12, "told", "(I)I"⟩
abbrev cX12_beginsWith : ByteArray := prog_14_method_116_code
def yX12_beginsWith : MethodName := ⟨RX12, "beginsWith", "(II)Z"⟩
abbrev cX12_onesOf : ByteArray := prog_14_method_117_code
def yX12_onesOf : MethodName := ⟨RX12, "onesOf", "(I)I"⟩
abbrev cX12_saysOne : ByteArray := prog_14_method_118_code
def yX12_saysOne : MethodName := ⟨RX12, "saysOne", "(IIII)I"⟩
abbrev cX12_readOr : ByteArray := prog_14_method_119_code
def yX12_readOr : MethodName := ⟨RX12, "readOr", "()Z"⟩
abbrev cX12_readAnd : ByteArray := prog_14_method_120_code
def yX12_readAnd : MethodName := ⟨RX12, "readAnd", "()Z"⟩
abbrev cX12_readSaid : ByteArray := prog_14_method_121_code
def yX12_readSaid : MethodName := ⟨RX12, "readSaid", "()Z"⟩
abbrev cX12_readNot : ByteArray := prog_14_method_122_code
def yX12_readNot : MethodName := ⟨RX12, "readNot", "()Z"⟩
abbrev cX12_readBracket : ByteArray := prog_14_method_123_code
def yX12_readBracket : MethodName := ⟨RX12, "readBracket", "()Z"⟩
abbrev cX12_readOf : ByteArray := prog_14_method_124_code
def yX12_readOf : MethodName := ⟨RX12, "readOf", "(I)Z"⟩
abbrev cX12_readCompare : ByteArray := prog_14_method_125_code
def yX12_readCompare : MethodName := ⟨RX12, "readCompare", "(I)Z"⟩
abbrev cX12_sentence : ByteArray := prog_14_method_126_code
def yX12_sentence : MethodName := ⟨RX12, "sentence", "()I"⟩
abbrev cX12_holds : ByteArray := prog_14_method_127_code
def yX12_holds : MethodName := ⟨RX12, "holds", "(II)Z"⟩
abbrev cX12_said : ByteArray := prog_14_method_128_code
def yX12_said : MethodName := ⟨RX12, "said", "(I)I"⟩
abbrev cX12_image : ByteArray := prog_14_method_129_code
def yX12_image : MethodName := ⟨RX12, "image", "(I)Z"⟩
abbrev cX12_restore : ByteArray := prog_14_method_130_code
def yX12_restore : MethodName := ⟨RX12, "restore", "(I)Z"⟩
abbrev cX12_total : ByteArray := prog_14_method_131_code
def yX12_total : MethodName := ⟨RX12, "total", "(I)I"⟩
def RJx145de : String := "java/io/Serializable"
def TJx145de : u_T := fun k => match k with
  | _ => ("", "", "", false)
def tyJx145de : Nat → FieldType := fun k => match k with
  | _ => .int
abbrev wsJx145de0 : List Cond := u_ws RJx145de TJx145de 0
theorem nmJx145de : ∀ a, a < 0 → ∀ b, b < 0 → a ≠ b → (TJx145de a).2.1 ≠ (TJx145de b).2.1 := by decide +kernel
theorem tyJx145de_ok : ∀ k, k < 0 → parseFieldDescriptor (TJx145de k).2.2.1 = some (tyJx145de k) := by decide +kernel
def RJx29ce0 : String := "java/lang/Enum"
def TJx29ce0 : u_T := fun k => match k with
  | _ => ("", "", "", false)
def tyJx29ce0 : Nat → FieldType := fun k => match k with
  | _ => .int
abbrev wsJx29ce00 : List Cond := u_ws RJx29ce0 TJx29ce0 0
theorem nmJx29ce0 : ∀ a, a < 0 → ∀ b, b < 0 → a ≠ b → (TJx29ce0 a).2.1 ≠ (TJx29ce0 b).2.1 := by decide +kernel
theorem tyJx29ce0_ok : ∀ k, k < 0 → parseFieldDescriptor (TJx29ce0 k).2.2.1 = some (tyJx29ce0 k) := by decide +kernel
def RJ9 : String := "java/lang/Math"
def TJ9 : u_T := fun k => match k with
  | _ => ("", "", "", false)
def tyJ9 : Nat → FieldType := fun k => match k with
  | _ => .int
abbrev wsJ90 : List Cond := u_ws RJ9 TJ9 0
theorem nmJ9 : ∀ a, a < 0 → ∀ b, b < 0 → a ≠ b → (TJ9 a).2.1 ≠ (TJ9 b).2.1 := by decide +kernel
theorem tyJ9_ok : ∀ k, k < 0 → parseFieldDescriptor (TJ9 k).2.2.1 = some (tyJ9 k) := by decide +kernel
abbrev cJ9_max_7cf53 : ByteArray := prog_18_method_65_code
def yJ9_max_7cf53 : MethodName := ⟨RJ9, "max", "(II)I"⟩
abbrev cJ9_min_7cf53 : ByteArray := prog_18_method_69_code
def yJ9_min_7cf53 : MethodName := ⟨RJ9, "min", "(II)I"⟩
def RJ0 : String := "java/lang/String"
def TJ0 : u_T := fun k => match k with
  | _ => ("", "", "", false)
def tyJ0 : Nat → FieldType := fun k => match k with
  | _ => .int
abbrev wsJ00 : List Cond := u_ws RJ0 TJ0 0
theorem nmJ0 : ∀ a, a < 0 → ∀ b, b < 0 → a ≠ b → (TJ0 a).2.1 ≠ (TJ0 b).2.1 := by decide +kernel
theorem tyJ0_ok : ∀ k, k < 0 → parseFieldDescriptor (TJ0 k).2.2.1 = some (tyJ0 k) := by decide +kernel
def RJ10 : String := "java/lang/System"
def TJ10 : u_T := fun k => match k with
  | _ => ("", "", "", false)
def tyJ10 : Nat → FieldType := fun k => match k with
  | _ => .int
abbrev wsJ100 : List Cond := u_ws RJ10 TJ10 0
theorem nmJ10 : ∀ a, a < 0 → ∀ b, b < 0 → a ≠ b → (TJ10 a).2.1 ≠ (TJ10 b).2.1 := by decide +kernel
theorem tyJ10_ok : ∀ k, k < 0 → parseFieldDescriptor (TJ10 k).2.2.1 = some (tyJ10 k) := by decide +kernel
def RL : String := "BitRopesLaw"
abbrev cL_word : ByteArray := method_3_code
def yL_word : MethodName := ⟨RL, "word", "(LBitRopes;II[J)I"⟩
abbrev cL_dense : ByteArray := method_4_code
def yL_dense : MethodName := ⟨RL, "dense", "(LBitRopes;III[J)I"⟩
abbrev cL_load : ByteArray := method_5_code
def yL_load : MethodName := ⟨RL, "load", "(LBitRopes;I[J)I"⟩
abbrev cL_centre : ByteArray := method_6_code
def yL_centre : MethodName := ⟨RL, "centre", "(LBitRopes;II[J)I"⟩
abbrev cL_law : ByteArray := code
def yL_law : MethodName := ⟨RL, "law", "([I)Z"⟩
abbrev vwCl : List vw_C := [(RX0, TX0, 6), (RX1, TX1, 1), (RX3, TX3, 3), (RX4, TX4, 12), (RX5, TX5, 4), (RX6, TX6, 2), (RX7, TX7, 6), (RX8, TX8, 6), (RX11, TX11, 15), (RX12, TX12, 39)]
end
section
/-! ===== BEGIN words of one list among another's, by their places ===== -/
theorem goodIn_r {big : List Cond} (ws : List Cond) (ps : List Nat) (hp : ws = ps.filterMap (fun i => big[i]?)) (h : ws.all goodWord = true) : GoodIn big ws := by
  intro w hw
  have h1 := List.all_eq_true.mp h w hw
  rw [hp] at hw
  obtain ⟨i, -, hi⟩ := List.mem_filterMap.mp hw
  have hm : w ∈ big := by first | exact List.mem_of_getElem? hi | exact List.getElem?_mem hi
  exact ⟨hm, good_of_word h1⟩
theorem goodIn_app {big a b : List Cond} (ha : GoodIn big a) (hb : GoodIn big b) : GoodIn big (a ++ b) := fun w h => (List.mem_append.mp h).elim (ha w) (hb w)
theorem goodIn_ca {big a b : List Cond} {c : Cond} (ha : GoodIn big (c :: a)) (hb : GoodIn big b) : GoodIn big (c :: (a ++ b)) := fun w h => (List.mem_cons.mp h).elim (fun e => ha w (List.mem_cons.mpr (Or.inl e))) (fun h => (List.mem_append.mp h).elim (fun h => ha w (List.mem_cons.mpr (Or.inr h))) (hb w))
theorem goodIn_sub {big ws : List Cond} (hm : ∀ w ∈ ws, w ∈ big) (h : ws.all goodWord = true) : GoodIn big ws := fun w hw => ⟨hm w hw, good_of_word (List.all_eq_true.mp h w hw)⟩
/-! ===== END ===== -/

/-! ===== BEGIN exceptions that leave a method, and their catching by the caller (launches without stack traces) ===== -/
section VXA
/-! The laws vx_back, vx_callV, vx_callS, vx_callSW, vx_throw0, vx_throwS follow proofs of the library, with one case more: JvmDerived/Free/Laws.lean (Back.of_free), Shelf42/LK1.lean (callV, callS), Shelf/KitTraced.lean (throwNew0V, throwNewS). -/
/-- where a method has thrown q: the class by its name, the cell, what was written, the world -/
def vx_T (XC : String → State → State → Prop) (st : State) (q : Addr) (t : State) (mc ms : Nat) (free : Addr → Prop) : Prop :=
  ∃ (E : String) (ce : Cell) (L : List Loc), XC E st t ∧ t.heap[q]? = some ce ∧ ce.vm = .none ∧ st.vm.findClass E = some ce.cls ∧ st.WarmedH t.vm ∧ st.sameButNew ({ t with vm := st.vm } : State) L mc ms ∧ ∀ z ∈ L, free z.base
def vx_Q (Qc : Array Value → State → Outcome → State → Prop) (XC : String → State → State → Prop) (mc ms : Nat) (free : Addr → Prop) : Array Value → State → Outcome → State → Prop := fun a st o t =>
  (Qc a st o t ∧ ∃ L, FrameEnd st o t L mc ms ∧ ∀ q ∈ L, free q.base) ∨ ∃ q, o = .threw q ∧ vx_T XC st q t mc ms free
/-- a callee that returns or throws -/
def vx_Met (l : Launch) (y : MethodName) (ws : List Cond) (rm : Room) (Pc : Array Value → State → Prop) (Qc : Array Value → State → Outcome → State → Prop) (XC : String → State → State → Prop) (mc ms : Nat) (free : Addr → Prop) : Prop :=
  MetFree l y (headSpec ws rm) Pc (fun _ _ _ _ _ => True) (vx_Q Qc XC mc ms free)
def vx_Post (XC : String → State → State → Prop) (mc ms : Nat) (free : Addr → Prop) : Pt → Array Value → Addr → Pt → Prop := fun A a q B =>
  ∃ (g : JFrame) (mk : MethodId) (t : State) (L : List Loc) (E : String) (ce : Cell), B.U.heap = t.heap ∧ B.U.vm = t.vm ∧ XC E (A.U.calling g mk a) t ∧ t.heap[q]? = some ce ∧ ce.vm = .none ∧ A.U.vm.findClass E = some ce.cls ∧ B.locs = A.locs ++ L ∧ (∀ z ∈ L, free z.base) ∧ B.cells = A.cells + mc ∧ B.slots = A.slots + ms
def vx_Back (l : Launch) (R : Room) (p : Program) (e : Env) (below : List Frame) (s : State) (sargs : Array Value) (y : MethodName) (len W9 : Nat)
    (Pre : Pt → Array Value → Prop) (Post : Pt → Array Value → Option Value → Pt → Prop) (PostX : Pt → Array Value → Addr → Pt → Prop) : Prop :=
  ∀ (m : MethodId) (meth : Method) (c : Code) (A : Pt) (g : JFrame) (ig : Instr) (mk : MethodId) (a : Array Value),
    Stand p l e R s m sargs below meth c A.U A.locs A.cells A.slots → g.method = m → g.locals.size = c.maxLocals → decode c.code g.pc = .ok (ig, len) →
    2 * g.monitorRoom + (g.stack.map fun v => v.category).sum ≤ W9 → A.U.methodNamed? y = some mk → Pre A a →
    (∃ (v : Option Value) (B : Pt), Stand p l e R s m sargs below meth c B.U B.locs B.cells B.slots ∧ Post A a v B ∧
      Steps p.tables e below (doInvoke e (A.U.setTop g) [] mk a).1 (B.U.setTop { g with pc := g.pc + len, stack := v.toList ++ g.stack })) ∨
    (∃ (q : Addr) (B : Pt), Stand p l e R s m sargs below meth c B.U B.locs B.cells B.slots ∧ PostX A a q B ∧
      Steps p.tables e below (doInvoke e (A.U.setTop g) [] mk a).1 ((B.U.setTop g).pushFrame (.throwing q)))
section Payer
variable {l : Launch} {R : Room} {p : Program} {e : Env} {below : List Frame} {s : State} {sargs : Array Value} {y : MethodName} {len W9 : Nat}
theorem vx_back {ws : List Cond} {rm : Room} {Pc : Array Value → State → Prop} {Qc : Array Value → State → Outcome → State → Prop} {XC : String → State → State → Prop} {mc ms : Nat} {free : Addr → Prop} {bytes : ByteArray} {maxL : Nat} {ret : Option FieldType}
    (hM : vx_Met l y ws rm Pc Qc XC mc ms free) (hblind : FrameBlind Pc) (hrc : rm.cells = mc) (hrs : rm.slots = ms)
    (hframes : rm.frames + 1 ≤ R.frames) (hlocals : W9 + (maxL + 11) + rm.locals ≤ R.locals)
    (hws : ∀ w ∈ ws, ∀ a' U, s.WarmedH U.vm → w.before a' U = true) (hcode : Cond.code y bytes maxL ret ∈ ws) (hinit : ∀ a' U, s.WarmedH U.vm → (Cond.initialized y.cls).before a' U = true) :
    vx_Back l R p e below s sargs y len W9 (PreOf R mc ms Pc) (PostOf Qc mc ms free) (vx_Post XC mc ms free) := by
  intro m meth c A g ig mk a X hg hsize hdg hW hn hp
  have h1 : (headSpec ws rm).pre.before a A.U = true := atoms_intro fun w hw => hws w hw _ _ X.warmed
  have h2 : (Cond.code y bytes maxL ret).before a A.U = true := hws _ hcode _ _ X.warmed
  have h3 : (Cond.initialized y.cls).before a A.U = true := hinit _ _ X.warmed
  have h4 : A.cells + (headSpec ws rm).room.cells ≤ R.cells := by rw [show (headSpec ws rm).room.cells = mc from hrc]; exact hp.1
  have h5 : A.slots + (headSpec ws rm).room.slots ≤ R.slots := by rw [show (headSpec ws rm).room.slots = ms from hrs]; exact hp.2.1
  have hPc : Pc a (A.U.calling g mk a) := hblind _ _ _ _ hp.2.2
  obtain ⟨U, Ls, c0, s0⟩ := A
  dsimp only [Pt.U, Pt.locs, Pt.cells, Pt.slots] at h1 h2 h3 h4 h5 X hn hPc ⊢
  obtain ⟨methY, cY, hmY, hcY, -, hlY, -, -, -, -⟩ := Cond.code_spec hn h2
  obtain ⟨kY, hkY, -⟩ := className_of_methodNamed hn
  have hinitY : kY.init = .initialized := Cond.initialized_spec (findClass_of_methodNamed hn) hkY h3
  have h : At U g.method c below := by rw [hg]; exact X.here
  have hlocals9 : W9 + (maxL + 11) + (headSpec ws rm).room.locals ≤ R.locals := hlocals
  have happ : (headSpec ws rm).appliesLoose y e.platform (U.calling g mk a) = true :=
    Spec.appliesLoose_calling (g := g) h hdg hn hkY hinitY
      (X.room_calling (g := g) (R' := (headSpec ws rm).room) hsize hmY hcY hframes (by rw [hlY]; omega) h4 h5) h1
  obtain ⟨mid, hmid⟩ := h.above
  have hfr : (U.setTop g).frames = (.java g :: mid) ++ below := by rw [State.frames_setTop' g h.top, hmid]; rfl
  obtain ⟨o, s₂, hsteps, -, hend, hq⟩ := Steps.callFree hM p X.admits X.cas X.clock (acts := []) hfr happ hPc trivial
  have hq' : vx_Q Qc XC mc ms free a (U.calling g mk a) o s₂ := hq
  rw [State.frames_setTop' g h.top] at hend
  obtain ⟨g₀, hg0⟩ := Option.isSome_iff_exists.mp h.top
  obtain ⟨r, hr⟩ := State.topJava?_eq_some.mp hg0
  have hr' : (({ U with heap := s₂.heap, slotsUsed := s₂.slotsUsed } : State).setVm s₂.vm).frames = .java g₀ :: r := hr
  rcases hq' with ⟨hqc, L, hfe, hL⟩ | ⟨q, rfl, E, ce, L, hx, hce, hcv, hcl, hW₂, hsm, hL⟩
  · obtain ⟨⟨v, rfl⟩, hW₂, e2, q2, q3, q4, q5, q6⟩ := id hfe
    have e3 : s₂ = ({ (U.calling g mk a).setFrames s₂.frames with heap := s₂.heap, slotsUsed := s₂.slotsUsed } : State).setVm s₂.vm := by
      have : s₂ = ({ s₂ with vm := (U.calling g mk a).vm } : State).setVm s₂.vm := rfl
      rw [e2] at this
      exact this
    obtain ⟨c₂, i₂, len₂, hc₂, hd₂, hf₂⟩ := hend
    have hW' : U.WarmedH s₂.vm := hW₂
    have hcc : c₂ = c := by
      have h1 : s₂.code? g.method = U.code? g.method := by
        rw [State.code?_eq, State.code?_eq, hW'.alike.method?]
      exact Option.some.inj (hc₂.symm.trans (h1.trans h.code))
    subst hcc
    have hlen : len₂ = len := by rw [hdg] at hd₂; cases hd₂; rfl
    subst hlen
    have hs₂ : s₂ = (({ U with heap := s₂.heap, slotsUsed := s₂.slotsUsed } : State).setVm s₂.vm).setTop { g with pc := g.pc + len₂, stack := v.toList ++ g.stack } := by
      refine e3.trans ?_
      rw [hf₂, State.calling_eq h.top, State.setFrames_setFrames, State.setTop_of_frames _ hr', hr]
      rfl
    have hsame : U.sameButNew ({ U with heap := s₂.heap, slotsUsed := s₂.slotsUsed } : State) L mc ms := by
      refine ⟨?_, q2, q3, q4, q5, q6⟩
      obtain ⟨t, ht, -⟩ := State.frames_cons hr
      show ({ U with heap := s₂.heap, slotsUsed := s₂.slotsUsed } : State) = { U.setFrames U.frames with heap := s₂.heap, slotsUsed := s₂.slotsUsed }
      rw [State.setFrames_self ht]
    subst hg
    refine Or.inl ⟨v, ⟨(({ U with heap := s₂.heap, slotsUsed := s₂.slotsUsed } : State).setVm s₂.vm), Ls ++ L, c0 + mc, s0 + ms⟩,
      ⟨X.admits, X.cas, X.clock, X.frames, X.room, X.hears, X.method, X.code, (X.here.setHeapUsed s₂.heap s₂.slotsUsed).setVm hW'.alike, X.tail, State.WarmedH.trans X.warmed hW', X.limits, X.bytes, X.same.trans (hsame.setVm s.vm)⟩,
      ⟨g, mk, s₂, L, rfl, rfl, hqc, rfl, hL, rfl, rfl⟩, ?_⟩
    show Steps p.tables e below _ ((({ U with heap := s₂.heap, slotsUsed := s₂.slotsUsed } : State).setVm s₂.vm).setTop { g with pc := g.pc + len₂, stack := v.toList ++ g.stack })
    rw [← hs₂]
    exact hsteps
  · obtain ⟨e2, q2, q3, q4, q5, q6⟩ := id hsm
    have e3 : s₂ = ({ (U.calling g mk a).setFrames s₂.frames with heap := s₂.heap, slotsUsed := s₂.slotsUsed } : State).setVm s₂.vm := by
      have : s₂ = ({ s₂ with vm := (U.calling g mk a).vm } : State).setVm s₂.vm := rfl
      rw [e2] at this
      exact this
    have hf₂ : s₂.frames = .throwing q :: .java g :: U.frames.tail := hend
    have hW' : U.WarmedH s₂.vm := hW₂
    have hs₂ : s₂ = ((({ U with heap := s₂.heap, slotsUsed := s₂.slotsUsed } : State).setVm s₂.vm).setTop g).pushFrame (.throwing q) := by
      refine e3.trans ?_
      rw [hf₂, State.calling_eq h.top, State.setFrames_setFrames, State.pushFrame, State.frames_setTop _ hr', State.setTop_of_frames _ hr', State.setFrames_setFrames, hr]
      rfl
    have hsame : U.sameButNew ({ U with heap := s₂.heap, slotsUsed := s₂.slotsUsed } : State) L mc ms := by
      refine ⟨?_, q2, q3, q4, q5, q6⟩
      obtain ⟨t, ht, -⟩ := State.frames_cons hr
      show ({ U with heap := s₂.heap, slotsUsed := s₂.slotsUsed } : State) = { U.setFrames U.frames with heap := s₂.heap, slotsUsed := s₂.slotsUsed }
      rw [State.setFrames_self ht]
    subst hg
    refine Or.inr ⟨q, ⟨(({ U with heap := s₂.heap, slotsUsed := s₂.slotsUsed } : State).setVm s₂.vm), Ls ++ L, c0 + mc, s0 + ms⟩,
      ⟨X.admits, X.cas, X.clock, X.frames, X.room, X.hears, X.method, X.code, (X.here.setHeapUsed s₂.heap s₂.slotsUsed).setVm hW'.alike, X.tail, State.WarmedH.trans X.warmed hW', X.limits, X.bytes, X.same.trans (hsame.setVm s.vm)⟩,
      ⟨g, mk, s₂, L, E, ce, rfl, rfl, hx, hce, hcv, hcl, rfl, hL, rfl, rfl⟩, ?_⟩
    show Steps p.tables e below _ (((({ U with heap := s₂.heap, slotsUsed := s₂.slotsUsed } : State).setVm s₂.vm).setTop g).pushFrame (.throwing q))
    rw [← hs₂]
    exact hsteps
end Payer
section Calls
variable {p : Program} {l : Launch} {e : Env} {R : Room} {s : State} {m : MethodId} {args : Array Value} {below : List Frame} {meth : Method} {c : Code} {T : State} {locs : List Loc} {cells slots : Nat}
theorem vx_callV (X : Stand p l e R s m args below meth c T locs cells slots) (hexec : p.tables.exec = Jvm.exec) {own C : String} {index : Nat} {y : MethodName} {bytes : ByteArray} {maxL : Nat} {ret : Option FieldType}
    (hown : s.vm.findClass own = some m.cls) (hlink : (Cond.methodLink own index y).before args s = true) (hinst : (Cond.instanceMethod y).before args s = true) (hsel : (Cond.selects C y y).before args s = true)
    (hcode : (Cond.code y bytes maxL ret).before args s = true) (hy : y.cls ≠ "java/lang/invoke/MethodHandle" ∧ y.cls ≠ "java/lang/invoke/VarHandle")
    {W9 : Nat} {Pre : Pt → Array Value → Prop} {Post : Pt → Array Value → Option Value → Pt → Prop} {PostX : Pt → Array Value → Addr → Pt → Prop} (hK : vx_Back l R p e below s args y 3 W9 Pre Post PostX)
    {b : Addr} {cellB : Cell} (hcell : T.heap[b]? = some cellB) (hobj : cellB.vm.isStatics = false) (hcls : s.vm.findClass C = some cellB.cls)
    {g : JFrame} (hg : g.method = m) (hsize : g.locals.size = c.maxLocals) {argsL rest : List Value} (hlen : ∀ sig, parseMethodDescriptor y.desc = some sig → argsL.length = sig.parameters.length)
    (hstack : g.stack = argsL.reverse ++ .ref b :: rest) (hW : 2 * g.monitorRoom + (rest.map fun v => v.category).sum ≤ W9) (hdg : decode c.code g.pc = .ok (.invokevirtual index, 3))
    (hpre : ∀ vm₁, s.WarmedH vm₁ → Pre ⟨T.setVm vm₁, locs, cells, slots⟩ (Value.ref b :: argsL).toArray) :
    (∃ (v : Option Value) (vm₁ : Vm) (B : Pt), s.WarmedH vm₁ ∧ Stand p l e R s m args below meth c B.U B.locs B.cells B.slots ∧ Post ⟨T.setVm vm₁, locs, cells, slots⟩ (Value.ref b :: argsL).toArray v B ∧
      ∀ target, Steps p.tables e below (B.U.setTop { g with pc := g.pc + 3, stack := v.toList ++ rest }) target → Steps p.tables e below (T.setTop g) target) ∨
    (∃ (q : Addr) (vm₁ : Vm) (B : Pt), s.WarmedH vm₁ ∧ Stand p l e R s m args below meth c B.U B.locs B.cells B.slots ∧ PostX ⟨T.setVm vm₁, locs, cells, slots⟩ (Value.ref b :: argsL).toArray q B ∧
      Steps p.tables e below (T.setTop g) ((B.U.setTop { g with stack := rest }).pushFrame (.throwing q))) := by
  obtain ⟨mk, methM, hnamed, hmethM, hstM, habM⟩ := Cond.instanceMethod_spec hinst
  obtain ⟨methM', cM, hmethM', -, -, -, -, -, -, hsigM⟩ := Cond.code_spec hnamed hcode
  cases hmethM.symm.trans hmethM'
  obtain ⟨c2, r2, m2, q1, q2, q3, q4, kP, hkP, hkPi⟩ := Cond.selects_spec hsel
  cases hcls.symm.trans q1
  cases (State.methodFound?_of_named hnamed hy).symm.trans q2
  cases hnamed.symm.trans q3
  have hselP : selectMethod e.platform s.vm cellB.cls mk = .method mk := by rw [Launch.admits_selectMethod X.admits]; exact q4
  obtain ⟨vm₁, X₁, hstep₁⟩ := X.invokevirtual hexec hown hlink hnamed hmethM hstM hkP hkPi hy (a := b) (cell := cellB) hcell
    (fun z h => by rw [h] at hobj; cases hobj) hselP hmethM habM hkP hkPi (g := g) hg (argsL := argsL) (rest := rest) (hlen _ hsigM) hstack hdg
  rcases hK m meth c ⟨T.setVm vm₁, locs, cells, slots⟩ { g with stack := rest } (.invokevirtual index) mk (Value.ref b :: argsL).toArray X₁ hg hsize hdg hW (X₁.named hnamed) (hpre vm₁ X₁.warmed) with ⟨v, B, X', hpost, hsteps⟩ | ⟨q, B, X', hpost, hsteps⟩
  · exact Or.inl ⟨v, vm₁, B, X₁.warmed, X', hpost, fun target h => hstep₁ _ fun acts => by rw [doInvoke_state]; exact hsteps.trans h⟩
  · exact Or.inr ⟨q, vm₁, B, X₁.warmed, X', hpost, hstep₁ _ fun acts => by rw [doInvoke_state]; exact hsteps⟩
theorem vx_callS (X : Stand p l e R s m args below meth c T locs cells slots) (hexec : p.tables.exec = Jvm.exec) {own : String} {index : Nat} {y : MethodName} {bytes : ByteArray} {maxL : Nat} {ret : Option FieldType}
    (hown : s.vm.findClass own = some m.cls) (hlink : (Cond.methodLink own index y).before args s = true) (hstat : (Cond.static y).before args s = true) (hinit : (Cond.initialized y.cls).before args s = true)
    (hcode : (Cond.code y bytes maxL ret).before args s = true) (hy : y.cls ≠ "java/lang/invoke/MethodHandle" ∧ y.cls ≠ "java/lang/invoke/VarHandle")
    {W9 : Nat} {Pre : Pt → Array Value → Prop} {Post : Pt → Array Value → Option Value → Pt → Prop} {PostX : Pt → Array Value → Addr → Pt → Prop} (hK : vx_Back l R p e below s args y 3 W9 Pre Post PostX)
    {g : JFrame} (hg : g.method = m) (hsize : g.locals.size = c.maxLocals) {argsL rest : List Value} (hlen : ∀ sig, parseMethodDescriptor y.desc = some sig → argsL.length = sig.parameters.length)
    (hstack : g.stack = argsL.reverse ++ rest) (hW : 2 * g.monitorRoom + (rest.map fun v => v.category).sum ≤ W9) (hdg : decode c.code g.pc = .ok (.invokestatic index, 3))
    (hpre : ∀ vm₁, s.WarmedH vm₁ → Pre ⟨T.setVm vm₁, locs, cells, slots⟩ argsL.toArray) :
    (∃ (v : Option Value) (vm₁ : Vm) (B : Pt), s.WarmedH vm₁ ∧ Stand p l e R s m args below meth c B.U B.locs B.cells B.slots ∧ Post ⟨T.setVm vm₁, locs, cells, slots⟩ argsL.toArray v B ∧
      ∀ target, Steps p.tables e below (B.U.setTop { g with pc := g.pc + 3, stack := v.toList ++ rest }) target → Steps p.tables e below (T.setTop g) target) ∨
    (∃ (q : Addr) (vm₁ : Vm) (B : Pt), s.WarmedH vm₁ ∧ Stand p l e R s m args below meth c B.U B.locs B.cells B.slots ∧ PostX ⟨T.setVm vm₁, locs, cells, slots⟩ argsL.toArray q B ∧
      Steps p.tables e below (T.setTop g) ((B.U.setTop { g with stack := rest }).pushFrame (.throwing q))) := by
  obtain ⟨mk, hnamed⟩ := Cond.code_named hcode
  obtain ⟨methM, cM, hmethM, -, -, -, -, -, -, hsigM⟩ := Cond.code_spec hnamed hcode
  have hstatic : methM.isStatic = true := Cond.static_spec hnamed hmethM hstat
  obtain ⟨kP, hkP, -⟩ := className_of_methodNamed hnamed
  have hinitP : kP.init = .initialized := Cond.initialized_spec (findClass_of_methodNamed hnamed) hkP hinit
  obtain ⟨vm₁, X₁, hstep₁⟩ := X.invokestatic hexec hown hlink hnamed hmethM hstatic hkP hinitP hy (g := g) hg (argsL := argsL) (rest := rest) (hlen _ hsigM) hstack hdg
  rcases hK m meth c ⟨T.setVm vm₁, locs, cells, slots⟩ { g with stack := rest } (.invokestatic index) mk argsL.toArray X₁ hg hsize hdg hW (X₁.named hnamed) (hpre vm₁ X₁.warmed) with ⟨v, B, X', hpost, hsteps⟩ | ⟨q, B, X', hpost, hsteps⟩
  · exact Or.inl ⟨v, vm₁, B, X₁.warmed, X', hpost, fun target h => hstep₁ _ fun acts => by rw [doInvoke_state]; exact hsteps.trans h⟩
  · exact Or.inr ⟨q, vm₁, B, X₁.warmed, X', hpost, hstep₁ _ fun acts => by rw [doInvoke_state]; exact hsteps⟩
end Calls
theorem vx_cls {s : State} {T : State} {vm₁ : Vm} {E : String} {k : ClassId} (hW : s.WarmedH vm₁) (h : (T.setVm vm₁).vm.findClass E = some k) : s.vm.findClass E = some k := by
  have h1 : vm₁.findClass E = some k := h
  rw [hW.alike.findClass] at h1
  exact h1
/-- the method's frame g, with q thrown over it -/
def vx_W (p : Program) (l : Launch) (e : Env) (R : Room) (s : State) (m : MethodId) (args : Array Value) (below : List Frame) (meth : Method) (c : Code) (H : Heap) (locs : List Loc) (cells slots : Nat) (Q : State → Prop) (g : JFrame) (q : Addr) : Prop :=
  ∀ T : State, T.heap = H → Stand p l e R s m args below meth c T locs cells slots → ∃ t, Steps p.tables e below ((T.setTop g).pushFrame (.throwing q)) t ∧ Q t
def vx_Run (p : Program) (l : Launch) (e : Env) (R : Room) (s : State) (m : MethodId) (args : Array Value) (below : List Frame) (meth : Method) (c : Code) (H : Heap) (locs : List Loc) (cells slots mc ms : Nat) (g : JFrame) (rest : List Value) (Qa : State → Outcome → State → Prop) (XC : String → State → State → Prop) (free : Addr → Prop) : Prop :=
  ∀ T : State, T.heap = H → Stand p l e R s m args below meth c T locs cells slots →
    (∃ (v : Option Value) (st₀ t T' : State) (L : List Loc), st₀.heap = H ∧ Stand p l e R s m args below meth c T' (locs ++ L) (cells + mc) (slots + ms) ∧ (∀ q ∈ L, free q.base) ∧ T'.heap = t.heap ∧ T'.vm = t.vm ∧ Qa st₀ (.returned v) t ∧
      Goes p e below T g T' { g with pc := g.pc + 3, stack := v.toList ++ rest }) ∨
    (∃ (q : Addr) (st₀ t T' : State) (L : List Loc) (E : String) (ce : Cell), st₀.heap = H ∧ Stand p l e R s m args below meth c T' (locs ++ L) (cells + mc) (slots + ms) ∧ (∀ z ∈ L, free z.base) ∧ T'.heap = t.heap ∧ T'.vm = t.vm ∧ XC E st₀ t ∧ t.heap[q]? = some ce ∧ ce.vm = .none ∧ s.vm.findClass E = some ce.cls ∧
      Steps p.tables e below (T.setTop g) ((T'.setTop { g with stack := rest }).pushFrame (.throwing q)))
def vx_X {S : Type} (px : S → Prop) (B : String → S → State → Prop) (A : Nat → Prop) : String → State → State → Prop := fun E st t => ∃ u : S, px u ∧ B E u t ∧ va_F A st t
section Runs
variable {p : Program} {l : Launch} {e : Env} {R : Room} {s : State} {m : MethodId} {args : Array Value} {below : List Frame} {meth : Method} {c : Code} {H : Heap} {locs : List Loc} {cells slots : Nat}
variable {y : MethodName} {bytes cc : ByteArray} {maxL nL mc ms n index : Nat} {ret : Option FieldType} {ws : List Cond} {rm : Room} {Pc : Array Value → State → Prop} {Qc : Array Value → State → Outcome → State → Prop} {XC : String → State → State → Prop} {free : Addr → Prop} {Ts : List Cond} {own C : String} {b : Addr} {As rest : List Value} {g : JFrame}
theorem vx_callBack (cb : CallB R s args own index y bytes maxL ret ws rm mc ms n) (hM : vx_Met l y ws rm Pc Qc XC mc ms free) (hbl : FrameBlind Pc) : vx_Back l R p e below s args y 3 8 (PreOf R mc ms Pc) (PostOf Qc mc ms free) (vx_Post XC mc ms free) := by
  obtain ⟨hrc, hrs, hfr, hlo, hws, hcw, -, hini, -⟩ := cb
  exact vx_back (bytes := bytes) (maxL := maxL) (ret := ret) hM hbl hrc hrs hfr hlo hws hcw (fun a' U hW => word_at hW (Or.inl (by first | rfl | simp [Cond.onTables, Cond.keeps, Cond.steady])) hini)
theorem vx_runV (S : CallFix p m c cc nL s args Ts own) (hM : vx_Met l y ws rm Pc Qc XC mc ms free) (cw : CallW R s args own C index y bytes maxL ret ws rm mc ms n) (hp : PreV s H C b Pc As)
    (hg : g.method = m) (hn : As.length = n) (hsize : g.locals.size = nL) (hstack : g.stack = As.reverse ++ .ref b :: rest) (hW : 2 * g.monitorRoom + (rest.map fun v => v.category).sum ≤ 8) (hdg : decode cc g.pc = .ok (.invokevirtual index, 3)) (hf : cells + mc ≤ R.cells ∧ slots + ms ≤ R.slots) :
    vx_Run p l e R s m args below meth c H locs cells slots mc ms g rest (Qc (Value.ref b :: As).toArray) XC free := by
  have hK : vx_Back l R p e below s args y 3 8 (PreOf R mc ms Pc) (PostOf Qc mc ms free) (vx_Post XC mc ms free) := vx_callBack cw.1 hM hp.1
  obtain ⟨⟨-, -, -, -, -, -, hcode, -, hy, hlen, hl⟩, hin, hse⟩ := cw
  obtain ⟨hx, hb, hml, ho, -⟩ := S
  obtain ⟨-, ⟨cellB, hcB, hoB, hclB⟩, hPc⟩ := hp
  intro T hT X
  rcases vx_callV X hx (C := C) (bytes := bytes) (maxL := maxL) (ret := ret) ho hl hin hse hcode hy hK (by rw [hT]; exact hcB) hoB hclB hg (hsize.trans hml.symm) (argsL := As) (rest := rest) (fun sig h => hn.trans (hlen sig h)) hstack hW (by rw [hb]; exact hdg)
    (fun vm₁ hW₁ => ⟨hf.1, hf.2, hPc (T.setVm vm₁) hT hW₁⟩) with ⟨v, vm₁, ⟨U', l2, c2, s2⟩, hW₁, X', ⟨g', mk, t, L, e1, e2, hq, h1, hL, h2, h3⟩, st⟩ | ⟨q, vm₁, ⟨U', l2, c2, s2⟩, hW₁, X', ⟨g', mk, t, L, E, ce, e1, e2, hq, hce, hcv, hcl, h1, hL, h2, h3⟩, st⟩
  · dsimp only [Pt.U, Pt.locs, Pt.cells, Pt.slots] at X' e1 e2 h1 h2 h3 st
    subst h1; subst h2; subst h3
    exact Or.inl ⟨v, (T.setVm vm₁).calling g' mk (Value.ref b :: As).toArray, t, U', L, hT, X', hL, e1, e2, hq, st⟩
  · dsimp only [Pt.U, Pt.locs, Pt.cells, Pt.slots] at X' e1 e2 h1 h2 h3 st hcl
    subst h1; subst h2; subst h3
    exact Or.inr ⟨q, (T.setVm vm₁).calling g' mk (Value.ref b :: As).toArray, t, U', L, E, ce, hT, X', hL, e1, e2, hq, hce, hcv, vx_cls hW₁ hcl, st⟩
theorem vx_runS (S : CallFix p m c cc nL s args Ts own) (hM : vx_Met l y ws rm Pc Qc XC mc ms free) (cw : CallB R s args own index y bytes maxL ret ws rm mc ms n ∧ (Cond.static y).before args s = true) (hp : PreS s H Pc As)
    (hg : g.method = m) (hn : As.length = n) (hsize : g.locals.size = nL) (hstack : g.stack = As.reverse ++ rest) (hW : 2 * g.monitorRoom + (rest.map fun v => v.category).sum ≤ 8) (hdg : decode cc g.pc = .ok (.invokestatic index, 3)) (hf : cells + mc ≤ R.cells ∧ slots + ms ≤ R.slots) :
    vx_Run p l e R s m args below meth c H locs cells slots mc ms g rest (Qc As.toArray) XC free := by
  have hK : vx_Back l R p e below s args y 3 8 (PreOf R mc ms Pc) (PostOf Qc mc ms free) (vx_Post XC mc ms free) := vx_callBack cw.1 hM hp.1
  obtain ⟨⟨-, -, -, -, -, -, hcode, hini, hy, hlen, hl⟩, hstt⟩ := cw
  obtain ⟨hx, hb, hml, ho, -⟩ := S
  intro T hT X
  rcases vx_callS X hx (bytes := bytes) (maxL := maxL) (ret := ret) ho hl hstt hini hcode hy hK hg (hsize.trans hml.symm) (argsL := As) (rest := rest) (fun sig h => hn.trans (hlen sig h)) hstack hW (by rw [hb]; exact hdg)
    (fun vm₁ hW₁ => ⟨hf.1, hf.2, hp.2 (T.setVm vm₁) hT hW₁⟩) with ⟨v, vm₁, ⟨U', l2, c2, s2⟩, hW₁, X', ⟨g', mk, t, L, e1, e2, hq, h1, hL, h2, h3⟩, st⟩ | ⟨q, vm₁, ⟨U', l2, c2, s2⟩, hW₁, X', ⟨g', mk, t, L, E, ce, e1, e2, hq, hce, hcv, hcl, h1, hL, h2, h3⟩, st⟩
  · dsimp only [Pt.U, Pt.locs, Pt.cells, Pt.slots] at X' e1 e2 h1 h2 h3 st
    subst h1; subst h2; subst h3
    exact Or.inl ⟨v, (T.setVm vm₁).calling g' mk As.toArray, t, U', L, hT, X', hL, e1, e2, hq, st⟩
  · dsimp only [Pt.U, Pt.locs, Pt.cells, Pt.slots] at X' e1 e2 h1 h2 h3 st hcl
    subst h1; subst h2; subst h3
    exact Or.inr ⟨q, (T.setVm vm₁).calling g' mk As.toArray, t, U', L, E, ce, hT, X', hL, e1, e2, hq, hce, hcv, vx_cls hW₁ hcl, st⟩
end Runs
section Rows
variable {p : Program} {l : Launch} {e : Env} {R : Room} {s : State} {m : MethodId} {args : Array Value} {below : List Frame} {meth : Method} {c : Code} {H : Heap} {locs : List Loc} {cells slots : Nat} {Q : State → Prop}
variable {mc ms : Nat} {free : Addr → Prop} {A0 A1 : Nat → Prop} {H0 : Heap} {a : Array Value} {pc : Nat} {ls : Array Slot} {st0 rest : List Value}
theorem vx_keep {st₀ t T' : State} {L : List Loc} (h0 : st₀.heap = H) (e1 : T'.heap = t.heap) (hS : va_S A0 H0 H locs) (hA : ∀ q, q < H.size → A1 q → A0 q) (hf : ∀ q, free q → A0 q) (hL : ∀ q ∈ L, free q.base) (hF : va_F A1 st₀ t) :
    H.size ≤ T'.heap.size ∧ (∀ q : Nat, q < H.size → ¬ A1 q → T'.heap[q]? = H[q]?) ∧ va_S A0 H0 T'.heap (locs ++ L) := by
  obtain ⟨hz, hk⟩ := hF
  rw [h0] at hz hk
  exact ⟨by rw [e1]; exact hz, fun q h1 h2 => by rw [e1]; exact hk q h1 h2,
    ⟨Nat.le_trans hS.1 (by rw [e1]; exact hz), fun q h1 h2 => by rw [e1, hk q (Nat.lt_of_lt_of_le h1 hS.1) (fun z => h2 (hA q (Nat.lt_of_lt_of_le h1 hS.1) z))]; exact hS.2.1 q h1 h2, fun q hq => by
      rcases List.mem_append.mp hq with h | h
      · exact hS.2.2 q h
      · exact hf _ (hL q h)⟩⟩
theorem vx_calli {S SX : Type} {post : Int32 → S → Prop} {px : SX → Prop} {B : S → State → Prop} {BX : String → SX → State → Prop} {AX : Nat → Prop} (hr : vx_Run p l e R s m args below meth c H locs cells slots mc ms (F0 m pc ls st0) rest (va_Qi post B A1 a) (vx_X px BX AX) free) (hS : va_S A0 H0 H locs) (hA : ∀ q, q < H.size → A1 q → A0 q) (hf : ∀ q, free q → A0 q) (hAX : ∀ q, q < H.size → AX q → A0 q)
    (kx : ∀ (E : String) (ce : Cell) (q9 : Addr) (u : SX) (t : State) (H1 : Heap) (locs1 : List Loc), t.heap = H1 → s.vm.Alike t.vm → px u → BX E u t → H.size ≤ H1.size → (∀ q : Nat, q < H.size → ¬ AX q → H1[q]? = H[q]?) → va_S A0 H0 H1 locs1 → H1[q9]? = some ce → ce.vm = .none → s.vm.findClass E = some ce.cls → vx_W p l e R s m args below meth c H1 locs1 (cells + mc) (slots + ms) Q (F0 m pc ls rest) q9)
    (kk : ∀ (r : Int32) (u : S) (t : State) (H1 : Heap) (locs1 : List Loc), t.heap = H1 → s.vm.Alike t.vm → post r u → B u t → H.size ≤ H1.size → (∀ q : Nat, q < H.size → ¬ A1 q → H1[q]? = H[q]?) → va_S A0 H0 H1 locs1 → W p l e R s m args below meth c H1 locs1 (cells + mc) (slots + ms) Q (F0 m (pc + 3) ls (.int r :: rest))) : W p l e R s m args below meth c H locs cells slots Q (F0 m pc ls st0) := by
  intro T hT X
  rcases hr T hT X with ⟨v, st₀, t, T', L, h0, X', hL, e1, e2, ⟨⟨r, u, hv, hp, hb⟩, hF⟩, st⟩ | ⟨q, st₀, t, T', L, E, ce, h0, X', hL, e1, e2, ⟨u, hp, hb, hF⟩, hce, hcv, hcl, st⟩
  · cases hv
    obtain ⟨k1, k2, k3⟩ := vx_keep h0 e1 hS hA hf hL hF
    obtain ⟨t2, a1, b1⟩ := kk r u t T'.heap (locs ++ L) e1.symm (by rw [← e2]; exact X'.warmed.alike) hp hb k1 k2 k3 T' rfl X'
    exact ⟨t2, st t2 a1, b1⟩
  · obtain ⟨k1, k2, k3⟩ := vx_keep h0 e1 hS hAX hf hL hF
    obtain ⟨t2, a1, b1⟩ := kx E ce q u t T'.heap (locs ++ L) e1.symm (by rw [← e2]; exact X'.warmed.alike) hp hb k1 k2 k3 (by rw [e1]; exact hce) hcv hcl T' rfl X'
    exact ⟨t2, st.trans a1, b1⟩
theorem vx_calll {S SX : Type} {post : Int64 → S → Prop} {px : SX → Prop} {B : S → State → Prop} {BX : String → SX → State → Prop} {AX : Nat → Prop} (hr : vx_Run p l e R s m args below meth c H locs cells slots mc ms (F0 m pc ls st0) rest (va_Ql post B A1 a) (vx_X px BX AX) free) (hS : va_S A0 H0 H locs) (hA : ∀ q, q < H.size → A1 q → A0 q) (hf : ∀ q, free q → A0 q) (hAX : ∀ q, q < H.size → AX q → A0 q)
    (kx : ∀ (E : String) (ce : Cell) (q9 : Addr) (u : SX) (t : State) (H1 : Heap) (locs1 : List Loc), t.heap = H1 → s.vm.Alike t.vm → px u → BX E u t → H.size ≤ H1.size → (∀ q : Nat, q < H.size → ¬ AX q → H1[q]? = H[q]?) → va_S A0 H0 H1 locs1 → H1[q9]? = some ce → ce.vm = .none → s.vm.findClass E = some ce.cls → vx_W p l e R s m args below meth c H1 locs1 (cells + mc) (slots + ms) Q (F0 m pc ls rest) q9)
    (kk : ∀ (r : Int64) (u : S) (t : State) (H1 : Heap) (locs1 : List Loc), t.heap = H1 → s.vm.Alike t.vm → post r u → B u t → H.size ≤ H1.size → (∀ q : Nat, q < H.size → ¬ A1 q → H1[q]? = H[q]?) → va_S A0 H0 H1 locs1 → W p l e R s m args below meth c H1 locs1 (cells + mc) (slots + ms) Q (F0 m (pc + 3) ls (.long r :: rest))) : W p l e R s m args below meth c H locs cells slots Q (F0 m pc ls st0) := by
  intro T hT X
  rcases hr T hT X with ⟨v, st₀, t, T', L, h0, X', hL, e1, e2, ⟨⟨r, u, hv, hp, hb⟩, hF⟩, st⟩ | ⟨q, st₀, t, T', L, E, ce, h0, X', hL, e1, e2, ⟨u, hp, hb, hF⟩, hce, hcv, hcl, st⟩
  · cases hv
    obtain ⟨k1, k2, k3⟩ := vx_keep h0 e1 hS hA hf hL hF
    obtain ⟨t2, a1, b1⟩ := kk r u t T'.heap (locs ++ L) e1.symm (by rw [← e2]; exact X'.warmed.alike) hp hb k1 k2 k3 T' rfl X'
    exact ⟨t2, st t2 a1, b1⟩
  · obtain ⟨k1, k2, k3⟩ := vx_keep h0 e1 hS hAX hf hL hF
    obtain ⟨t2, a1, b1⟩ := kx E ce q u t T'.heap (locs ++ L) e1.symm (by rw [← e2]; exact X'.warmed.alike) hp hb k1 k2 k3 (by rw [e1]; exact hce) hcv hcl T' rfl X'
    exact ⟨t2, st.trans a1, b1⟩
theorem vx_callf {S SX : Type} {post : UInt32 → S → Prop} {px : SX → Prop} {B : S → State → Prop} {BX : String → SX → State → Prop} {AX : Nat → Prop} (hr : vx_Run p l e R s m args below meth c H locs cells slots mc ms (F0 m pc ls st0) rest (va_Qf post B A1 a) (vx_X px BX AX) free) (hS : va_S A0 H0 H locs) (hA : ∀ q, q < H.size → A1 q → A0 q) (hf : ∀ q, free q → A0 q) (hAX : ∀ q, q < H.size → AX q → A0 q)
    (kx : ∀ (E : String) (ce : Cell) (q9 : Addr) (u : SX) (t : State) (H1 : Heap) (locs1 : List Loc), t.heap = H1 → s.vm.Alike t.vm → px u → BX E u t → H.size ≤ H1.size → (∀ q : Nat, q < H.size → ¬ AX q → H1[q]? = H[q]?) → va_S A0 H0 H1 locs1 → H1[q9]? = some ce → ce.vm = .none → s.vm.findClass E = some ce.cls → vx_W p l e R s m args below meth c H1 locs1 (cells + mc) (slots + ms) Q (F0 m pc ls rest) q9)
    (kk : ∀ (r : UInt32) (u : S) (t : State) (H1 : Heap) (locs1 : List Loc), t.heap = H1 → s.vm.Alike t.vm → post r u → B u t → H.size ≤ H1.size → (∀ q : Nat, q < H.size → ¬ A1 q → H1[q]? = H[q]?) → va_S A0 H0 H1 locs1 → W p l e R s m args below meth c H1 locs1 (cells + mc) (slots + ms) Q (F0 m (pc + 3) ls (.float r :: rest))) : W p l e R s m args below meth c H locs cells slots Q (F0 m pc ls st0) := by
  intro T hT X
  rcases hr T hT X with ⟨v, st₀, t, T', L, h0, X', hL, e1, e2, ⟨⟨r, u, hv, hp, hb⟩, hF⟩, st⟩ | ⟨q, st₀, t, T', L, E, ce, h0, X', hL, e1, e2, ⟨u, hp, hb, hF⟩, hce, hcv, hcl, st⟩
  · cases hv
    obtain ⟨k1, k2, k3⟩ := vx_keep h0 e1 hS hA hf hL hF
    obtain ⟨t2, a1, b1⟩ := kk r u t T'.heap (locs ++ L) e1.symm (by rw [← e2]; exact X'.warmed.alike) hp hb k1 k2 k3 T' rfl X'
    exact ⟨t2, st t2 a1, b1⟩
  · obtain ⟨k1, k2, k3⟩ := vx_keep h0 e1 hS hAX hf hL hF
    obtain ⟨t2, a1, b1⟩ := kx E ce q u t T'.heap (locs ++ L) e1.symm (by rw [← e2]; exact X'.warmed.alike) hp hb k1 k2 k3 (by rw [e1]; exact hce) hcv hcl T' rfl X'
    exact ⟨t2, st.trans a1, b1⟩
theorem vx_calld {S SX : Type} {post : UInt64 → S → Prop} {px : SX → Prop} {B : S → State → Prop} {BX : String → SX → State → Prop} {AX : Nat → Prop} (hr : vx_Run p l e R s m args below meth c H locs cells slots mc ms (F0 m pc ls st0) rest (va_Qd post B A1 a) (vx_X px BX AX) free) (hS : va_S A0 H0 H locs) (hA : ∀ q, q < H.size → A1 q → A0 q) (hf : ∀ q, free q → A0 q) (hAX : ∀ q, q < H.size → AX q → A0 q)
    (kx : ∀ (E : String) (ce : Cell) (q9 : Addr) (u : SX) (t : State) (H1 : Heap) (locs1 : List Loc), t.heap = H1 → s.vm.Alike t.vm → px u → BX E u t → H.size ≤ H1.size → (∀ q : Nat, q < H.size → ¬ AX q → H1[q]? = H[q]?) → va_S A0 H0 H1 locs1 → H1[q9]? = some ce → ce.vm = .none → s.vm.findClass E = some ce.cls → vx_W p l e R s m args below meth c H1 locs1 (cells + mc) (slots + ms) Q (F0 m pc ls rest) q9)
    (kk : ∀ (r : UInt64) (u : S) (t : State) (H1 : Heap) (locs1 : List Loc), t.heap = H1 → s.vm.Alike t.vm → post r u → B u t → H.size ≤ H1.size → (∀ q : Nat, q < H.size → ¬ A1 q → H1[q]? = H[q]?) → va_S A0 H0 H1 locs1 → W p l e R s m args below meth c H1 locs1 (cells + mc) (slots + ms) Q (F0 m (pc + 3) ls (.double r :: rest))) : W p l e R s m args below meth c H locs cells slots Q (F0 m pc ls st0) := by
  intro T hT X
  rcases hr T hT X with ⟨v, st₀, t, T', L, h0, X', hL, e1, e2, ⟨⟨r, u, hv, hp, hb⟩, hF⟩, st⟩ | ⟨q, st₀, t, T', L, E, ce, h0, X', hL, e1, e2, ⟨u, hp, hb, hF⟩, hce, hcv, hcl, st⟩
  · cases hv
    obtain ⟨k1, k2, k3⟩ := vx_keep h0 e1 hS hA hf hL hF
    obtain ⟨t2, a1, b1⟩ := kk r u t T'.heap (locs ++ L) e1.symm (by rw [← e2]; exact X'.warmed.alike) hp hb k1 k2 k3 T' rfl X'
    exact ⟨t2, st t2 a1, b1⟩
  · obtain ⟨k1, k2, k3⟩ := vx_keep h0 e1 hS hAX hf hL hF
    obtain ⟨t2, a1, b1⟩ := kx E ce q u t T'.heap (locs ++ L) e1.symm (by rw [← e2]; exact X'.warmed.alike) hp hb k1 k2 k3 (by rw [e1]; exact hce) hcv hcl T' rfl X'
    exact ⟨t2, st.trans a1, b1⟩
theorem vx_callv {S SX : Type} {post : S → Prop} {px : SX → Prop} {B : S → State → Prop} {BX : String → SX → State → Prop} {AX : Nat → Prop} (hr : vx_Run p l e R s m args below meth c H locs cells slots mc ms (F0 m pc ls st0) rest (va_Qv post B A1 a) (vx_X px BX AX) free) (hS : va_S A0 H0 H locs) (hA : ∀ q, q < H.size → A1 q → A0 q) (hf : ∀ q, free q → A0 q) (hAX : ∀ q, q < H.size → AX q → A0 q)
    (kx : ∀ (E : String) (ce : Cell) (q9 : Addr) (u : SX) (t : State) (H1 : Heap) (locs1 : List Loc), t.heap = H1 → s.vm.Alike t.vm → px u → BX E u t → H.size ≤ H1.size → (∀ q : Nat, q < H.size → ¬ AX q → H1[q]? = H[q]?) → va_S A0 H0 H1 locs1 → H1[q9]? = some ce → ce.vm = .none → s.vm.findClass E = some ce.cls → vx_W p l e R s m args below meth c H1 locs1 (cells + mc) (slots + ms) Q (F0 m pc ls rest) q9)
    (kk : ∀ (u : S) (t : State) (H1 : Heap) (locs1 : List Loc), t.heap = H1 → s.vm.Alike t.vm → post u → B u t → H.size ≤ H1.size → (∀ q : Nat, q < H.size → ¬ A1 q → H1[q]? = H[q]?) → va_S A0 H0 H1 locs1 → W p l e R s m args below meth c H1 locs1 (cells + mc) (slots + ms) Q (F0 m (pc + 3) ls (rest))) : W p l e R s m args below meth c H locs cells slots Q (F0 m pc ls st0) := by
  intro T hT X
  rcases hr T hT X with ⟨v, st₀, t, T', L, h0, X', hL, e1, e2, ⟨⟨u, hv, hp, hb⟩, hF⟩, st⟩ | ⟨q, st₀, t, T', L, E, ce, h0, X', hL, e1, e2, ⟨u, hp, hb, hF⟩, hce, hcv, hcl, st⟩
  · cases hv
    obtain ⟨k1, k2, k3⟩ := vx_keep h0 e1 hS hA hf hL hF
    obtain ⟨t2, a1, b1⟩ := kk u t T'.heap (locs ++ L) e1.symm (by rw [← e2]; exact X'.warmed.alike) hp hb k1 k2 k3 T' rfl X'
    exact ⟨t2, st t2 a1, b1⟩
  · obtain ⟨k1, k2, k3⟩ := vx_keep h0 e1 hS hAX hf hL hF
    obtain ⟨t2, a1, b1⟩ := kx E ce q u t T'.heap (locs ++ L) e1.symm (by rw [← e2]; exact X'.warmed.alike) hp hb k1 k2 k3 (by rw [e1]; exact hce) hcv hcl T' rfl X'
    exact ⟨t2, st.trans a1, b1⟩
/-- caught by the row x of this method's table; the rows ahead don't take it -/
theorem vx_catch {own name : String} {E : String} {ce : Cell} {q : Addr} (hown : s.vm.findClass own = some m.cls) (pre : List ExceptionTableEntry) (x : ExceptionTableEntry) (suf : List ExceptionTableEntry) (hsplit : c.exceptionTable.toList = pre ++ x :: suf)
    (hpass : ∀ z ∈ pre, covers z pc = false ∨ (z.catchType ≠ 0 ∧ ∃ nm : String, (Cond.classLink own z.catchType nm).before args s = true ∧ va_Nc E nm s)) (hx : covers x pc = true) (h0 : x.catchType ≠ 0)
    (hlink : (Cond.classLink own x.catchType name).before args s = true) (hcast : (Cond.castable E name).before args s = true) (hcell : H[q]? = some ce) (hv : ce.vm = .none) (hcl : s.vm.findClass E = some ce.cls)
    (kk : W p l e R s m args below meth c H locs cells slots Q (F0 m x.handlerPc ls [.ref q])) : vx_W p l e R s m args below meth c H locs cells slots Q (F0 m pc ls rest) q := by
  intro T hT X
  have hpl : e.platform.magicAccessors = ({} : Platform).magicAccessors := by rw [X.admits.platform]
  obtain ⟨c3, c4, hc3, hc4, hasg⟩ := Cond.castable_spec hcast
  cases Option.some.inj (hc3.symm.trans hcl)
  obtain ⟨c5, hc5, hcl5⟩ := Cond.classLink_spec hown hlink e.platform hpl
  cases Option.some.inj (hc4.symm.trans hc5)
  obtain ⟨vm', X', st⟩ := X.thenCaughtThrough q (g := F0 m pc ls rest) rfl (Steps.refl _) (by rw [hT]; exact hcell) (by rw [hv]; rfl) (by obtain ⟨k9, h9, -⟩ := Vm.findClass_spec hcl; exact ⟨k9, h9⟩) pre x suf hsplit
    (fun z hz => by
      rcases hpass z hz with h | ⟨hz0, nm, hl1, hn1⟩
      · exact Or.inl h
      · obtain ⟨c6, hc6, hcl6⟩ := Cond.classLink_spec hown hl1 e.platform hpl
        obtain ⟨a8, b8, h1, h2, h3⟩ := hn1
        cases Option.some.inj (h1.symm.trans hcl)
        cases Option.some.inj (h2.symm.trans hc6)
        exact Or.inr ⟨hz0, _, hcl6, h3⟩) hx (Or.inr ⟨h0, c4, hcl5, hasg⟩)
  obtain ⟨t, a1, b1⟩ := kk (T.setVm vm') hT X'
  exact ⟨t, st.trans a1, b1⟩
end Rows
section Ends
variable {p : Program} {l : Launch} {e : Env} {R : Room} {s : State} {m : MethodId} {args : Array Value} {below : List Frame} {meth : Method} {c : Code} {H : Heap} {locs : List Loc} {cells slots : Nat} {Q : State → Prop}
variable {mc ms : Nat} {free : Addr → Prop} {A0 A1 : Nat → Prop} {H0 : Heap} {a : Array Value} {ls : Array Slot} {st0 rest : List Value}
variable {Qc : Array Value → State → Outcome → State → Prop} {XC : String → State → State → Prop}
/-- what a body that may throw owes at its end -/
def vx_MQ (below : List Frame) (Qc : Array Value → State → Outcome → State → Prop) (XC : String → State → State → Prop) (a : Array Value) (s : State) (mc ms : Nat) (free : Addr → Prop) : State → Prop := fun t =>
  ∃ o, t.status = .running ∧ Ended t below o ∧ vx_Q Qc XC mc ms free a s o t
theorem vx_ret {g : JFrame} {mc ms : Nat} (k : W p l e R s m args below meth c H locs cells slots (MQ below Qc args s mc ms free) g) : W p l e R s m args below meth c H locs cells slots (vx_MQ below Qc XC args s mc ms free) g := by
  intro T hT X
  obtain ⟨t, a1, o, b1, b2, b3, b4⟩ := k T hT X
  exact ⟨t, a1, o, b1, b2, Or.inl ⟨b3, b4⟩⟩
/-- not caught here: it goes on to the caller -/
theorem vx_widen {g : JFrame} {q : Addr} {k n : Nat} (h1 : cells ≤ k) (h2 : slots ≤ n) (kk : vx_W p l e R s m args below meth c H locs k n Q g q) : vx_W p l e R s m args below meth c H locs cells slots Q g q := fun T hT X => kk T hT (stand_widen X h1 h2)
theorem vx_out {pc : Nat} {E : String} {ce : Cell} {q : Addr} {mc ms : Nat} (hout : ∀ x ∈ c.exceptionTable.toList, covers x pc = false) (hlocks : meth.locks = false) (hcell : H[q]? = some ce) (hv : ce.vm = .none) (hcl : s.vm.findClass E = some ce.cls)
    (hx : ∀ t : State, t.heap = H → s.vm.Alike t.vm → XC E s t) (hf : ∀ z ∈ locs, free z.base) (hc : cells ≤ mc) (hs : slots ≤ ms) :
    vx_W p l e R s m args below meth c H locs cells slots (vx_MQ below Qc XC args s mc ms free) (F0 m pc ls rest) q := by
  intro T hT X
  obtain ⟨st1, hrun, hend, hW, hsm⟩ := X.leaveThrown q (g := F0 m pc ls rest) rfl rfl rfl hout hlocks
  have hcell9 : (T.setFrames (.throwing q :: below)).heap[q]? = some ce := by
    show T.heap[q]? = some ce
    rw [hT]; exact hcell
  exact ⟨_, st1, .threw q, hrun, hend, Or.inr ⟨q, rfl, E, ce, locs, hx _ hT hW.alike, hcell9, hv, hcl, hW, hsm.mono hc hs, hf⟩⟩
theorem vx_frame {U : State} {k n : Nat} (h : s.sameButNew ({ U with vm := s.vm } : State) locs k n) : s.heap.size ≤ U.heap.size ∧ ∀ q : Nat, q < s.heap.size → (∀ z ∈ locs, z.base ≠ q) → U.heap[q]? = s.heap[q]? := by
  obtain ⟨-, h2, -, -, -, h6⟩ := h
  refine ⟨h2, fun q hq hz => ?_⟩
  obtain ⟨c9, e1, e2, e3, e4⟩ := h6 q _ (Array.getElem?_eq_getElem hq)
  have hs : c9.slots = (s.heap[q]).slots := Array.ext_getElem? fun i => e4 i fun hm => hz _ hm rfl
  have h9 : c9 = s.heap[q] := by
    rw [hs] at e2
    exact e2
  have e5 : U.heap[q]? = some c9 := e1
  rw [e5, h9, Array.getElem?_eq_getElem hq]
/-- the words of a throw but the four that speak of the heap -/
def vx_no (w : Cond) : Bool := decide (w ≠ .isRef (.static Bundle.tN "UNASSIGNED_STACK" Bundle.steD)) && decide (w ≠ .isRef (.static Bundle.tN "SUPPRESSED_SENTINEL" Bundle.listD)) && decide (w ≠ .laysStatic Bundle.tN "UNASSIGNED_STACK" Bundle.steD) && decide (w ≠ .laysStatic Bundle.tN "SUPPRESSED_SENTINEL" Bundle.listD)
def vx_at0 (own : String) (ic : Nat) (X : String) (names : List String) : List Cond := (Bundle.ownAtoms0 own ic X names).filter vx_no
def vx_atS (own : String) (ic : Nat) (X : String) (names : List String) : List Cond := (Bundle.ownAtoms own ic X names).filter vx_no
/-- a word that the tables alone decide, or a good one -/
def vx_ot (w : Cond) : Bool := w.onTables || goodWord w
theorem vx_ot_at {args a' : Array Value} {s U : State} {w : Cond} (hW : s.WarmedH U.vm) (hvm : s.vm = U.vm) (hg : vx_ot w = true) (h : w.before args s = true) : w.before a' U = true := by
  simp only [vx_ot, Bool.or_eq_true] at hg
  rcases hg with hg | hg
  · exact va_tabs hg hvm h
  · exact word_at hW (good_of_word hg) h
/-- a list's words: the good ones out of the method's own list, the others by premises of their own -/
theorem vx_hat {args : Array Value} {s : State} {L B : List Cond} (h1 : ∀ w ∈ L.filter goodWord, w.before args s = true) (h2 : ∀ w ∈ L.filter (fun w => !goodWord w), w ∈ B) (h3 : ∀ w ∈ B, w.before args s = true) : ∀ w ∈ L, w.before args s = true := by
  intro w hw
  by_cases g : goodWord w = true
  · exact h1 w (List.mem_filter.mpr ⟨hw, g⟩)
  · refine h3 w (h2 w (List.mem_filter.mpr ⟨hw, ?_⟩))
    show (!goodWord w) = true
    cases hgw : goodWord w
    · rfl
    · exact absurd hgw g
theorem vx_c {args : Array Value} {s : State} {w : Cond} {B : List Cond} (h : w.before args s = true) (t : ∀ w ∈ B, w.before args s = true) : ∀ w' ∈ w :: B, w'.before args s = true := fun w' h' => (List.mem_cons.mp h').elim (fun e => by rw [e]; exact h) (t w')
theorem vx_n {args : Array Value} {s : State} : ∀ w ∈ ([] : List Cond), w.before args s = true := fun _ h => nomatch h
theorem vx_own {args : Array Value} {s : State} {L : List Cond} (h1 : ∀ w ∈ L.filter vx_no, w.before args s = true)
    (hU : (Cond.isRef (.static Bundle.tN "UNASSIGNED_STACK" Bundle.steD)).before args s = true) (hN : (Cond.isRef (.static Bundle.tN "SUPPRESSED_SENTINEL" Bundle.listD)).before args s = true)
    (lU : (Cond.laysStatic Bundle.tN "UNASSIGNED_STACK" Bundle.steD).before args s = true) (lN : (Cond.laysStatic Bundle.tN "SUPPRESSED_SENTINEL" Bundle.listD).before args s = true) : ∀ w ∈ L, w.before args s = true := by
  intro w hw
  by_cases e1 : w = .isRef (.static Bundle.tN "UNASSIGNED_STACK" Bundle.steD)
  · rw [e1]; exact hU
  · by_cases e2 : w = .isRef (.static Bundle.tN "SUPPRESSED_SENTINEL" Bundle.listD)
    · rw [e2]; exact hN
    · by_cases e3 : w = .laysStatic Bundle.tN "UNASSIGNED_STACK" Bundle.steD
      · rw [e3]; exact lU
      · by_cases e4 : w = .laysStatic Bundle.tN "SUPPRESSED_SENTINEL" Bundle.listD
        · rw [e4]; exact lN
        · exact h1 w (List.mem_filter.mpr ⟨hw, by unfold vx_no; rw [decide_eq_true e1, decide_eq_true e2, decide_eq_true e3, decide_eq_true e4]; rfl⟩)
/-- where a static field lies, its class's statics cell in H -/
def vx_L (C n d : String) (A : Nat → Prop) (U : State) (H : Heap) : Prop := ∃ (c : ClassId) (k : Class) (i : Nat) (f : Field) (a : Nat) (cell : Cell), U.vm.findClass C = some c ∧ U.fieldFound? C n d = some (c, k, i, f) ∧ f.isStatic = true ∧ k.statics = some a ∧ H[a]? = some cell ∧ cell.vm.isStatics = true ∧ cell.cls = c ∧ f.slot < cell.slots.size ∧ k.staticTypes[f.slot]? = some f.type ∧ ¬ A a
theorem vx_L.moved {C n d : String} {A : Nat → Prop} {u U : State} {H : Heap} (hvm : u.vm.Alike U.vm) (h : vx_L C n d A u H) : vx_L C n d A U H := by
  obtain ⟨c, k, i, f, a, cell, h1, h2, h3, h4, h5, h6, h7, h8, h9, h10⟩ := h
  obtain ⟨k', hi', he⟩ := State.fieldFound?_setVm hvm h2
  exact ⟨c, k', i, f, a, cell, by rw [hvm.findClass]; exact h1, hi', h3, by rw [he]; exact h4, h5, h6, h7, h8, by rw [he]; exact h9, h10⟩
theorem vx_L.kept {C n d : String} {A : Nat → Prop} {U : State} {H H1 : Heap} (h : vx_L C n d A U H) (hq : ∀ a : Nat, a < H.size → ¬ A a → H1[a]? = H[a]?) : vx_L C n d A U H1 := by
  obtain ⟨c, k, i, f, a, cell, h1, h2, h3, h4, h5, h6, h7, h8, h9, h10⟩ := h
  exact ⟨c, k, i, f, a, cell, h1, h2, h3, h4, by rw [hq a (Array.getElem?_eq_some_iff.mp h5).1 h10]; exact h5, h6, h7, h8, h9, h10⟩
theorem vx_L.narrow {C n d : String} {A B : Nat → Prop} {U : State} {H : Heap} (h : vx_L C n d A U H) (hAB : ∀ q, B q → A q) : vx_L C n d B U H := by
  obtain ⟨c, k, i, f, a, cell, h1, h2, h3, h4, h5, h6, h7, h8, h9, h10⟩ := h
  exact ⟨c, k, i, f, a, cell, h1, h2, h3, h4, h5, h6, h7, h8, h9, fun z => h10 (hAB _ z)⟩
theorem vx_L.word {C n d : String} {A : Nat → Prop} {s : State} {args : Array Value} (h : vx_L C n d A s s.heap) : (Cond.laysStatic C n d).before args s = true := by
  obtain ⟨c, k, i, f, a, cell, h1, h2, h3, h4, h5, h6, h7, h8, h9, -⟩ := h
  show (Cond.laysStatic C n d).holds args s none s [] = true
  exact Cond.laysStatic_of h1 h2 h3 h4 h5 h6 h7 h8 h9
/-- .. and what it holds: null or some reference -/
def vx_Zq (C n d : String) (A : Nat → Prop) (U : State) (H : Heap) : Prop := va_Zq C n d A U H ∧ vx_L C n d A U H
theorem vx_Zq.moved {C n d : String} {A : Nat → Prop} {u U : State} {H : Heap} (hvm : u.vm.Alike U.vm) (h : vx_Zq C n d A u H) : vx_Zq C n d A U H := ⟨va_Zq.moved hvm h.1, vx_L.moved hvm h.2⟩
theorem vx_Zq.kept {C n d : String} {A : Nat → Prop} {U : State} {H H1 : Heap} (h : vx_Zq C n d A U H) (hq : ∀ a : Nat, a < H.size → ¬ A a → H1[a]? = H[a]?) : vx_Zq C n d A U H1 := ⟨va_Zq.kept h.1 hq, vx_L.kept h.2 hq⟩
theorem vx_Zq.narrow {C n d : String} {A B : Nat → Prop} {U : State} {H : Heap} (h : vx_Zq C n d A U H) (hAB : ∀ q, B q → A q) : vx_Zq C n d B U H := ⟨va_Zq.narrow h.1 hAB, vx_L.narrow h.2 hAB⟩
theorem vx_Zqof {args : Array Value} {s : State} {C n d : String} {A : Nat → Prop} (hl : (Cond.laysStatic C n d).before args s = true) (hini : (Cond.initialized C).before args s = true) (h : (Cond.isRef (.static C n d)).before args s = true) (hA : ∀ a : Nat, a < s.heap.size → ¬ A a) : vx_Zq C n d A s s.heap := by
  refine ⟨va_Zqof hl hini h hA, ?_⟩
  obtain ⟨c, k, i, f, a, cell, h1, h2, h3, h4, h5, h6, h7, h8, h9⟩ := Cond.laysStatic_spec hl
  exact ⟨c, k, i, f, a, cell, h1, h2, h3, h4, h5, h6, h7, h8, h9, hA a (Array.getElem?_eq_some_iff.mp h5).1⟩
theorem vx_isRef {C n d : String} {v : Value} {A : Nat → Prop} {s : State} {args : Array Value} (h : va_Z C n d v A s s.heap) (hv : v.isRef = true) : (Cond.isRef (.static C n d)).before args s = true := by
  obtain ⟨cf, kf, fi, f, a, cell, h1, h2, h3, h4, h5, h6, h7, -⟩ := h
  have he : (Term.static C n d).eval args s none [] s = some v := by
    simp [Term.eval, State.fieldNamed?, h1, h2, h4, h5, h6, h7]
  simp only [Cond.before, Cond.holds, Cond.value, he]
  cases v <;> simp_all [Value.isRef]
theorem vx_isRefq {C n d : String} {A : Nat → Prop} {s : State} {args : Array Value} (h : va_Zq C n d A s s.heap) : (Cond.isRef (.static C n d)).before args s = true := by
  rcases h with h | ⟨t, h⟩
  · exact vx_isRef h rfl
  · exact vx_isRef h rfl
/-- the same frame, seen from here: as if the method were called anew in this heap -/
theorem vx_rebase {T : State} (X : Stand p l e R s m args below meth c T locs cells slots) {R' : Room} (hf : R'.frames ≤ R.frames) (hl : R'.locals ≤ R.locals) (hc : cells + R'.cells ≤ R.cells) (hs : slots + R'.slots ≤ R.slots) :
    Stand p l e R' ((T.setVm s.vm).setFrames (.invoking m args :: below)) m args below meth c T [] 0 0 := by
  have htop : (T.setVm s.vm).topJava?.isSome := X.here.top
  have hF : ((T.setVm s.vm).setFrames (.invoking m args :: below)).frames = .invoking m args :: below := State.frames_setFrames _ (State.cur_lt_of_top htop)
  obtain ⟨g₀, hg0⟩ := Option.isSome_iff_exists.mp htop
  obtain ⟨r, hr⟩ := State.topJava?_eq_some.mp hg0
  have hl9 : e.platform.stackLimits (T.setVm s.vm).me = e.platform.stackLimits s.me := X.limits
  have hb9 : (T.setVm s.vm).me.stackBytes = s.me.stackBytes := X.bytes
  refine ⟨X.admits, X.cas, X.clock, hF, ?_, X.hears, X.method, X.code, X.here, X.tail, X.warmed, ?_, ?_, ?_⟩
  · have h := X.room
    have hU : ((T.setVm s.vm).setFrames (.invoking m args :: below)).localsInUse = s.localsInUse := by
      rw [State.localsInUse_invoking hF (meth := meth) (c := c) X.method X.code, State.localsInUse_invoking X.frames X.method X.code]
    simp only [State.hasRoom, Bool.and_eq_true, decide_eq_true_eq] at h ⊢
    obtain ⟨⟨⟨⟨h1, h2, h3, h4, h5, h6⟩, h7⟩, h8⟩, h9⟩ := h
    rw [X.frames, List.length_cons] at h2 h3
    have q1 := X.heapSize
    have q2 := X.used
    simp only [hF, hU, List.length_cons, State.stackLimits_setFrames, State.stackBytes_setFrames, hl9, hb9]
    refine ⟨⟨⟨⟨by omega, by omega, by omega, by omega, by omega, h6⟩, ?_⟩, ?_⟩, X.book⟩
    · show T.heap.size + R'.cells ≤ e.platform.maxCells
      omega
    · show T.slotsUsed + R'.slots ≤ e.platform.maxSlots
      omega
  · rw [State.stackLimits_setFrames]; rfl
  · rw [State.stackBytes_setFrames]; rfl
  · refine ⟨?_, Nat.le_refl _, Nat.le_refl _, ?_, ?_, fun a c9 h9 => ⟨c9, h9, rfl, rfl, fun _ _ => rfl⟩⟩
    · obtain ⟨t, ht, -⟩ := State.frames_cons hr
      show T.setVm s.vm = { ((T.setVm s.vm).setFrames (.invoking m args :: below)).setFrames (T.setVm s.vm).frames with heap := T.heap, slotsUsed := T.slotsUsed }
      rw [State.setFrames_setFrames, State.setFrames_self ht]
      rfl
    · show T.slotsUsed = T.slotsUsed + ((T.heap.toList.drop T.heap.size).map (·.slots.size)).sum
      rw [List.drop_eq_nil_of_le (Nat.le_of_eq Array.length_toList)]
      rfl
    · show ((T.heap.toList.drop T.heap.size).map (·.slots.size)).sum ≤ 0
      rw [List.drop_eq_nil_of_le (Nat.le_of_eq Array.length_toList)]
      exact Nat.le_refl _
/-- 'throw new E()': new; dup; invokespecial; athrow -/
theorem vx_throw0 {cc : ByteArray} {pc : Nat} (hexec : p.tables.exec = Jvm.exec) (hb : c.code = cc) (hl : l.stackTraces = false) {own cls : String} {names : List String} {ik ic mc ms : Nat} {A : Nat → Prop}
    (hown : s.vm.findClass own = some m.cls) (hcls : Bundle.fit cls = true) (hnames : ∀ n ∈ names, Bundle.fit n = true)
    (hk : (Cond.classLink own ik cls).before args s = true) (hini : (Cond.initialized cls).before args s = true) (hat : ∀ w ∈ vx_at0 own ic cls names, w.before args s = true)
    (hgood : ∀ w ∈ Cond.classLink own ik cls :: Cond.initialized cls :: vx_at0 own ic cls names, vx_ot w = true)
    (hU : vx_Zq Bundle.tN "UNASSIGNED_STACK" Bundle.steD A s s.heap) (hN : vx_Zq Bundle.tN "SUPPRESSED_SENTINEL" Bundle.listD A s s.heap) (hS : va_S A s.heap H locs) (hsize : ls.size = c.maxLocals)
    (d0 : decode cc pc = .ok (.new ik, 3)) (d3 : decode cc (pc + 3) = .ok (.dup, 1)) (d4 : decode cc (pc + 4) = .ok (.invokespecial ic, 3)) (d7 : decode cc (pc + 7) = .ok (.athrow, 1))
    (hout : ∀ x ∈ c.exceptionTable.toList, covers x (pc + 7) = false)
    (hRframes : names.length + 3 < R.frames) (hRlocals : (rest.map fun v => v.category).sum + (13 * (names.length + 1) + 42) ≤ R.locals) (hRcells : cells + 1 ≤ R.cells) (hRslots : slots + 6 ≤ R.slots) (hlocks : meth.locks = false)
    (hx : ∀ t : State, s.vm.Alike t.vm → H.size ≤ t.heap.size → (∀ q : Nat, q < H.size → t.heap[q]? = H[q]?) → XC cls s t)
    (hf : ∀ z ∈ locs, free z.base) (hc : cells + 1 ≤ mc) (hs : slots + 6 ≤ ms) :
    W p l e R s m args below meth c H locs cells slots (vx_MQ below Qc XC args s mc ms free) (F0 m pc ls rest) := by
  intro T hT X
  have htr : e.platform.stackTraces = false := (show e.platform.stackTraces = l.stackTraces by rw [X.admits.platform]).trans hl
  have Y := vx_rebase X (R' := { frames := R.frames, locals := R.locals, cells := 1, slots := 6 }) (Nat.le_refl _) (Nat.le_refl _) hRcells hRslots
  obtain ⟨s', hA⟩ : ∃ z, z = (T.setVm s.vm).setFrames (.invoking m args :: below) := ⟨_, rfl⟩
  rw [← hA] at Y
  have hvm : s'.vm = s.vm := by rw [hA]; rfl
  have hhp : s'.heap = H := by rw [hA]; exact hT
  have hW0 : s.WarmedH s'.vm := by rw [hvm]; exact State.WarmedH.refl s
  have hat' : ∀ w ∈ vx_at0 own ic cls names, w.before args s' = true := fun w hw => vx_ot_at hW0 hvm.symm (hgood w (List.mem_cons_of_mem _ (List.mem_cons_of_mem _ hw))) (hat w hw)
  have hk' : (Cond.classLink own ik cls).before args s' = true := vx_ot_at hW0 hvm.symm (hgood _ List.mem_cons_self) hk
  have hini' : (Cond.initialized cls).before args s' = true := vx_ot_at hW0 hvm.symm (hgood _ (List.mem_cons_of_mem _ List.mem_cons_self)) hini
  have hU' : vx_Zq Bundle.tN "UNASSIGNED_STACK" Bundle.steD A s' s'.heap := by rw [hhp]; exact vx_Zq.moved hW0.alike (hU.kept hS.2.1)
  have hN' : vx_Zq Bundle.tN "SUPPRESSED_SENTINEL" Bundle.listD A s' s'.heap := by rw [hhp]; exact vx_Zq.moved hW0.alike (hN.kept hS.2.1)
  have h : ∀ w ∈ Bundle.ownAtoms0 own ic cls names, w.before args s' = true := vx_own hat' (vx_isRefq hU'.1) (vx_isRefq hN'.1) hU'.2.word hN'.2.word
  have hown' : s'.vm.findClass own = some m.cls := by rw [hvm]; exact hown
  have hins : (Cond.instantiable cls 6).before args s' = true := h _ (by simp [Bundle.ownAtoms0])
  obtain ⟨vm₁, cX, kX, hfX, hkX, -, -, X₁, st1⟩ := Y.newCold hexec (own := own) (C := cls) (index := ik) (n := 6) hown' hk' hins hini'
    (g := F0 m pc ls rest) rfl (by rw [hb]; exact d0) (Nat.le_refl _) (Nat.le_refl _)
  generalize hT1 : (T.setVm vm₁).pushCell { cls := cX, slots := kX.instanceTypes.map defaultValue, vm := .none } = T1 at X₁ st1
  have hcat : (Value.ref T.heap.size).category = 1 := rfl
  have hcellA : T1.heap[T.heap.size]? = some (freshCell cX kX) := by rw [← hT1]; exact State.heap_pushCell_size _ _
  have d3' : decode c.code (pc + 3) = .ok (.dup, 1) := by rw [hb]; exact d3
  obtain ⟨U, hsteps, hrun, hend, hW, hsame, ce, hce, hO⟩ := X₁.ctorThrow0 hexec htr (own := own) (cls := cls) (names := names) (ic := ic) hown' hcls hnames h (fun x hx => nomatch hx) hfX hkX hcellA (by rw [hhp, hT]; exact Nat.le_refl _)
    (g := { method := m, pc := pc + 4, locals := ls, stack := .ref T.heap.size :: .ref T.heap.size :: rest, locked := none }) rfl hsize rfl rfl (rest := rest) rfl
    (by rw [hb]; exact d4) (by rw [hb]; exact d7) hout hRframes (by simp only [List.map_cons, List.sum_cons, hcat]; omega) hlocks
  obtain ⟨f1, f2⟩ := vx_frame hsame
  rw [hhp] at f1 f2
  have hWs : s.WarmedH U.vm := State.WarmedH.trans hW0 hW
  have hcl : s.vm.findClass cls = some ce.cls := by
    have h9 := hO.cls
    rw [hvm] at h9
    exact h9
  have hall : s.sameButNew ({ U with vm := s.vm } : State) locs mc ms := by
    subst hA
    obtain ⟨e1, e2⟩ := hsame
    rw [State.setFrames_setFrames] at e1
    have h2 : (T.setVm s.vm).sameButNew ({ U with vm := s.vm } : State) [] (0 + 1) (0 + 6) := ⟨e1, e2⟩
    have h3 := X.same.trans h2
    rw [List.append_nil] at h3
    exact h3.mono hc hs
  refine ⟨U, ?_, .threw T.heap.size, hrun, hend, Or.inr ⟨T.heap.size, rfl, cls, ce, locs, hx U hWs.alike f1 (fun q hq => f2 q hq (fun z hz => nomatch hz)), hce, hO.vm, hcl, hWs, hall, hf⟩⟩
  refine st1 _ ?_
  show Steps p.tables e below (T1.setTop { method := m, pc := pc + 3, locals := ls, stack := .ref T.heap.size :: rest, locked := none }) _
  jvm_step X₁.here [X₁.here.top, hexec, d3', Value.category]
  exact hsteps
/-- 'throw new E("text")': new; dup; ldc; invokespecial; athrow -/
theorem vx_throwS {cc : ByteArray} {pc : Nat} (hexec : p.tables.exec = Jvm.exec) (hb : c.code = cc) (hl : l.stackTraces = false) {own cls text : String} {names : List String} {ik is ic mc ms sa : Nat} {A : Nat → Prop}
    (hown : s.vm.findClass own = some m.cls) (hcls : Bundle.fit cls = true) (hnames : ∀ n ∈ names, Bundle.fit n = true)
    (hk : (Cond.classLink own ik cls).before args s = true) (hini : (Cond.initialized cls).before args s = true) (hstr : vk_R own is text sa s) (hat : ∀ w ∈ vx_atS own ic cls names, w.before args s = true)
    (hgood : ∀ w ∈ Cond.classLink own ik cls :: Cond.initialized cls :: vx_atS own ic cls names, vx_ot w = true)
    (hU : vx_Zq Bundle.tN "UNASSIGNED_STACK" Bundle.steD A s s.heap) (hN : vx_Zq Bundle.tN "SUPPRESSED_SENTINEL" Bundle.listD A s s.heap) (hS : va_S A s.heap H locs) (hsize : ls.size = c.maxLocals)
    (d0 : decode cc pc = .ok (.new ik, 3)) (d3 : decode cc (pc + 3) = .ok (.dup, 1)) (d4 : decode cc (pc + 4) = .ok (.ldc is, 2)) (d6 : decode cc (pc + 6) = .ok (.invokespecial ic, 3)) (d9 : decode cc (pc + 9) = .ok (.athrow, 1))
    (hout : ∀ x ∈ c.exceptionTable.toList, covers x (pc + 9) = false)
    (hRframes : names.length + 3 < R.frames) (hRlocals : (rest.map fun v => v.category).sum + (13 * (names.length + 1) + 43) ≤ R.locals) (hRcells : cells + 1 ≤ R.cells) (hRslots : slots + 6 ≤ R.slots) (hlocks : meth.locks = false)
    (hx : ∀ t : State, s.vm.Alike t.vm → H.size ≤ t.heap.size → (∀ q : Nat, q < H.size → t.heap[q]? = H[q]?) → XC cls s t)
    (hf : ∀ z ∈ locs, free z.base) (hc : cells + 1 ≤ mc) (hs : slots + 6 ≤ ms) :
    W p l e R s m args below meth c H locs cells slots (vx_MQ below Qc XC args s mc ms free) (F0 m pc ls rest) := by
  intro T hT X
  have htr : e.platform.stackTraces = false := (show e.platform.stackTraces = l.stackTraces by rw [X.admits.platform]).trans hl
  have Y := vx_rebase X (R' := { frames := R.frames, locals := R.locals, cells := 1, slots := 6 }) (Nat.le_refl _) (Nat.le_refl _) hRcells hRslots
  obtain ⟨s', hA⟩ : ∃ z, z = (T.setVm s.vm).setFrames (.invoking m args :: below) := ⟨_, rfl⟩
  rw [← hA] at Y
  have hvm : s'.vm = s.vm := by rw [hA]; rfl
  have hhp : s'.heap = H := by rw [hA]; exact hT
  have hW0 : s.WarmedH s'.vm := by rw [hvm]; exact State.WarmedH.refl s
  have hat' : ∀ w ∈ vx_atS own ic cls names, w.before args s' = true := fun w hw => vx_ot_at hW0 hvm.symm (hgood w (List.mem_cons_of_mem _ (List.mem_cons_of_mem _ hw))) (hat w hw)
  have hk' : (Cond.classLink own ik cls).before args s' = true := vx_ot_at hW0 hvm.symm (hgood _ List.mem_cons_self) hk
  have hini' : (Cond.initialized cls).before args s' = true := vx_ot_at hW0 hvm.symm (hgood _ (List.mem_cons_of_mem _ List.mem_cons_self)) hini
  have hU' : vx_Zq Bundle.tN "UNASSIGNED_STACK" Bundle.steD A s' s'.heap := by rw [hhp]; exact vx_Zq.moved hW0.alike (hU.kept hS.2.1)
  have hN' : vx_Zq Bundle.tN "SUPPRESSED_SENTINEL" Bundle.listD A s' s'.heap := by rw [hhp]; exact vx_Zq.moved hW0.alike (hN.kept hS.2.1)
  have h : ∀ w ∈ Bundle.ownAtoms own ic cls names, w.before args s' = true := vx_own hat' (vx_isRefq hU'.1) (vx_isRefq hN'.1) hU'.2.word hN'.2.word
  have hown' : s'.vm.findClass own = some m.cls := by rw [hvm]; exact hown
  have hins : (Cond.instantiable cls 6).before args s' = true := h _ (by simp [Bundle.ownAtoms])
  obtain ⟨vm₁, cX, kX, hfX, hkX, -, -, X₁, st1⟩ := Y.newCold hexec (own := own) (C := cls) (index := ik) (n := 6) hown' hk' hins hini'
    (g := F0 m pc ls rest) rfl (by rw [hb]; exact d0) (Nat.le_refl _) (Nat.le_refl _)
  generalize hT1 : (T.setVm vm₁).pushCell { cls := cX, slots := kX.instanceTypes.map defaultValue, vm := .none } = T1 at X₁ st1
  have hcat : (Value.ref T.heap.size).category = 1 := rfl
  have hcellA : T1.heap[T.heap.size]? = some (freshCell cX kX) := by rw [← hT1]; exact State.heap_pushCell_size _ _
  have d3' : decode c.code (pc + 3) = .ok (.dup, 1) := by rw [hb]; exact d3
  have d4' : decode c.code (pc + 4) = .ok (.ldc is, 2) := by rw [hb]; exact d4
  have hstr' : vk_R own is text sa s' := vk_R.warm hW0 hstr
  obtain ⟨U, hsteps, hrun, hend, hW, hsame, ce, hce, hO⟩ := X₁.ctorThrowS hexec htr (own := own) (cls := cls) (names := names) (ic := ic) hown' hcls hnames h (fun x hx => nomatch hx) hfX hkX hcellA (by rw [hhp, hT]; exact Nat.le_refl _) (msg := .ref sa) rfl
    (g := { method := m, pc := pc + 6, locals := ls, stack := .ref sa :: .ref T.heap.size :: .ref T.heap.size :: rest, locked := none }) rfl hsize rfl rfl (rest := rest) rfl
    (by rw [hb]; exact d6) (by rw [hb]; exact d9) hout hRframes (by simp only [List.map_cons, List.sum_cons, hcat]; omega) hlocks
  obtain ⟨f1, f2⟩ := vx_frame hsame
  rw [hhp] at f1 f2
  have hWs : s.WarmedH U.vm := State.WarmedH.trans hW0 hW
  have hcl : s.vm.findClass cls = some ce.cls := by
    have h9 := hO.cls
    rw [hvm] at h9
    exact h9
  have hall : s.sameButNew ({ U with vm := s.vm } : State) locs mc ms := by
    subst hA
    obtain ⟨e1, e2⟩ := hsame
    rw [State.setFrames_setFrames] at e1
    have h2 : (T.setVm s.vm).sameButNew ({ U with vm := s.vm } : State) [] (0 + 1) (0 + 6) := ⟨e1, e2⟩
    have h3 := X.same.trans h2
    rw [List.append_nil] at h3
    exact h3.mono hc hs
  refine ⟨U, ?_, .threw T.heap.size, hrun, hend, Or.inr ⟨T.heap.size, rfl, cls, ce, locs, hx U hWs.alike f1 (fun q hq => f2 q hq (fun z hz => nomatch hz)), hce, hO.vm, hcl, hWs, hall, hf⟩⟩
  refine st1 _ ?_
  show Steps p.tables e below (T1.setTop { method := m, pc := pc + 3, locals := ls, stack := .ref T.heap.size :: rest, locked := none }) _
  jvm_step X₁.here [X₁.here.top, hexec, d3', Value.category]
  exact X₁.ldcString hexec (own := own) (text := text) (index := is) (a := sa) hown' hstr'.1 hstr'.2
    (g := { method := m, pc := pc + 4, locals := ls, stack := .ref T.heap.size :: .ref T.heap.size :: rest, locked := none }) rfl d4' _ hsteps
/-- 'throw new E("text")', the text by a wide index -/
theorem vx_throwSW {cc : ByteArray} {pc : Nat} (hexec : p.tables.exec = Jvm.exec) (hb : c.code = cc) (hl : l.stackTraces = false) {own cls text : String} {names : List String} {ik is ic mc ms sa : Nat} {A : Nat → Prop}
    (hown : s.vm.findClass own = some m.cls) (hcls : Bundle.fit cls = true) (hnames : ∀ n ∈ names, Bundle.fit n = true)
    (hk : (Cond.classLink own ik cls).before args s = true) (hini : (Cond.initialized cls).before args s = true) (hstr : vk_R own is text sa s) (hat : ∀ w ∈ vx_atS own ic cls names, w.before args s = true)
    (hgood : ∀ w ∈ Cond.classLink own ik cls :: Cond.initialized cls :: vx_atS own ic cls names, vx_ot w = true)
    (hU : vx_Zq Bundle.tN "UNASSIGNED_STACK" Bundle.steD A s s.heap) (hN : vx_Zq Bundle.tN "SUPPRESSED_SENTINEL" Bundle.listD A s s.heap) (hS : va_S A s.heap H locs) (hsize : ls.size = c.maxLocals)
    (d0 : decode cc pc = .ok (.new ik, 3)) (d3 : decode cc (pc + 3) = .ok (.dup, 1)) (d4 : decode cc (pc + 4) = .ok (.ldc_w is, 3)) (d7 : decode cc (pc + 7) = .ok (.invokespecial ic, 3)) (d10 : decode cc (pc + 10) = .ok (.athrow, 1))
    (hout : ∀ x ∈ c.exceptionTable.toList, covers x (pc + 10) = false)
    (hRframes : names.length + 3 < R.frames) (hRlocals : (rest.map fun v => v.category).sum + (13 * (names.length + 1) + 43) ≤ R.locals) (hRcells : cells + 1 ≤ R.cells) (hRslots : slots + 6 ≤ R.slots) (hlocks : meth.locks = false)
    (hx : ∀ t : State, s.vm.Alike t.vm → H.size ≤ t.heap.size → (∀ q : Nat, q < H.size → t.heap[q]? = H[q]?) → XC cls s t)
    (hf : ∀ z ∈ locs, free z.base) (hc : cells + 1 ≤ mc) (hs : slots + 6 ≤ ms) :
    W p l e R s m args below meth c H locs cells slots (vx_MQ below Qc XC args s mc ms free) (F0 m pc ls rest) := by
  intro T hT X
  have htr : e.platform.stackTraces = false := (show e.platform.stackTraces = l.stackTraces by rw [X.admits.platform]).trans hl
  have Y := vx_rebase X (R' := { frames := R.frames, locals := R.locals, cells := 1, slots := 6 }) (Nat.le_refl _) (Nat.le_refl _) hRcells hRslots
  obtain ⟨s', hA⟩ : ∃ z, z = (T.setVm s.vm).setFrames (.invoking m args :: below) := ⟨_, rfl⟩
  rw [← hA] at Y
  have hvm : s'.vm = s.vm := by rw [hA]; rfl
  have hhp : s'.heap = H := by rw [hA]; exact hT
  have hW0 : s.WarmedH s'.vm := by rw [hvm]; exact State.WarmedH.refl s
  have hat' : ∀ w ∈ vx_atS own ic cls names, w.before args s' = true := fun w hw => vx_ot_at hW0 hvm.symm (hgood w (List.mem_cons_of_mem _ (List.mem_cons_of_mem _ hw))) (hat w hw)
  have hk' : (Cond.classLink own ik cls).before args s' = true := vx_ot_at hW0 hvm.symm (hgood _ List.mem_cons_self) hk
  have hini' : (Cond.initialized cls).before args s' = true := vx_ot_at hW0 hvm.symm (hgood _ (List.mem_cons_of_mem _ List.mem_cons_self)) hini
  have hU' : vx_Zq Bundle.tN "UNASSIGNED_STACK" Bundle.steD A s' s'.heap := by rw [hhp]; exact vx_Zq.moved hW0.alike (hU.kept hS.2.1)
  have hN' : vx_Zq Bundle.tN "SUPPRESSED_SENTINEL" Bundle.listD A s' s'.heap := by rw [hhp]; exact vx_Zq.moved hW0.alike (hN.kept hS.2.1)
  have h : ∀ w ∈ Bundle.ownAtoms own ic cls names, w.before args s' = true := vx_own hat' (vx_isRefq hU'.1) (vx_isRefq hN'.1) hU'.2.word hN'.2.word
  have hown' : s'.vm.findClass own = some m.cls := by rw [hvm]; exact hown
  have hins : (Cond.instantiable cls 6).before args s' = true := h _ (by simp [Bundle.ownAtoms])
  obtain ⟨vm₁, cX, kX, hfX, hkX, -, -, X₁, st1⟩ := Y.newCold hexec (own := own) (C := cls) (index := ik) (n := 6) hown' hk' hins hini'
    (g := F0 m pc ls rest) rfl (by rw [hb]; exact d0) (Nat.le_refl _) (Nat.le_refl _)
  generalize hT1 : (T.setVm vm₁).pushCell { cls := cX, slots := kX.instanceTypes.map defaultValue, vm := .none } = T1 at X₁ st1
  have hcat : (Value.ref T.heap.size).category = 1 := rfl
  have hcellA : T1.heap[T.heap.size]? = some (freshCell cX kX) := by rw [← hT1]; exact State.heap_pushCell_size _ _
  have d3' : decode c.code (pc + 3) = .ok (.dup, 1) := by rw [hb]; exact d3
  have d4' : decode c.code (pc + 4) = .ok (.ldc_w is, 3) := by rw [hb]; exact d4
  have hstr' : vk_R own is text sa s' := vk_R.warm hW0 hstr
  obtain ⟨U, hsteps, hrun, hend, hW, hsame, ce, hce, hO⟩ := X₁.ctorThrowS hexec htr (own := own) (cls := cls) (names := names) (ic := ic) hown' hcls hnames h (fun x hx => nomatch hx) hfX hkX hcellA (by rw [hhp, hT]; exact Nat.le_refl _) (msg := .ref sa) rfl
    (g := { method := m, pc := pc + 7, locals := ls, stack := .ref sa :: .ref T.heap.size :: .ref T.heap.size :: rest, locked := none }) rfl hsize rfl rfl (rest := rest) rfl
    (by rw [hb]; exact d7) (by rw [hb]; exact d10) hout hRframes (by simp only [List.map_cons, List.sum_cons, hcat]; omega) hlocks
  obtain ⟨f1, f2⟩ := vx_frame hsame
  rw [hhp] at f1 f2
  have hWs : s.WarmedH U.vm := State.WarmedH.trans hW0 hW
  have hcl : s.vm.findClass cls = some ce.cls := by
    have h9 := hO.cls
    rw [hvm] at h9
    exact h9
  have hall : s.sameButNew ({ U with vm := s.vm } : State) locs mc ms := by
    subst hA
    obtain ⟨e1, e2⟩ := hsame
    rw [State.setFrames_setFrames] at e1
    have h2 : (T.setVm s.vm).sameButNew ({ U with vm := s.vm } : State) [] (0 + 1) (0 + 6) := ⟨e1, e2⟩
    have h3 := X.same.trans h2
    rw [List.append_nil] at h3
    exact h3.mono hc hs
  refine ⟨U, ?_, .threw T.heap.size, hrun, hend, Or.inr ⟨T.heap.size, rfl, cls, ce, locs, hx U hWs.alike f1 (fun q hq => f2 q hq (fun z hz => nomatch hz)), hce, hO.vm, hcl, hWs, hall, hf⟩⟩
  refine st1 _ ?_
  show Steps p.tables e below (T1.setTop { method := m, pc := pc + 3, locals := ls, stack := .ref T.heap.size :: rest, locked := none }) _
  jvm_step X₁.here [X₁.here.top, hexec, d3', Value.category]
  exact X₁.ldcStringW hexec (own := own) (text := text) (index := is) (a := sa) hown' hstr'.1 hstr'.2
    (g := { method := m, pc := pc + 4, locals := ls, stack := .ref T.heap.size :: .ref T.heap.size :: rest, locked := none }) rfl d4' _ hsteps
end Ends
section Bodies
variable {l : Launch}
theorem vx_ofW {y : MethodName} {ws ws' : List Cond} {rm : Room} {Pc : Array Value → State → Prop} {Qc : Array Value → State → Outcome → State → Prop} {XC : String → State → State → Prop} {mc ms : Nat} {free : Addr → Prop} {cc : ByteArray} {maxL : Nat} {ret : Option FieldType}
    (hy : plainName y.cls = true) (hw : ws = Cond.code y cc maxL ret :: ws')
    (body : ∀ p e s m args below meth c s₁, BodyLoose p l y (headSpec ws rm) cc maxL ret e s m args below meth c s₁ → c.maxLocals = maxL → (∀ x ∈ c.exceptionTable.toList, False) → Pc args s →
      W p l e (headSpec ws rm).room s m args below meth c s.heap [] 0 0 (vx_MQ below Qc XC args s mc ms free) (entryFrame m args maxL)) : vx_Met l y ws rm Pc Qc XC mc ms free := by
  refine MetFree.of_bodyS (code := cc) (maxLocals := maxL) (ret := ret) hy ?_ ?_
  · intro args s m h hn
    obtain ⟨meth, c, h1, h2, h3, h4, h5, h6, -, -⟩ := Cond.code_spec hn (atoms_spec (ws := ws) h _ (by rw [hw]; exact List.mem_cons_self))
    exact ⟨meth, c, h1, h2, h3, h4, h5, h6⟩
  · intro p e s m args below meth c s₁ B hml hP _
    have hh0 : s₁.heap = s.heap := by rw [B.state]; rfl
    have ht : ∀ x ∈ c.exceptionTable.toList, False := by
      obtain ⟨meth9, c9, h1, h2, -, -, -, -, h7, -⟩ := Cond.code_spec B.named (atoms_spec (ws := ws) B.pre _ (by rw [hw]; exact List.mem_cons_self))
      cases Option.some.inj (h1.symm.trans B.method)
      cases Option.some.inj (h2.symm.trans (Stand.of_body B).code)
      intro x hx
      rw [Array.isEmpty_iff.mp h7] at hx
      cases hx
    obtain ⟨t, a1, o, b1, b2, b3⟩ := body p e s m args below meth c s₁ B hml ht hP s₁ hh0 (Stand.of_body B)
    exact ⟨t, o, a1, b1, b2, b3⟩
/-- the table of a body with handlers -/
theorem vx_table {p : Program} {x y : MethodName} {S : Spec} {cc bytes : ByteArray} {maxL maxL' : Nat} {ret ret' : Option FieldType} {e : Env} {s s₁ : State} {m : MethodId} {args : Array Value} {below : List Frame} {meth : Method} {c : Code} {hh : List (Nat × Nat × Nat × Nat)}
    (B : BodyLoose p l y S cc maxL ret e s m args below meth c s₁) (h : (Cond.codeWith y bytes maxL' ret' hh).before args s = true) : c.exceptionTable.toList = tableOf hh := by
  obtain ⟨m9, meth9, c9, hn9, h1, h2, -, -, h6, -⟩ := Cond.codeWith_spec h
  cases Option.some.inj (hn9.symm.trans B.named)
  cases Option.some.inj (h1.symm.trans B.method)
  cases Option.some.inj (h2.symm.trans (Stand.of_body B).code)
  rw [← h6, table_eq]
end Bodies
end VXA
/-! ===== END ===== -/
/-! ===== BEGIN a static call of a method with an exception table ===== -/
section VXS
variable {p : Program} {l : Launch} {e : Env} {R : Room} {s : State} {m : MethodId} {args : Array Value} {below : List Frame} {meth : Method} {c : Code} {T : State} {H : Heap} {locs : List Loc} {cells slots : Nat}
abbrev vx_CSW (R : Room) (s : State) (args : Array Value) (own : String) (index : Nat) (y : MethodName) (bytes : ByteArray) (maxL : Nat) (ret : Option FieldType) (hh : List (Nat × Nat × Nat × Nat)) (ws : List Cond) (rm : Room) (mc ms n : Nat) : Prop :=
  (rm.cells = mc ∧ rm.slots = ms ∧ rm.frames + 1 ≤ R.frames ∧ 8 + (maxL + 11) + rm.locals ≤ R.locals ∧ (∀ w ∈ ws, ∀ (a' : Array Value) (U : State), s.WarmedH U.vm → w.before a' U = true) ∧ Cond.codeWith y bytes maxL ret hh ∈ ws) ∧
  (Cond.codeWith y bytes maxL ret hh).before args s = true ∧ (Cond.initialized y.cls).before args s = true ∧ (y.cls ≠ "java/lang/invoke/MethodHandle" ∧ y.cls ≠ "java/lang/invoke/VarHandle") ∧
  (∀ sig, parseMethodDescriptor y.desc = some sig → n = sig.parameters.length) ∧ (Cond.methodLink own index y).before args s = true ∧ (Cond.static y).before args s = true
theorem vx_cwSW {own : String} {index maxL mc ms : Nat} {y : MethodName} {bytes : ByteArray} {ret : Option FieldType} {hh : List (Nat × Nat × Nat × Nat)} {Ts ws ws' : List Cond} {rm : Room} (n : Nat) (ht : ∀ w ∈ Ts, w.before args s = true) (hT : GoodIn Ts (va_wsS own index y ws)) (hw : ws = Cond.codeWith y bytes maxL ret hh :: ws') (hrc : rm.cells = mc) (hrs : rm.slots = ms)
    (hd : y.cls ≠ "java/lang/invoke/MethodHandle" ∧ y.cls ≠ "java/lang/invoke/VarHandle" ∧ (parseMethodDescriptor y.desc).map (fun d => d.parameters.length) = some n) (hR : rm.frames + 1 ≤ R.frames ∧ 8 + (maxL + 11) + rm.locals ≤ R.locals) :
    vx_CSW R s args own index y bytes maxL ret hh ws rm mc ms n := by
  have ok : ∀ w ∈ va_wsS own index y ws, w.before args s = true := fun w h => ht w (hT w h).1
  have hG : GoodIn Ts ws := fun w h => hT w (by unfold va_wsS; exact List.mem_append_right _ h)
  have hc : Cond.codeWith y bytes maxL ret hh ∈ ws := by rw [hw]; exact List.mem_cons_self
  refine ⟨⟨hrc, hrs, hR.1, hR.2, pay_in ht hG, hc⟩, ht _ (hG _ hc).1, ok _ (by simp [va_wsS]), ⟨hd.1, hd.2.1⟩, fun sig h => ?_, ok _ (by simp [va_wsS]), ok _ (by simp [va_wsS])⟩
  have h2 := hd.2.2
  rw [h] at h2
  exact (Option.some.inj h2).symm
theorem vx_callSW (X : Stand p l e R s m args below meth c T locs cells slots) (hexec : p.tables.exec = Jvm.exec) {own : String} {index : Nat} {y : MethodName} {bytes : ByteArray} {maxL : Nat} {ret : Option FieldType} {hh : List (Nat × Nat × Nat × Nat)}
    (hown : s.vm.findClass own = some m.cls) (hlink : (Cond.methodLink own index y).before args s = true) (hstat : (Cond.static y).before args s = true) (hinit : (Cond.initialized y.cls).before args s = true)
    (hcode : (Cond.codeWith y bytes maxL ret hh).before args s = true) (hy : y.cls ≠ "java/lang/invoke/MethodHandle" ∧ y.cls ≠ "java/lang/invoke/VarHandle")
    {W9 : Nat} {Pre : Pt → Array Value → Prop} {Post : Pt → Array Value → Option Value → Pt → Prop} (hK : Back l R p e below s args y 3 W9 Pre Post)
    {g : JFrame} (hg : g.method = m) (hsize : g.locals.size = c.maxLocals) {argsL rest : List Value} (hlen : ∀ sig, parseMethodDescriptor y.desc = some sig → argsL.length = sig.parameters.length)
    (hstack : g.stack = argsL.reverse ++ rest) (hW : 2 * g.monitorRoom + (rest.map fun v => v.category).sum ≤ W9) (hdg : decode c.code g.pc = .ok (.invokestatic index, 3))
    (hpre : ∀ vm₁, s.WarmedH vm₁ → Pre ⟨T.setVm vm₁, locs, cells, slots⟩ argsL.toArray) :
    ∃ (v : Option Value) (vm₁ : Vm) (B : Pt), s.WarmedH vm₁ ∧ Stand p l e R s m args below meth c B.U B.locs B.cells B.slots ∧ Post ⟨T.setVm vm₁, locs, cells, slots⟩ argsL.toArray v B ∧
      ∀ target, Steps p.tables e below (B.U.setTop { g with pc := g.pc + 3, stack := v.toList ++ rest }) target → Steps p.tables e below (T.setTop g) target := by
  obtain ⟨mk, methM, cM, hnamed, hmethM, -, -, -, -, -, -, hsigM⟩ := Cond.codeWith_spec hcode
  have hstatic : methM.isStatic = true := Cond.static_spec hnamed hmethM hstat
  obtain ⟨kP, hkP, -⟩ := className_of_methodNamed hnamed
  have hinitP : kP.init = .initialized := Cond.initialized_spec (findClass_of_methodNamed hnamed) hkP hinit
  obtain ⟨vm₁, X₁, hstep₁⟩ := X.invokestatic hexec hown hlink hnamed hmethM hstatic hkP hinitP hy (g := g) hg (argsL := argsL) (rest := rest) (hlen _ hsigM) hstack hdg
  obtain ⟨v, B, X', hpost, hsteps⟩ := hK m meth c ⟨T.setVm vm₁, locs, cells, slots⟩ { g with stack := rest } (.invokestatic index) mk argsL.toArray X₁ hg hsize hdg hW (X₁.named hnamed) (hpre vm₁ X₁.warmed)
  exact ⟨v, vm₁, B, X₁.warmed, X', hpost, fun target h => hstep₁ _ fun acts => by rw [doInvoke_state]; exact hsteps.trans h⟩
theorem vx_runSW {y : MethodName} {bytes cc : ByteArray} {maxL nL mc ms n index : Nat} {ret : Option FieldType} {hh : List (Nat × Nat × Nat × Nat)} {ws : List Cond} {rm : Room} {Pc : Array Value → State → Prop} {Qc : Array Value → State → Outcome → State → Prop} {free : Addr → Prop} {Ts : List Cond} {own : String} {As rest : List Value} {g : JFrame}
    (S : CallFix p m c cc nL s args Ts own) (hM : Met l y ws rm Pc Qc mc ms free) (cw : vx_CSW R s args own index y bytes maxL ret hh ws rm mc ms n) (hp : PreS s H Pc As)
    (hg : g.method = m) (hn : As.length = n) (hsize : g.locals.size = nL) (hstack : g.stack = As.reverse ++ rest) (hW : 2 * g.monitorRoom + (rest.map fun v => v.category).sum ≤ 8) (hdg : decode cc g.pc = .ok (.invokestatic index, 3)) (hf : cells + mc ≤ R.cells ∧ slots + ms ≤ R.slots) :
    va_Run p l e R s m args below meth c H locs cells slots mc ms g rest (Qc As.toArray) (free) := by
  obtain ⟨⟨hrc, hrs, hfr, hlo, hws, hcw⟩, hcode, hini, hy, hlen, hl, hstt⟩ := cw
  have hK : Back l R p e below s args y 3 8 (PreOf R mc ms Pc) (PostOf Qc mc ms free) := va_backW (hh := hh) (bytes := bytes) (maxL := maxL) (ret := ret) hM hp.1 hrc hrs hfr hlo hws hcw (fun a' U hW => word_at hW (Or.inl (by first | rfl | simp [Cond.onTables, Cond.keeps, Cond.steady])) hini)
  obtain ⟨hx, hb, hml, ho, -⟩ := S
  intro T hT X
  obtain ⟨v, vm₁, ⟨U', l2, c2, s2⟩, hW₁, X', ⟨g', mk, t, L, e1, e2, hq, h1, hL, h2, h3⟩, st⟩ := vx_callSW X hx (hh := hh) (bytes := bytes) (maxL := maxL) (ret := ret) ho hl hstt hini hcode hy hK hg (hsize.trans hml.symm) (argsL := As) (rest := rest) (fun sig h => hn.trans (hlen sig h)) hstack hW (by rw [hb]; exact hdg)
    (fun vm₁ hW₁ => ⟨hf.1, hf.2, hp.2 (T.setVm vm₁) hT hW₁⟩)
  dsimp only [Pt.U, Pt.locs, Pt.cells, Pt.slots] at X' e1 e2 h1 h2 h3 st
  subst h1; subst h2; subst h3
  exact ⟨v, (T.setVm vm₁).calling g' mk As.toArray, t, U', L, hT, X', hL, e1, e2, hq, st⟩
/-- not caught here, past rows that name other classes: it goes on to the caller -/
theorem vx_outP {p : Program} {l : Launch} {e : Env} {R : Room} {s : State} {m : MethodId} {args : Array Value} {below : List Frame} {meth : Method} {c : Code} {H : Heap} {locs : List Loc} {cells slots : Nat} {free : Addr → Prop} {ls : Array Slot} {rest : List Value} {Qc : Array Value → State → Outcome → State → Prop} {XC : String → State → State → Prop}
    {pc : Nat} {own E : String} {ce : Cell} {q : Addr} {mc ms : Nat} (hown : s.vm.findClass own = some m.cls) (hlocks : meth.locks = false)
    (hpass : ∀ z ∈ c.exceptionTable.toList, covers z pc = false ∨ (z.catchType ≠ 0 ∧ ∃ nm : String, (Cond.classLink own z.catchType nm).before args s = true ∧ va_Nc E nm s)) (hcell : H[q]? = some ce) (hv : ce.vm = .none) (hcl : s.vm.findClass E = some ce.cls)
    (hx : ∀ t : State, t.heap = H → s.vm.Alike t.vm → XC E s t) (hf : ∀ z ∈ locs, free z.base) (hc : cells ≤ mc) (hs : slots ≤ ms) :
    vx_W p l e R s m args below meth c H locs cells slots (vx_MQ below Qc XC args s mc ms free) (F0 m pc ls rest) q := by
  intro T hT X
  have hpl : e.platform.magicAccessors = ({} : Platform).magicAccessors := by rw [X.admits.platform]
  obtain ⟨vm', hW', X', st⟩ := X.outThrough hlocks q (g := F0 m pc ls rest) rfl rfl rfl (cell := ce) (by rw [hT]; exact hcell) (by rw [hv]; rfl)
    (by obtain ⟨k9, h9, -⟩ := Vm.findClass_spec hcl; exact ⟨k9, h9⟩) (fun z hz => by
      rcases hpass z hz with h | ⟨hz0, nm, hl1, hn1⟩
      · exact Or.inl h
      · obtain ⟨c6, hc6, hcl6⟩ := Cond.classLink_spec hown hl1 e.platform hpl
        obtain ⟨a8, b8, h1, h2, h3⟩ := hn1
        cases Option.some.inj (h1.symm.trans hcl)
        cases Option.some.inj (h2.symm.trans hc6)
        exact Or.inr ⟨hz0, _, hcl6, h3⟩)
  obtain ⟨g₀, hfr⟩ := X'.frames_eq
  have hcell9 : ((T.setVm vm').setFrames (.throwing q :: below)).heap[q]? = some ce := by
    show T.heap[q]? = some ce
    rw [hT]; exact hcell
  have hend : Ended ((T.setVm vm').setFrames (.throwing q :: below)) below (.threw q) := State.frames_setFrames _ (State.cur_lt_of_frames hfr)
  refine ⟨(T.setVm vm').setFrames (.throwing q :: below), ?_, .threw q, X'.here.running, hend, Or.inr ⟨q, rfl, E, ce, locs, hx _ hT (X'.ends _).1.alike, hcell9, hv, hcl, (X'.ends _).1, (X'.ends _).2.mono hc hs, hf⟩⟩
  rw [X.pushThrowing_eq]
  exact st
/-- a thing of a world lies in the heap -/
theorem vx_lt {D : va_G} {cl : List vw_C} {ws : va_W} {H1 : Heap} (h : va_P D cl ws H1) {k : Nat} {q : Nat × va_E} (hk : ws[k]? = some q) : q.1 < H1.size := (h k q hk).lt
end VXS
/-! ===== END ===== -/
/-! ===== BEGIN methods with a table of their own: called by a name, returning or throwing ===== -/
section VXH
/-! vx_backW, vx_callVX, vx_callSX, vx_callVW, vx_runVW, vx_runVX, vx_runSX, vx_ofWH follow the same proofs as their sisters above (Free/Laws.lean, Shelf42/LK1.lean); vx_outP calls Shelf42/NT130.lean (outThrough). -/
section
variable {l : Launch} {R : Room} {p : Program} {e : Env} {below : List Frame} {s : State} {sargs : Array Value} {y : MethodName} {len W9 : Nat}
theorem vx_backW {ws : List Cond} {rm : Room} {Pc : Array Value → State → Prop} {Qc : Array Value → State → Outcome → State → Prop} {XC : String → State → State → Prop} {mc ms : Nat} {free : Addr → Prop} {bytes : ByteArray} {maxL : Nat} {ret : Option FieldType} {hh : List (Nat × Nat × Nat × Nat)}
    (hM : vx_Met l y ws rm Pc Qc XC mc ms free) (hblind : FrameBlind Pc) (hrc : rm.cells = mc) (hrs : rm.slots = ms)
    (hframes : rm.frames + 1 ≤ R.frames) (hlocals : W9 + (maxL + 11) + rm.locals ≤ R.locals)
    (hws : ∀ w ∈ ws, ∀ a' U, s.WarmedH U.vm → w.before a' U = true) (hcode : Cond.codeWith y bytes maxL ret hh ∈ ws) (hinit : ∀ a' U, s.WarmedH U.vm → (Cond.initialized y.cls).before a' U = true) :
    vx_Back l R p e below s sargs y len W9 (PreOf R mc ms Pc) (PostOf Qc mc ms free) (vx_Post XC mc ms free) := by
  intro m meth c A g ig mk a X hg hsize hdg hW hn hp
  have h1 : (headSpec ws rm).pre.before a A.U = true := atoms_intro fun w hw => hws w hw _ _ X.warmed
  have h2 : (Cond.codeWith y bytes maxL ret hh).before a A.U = true := hws _ hcode _ _ X.warmed
  have h3 : (Cond.initialized y.cls).before a A.U = true := hinit _ _ X.warmed
  have h4 : A.cells + (headSpec ws rm).room.cells ≤ R.cells := by rw [show (headSpec ws rm).room.cells = mc from hrc]; exact hp.1
  have h5 : A.slots + (headSpec ws rm).room.slots ≤ R.slots := by rw [show (headSpec ws rm).room.slots = ms from hrs]; exact hp.2.1
  have hPc : Pc a (A.U.calling g mk a) := hblind _ _ _ _ hp.2.2
  obtain ⟨U, Ls, c0, s0⟩ := A
  dsimp only [Pt.U, Pt.locs, Pt.cells, Pt.slots] at h1 h2 h3 h4 h5 X hn hPc ⊢
  obtain ⟨m9, methY, cY, hn9, hmY, hcY, -, hlY, -⟩ := Cond.codeWith_spec h2
  cases Option.some.inj (hn9.symm.trans hn)
  obtain ⟨kY, hkY, -⟩ := className_of_methodNamed hn
  have hinitY : kY.init = .initialized := Cond.initialized_spec (findClass_of_methodNamed hn) hkY h3
  have h : At U g.method c below := by rw [hg]; exact X.here
  have hlocals9 : W9 + (maxL + 11) + (headSpec ws rm).room.locals ≤ R.locals := hlocals
  have happ : (headSpec ws rm).appliesLoose y e.platform (U.calling g mk a) = true :=
    Spec.appliesLoose_calling (g := g) h hdg hn hkY hinitY
      (X.room_calling (g := g) (R' := (headSpec ws rm).room) hsize hmY hcY hframes (by rw [hlY]; omega) h4 h5) h1
  obtain ⟨mid, hmid⟩ := h.above
  have hfr : (U.setTop g).frames = (.java g :: mid) ++ below := by rw [State.frames_setTop' g h.top, hmid]; rfl
  obtain ⟨o, s₂, hsteps, -, hend, hq⟩ := Steps.callFree hM p X.admits X.cas X.clock (acts := []) hfr happ hPc trivial
  have hq' : vx_Q Qc XC mc ms free a (U.calling g mk a) o s₂ := hq
  rw [State.frames_setTop' g h.top] at hend
  obtain ⟨g₀, hg0⟩ := Option.isSome_iff_exists.mp h.top
  obtain ⟨r, hr⟩ := State.topJava?_eq_some.mp hg0
  have hr' : (({ U with heap := s₂.heap, slotsUsed := s₂.slotsUsed } : State).setVm s₂.vm).frames = .java g₀ :: r := hr
  rcases hq' with ⟨hqc, L, hfe, hL⟩ | ⟨q, rfl, E, ce, L, hx, hce, hcv, hcl, hW₂, hsm, hL⟩
  · obtain ⟨⟨v, rfl⟩, hW₂, e2, q2, q3, q4, q5, q6⟩ := id hfe
    have e3 : s₂ = ({ (U.calling g mk a).setFrames s₂.frames with heap := s₂.heap, slotsUsed := s₂.slotsUsed } : State).setVm s₂.vm := by
      have : s₂ = ({ s₂ with vm := (U.calling g mk a).vm } : State).setVm s₂.vm := rfl
      rw [e2] at this
      exact this
    obtain ⟨c₂, i₂, len₂, hc₂, hd₂, hf₂⟩ := hend
    have hW' : U.WarmedH s₂.vm := hW₂
    have hcc : c₂ = c := by
      have h1 : s₂.code? g.method = U.code? g.method := by
        rw [State.code?_eq, State.code?_eq, hW'.alike.method?]
      exact Option.some.inj (hc₂.symm.trans (h1.trans h.code))
    subst hcc
    have hlen : len₂ = len := by rw [hdg] at hd₂; cases hd₂; rfl
    subst hlen
    have hs₂ : s₂ = (({ U with heap := s₂.heap, slotsUsed := s₂.slotsUsed } : State).setVm s₂.vm).setTop { g with pc := g.pc + len₂, stack := v.toList ++ g.stack } := by
      refine e3.trans ?_
      rw [hf₂, State.calling_eq h.top, State.setFrames_setFrames, State.setTop_of_frames _ hr', hr]
      rfl
    have hsame : U.sameButNew ({ U with heap := s₂.heap, slotsUsed := s₂.slotsUsed } : State) L mc ms := by
      refine ⟨?_, q2, q3, q4, q5, q6⟩
      obtain ⟨t, ht, -⟩ := State.frames_cons hr
      show ({ U with heap := s₂.heap, slotsUsed := s₂.slotsUsed } : State) = { U.setFrames U.frames with heap := s₂.heap, slotsUsed := s₂.slotsUsed }
      rw [State.setFrames_self ht]
    subst hg
    refine Or.inl ⟨v, ⟨(({ U with heap := s₂.heap, slotsUsed := s₂.slotsUsed } : State).setVm s₂.vm), Ls ++ L, c0 + mc, s0 + ms⟩,
      ⟨X.admits, X.cas, X.clock, X.frames, X.room, X.hears, X.method, X.code, (X.here.setHeapUsed s₂.heap s₂.slotsUsed).setVm hW'.alike, X.tail, State.WarmedH.trans X.warmed hW', X.limits, X.bytes, X.same.trans (hsame.setVm s.vm)⟩,
      ⟨g, mk, s₂, L, rfl, rfl, hqc, rfl, hL, rfl, rfl⟩, ?_⟩
    show Steps p.tables e below _ ((({ U with heap := s₂.heap, slotsUsed := s₂.slotsUsed } : State).setVm s₂.vm).setTop { g with pc := g.pc + len₂, stack := v.toList ++ g.stack })
    rw [← hs₂]
    exact hsteps
  · obtain ⟨e2, q2, q3, q4, q5, q6⟩ := id hsm
    have e3 : s₂ = ({ (U.calling g mk a).setFrames s₂.frames with heap := s₂.heap, slotsUsed := s₂.slotsUsed } : State).setVm s₂.vm := by
      have : s₂ = ({ s₂ with vm := (U.calling g mk a).vm } : State).setVm s₂.vm := rfl
      rw [e2] at this
      exact this
    have hf₂ : s₂.frames = .throwing q :: .java g :: U.frames.tail := hend
    have hW' : U.WarmedH s₂.vm := hW₂
    have hs₂ : s₂ = ((({ U with heap := s₂.heap, slotsUsed := s₂.slotsUsed } : State).setVm s₂.vm).setTop g).pushFrame (.throwing q) := by
      refine e3.trans ?_
      rw [hf₂, State.calling_eq h.top, State.setFrames_setFrames, State.pushFrame, State.frames_setTop _ hr', State.setTop_of_frames _ hr', State.setFrames_setFrames, hr]
      rfl
    have hsame : U.sameButNew ({ U with heap := s₂.heap, slotsUsed := s₂.slotsUsed } : State) L mc ms := by
      refine ⟨?_, q2, q3, q4, q5, q6⟩
      obtain ⟨t, ht, -⟩ := State.frames_cons hr
      show ({ U with heap := s₂.heap, slotsUsed := s₂.slotsUsed } : State) = { U.setFrames U.frames with heap := s₂.heap, slotsUsed := s₂.slotsUsed }
      rw [State.setFrames_self ht]
    subst hg
    refine Or.inr ⟨q, ⟨(({ U with heap := s₂.heap, slotsUsed := s₂.slotsUsed } : State).setVm s₂.vm), Ls ++ L, c0 + mc, s0 + ms⟩,
      ⟨X.admits, X.cas, X.clock, X.frames, X.room, X.hears, X.method, X.code, (X.here.setHeapUsed s₂.heap s₂.slotsUsed).setVm hW'.alike, X.tail, State.WarmedH.trans X.warmed hW', X.limits, X.bytes, X.same.trans (hsame.setVm s.vm)⟩,
      ⟨g, mk, s₂, L, E, ce, rfl, rfl, hx, hce, hcv, hcl, rfl, hL, rfl, rfl⟩, ?_⟩
    show Steps p.tables e below _ (((({ U with heap := s₂.heap, slotsUsed := s₂.slotsUsed } : State).setVm s₂.vm).setTop g).pushFrame (.throwing q))
    rw [← hs₂]
    exact hsteps
end
variable {p : Program} {l : Launch} {e : Env} {R : Room} {s : State} {m : MethodId} {args : Array Value} {below : List Frame} {meth : Method} {c : Code} {T : State} {H : Heap} {locs : List Loc} {cells slots : Nat}
theorem vx_callVX (X : Stand p l e R s m args below meth c T locs cells slots) (hexec : p.tables.exec = Jvm.exec) {own C : String} {index : Nat} {y : MethodName} {bytes : ByteArray} {maxL : Nat} {ret : Option FieldType} {hh : List (Nat × Nat × Nat × Nat)}
    (hown : s.vm.findClass own = some m.cls) (hlink : (Cond.methodLink own index y).before args s = true) (hinst : (Cond.instanceMethod y).before args s = true) (hsel : (Cond.selects C y y).before args s = true)
    (hcode : (Cond.codeWith y bytes maxL ret hh).before args s = true) (hy : y.cls ≠ "java/lang/invoke/MethodHandle" ∧ y.cls ≠ "java/lang/invoke/VarHandle")
    {W9 : Nat} {Pre : Pt → Array Value → Prop} {Post : Pt → Array Value → Option Value → Pt → Prop} {PostX : Pt → Array Value → Addr → Pt → Prop} (hK : vx_Back l R p e below s args y 3 W9 Pre Post PostX)
    {b : Addr} {cellB : Cell} (hcell : T.heap[b]? = some cellB) (hobj : cellB.vm.isStatics = false) (hcls : s.vm.findClass C = some cellB.cls)
    {g : JFrame} (hg : g.method = m) (hsize : g.locals.size = c.maxLocals) {argsL rest : List Value} (hlen : ∀ sig, parseMethodDescriptor y.desc = some sig → argsL.length = sig.parameters.length)
    (hstack : g.stack = argsL.reverse ++ .ref b :: rest) (hW : 2 * g.monitorRoom + (rest.map fun v => v.category).sum ≤ W9) (hdg : decode c.code g.pc = .ok (.invokevirtual index, 3))
    (hpre : ∀ vm₁, s.WarmedH vm₁ → Pre ⟨T.setVm vm₁, locs, cells, slots⟩ (Value.ref b :: argsL).toArray) :
    (∃ (v : Option Value) (vm₁ : Vm) (B : Pt), s.WarmedH vm₁ ∧ Stand p l e R s m args below meth c B.U B.locs B.cells B.slots ∧ Post ⟨T.setVm vm₁, locs, cells, slots⟩ (Value.ref b :: argsL).toArray v B ∧
      ∀ target, Steps p.tables e below (B.U.setTop { g with pc := g.pc + 3, stack := v.toList ++ rest }) target → Steps p.tables e below (T.setTop g) target) ∨
    (∃ (q : Addr) (vm₁ : Vm) (B : Pt), s.WarmedH vm₁ ∧ Stand p l e R s m args below meth c B.U B.locs B.cells B.slots ∧ PostX ⟨T.setVm vm₁, locs, cells, slots⟩ (Value.ref b :: argsL).toArray q B ∧
      Steps p.tables e below (T.setTop g) ((B.U.setTop { g with stack := rest }).pushFrame (.throwing q))) := by
  obtain ⟨mk, methM, hnamed, hmethM, hstM, habM⟩ := Cond.instanceMethod_spec hinst
  obtain ⟨m8, methM', cM, hn8, hmethM', -, -, -, -, -, -, hsigM⟩ := Cond.codeWith_spec hcode
  cases Option.some.inj (hn8.symm.trans hnamed)
  cases hmethM.symm.trans hmethM'
  obtain ⟨c2, r2, m2, q1, q2, q3, q4, kP, hkP, hkPi⟩ := Cond.selects_spec hsel
  cases hcls.symm.trans q1
  cases (State.methodFound?_of_named hnamed hy).symm.trans q2
  cases hnamed.symm.trans q3
  have hselP : selectMethod e.platform s.vm cellB.cls mk = .method mk := by rw [Launch.admits_selectMethod X.admits]; exact q4
  obtain ⟨vm₁, X₁, hstep₁⟩ := X.invokevirtual hexec hown hlink hnamed hmethM hstM hkP hkPi hy (a := b) (cell := cellB) hcell
    (fun z h => by rw [h] at hobj; cases hobj) hselP hmethM habM hkP hkPi (g := g) hg (argsL := argsL) (rest := rest) (hlen _ hsigM) hstack hdg
  rcases hK m meth c ⟨T.setVm vm₁, locs, cells, slots⟩ { g with stack := rest } (.invokevirtual index) mk (Value.ref b :: argsL).toArray X₁ hg hsize hdg hW (X₁.named hnamed) (hpre vm₁ X₁.warmed) with ⟨v, B, X', hpost, hsteps⟩ | ⟨q, B, X', hpost, hsteps⟩
  · exact Or.inl ⟨v, vm₁, B, X₁.warmed, X', hpost, fun target h => hstep₁ _ fun acts => by rw [doInvoke_state]; exact hsteps.trans h⟩
  · exact Or.inr ⟨q, vm₁, B, X₁.warmed, X', hpost, hstep₁ _ fun acts => by rw [doInvoke_state]; exact hsteps⟩
theorem vx_callSX (X : Stand p l e R s m args below meth c T locs cells slots) (hexec : p.tables.exec = Jvm.exec) {own : String} {index : Nat} {y : MethodName} {bytes : ByteArray} {maxL : Nat} {ret : Option FieldType} {hh : List (Nat × Nat × Nat × Nat)}
    (hown : s.vm.findClass own = some m.cls) (hlink : (Cond.methodLink own index y).before args s = true) (hstat : (Cond.static y).before args s = true) (hinit : (Cond.initialized y.cls).before args s = true)
    (hcode : (Cond.codeWith y bytes maxL ret hh).before args s = true) (hy : y.cls ≠ "java/lang/invoke/MethodHandle" ∧ y.cls ≠ "java/lang/invoke/VarHandle")
    {W9 : Nat} {Pre : Pt → Array Value → Prop} {Post : Pt → Array Value → Option Value → Pt → Prop} {PostX : Pt → Array Value → Addr → Pt → Prop} (hK : vx_Back l R p e below s args y 3 W9 Pre Post PostX)
    {g : JFrame} (hg : g.method = m) (hsize : g.locals.size = c.maxLocals) {argsL rest : List Value} (hlen : ∀ sig, parseMethodDescriptor y.desc = some sig → argsL.length = sig.parameters.length)
    (hstack : g.stack = argsL.reverse ++ rest) (hW : 2 * g.monitorRoom + (rest.map fun v => v.category).sum ≤ W9) (hdg : decode c.code g.pc = .ok (.invokestatic index, 3))
    (hpre : ∀ vm₁, s.WarmedH vm₁ → Pre ⟨T.setVm vm₁, locs, cells, slots⟩ argsL.toArray) :
    (∃ (v : Option Value) (vm₁ : Vm) (B : Pt), s.WarmedH vm₁ ∧ Stand p l e R s m args below meth c B.U B.locs B.cells B.slots ∧ Post ⟨T.setVm vm₁, locs, cells, slots⟩ argsL.toArray v B ∧
      ∀ target, Steps p.tables e below (B.U.setTop { g with pc := g.pc + 3, stack := v.toList ++ rest }) target → Steps p.tables e below (T.setTop g) target) ∨
    (∃ (q : Addr) (vm₁ : Vm) (B : Pt), s.WarmedH vm₁ ∧ Stand p l e R s m args below meth c B.U B.locs B.cells B.slots ∧ PostX ⟨T.setVm vm₁, locs, cells, slots⟩ argsL.toArray q B ∧
      Steps p.tables e below (T.setTop g) ((B.U.setTop { g with stack := rest }).pushFrame (.throwing q))) := by
  obtain ⟨mk, methM, cM, hnamed, hmethM, -, -, -, -, -, -, hsigM⟩ := Cond.codeWith_spec hcode
  have hstatic : methM.isStatic = true := Cond.static_spec hnamed hmethM hstat
  obtain ⟨kP, hkP, -⟩ := className_of_methodNamed hnamed
  have hinitP : kP.init = .initialized := Cond.initialized_spec (findClass_of_methodNamed hnamed) hkP hinit
  obtain ⟨vm₁, X₁, hstep₁⟩ := X.invokestatic hexec hown hlink hnamed hmethM hstatic hkP hinitP hy (g := g) hg (argsL := argsL) (rest := rest) (hlen _ hsigM) hstack hdg
  rcases hK m meth c ⟨T.setVm vm₁, locs, cells, slots⟩ { g with stack := rest } (.invokestatic index) mk argsL.toArray X₁ hg hsize hdg hW (X₁.named hnamed) (hpre vm₁ X₁.warmed) with ⟨v, B, X', hpost, hsteps⟩ | ⟨q, B, X', hpost, hsteps⟩
  · exact Or.inl ⟨v, vm₁, B, X₁.warmed, X', hpost, fun target h => hstep₁ _ fun acts => by rw [doInvoke_state]; exact hsteps.trans h⟩
  · exact Or.inr ⟨q, vm₁, B, X₁.warmed, X', hpost, hstep₁ _ fun acts => by rw [doInvoke_state]; exact hsteps⟩
theorem vx_callVW (X : Stand p l e R s m args below meth c T locs cells slots) (hexec : p.tables.exec = Jvm.exec) {own C : String} {index : Nat} {y : MethodName} {bytes : ByteArray} {maxL : Nat} {ret : Option FieldType} {hh : List (Nat × Nat × Nat × Nat)}
    (hown : s.vm.findClass own = some m.cls) (hlink : (Cond.methodLink own index y).before args s = true) (hinst : (Cond.instanceMethod y).before args s = true) (hsel : (Cond.selects C y y).before args s = true)
    (hcode : (Cond.codeWith y bytes maxL ret hh).before args s = true) (hy : y.cls ≠ "java/lang/invoke/MethodHandle" ∧ y.cls ≠ "java/lang/invoke/VarHandle")
    {W9 : Nat} {Pre : Pt → Array Value → Prop} {Post : Pt → Array Value → Option Value → Pt → Prop} (hK : Back l R p e below s args y 3 W9 Pre Post)
    {b : Addr} {cellB : Cell} (hcell : T.heap[b]? = some cellB) (hobj : cellB.vm.isStatics = false) (hcls : s.vm.findClass C = some cellB.cls)
    {g : JFrame} (hg : g.method = m) (hsize : g.locals.size = c.maxLocals) {argsL rest : List Value} (hlen : ∀ sig, parseMethodDescriptor y.desc = some sig → argsL.length = sig.parameters.length)
    (hstack : g.stack = argsL.reverse ++ .ref b :: rest) (hW : 2 * g.monitorRoom + (rest.map fun v => v.category).sum ≤ W9) (hdg : decode c.code g.pc = .ok (.invokevirtual index, 3))
    (hpre : ∀ vm₁, s.WarmedH vm₁ → Pre ⟨T.setVm vm₁, locs, cells, slots⟩ (Value.ref b :: argsL).toArray) :
    ∃ (v : Option Value) (vm₁ : Vm) (B : Pt), s.WarmedH vm₁ ∧ Stand p l e R s m args below meth c B.U B.locs B.cells B.slots ∧ Post ⟨T.setVm vm₁, locs, cells, slots⟩ (Value.ref b :: argsL).toArray v B ∧
      ∀ target, Steps p.tables e below (B.U.setTop { g with pc := g.pc + 3, stack := v.toList ++ rest }) target → Steps p.tables e below (T.setTop g) target := by
  obtain ⟨mk, methM, hnamed, hmethM, hstM, habM⟩ := Cond.instanceMethod_spec hinst
  obtain ⟨m8, methM', cM, hn8, hmethM', -, -, -, -, -, -, hsigM⟩ := Cond.codeWith_spec hcode
  cases Option.some.inj (hn8.symm.trans hnamed)
  cases hmethM.symm.trans hmethM'
  obtain ⟨c2, r2, m2, q1, q2, q3, q4, kP, hkP, hkPi⟩ := Cond.selects_spec hsel
  cases hcls.symm.trans q1
  cases (State.methodFound?_of_named hnamed hy).symm.trans q2
  cases hnamed.symm.trans q3
  have hselP : selectMethod e.platform s.vm cellB.cls mk = .method mk := by rw [Launch.admits_selectMethod X.admits]; exact q4
  obtain ⟨vm₁, X₁, hstep₁⟩ := X.invokevirtual hexec hown hlink hnamed hmethM hstM hkP hkPi hy (a := b) (cell := cellB) hcell
    (fun z h => by rw [h] at hobj; cases hobj) hselP hmethM habM hkP hkPi (g := g) hg (argsL := argsL) (rest := rest) (hlen _ hsigM) hstack hdg
  obtain ⟨v, B, X', hpost, hsteps⟩ := hK m meth c ⟨T.setVm vm₁, locs, cells, slots⟩ { g with stack := rest } (.invokevirtual index) mk (Value.ref b :: argsL).toArray X₁ hg hsize hdg hW (X₁.named hnamed) (hpre vm₁ X₁.warmed)
  exact ⟨v, vm₁, B, X₁.warmed, X', hpost, fun target h => hstep₁ _ fun acts => by rw [doInvoke_state]; exact hsteps.trans h⟩
abbrev vx_CVW (R : Room) (s : State) (args : Array Value) (own C : String) (index : Nat) (y : MethodName) (bytes : ByteArray) (maxL : Nat) (ret : Option FieldType) (hh : List (Nat × Nat × Nat × Nat)) (ws : List Cond) (rm : Room) (mc ms n : Nat) : Prop :=
  (rm.cells = mc ∧ rm.slots = ms ∧ rm.frames + 1 ≤ R.frames ∧ 8 + (maxL + 11) + rm.locals ≤ R.locals ∧ (∀ w ∈ ws, ∀ (a' : Array Value) (U : State), s.WarmedH U.vm → w.before a' U = true) ∧ Cond.codeWith y bytes maxL ret hh ∈ ws) ∧
  (Cond.codeWith y bytes maxL ret hh).before args s = true ∧ (Cond.initialized y.cls).before args s = true ∧ (y.cls ≠ "java/lang/invoke/MethodHandle" ∧ y.cls ≠ "java/lang/invoke/VarHandle") ∧
  (∀ sig, parseMethodDescriptor y.desc = some sig → n = sig.parameters.length) ∧ (Cond.methodLink own index y).before args s = true ∧ (Cond.instanceMethod y).before args s = true ∧ (Cond.selects C y y).before args s = true
theorem vx_cwVW {own C : String} {index maxL mc ms : Nat} {y : MethodName} {bytes : ByteArray} {ret : Option FieldType} {hh : List (Nat × Nat × Nat × Nat)} {Ts ws ws' : List Cond} {rm : Room} (n : Nat) (ht : ∀ w ∈ Ts, w.before args s = true) (hT : GoodIn Ts (wsV own index C y ws)) (hw : ws = Cond.codeWith y bytes maxL ret hh :: ws') (hrc : rm.cells = mc) (hrs : rm.slots = ms)
    (hd : y.cls = C ∧ y.cls ≠ "java/lang/invoke/MethodHandle" ∧ y.cls ≠ "java/lang/invoke/VarHandle" ∧ (parseMethodDescriptor y.desc).map (fun d => d.parameters.length) = some n) (hR : rm.frames + 1 ≤ R.frames ∧ 8 + (maxL + 11) + rm.locals ≤ R.locals) :
    vx_CVW R s args own C index y bytes maxL ret hh ws rm mc ms n := by
  obtain ⟨hC, hd⟩ := hd
  subst hC
  have ok : ∀ w ∈ wsV own index y.cls y ws, w.before args s = true := fun w h => ht w (hT w h).1
  have hG : GoodIn Ts ws := fun w h => hT w (by unfold wsV; exact List.mem_append_right _ h)
  have hc : Cond.codeWith y bytes maxL ret hh ∈ ws := by rw [hw]; exact List.mem_cons_self
  refine ⟨⟨hrc, hrs, hR.1, hR.2, pay_in ht hG, hc⟩, ht _ (hG _ hc).1, ok _ (by simp [wsV]), ⟨hd.1, hd.2.1⟩, fun sig h => ?_, ok _ (by simp [wsV]), ok _ (by simp [wsV]), ok _ (by simp [wsV])⟩
  have h2 := hd.2.2
  rw [h] at h2
  exact (Option.some.inj h2).symm
theorem vx_runVW {y : MethodName} {bytes cc : ByteArray} {maxL nL mc ms n index : Nat} {ret : Option FieldType} {hh : List (Nat × Nat × Nat × Nat)} {ws : List Cond} {rm : Room} {Pc : Array Value → State → Prop} {Qc : Array Value → State → Outcome → State → Prop} {free : Addr → Prop} {Ts : List Cond} {own C : String} {b : Addr} {As rest : List Value} {g : JFrame}
    (S : CallFix p m c cc nL s args Ts own) (hM : Met l y ws rm Pc Qc mc ms free) (cw : vx_CVW R s args own C index y bytes maxL ret hh ws rm mc ms n) (hp : PreV s H C b Pc As)
    (hg : g.method = m) (hn : As.length = n) (hsize : g.locals.size = nL) (hstack : g.stack = As.reverse ++ .ref b :: rest) (hW : 2 * g.monitorRoom + (rest.map fun v => v.category).sum ≤ 8) (hdg : decode cc g.pc = .ok (.invokevirtual index, 3)) (hf : cells + mc ≤ R.cells ∧ slots + ms ≤ R.slots) :
    va_Run p l e R s m args below meth c H locs cells slots mc ms g rest (Qc (Value.ref b :: As).toArray) free := by
  obtain ⟨⟨hrc, hrs, hfr, hlo, hws, hcw⟩, hcode, hini, hy, hlen, hl, hin, hse⟩ := cw
  have hK : Back l R p e below s args y 3 8 (PreOf R mc ms Pc) (PostOf Qc mc ms free) := va_backW (hh := hh) (bytes := bytes) (maxL := maxL) (ret := ret) hM hp.1 hrc hrs hfr hlo hws hcw (fun a' U hW => word_at hW (Or.inl (by first | rfl | simp [Cond.onTables, Cond.keeps, Cond.steady])) hini)
  obtain ⟨hx, hb, hml, ho, -⟩ := S
  obtain ⟨-, ⟨cellB, hcB, hoB, hclB⟩, hPc⟩ := hp
  intro T hT X
  obtain ⟨v, vm₁, ⟨U', l2, c2, s2⟩, hW₁, X', ⟨g', mk, t, L, e1, e2, hq, h1, hL, h2, h3⟩, st⟩ := vx_callVW X hx (C := C) (hh := hh) (bytes := bytes) (maxL := maxL) (ret := ret) ho hl hin hse hcode hy hK (by rw [hT]; exact hcB) hoB hclB hg (hsize.trans hml.symm) (argsL := As) (rest := rest) (fun sig h => hn.trans (hlen sig h)) hstack hW (by rw [hb]; exact hdg)
    (fun vm₁ hW₁ => ⟨hf.1, hf.2, hPc (T.setVm vm₁) hT hW₁⟩)
  dsimp only [Pt.U, Pt.locs, Pt.cells, Pt.slots] at X' e1 e2 h1 h2 h3 st
  subst h1; subst h2; subst h3
  exact ⟨v, (T.setVm vm₁).calling g' mk (Value.ref b :: As).toArray, t, U', L, hT, X', hL, e1, e2, hq, st⟩
section
variable {y : MethodName} {bytes cc : ByteArray} {maxL nL mc ms n index : Nat} {ret : Option FieldType} {ws : List Cond} {rm : Room} {Pc : Array Value → State → Prop} {Qc : Array Value → State → Outcome → State → Prop} {XC : String → State → State → Prop} {free : Addr → Prop} {Ts : List Cond} {own C : String} {b : Addr} {As rest : List Value} {g : JFrame}
theorem vx_runVX {hh : List (Nat × Nat × Nat × Nat)} (S : CallFix p m c cc nL s args Ts own) (hM : vx_Met l y ws rm Pc Qc XC mc ms free) (cw : vx_CVW R s args own C index y bytes maxL ret hh ws rm mc ms n) (hp : PreV s H C b Pc As)
    (hg : g.method = m) (hn : As.length = n) (hsize : g.locals.size = nL) (hstack : g.stack = As.reverse ++ .ref b :: rest) (hW : 2 * g.monitorRoom + (rest.map fun v => v.category).sum ≤ 8) (hdg : decode cc g.pc = .ok (.invokevirtual index, 3)) (hf : cells + mc ≤ R.cells ∧ slots + ms ≤ R.slots) :
    vx_Run p l e R s m args below meth c H locs cells slots mc ms g rest (Qc (Value.ref b :: As).toArray) XC free := by
  obtain ⟨⟨hrc, hrs, hfr, hlo, hws, hcw⟩, hcode, hini, hy, hlen, hl, hin, hse⟩ := cw
  have hK : vx_Back l R p e below s args y 3 8 (PreOf R mc ms Pc) (PostOf Qc mc ms free) (vx_Post XC mc ms free) := vx_backW (hh := hh) (bytes := bytes) (maxL := maxL) (ret := ret) hM hp.1 hrc hrs hfr hlo hws hcw (fun a' U hW => word_at hW (Or.inl (by first | rfl | simp [Cond.onTables, Cond.keeps, Cond.steady])) hini)
  obtain ⟨hx, hb, hml, ho, -⟩ := S
  obtain ⟨-, ⟨cellB, hcB, hoB, hclB⟩, hPc⟩ := hp
  intro T hT X
  rcases vx_callVX X hx (C := C) (hh := hh) (bytes := bytes) (maxL := maxL) (ret := ret) ho hl hin hse hcode hy hK (by rw [hT]; exact hcB) hoB hclB hg (hsize.trans hml.symm) (argsL := As) (rest := rest) (fun sig h => hn.trans (hlen sig h)) hstack hW (by rw [hb]; exact hdg)
    (fun vm₁ hW₁ => ⟨hf.1, hf.2, hPc (T.setVm vm₁) hT hW₁⟩) with ⟨v, vm₁, ⟨U', l2, c2, s2⟩, hW₁, X', ⟨g', mk, t, L, e1, e2, hq, h1, hL, h2, h3⟩, st⟩ | ⟨q, vm₁, ⟨U', l2, c2, s2⟩, hW₁, X', ⟨g', mk, t, L, E, ce, e1, e2, hq, hce, hcv, hcl, h1, hL, h2, h3⟩, st⟩
  · dsimp only [Pt.U, Pt.locs, Pt.cells, Pt.slots] at X' e1 e2 h1 h2 h3 st
    subst h1; subst h2; subst h3
    exact Or.inl ⟨v, (T.setVm vm₁).calling g' mk (Value.ref b :: As).toArray, t, U', L, hT, X', hL, e1, e2, hq, st⟩
  · dsimp only [Pt.U, Pt.locs, Pt.cells, Pt.slots] at X' e1 e2 h1 h2 h3 st hcl
    subst h1; subst h2; subst h3
    exact Or.inr ⟨q, (T.setVm vm₁).calling g' mk (Value.ref b :: As).toArray, t, U', L, E, ce, hT, X', hL, e1, e2, hq, hce, hcv, vx_cls hW₁ hcl, st⟩
theorem vx_runSX {hh : List (Nat × Nat × Nat × Nat)} (S : CallFix p m c cc nL s args Ts own) (hM : vx_Met l y ws rm Pc Qc XC mc ms free) (cw : vx_CSW R s args own index y bytes maxL ret hh ws rm mc ms n) (hp : PreS s H Pc As)
    (hg : g.method = m) (hn : As.length = n) (hsize : g.locals.size = nL) (hstack : g.stack = As.reverse ++ rest) (hW : 2 * g.monitorRoom + (rest.map fun v => v.category).sum ≤ 8) (hdg : decode cc g.pc = .ok (.invokestatic index, 3)) (hf : cells + mc ≤ R.cells ∧ slots + ms ≤ R.slots) :
    vx_Run p l e R s m args below meth c H locs cells slots mc ms g rest (Qc As.toArray) XC free := by
  obtain ⟨⟨hrc, hrs, hfr, hlo, hws, hcw⟩, hcode, hini, hy, hlen, hl, hstt⟩ := cw
  have hK : vx_Back l R p e below s args y 3 8 (PreOf R mc ms Pc) (PostOf Qc mc ms free) (vx_Post XC mc ms free) := vx_backW (hh := hh) (bytes := bytes) (maxL := maxL) (ret := ret) hM hp.1 hrc hrs hfr hlo hws hcw (fun a' U hW => word_at hW (Or.inl (by first | rfl | simp [Cond.onTables, Cond.keeps, Cond.steady])) hini)
  obtain ⟨hx, hb, hml, ho, -⟩ := S
  intro T hT X
  rcases vx_callSX X hx (hh := hh) (bytes := bytes) (maxL := maxL) (ret := ret) ho hl hstt hini hcode hy hK hg (hsize.trans hml.symm) (argsL := As) (rest := rest) (fun sig h => hn.trans (hlen sig h)) hstack hW (by rw [hb]; exact hdg)
    (fun vm₁ hW₁ => ⟨hf.1, hf.2, hp.2 (T.setVm vm₁) hT hW₁⟩) with ⟨v, vm₁, ⟨U', l2, c2, s2⟩, hW₁, X', ⟨g', mk, t, L, e1, e2, hq, h1, hL, h2, h3⟩, st⟩ | ⟨q, vm₁, ⟨U', l2, c2, s2⟩, hW₁, X', ⟨g', mk, t, L, E, ce, e1, e2, hq, hce, hcv, hcl, h1, hL, h2, h3⟩, st⟩
  · dsimp only [Pt.U, Pt.locs, Pt.cells, Pt.slots] at X' e1 e2 h1 h2 h3 st
    subst h1; subst h2; subst h3
    exact Or.inl ⟨v, (T.setVm vm₁).calling g' mk As.toArray, t, U', L, hT, X', hL, e1, e2, hq, st⟩
  · dsimp only [Pt.U, Pt.locs, Pt.cells, Pt.slots] at X' e1 e2 h1 h2 h3 st hcl
    subst h1; subst h2; subst h3
    exact Or.inr ⟨q, (T.setVm vm₁).calling g' mk As.toArray, t, U', L, E, ce, hT, X', hL, e1, e2, hq, hce, hcv, vx_cls hW₁ hcl, st⟩
end
end VXH
theorem vx_ofWH {l : Launch} {y : MethodName} {ws ws' : List Cond} {rm : Room} {Pc : Array Value → State → Prop} {Qc : Array Value → State → Outcome → State → Prop} {XC : String → State → State → Prop} {mc ms : Nat} {free : Addr → Prop} {cc : ByteArray} {maxL : Nat} {ret : Option FieldType} {hh : List (Nat × Nat × Nat × Nat)}
    (hy : plainName y.cls = true) (hw : ws = Cond.codeWith y cc maxL ret hh :: ws')
    (body : ∀ p e s m args below meth c s₁, BodyLoose p l y (headSpec ws rm) cc maxL ret e s m args below meth c s₁ → c.maxLocals = maxL → Pc args s →
      W p l e (headSpec ws rm).room s m args below meth c s.heap [] 0 0 (vx_MQ below Qc XC args s mc ms free) (entryFrame m args maxL)) : vx_Met l y ws rm Pc Qc XC mc ms free := by
  refine MetFree.of_bodyS (code := cc) (maxLocals := maxL) (ret := ret) hy ?_ ?_
  · intro args s m h hn
    obtain ⟨m9, meth, c, hn9, h1, h2, h3, h4, -, h5, h6, -⟩ := Cond.codeWith_spec (atoms_spec (ws := ws) h _ (by rw [hw]; exact List.mem_cons_self))
    cases hn.symm.trans hn9
    exact ⟨meth, c, h1, h2, h3, h4, h5, h6⟩
  · intro p e s m args below meth c s₁ B hml hP _
    have hh0 : s₁.heap = s.heap := by rw [B.state]; rfl
    obtain ⟨t, a1, o, b1, b2, b3⟩ := body p e s m args below meth c s₁ B hml hP s₁ hh0 (Stand.of_body B)
    exact ⟨t, o, a1, b1, b2, b3⟩
/-! ===== END ===== -/
end
section
/-! ===== the small machine: the same bytecode over whole numbers; a world is one function; calls go to an oracle ===== -/
abbrev sV : Type := Int ⊕ (Int ⊕ Int)
abbrev iV (x : Int) : sV := Sum.inl x
abbrev lV (x : Int) : sV := Sum.inr (Sum.inl x)
abbrev rV (x : Int) : sV := Sum.inr (Sum.inr x)
/-- shapes (kind, length), contents, next number, cells and slots made -/
abbrev sW : Type := (Int → Int × Int) × (Int → Int → Int) × Int × Nat × Nat
def kd (w : sW) (r : Int) : Int := (w.1 r).1
def ln (w : sW) (r : Int) : Int := (w.1 r).2
def gv (w : sW) (r k : Int) : Int := w.2.1 r k
def nx (w : sW) : Int := w.2.2.1
def uc (w : sW) : Nat := w.2.2.2.1
def us (w : sW) : Nat := w.2.2.2.2
def sv (w : sW) (r k v : Int) : sW := (w.1, (fun a j => if a = r ∧ j = k then v else w.2.1 a j), w.2.2)
def al (w : sW) (kind len : Int) (slots : Nat) : sW := ((fun a => if a = w.2.2.1 then (kind, len) else w.1 a), (fun a j => if a = w.2.2.1 then 0 else w.2.1 a j), w.2.2.1 + 1, w.2.2.2.1 + 1, w.2.2.2.2 + slots)
def bp (w : sW) (c n : Nat) : sW := (w.1, w.2.1, w.2.2.1, w.2.2.2.1 + c, w.2.2.2.2 + n)
/-- System.arraycopy -/
def cp (w : sW) (src sp dst dp n : Int) : sW := (w.1, (fun a j => if a = dst ∧ dp ≤ j ∧ j < dp + n then w.2.1 src (sp + (j - dp)) else w.2.1 a j), w.2.2)
def w32 (x : Int) : Int := (x + 2147483648) % 4294967296 - 2147483648
def w64 (x : Int) : Int := (x + 9223372036854775808) % 18446744073709551616 - 9223372036854775808
def f_ishl (x y : Int) : Int := (Int32.ofInt x <<< (Int32.ofInt y &&& 31)).toInt
def f_ishr (x y : Int) : Int := (Int32.ofInt x >>> (Int32.ofInt y &&& 31)).toInt
def f_iushr (x y : Int) : Int := ((Int32.ofInt x).toUInt32 >>> ((Int32.ofInt y).toUInt32 &&& Int32.toUInt32 31)).toInt32.toInt
def f_iand (x y : Int) : Int := (Int32.ofInt x &&& Int32.ofInt y).toInt
def f_ior (x y : Int) : Int := (Int32.ofInt x ||| Int32.ofInt y).toInt
def f_lshl (x y : Int) : Int := (Int64.ofInt x <<< ((Int32.ofInt y).toInt64 &&& 63)).toInt
def f_lshr (x y : Int) : Int := (Int64.ofInt x >>> ((Int32.ofInt y).toInt64 &&& 63)).toInt
def f_lushr (x y : Int) : Int := ((Int64.ofInt x).toUInt64 >>> ((Int32.ofInt y).toInt64.toUInt64 &&& Int64.toUInt64 63)).toInt64.toInt
def f_land (x y : Int) : Int := (Int64.ofInt x &&& Int64.ofInt y).toInt
def f_lor (x y : Int) : Int := (Int64.ofInt x ||| Int64.ofInt y).toInt
/-- a frame's numbers: locals (none: unset, or the second half of a long) -/
abbrev sL : Type := List (Option sV)
/-- where a stretch of code ends: at a cut, or at a return (rV (-7): it threw) -/
abbrev sO : Type := (Nat × sL × List sV × sW) ⊕ (Option sV × sW)
abbrev sC : Type := Nat → sW → List sV → Option (Option sV × sW)
/-- an instruction: its place; itself; its length; a target, type or method; small numbers; numbers; a switch's cases -/
abbrev sE : Type := Nat × Instr × Nat × Nat × List Nat × List Int × List (Int × Nat)
/-- a method: how many locals; what it returns (0 nothing, 1 int, 2 long, 3 reference, 4 boolean); its code; its cuts, with the locals that are kept there -/
abbrev sM : Type := Nat × Nat × List sE × List (Nat × List Bool)
def bI {α : Type} (o : Option (Option sV × sW)) (k : Int → sW → Option α) : Option α := match o with
  | some (some (.inl x), w) => k x w
  | _ => none
def bL {α : Type} (o : Option (Option sV × sW)) (k : Int → sW → Option α) : Option α := match o with
  | some (some (.inr (.inl x)), w) => k x w
  | _ => none
def bR {α : Type} (o : Option (Option sV × sW)) (k : Int → sW → Option α) : Option α := match o with
  | some (some (.inr (.inr x)), w) => if 0 ≤ x then k x w else none
  | _ => none
def bN {α : Type} (o : Option (Option sV × sW)) (k : sW → Option α) : Option α := match o with
  | some (none, w) => k w
  | _ => none
def ldI {α : Type} (ls : sL) (i : Nat) (k : Int → Option α) : Option α := match ls[i]? with
  | some (some (.inl x)) => k x
  | _ => none
def ldL {α : Type} (ls : sL) (i : Nat) (k : Int → Option α) : Option α := match ls[i]? with
  | some (some (.inr (.inl x))) => k x
  | _ => none
def ldR {α : Type} (ls : sL) (i : Nat) (k : Int → Option α) : Option α := match ls[i]? with
  | some (some (.inr (.inr x))) => k x
  | _ => none
def isL : Option (Option sV) → Bool
  | some (some (.inr (.inl _))) => true
  | _ => false
def isLp (ls : sL) : Nat → Bool
  | 0 => false
  | j + 1 => isL ls[j]?
def st1 {α : Type} (ls : sL) (i : Nat) (v : sV) (k : sL → Option α) : Option α := bif Nat.blt i ls.length && !isLp ls i then k (ls.set i (some v)) else none
def st2 {α : Type} (ls : sL) (i : Nat) (v : sV) (k : sL → Option α) : Option α := bif Nat.blt (i + 1) ls.length && !isLp ls i then k ((ls.set i (some v)).set (i + 1) none) else none
def mkV : Nat → Int → sV
  | 0, g => .inl g
  | 1, g => .inr (.inl g)
  | 2, g => .inr (.inr g)
  | _, g => .inl g
def swi {α : Type} (x : Int) (d : Nat) (k : Nat → Option α) : List (Int × Nat) → Option α
  | [] => k d
  | (c, t) :: r => if x = c then k t else swi x d k r
def catS : sV → Nat
  | .inr (.inl _) => 2
  | _ => 1
def catSum : List sV → Nat
  | [] => 0
  | v :: r => catS v + catSum r
/-- the call itself, by what the method returns -/
def cal {α : Type} (C : sC) (mid rty : Nat) (w : sW) (args rest : List sV) (k : List sV → sW → Option α) : Option α :=
  bif Nat.ble (catSum rest) 8 then
    (match rty with
    | 0 => bN (C mid w args) (fun w' => k rest w')
    | 2 => bL (C mid w args) (fun x w' => k (.inr (.inl x) :: rest) w')
    | 3 => bR (C mid w args) (fun x w' => k (.inr (.inr x) :: rest) w')
    | _ => bI (C mid w args) (fun x w' => k (.inl x :: rest) w'))
  else none
def popN : Nat → List sV → List sV → Option (List sV × List sV)
  | 0, acc, st => some (acc, st)
  | n + 1, acc, v :: st => popN n (v :: acc) st
  | _ + 1, _, [] => none
/-- a new world gets a name -/
def wl {α : Type} (w : sW) (k : sW → α) : α := k w
def cmpL (x y : Int) : Int := if x < y then -1 else if x = y then 0 else 1
def pI {α : Type} (st : List sV) (f : Int → List sV → Option α) : Option α := match st with
  | .inl x :: r => f x r
  | _ => none
def pL {α : Type} (st : List sV) (f : Int → List sV → Option α) : Option α := match st with
  | .inr (.inl x) :: r => f x r
  | _ => none
def pR {α : Type} (st : List sV) (f : Int → List sV → Option α) : Option α := match st with
  | .inr (.inr x) :: r => f x r
  | _ => none
def p1 {α : Type} (st : List sV) (f : sV → List sV → Option α) : Option α := match st with
  | v :: r => bif Nat.beq (catS v) 1 then f v r else none
  | _ => none
def p0 {α : Type} (st : List sV) (f : Option α) : Option α := match st with
  | [] => f
  | _ => none
def pN {α : Type} (n : Nat) (st : List sV) (f : List sV → List sV → Option α) : Option α := match popN n [] st with
  | some (as, r) => f as r
  | none => none
def aC {α : Type} (ax : List Int) (f0 : Option α) (f1 : Int → Option α) (f2 : Int → Int → Option α) : Option α := match ax with
  | [] => f0
  | [x] => f1 x
  | [x, y] => f2 x y
  | _ => none
def nC {α : Type} (nn : List Nat) (f0 : Option α) (f1 : Nat → Option α) (f2 : Nat → Nat → Option α) : Option α := match nn with
  | [] => f0
  | [x] => f1 x
  | [x, y] => f2 x y
  | _ => none
def tC {α : Type} (t : Nat) (f0 f1 f2 f3 : Option α) : Option α := match t with
  | 0 => f0
  | 1 => f1
  | 2 => f2
  | 3 => f3
  | _ => none
def c8 {α : Type} (st : List sV) (f : Option α) : Option α := bif Nat.ble (catSum st) 8 then f else none
def no1 {α : Type} : Int → Option α := fun _ => none
def no2 {α : Type} : Int → Int → Option α := fun _ _ => none
def nn1 {α : Type} : Nat → Option α := fun _ => none
def nn2 {α : Type} : Nat → Nat → Option α := fun _ _ => none
/-- one instruction, with what comes behind it -/
def sx {α : Type} (C : sC) (ret : Nat) (e : Instr) (tg : Nat) (nn : List Nat) (ax : List Int) (sw : List (Int × Nat)) (pc : Nat) (ls : sL) (st : List sV) (w : sW) (kr : Option sV → sW → Option α) (k : Nat → sL → List sV → sW → Option α) : Option α :=
  match e with
  | .iconst n => k (pc + 1) ls (.inl n :: st) w
  | .bipush n => k (pc + 2) ls (.inl n :: st) w
  | .sipush n => k (pc + 3) ls (.inl n :: st) w
  | .lconst _ => aC ax none (fun x => k (pc + 1) ls (.inr (.inl x) :: st) w) no2
  | .ldc _ => aC ax none (fun x => k (pc + 2) ls (.inl x :: st) w) no2
  | .ldc_w _ => aC ax none (fun x => k (pc + 3) ls (.inl x :: st) w) no2
  | .ldc2_w _ => aC ax none (fun x => k (pc + 3) ls (.inr (.inl x) :: st) w) no2
  | .aconst_null => k (pc + 1) ls (.inr (.inr 0) :: st) w
  | .iload _ => ldI ls tg (fun x => k (pc + 2) ls (.inl x :: st) w)
  | .iload_n _ => ldI ls tg (fun x => k (pc + 1) ls (.inl x :: st) w)
  | .lload _ => ldL ls tg (fun x => k (pc + 2) ls (.inr (.inl x) :: st) w)
  | .lload_n _ => ldL ls tg (fun x => k (pc + 1) ls (.inr (.inl x) :: st) w)
  | .aload _ => ldR ls tg (fun x => k (pc + 2) ls (.inr (.inr x) :: st) w)
  | .aload_n _ => ldR ls tg (fun x => k (pc + 1) ls (.inr (.inr x) :: st) w)
  | .istore _ => pI st (fun x st => st1 ls tg (.inl x) (fun ls => k (pc + 2) ls st w))
  | .istore_n _ => pI st (fun x st => st1 ls tg (.inl x) (fun ls => k (pc + 1) ls st w))
  | .lstore _ => pL st (fun x st => st2 ls tg (.inr (.inl x)) (fun ls => k (pc + 2) ls st w))
  | .lstore_n _ => pL st (fun x st => st2 ls tg (.inr (.inl x)) (fun ls => k (pc + 1) ls st w))
  | .astore _ => pR st (fun x st => st1 ls tg (.inr (.inr x)) (fun ls => k (pc + 2) ls st w))
  | .astore_n _ => pR st (fun x st => st1 ls tg (.inr (.inr x)) (fun ls => k (pc + 1) ls st w))
  | .iinc _ n => ldI ls tg (fun x => st1 ls tg (.inl (w32 (x + n))) (fun ls => k (pc + 3) ls st w))
  | .iadd => pI st (fun y st => pI st (fun x st => k (pc + 1) ls (.inl (w32 (x + y)) :: st) w))
  | .isub => pI st (fun y st => pI st (fun x st => k (pc + 1) ls (.inl (w32 (x - y)) :: st) w))
  | .imul => pI st (fun y st => pI st (fun x st => k (pc + 1) ls (.inl (w32 (x * y)) :: st) w))
  | .ishl => pI st (fun y st => pI st (fun x st => k (pc + 1) ls (.inl (f_ishl x y) :: st) w))
  | .ishr => pI st (fun y st => pI st (fun x st => k (pc + 1) ls (.inl (f_ishr x y) :: st) w))
  | .iushr => pI st (fun y st => pI st (fun x st => k (pc + 1) ls (.inl (f_iushr x y) :: st) w))
  | .iand => pI st (fun y st => pI st (fun x st => k (pc + 1) ls (.inl (f_iand x y) :: st) w))
  | .ior => pI st (fun y st => pI st (fun x st => k (pc + 1) ls (.inl (f_ior x y) :: st) w))
  | .idiv => pI st (fun y st => pI st (fun x st => if y = 0 then none else k (pc + 1) ls (.inl (w32 (Int.tdiv x y)) :: st) w))
  | .irem => pI st (fun y st => pI st (fun x st => if y = 0 then none else k (pc + 1) ls (.inl (Int.tmod x y) :: st) w))
  | .ladd => pL st (fun y st => pL st (fun x st => k (pc + 1) ls (.inr (.inl (w64 (x + y))) :: st) w))
  | .lsub => pL st (fun y st => pL st (fun x st => k (pc + 1) ls (.inr (.inl (w64 (x - y))) :: st) w))
  | .lmul => pL st (fun y st => pL st (fun x st => k (pc + 1) ls (.inr (.inl (w64 (x * y))) :: st) w))
  | .land => pL st (fun y st => pL st (fun x st => k (pc + 1) ls (.inr (.inl (f_land x y)) :: st) w))
  | .lor => pL st (fun y st => pL st (fun x st => k (pc + 1) ls (.inr (.inl (f_lor x y)) :: st) w))
  | .ldiv => pL st (fun y st => pL st (fun x st => if y = 0 then none else k (pc + 1) ls (.inr (.inl (w64 (Int.tdiv x y))) :: st) w))
  | .lrem => pL st (fun y st => pL st (fun x st => if y = 0 then none else k (pc + 1) ls (.inr (.inl (Int.tmod x y)) :: st) w))
  | .lshl => pI st (fun y st => pL st (fun x st => k (pc + 1) ls (.inr (.inl (f_lshl x y)) :: st) w))
  | .lshr => pI st (fun y st => pL st (fun x st => k (pc + 1) ls (.inr (.inl (f_lshr x y)) :: st) w))
  | .lushr => pI st (fun y st => pL st (fun x st => k (pc + 1) ls (.inr (.inl (f_lushr x y)) :: st) w))
  | .lcmp => pL st (fun y st => pL st (fun x st => k (pc + 1) ls (.inl (cmpL x y) :: st) w))
  | .i2l => pI st (fun x st => k (pc + 1) ls (.inr (.inl x) :: st) w)
  | .l2i => pL st (fun x st => k (pc + 1) ls (.inl (w32 x) :: st) w)
  | .i2b => pI st (fun x st => if -128 ≤ x ∧ x < 128 then k (pc + 1) ls (.inl x :: st) w else none)
  | .dup => p1 st (fun v st => k (pc + 1) ls (v :: v :: st) w)
  | .dup2 => p1 st (fun v st => p1 st (fun u st => k (pc + 1) ls (v :: u :: v :: u :: st) w))
  | .pop => p1 st (fun _ st => k (pc + 1) ls st w)
  | .goto _ => k tg ls st w
  | .ifCond .eq _ => pI st (fun x st => if x = 0 then k tg ls st w else k (pc + 3) ls st w)
  | .ifCond .ne _ => pI st (fun x st => if x = 0 then k (pc + 3) ls st w else k tg ls st w)
  | .ifCond .lt _ => pI st (fun x st => if x < 0 then k tg ls st w else k (pc + 3) ls st w)
  | .ifCond .ge _ => pI st (fun x st => if x < 0 then k (pc + 3) ls st w else k tg ls st w)
  | .ifCond .gt _ => pI st (fun x st => if 0 < x then k tg ls st w else k (pc + 3) ls st w)
  | .ifCond .le _ => pI st (fun x st => if 0 < x then k (pc + 3) ls st w else k tg ls st w)
  | .if_icmp .eq _ => pI st (fun y st => pI st (fun x st => if x = y then k tg ls st w else k (pc + 3) ls st w))
  | .if_icmp .ne _ => pI st (fun y st => pI st (fun x st => if x = y then k (pc + 3) ls st w else k tg ls st w))
  | .if_icmp .lt _ => pI st (fun y st => pI st (fun x st => if x < y then k tg ls st w else k (pc + 3) ls st w))
  | .if_icmp .ge _ => pI st (fun y st => pI st (fun x st => if x < y then k (pc + 3) ls st w else k tg ls st w))
  | .if_icmp .gt _ => pI st (fun y st => pI st (fun x st => if y < x then k tg ls st w else k (pc + 3) ls st w))
  | .if_icmp .le _ => pI st (fun y st => pI st (fun x st => if y < x then k (pc + 3) ls st w else k tg ls st w))
  | .ifnull _ => pR st (fun r st => if r = 0 then k tg ls st w else k (pc + 3) ls st w)
  | .ifnonnull _ => pR st (fun r st => if r = 0 then k (pc + 3) ls st w else k tg ls st w)
  | .if_acmp .eq _ => pR st (fun y st => pR st (fun x st => if x ≤ 23 ∧ y ≤ 23 then (if x = y then k tg ls st w else k (pc + 3) ls st w) else none))
  | .if_acmp .ne _ => pR st (fun y st => pR st (fun x st => if x ≤ 23 ∧ y ≤ 23 then (if x = y then k (pc + 3) ls st w else k tg ls st w) else none))
  | .tableswitch _ _ _ _ => pI st (fun x st => swi x tg (fun t => k t ls st w) sw)
  | .lookupswitch _ _ => pI st (fun x st => swi x tg (fun t => k t ls st w) sw)
  | .getfield _ => aC ax none no1 (fun ci fk => pR st (fun r st => if kd w r = ci then k (pc + 3) ls (mkV tg (gv w r fk) :: st) w else none))
  | .putfield _ => aC ax none no1 (fun ci fk => tC tg (pI st (fun v st => pR st (fun r st => if kd w r = ci then k (pc + 3) ls st (sv w r fk v) else none))) (pL st (fun v st => pR st (fun r st => if kd w r = ci then k (pc + 3) ls st (sv w r fk v) else none))) (pR st (fun v st => pR st (fun r st => if kd w r = ci then k (pc + 3) ls st (sv w r fk v) else none))) (pI st (fun v st => pR st (fun r st => if kd w r = ci ∧ (v = 0 ∨ v = 1) then k (pc + 3) ls st (sv w r fk v) else none))))
  | .getstatic _ => aC ax none (fun id => k (pc + 3) ls (.inr (.inr id) :: st) w) no2
  | .iaload => pI st (fun i st => pR st (fun r st => if kd w r = 20 ∧ 0 ≤ i ∧ i < ln w r then k (pc + 1) ls (.inl (gv w r i) :: st) w else none))
  | .baload => pI st (fun i st => pR st (fun r st => if (kd w r = 21 ∨ kd w r = 23) ∧ 0 ≤ i ∧ i < ln w r then k (pc + 1) ls (.inl (gv w r i) :: st) w else none))
  | .laload => pI st (fun i st => pR st (fun r st => if kd w r = 22 ∧ 0 ≤ i ∧ i < ln w r then k (pc + 1) ls (.inr (.inl (gv w r i)) :: st) w else none))
  | .aaload => pI st (fun i st => pR st (fun r st => if (24 ≤ kd w r ∧ kd w r ≤ 27) ∧ 0 ≤ i ∧ i < ln w r then k (pc + 1) ls (.inr (.inr (gv w r i)) :: st) w else none))
  | .iastore => pI st (fun v st => pI st (fun i st => pR st (fun r st => if (kd w r = 20 ∧ 32 ≤ r) ∧ 0 ≤ i ∧ i < ln w r then k (pc + 1) ls st (sv w r i v) else none)))
  | .bastore => pI st (fun v st => pI st (fun i st => pR st (fun r st => if ((kd w r = 21 ∧ -128 ≤ v ∧ v < 128) ∨ (kd w r = 23 ∧ (v = 0 ∨ v = 1))) ∧ 0 ≤ i ∧ i < ln w r then k (pc + 1) ls st (sv w r i v) else none)))
  | .lastore => pL st (fun v st => pI st (fun i st => pR st (fun r st => if kd w r = 22 ∧ 0 ≤ i ∧ i < ln w r then k (pc + 1) ls st (sv w r i v) else none)))
  | .aastore => pR st (fun v st => pI st (fun i st => pR st (fun r st => if ((kd w r = 24 ∧ kd w v = 5) ∨ (kd w r = 25 ∧ kd w v = 8) ∨ (kd w r = 26 ∧ kd w v = 7) ∨ (kd w r = 27 ∧ kd w v = 30 ∧ 32 ≤ r)) ∧ 0 ≤ i ∧ i < ln w r then k (pc + 1) ls st (sv w r i v) else none)))
  | .arraylength => pR st (fun r st => if 20 ≤ kd w r ∧ kd w r ≤ 27 then k (pc + 1) ls (.inl (ln w r) :: st) w else none)
  | .new _ => aC ax (kr (some (.inr (.inr (-7)))) (bp w 1 tg)) (fun ci => k (pc + 3) ls (.inr (.inr (nx w)) :: st) (al w ci 0 tg)) no2
  | .newarray _ => aC ax none (fun kind => pI st (fun n st => if 0 ≤ n ∧ n ≤ 100000 then k (pc + 2) ls (.inr (.inr (nx w)) :: st) (al w kind n n.toNat) else none)) no2
  | .anewarray _ => aC ax none (fun kind => pI st (fun n st => if 0 ≤ n ∧ n ≤ 100000 then k (pc + 3) ls (.inr (.inr (nx w)) :: st) (al w kind n n.toNat) else none)) no2
  | .invokevirtual _ => aC ax none (fun ci => nC nn none nn1 (fun rty n => pN n st (fun as st => pR st (fun r st => if kd w r = ci then cal C tg rty w (.inr (.inr r) :: as) st (fun st w => k (pc + 3) ls st w) else none)))) no2
  | .invokespecial _ => aC ax none (fun ci => nC nn (pR st (fun r st => if kd w r = ci then c8 st (k (pc + 3) ls st w) else none)) (fun n => pN n st (fun as st => pR st (fun r st => if kd w r = ci then cal C tg 0 w (.inr (.inr r) :: as) st (fun st w => k (pc + 3) ls st w) else none))) nn2) no2
  | .invokestatic _ => nC nn none (fun q => tC q (pI st (fun n st => pI st (fun dp st => pR st (fun d st => pI st (fun sp st => pR st (fun s st => if ((kd w s = 20 ∧ kd w d = 20) ∨ (kd w s = 21 ∧ kd w d = 21)) ∧ 32 ≤ s ∧ 32 ≤ d ∧ 0 ≤ sp ∧ 0 ≤ dp ∧ 0 ≤ n ∧ sp + n ≤ ln w s ∧ dp + n ≤ ln w d then c8 st (k (pc + 3) ls st (cp w s sp d dp n)) else none)))))) (pI st (fun y st => pI st (fun x st => c8 st (k (pc + 3) ls (.inl (if x < y then y else x) :: st) w)))) (pI st (fun y st => pI st (fun x st => c8 st (k (pc + 3) ls (.inl (if y < x then y else x) :: st) w)))) none) (fun rty n => pN n st (fun as st => cal C tg rty w as st (fun st w => k (pc + 3) ls st w)))
  | .ireturn => pI st (fun x st => p0 st (bif Nat.beq ret 4 then (if x = 0 ∨ x = 1 then kr (some (.inl x)) w else none) else kr (some (.inl x)) w))
  | .lreturn => pL st (fun x st => p0 st (kr (some (.inr (.inl x))) w))
  | .areturn => pR st (fun x st => p0 st (kr (some (.inr (.inr x))) w))
  | .return_ => p0 st (kr none w)
  | _ => none
def ft : List sE → Nat → Option sE
  | [], _ => none
  | e :: r, pc => bif Nat.beq e.1 pc then some e else ft r pc
def fm : List (Nat × List Bool) → Nat → Option (List Bool)
  | [], _ => none
  | a :: r, n => bif Nat.beq a.1 n then some a.2 else fm r n
def mask : List Bool → sL → sL
  | true :: r, v :: l => v :: mask r l
  | false :: r, _ :: l => none :: mask r l
  | _, _ => []
def cutO (c : Option (List Bool)) (pc : Nat) (ls : sL) (st : List sV) (w : sW) (k : Option sO) : Option sO := match c with
  | some b => some (.inl (pc, mask b ls, st, w))
  | none => k
/-- a stretch of code, to the next cut -/
def sg (C : sC) (M : sM) : Nat → Nat → sL → List sV → sW → Option sO
  | 0, _, _, _, _ => none
  | n + 1, pc, ls, st, w => match ft M.2.2.1 pc with
    | none => none
    | some e => sx C M.2.1 e.2.1 e.2.2.2.1 e.2.2.2.2.1 e.2.2.2.2.2.1 e.2.2.2.2.2.2 pc ls st w (fun v w => some (.inr (v, w))) (fun pc ls st w => cutO (fm M.2.2.2 pc) pc ls st w (sg C M n pc ls st w))
/-- stretch by stretch -/
def itr (C : sC) (M : sM) : Nat → Nat × sL × List sV × sW → Option (Option sV × sW)
  | 0, _ => none
  | n + 1, c => match sg C M 2000 c.1 c.2.1 c.2.2.1 c.2.2.2 with
    | some (.inr r) => some r
    | some (.inl c') => itr C M n c'
    | none => none
def Rn (C : sC) (M : sM) (c : Nat × sL × List sV × sW) (r : Option sV × sW) : Prop := ∃ n, itr C M n c = some r
theorem Rn.ret {C : sC} {M : sM} {pc : Nat} {ls : sL} {st : List sV} {w : sW} {r : Option sV × sW} (h : sg C M 2000 pc ls st w = some (.inr r)) : Rn C M (pc, ls, st, w) r := ⟨1, by simp [itr, h]⟩
theorem Rn.cut {C : sC} {M : sM} {pc : Nat} {ls : sL} {st : List sV} {w : sW} {c' : Nat × sL × List sV × sW} {r : Option sV × sW} (h : sg C M 2000 pc ls st w = some (.inl c')) (k : Rn C M c' r) : Rn C M (pc, ls, st, w) r := by
  obtain ⟨n, hn⟩ := k
  exact ⟨n + 1, by simp [itr, h, hn]⟩
theorem itr_mono {C : sC} {M : sM} : ∀ (n : Nat) (c : Nat × sL × List sV × sW) (r : Option sV × sW) (k : Nat), itr C M n c = some r → itr C M (n + k) c = some r
  | 0, c, r, k, h => by simp [itr] at h
  | n + 1, c, r, k, h => by
    rw [show n + 1 + k = (n + k) + 1 by omega]
    simp only [itr] at h ⊢
    cases hs : sg C M 2000 c.1 c.2.1 c.2.2.1 c.2.2.2 with
    | none => rw [hs] at h; simp at h
    | some o =>
      rw [hs] at h
      cases o with
      | inr r' => exact h
      | inl c' => exact itr_mono n c' r k h
theorem Rn.det {C : sC} {M : sM} {c : Nat × sL × List sV × sW} {r r' : Option sV × sW} (h : Rn C M c r) (h' : Rn C M c r') : r = r' := by
  obtain ⟨n, hn⟩ := h
  obtain ⟨k, hk⟩ := h'
  have h1 := itr_mono n c r k hn
  have h2 := itr_mono k c r' n hk
  rw [Nat.add_comm] at h2
  exact Option.some.inj (h1.symm.trans h2)
def slot2 : List sV → sL
  | [] => []
  | .inr (.inl x) :: r => some (.inr (.inl x)) :: none :: slot2 r
  | v :: r => some v :: slot2 r
def ent (n : Nat) (as : List sV) : sL := slot2 as ++ List.replicate (n - (slot2 as).length) none
noncomputable def runs (C : sC) (M : sM) (w : sW) (as : List sV) : Option (Option sV × sW) := @dite _ ((slot2 as).length ≤ M.1 ∧ ∃ r, Rn C M (0, ent M.1 as, [], w) r) (Classical.propDecidable _) (fun h => some h.2.choose) (fun _ => none)
theorem runs_iff {C : sC} {M : sM} {w : sW} {as : List sV} {r : Option sV × sW} : runs C M w as = some r ↔ (slot2 as).length ≤ M.1 ∧ Rn C M (0, ent M.1 as, [], w) r := by
  unfold runs
  constructor
  · intro h
    by_cases q : (slot2 as).length ≤ M.1 ∧ ∃ r, Rn C M (0, ent M.1 as, [], w) r
    · rw [dif_pos q] at h
      have := q.2.choose_spec
      rw [Option.some.inj h] at this
      exact ⟨q.1, this⟩
    · rw [dif_neg q] at h
      cases h
  · intro h
    have q : (slot2 as).length ≤ M.1 ∧ ∃ r, Rn C M (0, ent M.1 as, [], w) r := ⟨h.1, r, h.2⟩
    rw [dif_pos q, Rn.det q.2.choose_spec h.2]
end
section
/-! ===== the methods of the claim as tables of the small machine (printed by wip/whole/tabs.py) ===== -/
def mX0_init : sM := (1, 0, [
  (0, .aload_n 0, 1, 0, [], [], []),
  (1, .invokespecial 3, 3, 0, [], [1], []),
  (4, .aload_n 0, 1, 0, [], [], []),
  (5, .bipush 40, 2, 0, [], [], []),
  (7, .anewarray 9, 3, 0, [], [27], []),
  (10, .putfield 11, 3, 2, [], [1, 0], []),
  (13, .aload_n 0, 1, 0, [], [], []),
  (14, .bipush 40, 2, 0, [], [], []),
  (16, .newarray .int, 2, 0, [], [20], []),
  (18, .putfield 17, 3, 2, [], [1, 1], []),
  (21, .aload_n 0, 1, 0, [], [], []),
  (22, .bipush 40, 2, 0, [], [], []),
  (24, .newarray .int, 2, 0, [], [20], []),
  (26, .putfield 21, 3, 2, [], [1, 2], []),
  (29, .aload_n 0, 1, 0, [], [], []),
  (30, .bipush 40, 2, 0, [], [], []),
  (32, .newarray .int, 2, 0, [], [20], []),
  (34, .putfield 24, 3, 2, [], [1, 3], []),
  (37, .return_, 1, 0, [], [], [])], [])
def mX0_readLines : sM := (4, 0, [
  (0, .aload_n 0, 1, 0, [], [], []),
  (1, .iconst 0, 1, 0, [], [], []),
  (2, .putfield 27, 3, 0, [], [1, 4], []),
  (5, .iconst 0, 1, 0, [], [], []),
  (6, .istore_n 3, 1, 3, [], [], []),
  (7, .iload_n 3, 1, 3, [], [], []),
  (8, .bipush 40, 2, 0, [], [], []),
  (10, .if_icmp .gt 81, 3, 91, [], [], []),
  (13, .aload_n 1, 1, 1, [], [], []),
  (14, .invokevirtual 31, 3, 19, [4, 0], [4], []),
  (17, .ifCond .eq 74, 3, 91, [], [], []),
  (20, .aload_n 1, 1, 1, [], [], []),
  (21, .getfield 37, 3, 2, [], [4, 9], []),
  (24, .ifnull 14, 3, 38, [], [], []),
  (27, .aload_n 1, 1, 1, [], [], []),
  (28, .getfield 37, 3, 2, [], [4, 9], []),
  (31, .getfield 41, 3, 0, [], [30, 1], []),
  (34, .iconst 1, 1, 0, [], [], []),
  (35, .if_icmp .eq 11, 3, 46, [], [], []),
  (38, .aload_n 1, 1, 1, [], [], []),
  (39, .iconst 1, 1, 0, [], [], []),
  (40, .invokevirtual 44, 3, 20, [0, 1], [4], []),
  (43, .goto 42, 3, 85, [], [], []),
  (46, .aload_n 0, 1, 0, [], [], []),
  (47, .getfield 27, 3, 0, [], [1, 4], []),
  (50, .bipush 40, 2, 0, [], [], []),
  (52, .if_icmp .lt 11, 3, 63, [], [], []),
  (55, .aload_n 1, 1, 1, [], [], []),
  (56, .iconst 4, 1, 0, [], [], []),
  (57, .invokevirtual 44, 3, 20, [0, 1], [4], []),
  (60, .goto 25, 3, 85, [], [], []),
  (63, .aload_n 0, 1, 0, [], [], []),
  (64, .aload_n 1, 1, 1, [], [], []),
  (65, .aload_n 2, 1, 2, [], [], []),
  (66, .invokevirtual 48, 3, 2, [0, 2], [1], []),
  (69, .aload_n 1, 1, 1, [], [], []),
  (70, .bipush 59, 2, 0, [], [], []),
  (72, .invokevirtual 52, 3, 23, [0, 1], [4], []),
  (75, .aload_n 0, 1, 0, [], [], []),
  (76, .dup, 1, 0, [], [], []),
  (77, .getfield 27, 3, 0, [], [1, 4], []),
  (80, .iconst 1, 1, 0, [], [], []),
  (81, .iadd, 1, 0, [], [], []),
  (82, .putfield 27, 3, 0, [], [1, 4], []),
  (85, .iinc 3 1, 3, 3, [], [], []),
  (88, .goto (-81), 3, 7, [], [], []),
  (91, .return_, 1, 0, [], [], [])], [(7, [true, true, true, true])])
def mX0_readLine : sM := (7, 0, [
  (0, .aload_n 1, 1, 1, [], [], []),
  (1, .getfield 37, 3, 2, [], [4, 9], []),
  (4, .astore_n 3, 1, 3, [], [], []),
  (5, .iconst 0, 1, 0, [], [], []),
  (6, .istore 4, 2, 4, [], [], []),
  (8, .iconst 0, 1, 0, [], [], []),
  (9, .istore 5, 2, 5, [], [], []),
  (11, .iconst 0, 1, 0, [], [], []),
  (12, .istore 6, 2, 6, [], [], []),
  (14, .aload_n 1, 1, 1, [], [], []),
  (15, .invokevirtual 55, 3, 16, [0, 0], [4], []),
  (18, .aload_n 3, 1, 3, [], [], []),
  (19, .getstatic 58, 3, 0, [], [10], []),
  (22, .if_acmp .eq 10, 3, 32, [], [], []),
  (25, .aload_n 3, 1, 3, [], [], []),
  (26, .getstatic 61, 3, 0, [], [11], []),
  (29, .if_acmp .ne 43, 3, 72, [], [], []),
  (32, .aload_n 1, 1, 1, [], [], []),
  (33, .iconst 0, 1, 0, [], [], []),
  (34, .sipush 999, 3, 0, [], [], []),
  (37, .invokevirtual 64, 3, 25, [1, 2], [4], []),
  (40, .istore 4, 2, 4, [], [], []),
  (42, .aload_n 3, 1, 3, [], [], []),
  (43, .getstatic 58, 3, 0, [], [10], []),
  (46, .if_acmp .ne 13, 3, 59, [], [], []),
  (49, .aload_n 1, 1, 1, [], [], []),
  (50, .iconst 0, 1, 0, [], [], []),
  (51, .bipush 7, 2, 0, [], [], []),
  (53, .invokevirtual 64, 3, 25, [1, 2], [4], []),
  (56, .goto 11, 3, 67, [], [], []),
  (59, .aload_n 1, 1, 1, [], [], []),
  (60, .iconst 1, 1, 0, [], [], []),
  (61, .sipush 600, 3, 0, [], [], []),
  (64, .invokevirtual 64, 3, 25, [1, 2], [4], []),
  (67, .istore 5, 2, 5, [], [], []),
  (69, .goto 58, 3, 127, [], [], []),
  (72, .aload_n 3, 1, 3, [], [], []),
  (73, .getstatic 68, 3, 0, [], [8], []),
  (76, .if_acmp .ne 23, 3, 99, [], [], []),
  (79, .aload_n 1, 1, 1, [], [], []),
  (80, .aload_n 2, 1, 2, [], [], []),
  (81, .iconst (-1), 1, 0, [], [], []),
  (82, .invokevirtual 71, 3, 26, [1, 2], [4], []),
  (85, .istore 4, 2, 4, [], [], []),
  (87, .aload_n 1, 1, 1, [], [], []),
  (88, .aload_n 2, 1, 2, [], [], []),
  (89, .iload 4, 2, 4, [], [], []),
  (91, .invokevirtual 71, 3, 26, [1, 2], [4], []),
  (94, .istore 5, 2, 5, [], [], []),
  (96, .goto 31, 3, 127, [], [], []),
  (99, .aload_n 1, 1, 1, [], [], []),
  (100, .aload_n 2, 1, 2, [], [], []),
  (101, .iconst (-1), 1, 0, [], [], []),
  (102, .invokevirtual 71, 3, 26, [1, 2], [4], []),
  (105, .istore 4, 2, 4, [], [], []),
  (107, .aload_n 1, 1, 1, [], [], []),
  (108, .iconst 0, 1, 0, [], [], []),
  (109, .sipush 999, 3, 0, [], [], []),
  (112, .invokevirtual 64, 3, 25, [1, 2], [4], []),
  (115, .istore 5, 2, 5, [], [], []),
  (117, .aload_n 1, 1, 1, [], [], []),
  (118, .aload_n 2, 1, 2, [], [], []),
  (119, .aload_n 3, 1, 3, [], [], []),
  (120, .iload 4, 2, 4, [], [], []),
  (122, .invokestatic 75, 3, 3, [1, 4], [], []),
  (125, .istore 6, 2, 6, [], [], []),
  (127, .aload_n 0, 1, 0, [], [], []),
  (128, .getfield 11, 3, 2, [], [1, 0], []),
  (131, .aload_n 0, 1, 0, [], [], []),
  (132, .getfield 27, 3, 0, [], [1, 4], []),
  (135, .aload_n 3, 1, 3, [], [], []),
  (136, .aastore, 1, 0, [], [], []),
  (137, .aload_n 0, 1, 0, [], [], []),
  (138, .getfield 17, 3, 2, [], [1, 1], []),
  (141, .aload_n 0, 1, 0, [], [], []),
  (142, .getfield 27, 3, 0, [], [1, 4], []),
  (145, .iload 4, 2, 4, [], [], []),
  (147, .iastore, 1, 0, [], [], []),
  (148, .aload_n 0, 1, 0, [], [], []),
  (149, .getfield 21, 3, 2, [], [1, 2], []),
  (152, .aload_n 0, 1, 0, [], [], []),
  (153, .getfield 27, 3, 0, [], [1, 4], []),
  (156, .iload 5, 2, 5, [], [], []),
  (158, .iastore, 1, 0, [], [], []),
  (159, .aload_n 0, 1, 0, [], [], []),
  (160, .getfield 24, 3, 2, [], [1, 3], []),
  (163, .aload_n 0, 1, 0, [], [], []),
  (164, .getfield 27, 3, 0, [], [1, 4], []),
  (167, .iload 6, 2, 6, [], [], []),
  (169, .iastore, 1, 0, [], [], []),
  (170, .return_, 1, 0, [], [], [])], [(127, [true, false, false, true, true, true, true])])
def mX0_readThird : sM := (4, 1, [
  (0, .aload_n 2, 1, 2, [], [], []),
  (1, .getstatic 79, 3, 0, [], [9], []),
  (4, .if_acmp .ne 10, 3, 14, [], [], []),
  (7, .aload_n 0, 1, 0, [], [], []),
  (8, .aload_n 1, 1, 1, [], [], []),
  (9, .iload_n 3, 1, 3, [], [], []),
  (10, .invokevirtual 71, 3, 26, [1, 2], [4], []),
  (13, .ireturn, 1, 0, [], [], []),
  (14, .aload_n 2, 1, 2, [], [], []),
  (15, .getstatic 82, 3, 0, [], [4], []),
  (18, .if_acmp .eq 10, 3, 28, [], [], []),
  (21, .aload_n 2, 1, 2, [], [], []),
  (22, .getstatic 85, 3, 0, [], [5], []),
  (25, .if_acmp .ne 12, 3, 37, [], [], []),
  (28, .aload_n 0, 1, 0, [], [], []),
  (29, .iconst 0, 1, 0, [], [], []),
  (30, .iconst 1, 1, 0, [], [], []),
  (31, .invokevirtual 64, 3, 25, [1, 2], [4], []),
  (34, .goto 11, 3, 45, [], [], []),
  (37, .aload_n 0, 1, 0, [], [], []),
  (38, .iconst 1, 1, 0, [], [], []),
  (39, .sipush 600, 3, 0, [], [], []),
  (42, .invokevirtual 64, 3, 25, [1, 2], [4], []),
  (45, .ireturn, 1, 0, [], [], [])], [])
def mX0_liveOn : sM := (5, 1, [
  (0, .aload_n 0, 1, 0, [], [], []),
  (1, .iconst 0, 1, 0, [], [], []),
  (2, .putfield 88, 3, 0, [], [1, 5], []),
  (5, .iconst 0, 1, 0, [], [], []),
  (6, .istore_n 2, 1, 2, [], [], []),
  (7, .iload_n 2, 1, 2, [], [], []),
  (8, .aload_n 0, 1, 0, [], [], []),
  (9, .getfield 27, 3, 0, [], [1, 4], []),
  (12, .if_icmp .ge 94, 3, 106, [], [], []),
  (15, .iload_n 2, 1, 2, [], [], []),
  (16, .bipush 40, 2, 0, [], [], []),
  (18, .if_icmp .ge 88, 3, 106, [], [], []),
  (21, .aload_n 0, 1, 0, [], [], []),
  (22, .getfield 11, 3, 2, [], [1, 0], []),
  (25, .iload_n 2, 1, 2, [], [], []),
  (26, .aaload, 1, 0, [], [], []),
  (27, .astore_n 3, 1, 3, [], [], []),
  (28, .aload_n 3, 1, 3, [], [], []),
  (29, .ifnonnull 5, 3, 34, [], [], []),
  (32, .iload_n 2, 1, 2, [], [], []),
  (33, .ireturn, 1, 0, [], [], []),
  (34, .aload_n 1, 1, 1, [], [], []),
  (35, .aload_n 3, 1, 3, [], [], []),
  (36, .aload_n 0, 1, 0, [], [], []),
  (37, .getfield 17, 3, 2, [], [1, 1], []),
  (40, .iload_n 2, 1, 2, [], [], []),
  (41, .iaload, 1, 0, [], [], []),
  (42, .aload_n 0, 1, 0, [], [], []),
  (43, .getfield 21, 3, 2, [], [1, 2], []),
  (46, .iload_n 2, 1, 2, [], [], []),
  (47, .iaload, 1, 0, [], [], []),
  (48, .aload_n 0, 1, 0, [], [], []),
  (49, .getfield 24, 3, 2, [], [1, 3], []),
  (52, .iload_n 2, 1, 2, [], [], []),
  (53, .iaload, 1, 0, [], [], []),
  (54, .invokevirtual 91, 3, 86, [1, 4], [8], []),
  (57, .istore 4, 2, 4, [], [], []),
  (59, .iload 4, 2, 4, [], [], []),
  (61, .ifCond .eq 16, 3, 77, [], [], []),
  (64, .aload_n 0, 1, 0, [], [], []),
  (65, .aload_n 3, 1, 3, [], [], []),
  (66, .getfield 97, 3, 0, [], [30, 2], []),
  (69, .iload 4, 2, 4, [], [], []),
  (71, .iadd, 1, 0, [], [], []),
  (72, .putfield 88, 3, 0, [], [1, 5], []),
  (75, .iload_n 2, 1, 2, [], [], []),
  (76, .ireturn, 1, 0, [], [], []),
  (77, .aload_n 1, 1, 1, [], [], []),
  (78, .aload_n 3, 1, 3, [], [], []),
  (79, .aload_n 0, 1, 0, [], [], []),
  (80, .getfield 17, 3, 2, [], [1, 1], []),
  (83, .iload_n 2, 1, 2, [], [], []),
  (84, .iaload, 1, 0, [], [], []),
  (85, .aload_n 0, 1, 0, [], [], []),
  (86, .getfield 21, 3, 2, [], [1, 2], []),
  (89, .iload_n 2, 1, 2, [], [], []),
  (90, .iaload, 1, 0, [], [], []),
  (91, .aload_n 0, 1, 0, [], [], []),
  (92, .getfield 24, 3, 2, [], [1, 3], []),
  (95, .iload_n 2, 1, 2, [], [], []),
  (96, .iaload, 1, 0, [], [], []),
  (97, .invokevirtual 100, 3, 88, [0, 4], [8], []),
  (100, .iinc 2 1, 3, 2, [], [], []),
  (103, .goto (-96), 3, 7, [], [], []),
  (106, .aload_n 0, 1, 0, [], [], []),
  (107, .getfield 27, 3, 0, [], [1, 4], []),
  (110, .ireturn, 1, 0, [], [], [])], [(7, [true, true, true, false, false])])
def mX1_init : sM := (2, 0, [
  (0, .aload_n 0, 1, 0, [], [], []),
  (1, .invokespecial 1, 3, 0, [], [2], []),
  (4, .aload_n 0, 1, 0, [], [], []),
  (5, .iload_n 1, 1, 1, [], [], []),
  (6, .putfield 7, 3, 0, [], [2, 0], []),
  (9, .return_, 1, 0, [], [], [])], [])
def mX1_draw : sM := (2, 1, [
  (0, .aload_n 0, 1, 0, [], [], []),
  (1, .aload_n 0, 1, 0, [], [], []),
  (2, .getfield 7, 3, 0, [], [2, 0], []),
  (5, .ldc 13, 2, 0, [], [1103515245], []),
  (7, .imul, 1, 0, [], [], []),
  (8, .sipush 12345, 3, 0, [], [], []),
  (11, .iadd, 1, 0, [], [], []),
  (12, .putfield 7, 3, 0, [], [2, 0], []),
  (15, .iload_n 1, 1, 1, [], [], []),
  (16, .iconst 1, 1, 0, [], [], []),
  (17, .if_icmp .ge 7, 3, 24, [], [], []),
  (20, .iconst 0, 1, 0, [], [], []),
  (21, .goto 12, 3, 33, [], [], []),
  (24, .aload_n 0, 1, 0, [], [], []),
  (25, .getfield 7, 3, 0, [], [2, 0], []),
  (28, .bipush 8, 2, 0, [], [], []),
  (30, .iushr, 1, 0, [], [], []),
  (31, .iload_n 1, 1, 1, [], [], []),
  (32, .irem, 1, 0, [], [], []),
  (33, .ireturn, 1, 0, [], [], [])], [])
def mX1_deedOn : sM := (7, 4, [
  (0, .aload_n 1, 1, 1, [], [], []),
  (1, .getfield 14, 3, 0, [], [8, 3], []),
  (4, .ifCond .ne 5, 3, 9, [], [], []),
  (7, .iconst 0, 1, 0, [], [], []),
  (8, .ireturn, 1, 0, [], [], []),
  (9, .aload_n 0, 1, 0, [], [], []),
  (10, .bipush 8, 2, 0, [], [], []),
  (12, .invokevirtual 19, 3, 6, [1, 1], [2], []),
  (15, .istore_n 2, 1, 2, [], [], []),
  (16, .aload_n 0, 1, 0, [], [], []),
  (17, .aload_n 1, 1, 1, [], [], []),
  (18, .getfield 14, 3, 0, [], [8, 3], []),
  (21, .invokevirtual 19, 3, 6, [1, 1], [2], []),
  (24, .istore_n 3, 1, 3, [], [], []),
  (25, .aload_n 1, 1, 1, [], [], []),
  (26, .iload_n 3, 1, 3, [], [], []),
  (27, .invokevirtual 23, 3, 77, [3, 1], [8], []),
  (30, .astore 4, 2, 4, [], [], []),
  (32, .aload_n 0, 1, 0, [], [], []),
  (33, .aload 4, 2, 4, [], [], []),
  (35, .ifnonnull 7, 3, 42, [], [], []),
  (38, .iconst 1, 1, 0, [], [], []),
  (39, .goto 10, 3, 49, [], [], []),
  (42, .aload 4, 2, 4, [], [], []),
  (44, .getfield 27, 3, 0, [], [5, 2], []),
  (47, .iconst 1, 1, 0, [], [], []),
  (48, .iadd, 1, 0, [], [], []),
  (49, .invokevirtual 19, 3, 6, [1, 1], [2], []),
  (52, .istore 5, 2, 5, [], [], []),
  (54, .iload_n 2, 1, 2, [], [], []),
  (55, .tableswitch 144 3 7 #[33, 52, 52, 71, 107], 33, 199, [], [], [(3, 88), (4, 107), (5, 107), (6, 126), (7, 162)]),
  (88, .aload_n 1, 1, 1, [], [], []),
  (89, .getstatic 32, 3, 0, [], [6], []),
  (92, .iload_n 3, 1, 3, [], [], []),
  (93, .iload 5, 2, 5, [], [], []),
  (95, .aload_n 0, 1, 0, [], [], []),
  (96, .bipush 8, 2, 0, [], [], []),
  (98, .invokevirtual 19, 3, 6, [1, 1], [2], []),
  (101, .iconst 1, 1, 0, [], [], []),
  (102, .iadd, 1, 0, [], [], []),
  (103, .invokestatic 38, 3, 8, [4, 5], [], []),
  (106, .ireturn, 1, 0, [], [], []),
  (107, .aload_n 1, 1, 1, [], [], []),
  (108, .getstatic 42, 3, 0, [], [7], []),
  (111, .iload_n 3, 1, 3, [], [], []),
  (112, .iload 5, 2, 5, [], [], []),
  (114, .aload_n 0, 1, 0, [], [], []),
  (115, .bipush 40, 2, 0, [], [], []),
  (117, .invokevirtual 19, 3, 6, [1, 1], [2], []),
  (120, .iconst 1, 1, 0, [], [], []),
  (121, .iadd, 1, 0, [], [], []),
  (122, .invokestatic 38, 3, 8, [4, 5], [], []),
  (125, .ireturn, 1, 0, [], [], []),
  (126, .aload_n 0, 1, 0, [], [], []),
  (127, .aload_n 1, 1, 1, [], [], []),
  (128, .getfield 14, 3, 0, [], [8, 3], []),
  (131, .invokevirtual 19, 3, 6, [1, 1], [2], []),
  (134, .istore 6, 2, 6, [], [], []),
  (136, .iload 6, 2, 6, [], [], []),
  (138, .iload_n 3, 1, 3, [], [], []),
  (139, .if_icmp .eq 21, 3, 160, [], [], []),
  (142, .aload_n 1, 1, 1, [], [], []),
  (143, .getstatic 45, 3, 0, [], [8], []),
  (146, .iload_n 3, 1, 3, [], [], []),
  (147, .iload 6, 2, 6, [], [], []),
  (149, .iconst 0, 1, 0, [], [], []),
  (150, .invokestatic 38, 3, 8, [4, 5], [], []),
  (153, .ifCond .eq 7, 3, 160, [], [], []),
  (156, .iconst 1, 1, 0, [], [], []),
  (157, .goto 4, 3, 161, [], [], []),
  (160, .iconst 0, 1, 0, [], [], []),
  (161, .ireturn, 1, 0, [], [], []),
  (162, .aload_n 0, 1, 0, [], [], []),
  (163, .aload_n 1, 1, 1, [], [], []),
  (164, .getfield 14, 3, 0, [], [8, 3], []),
  (167, .invokevirtual 19, 3, 6, [1, 1], [2], []),
  (170, .istore 6, 2, 6, [], [], []),
  (172, .iload 6, 2, 6, [], [], []),
  (174, .iload_n 3, 1, 3, [], [], []),
  (175, .if_icmp .eq 22, 3, 197, [], [], []),
  (178, .aload_n 1, 1, 1, [], [], []),
  (179, .getstatic 48, 3, 0, [], [9], []),
  (182, .iload_n 3, 1, 3, [], [], []),
  (183, .iload 5, 2, 5, [], [], []),
  (185, .iload 6, 2, 6, [], [], []),
  (187, .invokestatic 38, 3, 8, [4, 5], [], []),
  (190, .ifCond .eq 7, 3, 197, [], [], []),
  (193, .iconst 1, 1, 0, [], [], []),
  (194, .goto 4, 3, 198, [], [], []),
  (197, .iconst 0, 1, 0, [], [], []),
  (198, .ireturn, 1, 0, [], [], []),
  (199, .aload_n 1, 1, 1, [], [], []),
  (200, .getstatic 51, 3, 0, [], [4], []),
  (203, .iload_n 3, 1, 3, [], [], []),
  (204, .iload 5, 2, 5, [], [], []),
  (206, .aload_n 0, 1, 0, [], [], []),
  (207, .iconst 2, 1, 0, [], [], []),
  (208, .invokevirtual 19, 3, 6, [1, 1], [2], []),
  (211, .invokestatic 38, 3, 8, [4, 5], [], []),
  (214, .ireturn, 1, 0, [], [], [])], [])
def mX1_done : sM := (5, 4, [
  (0, .aload_n 0, 1, 0, [], [], []),
  (1, .aload_n 1, 1, 1, [], [], []),
  (2, .iload_n 2, 1, 2, [], [], []),
  (3, .iload_n 3, 1, 3, [], [], []),
  (4, .iload 4, 2, 4, [], [], []),
  (6, .invokevirtual 54, 3, 86, [1, 4], [8], []),
  (9, .ifCond .eq 5, 3, 14, [], [], []),
  (12, .iconst 0, 1, 0, [], [], []),
  (13, .ireturn, 1, 0, [], [], []),
  (14, .aload_n 0, 1, 0, [], [], []),
  (15, .aload_n 1, 1, 1, [], [], []),
  (16, .iload_n 2, 1, 2, [], [], []),
  (17, .iload_n 3, 1, 3, [], [], []),
  (18, .iload 4, 2, 4, [], [], []),
  (20, .invokevirtual 58, 3, 88, [0, 4], [8], []),
  (23, .iconst 1, 1, 0, [], [], []),
  (24, .ireturn, 1, 0, [], [], [])], [])
def mX2_asBits : sM := (14, 2, [
  (0, .lload_n 0, 1, 0, [], [], []),
  (1, .lconst 0, 1, 0, [], [0], []),
  (2, .lcmp, 1, 0, [], [], []),
  (3, .ifCond .le 9, 3, 12, [], [], []),
  (6, .lload_n 2, 1, 2, [], [], []),
  (7, .lconst 0, 1, 0, [], [0], []),
  (8, .lcmp, 1, 0, [], [], []),
  (9, .ifCond .gt 5, 3, 14, [], [], []),
  (12, .lconst 0, 1, 0, [], [0], []),
  (13, .lreturn, 1, 0, [], [], []),
  (14, .lload_n 0, 1, 0, [], [], []),
  (15, .lstore 6, 2, 6, [], [], []),
  (17, .lload_n 2, 1, 2, [], [], []),
  (18, .lstore 8, 2, 8, [], [], []),
  (20, .iconst 0, 1, 0, [], [], []),
  (21, .istore 10, 2, 10, [], [], []),
  (23, .iconst 0, 1, 0, [], [], []),
  (24, .istore 11, 2, 11, [], [], []),
  (26, .iload 11, 2, 11, [], [], []),
  (28, .bipush 40, 2, 0, [], [], []),
  (30, .if_icmp .ge 32, 3, 62, [], [], []),
  (33, .lload 6, 2, 6, [], [], []),
  (35, .ldc2_w 7, 3, 0, [], [2], []),
  (38, .lload 8, 2, 8, [], [], []),
  (40, .lmul, 1, 0, [], [], []),
  (41, .lcmp, 1, 0, [], [], []),
  (42, .ifCond .lt 20, 3, 62, [], [], []),
  (45, .lload 8, 2, 8, [], [], []),
  (47, .ldc2_w 7, 3, 0, [], [2], []),
  (50, .lmul, 1, 0, [], [], []),
  (51, .lstore 8, 2, 8, [], [], []),
  (53, .iinc 10 1, 3, 10, [], [], []),
  (56, .iinc 11 1, 3, 11, [], [], []),
  (59, .goto (-33), 3, 26, [], [], []),
  (62, .iconst 0, 1, 0, [], [], []),
  (63, .istore 11, 2, 11, [], [], []),
  (65, .iload 11, 2, 11, [], [], []),
  (67, .bipush 40, 2, 0, [], [], []),
  (69, .if_icmp .ge 28, 3, 97, [], [], []),
  (72, .lload 6, 2, 6, [], [], []),
  (74, .lload 8, 2, 8, [], [], []),
  (76, .lcmp, 1, 0, [], [], []),
  (77, .ifCond .ge 20, 3, 97, [], [], []),
  (80, .lload 6, 2, 6, [], [], []),
  (82, .ldc2_w 7, 3, 0, [], [2], []),
  (85, .lmul, 1, 0, [], [], []),
  (86, .lstore 6, 2, 6, [], [], []),
  (88, .iinc 10 (-1), 3, 10, [], [], []),
  (91, .iinc 11 1, 3, 11, [], [], []),
  (94, .goto (-29), 3, 65, [], [], []),
  (97, .lconst 0, 1, 0, [], [0], []),
  (98, .lstore 11, 2, 11, [], [], []),
  (100, .iconst 0, 1, 0, [], [], []),
  (101, .istore 13, 2, 13, [], [], []),
  (103, .iload 13, 2, 13, [], [], []),
  (105, .iload 4, 2, 4, [], [], []),
  (107, .if_icmp .ge 46, 3, 153, [], [], []),
  (110, .lload 11, 2, 11, [], [], []),
  (112, .ldc2_w 7, 3, 0, [], [2], []),
  (115, .lmul, 1, 0, [], [], []),
  (116, .lstore 11, 2, 11, [], [], []),
  (118, .lload 6, 2, 6, [], [], []),
  (120, .lload 8, 2, 8, [], [], []),
  (122, .lcmp, 1, 0, [], [], []),
  (123, .ifCond .lt 16, 3, 139, [], [], []),
  (126, .lload 11, 2, 11, [], [], []),
  (128, .lconst 1, 1, 0, [], [1], []),
  (129, .ladd, 1, 0, [], [], []),
  (130, .lstore 11, 2, 11, [], [], []),
  (132, .lload 6, 2, 6, [], [], []),
  (134, .lload 8, 2, 8, [], [], []),
  (136, .lsub, 1, 0, [], [], []),
  (137, .lstore 6, 2, 6, [], [], []),
  (139, .lload 6, 2, 6, [], [], []),
  (141, .ldc2_w 7, 3, 0, [], [2], []),
  (144, .lmul, 1, 0, [], [], []),
  (145, .lstore 6, 2, 6, [], [], []),
  (147, .iinc 13 1, 3, 13, [], [], []),
  (150, .goto (-47), 3, 103, [], [], []),
  (153, .lload 6, 2, 6, [], [], []),
  (155, .lload 8, 2, 8, [], [], []),
  (157, .lcmp, 1, 0, [], [], []),
  (158, .ifCond .gt 20, 3, 178, [], [], []),
  (161, .lload 6, 2, 6, [], [], []),
  (163, .lload 8, 2, 8, [], [], []),
  (165, .lcmp, 1, 0, [], [], []),
  (166, .ifCond .ne 18, 3, 184, [], [], []),
  (169, .lload 11, 2, 11, [], [], []),
  (171, .lconst 1, 1, 0, [], [1], []),
  (172, .land, 1, 0, [], [], []),
  (173, .lconst 1, 1, 0, [], [1], []),
  (174, .lcmp, 1, 0, [], [], []),
  (175, .ifCond .ne 9, 3, 184, [], [], []),
  (178, .lload 11, 2, 11, [], [], []),
  (180, .lconst 1, 1, 0, [], [1], []),
  (181, .ladd, 1, 0, [], [], []),
  (182, .lstore 11, 2, 11, [], [], []),
  (184, .iload 10, 2, 10, [], [], []),
  (186, .iload 5, 2, 5, [], [], []),
  (188, .iadd, 1, 0, [], [], []),
  (189, .iconst 1, 1, 0, [], [], []),
  (190, .isub, 1, 0, [], [], []),
  (191, .i2l, 1, 0, [], [], []),
  (192, .iload 4, 2, 4, [], [], []),
  (194, .iconst 1, 1, 0, [], [], []),
  (195, .isub, 1, 0, [], [], []),
  (196, .lshl, 1, 0, [], [], []),
  (197, .lload 11, 2, 11, [], [], []),
  (199, .ladd, 1, 0, [], [], []),
  (200, .lreturn, 1, 0, [], [], [])], [(26, [false, false, false, false, true, true, true, false, true, false, true, true, false, false]), (65, [false, false, false, false, true, true, true, false, true, false, true, true, false, false]), (103, [false, false, false, false, true, true, true, false, true, false, true, true, false, true])])
def mX3_init : sM := (1, 0, [
  (0, .aload_n 0, 1, 0, [], [], []),
  (1, .invokespecial 3, 3, 0, [], [3], []),
  (4, .aload_n 0, 1, 0, [], [], []),
  (5, .bipush 8, 2, 0, [], [], []),
  (7, .anewarray 9, 3, 0, [], [25], []),
  (10, .putfield 11, 3, 2, [], [3, 0], []),
  (13, .return_, 1, 0, [], [], [])], [])
def mX3_forget : sM := (1, 0, [
  (0, .aload_n 0, 1, 0, [], [], []),
  (1, .iconst 0, 1, 0, [], [], []),
  (2, .putfield 17, 3, 0, [], [3, 2], []),
  (5, .return_, 1, 0, [], [], [])], [])
def mX3_keep : sM := (3, 0, [
  (0, .aload_n 0, 1, 0, [], [], []),
  (1, .getfield 21, 3, 0, [], [3, 1], []),
  (4, .aload_n 0, 1, 0, [], [], []),
  (5, .getfield 17, 3, 0, [], [3, 2], []),
  (8, .iadd, 1, 0, [], [], []),
  (9, .bipush 8, 2, 0, [], [], []),
  (11, .irem, 1, 0, [], [], []),
  (12, .istore_n 2, 1, 2, [], [], []),
  (13, .aload_n 0, 1, 0, [], [], []),
  (14, .getfield 17, 3, 0, [], [3, 2], []),
  (17, .bipush 8, 2, 0, [], [], []),
  (19, .if_icmp .ne 19, 3, 38, [], [], []),
  (22, .aload_n 0, 1, 0, [], [], []),
  (23, .aload_n 0, 1, 0, [], [], []),
  (24, .getfield 21, 3, 0, [], [3, 1], []),
  (27, .iconst 1, 1, 0, [], [], []),
  (28, .iadd, 1, 0, [], [], []),
  (29, .bipush 8, 2, 0, [], [], []),
  (31, .irem, 1, 0, [], [], []),
  (32, .putfield 21, 3, 0, [], [3, 1], []),
  (35, .goto 13, 3, 48, [], [], []),
  (38, .aload_n 0, 1, 0, [], [], []),
  (39, .dup, 1, 0, [], [], []),
  (40, .getfield 17, 3, 0, [], [3, 2], []),
  (43, .iconst 1, 1, 0, [], [], []),
  (44, .iadd, 1, 0, [], [], []),
  (45, .putfield 17, 3, 0, [], [3, 2], []),
  (48, .aload_n 0, 1, 0, [], [], []),
  (49, .getfield 11, 3, 2, [], [3, 0], []),
  (52, .iload_n 2, 1, 2, [], [], []),
  (53, .aaload, 1, 0, [], [], []),
  (54, .ifnonnull 16, 3, 70, [], [], []),
  (57, .aload_n 0, 1, 0, [], [], []),
  (58, .getfield 11, 3, 2, [], [3, 0], []),
  (61, .iload_n 2, 1, 2, [], [], []),
  (62, .new 9, 3, 6, [], [8], []),
  (65, .dup, 1, 0, [], [], []),
  (66, .invokespecial 24, 3, 75, [0], [8], []),
  (69, .aastore, 1, 0, [], [], []),
  (70, .aload_n 0, 1, 0, [], [], []),
  (71, .getfield 11, 3, 2, [], [3, 0], []),
  (74, .iload_n 2, 1, 2, [], [], []),
  (75, .aaload, 1, 0, [], [], []),
  (76, .aload_n 1, 1, 1, [], [], []),
  (77, .invokevirtual 25, 3, 76, [0, 1], [8], []),
  (80, .return_, 1, 0, [], [], [])], [])
def mX3_bringBack : sM := (3, 4, [
  (0, .aload_n 0, 1, 0, [], [], []),
  (1, .getfield 17, 3, 0, [], [3, 2], []),
  (4, .ifCond .ne 5, 3, 9, [], [], []),
  (7, .iconst 0, 1, 0, [], [], []),
  (8, .ireturn, 1, 0, [], [], []),
  (9, .aload_n 0, 1, 0, [], [], []),
  (10, .getfield 21, 3, 0, [], [3, 1], []),
  (13, .aload_n 0, 1, 0, [], [], []),
  (14, .getfield 17, 3, 0, [], [3, 2], []),
  (17, .iadd, 1, 0, [], [], []),
  (18, .iconst 1, 1, 0, [], [], []),
  (19, .isub, 1, 0, [], [], []),
  (20, .bipush 8, 2, 0, [], [], []),
  (22, .irem, 1, 0, [], [], []),
  (23, .istore_n 2, 1, 2, [], [], []),
  (24, .aload_n 0, 1, 0, [], [], []),
  (25, .getfield 11, 3, 2, [], [3, 0], []),
  (28, .iload_n 2, 1, 2, [], [], []),
  (29, .aaload, 1, 0, [], [], []),
  (30, .ifnonnull 5, 3, 35, [], [], []),
  (33, .iconst 0, 1, 0, [], [], []),
  (34, .ireturn, 1, 0, [], [], []),
  (35, .aload_n 0, 1, 0, [], [], []),
  (36, .dup, 1, 0, [], [], []),
  (37, .getfield 17, 3, 0, [], [3, 2], []),
  (40, .iconst 1, 1, 0, [], [], []),
  (41, .isub, 1, 0, [], [], []),
  (42, .putfield 17, 3, 0, [], [3, 2], []),
  (45, .aload_n 1, 1, 1, [], [], []),
  (46, .aload_n 0, 1, 0, [], [], []),
  (47, .getfield 11, 3, 2, [], [3, 0], []),
  (50, .iload_n 2, 1, 2, [], [], []),
  (51, .aaload, 1, 0, [], [], []),
  (52, .invokevirtual 25, 3, 76, [0, 1], [8], []),
  (55, .iconst 1, 1, 0, [], [], []),
  (56, .ireturn, 1, 0, [], [], [])], [])
def mX4_init : sM := (1, 0, [
  (0, .aload_n 0, 1, 0, [], [], []),
  (1, .invokespecial 3, 3, 0, [], [4], []),
  (4, .aload_n 0, 1, 0, [], [], []),
  (5, .iconst 0, 1, 0, [], [], []),
  (6, .newarray .int, 2, 0, [], [20], []),
  (8, .putfield 9, 3, 2, [], [4, 0], []),
  (11, .return_, 1, 0, [], [], [])], [])
def mX4_open : sM := (4, 0, [
  (0, .aload_n 0, 1, 0, [], [], []),
  (1, .aload_n 1, 1, 1, [], [], []),
  (2, .putfield 9, 3, 2, [], [4, 0], []),
  (5, .aload_n 0, 1, 0, [], [], []),
  (6, .iload_n 2, 1, 2, [], [], []),
  (7, .aload_n 1, 1, 1, [], [], []),
  (8, .arraylength, 1, 0, [], [], []),
  (9, .if_icmp .ge 7, 3, 16, [], [], []),
  (12, .iload_n 2, 1, 2, [], [], []),
  (13, .goto 5, 3, 18, [], [], []),
  (16, .aload_n 1, 1, 1, [], [], []),
  (17, .arraylength, 1, 0, [], [], []),
  (18, .putfield 15, 3, 0, [], [4, 1], []),
  (21, .aload_n 0, 1, 0, [], [], []),
  (22, .iload_n 3, 1, 3, [], [], []),
  (23, .putfield 19, 3, 0, [], [4, 2], []),
  (26, .aload_n 0, 1, 0, [], [], []),
  (27, .iconst 0, 1, 0, [], [], []),
  (28, .putfield 22, 3, 0, [], [4, 3], []),
  (31, .aload_n 0, 1, 0, [], [], []),
  (32, .iconst 0, 1, 0, [], [], []),
  (33, .putfield 25, 3, 0, [], [4, 10], []),
  (36, .aload_n 0, 1, 0, [], [], []),
  (37, .iconst 0, 1, 0, [], [], []),
  (38, .putfield 28, 3, 0, [], [4, 11], []),
  (41, .aload_n 0, 1, 0, [], [], []),
  (42, .invokevirtual 31, 3, 16, [0, 0], [4], []),
  (45, .return_, 1, 0, [], [], [])], [])
def mX4_advance : sM := (2, 0, [
  (0, .aload_n 0, 1, 0, [], [], []),
  (1, .getfield 15, 3, 0, [], [4, 1], []),
  (4, .aload_n 0, 1, 0, [], [], []),
  (5, .getfield 19, 3, 0, [], [4, 2], []),
  (8, .if_icmp .ge 10, 3, 18, [], [], []),
  (11, .aload_n 0, 1, 0, [], [], []),
  (12, .getfield 15, 3, 0, [], [4, 1], []),
  (15, .goto 7, 3, 22, [], [], []),
  (18, .aload_n 0, 1, 0, [], [], []),
  (19, .getfield 19, 3, 0, [], [4, 2], []),
  (22, .istore_n 1, 1, 1, [], [], []),
  (23, .aload_n 0, 1, 0, [], [], []),
  (24, .getfield 22, 3, 0, [], [4, 3], []),
  (27, .iload_n 1, 1, 1, [], [], []),
  (28, .if_icmp .ge 44, 3, 72, [], [], []),
  (31, .aload_n 0, 1, 0, [], [], []),
  (32, .getfield 9, 3, 2, [], [4, 0], []),
  (35, .aload_n 0, 1, 0, [], [], []),
  (36, .getfield 22, 3, 0, [], [4, 3], []),
  (39, .iaload, 1, 0, [], [], []),
  (40, .bipush 32, 2, 0, [], [], []),
  (42, .if_icmp .eq 17, 3, 59, [], [], []),
  (45, .aload_n 0, 1, 0, [], [], []),
  (46, .getfield 9, 3, 2, [], [4, 0], []),
  (49, .aload_n 0, 1, 0, [], [], []),
  (50, .getfield 22, 3, 0, [], [4, 3], []),
  (53, .iaload, 1, 0, [], [], []),
  (54, .bipush 10, 2, 0, [], [], []),
  (56, .if_icmp .ne 16, 3, 72, [], [], []),
  (59, .aload_n 0, 1, 0, [], [], []),
  (60, .dup, 1, 0, [], [], []),
  (61, .getfield 22, 3, 0, [], [4, 3], []),
  (64, .iconst 1, 1, 0, [], [], []),
  (65, .iadd, 1, 0, [], [], []),
  (66, .putfield 22, 3, 0, [], [4, 3], []),
  (69, .goto (-46), 3, 23, [], [], []),
  (72, .aload_n 0, 1, 0, [], [], []),
  (73, .aconst_null, 1, 0, [], [], []),
  (74, .putfield 34, 3, 2, [], [4, 9], []),
  (77, .aload_n 0, 1, 0, [], [], []),
  (78, .getfield 22, 3, 0, [], [4, 3], []),
  (81, .iload_n 1, 1, 1, [], [], []),
  (82, .if_icmp .lt 29, 3, 111, [], [], []),
  (85, .aload_n 0, 1, 0, [], [], []),
  (86, .iload_n 1, 1, 1, [], [], []),
  (87, .putfield 38, 3, 0, [], [4, 5], []),
  (90, .aload_n 0, 1, 0, [], [], []),
  (91, .aload_n 0, 1, 0, [], [], []),
  (92, .getfield 15, 3, 0, [], [4, 1], []),
  (95, .aload_n 0, 1, 0, [], [], []),
  (96, .getfield 19, 3, 0, [], [4, 2], []),
  (99, .if_icmp .le 7, 3, 106, [], [], []),
  (102, .iconst 1, 1, 0, [], [], []),
  (103, .goto 4, 3, 107, [], [], []),
  (106, .iconst 0, 1, 0, [], [], []),
  (107, .putfield 41, 3, 0, [], [4, 4], []),
  (110, .return_, 1, 0, [], [], []),
  (111, .aload_n 0, 1, 0, [], [], []),
  (112, .aload_n 0, 1, 0, [], [], []),
  (113, .getfield 22, 3, 0, [], [4, 3], []),
  (116, .putfield 38, 3, 0, [], [4, 5], []),
  (119, .aload_n 0, 1, 0, [], [], []),
  (120, .invokevirtual 44, 3, 17, [0, 0], [4], []),
  (123, .aload_n 0, 1, 0, [], [], []),
  (124, .getfield 22, 3, 0, [], [4, 3], []),
  (127, .aload_n 0, 1, 0, [], [], []),
  (128, .getfield 38, 3, 0, [], [4, 5], []),
  (131, .if_icmp .ne 45, 3, 176, [], [], []),
  (134, .aload_n 0, 1, 0, [], [], []),
  (135, .aload_n 0, 1, 0, [], [], []),
  (136, .getfield 9, 3, 2, [], [4, 0], []),
  (139, .aload_n 0, 1, 0, [], [], []),
  (140, .getfield 22, 3, 0, [], [4, 3], []),
  (143, .iaload, 1, 0, [], [], []),
  (144, .putfield 47, 3, 0, [], [4, 7], []),
  (147, .aload_n 0, 1, 0, [], [], []),
  (148, .aload_n 0, 1, 0, [], [], []),
  (149, .getfield 47, 3, 0, [], [4, 7], []),
  (152, .invokestatic 50, 3, 18, [4, 1], [], []),
  (155, .ifCond .eq 7, 3, 162, [], [], []),
  (158, .iconst 4, 1, 0, [], [], []),
  (159, .goto 4, 3, 163, [], [], []),
  (162, .iconst 1, 1, 0, [], [], []),
  (163, .putfield 41, 3, 0, [], [4, 4], []),
  (166, .aload_n 0, 1, 0, [], [], []),
  (167, .dup, 1, 0, [], [], []),
  (168, .getfield 22, 3, 0, [], [4, 3], []),
  (171, .iconst 1, 1, 0, [], [], []),
  (172, .iadd, 1, 0, [], [], []),
  (173, .putfield 22, 3, 0, [], [4, 3], []),
  (176, .aload_n 0, 1, 0, [], [], []),
  (177, .aload_n 0, 1, 0, [], [], []),
  (178, .getfield 41, 3, 0, [], [4, 4], []),
  (181, .iconst 2, 1, 0, [], [], []),
  (182, .if_icmp .ne 13, 3, 195, [], [], []),
  (185, .aload_n 0, 1, 0, [], [], []),
  (186, .getfield 54, 3, 1, [], [4, 8], []),
  (189, .invokestatic 58, 3, 94, [3, 1], [], []),
  (192, .goto 4, 3, 196, [], [], []),
  (195, .aconst_null, 1, 0, [], [], []),
  (196, .putfield 34, 3, 2, [], [4, 9], []),
  (199, .return_, 1, 0, [], [], [])], [(23, [true, true]), (72, [true, true])])
def mX4_readLettersAndDigits : sM := (5, 0, [
  (0, .iconst 0, 1, 0, [], [], []),
  (1, .istore_n 1, 1, 1, [], [], []),
  (2, .iconst 0, 1, 0, [], [], []),
  (3, .istore_n 2, 1, 2, [], [], []),
  (4, .aload_n 0, 1, 0, [], [], []),
  (5, .lconst 0, 1, 0, [], [0], []),
  (6, .putfield 54, 3, 1, [], [4, 8], []),
  (9, .aload_n 0, 1, 0, [], [], []),
  (10, .iconst 0, 1, 0, [], [], []),
  (11, .putfield 64, 3, 0, [], [4, 6], []),
  (14, .aload_n 0, 1, 0, [], [], []),
  (15, .getfield 22, 3, 0, [], [4, 3], []),
  (18, .aload_n 0, 1, 0, [], [], []),
  (19, .getfield 15, 3, 0, [], [4, 1], []),
  (22, .if_icmp .ge 95, 3, 117, [], [], []),
  (25, .aload_n 0, 1, 0, [], [], []),
  (26, .getfield 9, 3, 2, [], [4, 0], []),
  (29, .aload_n 0, 1, 0, [], [], []),
  (30, .getfield 22, 3, 0, [], [4, 3], []),
  (33, .iaload, 1, 0, [], [], []),
  (34, .istore_n 3, 1, 3, [], [], []),
  (35, .iload_n 3, 1, 3, [], [], []),
  (36, .bipush 97, 2, 0, [], [], []),
  (38, .if_icmp .lt 35, 3, 73, [], [], []),
  (41, .iload_n 3, 1, 3, [], [], []),
  (42, .bipush 122, 2, 0, [], [], []),
  (44, .if_icmp .gt 29, 3, 73, [], [], []),
  (47, .iinc 1 1, 3, 1, [], [], []),
  (50, .aload_n 0, 1, 0, [], [], []),
  (51, .aload_n 0, 1, 0, [], [], []),
  (52, .getfield 54, 3, 1, [], [4, 8], []),
  (55, .ldc2_w 67, 3, 0, [], [32], []),
  (58, .lmul, 1, 0, [], [], []),
  (59, .iload_n 3, 1, 3, [], [], []),
  (60, .bipush 97, 2, 0, [], [], []),
  (62, .isub, 1, 0, [], [], []),
  (63, .iconst 1, 1, 0, [], [], []),
  (64, .iadd, 1, 0, [], [], []),
  (65, .i2l, 1, 0, [], [], []),
  (66, .ladd, 1, 0, [], [], []),
  (67, .putfield 54, 3, 1, [], [4, 8], []),
  (70, .goto 34, 3, 104, [], [], []),
  (73, .iload_n 3, 1, 3, [], [], []),
  (74, .bipush 48, 2, 0, [], [], []),
  (76, .if_icmp .lt 41, 3, 117, [], [], []),
  (79, .iload_n 3, 1, 3, [], [], []),
  (80, .bipush 57, 2, 0, [], [], []),
  (82, .if_icmp .gt 35, 3, 117, [], [], []),
  (85, .iinc 2 1, 3, 2, [], [], []),
  (88, .aload_n 0, 1, 0, [], [], []),
  (89, .aload_n 0, 1, 0, [], [], []),
  (90, .getfield 64, 3, 0, [], [4, 6], []),
  (93, .bipush 10, 2, 0, [], [], []),
  (95, .imul, 1, 0, [], [], []),
  (96, .iload_n 3, 1, 3, [], [], []),
  (97, .bipush 48, 2, 0, [], [], []),
  (99, .isub, 1, 0, [], [], []),
  (100, .iadd, 1, 0, [], [], []),
  (101, .putfield 64, 3, 0, [], [4, 6], []),
  (104, .aload_n 0, 1, 0, [], [], []),
  (105, .dup, 1, 0, [], [], []),
  (106, .getfield 22, 3, 0, [], [4, 3], []),
  (109, .iconst 1, 1, 0, [], [], []),
  (110, .iadd, 1, 0, [], [], []),
  (111, .putfield 22, 3, 0, [], [4, 3], []),
  (114, .goto (-100), 3, 14, [], [], []),
  (117, .iload_n 2, 1, 2, [], [], []),
  (118, .ifCond .ne 18, 3, 136, [], [], []),
  (121, .iload_n 1, 1, 1, [], [], []),
  (122, .iconst 1, 1, 0, [], [], []),
  (123, .if_icmp .lt 13, 3, 136, [], [], []),
  (126, .iload_n 1, 1, 1, [], [], []),
  (127, .bipush 7, 2, 0, [], [], []),
  (129, .if_icmp .gt 7, 3, 136, [], [], []),
  (132, .iconst 1, 1, 0, [], [], []),
  (133, .goto 4, 3, 137, [], [], []),
  (136, .iconst 0, 1, 0, [], [], []),
  (137, .istore_n 3, 1, 3, [], [], []),
  (138, .iload_n 1, 1, 1, [], [], []),
  (139, .ifCond .ne 17, 3, 156, [], [], []),
  (142, .iload_n 2, 1, 2, [], [], []),
  (143, .iconst 1, 1, 0, [], [], []),
  (144, .if_icmp .lt 12, 3, 156, [], [], []),
  (147, .iload_n 2, 1, 2, [], [], []),
  (148, .iconst 3, 1, 0, [], [], []),
  (149, .if_icmp .gt 7, 3, 156, [], [], []),
  (152, .iconst 1, 1, 0, [], [], []),
  (153, .goto 4, 3, 157, [], [], []),
  (156, .iconst 0, 1, 0, [], [], []),
  (157, .istore 4, 2, 4, [], [], []),
  (159, .aload_n 0, 1, 0, [], [], []),
  (160, .iload_n 3, 1, 3, [], [], []),
  (161, .ifCond .eq 7, 3, 168, [], [], []),
  (164, .iconst 2, 1, 0, [], [], []),
  (165, .goto 13, 3, 178, [], [], []),
  (168, .iload 4, 2, 4, [], [], []),
  (170, .ifCond .eq 7, 3, 177, [], [], []),
  (173, .iconst 3, 1, 0, [], [], []),
  (174, .goto 4, 3, 178, [], [], []),
  (177, .iconst 1, 1, 0, [], [], []),
  (178, .putfield 41, 3, 0, [], [4, 4], []),
  (181, .return_, 1, 0, [], [], [])], [(14, [true, true, true, false, false]), (117, [true, true, true, false, false]), (137, [true, true, true, false, false])])
def mX4_isSign : sM := (1, 4, [
  (0, .iload_n 0, 1, 0, [], [], []),
  (1, .bipush 59, 2, 0, [], [], []),
  (3, .if_icmp .eq 33, 3, 36, [], [], []),
  (6, .iload_n 0, 1, 0, [], [], []),
  (7, .bipush 60, 2, 0, [], [], []),
  (9, .if_icmp .eq 27, 3, 36, [], [], []),
  (12, .iload_n 0, 1, 0, [], [], []),
  (13, .bipush 61, 2, 0, [], [], []),
  (15, .if_icmp .eq 21, 3, 36, [], [], []),
  (18, .iload_n 0, 1, 0, [], [], []),
  (19, .bipush 62, 2, 0, [], [], []),
  (21, .if_icmp .eq 15, 3, 36, [], [], []),
  (24, .iload_n 0, 1, 0, [], [], []),
  (25, .bipush 40, 2, 0, [], [], []),
  (27, .if_icmp .eq 9, 3, 36, [], [], []),
  (30, .iload_n 0, 1, 0, [], [], []),
  (31, .bipush 41, 2, 0, [], [], []),
  (33, .if_icmp .ne 7, 3, 40, [], [], []),
  (36, .iconst 1, 1, 0, [], [], []),
  (37, .goto 4, 3, 41, [], [], []),
  (40, .iconst 0, 1, 0, [], [], []),
  (41, .ireturn, 1, 0, [], [], [])], [])
def mX4_goesOn : sM := (1, 4, [
  (0, .aload_n 0, 1, 0, [], [], []),
  (1, .getfield 25, 3, 0, [], [4, 10], []),
  (4, .ifCond .ne 14, 3, 18, [], [], []),
  (7, .aload_n 0, 1, 0, [], [], []),
  (8, .getfield 41, 3, 0, [], [4, 4], []),
  (11, .ifCond .eq 7, 3, 18, [], [], []),
  (14, .iconst 1, 1, 0, [], [], []),
  (15, .goto 4, 3, 19, [], [], []),
  (18, .iconst 0, 1, 0, [], [], []),
  (19, .ireturn, 1, 0, [], [], [])], [])
def mX4_fail : sM := (2, 0, [
  (0, .aload_n 0, 1, 0, [], [], []),
  (1, .getfield 25, 3, 0, [], [4, 10], []),
  (4, .ifCond .ne 16, 3, 20, [], [], []),
  (7, .aload_n 0, 1, 0, [], [], []),
  (8, .iload_n 1, 1, 1, [], [], []),
  (9, .putfield 25, 3, 0, [], [4, 10], []),
  (12, .aload_n 0, 1, 0, [], [], []),
  (13, .aload_n 0, 1, 0, [], [], []),
  (14, .getfield 38, 3, 0, [], [4, 5], []),
  (17, .putfield 28, 3, 0, [], [4, 11], []),
  (20, .return_, 1, 0, [], [], [])], [])
def mX4_isAtName : sM := (1, 4, [
  (0, .aload_n 0, 1, 0, [], [], []),
  (1, .getfield 41, 3, 0, [], [4, 4], []),
  (4, .iconst 2, 1, 0, [], [], []),
  (5, .if_icmp .ne 14, 3, 19, [], [], []),
  (8, .aload_n 0, 1, 0, [], [], []),
  (9, .getfield 34, 3, 2, [], [4, 9], []),
  (12, .ifnonnull 7, 3, 19, [], [], []),
  (15, .iconst 1, 1, 0, [], [], []),
  (16, .goto 4, 3, 20, [], [], []),
  (19, .iconst 0, 1, 0, [], [], []),
  (20, .ireturn, 1, 0, [], [], [])], [])
def mX4_isAtSign : sM := (2, 4, [
  (0, .aload_n 0, 1, 0, [], [], []),
  (1, .getfield 41, 3, 0, [], [4, 4], []),
  (4, .iconst 4, 1, 0, [], [], []),
  (5, .if_icmp .ne 15, 3, 20, [], [], []),
  (8, .aload_n 0, 1, 0, [], [], []),
  (9, .getfield 47, 3, 0, [], [4, 7], []),
  (12, .iload_n 1, 1, 1, [], [], []),
  (13, .if_icmp .ne 7, 3, 20, [], [], []),
  (16, .iconst 1, 1, 0, [], [], []),
  (17, .goto 4, 3, 21, [], [], []),
  (20, .iconst 0, 1, 0, [], [], []),
  (21, .ireturn, 1, 0, [], [], [])], [])
def mX4_takeSign : sM := (2, 0, [
  (0, .aload_n 0, 1, 0, [], [], []),
  (1, .getfield 25, 3, 0, [], [4, 10], []),
  (4, .ifCond .eq 4, 3, 8, [], [], []),
  (7, .return_, 1, 0, [], [], []),
  (8, .aload_n 0, 1, 0, [], [], []),
  (9, .iload_n 1, 1, 1, [], [], []),
  (10, .invokevirtual 69, 3, 22, [4, 1], [4], []),
  (13, .ifCond .eq 10, 3, 23, [], [], []),
  (16, .aload_n 0, 1, 0, [], [], []),
  (17, .invokevirtual 31, 3, 16, [0, 0], [4], []),
  (20, .goto 8, 3, 28, [], [], []),
  (23, .aload_n 0, 1, 0, [], [], []),
  (24, .iconst 1, 1, 0, [], [], []),
  (25, .invokevirtual 72, 3, 20, [0, 1], [4], []),
  (28, .return_, 1, 0, [], [], [])], [])
def mX4_takeComparison : sM := (2, 1, [
  (0, .aload_n 0, 1, 0, [], [], []),
  (1, .getfield 25, 3, 0, [], [4, 10], []),
  (4, .ifCond .eq 5, 3, 9, [], [], []),
  (7, .iconst 0, 1, 0, [], [], []),
  (8, .ireturn, 1, 0, [], [], []),
  (9, .aload_n 0, 1, 0, [], [], []),
  (10, .bipush 60, 2, 0, [], [], []),
  (12, .invokevirtual 69, 3, 22, [4, 1], [4], []),
  (15, .ifCond .ne 28, 3, 43, [], [], []),
  (18, .aload_n 0, 1, 0, [], [], []),
  (19, .bipush 61, 2, 0, [], [], []),
  (21, .invokevirtual 69, 3, 22, [4, 1], [4], []),
  (24, .ifCond .ne 19, 3, 43, [], [], []),
  (27, .aload_n 0, 1, 0, [], [], []),
  (28, .bipush 62, 2, 0, [], [], []),
  (30, .invokevirtual 69, 3, 22, [4, 1], [4], []),
  (33, .ifCond .ne 10, 3, 43, [], [], []),
  (36, .aload_n 0, 1, 0, [], [], []),
  (37, .iconst 1, 1, 0, [], [], []),
  (38, .invokevirtual 72, 3, 20, [0, 1], [4], []),
  (41, .iconst 0, 1, 0, [], [], []),
  (42, .ireturn, 1, 0, [], [], []),
  (43, .aload_n 0, 1, 0, [], [], []),
  (44, .getfield 47, 3, 0, [], [4, 7], []),
  (47, .istore_n 1, 1, 1, [], [], []),
  (48, .aload_n 0, 1, 0, [], [], []),
  (49, .invokevirtual 31, 3, 16, [0, 0], [4], []),
  (52, .iload_n 1, 1, 1, [], [], []),
  (53, .ireturn, 1, 0, [], [], [])], [])
def mX4_takeNumber : sM := (4, 1, [
  (0, .aload_n 0, 1, 0, [], [], []),
  (1, .getfield 25, 3, 0, [], [4, 10], []),
  (4, .ifCond .eq 5, 3, 9, [], [], []),
  (7, .iconst (-1), 1, 0, [], [], []),
  (8, .ireturn, 1, 0, [], [], []),
  (9, .aload_n 0, 1, 0, [], [], []),
  (10, .getfield 41, 3, 0, [], [4, 4], []),
  (13, .iconst 3, 1, 0, [], [], []),
  (14, .if_icmp .eq 10, 3, 24, [], [], []),
  (17, .aload_n 0, 1, 0, [], [], []),
  (18, .iconst 1, 1, 0, [], [], []),
  (19, .invokevirtual 72, 3, 20, [0, 1], [4], []),
  (22, .iconst (-1), 1, 0, [], [], []),
  (23, .ireturn, 1, 0, [], [], []),
  (24, .aload_n 0, 1, 0, [], [], []),
  (25, .getfield 64, 3, 0, [], [4, 6], []),
  (28, .iload_n 1, 1, 1, [], [], []),
  (29, .if_icmp .lt 11, 3, 40, [], [], []),
  (32, .aload_n 0, 1, 0, [], [], []),
  (33, .getfield 64, 3, 0, [], [4, 6], []),
  (36, .iload_n 2, 1, 2, [], [], []),
  (37, .if_icmp .le 10, 3, 47, [], [], []),
  (40, .aload_n 0, 1, 0, [], [], []),
  (41, .iconst 2, 1, 0, [], [], []),
  (42, .invokevirtual 72, 3, 20, [0, 1], [4], []),
  (45, .iconst (-1), 1, 0, [], [], []),
  (46, .ireturn, 1, 0, [], [], []),
  (47, .aload_n 0, 1, 0, [], [], []),
  (48, .getfield 64, 3, 0, [], [4, 6], []),
  (51, .istore_n 3, 1, 3, [], [], []),
  (52, .aload_n 0, 1, 0, [], [], []),
  (53, .invokevirtual 31, 3, 16, [0, 0], [4], []),
  (56, .iload_n 3, 1, 3, [], [], []),
  (57, .ireturn, 1, 0, [], [], [])], [])
def mX4_takeRow : sM := (4, 1, [
  (0, .aload_n 0, 1, 0, [], [], []),
  (1, .getfield 25, 3, 0, [], [4, 10], []),
  (4, .ifCond .eq 5, 3, 9, [], [], []),
  (7, .iconst (-1), 1, 0, [], [], []),
  (8, .ireturn, 1, 0, [], [], []),
  (9, .aload_n 0, 1, 0, [], [], []),
  (10, .invokevirtual 76, 3, 21, [4, 0], [4], []),
  (13, .ifCond .ne 10, 3, 23, [], [], []),
  (16, .aload_n 0, 1, 0, [], [], []),
  (17, .iconst 1, 1, 0, [], [], []),
  (18, .invokevirtual 72, 3, 20, [0, 1], [4], []),
  (21, .iconst (-1), 1, 0, [], [], []),
  (22, .ireturn, 1, 0, [], [], []),
  (23, .aload_n 1, 1, 1, [], [], []),
  (24, .aload_n 0, 1, 0, [], [], []),
  (25, .getfield 54, 3, 1, [], [4, 8], []),
  (28, .invokevirtual 80, 3, 78, [1, 1], [8], []),
  (31, .istore_n 3, 1, 3, [], [], []),
  (32, .iload_n 3, 1, 3, [], [], []),
  (33, .iconst (-1), 1, 0, [], [], []),
  (34, .if_icmp .eq 8, 3, 42, [], [], []),
  (37, .iload_n 3, 1, 3, [], [], []),
  (38, .iload_n 2, 1, 2, [], [], []),
  (39, .if_icmp .ne 10, 3, 49, [], [], []),
  (42, .aload_n 0, 1, 0, [], [], []),
  (43, .iconst 3, 1, 0, [], [], []),
  (44, .invokevirtual 72, 3, 20, [0, 1], [4], []),
  (47, .iconst (-1), 1, 0, [], [], []),
  (48, .ireturn, 1, 0, [], [], []),
  (49, .aload_n 0, 1, 0, [], [], []),
  (50, .invokevirtual 31, 3, 16, [0, 0], [4], []),
  (53, .iload_n 3, 1, 3, [], [], []),
  (54, .ireturn, 1, 0, [], [], [])], [])
def mX4_lettersOfWord : sM := (1, 1, [
  (0, .aload_n 0, 1, 0, [], [], []),
  (1, .getfield 22, 3, 0, [], [4, 3], []),
  (4, .aload_n 0, 1, 0, [], [], []),
  (5, .getfield 38, 3, 0, [], [4, 5], []),
  (8, .isub, 1, 0, [], [], []),
  (9, .ireturn, 1, 0, [], [], [])], [])
def mX4_letterOfWord : sM := (3, 1, [
  (0, .aload_n 0, 1, 0, [], [], []),
  (1, .getfield 38, 3, 0, [], [4, 5], []),
  (4, .iload_n 1, 1, 1, [], [], []),
  (5, .iadd, 1, 0, [], [], []),
  (6, .istore_n 2, 1, 2, [], [], []),
  (7, .iload_n 2, 1, 2, [], [], []),
  (8, .ifCond .lt 11, 3, 19, [], [], []),
  (11, .iload_n 2, 1, 2, [], [], []),
  (12, .aload_n 0, 1, 0, [], [], []),
  (13, .getfield 15, 3, 0, [], [4, 1], []),
  (16, .if_icmp .lt 7, 3, 23, [], [], []),
  (19, .iconst 0, 1, 0, [], [], []),
  (20, .goto 9, 3, 29, [], [], []),
  (23, .aload_n 0, 1, 0, [], [], []),
  (24, .getfield 9, 3, 2, [], [4, 0], []),
  (27, .iload_n 2, 1, 2, [], [], []),
  (28, .iaload, 1, 0, [], [], []),
  (29, .ireturn, 1, 0, [], [], [])], [])
def mX5_init : sM := (1, 0, [
  (0, .aload_n 0, 1, 0, [], [], []),
  (1, .invokespecial 3, 3, 0, [], [5], []),
  (4, .aload_n 0, 1, 0, [], [], []),
  (5, .sipush 600, 3, 0, [], [], []),
  (8, .newarray .byte, 2, 0, [], [21], []),
  (10, .putfield 9, 3, 2, [], [5, 0], []),
  (13, .aload_n 0, 1, 0, [], [], []),
  (14, .sipush 152, 3, 0, [], [], []),
  (17, .newarray .int, 2, 0, [], [20], []),
  (19, .putfield 15, 3, 2, [], [5, 1], []),
  (22, .return_, 1, 0, [], [], [])], [])
def mX5_clear : sM := (1, 0, [
  (0, .aload_n 0, 1, 0, [], [], []),
  (1, .iconst 0, 1, 0, [], [], []),
  (2, .putfield 19, 3, 0, [], [5, 2], []),
  (5, .aload_n 0, 1, 0, [], [], []),
  (6, .iconst 0, 1, 0, [], [], []),
  (7, .putfield 23, 3, 0, [], [5, 3], []),
  (10, .return_, 1, 0, [], [], [])], [])
def mX5_copyFrom : sM := (2, 0, [
  (0, .aload_n 1, 1, 1, [], [], []),
  (1, .getfield 9, 3, 2, [], [5, 0], []),
  (4, .iconst 0, 1, 0, [], [], []),
  (5, .aload_n 0, 1, 0, [], [], []),
  (6, .getfield 9, 3, 2, [], [5, 0], []),
  (9, .iconst 0, 1, 0, [], [], []),
  (10, .aload_n 1, 1, 1, [], [], []),
  (11, .getfield 19, 3, 0, [], [5, 2], []),
  (14, .invokestatic 26, 3, 0, [0], [], []),
  (17, .aload_n 1, 1, 1, [], [], []),
  (18, .getfield 15, 3, 2, [], [5, 1], []),
  (21, .iconst 0, 1, 0, [], [], []),
  (22, .aload_n 0, 1, 0, [], [], []),
  (23, .getfield 15, 3, 2, [], [5, 1], []),
  (26, .iconst 0, 1, 0, [], [], []),
  (27, .aload_n 1, 1, 1, [], [], []),
  (28, .getfield 23, 3, 0, [], [5, 3], []),
  (31, .invokestatic 26, 3, 0, [0], [], []),
  (34, .aload_n 0, 1, 0, [], [], []),
  (35, .aload_n 1, 1, 1, [], [], []),
  (36, .getfield 19, 3, 0, [], [5, 2], []),
  (39, .putfield 19, 3, 0, [], [5, 2], []),
  (42, .aload_n 0, 1, 0, [], [], []),
  (43, .aload_n 1, 1, 1, [], [], []),
  (44, .getfield 23, 3, 0, [], [5, 3], []),
  (47, .putfield 23, 3, 0, [], [5, 3], []),
  (50, .return_, 1, 0, [], [], [])], [])
def mX5_hasGap : sM := (2, 4, [
  (0, .iload_n 1, 1, 1, [], [], []),
  (1, .ifCond .lt 15, 3, 16, [], [], []),
  (4, .iload_n 1, 1, 1, [], [], []),
  (5, .aload_n 0, 1, 0, [], [], []),
  (6, .getfield 19, 3, 0, [], [5, 2], []),
  (9, .if_icmp .gt 7, 3, 16, [], [], []),
  (12, .iconst 1, 1, 0, [], [], []),
  (13, .goto 4, 3, 17, [], [], []),
  (16, .iconst 0, 1, 0, [], [], []),
  (17, .ireturn, 1, 0, [], [], [])], [])
def mX5_hasRange : sM := (3, 4, [
  (0, .iload_n 1, 1, 1, [], [], []),
  (1, .ifCond .lt 21, 3, 22, [], [], []),
  (4, .iload_n 2, 1, 2, [], [], []),
  (5, .ifCond .lt 17, 3, 22, [], [], []),
  (8, .iload_n 1, 1, 1, [], [], []),
  (9, .aload_n 0, 1, 0, [], [], []),
  (10, .getfield 19, 3, 0, [], [5, 2], []),
  (13, .iload_n 2, 1, 2, [], [], []),
  (14, .isub, 1, 0, [], [], []),
  (15, .if_icmp .gt 7, 3, 22, [], [], []),
  (18, .iconst 1, 1, 0, [], [], []),
  (19, .goto 4, 3, 23, [], [], []),
  (22, .iconst 0, 1, 0, [], [], []),
  (23, .ireturn, 1, 0, [], [], [])], [])
def mX5_bitAt : sM := (2, 1, [
  (0, .iload_n 1, 1, 1, [], [], []),
  (1, .ifCond .lt 11, 3, 12, [], [], []),
  (4, .iload_n 1, 1, 1, [], [], []),
  (5, .aload_n 0, 1, 0, [], [], []),
  (6, .getfield 19, 3, 0, [], [5, 2], []),
  (9, .if_icmp .lt 7, 3, 16, [], [], []),
  (12, .iconst (-1), 1, 0, [], [], []),
  (13, .goto 9, 3, 22, [], [], []),
  (16, .aload_n 0, 1, 0, [], [], []),
  (17, .getfield 9, 3, 2, [], [5, 0], []),
  (20, .iload_n 1, 1, 1, [], [], []),
  (21, .baload, 1, 0, [], [], []),
  (22, .ireturn, 1, 0, [], [], [])], [])
def mX5_countIn : sM := (6, 1, [
  (0, .iconst 0, 1, 0, [], [], []),
  (1, .istore 4, 2, 4, [], [], []),
  (3, .aload_n 0, 1, 0, [], [], []),
  (4, .iload_n 1, 1, 1, [], [], []),
  (5, .iload_n 2, 1, 2, [], [], []),
  (6, .invokevirtual 32, 3, 33, [4, 2], [5], []),
  (9, .ifCond .eq 34, 3, 43, [], [], []),
  (12, .iload_n 1, 1, 1, [], [], []),
  (13, .istore 5, 2, 5, [], [], []),
  (15, .iload 5, 2, 5, [], [], []),
  (17, .iload_n 1, 1, 1, [], [], []),
  (18, .iload_n 2, 1, 2, [], [], []),
  (19, .iadd, 1, 0, [], [], []),
  (20, .if_icmp .ge 23, 3, 43, [], [], []),
  (23, .aload_n 0, 1, 0, [], [], []),
  (24, .getfield 9, 3, 2, [], [5, 0], []),
  (27, .iload 5, 2, 5, [], [], []),
  (29, .baload, 1, 0, [], [], []),
  (30, .iload_n 3, 1, 3, [], [], []),
  (31, .if_icmp .ne 6, 3, 37, [], [], []),
  (34, .iinc 4 1, 3, 4, [], [], []),
  (37, .iinc 5 1, 3, 5, [], [], []),
  (40, .goto (-25), 3, 15, [], [], []),
  (43, .iload 4, 2, 4, [], [], []),
  (45, .ireturn, 1, 0, [], [], [])], [(15, [true, true, true, true, true, true])])
def mX5_placeOf : sM := (5, 1, [
  (0, .iconst 0, 1, 0, [], [], []),
  (1, .istore_n 3, 1, 3, [], [], []),
  (2, .iconst 0, 1, 0, [], [], []),
  (3, .istore 4, 2, 4, [], [], []),
  (5, .iload 4, 2, 4, [], [], []),
  (7, .aload_n 0, 1, 0, [], [], []),
  (8, .getfield 19, 3, 0, [], [5, 2], []),
  (11, .if_icmp .ge 31, 3, 42, [], [], []),
  (14, .aload_n 0, 1, 0, [], [], []),
  (15, .getfield 9, 3, 2, [], [5, 0], []),
  (18, .iload 4, 2, 4, [], [], []),
  (20, .baload, 1, 0, [], [], []),
  (21, .iload_n 2, 1, 2, [], [], []),
  (22, .if_icmp .ne 14, 3, 36, [], [], []),
  (25, .iload_n 3, 1, 3, [], [], []),
  (26, .iload_n 1, 1, 1, [], [], []),
  (27, .if_icmp .ne 6, 3, 33, [], [], []),
  (30, .iload 4, 2, 4, [], [], []),
  (32, .ireturn, 1, 0, [], [], []),
  (33, .iinc 3 1, 3, 3, [], [], []),
  (36, .iinc 4 1, 3, 4, [], [], []),
  (39, .goto (-34), 3, 5, [], [], []),
  (42, .iconst (-1), 1, 0, [], [], []),
  (43, .ireturn, 1, 0, [], [], [])], [(5, [true, true, true, true, true])])
def mX5_nextPlace : sM := (4, 1, [
  (0, .iload_n 1, 1, 1, [], [], []),
  (1, .ifCond .ge 5, 3, 6, [], [], []),
  (4, .iconst (-1), 1, 0, [], [], []),
  (5, .ireturn, 1, 0, [], [], []),
  (6, .iload_n 1, 1, 1, [], [], []),
  (7, .istore_n 3, 1, 3, [], [], []),
  (8, .iload_n 3, 1, 3, [], [], []),
  (9, .aload_n 0, 1, 0, [], [], []),
  (10, .getfield 19, 3, 0, [], [5, 2], []),
  (13, .if_icmp .ge 21, 3, 34, [], [], []),
  (16, .aload_n 0, 1, 0, [], [], []),
  (17, .getfield 9, 3, 2, [], [5, 0], []),
  (20, .iload_n 3, 1, 3, [], [], []),
  (21, .baload, 1, 0, [], [], []),
  (22, .iload_n 2, 1, 2, [], [], []),
  (23, .if_icmp .ne 5, 3, 28, [], [], []),
  (26, .iload_n 3, 1, 3, [], [], []),
  (27, .ireturn, 1, 0, [], [], []),
  (28, .iinc 3 1, 3, 3, [], [], []),
  (31, .goto (-23), 3, 8, [], [], []),
  (34, .iconst (-1), 1, 0, [], [], []),
  (35, .ireturn, 1, 0, [], [], [])], [(8, [true, false, true, true])])
def mX5_runCount : sM := (3, 1, [
  (0, .aload_n 0, 1, 0, [], [], []),
  (1, .getfield 19, 3, 0, [], [5, 2], []),
  (4, .ifCond .le 7, 3, 11, [], [], []),
  (7, .iconst 1, 1, 0, [], [], []),
  (8, .goto 4, 3, 12, [], [], []),
  (11, .iconst 0, 1, 0, [], [], []),
  (12, .istore_n 1, 1, 1, [], [], []),
  (13, .iconst 1, 1, 0, [], [], []),
  (14, .istore_n 2, 1, 2, [], [], []),
  (15, .iload_n 2, 1, 2, [], [], []),
  (16, .aload_n 0, 1, 0, [], [], []),
  (17, .getfield 19, 3, 0, [], [5, 2], []),
  (20, .if_icmp .ge 29, 3, 49, [], [], []),
  (23, .aload_n 0, 1, 0, [], [], []),
  (24, .getfield 9, 3, 2, [], [5, 0], []),
  (27, .iload_n 2, 1, 2, [], [], []),
  (28, .baload, 1, 0, [], [], []),
  (29, .aload_n 0, 1, 0, [], [], []),
  (30, .getfield 9, 3, 2, [], [5, 0], []),
  (33, .iload_n 2, 1, 2, [], [], []),
  (34, .iconst 1, 1, 0, [], [], []),
  (35, .isub, 1, 0, [], [], []),
  (36, .baload, 1, 0, [], [], []),
  (37, .if_icmp .eq 6, 3, 43, [], [], []),
  (40, .iinc 1 1, 3, 1, [], [], []),
  (43, .iinc 2 1, 3, 2, [], [], []),
  (46, .goto (-31), 3, 15, [], [], []),
  (49, .iload_n 1, 1, 1, [], [], []),
  (50, .ireturn, 1, 0, [], [], [])], [(15, [true, true, true])])
def mX5_longestRun : sM := (5, 1, [
  (0, .iconst 0, 1, 0, [], [], []),
  (1, .istore_n 2, 1, 2, [], [], []),
  (2, .iconst 0, 1, 0, [], [], []),
  (3, .istore_n 3, 1, 3, [], [], []),
  (4, .iconst 0, 1, 0, [], [], []),
  (5, .istore 4, 2, 4, [], [], []),
  (7, .iload 4, 2, 4, [], [], []),
  (9, .aload_n 0, 1, 0, [], [], []),
  (10, .getfield 19, 3, 0, [], [5, 2], []),
  (13, .if_icmp .ge 34, 3, 47, [], [], []),
  (16, .aload_n 0, 1, 0, [], [], []),
  (17, .getfield 9, 3, 2, [], [5, 0], []),
  (20, .iload 4, 2, 4, [], [], []),
  (22, .baload, 1, 0, [], [], []),
  (23, .iload_n 1, 1, 1, [], [], []),
  (24, .if_icmp .ne 9, 3, 33, [], [], []),
  (27, .iload_n 3, 1, 3, [], [], []),
  (28, .iconst 1, 1, 0, [], [], []),
  (29, .iadd, 1, 0, [], [], []),
  (30, .goto 4, 3, 34, [], [], []),
  (33, .iconst 0, 1, 0, [], [], []),
  (34, .istore_n 3, 1, 3, [], [], []),
  (35, .iload_n 2, 1, 2, [], [], []),
  (36, .iload_n 3, 1, 3, [], [], []),
  (37, .invokestatic 36, 3, 0, [1], [], []),
  (40, .istore_n 2, 1, 2, [], [], []),
  (41, .iinc 4 1, 3, 4, [], [], []),
  (44, .goto (-37), 3, 7, [], [], []),
  (47, .iload_n 2, 1, 2, [], [], []),
  (48, .ireturn, 1, 0, [], [], [])], [(7, [true, true, true, true, true])])
def mX5_wordFrom : sM := (4, 1, [
  (0, .iconst 0, 1, 0, [], [], []),
  (1, .istore_n 2, 1, 2, [], [], []),
  (2, .iload_n 1, 1, 1, [], [], []),
  (3, .istore_n 3, 1, 3, [], [], []),
  (4, .iload_n 3, 1, 3, [], [], []),
  (5, .iload_n 1, 1, 1, [], [], []),
  (6, .bipush 32, 2, 0, [], [], []),
  (8, .iadd, 1, 0, [], [], []),
  (9, .if_icmp .ge 28, 3, 37, [], [], []),
  (12, .iload_n 2, 1, 2, [], [], []),
  (13, .iconst 1, 1, 0, [], [], []),
  (14, .ishl, 1, 0, [], [], []),
  (15, .aload_n 0, 1, 0, [], [], []),
  (16, .iload_n 3, 1, 3, [], [], []),
  (17, .invokevirtual 42, 3, 34, [1, 1], [5], []),
  (20, .iconst 1, 1, 0, [], [], []),
  (21, .if_icmp .ne 7, 3, 28, [], [], []),
  (24, .iconst 1, 1, 0, [], [], []),
  (25, .goto 4, 3, 29, [], [], []),
  (28, .iconst 0, 1, 0, [], [], []),
  (29, .ior, 1, 0, [], [], []),
  (30, .istore_n 2, 1, 2, [], [], []),
  (31, .iinc 3 1, 3, 3, [], [], []),
  (34, .goto (-30), 3, 4, [], [], []),
  (37, .iload_n 2, 1, 2, [], [], []),
  (38, .ireturn, 1, 0, [], [], [])], [(4, [true, true, true, true])])
def mX5_sumOfPlaces : sM := (3, 1, [
  (0, .iconst 0, 1, 0, [], [], []),
  (1, .istore_n 1, 1, 1, [], [], []),
  (2, .iconst 0, 1, 0, [], [], []),
  (3, .istore_n 2, 1, 2, [], [], []),
  (4, .iload_n 2, 1, 2, [], [], []),
  (5, .aload_n 0, 1, 0, [], [], []),
  (6, .getfield 19, 3, 0, [], [5, 2], []),
  (9, .if_icmp .ge 27, 3, 36, [], [], []),
  (12, .iload_n 1, 1, 1, [], [], []),
  (13, .aload_n 0, 1, 0, [], [], []),
  (14, .getfield 9, 3, 2, [], [5, 0], []),
  (17, .iload_n 2, 1, 2, [], [], []),
  (18, .baload, 1, 0, [], [], []),
  (19, .iconst 1, 1, 0, [], [], []),
  (20, .if_icmp .ne 7, 3, 27, [], [], []),
  (23, .iload_n 2, 1, 2, [], [], []),
  (24, .goto 4, 3, 28, [], [], []),
  (27, .iconst 0, 1, 0, [], [], []),
  (28, .iadd, 1, 0, [], [], []),
  (29, .istore_n 1, 1, 1, [], [], []),
  (30, .iinc 2 1, 3, 2, [], [], []),
  (33, .goto (-29), 3, 4, [], [], []),
  (36, .iload_n 1, 1, 1, [], [], []),
  (37, .ireturn, 1, 0, [], [], [])], [(4, [true, true, true])])
def mX5_unlikeBits : sM := (5, 1, [
  (0, .aload_n 0, 1, 0, [], [], []),
  (1, .getfield 19, 3, 0, [], [5, 2], []),
  (4, .aload_n 1, 1, 1, [], [], []),
  (5, .getfield 19, 3, 0, [], [5, 2], []),
  (8, .invokestatic 46, 3, 0, [2], [], []),
  (11, .istore_n 2, 1, 2, [], [], []),
  (12, .aload_n 0, 1, 0, [], [], []),
  (13, .getfield 19, 3, 0, [], [5, 2], []),
  (16, .aload_n 1, 1, 1, [], [], []),
  (17, .getfield 19, 3, 0, [], [5, 2], []),
  (20, .invokestatic 36, 3, 0, [1], [], []),
  (23, .iload_n 2, 1, 2, [], [], []),
  (24, .isub, 1, 0, [], [], []),
  (25, .istore_n 3, 1, 3, [], [], []),
  (26, .iconst 0, 1, 0, [], [], []),
  (27, .istore 4, 2, 4, [], [], []),
  (29, .iload 4, 2, 4, [], [], []),
  (31, .iload_n 2, 1, 2, [], [], []),
  (32, .if_icmp .ge 29, 3, 61, [], [], []),
  (35, .aload_n 0, 1, 0, [], [], []),
  (36, .getfield 9, 3, 2, [], [5, 0], []),
  (39, .iload 4, 2, 4, [], [], []),
  (41, .baload, 1, 0, [], [], []),
  (42, .aload_n 1, 1, 1, [], [], []),
  (43, .getfield 9, 3, 2, [], [5, 0], []),
  (46, .iload 4, 2, 4, [], [], []),
  (48, .baload, 1, 0, [], [], []),
  (49, .if_icmp .eq 6, 3, 55, [], [], []),
  (52, .iinc 3 1, 3, 3, [], [], []),
  (55, .iinc 4 1, 3, 4, [], [], []),
  (58, .goto (-29), 3, 29, [], [], []),
  (61, .iload_n 3, 1, 3, [], [], []),
  (62, .ireturn, 1, 0, [], [], [])], [(29, [true, true, true, true, true])])
def mX5_firstUnlike : sM := (4, 1, [
  (0, .aload_n 0, 1, 0, [], [], []),
  (1, .getfield 19, 3, 0, [], [5, 2], []),
  (4, .aload_n 1, 1, 1, [], [], []),
  (5, .getfield 19, 3, 0, [], [5, 2], []),
  (8, .invokestatic 46, 3, 0, [2], [], []),
  (11, .istore_n 2, 1, 2, [], [], []),
  (12, .iconst 0, 1, 0, [], [], []),
  (13, .istore_n 3, 1, 3, [], [], []),
  (14, .iload_n 3, 1, 3, [], [], []),
  (15, .iload_n 2, 1, 2, [], [], []),
  (16, .if_icmp .ge 26, 3, 42, [], [], []),
  (19, .aload_n 0, 1, 0, [], [], []),
  (20, .getfield 9, 3, 2, [], [5, 0], []),
  (23, .iload_n 3, 1, 3, [], [], []),
  (24, .baload, 1, 0, [], [], []),
  (25, .aload_n 1, 1, 1, [], [], []),
  (26, .getfield 9, 3, 2, [], [5, 0], []),
  (29, .iload_n 3, 1, 3, [], [], []),
  (30, .baload, 1, 0, [], [], []),
  (31, .if_icmp .eq 5, 3, 36, [], [], []),
  (34, .iload_n 3, 1, 3, [], [], []),
  (35, .ireturn, 1, 0, [], [], []),
  (36, .iinc 3 1, 3, 3, [], [], []),
  (39, .goto (-25), 3, 14, [], [], []),
  (42, .aload_n 0, 1, 0, [], [], []),
  (43, .getfield 19, 3, 0, [], [5, 2], []),
  (46, .aload_n 1, 1, 1, [], [], []),
  (47, .getfield 19, 3, 0, [], [5, 2], []),
  (50, .if_icmp .ne 7, 3, 57, [], [], []),
  (53, .iconst (-1), 1, 0, [], [], []),
  (54, .goto 4, 3, 58, [], [], []),
  (57, .iload_n 2, 1, 2, [], [], []),
  (58, .ireturn, 1, 0, [], [], [])], [(14, [true, true, true, true])])
def mX5_beginsWith : sM := (3, 4, [
  (0, .aload_n 0, 1, 0, [], [], []),
  (1, .aload_n 1, 1, 1, [], [], []),
  (2, .invokevirtual 49, 3, 43, [1, 1], [5], []),
  (5, .istore_n 2, 1, 2, [], [], []),
  (6, .iload_n 2, 1, 2, [], [], []),
  (7, .iconst (-1), 1, 0, [], [], []),
  (8, .if_icmp .eq 11, 3, 19, [], [], []),
  (11, .iload_n 2, 1, 2, [], [], []),
  (12, .aload_n 1, 1, 1, [], [], []),
  (13, .getfield 19, 3, 0, [], [5, 2], []),
  (16, .if_icmp .ne 7, 3, 23, [], [], []),
  (19, .iconst 1, 1, 0, [], [], []),
  (20, .goto 4, 3, 24, [], [], []),
  (23, .iconst 0, 1, 0, [], [], []),
  (24, .ireturn, 1, 0, [], [], [])], [])
def mX5_hasAt : sM := (5, 4, [
  (0, .aload_n 0, 1, 0, [], [], []),
  (1, .iload_n 1, 1, 1, [], [], []),
  (2, .iload_n 3, 1, 3, [], [], []),
  (3, .invokevirtual 32, 3, 33, [4, 2], [5], []),
  (6, .ifCond .eq 9, 3, 15, [], [], []),
  (9, .iload_n 3, 1, 3, [], [], []),
  (10, .aload_n 2, 1, 2, [], [], []),
  (11, .arraylength, 1, 0, [], [], []),
  (12, .if_icmp .le 5, 3, 17, [], [], []),
  (15, .iconst 0, 1, 0, [], [], []),
  (16, .ireturn, 1, 0, [], [], []),
  (17, .iconst 0, 1, 0, [], [], []),
  (18, .istore 4, 2, 4, [], [], []),
  (20, .iload 4, 2, 4, [], [], []),
  (22, .iload_n 3, 1, 3, [], [], []),
  (23, .if_icmp .ge 27, 3, 50, [], [], []),
  (26, .aload_n 0, 1, 0, [], [], []),
  (27, .getfield 9, 3, 2, [], [5, 0], []),
  (30, .iload_n 1, 1, 1, [], [], []),
  (31, .iload 4, 2, 4, [], [], []),
  (33, .iadd, 1, 0, [], [], []),
  (34, .baload, 1, 0, [], [], []),
  (35, .aload_n 2, 1, 2, [], [], []),
  (36, .iload 4, 2, 4, [], [], []),
  (38, .iaload, 1, 0, [], [], []),
  (39, .if_icmp .eq 5, 3, 44, [], [], []),
  (42, .iconst 0, 1, 0, [], [], []),
  (43, .ireturn, 1, 0, [], [], []),
  (44, .iinc 4 1, 3, 4, [], [], []),
  (47, .goto (-27), 3, 20, [], [], []),
  (50, .iconst 1, 1, 0, [], [], []),
  (51, .ireturn, 1, 0, [], [], [])], [(20, [true, true, true, true, true])])
def mX5_leafStart : sM := (4, 1, [
  (0, .iconst 0, 1, 0, [], [], []),
  (1, .istore_n 2, 1, 2, [], [], []),
  (2, .iconst 0, 1, 0, [], [], []),
  (3, .istore_n 3, 1, 3, [], [], []),
  (4, .iload_n 3, 1, 3, [], [], []),
  (5, .iload_n 1, 1, 1, [], [], []),
  (6, .if_icmp .ge 26, 3, 32, [], [], []),
  (9, .iload_n 3, 1, 3, [], [], []),
  (10, .aload_n 0, 1, 0, [], [], []),
  (11, .getfield 23, 3, 0, [], [5, 3], []),
  (14, .if_icmp .ge 18, 3, 32, [], [], []),
  (17, .iload_n 2, 1, 2, [], [], []),
  (18, .aload_n 0, 1, 0, [], [], []),
  (19, .getfield 15, 3, 2, [], [5, 1], []),
  (22, .iload_n 3, 1, 3, [], [], []),
  (23, .iaload, 1, 0, [], [], []),
  (24, .iadd, 1, 0, [], [], []),
  (25, .istore_n 2, 1, 2, [], [], []),
  (26, .iinc 3 1, 3, 3, [], [], []),
  (29, .goto (-25), 3, 4, [], [], []),
  (32, .iload_n 2, 1, 2, [], [], []),
  (33, .ireturn, 1, 0, [], [], [])], [(4, [true, true, true, true])])
def mX5_leafWith : sM := (5, 1, [
  (0, .aload_n 0, 1, 0, [], [], []),
  (1, .getfield 23, 3, 0, [], [5, 3], []),
  (4, .iconst 1, 1, 0, [], [], []),
  (5, .isub, 1, 0, [], [], []),
  (6, .iconst 0, 1, 0, [], [], []),
  (7, .invokestatic 36, 3, 0, [1], [], []),
  (10, .istore_n 2, 1, 2, [], [], []),
  (11, .iload_n 1, 1, 1, [], [], []),
  (12, .aload_n 0, 1, 0, [], [], []),
  (13, .getfield 19, 3, 0, [], [5, 2], []),
  (16, .aload_n 0, 1, 0, [], [], []),
  (17, .getfield 15, 3, 2, [], [5, 1], []),
  (20, .iload_n 2, 1, 2, [], [], []),
  (21, .iaload, 1, 0, [], [], []),
  (22, .isub, 1, 0, [], [], []),
  (23, .if_icmp .lt 5, 3, 28, [], [], []),
  (26, .iload_n 2, 1, 2, [], [], []),
  (27, .ireturn, 1, 0, [], [], []),
  (28, .iconst 0, 1, 0, [], [], []),
  (29, .istore_n 3, 1, 3, [], [], []),
  (30, .iconst 0, 1, 0, [], [], []),
  (31, .istore 4, 2, 4, [], [], []),
  (33, .iload 4, 2, 4, [], [], []),
  (35, .iload_n 2, 1, 2, [], [], []),
  (36, .if_icmp .ge 27, 3, 63, [], [], []),
  (39, .iload_n 3, 1, 3, [], [], []),
  (40, .aload_n 0, 1, 0, [], [], []),
  (41, .getfield 15, 3, 2, [], [5, 1], []),
  (44, .iload 4, 2, 4, [], [], []),
  (46, .iaload, 1, 0, [], [], []),
  (47, .iadd, 1, 0, [], [], []),
  (48, .istore_n 3, 1, 3, [], [], []),
  (49, .iload_n 1, 1, 1, [], [], []),
  (50, .iload_n 3, 1, 3, [], [], []),
  (51, .if_icmp .ge 6, 3, 57, [], [], []),
  (54, .iload 4, 2, 4, [], [], []),
  (56, .ireturn, 1, 0, [], [], []),
  (57, .iinc 4 1, 3, 4, [], [], []),
  (60, .goto (-27), 3, 33, [], [], []),
  (63, .iload_n 2, 1, 2, [], [], []),
  (64, .ireturn, 1, 0, [], [], [])], [(33, [true, true, true, true, true])])
def mX5_insert : sM := (5, 0, [
  (0, .aload_n 0, 1, 0, [], [], []),
  (1, .iload_n 1, 1, 1, [], [], []),
  (2, .invokevirtual 53, 3, 32, [4, 1], [5], []),
  (5, .ifCond .eq 13, 3, 18, [], [], []),
  (8, .aload_n 0, 1, 0, [], [], []),
  (9, .getfield 19, 3, 0, [], [5, 2], []),
  (12, .sipush 600, 3, 0, [], [], []),
  (15, .if_icmp .lt 4, 3, 19, [], [], []),
  (18, .return_, 1, 0, [], [], []),
  (19, .aload_n 0, 1, 0, [], [], []),
  (20, .getfield 23, 3, 0, [], [5, 3], []),
  (23, .ifCond .ne 15, 3, 38, [], [], []),
  (26, .aload_n 0, 1, 0, [], [], []),
  (27, .getfield 15, 3, 2, [], [5, 1], []),
  (30, .iconst 0, 1, 0, [], [], []),
  (31, .iconst 0, 1, 0, [], [], []),
  (32, .iastore, 1, 0, [], [], []),
  (33, .aload_n 0, 1, 0, [], [], []),
  (34, .iconst 1, 1, 0, [], [], []),
  (35, .putfield 23, 3, 0, [], [5, 3], []),
  (38, .aload_n 0, 1, 0, [], [], []),
  (39, .iload_n 1, 1, 1, [], [], []),
  (40, .ifCond .ne 7, 3, 47, [], [], []),
  (43, .iconst 0, 1, 0, [], [], []),
  (44, .goto 6, 3, 50, [], [], []),
  (47, .iload_n 1, 1, 1, [], [], []),
  (48, .iconst 1, 1, 0, [], [], []),
  (49, .isub, 1, 0, [], [], []),
  (50, .invokevirtual 57, 3, 47, [1, 1], [5], []),
  (53, .istore 4, 2, 4, [], [], []),
  (55, .aload_n 0, 1, 0, [], [], []),
  (56, .getfield 15, 3, 2, [], [5, 1], []),
  (59, .iload 4, 2, 4, [], [], []),
  (61, .dup2, 1, 0, [], [], []),
  (62, .iaload, 1, 0, [], [], []),
  (63, .iconst 1, 1, 0, [], [], []),
  (64, .iadd, 1, 0, [], [], []),
  (65, .iastore, 1, 0, [], [], []),
  (66, .aload_n 0, 1, 0, [], [], []),
  (67, .iload 4, 2, 4, [], [], []),
  (69, .iload_n 3, 1, 3, [], [], []),
  (70, .invokevirtual 60, 3, 49, [0, 2], [5], []),
  (73, .aload_n 0, 1, 0, [], [], []),
  (74, .getfield 9, 3, 2, [], [5, 0], []),
  (77, .iload_n 1, 1, 1, [], [], []),
  (78, .aload_n 0, 1, 0, [], [], []),
  (79, .getfield 9, 3, 2, [], [5, 0], []),
  (82, .iload_n 1, 1, 1, [], [], []),
  (83, .iconst 1, 1, 0, [], [], []),
  (84, .iadd, 1, 0, [], [], []),
  (85, .aload_n 0, 1, 0, [], [], []),
  (86, .getfield 19, 3, 0, [], [5, 2], []),
  (89, .iload_n 1, 1, 1, [], [], []),
  (90, .isub, 1, 0, [], [], []),
  (91, .invokestatic 26, 3, 0, [0], [], []),
  (94, .aload_n 0, 1, 0, [], [], []),
  (95, .getfield 9, 3, 2, [], [5, 0], []),
  (98, .iload_n 1, 1, 1, [], [], []),
  (99, .iload_n 2, 1, 2, [], [], []),
  (100, .i2b, 1, 0, [], [], []),
  (101, .bastore, 1, 0, [], [], []),
  (102, .aload_n 0, 1, 0, [], [], []),
  (103, .dup, 1, 0, [], [], []),
  (104, .getfield 19, 3, 0, [], [5, 2], []),
  (107, .iconst 1, 1, 0, [], [], []),
  (108, .iadd, 1, 0, [], [], []),
  (109, .putfield 19, 3, 0, [], [5, 2], []),
  (112, .return_, 1, 0, [], [], [])], [(50, [true, true, true, true, false])])
def mX5_halveIfTooBig : sM := (4, 0, [
  (0, .aload_n 0, 1, 0, [], [], []),
  (1, .getfield 15, 3, 2, [], [5, 1], []),
  (4, .iload_n 1, 1, 1, [], [], []),
  (5, .iaload, 1, 0, [], [], []),
  (6, .istore_n 3, 1, 3, [], [], []),
  (7, .iload_n 3, 1, 3, [], [], []),
  (8, .iconst 2, 1, 0, [], [], []),
  (9, .iload_n 2, 1, 2, [], [], []),
  (10, .imul, 1, 0, [], [], []),
  (11, .if_icmp .le 13, 3, 24, [], [], []),
  (14, .aload_n 0, 1, 0, [], [], []),
  (15, .getfield 23, 3, 0, [], [5, 3], []),
  (18, .sipush 152, 3, 0, [], [], []),
  (21, .if_icmp .lt 4, 3, 25, [], [], []),
  (24, .return_, 1, 0, [], [], []),
  (25, .aload_n 0, 1, 0, [], [], []),
  (26, .getfield 15, 3, 2, [], [5, 1], []),
  (29, .iload_n 1, 1, 1, [], [], []),
  (30, .iconst 1, 1, 0, [], [], []),
  (31, .iadd, 1, 0, [], [], []),
  (32, .aload_n 0, 1, 0, [], [], []),
  (33, .getfield 15, 3, 2, [], [5, 1], []),
  (36, .iload_n 1, 1, 1, [], [], []),
  (37, .iconst 2, 1, 0, [], [], []),
  (38, .iadd, 1, 0, [], [], []),
  (39, .aload_n 0, 1, 0, [], [], []),
  (40, .getfield 23, 3, 0, [], [5, 3], []),
  (43, .iload_n 1, 1, 1, [], [], []),
  (44, .isub, 1, 0, [], [], []),
  (45, .iconst 1, 1, 0, [], [], []),
  (46, .isub, 1, 0, [], [], []),
  (47, .invokestatic 26, 3, 0, [0], [], []),
  (50, .aload_n 0, 1, 0, [], [], []),
  (51, .getfield 15, 3, 2, [], [5, 1], []),
  (54, .iload_n 1, 1, 1, [], [], []),
  (55, .iload_n 3, 1, 3, [], [], []),
  (56, .iload_n 3, 1, 3, [], [], []),
  (57, .iconst 2, 1, 0, [], [], []),
  (58, .idiv, 1, 0, [], [], []),
  (59, .isub, 1, 0, [], [], []),
  (60, .iastore, 1, 0, [], [], []),
  (61, .aload_n 0, 1, 0, [], [], []),
  (62, .getfield 15, 3, 2, [], [5, 1], []),
  (65, .iload_n 1, 1, 1, [], [], []),
  (66, .iconst 1, 1, 0, [], [], []),
  (67, .iadd, 1, 0, [], [], []),
  (68, .iload_n 3, 1, 3, [], [], []),
  (69, .iconst 2, 1, 0, [], [], []),
  (70, .idiv, 1, 0, [], [], []),
  (71, .iastore, 1, 0, [], [], []),
  (72, .aload_n 0, 1, 0, [], [], []),
  (73, .dup, 1, 0, [], [], []),
  (74, .getfield 23, 3, 0, [], [5, 3], []),
  (77, .iconst 1, 1, 0, [], [], []),
  (78, .iadd, 1, 0, [], [], []),
  (79, .putfield 23, 3, 0, [], [5, 3], []),
  (82, .return_, 1, 0, [], [], [])], [])
def mX5_remove : sM := (6, 0, [
  (0, .aload_n 0, 1, 0, [], [], []),
  (1, .iload_n 1, 1, 1, [], [], []),
  (2, .iload_n 2, 1, 2, [], [], []),
  (3, .invokevirtual 32, 3, 33, [4, 2], [5], []),
  (6, .ifCond .ne 4, 3, 10, [], [], []),
  (9, .return_, 1, 0, [], [], []),
  (10, .aload_n 0, 1, 0, [], [], []),
  (11, .getfield 9, 3, 2, [], [5, 0], []),
  (14, .iload_n 1, 1, 1, [], [], []),
  (15, .iload_n 2, 1, 2, [], [], []),
  (16, .iadd, 1, 0, [], [], []),
  (17, .aload_n 0, 1, 0, [], [], []),
  (18, .getfield 9, 3, 2, [], [5, 0], []),
  (21, .iload_n 1, 1, 1, [], [], []),
  (22, .aload_n 0, 1, 0, [], [], []),
  (23, .getfield 19, 3, 0, [], [5, 2], []),
  (26, .iload_n 1, 1, 1, [], [], []),
  (27, .isub, 1, 0, [], [], []),
  (28, .iload_n 2, 1, 2, [], [], []),
  (29, .isub, 1, 0, [], [], []),
  (30, .invokestatic 26, 3, 0, [0], [], []),
  (33, .iconst 0, 1, 0, [], [], []),
  (34, .istore 4, 2, 4, [], [], []),
  (36, .iload 4, 2, 4, [], [], []),
  (38, .iload_n 2, 1, 2, [], [], []),
  (39, .if_icmp .ge 72, 3, 111, [], [], []),
  (42, .aload_n 0, 1, 0, [], [], []),
  (43, .iload_n 1, 1, 1, [], [], []),
  (44, .invokevirtual 57, 3, 47, [1, 1], [5], []),
  (47, .istore 5, 2, 5, [], [], []),
  (49, .aload_n 0, 1, 0, [], [], []),
  (50, .getfield 15, 3, 2, [], [5, 1], []),
  (53, .iload 5, 2, 5, [], [], []),
  (55, .dup2, 1, 0, [], [], []),
  (56, .iaload, 1, 0, [], [], []),
  (57, .iconst 1, 1, 0, [], [], []),
  (58, .isub, 1, 0, [], [], []),
  (59, .iastore, 1, 0, [], [], []),
  (60, .aload_n 0, 1, 0, [], [], []),
  (61, .dup, 1, 0, [], [], []),
  (62, .getfield 19, 3, 0, [], [5, 2], []),
  (65, .iconst 1, 1, 0, [], [], []),
  (66, .isub, 1, 0, [], [], []),
  (67, .putfield 19, 3, 0, [], [5, 2], []),
  (70, .aload_n 0, 1, 0, [], [], []),
  (71, .getfield 15, 3, 2, [], [5, 1], []),
  (74, .iload 5, 2, 5, [], [], []),
  (76, .iaload, 1, 0, [], [], []),
  (77, .iload_n 3, 1, 3, [], [], []),
  (78, .if_icmp .ge 27, 3, 105, [], [], []),
  (81, .aload_n 0, 1, 0, [], [], []),
  (82, .getfield 23, 3, 0, [], [5, 3], []),
  (85, .iconst 1, 1, 0, [], [], []),
  (86, .if_icmp .le 19, 3, 105, [], [], []),
  (89, .aload_n 0, 1, 0, [], [], []),
  (90, .iload 5, 2, 5, [], [], []),
  (92, .aload_n 0, 1, 0, [], [], []),
  (93, .getfield 23, 3, 0, [], [5, 3], []),
  (96, .iconst 2, 1, 0, [], [], []),
  (97, .isub, 1, 0, [], [], []),
  (98, .invokestatic 46, 3, 0, [2], [], []),
  (101, .iload_n 3, 1, 3, [], [], []),
  (102, .invokevirtual 64, 3, 51, [0, 2], [5], []),
  (105, .iinc 4 1, 3, 4, [], [], []),
  (108, .goto (-72), 3, 36, [], [], []),
  (111, .aload_n 0, 1, 0, [], [], []),
  (112, .getfield 19, 3, 0, [], [5, 2], []),
  (115, .ifCond .ne 8, 3, 123, [], [], []),
  (118, .aload_n 0, 1, 0, [], [], []),
  (119, .iconst 0, 1, 0, [], [], []),
  (120, .putfield 23, 3, 0, [], [5, 3], []),
  (123, .return_, 1, 0, [], [], [])], [(36, [true, true, true, true, true, false])])
def mX5_mergeWithNext : sM := (3, 0, [
  (0, .aload_n 0, 1, 0, [], [], []),
  (1, .getfield 15, 3, 2, [], [5, 1], []),
  (4, .iload_n 1, 1, 1, [], [], []),
  (5, .dup2, 1, 0, [], [], []),
  (6, .iaload, 1, 0, [], [], []),
  (7, .aload_n 0, 1, 0, [], [], []),
  (8, .getfield 15, 3, 2, [], [5, 1], []),
  (11, .iload_n 1, 1, 1, [], [], []),
  (12, .iconst 1, 1, 0, [], [], []),
  (13, .iadd, 1, 0, [], [], []),
  (14, .iaload, 1, 0, [], [], []),
  (15, .iadd, 1, 0, [], [], []),
  (16, .iastore, 1, 0, [], [], []),
  (17, .aload_n 0, 1, 0, [], [], []),
  (18, .getfield 15, 3, 2, [], [5, 1], []),
  (21, .iload_n 1, 1, 1, [], [], []),
  (22, .iconst 2, 1, 0, [], [], []),
  (23, .iadd, 1, 0, [], [], []),
  (24, .aload_n 0, 1, 0, [], [], []),
  (25, .getfield 15, 3, 2, [], [5, 1], []),
  (28, .iload_n 1, 1, 1, [], [], []),
  (29, .iconst 1, 1, 0, [], [], []),
  (30, .iadd, 1, 0, [], [], []),
  (31, .aload_n 0, 1, 0, [], [], []),
  (32, .getfield 23, 3, 0, [], [5, 3], []),
  (35, .iload_n 1, 1, 1, [], [], []),
  (36, .isub, 1, 0, [], [], []),
  (37, .iconst 2, 1, 0, [], [], []),
  (38, .isub, 1, 0, [], [], []),
  (39, .invokestatic 26, 3, 0, [0], [], []),
  (42, .aload_n 0, 1, 0, [], [], []),
  (43, .dup, 1, 0, [], [], []),
  (44, .getfield 23, 3, 0, [], [5, 3], []),
  (47, .iconst 1, 1, 0, [], [], []),
  (48, .isub, 1, 0, [], [], []),
  (49, .putfield 23, 3, 0, [], [5, 3], []),
  (52, .aload_n 0, 1, 0, [], [], []),
  (53, .iload_n 1, 1, 1, [], [], []),
  (54, .iload_n 2, 1, 2, [], [], []),
  (55, .invokevirtual 60, 3, 49, [0, 2], [5], []),
  (58, .return_, 1, 0, [], [], [])], [])
def mX5_turnOver : sM := (4, 0, [
  (0, .aload_n 0, 1, 0, [], [], []),
  (1, .iload_n 1, 1, 1, [], [], []),
  (2, .iload_n 2, 1, 2, [], [], []),
  (3, .invokevirtual 32, 3, 33, [4, 2], [5], []),
  (6, .ifCond .ne 4, 3, 10, [], [], []),
  (9, .return_, 1, 0, [], [], []),
  (10, .iload_n 1, 1, 1, [], [], []),
  (11, .istore_n 3, 1, 3, [], [], []),
  (12, .iload_n 3, 1, 3, [], [], []),
  (13, .iload_n 1, 1, 1, [], [], []),
  (14, .iload_n 2, 1, 2, [], [], []),
  (15, .iadd, 1, 0, [], [], []),
  (16, .if_icmp .ge 24, 3, 40, [], [], []),
  (19, .aload_n 0, 1, 0, [], [], []),
  (20, .getfield 9, 3, 2, [], [5, 0], []),
  (23, .iload_n 3, 1, 3, [], [], []),
  (24, .iconst 1, 1, 0, [], [], []),
  (25, .aload_n 0, 1, 0, [], [], []),
  (26, .getfield 9, 3, 2, [], [5, 0], []),
  (29, .iload_n 3, 1, 3, [], [], []),
  (30, .baload, 1, 0, [], [], []),
  (31, .isub, 1, 0, [], [], []),
  (32, .i2b, 1, 0, [], [], []),
  (33, .bastore, 1, 0, [], [], []),
  (34, .iinc 3 1, 3, 3, [], [], []),
  (37, .goto (-25), 3, 12, [], [], []),
  (40, .return_, 1, 0, [], [], [])], [(12, [true, true, true, true])])
def mX5_append : sM := (5, 0, [
  (0, .iload_n 2, 1, 2, [], [], []),
  (1, .istore 4, 2, 4, [], [], []),
  (3, .iload 4, 2, 4, [], [], []),
  (5, .ifCond .lt 34, 3, 39, [], [], []),
  (8, .iload 4, 2, 4, [], [], []),
  (10, .aload_n 1, 1, 1, [], [], []),
  (11, .getfield 19, 3, 0, [], [5, 2], []),
  (14, .if_icmp .ge 25, 3, 39, [], [], []),
  (17, .aload_n 0, 1, 0, [], [], []),
  (18, .aload_n 0, 1, 0, [], [], []),
  (19, .getfield 19, 3, 0, [], [5, 2], []),
  (22, .aload_n 1, 1, 1, [], [], []),
  (23, .getfield 9, 3, 2, [], [5, 0], []),
  (26, .iload 4, 2, 4, [], [], []),
  (28, .baload, 1, 0, [], [], []),
  (29, .iload_n 3, 1, 3, [], [], []),
  (30, .invokevirtual 67, 3, 48, [0, 3], [5], []),
  (33, .iinc 4 1, 3, 4, [], [], []),
  (36, .goto (-33), 3, 3, [], [], []),
  (39, .return_, 1, 0, [], [], [])], [(3, [true, true, false, true, true])])
def mX6_init : sM := (1, 0, [
  (0, .aload_n 0, 1, 0, [], [], []),
  (1, .invokespecial 3, 3, 0, [], [6], []),
  (4, .aload_n 0, 1, 0, [], [], []),
  (5, .sipush 200, 3, 0, [], [], []),
  (8, .newarray .byte, 2, 0, [], [21], []),
  (10, .putfield 9, 3, 2, [], [6, 0], []),
  (13, .return_, 1, 0, [], [], [])], [])
def mX6_copyFrom : sM := (2, 0, [
  (0, .aload_n 1, 1, 1, [], [], []),
  (1, .getfield 9, 3, 2, [], [6, 0], []),
  (4, .iconst 0, 1, 0, [], [], []),
  (5, .aload_n 0, 1, 0, [], [], []),
  (6, .getfield 9, 3, 2, [], [6, 0], []),
  (9, .iconst 0, 1, 0, [], [], []),
  (10, .aload_n 1, 1, 1, [], [], []),
  (11, .getfield 15, 3, 0, [], [6, 1], []),
  (14, .invokestatic 19, 3, 0, [0], [], []),
  (17, .aload_n 0, 1, 0, [], [], []),
  (18, .aload_n 1, 1, 1, [], [], []),
  (19, .getfield 15, 3, 0, [], [6, 1], []),
  (22, .putfield 15, 3, 0, [], [6, 1], []),
  (25, .return_, 1, 0, [], [], [])], [])
def mX6_signAt : sM := (2, 1, [
  (0, .iload_n 1, 1, 1, [], [], []),
  (1, .ifCond .lt 11, 3, 12, [], [], []),
  (4, .iload_n 1, 1, 1, [], [], []),
  (5, .aload_n 0, 1, 0, [], [], []),
  (6, .getfield 15, 3, 0, [], [6, 1], []),
  (9, .if_icmp .lt 7, 3, 16, [], [], []),
  (12, .iconst (-1), 1, 0, [], [], []),
  (13, .goto 9, 3, 22, [], [], []),
  (16, .aload_n 0, 1, 0, [], [], []),
  (17, .getfield 9, 3, 2, [], [6, 0], []),
  (20, .iload_n 1, 1, 1, [], [], []),
  (21, .baload, 1, 0, [], [], []),
  (22, .ireturn, 1, 0, [], [], [])], [])
def mX6_hasRange : sM := (3, 4, [
  (0, .iload_n 1, 1, 1, [], [], []),
  (1, .ifCond .lt 21, 3, 22, [], [], []),
  (4, .iload_n 2, 1, 2, [], [], []),
  (5, .ifCond .lt 17, 3, 22, [], [], []),
  (8, .iload_n 1, 1, 1, [], [], []),
  (9, .aload_n 0, 1, 0, [], [], []),
  (10, .getfield 15, 3, 0, [], [6, 1], []),
  (13, .iload_n 2, 1, 2, [], [], []),
  (14, .isub, 1, 0, [], [], []),
  (15, .if_icmp .gt 7, 3, 22, [], [], []),
  (18, .iconst 1, 1, 0, [], [], []),
  (19, .goto 4, 3, 23, [], [], []),
  (22, .iconst 0, 1, 0, [], [], []),
  (23, .ireturn, 1, 0, [], [], [])], [])
def mX6_countIn : sM := (6, 1, [
  (0, .iconst 0, 1, 0, [], [], []),
  (1, .istore 4, 2, 4, [], [], []),
  (3, .iload_n 1, 1, 1, [], [], []),
  (4, .iconst 0, 1, 0, [], [], []),
  (5, .invokestatic 25, 3, 0, [1], [], []),
  (8, .istore 5, 2, 5, [], [], []),
  (10, .iload 5, 2, 5, [], [], []),
  (12, .iload_n 2, 1, 2, [], [], []),
  (13, .if_icmp .ge 32, 3, 45, [], [], []),
  (16, .iload 5, 2, 5, [], [], []),
  (18, .aload_n 0, 1, 0, [], [], []),
  (19, .getfield 15, 3, 0, [], [6, 1], []),
  (22, .if_icmp .ge 23, 3, 45, [], [], []),
  (25, .aload_n 0, 1, 0, [], [], []),
  (26, .getfield 9, 3, 2, [], [6, 0], []),
  (29, .iload 5, 2, 5, [], [], []),
  (31, .baload, 1, 0, [], [], []),
  (32, .iload_n 3, 1, 3, [], [], []),
  (33, .if_icmp .ne 6, 3, 39, [], [], []),
  (36, .iinc 4 1, 3, 4, [], [], []),
  (39, .iinc 5 1, 3, 5, [], [], []),
  (42, .goto (-32), 3, 10, [], [], []),
  (45, .iload 4, 2, 4, [], [], []),
  (47, .ireturn, 1, 0, [], [], [])], [(10, [true, false, true, true, true, true])])
def mX6_placeOf : sM := (5, 1, [
  (0, .iconst 0, 1, 0, [], [], []),
  (1, .istore_n 3, 1, 3, [], [], []),
  (2, .iconst 0, 1, 0, [], [], []),
  (3, .istore 4, 2, 4, [], [], []),
  (5, .iload 4, 2, 4, [], [], []),
  (7, .aload_n 0, 1, 0, [], [], []),
  (8, .getfield 15, 3, 0, [], [6, 1], []),
  (11, .if_icmp .ge 31, 3, 42, [], [], []),
  (14, .aload_n 0, 1, 0, [], [], []),
  (15, .getfield 9, 3, 2, [], [6, 0], []),
  (18, .iload 4, 2, 4, [], [], []),
  (20, .baload, 1, 0, [], [], []),
  (21, .iload_n 1, 1, 1, [], [], []),
  (22, .if_icmp .ne 14, 3, 36, [], [], []),
  (25, .iload_n 3, 1, 3, [], [], []),
  (26, .iload_n 2, 1, 2, [], [], []),
  (27, .if_icmp .ne 6, 3, 33, [], [], []),
  (30, .iload 4, 2, 4, [], [], []),
  (32, .ireturn, 1, 0, [], [], []),
  (33, .iinc 3 1, 3, 3, [], [], []),
  (36, .iinc 4 1, 3, 4, [], [], []),
  (39, .goto (-34), 3, 5, [], [], []),
  (42, .iconst (-1), 1, 0, [], [], []),
  (43, .ireturn, 1, 0, [], [], [])], [(5, [true, true, true, true, true])])
def mX6_leastOf : sM := (6, 1, [
  (0, .iconst 0, 1, 0, [], [], []),
  (1, .istore 4, 2, 4, [], [], []),
  (3, .iconst 0, 1, 0, [], [], []),
  (4, .istore 5, 2, 5, [], [], []),
  (6, .iload 5, 2, 5, [], [], []),
  (8, .bipush 8, 2, 0, [], [], []),
  (10, .if_icmp .ge 31, 3, 41, [], [], []),
  (13, .iload 4, 2, 4, [], [], []),
  (15, .aload_n 0, 1, 0, [], [], []),
  (16, .iload_n 1, 1, 1, [], [], []),
  (17, .iload_n 2, 1, 2, [], [], []),
  (18, .iload 5, 2, 5, [], [], []),
  (20, .invokevirtual 31, 3, 58, [1, 3], [6], []),
  (23, .iadd, 1, 0, [], [], []),
  (24, .istore 4, 2, 4, [], [], []),
  (26, .iload_n 3, 1, 3, [], [], []),
  (27, .iload 4, 2, 4, [], [], []),
  (29, .if_icmp .ge 6, 3, 35, [], [], []),
  (32, .iload 5, 2, 5, [], [], []),
  (34, .ireturn, 1, 0, [], [], []),
  (35, .iinc 5 1, 3, 5, [], [], []),
  (38, .goto (-32), 3, 6, [], [], []),
  (41, .iconst (-1), 1, 0, [], [], []),
  (42, .ireturn, 1, 0, [], [], [])], [(6, [true, true, true, true, true, true])])
def mX6_nodeBit : sM := (7, 1, [
  (0, .iload_n 1, 1, 1, [], [], []),
  (1, .ifCond .ne 7, 3, 8, [], [], []),
  (4, .iconst 0, 1, 0, [], [], []),
  (5, .goto 13, 3, 18, [], [], []),
  (8, .iload_n 1, 1, 1, [], [], []),
  (9, .iconst 3, 1, 0, [], [], []),
  (10, .if_icmp .ge 7, 3, 17, [], [], []),
  (13, .iconst 1, 1, 0, [], [], []),
  (14, .goto 4, 3, 18, [], [], []),
  (17, .iconst 3, 1, 0, [], [], []),
  (18, .istore_n 3, 1, 3, [], [], []),
  (19, .iload_n 1, 1, 1, [], [], []),
  (20, .ifCond .ne 7, 3, 27, [], [], []),
  (23, .iconst 2, 1, 0, [], [], []),
  (24, .goto 13, 3, 37, [], [], []),
  (27, .iload_n 1, 1, 1, [], [], []),
  (28, .iconst 3, 1, 0, [], [], []),
  (29, .if_icmp .ge 7, 3, 36, [], [], []),
  (32, .iconst 1, 1, 0, [], [], []),
  (33, .goto 4, 3, 37, [], [], []),
  (36, .iconst 0, 1, 0, [], [], []),
  (37, .istore 4, 2, 4, [], [], []),
  (39, .iconst 0, 1, 0, [], [], []),
  (40, .istore 5, 2, 5, [], [], []),
  (42, .iconst 0, 1, 0, [], [], []),
  (43, .istore 6, 2, 6, [], [], []),
  (45, .iload 6, 2, 6, [], [], []),
  (47, .aload_n 0, 1, 0, [], [], []),
  (48, .getfield 15, 3, 0, [], [6, 1], []),
  (51, .if_icmp .ge 49, 3, 100, [], [], []),
  (54, .aload_n 0, 1, 0, [], [], []),
  (55, .getfield 9, 3, 2, [], [6, 0], []),
  (58, .iload 6, 2, 6, [], [], []),
  (60, .baload, 1, 0, [], [], []),
  (61, .iload 4, 2, 4, [], [], []),
  (63, .iconst 1, 1, 0, [], [], []),
  (64, .iadd, 1, 0, [], [], []),
  (65, .ishr, 1, 0, [], [], []),
  (66, .iload_n 1, 1, 1, [], [], []),
  (67, .iload_n 3, 1, 3, [], [], []),
  (68, .isub, 1, 0, [], [], []),
  (69, .if_icmp .ne 25, 3, 94, [], [], []),
  (72, .iload 5, 2, 5, [], [], []),
  (74, .iload_n 2, 1, 2, [], [], []),
  (75, .if_icmp .ne 16, 3, 91, [], [], []),
  (78, .aload_n 0, 1, 0, [], [], []),
  (79, .getfield 9, 3, 2, [], [6, 0], []),
  (82, .iload 6, 2, 6, [], [], []),
  (84, .baload, 1, 0, [], [], []),
  (85, .iload 4, 2, 4, [], [], []),
  (87, .ishr, 1, 0, [], [], []),
  (88, .iconst 1, 1, 0, [], [], []),
  (89, .iand, 1, 0, [], [], []),
  (90, .ireturn, 1, 0, [], [], []),
  (91, .iinc 5 1, 3, 5, [], [], []),
  (94, .iinc 6 1, 3, 6, [], [], []),
  (97, .goto (-52), 3, 45, [], [], []),
  (100, .iconst (-1), 1, 0, [], [], []),
  (101, .ireturn, 1, 0, [], [], [])], [(18, [true, true, true, false, false, false, false]), (45, [true, true, true, true, true, true, true])])
def mX6_insert : sM := (3, 0, [
  (0, .iload_n 1, 1, 1, [], [], []),
  (1, .ifCond .lt 21, 3, 22, [], [], []),
  (4, .iload_n 1, 1, 1, [], [], []),
  (5, .aload_n 0, 1, 0, [], [], []),
  (6, .getfield 15, 3, 0, [], [6, 1], []),
  (9, .if_icmp .gt 13, 3, 22, [], [], []),
  (12, .aload_n 0, 1, 0, [], [], []),
  (13, .getfield 15, 3, 0, [], [6, 1], []),
  (16, .sipush 200, 3, 0, [], [], []),
  (19, .if_icmp .lt 4, 3, 23, [], [], []),
  (22, .return_, 1, 0, [], [], []),
  (23, .aload_n 0, 1, 0, [], [], []),
  (24, .getfield 9, 3, 2, [], [6, 0], []),
  (27, .iload_n 1, 1, 1, [], [], []),
  (28, .aload_n 0, 1, 0, [], [], []),
  (29, .getfield 9, 3, 2, [], [6, 0], []),
  (32, .iload_n 1, 1, 1, [], [], []),
  (33, .iconst 1, 1, 0, [], [], []),
  (34, .iadd, 1, 0, [], [], []),
  (35, .aload_n 0, 1, 0, [], [], []),
  (36, .getfield 15, 3, 0, [], [6, 1], []),
  (39, .iload_n 1, 1, 1, [], [], []),
  (40, .isub, 1, 0, [], [], []),
  (41, .invokestatic 19, 3, 0, [0], [], []),
  (44, .aload_n 0, 1, 0, [], [], []),
  (45, .getfield 9, 3, 2, [], [6, 0], []),
  (48, .iload_n 1, 1, 1, [], [], []),
  (49, .iload_n 2, 1, 2, [], [], []),
  (50, .i2b, 1, 0, [], [], []),
  (51, .bastore, 1, 0, [], [], []),
  (52, .aload_n 0, 1, 0, [], [], []),
  (53, .dup, 1, 0, [], [], []),
  (54, .getfield 15, 3, 0, [], [6, 1], []),
  (57, .iconst 1, 1, 0, [], [], []),
  (58, .iadd, 1, 0, [], [], []),
  (59, .putfield 15, 3, 0, [], [6, 1], []),
  (62, .return_, 1, 0, [], [], [])], [])
def mX6_remove : sM := (3, 0, [
  (0, .aload_n 0, 1, 0, [], [], []),
  (1, .iload_n 1, 1, 1, [], [], []),
  (2, .iload_n 2, 1, 2, [], [], []),
  (3, .invokevirtual 35, 3, 57, [4, 2], [6], []),
  (6, .ifCond .ne 4, 3, 10, [], [], []),
  (9, .return_, 1, 0, [], [], []),
  (10, .aload_n 0, 1, 0, [], [], []),
  (11, .getfield 9, 3, 2, [], [6, 0], []),
  (14, .iload_n 1, 1, 1, [], [], []),
  (15, .iload_n 2, 1, 2, [], [], []),
  (16, .iadd, 1, 0, [], [], []),
  (17, .aload_n 0, 1, 0, [], [], []),
  (18, .getfield 9, 3, 2, [], [6, 0], []),
  (21, .iload_n 1, 1, 1, [], [], []),
  (22, .aload_n 0, 1, 0, [], [], []),
  (23, .getfield 15, 3, 0, [], [6, 1], []),
  (26, .iload_n 1, 1, 1, [], [], []),
  (27, .isub, 1, 0, [], [], []),
  (28, .iload_n 2, 1, 2, [], [], []),
  (29, .isub, 1, 0, [], [], []),
  (30, .invokestatic 19, 3, 0, [0], [], []),
  (33, .aload_n 0, 1, 0, [], [], []),
  (34, .dup, 1, 0, [], [], []),
  (35, .getfield 15, 3, 0, [], [6, 1], []),
  (38, .iload_n 2, 1, 2, [], [], []),
  (39, .isub, 1, 0, [], [], []),
  (40, .putfield 15, 3, 0, [], [6, 1], []),
  (43, .return_, 1, 0, [], [], [])], [])
def mX7_init : sM := (1, 0, [
  (0, .aload_n 0, 1, 0, [], [], []),
  (1, .invokespecial 3, 3, 0, [], [7], []),
  (4, .aload_n 0, 1, 0, [], [], []),
  (5, .bipush 40, 2, 0, [], [], []),
  (7, .anewarray 9, 3, 0, [], [27], []),
  (10, .putfield 11, 3, 2, [], [7, 0], []),
  (13, .aload_n 0, 1, 0, [], [], []),
  (14, .bipush 40, 2, 0, [], [], []),
  (16, .newarray .int, 2, 0, [], [20], []),
  (18, .putfield 17, 3, 2, [], [7, 1], []),
  (21, .aload_n 0, 1, 0, [], [], []),
  (22, .bipush 40, 2, 0, [], [], []),
  (24, .newarray .int, 2, 0, [], [20], []),
  (26, .putfield 21, 3, 2, [], [7, 2], []),
  (29, .aload_n 0, 1, 0, [], [], []),
  (30, .bipush 40, 2, 0, [], [], []),
  (32, .newarray .boolean, 2, 0, [], [23], []),
  (34, .putfield 24, 3, 2, [], [7, 3], []),
  (37, .return_, 1, 0, [], [], [])], [])
def mX7_clear : sM := (1, 0, [
  (0, .aload_n 0, 1, 0, [], [], []),
  (1, .iconst 0, 1, 0, [], [], []),
  (2, .putfield 28, 3, 0, [], [7, 4], []),
  (5, .aload_n 0, 1, 0, [], [], []),
  (6, .iconst 0, 1, 0, [], [], []),
  (7, .putfield 32, 3, 0, [], [7, 5], []),
  (10, .return_, 1, 0, [], [], [])], [])
def mX7_copyFrom : sM := (3, 0, [
  (0, .iconst 0, 1, 0, [], [], []),
  (1, .istore_n 2, 1, 2, [], [], []),
  (2, .iload_n 2, 1, 2, [], [], []),
  (3, .aload_n 1, 1, 1, [], [], []),
  (4, .getfield 28, 3, 0, [], [7, 4], []),
  (7, .if_icmp .ge 51, 3, 58, [], [], []),
  (10, .iload_n 2, 1, 2, [], [], []),
  (11, .bipush 40, 2, 0, [], [], []),
  (13, .if_icmp .ge 45, 3, 58, [], [], []),
  (16, .aload_n 0, 1, 0, [], [], []),
  (17, .getfield 11, 3, 2, [], [7, 0], []),
  (20, .iload_n 2, 1, 2, [], [], []),
  (21, .aload_n 1, 1, 1, [], [], []),
  (22, .getfield 11, 3, 2, [], [7, 0], []),
  (25, .iload_n 2, 1, 2, [], [], []),
  (26, .aaload, 1, 0, [], [], []),
  (27, .aastore, 1, 0, [], [], []),
  (28, .aload_n 0, 1, 0, [], [], []),
  (29, .getfield 17, 3, 2, [], [7, 1], []),
  (32, .iload_n 2, 1, 2, [], [], []),
  (33, .aload_n 1, 1, 1, [], [], []),
  (34, .getfield 17, 3, 2, [], [7, 1], []),
  (37, .iload_n 2, 1, 2, [], [], []),
  (38, .iaload, 1, 0, [], [], []),
  (39, .iastore, 1, 0, [], [], []),
  (40, .aload_n 0, 1, 0, [], [], []),
  (41, .getfield 21, 3, 2, [], [7, 2], []),
  (44, .iload_n 2, 1, 2, [], [], []),
  (45, .aload_n 1, 1, 1, [], [], []),
  (46, .getfield 21, 3, 2, [], [7, 2], []),
  (49, .iload_n 2, 1, 2, [], [], []),
  (50, .iaload, 1, 0, [], [], []),
  (51, .iastore, 1, 0, [], [], []),
  (52, .iinc 2 1, 3, 2, [], [], []),
  (55, .goto (-53), 3, 2, [], [], []),
  (58, .aload_n 0, 1, 0, [], [], []),
  (59, .aload_n 1, 1, 1, [], [], []),
  (60, .getfield 28, 3, 0, [], [7, 4], []),
  (63, .putfield 28, 3, 0, [], [7, 4], []),
  (66, .aload_n 0, 1, 0, [], [], []),
  (67, .aload_n 1, 1, 1, [], [], []),
  (68, .getfield 32, 3, 0, [], [7, 5], []),
  (71, .putfield 32, 3, 0, [], [7, 5], []),
  (74, .return_, 1, 0, [], [], [])], [(2, [true, true, true])])
def mX7_readAll : sM := (3, 0, [
  (0, .aload_n 0, 1, 0, [], [], []),
  (1, .invokevirtual 35, 3, 65, [0, 0], [7], []),
  (4, .aload_n 0, 1, 0, [], [], []),
  (5, .aload_n 1, 1, 1, [], [], []),
  (6, .aload_n 2, 1, 2, [], [], []),
  (7, .iconst 1, 1, 0, [], [], []),
  (8, .invokevirtual 38, 3, 68, [0, 3], [7], []),
  (11, .aload_n 1, 1, 1, [], [], []),
  (12, .invokevirtual 42, 3, 19, [4, 0], [4], []),
  (15, .ifCond .eq 8, 3, 23, [], [], []),
  (18, .aload_n 1, 1, 1, [], [], []),
  (19, .iconst 1, 1, 0, [], [], []),
  (20, .invokevirtual 48, 3, 20, [0, 1], [4], []),
  (23, .return_, 1, 0, [], [], [])], [])
def mX7_readCond : sM := (7, 0, [
  (0, .aload_n 0, 1, 0, [], [], []),
  (1, .aload_n 1, 1, 1, [], [], []),
  (2, .aload_n 2, 1, 2, [], [], []),
  (3, .iload_n 3, 1, 3, [], [], []),
  (4, .invokevirtual 52, 3, 69, [0, 3], [7], []),
  (7, .iconst 0, 1, 0, [], [], []),
  (8, .istore 4, 2, 4, [], [], []),
  (10, .iconst 0, 1, 0, [], [], []),
  (11, .istore 5, 2, 5, [], [], []),
  (13, .iload 5, 2, 5, [], [], []),
  (15, .bipush 20, 2, 0, [], [], []),
  (17, .if_icmp .ge 112, 3, 129, [], [], []),
  (20, .aload_n 1, 1, 1, [], [], []),
  (21, .getfield 55, 3, 0, [], [4, 10], []),
  (24, .ifCond .ne 105, 3, 129, [], [], []),
  (27, .aload_n 1, 1, 1, [], [], []),
  (28, .getfield 58, 3, 2, [], [4, 9], []),
  (31, .getstatic 62, 3, 0, [], [12], []),
  (34, .if_acmp .eq 13, 3, 47, [], [], []),
  (37, .aload_n 1, 1, 1, [], [], []),
  (38, .getfield 58, 3, 2, [], [4, 9], []),
  (41, .getstatic 65, 3, 0, [], [13], []),
  (44, .if_acmp .ne 85, 3, 129, [], [], []),
  (47, .aload_n 1, 1, 1, [], [], []),
  (48, .getfield 58, 3, 2, [], [4, 9], []),
  (51, .astore 6, 2, 6, [], [], []),
  (53, .aload_n 1, 1, 1, [], [], []),
  (54, .invokevirtual 68, 3, 16, [0, 0], [4], []),
  (57, .aload 6, 2, 6, [], [], []),
  (59, .getstatic 62, 3, 0, [], [12], []),
  (62, .if_acmp .ne 17, 3, 79, [], [], []),
  (65, .iload 4, 2, 4, [], [], []),
  (67, .ifCond .eq 12, 3, 79, [], [], []),
  (70, .aload_n 0, 1, 0, [], [], []),
  (71, .getstatic 62, 3, 0, [], [12], []),
  (74, .iconst 0, 1, 0, [], [], []),
  (75, .iconst 0, 1, 0, [], [], []),
  (76, .invokevirtual 71, 3, 71, [0, 3], [7], []),
  (79, .iload 4, 2, 4, [], [], []),
  (81, .ifCond .ne 11, 3, 92, [], [], []),
  (84, .aload 6, 2, 6, [], [], []),
  (86, .getstatic 62, 3, 0, [], [12], []),
  (89, .if_acmp .ne 7, 3, 96, [], [], []),
  (92, .iconst 1, 1, 0, [], [], []),
  (93, .goto 4, 3, 97, [], [], []),
  (96, .iconst 0, 1, 0, [], [], []),
  (97, .istore 4, 2, 4, [], [], []),
  (99, .aload_n 0, 1, 0, [], [], []),
  (100, .aload_n 1, 1, 1, [], [], []),
  (101, .aload_n 2, 1, 2, [], [], []),
  (102, .iload_n 3, 1, 3, [], [], []),
  (103, .invokevirtual 52, 3, 69, [0, 3], [7], []),
  (106, .aload 6, 2, 6, [], [], []),
  (108, .getstatic 65, 3, 0, [], [13], []),
  (111, .if_acmp .ne 12, 3, 123, [], [], []),
  (114, .aload_n 0, 1, 0, [], [], []),
  (115, .getstatic 65, 3, 0, [], [13], []),
  (118, .iconst 0, 1, 0, [], [], []),
  (119, .iconst 0, 1, 0, [], [], []),
  (120, .invokevirtual 71, 3, 71, [0, 3], [7], []),
  (123, .iinc 5 1, 3, 5, [], [], []),
  (126, .goto (-113), 3, 13, [], [], []),
  (129, .iload 4, 2, 4, [], [], []),
  (131, .ifCond .eq 12, 3, 143, [], [], []),
  (134, .aload_n 0, 1, 0, [], [], []),
  (135, .getstatic 62, 3, 0, [], [12], []),
  (138, .iconst 0, 1, 0, [], [], []),
  (139, .iconst 0, 1, 0, [], [], []),
  (140, .invokevirtual 71, 3, 71, [0, 3], [7], []),
  (143, .return_, 1, 0, [], [], [])], [(13, [true, true, true, true, true, true, false]), (79, [true, true, true, true, true, true, true]), (97, [true, true, true, true, false, true, true])])
def mX7_readOne : sM := (6, 0, [
  (0, .aload_n 1, 1, 1, [], [], []),
  (1, .bipush 40, 2, 0, [], [], []),
  (3, .invokevirtual 75, 3, 22, [4, 1], [4], []),
  (6, .istore 4, 2, 4, [], [], []),
  (8, .aload_n 1, 1, 1, [], [], []),
  (9, .getfield 55, 3, 0, [], [4, 10], []),
  (12, .ifCond .eq 4, 3, 16, [], [], []),
  (15, .return_, 1, 0, [], [], []),
  (16, .iload 4, 2, 4, [], [], []),
  (18, .ifCond .ne 27, 3, 45, [], [], []),
  (21, .aload_n 1, 1, 1, [], [], []),
  (22, .getfield 58, 3, 2, [], [4, 9], []),
  (25, .ifnull 14, 3, 39, [], [], []),
  (28, .aload_n 1, 1, 1, [], [], []),
  (29, .getfield 58, 3, 2, [], [4, 9], []),
  (32, .getfield 79, 3, 0, [], [30, 1], []),
  (35, .iconst 2, 1, 0, [], [], []),
  (36, .if_icmp .eq 9, 3, 45, [], [], []),
  (39, .aload_n 1, 1, 1, [], [], []),
  (40, .iconst 1, 1, 0, [], [], []),
  (41, .invokevirtual 48, 3, 20, [0, 1], [4], []),
  (44, .return_, 1, 0, [], [], []),
  (45, .aload_n 0, 1, 0, [], [], []),
  (46, .getfield 32, 3, 0, [], [7, 5], []),
  (49, .bipush 20, 2, 0, [], [], []),
  (51, .if_icmp .ge 9, 3, 60, [], [], []),
  (54, .iload_n 3, 1, 3, [], [], []),
  (55, .bipush 8, 2, 0, [], [], []),
  (57, .if_icmp .le 9, 3, 66, [], [], []),
  (60, .aload_n 1, 1, 1, [], [], []),
  (61, .iconst 4, 1, 0, [], [], []),
  (62, .invokevirtual 48, 3, 20, [0, 1], [4], []),
  (65, .return_, 1, 0, [], [], []),
  (66, .aload_n 0, 1, 0, [], [], []),
  (67, .dup, 1, 0, [], [], []),
  (68, .getfield 32, 3, 0, [], [7, 5], []),
  (71, .iconst 1, 1, 0, [], [], []),
  (72, .iadd, 1, 0, [], [], []),
  (73, .putfield 32, 3, 0, [], [7, 5], []),
  (76, .aload_n 1, 1, 1, [], [], []),
  (77, .getfield 58, 3, 2, [], [4, 9], []),
  (80, .astore 5, 2, 5, [], [], []),
  (82, .aload_n 1, 1, 1, [], [], []),
  (83, .invokevirtual 68, 3, 16, [0, 0], [4], []),
  (86, .iload 4, 2, 4, [], [], []),
  (88, .ifCond .eq 21, 3, 109, [], [], []),
  (91, .aload_n 0, 1, 0, [], [], []),
  (92, .aload_n 1, 1, 1, [], [], []),
  (93, .aload_n 2, 1, 2, [], [], []),
  (94, .iload_n 3, 1, 3, [], [], []),
  (95, .iconst 1, 1, 0, [], [], []),
  (96, .iadd, 1, 0, [], [], []),
  (97, .invokevirtual 38, 3, 68, [0, 3], [7], []),
  (100, .aload_n 1, 1, 1, [], [], []),
  (101, .bipush 41, 2, 0, [], [], []),
  (103, .invokevirtual 82, 3, 23, [0, 1], [4], []),
  (106, .goto 40, 3, 146, [], [], []),
  (109, .aload 5, 2, 5, [], [], []),
  (111, .getstatic 85, 3, 0, [], [14], []),
  (114, .if_acmp .ne 24, 3, 138, [], [], []),
  (117, .aload_n 0, 1, 0, [], [], []),
  (118, .aload_n 1, 1, 1, [], [], []),
  (119, .aload_n 2, 1, 2, [], [], []),
  (120, .iload_n 3, 1, 3, [], [], []),
  (121, .iconst 1, 1, 0, [], [], []),
  (122, .iadd, 1, 0, [], [], []),
  (123, .invokevirtual 52, 3, 69, [0, 3], [7], []),
  (126, .aload_n 0, 1, 0, [], [], []),
  (127, .getstatic 85, 3, 0, [], [14], []),
  (130, .iconst 0, 1, 0, [], [], []),
  (131, .iconst 0, 1, 0, [], [], []),
  (132, .invokevirtual 71, 3, 71, [0, 3], [7], []),
  (135, .goto 11, 3, 146, [], [], []),
  (138, .aload_n 0, 1, 0, [], [], []),
  (139, .aload_n 1, 1, 1, [], [], []),
  (140, .aload_n 2, 1, 2, [], [], []),
  (141, .aload 5, 2, 5, [], [], []),
  (143, .invokevirtual 88, 3, 70, [0, 3], [7], []),
  (146, .return_, 1, 0, [], [], [])], [])
def mX7_readPlain : sM := (5, 0, [
  (0, .aload_n 3, 1, 3, [], [], []),
  (1, .getstatic 92, 3, 0, [], [15], []),
  (4, .if_acmp .eq 10, 3, 14, [], [], []),
  (7, .aload_n 3, 1, 3, [], [], []),
  (8, .getstatic 95, 3, 0, [], [16], []),
  (11, .if_acmp .ne 13, 3, 24, [], [], []),
  (14, .aload_n 0, 1, 0, [], [], []),
  (15, .aload_n 3, 1, 3, [], [], []),
  (16, .iconst 0, 1, 0, [], [], []),
  (17, .iconst 0, 1, 0, [], [], []),
  (18, .invokevirtual 71, 3, 71, [0, 3], [7], []),
  (21, .goto 53, 3, 74, [], [], []),
  (24, .aload_n 3, 1, 3, [], [], []),
  (25, .getstatic 98, 3, 0, [], [17], []),
  (28, .if_acmp .eq 10, 3, 38, [], [], []),
  (31, .aload_n 3, 1, 3, [], [], []),
  (32, .getstatic 101, 3, 0, [], [18], []),
  (35, .if_acmp .ne 18, 3, 53, [], [], []),
  (38, .aload_n 0, 1, 0, [], [], []),
  (39, .aload_n 3, 1, 3, [], [], []),
  (40, .iconst 0, 1, 0, [], [], []),
  (41, .aload_n 1, 1, 1, [], [], []),
  (42, .aload_n 2, 1, 2, [], [], []),
  (43, .iconst (-1), 1, 0, [], [], []),
  (44, .invokevirtual 104, 3, 26, [1, 2], [4], []),
  (47, .invokevirtual 71, 3, 71, [0, 3], [7], []),
  (50, .goto 24, 3, 74, [], [], []),
  (53, .aload_n 1, 1, 1, [], [], []),
  (54, .invokevirtual 108, 3, 24, [1, 0], [4], []),
  (57, .istore 4, 2, 4, [], [], []),
  (59, .aload_n 0, 1, 0, [], [], []),
  (60, .aload_n 3, 1, 3, [], [], []),
  (61, .iload 4, 2, 4, [], [], []),
  (63, .aload_n 1, 1, 1, [], [], []),
  (64, .iconst 0, 1, 0, [], [], []),
  (65, .sipush 999, 3, 0, [], [], []),
  (68, .invokevirtual 112, 3, 25, [1, 2], [4], []),
  (71, .invokevirtual 71, 3, 71, [0, 3], [7], []),
  (74, .return_, 1, 0, [], [], [])], [])
def mX7_addStep : sM := (4, 0, [
  (0, .aload_n 0, 1, 0, [], [], []),
  (1, .getfield 28, 3, 0, [], [7, 4], []),
  (4, .bipush 40, 2, 0, [], [], []),
  (6, .if_icmp .ge 43, 3, 49, [], [], []),
  (9, .aload_n 0, 1, 0, [], [], []),
  (10, .getfield 11, 3, 2, [], [7, 0], []),
  (13, .aload_n 0, 1, 0, [], [], []),
  (14, .getfield 28, 3, 0, [], [7, 4], []),
  (17, .aload_n 1, 1, 1, [], [], []),
  (18, .aastore, 1, 0, [], [], []),
  (19, .aload_n 0, 1, 0, [], [], []),
  (20, .getfield 17, 3, 2, [], [7, 1], []),
  (23, .aload_n 0, 1, 0, [], [], []),
  (24, .getfield 28, 3, 0, [], [7, 4], []),
  (27, .iload_n 2, 1, 2, [], [], []),
  (28, .iastore, 1, 0, [], [], []),
  (29, .aload_n 0, 1, 0, [], [], []),
  (30, .getfield 21, 3, 2, [], [7, 2], []),
  (33, .aload_n 0, 1, 0, [], [], []),
  (34, .getfield 28, 3, 0, [], [7, 4], []),
  (37, .iload_n 3, 1, 3, [], [], []),
  (38, .iastore, 1, 0, [], [], []),
  (39, .aload_n 0, 1, 0, [], [], []),
  (40, .dup, 1, 0, [], [], []),
  (41, .getfield 28, 3, 0, [], [7, 4], []),
  (44, .iconst 1, 1, 0, [], [], []),
  (45, .iadd, 1, 0, [], [], []),
  (46, .putfield 28, 3, 0, [], [7, 4], []),
  (49, .return_, 1, 0, [], [], [])], [])
def mX7_isTrueOf : sM := (6, 4, [
  (0, .iconst 0, 1, 0, [], [], []),
  (1, .istore_n 3, 1, 3, [], [], []),
  (2, .iconst 0, 1, 0, [], [], []),
  (3, .istore 4, 2, 4, [], [], []),
  (5, .iload 4, 2, 4, [], [], []),
  (7, .aload_n 0, 1, 0, [], [], []),
  (8, .getfield 28, 3, 0, [], [7, 4], []),
  (11, .if_icmp .ge 186, 3, 197, [], [], []),
  (14, .iload 4, 2, 4, [], [], []),
  (16, .bipush 40, 2, 0, [], [], []),
  (18, .if_icmp .ge 179, 3, 197, [], [], []),
  (21, .aload_n 0, 1, 0, [], [], []),
  (22, .getfield 11, 3, 2, [], [7, 0], []),
  (25, .iload 4, 2, 4, [], [], []),
  (27, .aaload, 1, 0, [], [], []),
  (28, .astore 5, 2, 5, [], [], []),
  (30, .aload 5, 2, 5, [], [], []),
  (32, .getstatic 85, 3, 0, [], [14], []),
  (35, .if_acmp .ne 35, 3, 70, [], [], []),
  (38, .iload_n 3, 1, 3, [], [], []),
  (39, .iconst 1, 1, 0, [], [], []),
  (40, .if_icmp .lt 30, 3, 70, [], [], []),
  (43, .aload_n 0, 1, 0, [], [], []),
  (44, .getfield 24, 3, 2, [], [7, 3], []),
  (47, .iload_n 3, 1, 3, [], [], []),
  (48, .iconst 1, 1, 0, [], [], []),
  (49, .isub, 1, 0, [], [], []),
  (50, .aload_n 0, 1, 0, [], [], []),
  (51, .getfield 24, 3, 2, [], [7, 3], []),
  (54, .iload_n 3, 1, 3, [], [], []),
  (55, .iconst 1, 1, 0, [], [], []),
  (56, .isub, 1, 0, [], [], []),
  (57, .baload, 1, 0, [], [], []),
  (58, .ifCond .ne 7, 3, 65, [], [], []),
  (61, .iconst 1, 1, 0, [], [], []),
  (62, .goto 4, 3, 66, [], [], []),
  (65, .iconst 0, 1, 0, [], [], []),
  (66, .bastore, 1, 0, [], [], []),
  (67, .goto 124, 3, 191, [], [], []),
  (70, .aload 5, 2, 5, [], [], []),
  (72, .getstatic 65, 3, 0, [], [13], []),
  (75, .if_acmp .ne 47, 3, 122, [], [], []),
  (78, .iload_n 3, 1, 3, [], [], []),
  (79, .iconst 2, 1, 0, [], [], []),
  (80, .if_icmp .lt 42, 3, 122, [], [], []),
  (83, .iinc 3 (-1), 3, 3, [], [], []),
  (86, .aload_n 0, 1, 0, [], [], []),
  (87, .getfield 24, 3, 2, [], [7, 3], []),
  (90, .iload_n 3, 1, 3, [], [], []),
  (91, .iconst 1, 1, 0, [], [], []),
  (92, .isub, 1, 0, [], [], []),
  (93, .aload_n 0, 1, 0, [], [], []),
  (94, .getfield 24, 3, 2, [], [7, 3], []),
  (97, .iload_n 3, 1, 3, [], [], []),
  (98, .iconst 1, 1, 0, [], [], []),
  (99, .isub, 1, 0, [], [], []),
  (100, .baload, 1, 0, [], [], []),
  (101, .ifCond .eq 16, 3, 117, [], [], []),
  (104, .aload_n 0, 1, 0, [], [], []),
  (105, .getfield 24, 3, 2, [], [7, 3], []),
  (108, .iload_n 3, 1, 3, [], [], []),
  (109, .baload, 1, 0, [], [], []),
  (110, .ifCond .eq 7, 3, 117, [], [], []),
  (113, .iconst 1, 1, 0, [], [], []),
  (114, .goto 4, 3, 118, [], [], []),
  (117, .iconst 0, 1, 0, [], [], []),
  (118, .bastore, 1, 0, [], [], []),
  (119, .goto 72, 3, 191, [], [], []),
  (122, .aload 5, 2, 5, [], [], []),
  (124, .getstatic 62, 3, 0, [], [12], []),
  (127, .if_acmp .ne 47, 3, 174, [], [], []),
  (130, .iload_n 3, 1, 3, [], [], []),
  (131, .iconst 2, 1, 0, [], [], []),
  (132, .if_icmp .lt 42, 3, 174, [], [], []),
  (135, .iinc 3 (-1), 3, 3, [], [], []),
  (138, .aload_n 0, 1, 0, [], [], []),
  (139, .getfield 24, 3, 2, [], [7, 3], []),
  (142, .iload_n 3, 1, 3, [], [], []),
  (143, .iconst 1, 1, 0, [], [], []),
  (144, .isub, 1, 0, [], [], []),
  (145, .aload_n 0, 1, 0, [], [], []),
  (146, .getfield 24, 3, 2, [], [7, 3], []),
  (149, .iload_n 3, 1, 3, [], [], []),
  (150, .iconst 1, 1, 0, [], [], []),
  (151, .isub, 1, 0, [], [], []),
  (152, .baload, 1, 0, [], [], []),
  (153, .ifCond .ne 12, 3, 165, [], [], []),
  (156, .aload_n 0, 1, 0, [], [], []),
  (157, .getfield 24, 3, 2, [], [7, 3], []),
  (160, .iload_n 3, 1, 3, [], [], []),
  (161, .baload, 1, 0, [], [], []),
  (162, .ifCond .eq 7, 3, 169, [], [], []),
  (165, .iconst 1, 1, 0, [], [], []),
  (166, .goto 4, 3, 170, [], [], []),
  (169, .iconst 0, 1, 0, [], [], []),
  (170, .bastore, 1, 0, [], [], []),
  (171, .goto 20, 3, 191, [], [], []),
  (174, .aload_n 0, 1, 0, [], [], []),
  (175, .getfield 24, 3, 2, [], [7, 3], []),
  (178, .iload_n 3, 1, 3, [], [], []),
  (179, .aload_n 0, 1, 0, [], [], []),
  (180, .iload 4, 2, 4, [], [], []),
  (182, .aload_n 1, 1, 1, [], [], []),
  (183, .iload_n 2, 1, 2, [], [], []),
  (184, .invokevirtual 116, 3, 73, [4, 3], [7], []),
  (187, .bastore, 1, 0, [], [], []),
  (188, .iinc 3 1, 3, 3, [], [], []),
  (191, .iinc 4 1, 3, 4, [], [], []),
  (194, .goto (-189), 3, 5, [], [], []),
  (197, .iload_n 3, 1, 3, [], [], []),
  (198, .iconst 1, 1, 0, [], [], []),
  (199, .if_icmp .ne 16, 3, 215, [], [], []),
  (202, .aload_n 0, 1, 0, [], [], []),
  (203, .getfield 24, 3, 2, [], [7, 3], []),
  (206, .iconst 0, 1, 0, [], [], []),
  (207, .baload, 1, 0, [], [], []),
  (208, .ifCond .eq 7, 3, 215, [], [], []),
  (211, .iconst 1, 1, 0, [], [], []),
  (212, .goto 4, 3, 216, [], [], []),
  (215, .iconst 0, 1, 0, [], [], []),
  (216, .ireturn, 1, 0, [], [], [])], [(5, [true, true, true, true, true, false]), (122, [true, true, true, true, true, true])])
def mX7_isPlainTrue : sM := (7, 4, [
  (0, .aload_n 2, 1, 2, [], [], []),
  (1, .iload_n 3, 1, 3, [], [], []),
  (2, .invokevirtual 120, 3, 77, [3, 1], [8], []),
  (5, .astore 4, 2, 4, [], [], []),
  (7, .aload 4, 2, 4, [], [], []),
  (9, .ifnonnull 5, 3, 14, [], [], []),
  (12, .iconst 0, 1, 0, [], [], []),
  (13, .ireturn, 1, 0, [], [], []),
  (14, .aload_n 0, 1, 0, [], [], []),
  (15, .getfield 11, 3, 2, [], [7, 0], []),
  (18, .iload_n 1, 1, 1, [], [], []),
  (19, .aaload, 1, 0, [], [], []),
  (20, .astore 5, 2, 5, [], [], []),
  (22, .aload 5, 2, 5, [], [], []),
  (24, .getstatic 92, 3, 0, [], [15], []),
  (27, .if_acmp .ne 17, 3, 44, [], [], []),
  (30, .aload 4, 2, 4, [], [], []),
  (32, .getfield 126, 3, 0, [], [5, 2], []),
  (35, .ifCond .ne 7, 3, 42, [], [], []),
  (38, .iconst 1, 1, 0, [], [], []),
  (39, .goto 4, 3, 43, [], [], []),
  (42, .iconst 0, 1, 0, [], [], []),
  (43, .ireturn, 1, 0, [], [], []),
  (44, .aload 5, 2, 5, [], [], []),
  (46, .getstatic 95, 3, 0, [], [16], []),
  (49, .if_acmp .ne 26, 3, 75, [], [], []),
  (52, .aload 4, 2, 4, [], [], []),
  (54, .iconst 0, 1, 0, [], [], []),
  (55, .aload 4, 2, 4, [], [], []),
  (57, .getfield 126, 3, 0, [], [5, 2], []),
  (60, .iconst 1, 1, 0, [], [], []),
  (61, .invokevirtual 131, 3, 35, [1, 3], [5], []),
  (64, .iconst 2, 1, 0, [], [], []),
  (65, .irem, 1, 0, [], [], []),
  (66, .ifCond .ne 7, 3, 73, [], [], []),
  (69, .iconst 1, 1, 0, [], [], []),
  (70, .goto 4, 3, 74, [], [], []),
  (73, .iconst 0, 1, 0, [], [], []),
  (74, .ireturn, 1, 0, [], [], []),
  (75, .aload 5, 2, 5, [], [], []),
  (77, .getstatic 98, 3, 0, [], [17], []),
  (80, .if_acmp .eq 11, 3, 91, [], [], []),
  (83, .aload 5, 2, 5, [], [], []),
  (85, .getstatic 101, 3, 0, [], [18], []),
  (88, .if_acmp .ne 58, 3, 146, [], [], []),
  (91, .aload_n 2, 1, 2, [], [], []),
  (92, .aload_n 0, 1, 0, [], [], []),
  (93, .getfield 21, 3, 2, [], [7, 2], []),
  (96, .iload_n 1, 1, 1, [], [], []),
  (97, .iaload, 1, 0, [], [], []),
  (98, .invokevirtual 120, 3, 77, [3, 1], [8], []),
  (101, .astore 6, 2, 6, [], [], []),
  (103, .aload 6, 2, 6, [], [], []),
  (105, .ifnull 39, 3, 144, [], [], []),
  (108, .aload 5, 2, 5, [], [], []),
  (110, .getstatic 98, 3, 0, [], [17], []),
  (113, .if_acmp .ne 17, 3, 130, [], [], []),
  (116, .aload 4, 2, 4, [], [], []),
  (118, .aload 6, 2, 6, [], [], []),
  (120, .invokevirtual 135, 3, 43, [1, 1], [5], []),
  (123, .iconst (-1), 1, 0, [], [], []),
  (124, .if_icmp .ne 20, 3, 144, [], [], []),
  (127, .goto 13, 3, 140, [], [], []),
  (130, .aload 4, 2, 4, [], [], []),
  (132, .aload 6, 2, 6, [], [], []),
  (134, .invokevirtual 139, 3, 44, [4, 1], [5], []),
  (137, .ifCond .eq 7, 3, 144, [], [], []),
  (140, .iconst 1, 1, 0, [], [], []),
  (141, .goto 4, 3, 145, [], [], []),
  (144, .iconst 0, 1, 0, [], [], []),
  (145, .ireturn, 1, 0, [], [], []),
  (146, .aload 5, 2, 5, [], [], []),
  (148, .aload 4, 2, 4, [], [], []),
  (150, .iload_n 3, 1, 3, [], [], []),
  (151, .invokestatic 143, 3, 74, [1, 3], [], []),
  (154, .istore 6, 2, 6, [], [], []),
  (156, .aload_n 0, 1, 0, [], [], []),
  (157, .getfield 17, 3, 2, [], [7, 1], []),
  (160, .iload_n 1, 1, 1, [], [], []),
  (161, .iaload, 1, 0, [], [], []),
  (162, .bipush 60, 2, 0, [], [], []),
  (164, .if_icmp .ne 22, 3, 186, [], [], []),
  (167, .iload 6, 2, 6, [], [], []),
  (169, .aload_n 0, 1, 0, [], [], []),
  (170, .getfield 21, 3, 2, [], [7, 2], []),
  (173, .iload_n 1, 1, 1, [], [], []),
  (174, .iaload, 1, 0, [], [], []),
  (175, .if_icmp .ge 7, 3, 182, [], [], []),
  (178, .iconst 1, 1, 0, [], [], []),
  (179, .goto 53, 3, 232, [], [], []),
  (182, .iconst 0, 1, 0, [], [], []),
  (183, .goto 49, 3, 232, [], [], []),
  (186, .aload_n 0, 1, 0, [], [], []),
  (187, .getfield 17, 3, 2, [], [7, 1], []),
  (190, .iload_n 1, 1, 1, [], [], []),
  (191, .iaload, 1, 0, [], [], []),
  (192, .bipush 61, 2, 0, [], [], []),
  (194, .if_icmp .ne 22, 3, 216, [], [], []),
  (197, .iload 6, 2, 6, [], [], []),
  (199, .aload_n 0, 1, 0, [], [], []),
  (200, .getfield 21, 3, 2, [], [7, 2], []),
  (203, .iload_n 1, 1, 1, [], [], []),
  (204, .iaload, 1, 0, [], [], []),
  (205, .if_icmp .ne 7, 3, 212, [], [], []),
  (208, .iconst 1, 1, 0, [], [], []),
  (209, .goto 23, 3, 232, [], [], []),
  (212, .iconst 0, 1, 0, [], [], []),
  (213, .goto 19, 3, 232, [], [], []),
  (216, .iload 6, 2, 6, [], [], []),
  (218, .aload_n 0, 1, 0, [], [], []),
  (219, .getfield 21, 3, 2, [], [7, 2], []),
  (222, .iload_n 1, 1, 1, [], [], []),
  (223, .iaload, 1, 0, [], [], []),
  (224, .if_icmp .le 7, 3, 231, [], [], []),
  (227, .iconst 1, 1, 0, [], [], []),
  (228, .goto 4, 3, 232, [], [], []),
  (231, .iconst 0, 1, 0, [], [], []),
  (232, .ireturn, 1, 0, [], [], [])], [])
def mX7_measure : sM := (3, 1, [
  (0, .aload_n 0, 1, 0, [], [], []),
  (1, .getstatic 147, 3, 0, [], [19], []),
  (4, .if_acmp .ne 8, 3, 12, [], [], []),
  (7, .aload_n 1, 1, 1, [], [], []),
  (8, .getfield 126, 3, 0, [], [5, 2], []),
  (11, .ireturn, 1, 0, [], [], []),
  (12, .aload_n 0, 1, 0, [], [], []),
  (13, .getstatic 150, 3, 0, [], [20], []),
  (16, .if_acmp .ne 14, 3, 30, [], [], []),
  (19, .aload_n 1, 1, 1, [], [], []),
  (20, .iconst 0, 1, 0, [], [], []),
  (21, .aload_n 1, 1, 1, [], [], []),
  (22, .getfield 126, 3, 0, [], [5, 2], []),
  (25, .iconst 1, 1, 0, [], [], []),
  (26, .invokevirtual 131, 3, 35, [1, 3], [5], []),
  (29, .ireturn, 1, 0, [], [], []),
  (30, .aload_n 0, 1, 0, [], [], []),
  (31, .getstatic 153, 3, 0, [], [21], []),
  (34, .if_acmp .ne 8, 3, 42, [], [], []),
  (37, .aload_n 1, 1, 1, [], [], []),
  (38, .invokevirtual 156, 3, 38, [1, 0], [5], []),
  (41, .ireturn, 1, 0, [], [], []),
  (42, .aload_n 0, 1, 0, [], [], []),
  (43, .getstatic 159, 3, 0, [], [22], []),
  (46, .if_acmp .ne 10, 3, 56, [], [], []),
  (49, .aload_n 1, 1, 1, [], [], []),
  (50, .getfield 162, 3, 0, [], [5, 3], []),
  (53, .goto 4, 3, 57, [], [], []),
  (56, .iload_n 2, 1, 2, [], [], []),
  (57, .ireturn, 1, 0, [], [], [])], [])
def mX8_init : sM := (2, 0, [
  (0, .aload_n 0, 1, 0, [], [], []),
  (1, .invokespecial 3, 3, 0, [], [8], []),
  (4, .aload_n 0, 1, 0, [], [], []),
  (5, .iconst 4, 1, 0, [], [], []),
  (6, .anewarray 9, 3, 0, [], [24], []),
  (9, .putfield 11, 3, 2, [], [8, 0], []),
  (12, .aload_n 0, 1, 0, [], [], []),
  (13, .iconst 4, 1, 0, [], [], []),
  (14, .newarray .long, 2, 0, [], [22], []),
  (16, .putfield 17, 3, 2, [], [8, 1], []),
  (19, .aload_n 0, 1, 0, [], [], []),
  (20, .new 21, 3, 2, [], [6], []),
  (23, .dup, 1, 0, [], [], []),
  (24, .invokespecial 23, 3, 54, [0], [6], []),
  (27, .putfield 24, 3, 2, [], [8, 2], []),
  (30, .aload_n 0, 1, 0, [], [], []),
  (31, .bipush 8, 2, 0, [], [], []),
  (33, .putfield 28, 3, 0, [], [8, 4], []),
  (36, .iconst 0, 1, 0, [], [], []),
  (37, .istore_n 1, 1, 1, [], [], []),
  (38, .iload_n 1, 1, 1, [], [], []),
  (39, .iconst 4, 1, 0, [], [], []),
  (40, .if_icmp .ge 22, 3, 62, [], [], []),
  (43, .aload_n 0, 1, 0, [], [], []),
  (44, .getfield 11, 3, 2, [], [8, 0], []),
  (47, .iload_n 1, 1, 1, [], [], []),
  (48, .new 9, 3, 4, [], [5], []),
  (51, .dup, 1, 0, [], [], []),
  (52, .invokespecial 32, 3, 29, [0], [5], []),
  (55, .aastore, 1, 0, [], [], []),
  (56, .iinc 1 1, 3, 1, [], [], []),
  (59, .goto (-21), 3, 38, [], [], []),
  (62, .return_, 1, 0, [], [], [])], [(38, [true, true])])
def mX8_copyFrom : sM := (3, 0, [
  (0, .iconst 0, 1, 0, [], [], []),
  (1, .istore_n 2, 1, 2, [], [], []),
  (2, .iload_n 2, 1, 2, [], [], []),
  (3, .aload_n 1, 1, 1, [], [], []),
  (4, .getfield 33, 3, 0, [], [8, 3], []),
  (7, .if_icmp .ge 41, 3, 48, [], [], []),
  (10, .iload_n 2, 1, 2, [], [], []),
  (11, .iconst 4, 1, 0, [], [], []),
  (12, .if_icmp .ge 36, 3, 48, [], [], []),
  (15, .aload_n 0, 1, 0, [], [], []),
  (16, .getfield 11, 3, 2, [], [8, 0], []),
  (19, .iload_n 2, 1, 2, [], [], []),
  (20, .aaload, 1, 0, [], [], []),
  (21, .aload_n 1, 1, 1, [], [], []),
  (22, .getfield 11, 3, 2, [], [8, 0], []),
  (25, .iload_n 2, 1, 2, [], [], []),
  (26, .aaload, 1, 0, [], [], []),
  (27, .invokevirtual 36, 3, 31, [0, 1], [5], []),
  (30, .aload_n 0, 1, 0, [], [], []),
  (31, .getfield 17, 3, 2, [], [8, 1], []),
  (34, .iload_n 2, 1, 2, [], [], []),
  (35, .aload_n 1, 1, 1, [], [], []),
  (36, .getfield 17, 3, 2, [], [8, 1], []),
  (39, .iload_n 2, 1, 2, [], [], []),
  (40, .laload, 1, 0, [], [], []),
  (41, .lastore, 1, 0, [], [], []),
  (42, .iinc 2 1, 3, 2, [], [], []),
  (45, .goto (-43), 3, 2, [], [], []),
  (48, .aload_n 0, 1, 0, [], [], []),
  (49, .getfield 24, 3, 2, [], [8, 2], []),
  (52, .aload_n 1, 1, 1, [], [], []),
  (53, .getfield 24, 3, 2, [], [8, 2], []),
  (56, .invokevirtual 40, 3, 55, [0, 1], [6], []),
  (59, .aload_n 0, 1, 0, [], [], []),
  (60, .aload_n 1, 1, 1, [], [], []),
  (61, .getfield 33, 3, 0, [], [8, 3], []),
  (64, .putfield 33, 3, 0, [], [8, 3], []),
  (67, .aload_n 0, 1, 0, [], [], []),
  (68, .aload_n 1, 1, 1, [], [], []),
  (69, .getfield 28, 3, 0, [], [8, 4], []),
  (72, .putfield 28, 3, 0, [], [8, 4], []),
  (75, .return_, 1, 0, [], [], [])], [(2, [true, true, true])])
def mX8_rowAt : sM := (2, 3, [
  (0, .iload_n 1, 1, 1, [], [], []),
  (1, .ifCond .lt 16, 3, 17, [], [], []),
  (4, .iload_n 1, 1, 1, [], [], []),
  (5, .aload_n 0, 1, 0, [], [], []),
  (6, .getfield 33, 3, 0, [], [8, 3], []),
  (9, .if_icmp .ge 8, 3, 17, [], [], []),
  (12, .iload_n 1, 1, 1, [], [], []),
  (13, .iconst 4, 1, 0, [], [], []),
  (14, .if_icmp .lt 7, 3, 21, [], [], []),
  (17, .aconst_null, 1, 0, [], [], []),
  (18, .goto 9, 3, 27, [], [], []),
  (21, .aload_n 0, 1, 0, [], [], []),
  (22, .getfield 11, 3, 2, [], [8, 0], []),
  (25, .iload_n 1, 1, 1, [], [], []),
  (26, .aaload, 1, 0, [], [], []),
  (27, .areturn, 1, 0, [], [], [])], [])
def mX8_numberOf : sM := (4, 1, [
  (0, .iconst 0, 1, 0, [], [], []),
  (1, .istore_n 3, 1, 3, [], [], []),
  (2, .iload_n 3, 1, 3, [], [], []),
  (3, .aload_n 0, 1, 0, [], [], []),
  (4, .getfield 33, 3, 0, [], [8, 3], []),
  (7, .if_icmp .ge 27, 3, 34, [], [], []),
  (10, .iload_n 3, 1, 3, [], [], []),
  (11, .iconst 4, 1, 0, [], [], []),
  (12, .if_icmp .ge 22, 3, 34, [], [], []),
  (15, .aload_n 0, 1, 0, [], [], []),
  (16, .getfield 17, 3, 2, [], [8, 1], []),
  (19, .iload_n 3, 1, 3, [], [], []),
  (20, .laload, 1, 0, [], [], []),
  (21, .lload_n 1, 1, 1, [], [], []),
  (22, .lcmp, 1, 0, [], [], []),
  (23, .ifCond .ne 5, 3, 28, [], [], []),
  (26, .iload_n 3, 1, 3, [], [], []),
  (27, .ireturn, 1, 0, [], [], []),
  (28, .iinc 3 1, 3, 3, [], [], []),
  (31, .goto (-29), 3, 2, [], [], []),
  (34, .iconst (-1), 1, 0, [], [], []),
  (35, .ireturn, 1, 0, [], [], [])], [(2, [true, true, false, true])])
def mX8_allBits : sM := (3, 1, [
  (0, .iconst 0, 1, 0, [], [], []),
  (1, .istore_n 1, 1, 1, [], [], []),
  (2, .iconst 0, 1, 0, [], [], []),
  (3, .istore_n 2, 1, 2, [], [], []),
  (4, .iload_n 2, 1, 2, [], [], []),
  (5, .aload_n 0, 1, 0, [], [], []),
  (6, .getfield 33, 3, 0, [], [8, 3], []),
  (9, .if_icmp .ge 26, 3, 35, [], [], []),
  (12, .iload_n 2, 1, 2, [], [], []),
  (13, .iconst 4, 1, 0, [], [], []),
  (14, .if_icmp .ge 21, 3, 35, [], [], []),
  (17, .iload_n 1, 1, 1, [], [], []),
  (18, .aload_n 0, 1, 0, [], [], []),
  (19, .getfield 11, 3, 2, [], [8, 0], []),
  (22, .iload_n 2, 1, 2, [], [], []),
  (23, .aaload, 1, 0, [], [], []),
  (24, .getfield 43, 3, 0, [], [5, 2], []),
  (27, .iadd, 1, 0, [], [], []),
  (28, .istore_n 1, 1, 1, [], [], []),
  (29, .iinc 2 1, 3, 2, [], [], []),
  (32, .goto (-28), 3, 4, [], [], []),
  (35, .iload_n 1, 1, 1, [], [], []),
  (36, .ireturn, 1, 0, [], [], [])], [(4, [true, true, true])])
def mX8_readLines : sM := (4, 1, [
  (0, .aload_n 0, 1, 0, [], [], []),
  (1, .iconst 0, 1, 0, [], [], []),
  (2, .putfield 33, 3, 0, [], [8, 3], []),
  (5, .aload_n 0, 1, 0, [], [], []),
  (6, .bipush 8, 2, 0, [], [], []),
  (8, .putfield 28, 3, 0, [], [8, 4], []),
  (11, .aload_n 0, 1, 0, [], [], []),
  (12, .getfield 24, 3, 2, [], [8, 2], []),
  (15, .iconst 0, 1, 0, [], [], []),
  (16, .putfield 46, 3, 0, [], [6, 1], []),
  (19, .aload_n 0, 1, 0, [], [], []),
  (20, .iconst 0, 1, 0, [], [], []),
  (21, .putfield 47, 3, 3, [], [8, 5], []),
  (24, .iconst 0, 1, 0, [], [], []),
  (25, .istore_n 2, 1, 2, [], [], []),
  (26, .iconst 0, 1, 0, [], [], []),
  (27, .istore_n 3, 1, 3, [], [], []),
  (28, .iload_n 3, 1, 3, [], [], []),
  (29, .sipush 940, 3, 0, [], [], []),
  (32, .if_icmp .ge 93, 3, 125, [], [], []),
  (35, .aload_n 1, 1, 1, [], [], []),
  (36, .invokevirtual 51, 3, 19, [4, 0], [4], []),
  (39, .ifCond .eq 86, 3, 125, [], [], []),
  (42, .aload_n 1, 1, 1, [], [], []),
  (43, .getfield 57, 3, 2, [], [4, 9], []),
  (46, .getstatic 61, 3, 0, [], [1], []),
  (49, .if_acmp .ne 20, 3, 69, [], [], []),
  (52, .aload_n 0, 1, 0, [], [], []),
  (53, .aload_n 1, 1, 1, [], [], []),
  (54, .iload_n 2, 1, 2, [], [], []),
  (55, .ifCond .ne 7, 3, 62, [], [], []),
  (58, .iconst 1, 1, 0, [], [], []),
  (59, .goto 4, 3, 63, [], [], []),
  (62, .iconst 0, 1, 0, [], [], []),
  (63, .invokevirtual 66, 3, 81, [0, 2], [8], []),
  (66, .goto 44, 3, 110, [], [], []),
  (69, .aload_n 1, 1, 1, [], [], []),
  (70, .getfield 57, 3, 2, [], [4, 9], []),
  (73, .getstatic 70, 3, 0, [], [2], []),
  (76, .if_acmp .ne 11, 3, 87, [], [], []),
  (79, .aload_n 0, 1, 0, [], [], []),
  (80, .aload_n 1, 1, 1, [], [], []),
  (81, .invokevirtual 73, 3, 82, [0, 1], [8], []),
  (84, .goto 26, 3, 110, [], [], []),
  (87, .aload_n 1, 1, 1, [], [], []),
  (88, .getfield 57, 3, 2, [], [4, 9], []),
  (91, .getstatic 77, 3, 0, [], [3], []),
  (94, .if_acmp .ne 11, 3, 105, [], [], []),
  (97, .aload_n 0, 1, 0, [], [], []),
  (98, .aload_n 1, 1, 1, [], [], []),
  (99, .invokevirtual 80, 3, 84, [0, 1], [8], []),
  (102, .goto 8, 3, 110, [], [], []),
  (105, .aload_n 1, 1, 1, [], [], []),
  (106, .iconst 1, 1, 0, [], [], []),
  (107, .invokevirtual 83, 3, 20, [0, 1], [4], []),
  (110, .aload_n 1, 1, 1, [], [], []),
  (111, .bipush 59, 2, 0, [], [], []),
  (113, .invokevirtual 87, 3, 23, [0, 1], [4], []),
  (116, .iinc 2 1, 3, 2, [], [], []),
  (119, .iinc 3 1, 3, 3, [], [], []),
  (122, .goto (-94), 3, 28, [], [], []),
  (125, .iload_n 2, 1, 2, [], [], []),
  (126, .ireturn, 1, 0, [], [], [])], [(28, [true, true, true, true])])
def mX8_readLeaf : sM := (4, 0, [
  (0, .iload_n 2, 1, 2, [], [], []),
  (1, .ifCond .ne 9, 3, 10, [], [], []),
  (4, .aload_n 1, 1, 1, [], [], []),
  (5, .iconst 3, 1, 0, [], [], []),
  (6, .invokevirtual 83, 3, 20, [0, 1], [4], []),
  (9, .return_, 1, 0, [], [], []),
  (10, .aload_n 1, 1, 1, [], [], []),
  (11, .invokevirtual 90, 3, 16, [0, 0], [4], []),
  (14, .aload_n 1, 1, 1, [], [], []),
  (15, .iconst 4, 1, 0, [], [], []),
  (16, .bipush 32, 2, 0, [], [], []),
  (18, .invokevirtual 93, 3, 25, [1, 2], [4], []),
  (21, .istore_n 3, 1, 3, [], [], []),
  (22, .iload_n 3, 1, 3, [], [], []),
  (23, .iconst (-1), 1, 0, [], [], []),
  (24, .if_icmp .eq 8, 3, 32, [], [], []),
  (27, .aload_n 0, 1, 0, [], [], []),
  (28, .iload_n 3, 1, 3, [], [], []),
  (29, .putfield 28, 3, 0, [], [8, 4], []),
  (32, .return_, 1, 0, [], [], [])], [])
def mX8_readRow : sM := (4, 0, [
  (0, .aload_n 0, 1, 0, [], [], []),
  (1, .getfield 33, 3, 0, [], [8, 3], []),
  (4, .iconst 4, 1, 0, [], [], []),
  (5, .if_icmp .lt 9, 3, 14, [], [], []),
  (8, .aload_n 1, 1, 1, [], [], []),
  (9, .iconst 4, 1, 0, [], [], []),
  (10, .invokevirtual 83, 3, 20, [0, 1], [4], []),
  (13, .return_, 1, 0, [], [], []),
  (14, .aload_n 1, 1, 1, [], [], []),
  (15, .invokevirtual 90, 3, 16, [0, 0], [4], []),
  (18, .aload_n 1, 1, 1, [], [], []),
  (19, .invokevirtual 97, 3, 21, [4, 0], [4], []),
  (22, .ifCond .ne 9, 3, 31, [], [], []),
  (25, .aload_n 1, 1, 1, [], [], []),
  (26, .iconst 1, 1, 0, [], [], []),
  (27, .invokevirtual 83, 3, 20, [0, 1], [4], []),
  (30, .return_, 1, 0, [], [], []),
  (31, .aload_n 0, 1, 0, [], [], []),
  (32, .aload_n 1, 1, 1, [], [], []),
  (33, .getfield 100, 3, 1, [], [4, 8], []),
  (36, .invokevirtual 104, 3, 78, [1, 1], [8], []),
  (39, .iconst (-1), 1, 0, [], [], []),
  (40, .if_icmp .eq 9, 3, 49, [], [], []),
  (43, .aload_n 1, 1, 1, [], [], []),
  (44, .iconst 3, 1, 0, [], [], []),
  (45, .invokevirtual 83, 3, 20, [0, 1], [4], []),
  (48, .return_, 1, 0, [], [], []),
  (49, .aload_n 0, 1, 0, [], [], []),
  (50, .getfield 17, 3, 2, [], [8, 1], []),
  (53, .aload_n 0, 1, 0, [], [], []),
  (54, .getfield 33, 3, 0, [], [8, 3], []),
  (57, .aload_n 1, 1, 1, [], [], []),
  (58, .getfield 100, 3, 1, [], [4, 8], []),
  (61, .lastore, 1, 0, [], [], []),
  (62, .aload_n 0, 1, 0, [], [], []),
  (63, .getfield 11, 3, 2, [], [8, 0], []),
  (66, .aload_n 0, 1, 0, [], [], []),
  (67, .getfield 33, 3, 0, [], [8, 3], []),
  (70, .aaload, 1, 0, [], [], []),
  (71, .astore_n 2, 1, 2, [], [], []),
  (72, .aload_n 2, 1, 2, [], [], []),
  (73, .invokevirtual 108, 3, 30, [0, 0], [5], []),
  (76, .aload_n 0, 1, 0, [], [], []),
  (77, .dup, 1, 0, [], [], []),
  (78, .getfield 33, 3, 0, [], [8, 3], []),
  (81, .iconst 1, 1, 0, [], [], []),
  (82, .iadd, 1, 0, [], [], []),
  (83, .putfield 33, 3, 0, [], [8, 3], []),
  (86, .aload_n 1, 1, 1, [], [], []),
  (87, .invokevirtual 90, 3, 16, [0, 0], [4], []),
  (90, .iconst 0, 1, 0, [], [], []),
  (91, .istore_n 3, 1, 3, [], [], []),
  (92, .iload_n 3, 1, 3, [], [], []),
  (93, .sipush 940, 3, 0, [], [], []),
  (96, .if_icmp .ge 30, 3, 126, [], [], []),
  (99, .aload_n 1, 1, 1, [], [], []),
  (100, .getfield 111, 3, 0, [], [4, 10], []),
  (103, .ifCond .ne 23, 3, 126, [], [], []),
  (106, .aload_n 1, 1, 1, [], [], []),
  (107, .getfield 114, 3, 0, [], [4, 4], []),
  (110, .iconst 2, 1, 0, [], [], []),
  (111, .if_icmp .ne 15, 3, 126, [], [], []),
  (114, .aload_n 0, 1, 0, [], [], []),
  (115, .aload_n 1, 1, 1, [], [], []),
  (116, .aload_n 2, 1, 2, [], [], []),
  (117, .invokevirtual 117, 3, 83, [0, 2], [8], []),
  (120, .iinc 3 1, 3, 3, [], [], []),
  (123, .goto (-31), 3, 92, [], [], []),
  (126, .return_, 1, 0, [], [], [])], [(92, [true, true, true, true])])
def mX8_readBits : sM := (6, 0, [
  (0, .aload_n 1, 1, 1, [], [], []),
  (1, .invokevirtual 121, 3, 27, [1, 0], [4], []),
  (4, .istore_n 3, 1, 3, [], [], []),
  (5, .iconst 0, 1, 0, [], [], []),
  (6, .istore 4, 2, 4, [], [], []),
  (8, .iload 4, 2, 4, [], [], []),
  (10, .iload_n 3, 1, 3, [], [], []),
  (11, .if_icmp .ge 37, 3, 48, [], [], []),
  (14, .aload_n 1, 1, 1, [], [], []),
  (15, .iload 4, 2, 4, [], [], []),
  (17, .invokevirtual 125, 3, 28, [1, 1], [4], []),
  (20, .istore 5, 2, 5, [], [], []),
  (22, .iload 5, 2, 5, [], [], []),
  (24, .bipush 105, 2, 0, [], [], []),
  (26, .if_icmp .eq 16, 3, 42, [], [], []),
  (29, .iload 5, 2, 5, [], [], []),
  (31, .bipush 111, 2, 0, [], [], []),
  (33, .if_icmp .eq 9, 3, 42, [], [], []),
  (36, .aload_n 1, 1, 1, [], [], []),
  (37, .iconst 2, 1, 0, [], [], []),
  (38, .invokevirtual 83, 3, 20, [0, 1], [4], []),
  (41, .return_, 1, 0, [], [], []),
  (42, .iinc 4 1, 3, 4, [], [], []),
  (45, .goto (-37), 3, 8, [], [], []),
  (48, .aload_n 2, 1, 2, [], [], []),
  (49, .getfield 43, 3, 0, [], [5, 2], []),
  (52, .iload_n 3, 1, 3, [], [], []),
  (53, .iadd, 1, 0, [], [], []),
  (54, .sipush 600, 3, 0, [], [], []),
  (57, .if_icmp .le 9, 3, 66, [], [], []),
  (60, .aload_n 1, 1, 1, [], [], []),
  (61, .iconst 4, 1, 0, [], [], []),
  (62, .invokevirtual 83, 3, 20, [0, 1], [4], []),
  (65, .return_, 1, 0, [], [], []),
  (66, .iconst 0, 1, 0, [], [], []),
  (67, .istore 4, 2, 4, [], [], []),
  (69, .iload 4, 2, 4, [], [], []),
  (71, .iload_n 3, 1, 3, [], [], []),
  (72, .if_icmp .ge 37, 3, 109, [], [], []),
  (75, .aload_n 2, 1, 2, [], [], []),
  (76, .aload_n 2, 1, 2, [], [], []),
  (77, .getfield 43, 3, 0, [], [5, 2], []),
  (80, .aload_n 1, 1, 1, [], [], []),
  (81, .iload 4, 2, 4, [], [], []),
  (83, .invokevirtual 125, 3, 28, [1, 1], [4], []),
  (86, .bipush 105, 2, 0, [], [], []),
  (88, .if_icmp .ne 7, 3, 95, [], [], []),
  (91, .iconst 1, 1, 0, [], [], []),
  (92, .goto 4, 3, 96, [], [], []),
  (95, .iconst 0, 1, 0, [], [], []),
  (96, .aload_n 0, 1, 0, [], [], []),
  (97, .getfield 28, 3, 0, [], [8, 4], []),
  (100, .invokevirtual 129, 3, 48, [0, 3], [5], []),
  (103, .iinc 4 1, 3, 4, [], [], []),
  (106, .goto (-37), 3, 69, [], [], []),
  (109, .aload_n 1, 1, 1, [], [], []),
  (110, .invokevirtual 90, 3, 16, [0, 0], [4], []),
  (113, .return_, 1, 0, [], [], [])], [(8, [true, true, true, true, true, false]), (69, [true, true, true, true, true, false])])
def mX8_readLetters : sM := (3, 0, [
  (0, .aload_n 0, 1, 0, [], [], []),
  (1, .getfield 47, 3, 3, [], [8, 5], []),
  (4, .ifCond .eq 9, 3, 13, [], [], []),
  (7, .aload_n 1, 1, 1, [], [], []),
  (8, .iconst 3, 1, 0, [], [], []),
  (9, .invokevirtual 83, 3, 20, [0, 1], [4], []),
  (12, .return_, 1, 0, [], [], []),
  (13, .aload_n 0, 1, 0, [], [], []),
  (14, .iconst 1, 1, 0, [], [], []),
  (15, .putfield 47, 3, 3, [], [8, 5], []),
  (18, .aload_n 1, 1, 1, [], [], []),
  (19, .invokevirtual 90, 3, 16, [0, 0], [4], []),
  (22, .iconst 0, 1, 0, [], [], []),
  (23, .istore_n 2, 1, 2, [], [], []),
  (24, .iload_n 2, 1, 2, [], [], []),
  (25, .sipush 940, 3, 0, [], [], []),
  (28, .if_icmp .ge 29, 3, 57, [], [], []),
  (31, .aload_n 1, 1, 1, [], [], []),
  (32, .getfield 111, 3, 0, [], [4, 10], []),
  (35, .ifCond .ne 22, 3, 57, [], [], []),
  (38, .aload_n 1, 1, 1, [], [], []),
  (39, .getfield 114, 3, 0, [], [4, 4], []),
  (42, .iconst 2, 1, 0, [], [], []),
  (43, .if_icmp .ne 14, 3, 57, [], [], []),
  (46, .aload_n 0, 1, 0, [], [], []),
  (47, .aload_n 1, 1, 1, [], [], []),
  (48, .invokevirtual 133, 3, 85, [0, 1], [8], []),
  (51, .iinc 2 1, 3, 2, [], [], []),
  (54, .goto (-30), 3, 24, [], [], []),
  (57, .return_, 1, 0, [], [], [])], [(24, [true, true, true])])
def mX8_readLettersOfWord : sM := (4, 0, [
  (0, .aload_n 1, 1, 1, [], [], []),
  (1, .invokevirtual 121, 3, 27, [1, 0], [4], []),
  (4, .istore_n 2, 1, 2, [], [], []),
  (5, .iconst 0, 1, 0, [], [], []),
  (6, .istore_n 3, 1, 3, [], [], []),
  (7, .iload_n 3, 1, 3, [], [], []),
  (8, .iload_n 2, 1, 2, [], [], []),
  (9, .if_icmp .ge 29, 3, 38, [], [], []),
  (12, .aload_n 1, 1, 1, [], [], []),
  (13, .iload_n 3, 1, 3, [], [], []),
  (14, .invokevirtual 125, 3, 28, [1, 1], [4], []),
  (17, .bipush 97, 2, 0, [], [], []),
  (19, .isub, 1, 0, [], [], []),
  (20, .invokestatic 136, 3, 134, [4, 1], [], []),
  (23, .ifCond .ne 9, 3, 32, [], [], []),
  (26, .aload_n 1, 1, 1, [], [], []),
  (27, .iconst 2, 1, 0, [], [], []),
  (28, .invokevirtual 83, 3, 20, [0, 1], [4], []),
  (31, .return_, 1, 0, [], [], []),
  (32, .iinc 3 1, 3, 3, [], [], []),
  (35, .goto (-28), 3, 7, [], [], []),
  (38, .aload_n 0, 1, 0, [], [], []),
  (39, .getfield 24, 3, 2, [], [8, 2], []),
  (42, .getfield 46, 3, 0, [], [6, 1], []),
  (45, .iload_n 2, 1, 2, [], [], []),
  (46, .iadd, 1, 0, [], [], []),
  (47, .sipush 200, 3, 0, [], [], []),
  (50, .if_icmp .le 9, 3, 59, [], [], []),
  (53, .aload_n 1, 1, 1, [], [], []),
  (54, .iconst 4, 1, 0, [], [], []),
  (55, .invokevirtual 83, 3, 20, [0, 1], [4], []),
  (58, .return_, 1, 0, [], [], []),
  (59, .iconst 0, 1, 0, [], [], []),
  (60, .istore_n 3, 1, 3, [], [], []),
  (61, .iload_n 3, 1, 3, [], [], []),
  (62, .iload_n 2, 1, 2, [], [], []),
  (63, .if_icmp .ge 31, 3, 94, [], [], []),
  (66, .aload_n 0, 1, 0, [], [], []),
  (67, .getfield 24, 3, 2, [], [8, 2], []),
  (70, .aload_n 0, 1, 0, [], [], []),
  (71, .getfield 24, 3, 2, [], [8, 2], []),
  (74, .getfield 46, 3, 0, [], [6, 1], []),
  (77, .aload_n 1, 1, 1, [], [], []),
  (78, .iload_n 3, 1, 3, [], [], []),
  (79, .invokevirtual 125, 3, 28, [1, 1], [4], []),
  (82, .bipush 97, 2, 0, [], [], []),
  (84, .isub, 1, 0, [], [], []),
  (85, .invokevirtual 140, 3, 62, [0, 2], [6], []),
  (88, .iinc 3 1, 3, 3, [], [], []),
  (91, .goto (-30), 3, 61, [], [], []),
  (94, .aload_n 1, 1, 1, [], [], []),
  (95, .invokevirtual 90, 3, 16, [0, 0], [4], []),
  (98, .return_, 1, 0, [], [], [])], [(7, [true, true, true, true]), (61, [true, true, true, true])])
def mX8_whyNot : sM := (6, 1, [
  (0, .aload_n 1, 1, 1, [], [], []),
  (1, .getstatic 143, 3, 0, [], [10], []),
  (4, .if_acmp .ne 41, 3, 45, [], [], []),
  (7, .iload_n 2, 1, 2, [], [], []),
  (8, .ifCond .lt 14, 3, 22, [], [], []),
  (11, .iload_n 2, 1, 2, [], [], []),
  (12, .aload_n 0, 1, 0, [], [], []),
  (13, .getfield 24, 3, 2, [], [8, 2], []),
  (16, .getfield 46, 3, 0, [], [6, 1], []),
  (19, .if_icmp .le 7, 3, 26, [], [], []),
  (22, .iconst 1, 1, 0, [], [], []),
  (23, .goto 21, 3, 44, [], [], []),
  (26, .aload_n 0, 1, 0, [], [], []),
  (27, .getfield 24, 3, 2, [], [8, 2], []),
  (30, .getfield 46, 3, 0, [], [6, 1], []),
  (33, .sipush 200, 3, 0, [], [], []),
  (36, .if_icmp .lt 7, 3, 43, [], [], []),
  (39, .iconst 2, 1, 0, [], [], []),
  (40, .goto 4, 3, 44, [], [], []),
  (43, .iconst 0, 1, 0, [], [], []),
  (44, .ireturn, 1, 0, [], [], []),
  (45, .aload_n 1, 1, 1, [], [], []),
  (46, .getstatic 146, 3, 0, [], [11], []),
  (49, .if_acmp .ne 21, 3, 70, [], [], []),
  (52, .aload_n 0, 1, 0, [], [], []),
  (53, .getfield 24, 3, 2, [], [8, 2], []),
  (56, .iload_n 2, 1, 2, [], [], []),
  (57, .iload_n 3, 1, 3, [], [], []),
  (58, .invokevirtual 149, 3, 57, [4, 2], [6], []),
  (61, .ifCond .eq 7, 3, 68, [], [], []),
  (64, .iconst 0, 1, 0, [], [], []),
  (65, .goto 4, 3, 69, [], [], []),
  (68, .iconst 1, 1, 0, [], [], []),
  (69, .ireturn, 1, 0, [], [], []),
  (70, .aload_n 0, 1, 0, [], [], []),
  (71, .iload_n 2, 1, 2, [], [], []),
  (72, .invokevirtual 153, 3, 77, [3, 1], [8], []),
  (75, .astore 5, 2, 5, [], [], []),
  (77, .aload 5, 2, 5, [], [], []),
  (79, .ifnonnull 5, 3, 84, [], [], []),
  (82, .iconst 1, 1, 0, [], [], []),
  (83, .ireturn, 1, 0, [], [], []),
  (84, .aload_n 1, 1, 1, [], [], []),
  (85, .getstatic 157, 3, 0, [], [8], []),
  (88, .if_acmp .ne 15, 3, 103, [], [], []),
  (91, .aload_n 0, 1, 0, [], [], []),
  (92, .iload_n 3, 1, 3, [], [], []),
  (93, .invokevirtual 153, 3, 77, [3, 1], [8], []),
  (96, .iconst 0, 1, 0, [], [], []),
  (97, .aload 5, 2, 5, [], [], []),
  (99, .invokestatic 160, 3, 87, [1, 3], [], []),
  (102, .ireturn, 1, 0, [], [], []),
  (103, .aload_n 1, 1, 1, [], [], []),
  (104, .getstatic 164, 3, 0, [], [9], []),
  (107, .if_acmp .ne 16, 3, 123, [], [], []),
  (110, .aload 5, 2, 5, [], [], []),
  (112, .iload_n 3, 1, 3, [], [], []),
  (113, .aload_n 0, 1, 0, [], [], []),
  (114, .iload 4, 2, 4, [], [], []),
  (116, .invokevirtual 153, 3, 77, [3, 1], [8], []),
  (119, .invokestatic 160, 3, 87, [1, 3], [], []),
  (122, .ireturn, 1, 0, [], [], []),
  (123, .aload_n 1, 1, 1, [], [], []),
  (124, .getstatic 167, 3, 0, [], [4], []),
  (127, .if_acmp .ne 33, 3, 160, [], [], []),
  (130, .aload 5, 2, 5, [], [], []),
  (132, .iload_n 3, 1, 3, [], [], []),
  (133, .invokevirtual 170, 3, 32, [4, 1], [5], []),
  (136, .ifCond .ne 7, 3, 143, [], [], []),
  (139, .iconst 1, 1, 0, [], [], []),
  (140, .goto 19, 3, 159, [], [], []),
  (143, .aload 5, 2, 5, [], [], []),
  (145, .getfield 43, 3, 0, [], [5, 2], []),
  (148, .sipush 600, 3, 0, [], [], []),
  (151, .if_icmp .lt 7, 3, 158, [], [], []),
  (154, .iconst 2, 1, 0, [], [], []),
  (155, .goto 4, 3, 159, [], [], []),
  (158, .iconst 0, 1, 0, [], [], []),
  (159, .ireturn, 1, 0, [], [], []),
  (160, .aload_n 1, 1, 1, [], [], []),
  (161, .getstatic 173, 3, 0, [], [5], []),
  (164, .if_acmp .ne 34, 3, 198, [], [], []),
  (167, .aload 5, 2, 5, [], [], []),
  (169, .iload_n 3, 1, 3, [], [], []),
  (170, .invokevirtual 176, 3, 34, [1, 1], [5], []),
  (173, .iconst (-1), 1, 0, [], [], []),
  (174, .if_icmp .ne 7, 3, 181, [], [], []),
  (177, .iconst 1, 1, 0, [], [], []),
  (178, .goto 19, 3, 197, [], [], []),
  (181, .aload 5, 2, 5, [], [], []),
  (183, .iload_n 3, 1, 3, [], [], []),
  (184, .invokevirtual 176, 3, 34, [1, 1], [5], []),
  (187, .iload 4, 2, 4, [], [], []),
  (189, .if_icmp .ne 7, 3, 196, [], [], []),
  (192, .iconst 2, 1, 0, [], [], []),
  (193, .goto 4, 3, 197, [], [], []),
  (196, .iconst 0, 1, 0, [], [], []),
  (197, .ireturn, 1, 0, [], [], []),
  (198, .aload 5, 2, 5, [], [], []),
  (200, .iload_n 3, 1, 3, [], [], []),
  (201, .iload 4, 2, 4, [], [], []),
  (203, .invokevirtual 179, 3, 33, [4, 2], [5], []),
  (206, .ifCond .eq 7, 3, 213, [], [], []),
  (209, .iconst 0, 1, 0, [], [], []),
  (210, .goto 4, 3, 214, [], [], []),
  (213, .iconst 1, 1, 0, [], [], []),
  (214, .ireturn, 1, 0, [], [], [])], [])
def mX8_whyNotMoved : sM := (3, 1, [
  (0, .aload_n 0, 1, 0, [], [], []),
  (1, .ifnull 16, 3, 17, [], [], []),
  (4, .aload_n 2, 1, 2, [], [], []),
  (5, .ifnull 12, 3, 17, [], [], []),
  (8, .aload_n 0, 1, 0, [], [], []),
  (9, .iload_n 1, 1, 1, [], [], []),
  (10, .invokevirtual 176, 3, 34, [1, 1], [5], []),
  (13, .iconst (-1), 1, 0, [], [], []),
  (14, .if_icmp .ne 5, 3, 19, [], [], []),
  (17, .iconst 1, 1, 0, [], [], []),
  (18, .ireturn, 1, 0, [], [], []),
  (19, .aload_n 2, 1, 2, [], [], []),
  (20, .getfield 43, 3, 0, [], [5, 2], []),
  (23, .aload_n 0, 1, 0, [], [], []),
  (24, .getfield 43, 3, 0, [], [5, 2], []),
  (27, .iadd, 1, 0, [], [], []),
  (28, .iload_n 1, 1, 1, [], [], []),
  (29, .isub, 1, 0, [], [], []),
  (30, .sipush 600, 3, 0, [], [], []),
  (33, .if_icmp .le 7, 3, 40, [], [], []),
  (36, .iconst 2, 1, 0, [], [], []),
  (37, .goto 4, 3, 41, [], [], []),
  (40, .iconst 0, 1, 0, [], [], []),
  (41, .ireturn, 1, 0, [], [], [])], [])
def mX8_act : sM := (7, 0, [
  (0, .aload_n 1, 1, 1, [], [], []),
  (1, .getstatic 143, 3, 0, [], [10], []),
  (4, .if_acmp .ne 13, 3, 17, [], [], []),
  (7, .aload_n 0, 1, 0, [], [], []),
  (8, .getfield 24, 3, 2, [], [8, 2], []),
  (11, .iload_n 2, 1, 2, [], [], []),
  (12, .iload_n 3, 1, 3, [], [], []),
  (13, .invokevirtual 140, 3, 62, [0, 2], [6], []),
  (16, .return_, 1, 0, [], [], []),
  (17, .aload_n 1, 1, 1, [], [], []),
  (18, .getstatic 146, 3, 0, [], [11], []),
  (21, .if_acmp .ne 13, 3, 34, [], [], []),
  (24, .aload_n 0, 1, 0, [], [], []),
  (25, .getfield 24, 3, 2, [], [8, 2], []),
  (28, .iload_n 2, 1, 2, [], [], []),
  (29, .iload_n 3, 1, 3, [], [], []),
  (30, .invokevirtual 180, 3, 63, [0, 2], [6], []),
  (33, .return_, 1, 0, [], [], []),
  (34, .aload_n 0, 1, 0, [], [], []),
  (35, .iload_n 2, 1, 2, [], [], []),
  (36, .invokevirtual 153, 3, 77, [3, 1], [8], []),
  (39, .astore 5, 2, 5, [], [], []),
  (41, .aload_n 1, 1, 1, [], [], []),
  (42, .getstatic 157, 3, 0, [], [8], []),
  (45, .if_acmp .ne 11, 3, 56, [], [], []),
  (48, .aload_n 0, 1, 0, [], [], []),
  (49, .iload_n 3, 1, 3, [], [], []),
  (50, .invokevirtual 153, 3, 77, [3, 1], [8], []),
  (53, .goto 21, 3, 74, [], [], []),
  (56, .aload_n 1, 1, 1, [], [], []),
  (57, .getstatic 164, 3, 0, [], [9], []),
  (60, .if_acmp .ne 12, 3, 72, [], [], []),
  (63, .aload_n 0, 1, 0, [], [], []),
  (64, .iload 4, 2, 4, [], [], []),
  (66, .invokevirtual 153, 3, 77, [3, 1], [8], []),
  (69, .goto 5, 3, 74, [], [], []),
  (72, .aload 5, 2, 5, [], [], []),
  (74, .astore 6, 2, 6, [], [], []),
  (76, .aload 5, 2, 5, [], [], []),
  (78, .ifnull 8, 3, 86, [], [], []),
  (81, .aload 6, 2, 6, [], [], []),
  (83, .ifnonnull 4, 3, 87, [], [], []),
  (86, .return_, 1, 0, [], [], []),
  (87, .aload_n 1, 1, 1, [], [], []),
  (88, .getstatic 167, 3, 0, [], [4], []),
  (91, .if_acmp .ne 18, 3, 109, [], [], []),
  (94, .aload 5, 2, 5, [], [], []),
  (96, .iload_n 3, 1, 3, [], [], []),
  (97, .iload 4, 2, 4, [], [], []),
  (99, .aload_n 0, 1, 0, [], [], []),
  (100, .getfield 28, 3, 0, [], [8, 4], []),
  (103, .invokevirtual 129, 3, 48, [0, 3], [5], []),
  (106, .goto 123, 3, 229, [], [], []),
  (109, .aload_n 1, 1, 1, [], [], []),
  (110, .getstatic 173, 3, 0, [], [5], []),
  (113, .if_acmp .ne 13, 3, 126, [], [], []),
  (116, .aload 5, 2, 5, [], [], []),
  (118, .iload_n 3, 1, 3, [], [], []),
  (119, .iconst 1, 1, 0, [], [], []),
  (120, .invokevirtual 183, 3, 52, [0, 2], [5], []),
  (123, .goto 106, 3, 229, [], [], []),
  (126, .aload_n 1, 1, 1, [], [], []),
  (127, .getstatic 186, 3, 0, [], [6], []),
  (130, .if_acmp .ne 18, 3, 148, [], [], []),
  (133, .aload 5, 2, 5, [], [], []),
  (135, .iload_n 3, 1, 3, [], [], []),
  (136, .iload 4, 2, 4, [], [], []),
  (138, .aload_n 0, 1, 0, [], [], []),
  (139, .getfield 28, 3, 0, [], [8, 4], []),
  (142, .invokevirtual 189, 3, 50, [0, 3], [5], []),
  (145, .goto 84, 3, 229, [], [], []),
  (148, .aload_n 1, 1, 1, [], [], []),
  (149, .getstatic 191, 3, 0, [], [7], []),
  (152, .if_acmp .ne 14, 3, 166, [], [], []),
  (155, .aload 5, 2, 5, [], [], []),
  (157, .iload_n 3, 1, 3, [], [], []),
  (158, .iload 4, 2, 4, [], [], []),
  (160, .invokevirtual 183, 3, 52, [0, 2], [5], []),
  (163, .goto 66, 3, 229, [], [], []),
  (166, .aload_n 1, 1, 1, [], [], []),
  (167, .getstatic 157, 3, 0, [], [8], []),
  (170, .if_acmp .ne 23, 3, 193, [], [], []),
  (173, .aload 5, 2, 5, [], [], []),
  (175, .aload 6, 2, 6, [], [], []),
  (177, .iconst 0, 1, 0, [], [], []),
  (178, .aload_n 0, 1, 0, [], [], []),
  (179, .getfield 28, 3, 0, [], [8, 4], []),
  (182, .invokevirtual 194, 3, 53, [0, 3], [5], []),
  (185, .aload 6, 2, 6, [], [], []),
  (187, .invokevirtual 108, 3, 30, [0, 0], [5], []),
  (190, .goto 39, 3, 229, [], [], []),
  (193, .aload_n 1, 1, 1, [], [], []),
  (194, .getstatic 164, 3, 0, [], [9], []),
  (197, .if_acmp .ne 32, 3, 229, [], [], []),
  (200, .aload 6, 2, 6, [], [], []),
  (202, .aload 5, 2, 5, [], [], []),
  (204, .iload_n 3, 1, 3, [], [], []),
  (205, .aload_n 0, 1, 0, [], [], []),
  (206, .getfield 28, 3, 0, [], [8, 4], []),
  (209, .invokevirtual 194, 3, 53, [0, 3], [5], []),
  (212, .aload 5, 2, 5, [], [], []),
  (214, .iload_n 3, 1, 3, [], [], []),
  (215, .aload 5, 2, 5, [], [], []),
  (217, .getfield 43, 3, 0, [], [5, 2], []),
  (220, .iload_n 3, 1, 3, [], [], []),
  (221, .isub, 1, 0, [], [], []),
  (222, .aload_n 0, 1, 0, [], [], []),
  (223, .getfield 28, 3, 0, [], [8, 4], []),
  (226, .invokevirtual 189, 3, 50, [0, 3], [5], []),
  (229, .return_, 1, 0, [], [], [])], [(74, [true, true, false, true, true, true, false])])
def mX9_height : sM := (3, 1, [
  (0, .iconst 0, 1, 0, [], [], []),
  (1, .istore_n 1, 1, 1, [], [], []),
  (2, .iload_n 0, 1, 0, [], [], []),
  (3, .istore_n 2, 1, 2, [], [], []),
  (4, .iload_n 2, 1, 2, [], [], []),
  (5, .iconst 1, 1, 0, [], [], []),
  (6, .if_icmp .le 15, 3, 21, [], [], []),
  (9, .iinc 1 1, 3, 1, [], [], []),
  (12, .iload_n 2, 1, 2, [], [], []),
  (13, .iload_n 2, 1, 2, [], [], []),
  (14, .iconst 2, 1, 0, [], [], []),
  (15, .idiv, 1, 0, [], [], []),
  (16, .isub, 1, 0, [], [], []),
  (17, .istore_n 2, 1, 2, [], [], []),
  (18, .goto (-14), 3, 4, [], [], []),
  (21, .iload_n 1, 1, 1, [], [], []),
  (22, .ireturn, 1, 0, [], [], [])], [(4, [false, true, true])])
def mX9_inner : sM := (1, 1, [
  (0, .iload_n 0, 1, 0, [], [], []),
  (1, .iconst 1, 1, 0, [], [], []),
  (2, .if_icmp .le 9, 3, 11, [], [], []),
  (5, .iload_n 0, 1, 0, [], [], []),
  (6, .iconst 1, 1, 0, [], [], []),
  (7, .isub, 1, 0, [], [], []),
  (8, .goto 4, 3, 12, [], [], []),
  (11, .iconst 0, 1, 0, [], [], []),
  (12, .ireturn, 1, 0, [], [], [])], [])
def mX9_mixed : sM := (1, 1, [
  (0, .iload_n 0, 1, 0, [], [], []),
  (1, .iconst 0, 1, 0, [], [], []),
  (2, .invokestatic 7, 3, 92, [1, 2], [], []),
  (5, .ireturn, 1, 0, [], [], [])], [])
def mX9_triples : sM := (3, 1, [
  (0, .iload_n 0, 1, 0, [], [], []),
  (1, .iconst 3, 1, 0, [], [], []),
  (2, .if_icmp .le 9, 3, 11, [], [], []),
  (5, .iload_n 1, 1, 1, [], [], []),
  (6, .bipush 20, 2, 0, [], [], []),
  (8, .if_icmp .le 14, 3, 22, [], [], []),
  (11, .iload_n 0, 1, 0, [], [], []),
  (12, .iconst 3, 1, 0, [], [], []),
  (13, .if_icmp .ne 7, 3, 20, [], [], []),
  (16, .iconst 1, 1, 0, [], [], []),
  (17, .goto 4, 3, 21, [], [], []),
  (20, .iconst 0, 1, 0, [], [], []),
  (21, .ireturn, 1, 0, [], [], []),
  (22, .iload_n 0, 1, 0, [], [], []),
  (23, .iconst 2, 1, 0, [], [], []),
  (24, .idiv, 1, 0, [], [], []),
  (25, .istore_n 2, 1, 2, [], [], []),
  (26, .iload_n 0, 1, 0, [], [], []),
  (27, .iload_n 2, 1, 2, [], [], []),
  (28, .isub, 1, 0, [], [], []),
  (29, .iload_n 1, 1, 1, [], [], []),
  (30, .iconst 1, 1, 0, [], [], []),
  (31, .iadd, 1, 0, [], [], []),
  (32, .invokestatic 7, 3, 92, [1, 2], [], []),
  (35, .iload_n 2, 1, 2, [], [], []),
  (36, .iload_n 1, 1, 1, [], [], []),
  (37, .iconst 1, 1, 0, [], [], []),
  (38, .iadd, 1, 0, [], [], []),
  (39, .invokestatic 7, 3, 92, [1, 2], [], []),
  (42, .iadd, 1, 0, [], [], []),
  (43, .ireturn, 1, 0, [], [], [])], [])
def mX9_cost : sM := (3, 1, [
  (0, .iconst 5, 1, 0, [], [], []),
  (1, .aload_n 0, 1, 0, [], [], []),
  (2, .getfield 13, 3, 0, [], [5, 3], []),
  (5, .invokestatic 19, 3, 90, [1, 1], [], []),
  (8, .imul, 1, 0, [], [], []),
  (9, .istore_n 1, 1, 1, [], [], []),
  (10, .iconst 0, 1, 0, [], [], []),
  (11, .istore_n 2, 1, 2, [], [], []),
  (12, .iload_n 2, 1, 2, [], [], []),
  (13, .aload_n 0, 1, 0, [], [], []),
  (14, .getfield 13, 3, 0, [], [5, 3], []),
  (17, .if_icmp .ge 26, 3, 43, [], [], []),
  (20, .iload_n 1, 1, 1, [], [], []),
  (21, .aload_n 0, 1, 0, [], [], []),
  (22, .getfield 23, 3, 2, [], [5, 1], []),
  (25, .iload_n 2, 1, 2, [], [], []),
  (26, .iaload, 1, 0, [], [], []),
  (27, .bipush 31, 2, 0, [], [], []),
  (29, .iadd, 1, 0, [], [], []),
  (30, .bipush 32, 2, 0, [], [], []),
  (32, .idiv, 1, 0, [], [], []),
  (33, .iconst 4, 1, 0, [], [], []),
  (34, .iadd, 1, 0, [], [], []),
  (35, .iadd, 1, 0, [], [], []),
  (36, .istore_n 1, 1, 1, [], [], []),
  (37, .iinc 2 1, 3, 2, [], [], []),
  (40, .goto (-28), 3, 12, [], [], []),
  (43, .iload_n 1, 1, 1, [], [], []),
  (44, .ireturn, 1, 0, [], [], [])], [(12, [true, true, true])])
def mX10_withCode : sM := (3, 3, [
  (0, .iconst 0, 1, 0, [], [], []),
  (1, .istore_n 2, 1, 2, [], [], []),
  (2, .iload_n 2, 1, 2, [], [], []),
  (3, .getstatic 117, 3, 0, [], [24], []),
  (6, .arraylength, 1, 0, [], [], []),
  (7, .if_icmp .ge 28, 3, 35, [], [], []),
  (10, .getstatic 117, 3, 0, [], [24], []),
  (13, .iload_n 2, 1, 2, [], [], []),
  (14, .aaload, 1, 0, [], [], []),
  (15, .getfield 106, 3, 1, [], [30, 0], []),
  (18, .lload_n 0, 1, 0, [], [], []),
  (19, .lcmp, 1, 0, [], [], []),
  (20, .ifCond .ne 9, 3, 29, [], [], []),
  (23, .getstatic 117, 3, 0, [], [24], []),
  (26, .iload_n 2, 1, 2, [], [], []),
  (27, .aaload, 1, 0, [], [], []),
  (28, .areturn, 1, 0, [], [], []),
  (29, .iinc 2 1, 3, 2, [], [], []),
  (32, .goto (-30), 3, 2, [], [], []),
  (35, .aconst_null, 1, 0, [], [], []),
  (36, .areturn, 1, 0, [], [], [])], [(2, [true, false, true])])
def mX11_init : sM := (1, 0, [
  (0, .aload_n 0, 1, 0, [], [], []),
  (1, .invokespecial 3, 3, 0, [], [9], []),
  (4, .aload_n 0, 1, 0, [], [], []),
  (5, .sipush 940, 3, 0, [], [], []),
  (8, .newarray .int, 2, 0, [], [20], []),
  (10, .putfield 9, 3, 2, [], [9, 0], []),
  (13, .aload_n 0, 1, 0, [], [], []),
  (14, .new 13, 3, 12, [], [4], []),
  (17, .dup, 1, 0, [], [], []),
  (18, .invokespecial 15, 3, 14, [0], [4], []),
  (21, .putfield 16, 3, 2, [], [9, 2], []),
  (24, .aload_n 0, 1, 0, [], [], []),
  (25, .new 20, 3, 6, [], [8], []),
  (28, .dup, 1, 0, [], [], []),
  (29, .invokespecial 22, 3, 75, [0], [8], []),
  (32, .putfield 23, 3, 2, [], [9, 3], []),
  (35, .aload_n 0, 1, 0, [], [], []),
  (36, .new 20, 3, 6, [], [8], []),
  (39, .dup, 1, 0, [], [], []),
  (40, .invokespecial 22, 3, 75, [0], [8], []),
  (43, .putfield 27, 3, 2, [], [9, 4], []),
  (46, .aload_n 0, 1, 0, [], [], []),
  (47, .new 30, 3, 6, [], [7], []),
  (50, .dup, 1, 0, [], [], []),
  (51, .invokespecial 32, 3, 64, [0], [7], []),
  (54, .putfield 33, 3, 2, [], [9, 5], []),
  (57, .aload_n 0, 1, 0, [], [], []),
  (58, .new 30, 3, 6, [], [7], []),
  (61, .dup, 1, 0, [], [], []),
  (62, .invokespecial 32, 3, 64, [0], [7], []),
  (65, .putfield 37, 3, 2, [], [9, 6], []),
  (68, .aload_n 0, 1, 0, [], [], []),
  (69, .new 40, 3, 6, [], [1], []),
  (72, .dup, 1, 0, [], [], []),
  (73, .invokespecial 42, 3, 0, [0], [1], []),
  (76, .putfield 43, 3, 2, [], [9, 7], []),
  (79, .aload_n 0, 1, 0, [], [], []),
  (80, .new 47, 3, 3, [], [3], []),
  (83, .dup, 1, 0, [], [], []),
  (84, .invokespecial 49, 3, 10, [0], [3], []),
  (87, .putfield 50, 3, 2, [], [9, 8], []),
  (90, .aload_n 0, 1, 0, [], [], []),
  (91, .iconst 2, 1, 0, [], [], []),
  (92, .anewarray 20, 3, 0, [], [25], []),
  (95, .putfield 54, 3, 2, [], [9, 9], []),
  (98, .aload_n 0, 1, 0, [], [], []),
  (99, .iconst 2, 1, 0, [], [], []),
  (100, .anewarray 30, 3, 0, [], [26], []),
  (103, .putfield 58, 3, 2, [], [9, 10], []),
  (106, .aload_n 0, 1, 0, [], [], []),
  (107, .sipush 600, 3, 0, [], [], []),
  (110, .newarray .int, 2, 0, [], [20], []),
  (112, .putfield 62, 3, 2, [], [9, 11], []),
  (115, .aload_n 0, 1, 0, [], [], []),
  (116, .iconst 4, 1, 0, [], [], []),
  (117, .newarray .int, 2, 0, [], [20], []),
  (119, .dup, 1, 0, [], [], []),
  (120, .iconst 0, 1, 0, [], [], []),
  (121, .iconst (-1), 1, 0, [], [], []),
  (122, .iastore, 1, 0, [], [], []),
  (123, .dup, 1, 0, [], [], []),
  (124, .iconst 1, 1, 0, [], [], []),
  (125, .iconst (-1), 1, 0, [], [], []),
  (126, .iastore, 1, 0, [], [], []),
  (127, .dup, 1, 0, [], [], []),
  (128, .iconst 2, 1, 0, [], [], []),
  (129, .iconst (-1), 1, 0, [], [], []),
  (130, .iastore, 1, 0, [], [], []),
  (131, .dup, 1, 0, [], [], []),
  (132, .iconst 3, 1, 0, [], [], []),
  (133, .iconst (-1), 1, 0, [], [], []),
  (134, .iastore, 1, 0, [], [], []),
  (135, .putfield 65, 3, 2, [], [9, 14], []),
  (138, .return_, 1, 0, [], [], [])], [])
def mX11_feed : sM := (6, 1, [
  (0, .aload_n 0, 1, 0, [], [], []),
  (1, .getfield 68, 3, 0, [], [9, 1], []),
  (4, .bipush 20, 2, 0, [], [], []),
  (6, .iadd, 1, 0, [], [], []),
  (7, .sipush 940, 3, 0, [], [], []),
  (10, .if_icmp .le 5, 3, 15, [], [], []),
  (13, .iconst (-1), 1, 0, [], [], []),
  (14, .ireturn, 1, 0, [], [], []),
  (15, .aload_n 0, 1, 0, [], [], []),
  (16, .iload_n 1, 1, 1, [], [], []),
  (17, .invokevirtual 72, 3, 97, [0, 1], [9], []),
  (20, .aload_n 0, 1, 0, [], [], []),
  (21, .iload_n 2, 1, 2, [], [], []),
  (22, .invokevirtual 72, 3, 97, [0, 1], [9], []),
  (25, .aload_n 0, 1, 0, [], [], []),
  (26, .iload_n 3, 1, 3, [], [], []),
  (27, .invokevirtual 72, 3, 97, [0, 1], [9], []),
  (30, .aload_n 0, 1, 0, [], [], []),
  (31, .iload 4, 2, 4, [], [], []),
  (33, .invokevirtual 72, 3, 97, [0, 1], [9], []),
  (36, .aload_n 0, 1, 0, [], [], []),
  (37, .iload 5, 2, 5, [], [], []),
  (39, .invokevirtual 72, 3, 97, [0, 1], [9], []),
  (42, .aload_n 0, 1, 0, [], [], []),
  (43, .getfield 68, 3, 0, [], [9, 1], []),
  (46, .ireturn, 1, 0, [], [], [])], [])
def mX11_feedBytes : sM := (3, 0, [
  (0, .bipush 24, 2, 0, [], [], []),
  (2, .istore_n 2, 1, 2, [], [], []),
  (3, .iload_n 2, 1, 2, [], [], []),
  (4, .ifCond .lt 45, 3, 49, [], [], []),
  (7, .aload_n 0, 1, 0, [], [], []),
  (8, .getfield 68, 3, 0, [], [9, 1], []),
  (11, .sipush 940, 3, 0, [], [], []),
  (14, .if_icmp .ge 35, 3, 49, [], [], []),
  (17, .aload_n 0, 1, 0, [], [], []),
  (18, .getfield 9, 3, 2, [], [9, 0], []),
  (21, .aload_n 0, 1, 0, [], [], []),
  (22, .getfield 68, 3, 0, [], [9, 1], []),
  (25, .iload_n 1, 1, 1, [], [], []),
  (26, .iload_n 2, 1, 2, [], [], []),
  (27, .iushr, 1, 0, [], [], []),
  (28, .sipush 255, 3, 0, [], [], []),
  (31, .iand, 1, 0, [], [], []),
  (32, .iastore, 1, 0, [], [], []),
  (33, .aload_n 0, 1, 0, [], [], []),
  (34, .dup, 1, 0, [], [], []),
  (35, .getfield 68, 3, 0, [], [9, 1], []),
  (38, .iconst 1, 1, 0, [], [], []),
  (39, .iadd, 1, 0, [], [], []),
  (40, .putfield 68, 3, 0, [], [9, 1], []),
  (43, .iinc 2 (-8), 3, 2, [], [], []),
  (46, .goto (-43), 3, 3, [], [], []),
  (49, .return_, 1, 0, [], [], [])], [(3, [true, true, true])])
def mX11_end : sM := (2, 4, [
  (0, .iload_n 1, 1, 1, [], [], []),
  (1, .ifCond .lt 11, 3, 12, [], [], []),
  (4, .iload_n 1, 1, 1, [], [], []),
  (5, .aload_n 0, 1, 0, [], [], []),
  (6, .getfield 68, 3, 0, [], [9, 1], []),
  (9, .if_icmp .le 5, 3, 14, [], [], []),
  (12, .iconst 0, 1, 0, [], [], []),
  (13, .ireturn, 1, 0, [], [], []),
  (14, .aload_n 0, 1, 0, [], [], []),
  (15, .iload_n 1, 1, 1, [], [], []),
  (16, .putfield 68, 3, 0, [], [9, 1], []),
  (19, .iconst 1, 1, 0, [], [], []),
  (20, .ireturn, 1, 0, [], [], [])], [])
def mX11_room : sM := (2, 1, [
  (0, .aload_n 0, 1, 0, [], [], []),
  (1, .getfield 16, 3, 2, [], [9, 2], []),
  (4, .aload_n 0, 1, 0, [], [], []),
  (5, .getfield 9, 3, 2, [], [9, 0], []),
  (8, .aload_n 0, 1, 0, [], [], []),
  (9, .getfield 68, 3, 0, [], [9, 1], []),
  (12, .sipush 900, 3, 0, [], [], []),
  (15, .invokevirtual 76, 3, 15, [0, 3], [4], []),
  (18, .aload_n 0, 1, 0, [], [], []),
  (19, .getfield 27, 3, 2, [], [9, 4], []),
  (22, .aload_n 0, 1, 0, [], [], []),
  (23, .getfield 16, 3, 2, [], [9, 2], []),
  (26, .invokevirtual 80, 3, 80, [1, 1], [8], []),
  (29, .istore_n 1, 1, 1, [], [], []),
  (30, .aload_n 0, 1, 0, [], [], []),
  (31, .invokevirtual 84, 3, 100, [4, 0], [9], []),
  (34, .ifCond .eq 13, 3, 47, [], [], []),
  (37, .iconst (-1), 1, 0, [], [], []),
  (38, .aload_n 0, 1, 0, [], [], []),
  (39, .getfield 16, 3, 2, [], [9, 2], []),
  (42, .getfield 88, 3, 0, [], [4, 11], []),
  (45, .isub, 1, 0, [], [], []),
  (46, .ireturn, 1, 0, [], [], []),
  (47, .aload_n 0, 1, 0, [], [], []),
  (48, .invokevirtual 91, 3, 101, [0, 0], [9], []),
  (51, .aload_n 0, 1, 0, [], [], []),
  (52, .getfield 33, 3, 2, [], [9, 5], []),
  (55, .invokevirtual 94, 3, 65, [0, 0], [7], []),
  (58, .aload_n 0, 1, 0, [], [], []),
  (59, .getfield 50, 3, 2, [], [9, 8], []),
  (62, .invokevirtual 97, 3, 11, [0, 0], [3], []),
  (65, .iload_n 1, 1, 1, [], [], []),
  (66, .ireturn, 1, 0, [], [], [])], [])
def mX11_closesWithFault : sM := (1, 4, [
  (0, .aload_n 0, 1, 0, [], [], []),
  (1, .iconst 0, 1, 0, [], [], []),
  (2, .putfield 68, 3, 0, [], [9, 1], []),
  (5, .aload_n 0, 1, 0, [], [], []),
  (6, .aload_n 0, 1, 0, [], [], []),
  (7, .getfield 16, 3, 2, [], [9, 2], []),
  (10, .getfield 100, 3, 0, [], [4, 10], []),
  (13, .putfield 103, 3, 0, [], [9, 13], []),
  (16, .aload_n 0, 1, 0, [], [], []),
  (17, .getfield 103, 3, 0, [], [9, 13], []),
  (20, .ifCond .eq 7, 3, 27, [], [], []),
  (23, .iconst 1, 1, 0, [], [], []),
  (24, .goto 4, 3, 28, [], [], []),
  (27, .iconst 0, 1, 0, [], [], []),
  (28, .ireturn, 1, 0, [], [], [])], [])
def mX11_swapStates : sM := (2, 0, [
  (0, .aload_n 0, 1, 0, [], [], []),
  (1, .getfield 23, 3, 2, [], [9, 3], []),
  (4, .astore_n 1, 1, 1, [], [], []),
  (5, .aload_n 0, 1, 0, [], [], []),
  (6, .aload_n 0, 1, 0, [], [], []),
  (7, .getfield 27, 3, 2, [], [9, 4], []),
  (10, .putfield 23, 3, 2, [], [9, 3], []),
  (13, .aload_n 0, 1, 0, [], [], []),
  (14, .aload_n 1, 1, 1, [], [], []),
  (15, .putfield 27, 3, 2, [], [9, 4], []),
  (18, .return_, 1, 0, [], [], [])], [])
def mX11_fault : sM := (1, 1, [
  (0, .aload_n 0, 1, 0, [], [], []),
  (1, .getfield 103, 3, 0, [], [9, 13], []),
  (4, .ireturn, 1, 0, [], [], [])], [])
def mX11_size : sM := (3, 1, [
  (0, .aload_n 0, 1, 0, [], [], []),
  (1, .getfield 23, 3, 2, [], [9, 3], []),
  (4, .iload_n 1, 1, 1, [], [], []),
  (5, .invokevirtual 106, 3, 77, [3, 1], [8], []),
  (8, .astore_n 2, 1, 2, [], [], []),
  (9, .aload_n 2, 1, 2, [], [], []),
  (10, .ifnonnull 7, 3, 17, [], [], []),
  (13, .iconst (-1), 1, 0, [], [], []),
  (14, .goto 7, 3, 21, [], [], []),
  (17, .aload_n 2, 1, 2, [], [], []),
  (18, .getfield 110, 3, 0, [], [5, 2], []),
  (21, .ireturn, 1, 0, [], [], [])], [])
def mX11_bit : sM := (4, 1, [
  (0, .aload_n 0, 1, 0, [], [], []),
  (1, .getfield 23, 3, 2, [], [9, 3], []),
  (4, .iload_n 1, 1, 1, [], [], []),
  (5, .invokevirtual 106, 3, 77, [3, 1], [8], []),
  (8, .astore_n 3, 1, 3, [], [], []),
  (9, .aload_n 3, 1, 3, [], [], []),
  (10, .ifnonnull 7, 3, 17, [], [], []),
  (13, .iconst (-1), 1, 0, [], [], []),
  (14, .goto 8, 3, 22, [], [], []),
  (17, .aload_n 3, 1, 3, [], [], []),
  (18, .iload_n 2, 1, 2, [], [], []),
  (19, .invokevirtual 115, 3, 34, [1, 1], [5], []),
  (22, .ireturn, 1, 0, [], [], [])], [])
def mX11_rank : sM := (5, 1, [
  (0, .aload_n 0, 1, 0, [], [], []),
  (1, .getfield 23, 3, 2, [], [9, 3], []),
  (4, .iload_n 1, 1, 1, [], [], []),
  (5, .invokevirtual 106, 3, 77, [3, 1], [8], []),
  (8, .astore 4, 2, 4, [], [], []),
  (10, .aload 4, 2, 4, [], [], []),
  (12, .ifnull 19, 3, 31, [], [], []),
  (15, .iload_n 3, 1, 3, [], [], []),
  (16, .invokestatic 119, 3, 106, [4, 1], [], []),
  (19, .ifCond .eq 12, 3, 31, [], [], []),
  (22, .aload 4, 2, 4, [], [], []),
  (24, .iload_n 2, 1, 2, [], [], []),
  (25, .invokevirtual 123, 3, 32, [4, 1], [5], []),
  (28, .ifCond .ne 5, 3, 33, [], [], []),
  (31, .iconst (-1), 1, 0, [], [], []),
  (32, .ireturn, 1, 0, [], [], []),
  (33, .aload 4, 2, 4, [], [], []),
  (35, .iconst 0, 1, 0, [], [], []),
  (36, .iload_n 2, 1, 2, [], [], []),
  (37, .iload_n 3, 1, 3, [], [], []),
  (38, .invokevirtual 126, 3, 35, [1, 3], [5], []),
  (41, .ireturn, 1, 0, [], [], [])], [])
def mX11_isBit : sM := (1, 4, [
  (0, .iload_n 0, 1, 0, [], [], []),
  (1, .ifCond .eq 8, 3, 9, [], [], []),
  (4, .iload_n 0, 1, 0, [], [], []),
  (5, .iconst 1, 1, 0, [], [], []),
  (6, .if_icmp .ne 7, 3, 13, [], [], []),
  (9, .iconst 1, 1, 0, [], [], []),
  (10, .goto 4, 3, 14, [], [], []),
  (13, .iconst 0, 1, 0, [], [], []),
  (14, .ireturn, 1, 0, [], [], [])], [])
def mX11_select : sM := (5, 1, [
  (0, .aload_n 0, 1, 0, [], [], []),
  (1, .getfield 23, 3, 2, [], [9, 3], []),
  (4, .iload_n 1, 1, 1, [], [], []),
  (5, .invokevirtual 106, 3, 77, [3, 1], [8], []),
  (8, .astore 4, 2, 4, [], [], []),
  (10, .aload 4, 2, 4, [], [], []),
  (12, .ifnull 14, 3, 26, [], [], []),
  (15, .iload_n 3, 1, 3, [], [], []),
  (16, .invokestatic 119, 3, 106, [4, 1], [], []),
  (19, .ifCond .eq 7, 3, 26, [], [], []),
  (22, .iload_n 2, 1, 2, [], [], []),
  (23, .ifCond .ge 5, 3, 28, [], [], []),
  (26, .iconst (-1), 1, 0, [], [], []),
  (27, .ireturn, 1, 0, [], [], []),
  (28, .aload 4, 2, 4, [], [], []),
  (30, .iload_n 2, 1, 2, [], [], []),
  (31, .iload_n 3, 1, 3, [], [], []),
  (32, .invokevirtual 130, 3, 36, [1, 2], [5], []),
  (35, .ireturn, 1, 0, [], [], [])], [])
def mX11_find : sM := (5, 1, [
  (0, .aload_n 0, 1, 0, [], [], []),
  (1, .getfield 23, 3, 2, [], [9, 3], []),
  (4, .iload_n 1, 1, 1, [], [], []),
  (5, .invokevirtual 106, 3, 77, [3, 1], [8], []),
  (8, .astore 4, 2, 4, [], [], []),
  (10, .aload 4, 2, 4, [], [], []),
  (12, .ifnull 14, 3, 26, [], [], []),
  (15, .iload_n 3, 1, 3, [], [], []),
  (16, .invokestatic 119, 3, 106, [4, 1], [], []),
  (19, .ifCond .eq 7, 3, 26, [], [], []),
  (22, .iload_n 2, 1, 2, [], [], []),
  (23, .ifCond .ge 5, 3, 28, [], [], []),
  (26, .iconst (-1), 1, 0, [], [], []),
  (27, .ireturn, 1, 0, [], [], []),
  (28, .aload 4, 2, 4, [], [], []),
  (30, .iload_n 2, 1, 2, [], [], []),
  (31, .iload_n 3, 1, 3, [], [], []),
  (32, .invokevirtual 134, 3, 37, [1, 2], [5], []),
  (35, .ireturn, 1, 0, [], [], [])], [])
def mX11_runs : sM := (3, 1, [
  (0, .aload_n 0, 1, 0, [], [], []),
  (1, .getfield 23, 3, 2, [], [9, 3], []),
  (4, .iload_n 1, 1, 1, [], [], []),
  (5, .invokevirtual 106, 3, 77, [3, 1], [8], []),
  (8, .astore_n 2, 1, 2, [], [], []),
  (9, .aload_n 2, 1, 2, [], [], []),
  (10, .ifnonnull 7, 3, 17, [], [], []),
  (13, .iconst (-1), 1, 0, [], [], []),
  (14, .goto 7, 3, 21, [], [], []),
  (17, .aload_n 2, 1, 2, [], [], []),
  (18, .invokevirtual 137, 3, 38, [1, 0], [5], []),
  (21, .ireturn, 1, 0, [], [], [])], [])
def mX11_longest : sM := (4, 1, [
  (0, .aload_n 0, 1, 0, [], [], []),
  (1, .getfield 23, 3, 2, [], [9, 3], []),
  (4, .iload_n 1, 1, 1, [], [], []),
  (5, .invokevirtual 106, 3, 77, [3, 1], [8], []),
  (8, .astore_n 3, 1, 3, [], [], []),
  (9, .aload_n 3, 1, 3, [], [], []),
  (10, .ifnull 10, 3, 20, [], [], []),
  (13, .iload_n 2, 1, 2, [], [], []),
  (14, .invokestatic 119, 3, 106, [4, 1], [], []),
  (17, .ifCond .ne 5, 3, 22, [], [], []),
  (20, .iconst (-1), 1, 0, [], [], []),
  (21, .ireturn, 1, 0, [], [], []),
  (22, .aload_n 3, 1, 3, [], [], []),
  (23, .iload_n 2, 1, 2, [], [], []),
  (24, .invokevirtual 141, 3, 39, [1, 1], [5], []),
  (27, .ireturn, 1, 0, [], [], [])], [])
def mX11_word : sM := (4, 1, [
  (0, .aload_n 0, 1, 0, [], [], []),
  (1, .getfield 23, 3, 2, [], [9, 3], []),
  (4, .iload_n 1, 1, 1, [], [], []),
  (5, .invokevirtual 106, 3, 77, [3, 1], [8], []),
  (8, .astore_n 3, 1, 3, [], [], []),
  (9, .aload_n 3, 1, 3, [], [], []),
  (10, .ifnull 11, 3, 21, [], [], []),
  (13, .aload_n 3, 1, 3, [], [], []),
  (14, .iload_n 2, 1, 2, [], [], []),
  (15, .invokevirtual 123, 3, 32, [4, 1], [5], []),
  (18, .ifCond .ne 13, 3, 31, [], [], []),
  (21, .new 144, 3, 6, [], [], []),
  (24, .dup, 1, 0, [], [], []),
  (31, .aload_n 3, 1, 3, [], [], []),
  (32, .iload_n 2, 1, 2, [], [], []),
  (33, .invokevirtual 151, 3, 40, [1, 1], [5], []),
  (36, .ireturn, 1, 0, [], [], [])], [])
def mX11_leaves : sM := (3, 1, [
  (0, .aload_n 0, 1, 0, [], [], []),
  (1, .getfield 23, 3, 2, [], [9, 3], []),
  (4, .iload_n 1, 1, 1, [], [], []),
  (5, .invokevirtual 106, 3, 77, [3, 1], [8], []),
  (8, .astore_n 2, 1, 2, [], [], []),
  (9, .aload_n 2, 1, 2, [], [], []),
  (10, .ifnonnull 7, 3, 17, [], [], []),
  (13, .iconst (-1), 1, 0, [], [], []),
  (14, .goto 7, 3, 21, [], [], []),
  (17, .aload_n 2, 1, 2, [], [], []),
  (18, .getfield 154, 3, 0, [], [5, 3], []),
  (21, .ireturn, 1, 0, [], [], [])], [])
def mX11_leaf : sM := (5, 1, [
  (0, .aload_n 0, 1, 0, [], [], []),
  (1, .getfield 23, 3, 2, [], [9, 3], []),
  (4, .iload_n 1, 1, 1, [], [], []),
  (5, .invokevirtual 106, 3, 77, [3, 1], [8], []),
  (8, .astore 4, 2, 4, [], [], []),
  (10, .aload 4, 2, 4, [], [], []),
  (12, .ifnull 23, 3, 35, [], [], []),
  (15, .iload_n 2, 1, 2, [], [], []),
  (16, .ifCond .lt 19, 3, 35, [], [], []),
  (19, .iload_n 2, 1, 2, [], [], []),
  (20, .aload 4, 2, 4, [], [], []),
  (22, .getfield 154, 3, 0, [], [5, 3], []),
  (25, .if_icmp .ge 10, 3, 35, [], [], []),
  (28, .iload_n 2, 1, 2, [], [], []),
  (29, .sipush 152, 3, 0, [], [], []),
  (32, .if_icmp .lt 5, 3, 37, [], [], []),
  (35, .iconst (-1), 1, 0, [], [], []),
  (36, .ireturn, 1, 0, [], [], []),
  (37, .iload_n 3, 1, 3, [], [], []),
  (38, .tableswitch 61 0 2 #[26, 34, 54], 26, 99, [], [], [(0, 64), (1, 72), (2, 92)]),
  (64, .aload 4, 2, 4, [], [], []),
  (66, .getfield 157, 3, 2, [], [5, 1], []),
  (69, .iload_n 2, 1, 2, [], [], []),
  (70, .iaload, 1, 0, [], [], []),
  (71, .ireturn, 1, 0, [], [], []),
  (72, .aload 4, 2, 4, [], [], []),
  (74, .aload 4, 2, 4, [], [], []),
  (76, .iload_n 2, 1, 2, [], [], []),
  (77, .invokevirtual 160, 3, 46, [1, 1], [5], []),
  (80, .aload 4, 2, 4, [], [], []),
  (82, .getfield 157, 3, 2, [], [5, 1], []),
  (85, .iload_n 2, 1, 2, [], [], []),
  (86, .iaload, 1, 0, [], [], []),
  (87, .iconst 1, 1, 0, [], [], []),
  (88, .invokevirtual 126, 3, 35, [1, 3], [5], []),
  (91, .ireturn, 1, 0, [], [], []),
  (92, .aload 4, 2, 4, [], [], []),
  (94, .iload_n 2, 1, 2, [], [], []),
  (95, .invokevirtual 160, 3, 46, [1, 1], [5], []),
  (98, .ireturn, 1, 0, [], [], []),
  (99, .iconst (-1), 1, 0, [], [], []),
  (100, .ireturn, 1, 0, [], [], [])], [])
def mX11_tree : sM := (4, 1, [
  (0, .aload_n 0, 1, 0, [], [], []),
  (1, .getfield 23, 3, 2, [], [9, 3], []),
  (4, .iload_n 1, 1, 1, [], [], []),
  (5, .invokevirtual 106, 3, 77, [3, 1], [8], []),
  (8, .astore_n 3, 1, 3, [], [], []),
  (9, .aload_n 3, 1, 3, [], [], []),
  (10, .ifnonnull 5, 3, 15, [], [], []),
  (13, .iconst (-1), 1, 0, [], [], []),
  (14, .ireturn, 1, 0, [], [], []),
  (15, .iload_n 2, 1, 2, [], [], []),
  (16, .tableswitch 61 0 3 #[32, 40, 48, 56], 32, 77, [], [], [(0, 48), (1, 56), (2, 64), (3, 72)]),
  (48, .aload_n 3, 1, 3, [], [], []),
  (49, .getfield 154, 3, 0, [], [5, 3], []),
  (52, .invokestatic 163, 3, 89, [1, 1], [], []),
  (55, .ireturn, 1, 0, [], [], []),
  (56, .aload_n 3, 1, 3, [], [], []),
  (57, .getfield 154, 3, 0, [], [5, 3], []),
  (60, .invokestatic 168, 3, 90, [1, 1], [], []),
  (63, .ireturn, 1, 0, [], [], []),
  (64, .aload_n 3, 1, 3, [], [], []),
  (65, .getfield 154, 3, 0, [], [5, 3], []),
  (68, .invokestatic 171, 3, 91, [1, 1], [], []),
  (71, .ireturn, 1, 0, [], [], []),
  (72, .aload_n 3, 1, 3, [], [], []),
  (73, .invokestatic 174, 3, 93, [1, 1], [], []),
  (76, .ireturn, 1, 0, [], [], []),
  (77, .iconst (-1), 1, 0, [], [], []),
  (78, .ireturn, 1, 0, [], [], [])], [])
def mX11_dense : sM := (5, 1, [
  (0, .aload_n 0, 1, 0, [], [], []),
  (1, .getfield 23, 3, 2, [], [9, 3], []),
  (4, .iload_n 1, 1, 1, [], [], []),
  (5, .invokevirtual 106, 3, 77, [3, 1], [8], []),
  (8, .astore 4, 2, 4, [], [], []),
  (10, .aload 4, 2, 4, [], [], []),
  (12, .ifnull 18, 3, 30, [], [], []),
  (15, .iload_n 3, 1, 3, [], [], []),
  (16, .iconst 1, 1, 0, [], [], []),
  (17, .if_icmp .lt 13, 3, 30, [], [], []),
  (20, .aload 4, 2, 4, [], [], []),
  (22, .iload_n 2, 1, 2, [], [], []),
  (23, .iload_n 3, 1, 3, [], [], []),
  (24, .invokevirtual 178, 3, 33, [4, 2], [5], []),
  (27, .ifCond .ne 13, 3, 40, [], [], []),
  (30, .new 144, 3, 6, [], [], []),
  (33, .dup, 1, 0, [], [], []),
  (40, .aload 4, 2, 4, [], [], []),
  (42, .iload_n 2, 1, 2, [], [], []),
  (43, .iload_n 3, 1, 3, [], [], []),
  (44, .iconst 1, 1, 0, [], [], []),
  (45, .invokevirtual 126, 3, 35, [1, 3], [5], []),
  (48, .i2l, 1, 0, [], [], []),
  (49, .iload_n 3, 1, 3, [], [], []),
  (50, .i2l, 1, 0, [], [], []),
  (51, .bipush 24, 2, 0, [], [], []),
  (53, .bipush 127, 2, 0, [], [], []),
  (55, .invokestatic 184, 3, 9, [2, 4], [], []),
  (58, .l2i, 1, 0, [], [], []),
  (59, .ireturn, 1, 0, [], [], [])], [])
def mX11_load : sM := (3, 1, [
  (0, .aload_n 0, 1, 0, [], [], []),
  (1, .getfield 23, 3, 2, [], [9, 3], []),
  (4, .iload_n 1, 1, 1, [], [], []),
  (5, .invokevirtual 106, 3, 77, [3, 1], [8], []),
  (8, .astore_n 2, 1, 2, [], [], []),
  (9, .aload_n 2, 1, 2, [], [], []),
  (10, .ifnull 10, 3, 20, [], [], []),
  (13, .aload_n 2, 1, 2, [], [], []),
  (14, .getfield 110, 3, 0, [], [5, 2], []),
  (17, .ifCond .ne 13, 3, 30, [], [], []),
  (20, .new 144, 3, 6, [], [], []),
  (23, .dup, 1, 0, [], [], []),
  (30, .bipush 32, 2, 0, [], [], []),
  (32, .aload_n 2, 1, 2, [], [], []),
  (33, .invokestatic 174, 3, 93, [1, 1], [], []),
  (36, .imul, 1, 0, [], [], []),
  (37, .i2l, 1, 0, [], [], []),
  (38, .aload_n 2, 1, 2, [], [], []),
  (39, .getfield 110, 3, 0, [], [5, 2], []),
  (42, .i2l, 1, 0, [], [], []),
  (43, .bipush 24, 2, 0, [], [], []),
  (45, .bipush 127, 2, 0, [], [], []),
  (47, .invokestatic 184, 3, 9, [2, 4], [], []),
  (50, .l2i, 1, 0, [], [], []),
  (51, .ireturn, 1, 0, [], [], [])], [])
def mX11_centre : sM := (7, 1, [
  (0, .aload_n 0, 1, 0, [], [], []),
  (1, .getfield 23, 3, 2, [], [9, 3], []),
  (4, .iload_n 1, 1, 1, [], [], []),
  (5, .invokevirtual 106, 3, 77, [3, 1], [8], []),
  (8, .astore_n 3, 1, 3, [], [], []),
  (9, .aload_n 3, 1, 3, [], [], []),
  (10, .ifnonnull 7, 3, 17, [], [], []),
  (13, .iconst 0, 1, 0, [], [], []),
  (14, .goto 13, 3, 27, [], [], []),
  (17, .aload_n 3, 1, 3, [], [], []),
  (18, .iconst 0, 1, 0, [], [], []),
  (19, .aload_n 3, 1, 3, [], [], []),
  (20, .getfield 110, 3, 0, [], [5, 2], []),
  (23, .iconst 1, 1, 0, [], [], []),
  (24, .invokevirtual 126, 3, 35, [1, 3], [5], []),
  (27, .istore 4, 2, 4, [], [], []),
  (29, .aload_n 3, 1, 3, [], [], []),
  (30, .ifnull 15, 3, 45, [], [], []),
  (33, .iload 4, 2, 4, [], [], []),
  (35, .ifCond .eq 10, 3, 45, [], [], []),
  (38, .iload_n 2, 1, 2, [], [], []),
  (39, .invokestatic 119, 3, 106, [4, 1], [], []),
  (42, .ifCond .ne 13, 3, 55, [], [], []),
  (45, .new 144, 3, 6, [], [], []),
  (48, .dup, 1, 0, [], [], []),
  (55, .aload_n 3, 1, 3, [], [], []),
  (56, .invokevirtual 194, 3, 41, [1, 0], [5], []),
  (59, .i2l, 1, 0, [], [], []),
  (60, .iload 4, 2, 4, [], [], []),
  (62, .i2l, 1, 0, [], [], []),
  (63, .bipush 53, 2, 0, [], [], []),
  (65, .sipush 1023, 3, 0, [], [], []),
  (68, .invokestatic 184, 3, 9, [2, 4], [], []),
  (71, .lstore 5, 2, 5, [], [], []),
  (73, .iload_n 2, 1, 2, [], [], []),
  (74, .ifCond .ne 12, 3, 86, [], [], []),
  (77, .lload 5, 2, 5, [], [], []),
  (79, .bipush 32, 2, 0, [], [], []),
  (81, .lushr, 1, 0, [], [], []),
  (82, .l2i, 1, 0, [], [], []),
  (83, .goto 6, 3, 89, [], [], []),
  (86, .lload 5, 2, 5, [], [], []),
  (88, .l2i, 1, 0, [], [], []),
  (89, .ireturn, 1, 0, [], [], [])], [])
def mX11_apart : sM := (5, 1, [
  (0, .aload_n 0, 1, 0, [], [], []),
  (1, .getfield 23, 3, 2, [], [9, 3], []),
  (4, .iload_n 1, 1, 1, [], [], []),
  (5, .invokevirtual 106, 3, 77, [3, 1], [8], []),
  (8, .astore_n 3, 1, 3, [], [], []),
  (9, .aload_n 0, 1, 0, [], [], []),
  (10, .getfield 23, 3, 2, [], [9, 3], []),
  (13, .iload_n 2, 1, 2, [], [], []),
  (14, .invokevirtual 106, 3, 77, [3, 1], [8], []),
  (17, .astore 4, 2, 4, [], [], []),
  (19, .aload_n 3, 1, 3, [], [], []),
  (20, .ifnull 8, 3, 28, [], [], []),
  (23, .aload 4, 2, 4, [], [], []),
  (25, .ifnonnull 7, 3, 32, [], [], []),
  (28, .iconst (-1), 1, 0, [], [], []),
  (29, .goto 9, 3, 38, [], [], []),
  (32, .aload_n 3, 1, 3, [], [], []),
  (33, .aload 4, 2, 4, [], [], []),
  (35, .invokevirtual 197, 3, 42, [1, 1], [5], []),
  (38, .ireturn, 1, 0, [], [], [])], [])
def mX11_differ : sM := (5, 1, [
  (0, .aload_n 0, 1, 0, [], [], []),
  (1, .getfield 23, 3, 2, [], [9, 3], []),
  (4, .iload_n 1, 1, 1, [], [], []),
  (5, .invokevirtual 106, 3, 77, [3, 1], [8], []),
  (8, .astore_n 3, 1, 3, [], [], []),
  (9, .aload_n 0, 1, 0, [], [], []),
  (10, .getfield 23, 3, 2, [], [9, 3], []),
  (13, .iload_n 2, 1, 2, [], [], []),
  (14, .invokevirtual 106, 3, 77, [3, 1], [8], []),
  (17, .astore 4, 2, 4, [], [], []),
  (19, .aload_n 3, 1, 3, [], [], []),
  (20, .ifnull 8, 3, 28, [], [], []),
  (23, .aload 4, 2, 4, [], [], []),
  (25, .ifnonnull 7, 3, 32, [], [], []),
  (28, .iconst (-1), 1, 0, [], [], []),
  (29, .goto 9, 3, 38, [], [], []),
  (32, .aload_n 3, 1, 3, [], [], []),
  (33, .aload 4, 2, 4, [], [], []),
  (35, .invokevirtual 200, 3, 43, [1, 1], [5], []),
  (38, .ireturn, 1, 0, [], [], [])], [])
def mX11_seek : sM := (5, 1, [
  (0, .aload_n 0, 1, 0, [], [], []),
  (1, .bipush 32, 2, 0, [], [], []),
  (3, .invokevirtual 203, 3, 121, [1, 1], [9], []),
  (6, .istore_n 2, 1, 2, [], [], []),
  (7, .aload_n 0, 1, 0, [], [], []),
  (8, .getfield 23, 3, 2, [], [9, 3], []),
  (11, .iload_n 1, 1, 1, [], [], []),
  (12, .invokevirtual 106, 3, 77, [3, 1], [8], []),
  (15, .astore_n 3, 1, 3, [], [], []),
  (16, .aload_n 3, 1, 3, [], [], []),
  (17, .ifnull 8, 3, 25, [], [], []),
  (20, .iload_n 2, 1, 2, [], [], []),
  (21, .iconst (-1), 1, 0, [], [], []),
  (22, .if_icmp .ne 5, 3, 27, [], [], []),
  (25, .iconst (-1), 1, 0, [], [], []),
  (26, .ireturn, 1, 0, [], [], []),
  (27, .aload_n 0, 1, 0, [], [], []),
  (28, .iconst 0, 1, 0, [], [], []),
  (29, .putfield 206, 3, 0, [], [9, 12], []),
  (32, .iconst 0, 1, 0, [], [], []),
  (33, .istore 4, 2, 4, [], [], []),
  (35, .iload 4, 2, 4, [], [], []),
  (37, .iload_n 2, 1, 2, [], [], []),
  (38, .iadd, 1, 0, [], [], []),
  (39, .aload_n 3, 1, 3, [], [], []),
  (40, .getfield 110, 3, 0, [], [5, 2], []),
  (43, .if_icmp .gt 44, 3, 87, [], [], []),
  (46, .aload_n 3, 1, 3, [], [], []),
  (47, .iload 4, 2, 4, [], [], []),
  (49, .aload_n 0, 1, 0, [], [], []),
  (50, .getfield 9, 3, 2, [], [9, 0], []),
  (53, .iload_n 2, 1, 2, [], [], []),
  (54, .invokevirtual 209, 3, 45, [4, 3], [5], []),
  (57, .ifCond .eq 24, 3, 81, [], [], []),
  (60, .aload_n 0, 1, 0, [], [], []),
  (61, .getfield 62, 3, 2, [], [9, 11], []),
  (64, .aload_n 0, 1, 0, [], [], []),
  (65, .getfield 206, 3, 0, [], [9, 12], []),
  (68, .iload 4, 2, 4, [], [], []),
  (70, .iastore, 1, 0, [], [], []),
  (71, .aload_n 0, 1, 0, [], [], []),
  (72, .dup, 1, 0, [], [], []),
  (73, .getfield 206, 3, 0, [], [9, 12], []),
  (76, .iconst 1, 1, 0, [], [], []),
  (77, .iadd, 1, 0, [], [], []),
  (78, .putfield 206, 3, 0, [], [9, 12], []),
  (81, .iinc 4 1, 3, 4, [], [], []),
  (84, .goto (-49), 3, 35, [], [], []),
  (87, .aload_n 0, 1, 0, [], [], []),
  (88, .getfield 206, 3, 0, [], [9, 12], []),
  (91, .ireturn, 1, 0, [], [], [])], [(35, [true, false, true, true, true])])
def mX11_takeBitsOfTape : sM := (4, 1, [
  (0, .aload_n 0, 1, 0, [], [], []),
  (1, .getfield 68, 3, 0, [], [9, 1], []),
  (4, .istore_n 2, 1, 2, [], [], []),
  (5, .aload_n 0, 1, 0, [], [], []),
  (6, .iconst 0, 1, 0, [], [], []),
  (7, .putfield 68, 3, 0, [], [9, 1], []),
  (10, .iload_n 2, 1, 2, [], [], []),
  (11, .iconst 1, 1, 0, [], [], []),
  (12, .if_icmp .lt 8, 3, 20, [], [], []),
  (15, .iload_n 2, 1, 2, [], [], []),
  (16, .iload_n 1, 1, 1, [], [], []),
  (17, .if_icmp .le 5, 3, 22, [], [], []),
  (20, .iconst (-1), 1, 0, [], [], []),
  (21, .ireturn, 1, 0, [], [], []),
  (22, .iconst 0, 1, 0, [], [], []),
  (23, .istore_n 3, 1, 3, [], [], []),
  (24, .iload_n 3, 1, 3, [], [], []),
  (25, .iload_n 2, 1, 2, [], [], []),
  (26, .if_icmp .ge 23, 3, 49, [], [], []),
  (29, .aload_n 0, 1, 0, [], [], []),
  (30, .getfield 9, 3, 2, [], [9, 0], []),
  (33, .iload_n 3, 1, 3, [], [], []),
  (34, .iaload, 1, 0, [], [], []),
  (35, .invokestatic 119, 3, 106, [4, 1], [], []),
  (38, .ifCond .ne 5, 3, 43, [], [], []),
  (41, .iconst (-1), 1, 0, [], [], []),
  (42, .ireturn, 1, 0, [], [], []),
  (43, .iinc 3 1, 3, 3, [], [], []),
  (46, .goto (-22), 3, 24, [], [], []),
  (49, .iload_n 2, 1, 2, [], [], []),
  (50, .ireturn, 1, 0, [], [], [])], [(24, [true, false, true, true])])
def mX11_seekAt : sM := (2, 1, [
  (0, .iload_n 1, 1, 1, [], [], []),
  (1, .ifCond .lt 18, 3, 19, [], [], []),
  (4, .iload_n 1, 1, 1, [], [], []),
  (5, .aload_n 0, 1, 0, [], [], []),
  (6, .getfield 206, 3, 0, [], [9, 12], []),
  (9, .if_icmp .ge 10, 3, 19, [], [], []),
  (12, .iload_n 1, 1, 1, [], [], []),
  (13, .sipush 600, 3, 0, [], [], []),
  (16, .if_icmp .lt 7, 3, 23, [], [], []),
  (19, .iconst (-1), 1, 0, [], [], []),
  (20, .goto 9, 3, 29, [], [], []),
  (23, .aload_n 0, 1, 0, [], [], []),
  (24, .getfield 62, 3, 2, [], [9, 11], []),
  (27, .iload_n 1, 1, 1, [], [], []),
  (28, .iaload, 1, 0, [], [], []),
  (29, .ireturn, 1, 0, [], [], [])], [])
def mX11_put : sM := (4, 1, [
  (0, .aload_n 0, 1, 0, [], [], []),
  (1, .getfield 23, 3, 2, [], [9, 3], []),
  (4, .iload_n 1, 1, 1, [], [], []),
  (5, .invokevirtual 106, 3, 77, [3, 1], [8], []),
  (8, .ifnull 10, 3, 18, [], [], []),
  (11, .iload_n 3, 1, 3, [], [], []),
  (12, .invokestatic 119, 3, 106, [4, 1], [], []),
  (15, .ifCond .ne 5, 3, 20, [], [], []),
  (18, .iconst (-1), 1, 0, [], [], []),
  (19, .ireturn, 1, 0, [], [], []),
  (20, .aload_n 0, 1, 0, [], [], []),
  (21, .getstatic 213, 3, 0, [], [4], []),
  (24, .iload_n 1, 1, 1, [], [], []),
  (25, .iload_n 2, 1, 2, [], [], []),
  (26, .iload_n 3, 1, 3, [], [], []),
  (27, .invokevirtual 219, 3, 124, [1, 4], [9], []),
  (30, .ireturn, 1, 0, [], [], [])], [])
def mX11_does : sM := (6, 1, [
  (0, .aload_n 0, 1, 0, [], [], []),
  (1, .getfield 23, 3, 2, [], [9, 3], []),
  (4, .aload_n 1, 1, 1, [], [], []),
  (5, .iload_n 2, 1, 2, [], [], []),
  (6, .iload_n 3, 1, 3, [], [], []),
  (7, .iload 4, 2, 4, [], [], []),
  (9, .invokevirtual 223, 3, 86, [1, 4], [8], []),
  (12, .istore 5, 2, 5, [], [], []),
  (14, .iload 5, 2, 5, [], [], []),
  (16, .ifCond .ne 26, 3, 42, [], [], []),
  (19, .aload_n 0, 1, 0, [], [], []),
  (20, .getfield 50, 3, 2, [], [9, 8], []),
  (23, .aload_n 0, 1, 0, [], [], []),
  (24, .getfield 23, 3, 2, [], [9, 3], []),
  (27, .invokevirtual 226, 3, 12, [0, 1], [3], []),
  (30, .aload_n 0, 1, 0, [], [], []),
  (31, .getfield 23, 3, 2, [], [9, 3], []),
  (34, .aload_n 1, 1, 1, [], [], []),
  (35, .iload_n 2, 1, 2, [], [], []),
  (36, .iload_n 3, 1, 3, [], [], []),
  (37, .iload 4, 2, 4, [], [], []),
  (39, .invokevirtual 230, 3, 88, [0, 4], [8], []),
  (42, .iload 5, 2, 5, [], [], []),
  (44, .ireturn, 1, 0, [], [], [])], [])
def mX11_set : sM := (4, 1, [
  (0, .aload_n 0, 1, 0, [], [], []),
  (1, .getfield 23, 3, 2, [], [9, 3], []),
  (4, .iload_n 1, 1, 1, [], [], []),
  (5, .invokevirtual 106, 3, 77, [3, 1], [8], []),
  (8, .ifnull 10, 3, 18, [], [], []),
  (11, .iload_n 3, 1, 3, [], [], []),
  (12, .invokestatic 119, 3, 106, [4, 1], [], []),
  (15, .ifCond .ne 5, 3, 20, [], [], []),
  (18, .iconst (-1), 1, 0, [], [], []),
  (19, .ireturn, 1, 0, [], [], []),
  (20, .aload_n 0, 1, 0, [], [], []),
  (21, .getstatic 234, 3, 0, [], [5], []),
  (24, .iload_n 1, 1, 1, [], [], []),
  (25, .iload_n 2, 1, 2, [], [], []),
  (26, .iload_n 3, 1, 3, [], [], []),
  (27, .invokevirtual 219, 3, 124, [1, 4], [9], []),
  (30, .ireturn, 1, 0, [], [], [])], [])
def mX11_cut : sM := (4, 1, [
  (0, .aload_n 0, 1, 0, [], [], []),
  (1, .getfield 23, 3, 2, [], [9, 3], []),
  (4, .iload_n 1, 1, 1, [], [], []),
  (5, .invokevirtual 106, 3, 77, [3, 1], [8], []),
  (8, .ifnull 15, 3, 23, [], [], []),
  (11, .iload_n 3, 1, 3, [], [], []),
  (12, .iconst 1, 1, 0, [], [], []),
  (13, .if_icmp .lt 10, 3, 23, [], [], []),
  (16, .iload_n 3, 1, 3, [], [], []),
  (17, .sipush 600, 3, 0, [], [], []),
  (20, .if_icmp .le 5, 3, 25, [], [], []),
  (23, .iconst (-1), 1, 0, [], [], []),
  (24, .ireturn, 1, 0, [], [], []),
  (25, .aload_n 0, 1, 0, [], [], []),
  (26, .getstatic 237, 3, 0, [], [6], []),
  (29, .iload_n 1, 1, 1, [], [], []),
  (30, .iload_n 2, 1, 2, [], [], []),
  (31, .iload_n 3, 1, 3, [], [], []),
  (32, .invokevirtual 219, 3, 124, [1, 4], [9], []),
  (35, .ireturn, 1, 0, [], [], [])], [])
def mX11_turn : sM := (4, 1, [
  (0, .aload_n 0, 1, 0, [], [], []),
  (1, .getfield 23, 3, 2, [], [9, 3], []),
  (4, .iload_n 1, 1, 1, [], [], []),
  (5, .invokevirtual 106, 3, 77, [3, 1], [8], []),
  (8, .ifnull 15, 3, 23, [], [], []),
  (11, .iload_n 3, 1, 3, [], [], []),
  (12, .iconst 1, 1, 0, [], [], []),
  (13, .if_icmp .lt 10, 3, 23, [], [], []),
  (16, .iload_n 3, 1, 3, [], [], []),
  (17, .sipush 600, 3, 0, [], [], []),
  (20, .if_icmp .le 5, 3, 25, [], [], []),
  (23, .iconst (-1), 1, 0, [], [], []),
  (24, .ireturn, 1, 0, [], [], []),
  (25, .aload_n 0, 1, 0, [], [], []),
  (26, .getstatic 240, 3, 0, [], [7], []),
  (29, .iload_n 1, 1, 1, [], [], []),
  (30, .iload_n 2, 1, 2, [], [], []),
  (31, .iload_n 3, 1, 3, [], [], []),
  (32, .invokevirtual 219, 3, 124, [1, 4], [9], []),
  (35, .ireturn, 1, 0, [], [], [])], [])
def mX11_paste : sM := (6, 1, [
  (0, .aload_n 0, 1, 0, [], [], []),
  (1, .bipush 64, 2, 0, [], [], []),
  (3, .invokevirtual 203, 3, 121, [1, 1], [9], []),
  (6, .istore_n 3, 1, 3, [], [], []),
  (7, .aload_n 0, 1, 0, [], [], []),
  (8, .getfield 23, 3, 2, [], [9, 3], []),
  (11, .iload_n 1, 1, 1, [], [], []),
  (12, .invokevirtual 106, 3, 77, [3, 1], [8], []),
  (15, .astore 4, 2, 4, [], [], []),
  (17, .aload 4, 2, 4, [], [], []),
  (19, .ifnull 8, 3, 27, [], [], []),
  (22, .iload_n 3, 1, 3, [], [], []),
  (23, .iconst (-1), 1, 0, [], [], []),
  (24, .if_icmp .ne 5, 3, 29, [], [], []),
  (27, .iconst (-1), 1, 0, [], [], []),
  (28, .ireturn, 1, 0, [], [], []),
  (29, .aload 4, 2, 4, [], [], []),
  (31, .iload_n 2, 1, 2, [], [], []),
  (32, .invokevirtual 123, 3, 32, [4, 1], [5], []),
  (35, .ifCond .ne 5, 3, 40, [], [], []),
  (38, .iconst 1, 1, 0, [], [], []),
  (39, .ireturn, 1, 0, [], [], []),
  (40, .aload 4, 2, 4, [], [], []),
  (42, .getfield 110, 3, 0, [], [5, 2], []),
  (45, .iload_n 3, 1, 3, [], [], []),
  (46, .iadd, 1, 0, [], [], []),
  (47, .sipush 600, 3, 0, [], [], []),
  (50, .if_icmp .le 5, 3, 55, [], [], []),
  (53, .iconst 2, 1, 0, [], [], []),
  (54, .ireturn, 1, 0, [], [], []),
  (55, .aload_n 0, 1, 0, [], [], []),
  (56, .getfield 50, 3, 2, [], [9, 8], []),
  (59, .aload_n 0, 1, 0, [], [], []),
  (60, .getfield 23, 3, 2, [], [9, 3], []),
  (63, .invokevirtual 226, 3, 12, [0, 1], [3], []),
  (66, .iconst 0, 1, 0, [], [], []),
  (67, .istore 5, 2, 5, [], [], []),
  (69, .iload 5, 2, 5, [], [], []),
  (71, .iload_n 3, 1, 3, [], [], []),
  (72, .if_icmp .ge 32, 3, 104, [], [], []),
  (75, .aload 4, 2, 4, [], [], []),
  (77, .iload_n 2, 1, 2, [], [], []),
  (78, .iload 5, 2, 5, [], [], []),
  (80, .iadd, 1, 0, [], [], []),
  (81, .aload_n 0, 1, 0, [], [], []),
  (82, .getfield 9, 3, 2, [], [9, 0], []),
  (85, .iload 5, 2, 5, [], [], []),
  (87, .iaload, 1, 0, [], [], []),
  (88, .aload_n 0, 1, 0, [], [], []),
  (89, .getfield 23, 3, 2, [], [9, 3], []),
  (92, .getfield 243, 3, 0, [], [8, 4], []),
  (95, .invokevirtual 246, 3, 48, [0, 3], [5], []),
  (98, .iinc 5 1, 3, 5, [], [], []),
  (101, .goto (-32), 3, 69, [], [], []),
  (104, .iconst 0, 1, 0, [], [], []),
  (105, .ireturn, 1, 0, [], [], [])], [(69, [true, false, true, true, true, true])])
def mX11_join : sM := (3, 1, [
  (0, .aload_n 0, 1, 0, [], [], []),
  (1, .getfield 23, 3, 2, [], [9, 3], []),
  (4, .iload_n 1, 1, 1, [], [], []),
  (5, .invokevirtual 106, 3, 77, [3, 1], [8], []),
  (8, .ifnull 19, 3, 27, [], [], []),
  (11, .aload_n 0, 1, 0, [], [], []),
  (12, .getfield 23, 3, 2, [], [9, 3], []),
  (15, .iload_n 2, 1, 2, [], [], []),
  (16, .invokevirtual 106, 3, 77, [3, 1], [8], []),
  (19, .ifnull 8, 3, 27, [], [], []),
  (22, .iload_n 1, 1, 1, [], [], []),
  (23, .iload_n 2, 1, 2, [], [], []),
  (24, .if_icmp .ne 5, 3, 29, [], [], []),
  (27, .iconst (-1), 1, 0, [], [], []),
  (28, .ireturn, 1, 0, [], [], []),
  (29, .aload_n 0, 1, 0, [], [], []),
  (30, .getstatic 250, 3, 0, [], [8], []),
  (33, .iload_n 1, 1, 1, [], [], []),
  (34, .iload_n 2, 1, 2, [], [], []),
  (35, .iconst 0, 1, 0, [], [], []),
  (36, .invokevirtual 219, 3, 124, [1, 4], [9], []),
  (39, .ireturn, 1, 0, [], [], [])], [])
def mX11_split : sM := (4, 1, [
  (0, .aload_n 0, 1, 0, [], [], []),
  (1, .getfield 23, 3, 2, [], [9, 3], []),
  (4, .iload_n 1, 1, 1, [], [], []),
  (5, .invokevirtual 106, 3, 77, [3, 1], [8], []),
  (8, .ifnull 19, 3, 27, [], [], []),
  (11, .aload_n 0, 1, 0, [], [], []),
  (12, .getfield 23, 3, 2, [], [9, 3], []),
  (15, .iload_n 3, 1, 3, [], [], []),
  (16, .invokevirtual 106, 3, 77, [3, 1], [8], []),
  (19, .ifnull 8, 3, 27, [], [], []),
  (22, .iload_n 1, 1, 1, [], [], []),
  (23, .iload_n 3, 1, 3, [], [], []),
  (24, .if_icmp .ne 5, 3, 29, [], [], []),
  (27, .iconst (-1), 1, 0, [], [], []),
  (28, .ireturn, 1, 0, [], [], []),
  (29, .aload_n 0, 1, 0, [], [], []),
  (30, .getstatic 253, 3, 0, [], [9], []),
  (33, .iload_n 1, 1, 1, [], [], []),
  (34, .iload_n 2, 1, 2, [], [], []),
  (35, .iload_n 3, 1, 3, [], [], []),
  (36, .invokevirtual 219, 3, 124, [1, 4], [9], []),
  (39, .ireturn, 1, 0, [], [], [])], [])
def mX11_letters : sM := (1, 1, [
  (0, .aload_n 0, 1, 0, [], [], []),
  (1, .getfield 23, 3, 2, [], [9, 3], []),
  (4, .getfield 256, 3, 2, [], [8, 2], []),
  (7, .getfield 260, 3, 0, [], [6, 1], []),
  (10, .ireturn, 1, 0, [], [], [])], [])
def mX11_letter : sM := (2, 1, [
  (0, .aload_n 0, 1, 0, [], [], []),
  (1, .getfield 23, 3, 2, [], [9, 3], []),
  (4, .getfield 256, 3, 2, [], [8, 2], []),
  (7, .iload_n 1, 1, 1, [], [], []),
  (8, .invokevirtual 263, 3, 56, [1, 1], [6], []),
  (11, .ireturn, 1, 0, [], [], [])], [])
def mX11_count : sM := (3, 1, [
  (0, .iload_n 1, 1, 1, [], [], []),
  (1, .invokestatic 266, 3, 134, [4, 1], [], []),
  (4, .ifCond .eq 21, 3, 25, [], [], []),
  (7, .iload_n 2, 1, 2, [], [], []),
  (8, .ifCond .lt 17, 3, 25, [], [], []),
  (11, .iload_n 2, 1, 2, [], [], []),
  (12, .aload_n 0, 1, 0, [], [], []),
  (13, .getfield 23, 3, 2, [], [9, 3], []),
  (16, .getfield 256, 3, 2, [], [8, 2], []),
  (19, .getfield 260, 3, 0, [], [6, 1], []),
  (22, .if_icmp .le 5, 3, 27, [], [], []),
  (25, .iconst (-1), 1, 0, [], [], []),
  (26, .ireturn, 1, 0, [], [], []),
  (27, .aload_n 0, 1, 0, [], [], []),
  (28, .getfield 23, 3, 2, [], [9, 3], []),
  (31, .getfield 256, 3, 2, [], [8, 2], []),
  (34, .iconst 0, 1, 0, [], [], []),
  (35, .iload_n 2, 1, 2, [], [], []),
  (36, .iload_n 1, 1, 1, [], [], []),
  (37, .invokevirtual 269, 3, 58, [1, 3], [6], []),
  (40, .ireturn, 1, 0, [], [], [])], [])
def mX11_isLetter : sM := (1, 4, [
  (0, .iload_n 0, 1, 0, [], [], []),
  (1, .ifCond .lt 13, 3, 14, [], [], []),
  (4, .iload_n 0, 1, 0, [], [], []),
  (5, .bipush 8, 2, 0, [], [], []),
  (7, .if_icmp .ge 7, 3, 14, [], [], []),
  (10, .iconst 1, 1, 0, [], [], []),
  (11, .goto 4, 3, 15, [], [], []),
  (14, .iconst 0, 1, 0, [], [], []),
  (15, .ireturn, 1, 0, [], [], [])], [])
def mX11_place : sM := (3, 1, [
  (0, .iload_n 1, 1, 1, [], [], []),
  (1, .invokestatic 266, 3, 134, [4, 1], [], []),
  (4, .ifCond .eq 7, 3, 11, [], [], []),
  (7, .iload_n 2, 1, 2, [], [], []),
  (8, .ifCond .ge 7, 3, 15, [], [], []),
  (11, .iconst (-1), 1, 0, [], [], []),
  (12, .goto 15, 3, 27, [], [], []),
  (15, .aload_n 0, 1, 0, [], [], []),
  (16, .getfield 23, 3, 2, [], [9, 3], []),
  (19, .getfield 256, 3, 2, [], [8, 2], []),
  (22, .iload_n 1, 1, 1, [], [], []),
  (23, .iload_n 2, 1, 2, [], [], []),
  (24, .invokevirtual 270, 3, 59, [1, 2], [6], []),
  (27, .ireturn, 1, 0, [], [], [])], [])
def mX11_least : sM := (4, 1, [
  (0, .iload_n 1, 1, 1, [], [], []),
  (1, .ifCond .lt 26, 3, 27, [], [], []),
  (4, .iload_n 2, 1, 2, [], [], []),
  (5, .iload_n 1, 1, 1, [], [], []),
  (6, .if_icmp .lt 21, 3, 27, [], [], []),
  (9, .iload_n 2, 1, 2, [], [], []),
  (10, .aload_n 0, 1, 0, [], [], []),
  (11, .getfield 23, 3, 2, [], [9, 3], []),
  (14, .getfield 256, 3, 2, [], [8, 2], []),
  (17, .getfield 260, 3, 0, [], [6, 1], []),
  (20, .if_icmp .gt 7, 3, 27, [], [], []),
  (23, .iload_n 3, 1, 3, [], [], []),
  (24, .ifCond .ge 5, 3, 29, [], [], []),
  (27, .iconst (-1), 1, 0, [], [], []),
  (28, .ireturn, 1, 0, [], [], []),
  (29, .aload_n 0, 1, 0, [], [], []),
  (30, .getfield 23, 3, 2, [], [9, 3], []),
  (33, .getfield 256, 3, 2, [], [8, 2], []),
  (36, .iload_n 1, 1, 1, [], [], []),
  (37, .iload_n 2, 1, 2, [], [], []),
  (38, .iload_n 3, 1, 3, [], [], []),
  (39, .invokevirtual 271, 3, 60, [1, 3], [6], []),
  (42, .ireturn, 1, 0, [], [], [])], [])
def mX11_node : sM := (3, 1, [
  (0, .iload_n 1, 1, 1, [], [], []),
  (1, .ifCond .lt 13, 3, 14, [], [], []),
  (4, .iload_n 1, 1, 1, [], [], []),
  (5, .bipush 7, 2, 0, [], [], []),
  (7, .if_icmp .ge 7, 3, 14, [], [], []),
  (10, .iload_n 2, 1, 2, [], [], []),
  (11, .ifCond .ge 7, 3, 18, [], [], []),
  (14, .iconst (-1), 1, 0, [], [], []),
  (15, .goto 15, 3, 30, [], [], []),
  (18, .aload_n 0, 1, 0, [], [], []),
  (19, .getfield 23, 3, 2, [], [9, 3], []),
  (22, .getfield 256, 3, 2, [], [8, 2], []),
  (25, .iload_n 1, 1, 1, [], [], []),
  (26, .iload_n 2, 1, 2, [], [], []),
  (27, .invokevirtual 274, 3, 61, [1, 2], [6], []),
  (30, .ireturn, 1, 0, [], [], [])], [])
def mX11_type : sM := (3, 1, [
  (0, .iload_n 2, 1, 2, [], [], []),
  (1, .invokestatic 266, 3, 134, [4, 1], [], []),
  (4, .ifCond .eq 16, 3, 20, [], [], []),
  (7, .aload_n 0, 1, 0, [], [], []),
  (8, .getstatic 277, 3, 0, [], [10], []),
  (11, .iload_n 1, 1, 1, [], [], []),
  (12, .iload_n 2, 1, 2, [], [], []),
  (13, .iconst 0, 1, 0, [], [], []),
  (14, .invokevirtual 219, 3, 124, [1, 4], [9], []),
  (17, .goto 4, 3, 21, [], [], []),
  (20, .iconst (-1), 1, 0, [], [], []),
  (21, .ireturn, 1, 0, [], [], [])], [])
def mX11_erase : sM := (3, 1, [
  (0, .iload_n 2, 1, 2, [], [], []),
  (1, .iconst 1, 1, 0, [], [], []),
  (2, .if_icmp .lt 10, 3, 12, [], [], []),
  (5, .iload_n 2, 1, 2, [], [], []),
  (6, .sipush 200, 3, 0, [], [], []),
  (9, .if_icmp .le 7, 3, 16, [], [], []),
  (12, .iconst (-1), 1, 0, [], [], []),
  (13, .goto 13, 3, 26, [], [], []),
  (16, .aload_n 0, 1, 0, [], [], []),
  (17, .getstatic 280, 3, 0, [], [11], []),
  (20, .iload_n 1, 1, 1, [], [], []),
  (21, .iload_n 2, 1, 2, [], [], []),
  (22, .iconst 0, 1, 0, [], [], []),
  (23, .invokevirtual 219, 3, 124, [1, 4], [9], []),
  (26, .ireturn, 1, 0, [], [], [])], [])
def mX11_undo : sM := (1, 1, [
  (0, .aload_n 0, 1, 0, [], [], []),
  (1, .getfield 50, 3, 2, [], [9, 8], []),
  (4, .aload_n 0, 1, 0, [], [], []),
  (5, .getfield 23, 3, 2, [], [9, 3], []),
  (8, .invokevirtual 283, 3, 13, [4, 1], [3], []),
  (11, .ifCond .eq 13, 3, 24, [], [], []),
  (14, .aload_n 0, 1, 0, [], [], []),
  (15, .getfield 50, 3, 2, [], [9, 8], []),
  (18, .getfield 287, 3, 0, [], [3, 2], []),
  (21, .goto 4, 3, 25, [], [], []),
  (24, .iconst (-1), 1, 0, [], [], []),
  (25, .ireturn, 1, 0, [], [], [])], [])
def mX11_drawn : sM := (6, 1, [
  (0, .iload_n 1, 1, 1, [], [], []),
  (1, .iconst 1, 1, 0, [], [], []),
  (2, .if_icmp .lt 9, 3, 11, [], [], []),
  (5, .iload_n 1, 1, 1, [], [], []),
  (6, .bipush 60, 2, 0, [], [], []),
  (8, .if_icmp .le 5, 3, 13, [], [], []),
  (11, .iconst (-1), 1, 0, [], [], []),
  (12, .ireturn, 1, 0, [], [], []),
  (13, .aload_n 0, 1, 0, [], [], []),
  (14, .getfield 27, 3, 2, [], [9, 4], []),
  (17, .aload_n 0, 1, 0, [], [], []),
  (18, .getfield 23, 3, 2, [], [9, 3], []),
  (21, .invokevirtual 290, 3, 76, [0, 1], [8], []),
  (24, .new 293, 3, 1, [], [2], []),
  (27, .dup, 1, 0, [], [], []),
  (28, .iload_n 2, 1, 2, [], [], []),
  (29, .invokespecial 295, 3, 5, [1], [2], []),
  (32, .astore_n 3, 1, 3, [], [], []),
  (33, .iconst 0, 1, 0, [], [], []),
  (34, .istore 4, 2, 4, [], [], []),
  (36, .iconst 0, 1, 0, [], [], []),
  (37, .istore 5, 2, 5, [], [], []),
  (39, .iload 5, 2, 5, [], [], []),
  (41, .iload_n 1, 1, 1, [], [], []),
  (42, .if_icmp .ge 30, 3, 72, [], [], []),
  (45, .iload 4, 2, 4, [], [], []),
  (47, .aload_n 3, 1, 3, [], [], []),
  (48, .aload_n 0, 1, 0, [], [], []),
  (49, .getfield 23, 3, 2, [], [9, 3], []),
  (52, .invokevirtual 297, 3, 7, [4, 1], [2], []),
  (55, .ifCond .eq 7, 3, 62, [], [], []),
  (58, .iconst 1, 1, 0, [], [], []),
  (59, .goto 4, 3, 63, [], [], []),
  (62, .iconst 0, 1, 0, [], [], []),
  (63, .iadd, 1, 0, [], [], []),
  (64, .istore 4, 2, 4, [], [], []),
  (66, .iinc 5 1, 3, 5, [], [], []),
  (69, .goto (-30), 3, 39, [], [], []),
  (72, .iload 4, 2, 4, [], [], []),
  (74, .ifCond .le 14, 3, 88, [], [], []),
  (77, .aload_n 0, 1, 0, [], [], []),
  (78, .getfield 50, 3, 2, [], [9, 8], []),
  (81, .aload_n 0, 1, 0, [], [], []),
  (82, .getfield 27, 3, 2, [], [9, 4], []),
  (85, .invokevirtual 226, 3, 12, [0, 1], [3], []),
  (88, .iload 4, 2, 4, [], [], []),
  (90, .ireturn, 1, 0, [], [], [])], [(39, [true, true, false, true, true, true])])
def mX11_book : sM := (3, 1, [
  (0, .iload_n 1, 1, 1, [], [], []),
  (1, .ifCond .eq 12, 3, 13, [], [], []),
  (4, .iload_n 1, 1, 1, [], [], []),
  (5, .iconst 1, 1, 0, [], [], []),
  (6, .if_icmp .eq 7, 3, 13, [], [], []),
  (9, .sipush (-1000), 3, 0, [], [], []),
  (12, .ireturn, 1, 0, [], [], []),
  (13, .aload_n 0, 1, 0, [], [], []),
  (14, .getfield 16, 3, 2, [], [9, 2], []),
  (17, .aload_n 0, 1, 0, [], [], []),
  (18, .getfield 9, 3, 2, [], [9, 0], []),
  (21, .aload_n 0, 1, 0, [], [], []),
  (22, .getfield 68, 3, 0, [], [9, 1], []),
  (25, .sipush 400, 3, 0, [], [], []),
  (28, .invokevirtual 76, 3, 15, [0, 3], [4], []),
  (31, .aload_n 0, 1, 0, [], [], []),
  (32, .getfield 43, 3, 2, [], [9, 7], []),
  (35, .aload_n 0, 1, 0, [], [], []),
  (36, .getfield 16, 3, 2, [], [9, 2], []),
  (39, .aload_n 0, 1, 0, [], [], []),
  (40, .getfield 23, 3, 2, [], [9, 3], []),
  (43, .invokevirtual 300, 3, 1, [0, 2], [1], []),
  (46, .aload_n 0, 1, 0, [], [], []),
  (47, .invokevirtual 84, 3, 100, [4, 0], [9], []),
  (50, .ifCond .eq 14, 3, 64, [], [], []),
  (53, .bipush (-2), 2, 0, [], [], []),
  (55, .aload_n 0, 1, 0, [], [], []),
  (56, .getfield 16, 3, 2, [], [9, 2], []),
  (59, .getfield 88, 3, 0, [], [4, 11], []),
  (62, .isub, 1, 0, [], [], []),
  (63, .ireturn, 1, 0, [], [], []),
  (64, .aload_n 0, 1, 0, [], [], []),
  (65, .getfield 27, 3, 2, [], [9, 4], []),
  (68, .aload_n 0, 1, 0, [], [], []),
  (69, .getfield 23, 3, 2, [], [9, 3], []),
  (72, .invokevirtual 290, 3, 76, [0, 1], [8], []),
  (75, .aload_n 0, 1, 0, [], [], []),
  (76, .getfield 43, 3, 2, [], [9, 7], []),
  (79, .aload_n 0, 1, 0, [], [], []),
  (80, .getfield 23, 3, 2, [], [9, 3], []),
  (83, .invokevirtual 303, 3, 4, [1, 1], [1], []),
  (86, .istore_n 2, 1, 2, [], [], []),
  (87, .aload_n 0, 1, 0, [], [], []),
  (88, .getfield 65, 3, 2, [], [9, 14], []),
  (91, .iconst 0, 1, 0, [], [], []),
  (92, .aload_n 0, 1, 0, [], [], []),
  (93, .getfield 43, 3, 2, [], [9, 7], []),
  (96, .getfield 307, 3, 0, [], [1, 5], []),
  (99, .iastore, 1, 0, [], [], []),
  (100, .aload_n 0, 1, 0, [], [], []),
  (101, .getfield 65, 3, 2, [], [9, 14], []),
  (104, .iconst 1, 1, 0, [], [], []),
  (105, .iload_n 2, 1, 2, [], [], []),
  (106, .iastore, 1, 0, [], [], []),
  (107, .aload_n 0, 1, 0, [], [], []),
  (108, .getfield 65, 3, 2, [], [9, 14], []),
  (111, .iconst 2, 1, 0, [], [], []),
  (112, .aload_n 0, 1, 0, [], [], []),
  (113, .getfield 23, 3, 2, [], [9, 3], []),
  (116, .invokevirtual 310, 3, 79, [1, 0], [8], []),
  (119, .iastore, 1, 0, [], [], []),
  (120, .aload_n 0, 1, 0, [], [], []),
  (121, .getfield 65, 3, 2, [], [9, 14], []),
  (124, .iconst 3, 1, 0, [], [], []),
  (125, .aload_n 0, 1, 0, [], [], []),
  (126, .getfield 23, 3, 2, [], [9, 3], []),
  (129, .getfield 256, 3, 2, [], [8, 2], []),
  (132, .getfield 260, 3, 0, [], [6, 1], []),
  (135, .iastore, 1, 0, [], [], []),
  (136, .iload_n 1, 1, 1, [], [], []),
  (137, .ifCond .ne 10, 3, 147, [], [], []),
  (140, .aload_n 0, 1, 0, [], [], []),
  (141, .invokevirtual 91, 3, 101, [0, 0], [9], []),
  (144, .goto 18, 3, 162, [], [], []),
  (147, .iload_n 2, 1, 2, [], [], []),
  (148, .ifCond .le 14, 3, 162, [], [], []),
  (151, .aload_n 0, 1, 0, [], [], []),
  (152, .getfield 50, 3, 2, [], [9, 8], []),
  (155, .aload_n 0, 1, 0, [], [], []),
  (156, .getfield 27, 3, 2, [], [9, 4], []),
  (159, .invokevirtual 226, 3, 12, [0, 1], [3], []),
  (162, .aload_n 0, 1, 0, [], [], []),
  (163, .getfield 43, 3, 2, [], [9, 7], []),
  (166, .getfield 307, 3, 0, [], [1, 5], []),
  (169, .ifCond .ne 7, 3, 176, [], [], []),
  (172, .iconst (-1), 1, 0, [], [], []),
  (173, .goto 4, 3, 177, [], [], []),
  (176, .iload_n 2, 1, 2, [], [], []),
  (177, .ireturn, 1, 0, [], [], [])], [(13, [true, true, false])])
def mX11_told : sM := (2, 1, [
  (0, .iload_n 1, 1, 1, [], [], []),
  (1, .ifCond .lt 12, 3, 13, [], [], []),
  (4, .iload_n 1, 1, 1, [], [], []),
  (5, .aload_n 0, 1, 0, [], [], []),
  (6, .getfield 65, 3, 2, [], [9, 14], []),
  (9, .arraylength, 1, 0, [], [], []),
  (10, .if_icmp .lt 7, 3, 17, [], [], []),
  (13, .iconst (-1), 1, 0, [], [], []),
  (14, .goto 9, 3, 23, [], [], []),
  (17, .aload_n 0, 1, 0, [], [], []),
  (18, .getfield 65, 3, 2, [], [9, 14], []),
  (21, .iload_n 1, 1, 1, [], [], []),
  (22, .iaload, 1, 0, [], [], []),
  (23, .ireturn, 1, 0, [], [], [])], [])
def mX11_sentence : sM := (2, 1, [
  (0, .aload_n 0, 1, 0, [], [], []),
  (1, .getfield 16, 3, 2, [], [9, 2], []),
  (4, .aload_n 0, 1, 0, [], [], []),
  (5, .getfield 9, 3, 2, [], [9, 0], []),
  (8, .aload_n 0, 1, 0, [], [], []),
  (9, .getfield 68, 3, 0, [], [9, 1], []),
  (12, .sipush 200, 3, 0, [], [], []),
  (15, .invokevirtual 76, 3, 15, [0, 3], [4], []),
  (18, .aload_n 0, 1, 0, [], [], []),
  (19, .getfield 37, 3, 2, [], [9, 6], []),
  (22, .aload_n 0, 1, 0, [], [], []),
  (23, .getfield 16, 3, 2, [], [9, 2], []),
  (26, .aload_n 0, 1, 0, [], [], []),
  (27, .getfield 23, 3, 2, [], [9, 3], []),
  (30, .invokevirtual 313, 3, 67, [0, 2], [7], []),
  (33, .aload_n 0, 1, 0, [], [], []),
  (34, .invokevirtual 84, 3, 100, [4, 0], [9], []),
  (37, .ifCond .eq 13, 3, 50, [], [], []),
  (40, .iconst (-1), 1, 0, [], [], []),
  (41, .aload_n 0, 1, 0, [], [], []),
  (42, .getfield 16, 3, 2, [], [9, 2], []),
  (45, .getfield 88, 3, 0, [], [4, 11], []),
  (48, .isub, 1, 0, [], [], []),
  (49, .ireturn, 1, 0, [], [], []),
  (50, .aload_n 0, 1, 0, [], [], []),
  (51, .getfield 33, 3, 2, [], [9, 5], []),
  (54, .astore_n 1, 1, 1, [], [], []),
  (55, .aload_n 0, 1, 0, [], [], []),
  (56, .aload_n 0, 1, 0, [], [], []),
  (57, .getfield 37, 3, 2, [], [9, 6], []),
  (60, .putfield 33, 3, 2, [], [9, 5], []),
  (63, .aload_n 0, 1, 0, [], [], []),
  (64, .aload_n 1, 1, 1, [], [], []),
  (65, .putfield 37, 3, 2, [], [9, 6], []),
  (68, .aload_n 0, 1, 0, [], [], []),
  (69, .getfield 33, 3, 2, [], [9, 5], []),
  (72, .getfield 316, 3, 0, [], [7, 5], []),
  (75, .ireturn, 1, 0, [], [], [])], [])
def mX11_said : sM := (4, 1, [
  (0, .aload_n 0, 1, 0, [], [], []),
  (1, .getfield 33, 3, 2, [], [9, 5], []),
  (4, .getfield 316, 3, 0, [], [7, 5], []),
  (7, .ifCond .eq 8, 3, 15, [], [], []),
  (10, .iload_n 1, 1, 1, [], [], []),
  (11, .iconst (-1), 1, 0, [], [], []),
  (12, .if_icmp .ge 5, 3, 17, [], [], []),
  (15, .iconst (-1), 1, 0, [], [], []),
  (16, .ireturn, 1, 0, [], [], []),
  (17, .iconst 0, 1, 0, [], [], []),
  (18, .istore_n 2, 1, 2, [], [], []),
  (19, .iconst 0, 1, 0, [], [], []),
  (20, .istore_n 3, 1, 3, [], [], []),
  (21, .iload_n 3, 1, 3, [], [], []),
  (22, .aload_n 0, 1, 0, [], [], []),
  (23, .getfield 23, 3, 2, [], [9, 3], []),
  (26, .getfield 319, 3, 0, [], [8, 3], []),
  (29, .if_icmp .ge 34, 3, 63, [], [], []),
  (32, .aload_n 0, 1, 0, [], [], []),
  (33, .getfield 33, 3, 2, [], [9, 5], []),
  (36, .aload_n 0, 1, 0, [], [], []),
  (37, .getfield 23, 3, 2, [], [9, 3], []),
  (40, .iload_n 3, 1, 3, [], [], []),
  (41, .invokevirtual 322, 3, 72, [4, 2], [7], []),
  (44, .ifCond .eq 13, 3, 57, [], [], []),
  (47, .iload_n 2, 1, 2, [], [], []),
  (48, .iload_n 1, 1, 1, [], [], []),
  (49, .if_icmp .ne 5, 3, 54, [], [], []),
  (52, .iload_n 3, 1, 3, [], [], []),
  (53, .ireturn, 1, 0, [], [], []),
  (54, .iinc 2 1, 3, 2, [], [], []),
  (57, .iinc 3 1, 3, 3, [], [], []),
  (60, .goto (-39), 3, 21, [], [], []),
  (63, .iload_n 1, 1, 1, [], [], []),
  (64, .iconst (-1), 1, 0, [], [], []),
  (65, .if_icmp .ne 7, 3, 72, [], [], []),
  (68, .iload_n 2, 1, 2, [], [], []),
  (69, .goto 4, 3, 73, [], [], []),
  (72, .iconst (-1), 1, 0, [], [], []),
  (73, .ireturn, 1, 0, [], [], [])], [(21, [true, true, true, true])])
def mX11_image : sM := (2, 4, [
  (0, .iload_n 1, 1, 1, [], [], []),
  (1, .ifCond .lt 8, 3, 9, [], [], []),
  (4, .iload_n 1, 1, 1, [], [], []),
  (5, .iconst 2, 1, 0, [], [], []),
  (6, .if_icmp .lt 5, 3, 11, [], [], []),
  (9, .iconst 0, 1, 0, [], [], []),
  (10, .ireturn, 1, 0, [], [], []),
  (11, .aload_n 0, 1, 0, [], [], []),
  (12, .getfield 54, 3, 2, [], [9, 9], []),
  (15, .iload_n 1, 1, 1, [], [], []),
  (16, .aaload, 1, 0, [], [], []),
  (17, .ifnonnull 16, 3, 33, [], [], []),
  (20, .aload_n 0, 1, 0, [], [], []),
  (21, .getfield 54, 3, 2, [], [9, 9], []),
  (24, .iload_n 1, 1, 1, [], [], []),
  (25, .new 20, 3, 6, [], [8], []),
  (28, .dup, 1, 0, [], [], []),
  (29, .invokespecial 22, 3, 75, [0], [8], []),
  (32, .aastore, 1, 0, [], [], []),
  (33, .aload_n 0, 1, 0, [], [], []),
  (34, .getfield 58, 3, 2, [], [9, 10], []),
  (37, .iload_n 1, 1, 1, [], [], []),
  (38, .aaload, 1, 0, [], [], []),
  (39, .ifnonnull 16, 3, 55, [], [], []),
  (42, .aload_n 0, 1, 0, [], [], []),
  (43, .getfield 58, 3, 2, [], [9, 10], []),
  (46, .iload_n 1, 1, 1, [], [], []),
  (47, .new 30, 3, 6, [], [7], []),
  (50, .dup, 1, 0, [], [], []),
  (51, .invokespecial 32, 3, 64, [0], [7], []),
  (54, .aastore, 1, 0, [], [], []),
  (55, .aload_n 0, 1, 0, [], [], []),
  (56, .getfield 54, 3, 2, [], [9, 9], []),
  (59, .iload_n 1, 1, 1, [], [], []),
  (60, .aaload, 1, 0, [], [], []),
  (61, .aload_n 0, 1, 0, [], [], []),
  (62, .getfield 23, 3, 2, [], [9, 3], []),
  (65, .invokevirtual 290, 3, 76, [0, 1], [8], []),
  (68, .aload_n 0, 1, 0, [], [], []),
  (69, .getfield 58, 3, 2, [], [9, 10], []),
  (72, .iload_n 1, 1, 1, [], [], []),
  (73, .aaload, 1, 0, [], [], []),
  (74, .aload_n 0, 1, 0, [], [], []),
  (75, .getfield 33, 3, 2, [], [9, 5], []),
  (78, .invokevirtual 326, 3, 66, [0, 1], [7], []),
  (81, .iconst 1, 1, 0, [], [], []),
  (82, .ireturn, 1, 0, [], [], [])], [(55, [true, true])])
def mX11_restore : sM := (2, 4, [
  (0, .iload_n 1, 1, 1, [], [], []),
  (1, .ifCond .lt 26, 3, 27, [], [], []),
  (4, .iload_n 1, 1, 1, [], [], []),
  (5, .iconst 2, 1, 0, [], [], []),
  (6, .if_icmp .ge 21, 3, 27, [], [], []),
  (9, .aload_n 0, 1, 0, [], [], []),
  (10, .getfield 54, 3, 2, [], [9, 9], []),
  (13, .iload_n 1, 1, 1, [], [], []),
  (14, .aaload, 1, 0, [], [], []),
  (15, .ifnull 12, 3, 27, [], [], []),
  (18, .aload_n 0, 1, 0, [], [], []),
  (19, .getfield 58, 3, 2, [], [9, 10], []),
  (22, .iload_n 1, 1, 1, [], [], []),
  (23, .aaload, 1, 0, [], [], []),
  (24, .ifnonnull 5, 3, 29, [], [], []),
  (27, .iconst 0, 1, 0, [], [], []),
  (28, .ireturn, 1, 0, [], [], []),
  (29, .aload_n 0, 1, 0, [], [], []),
  (30, .getfield 23, 3, 2, [], [9, 3], []),
  (33, .aload_n 0, 1, 0, [], [], []),
  (34, .getfield 54, 3, 2, [], [9, 9], []),
  (37, .iload_n 1, 1, 1, [], [], []),
  (38, .aaload, 1, 0, [], [], []),
  (39, .invokevirtual 290, 3, 76, [0, 1], [8], []),
  (42, .aload_n 0, 1, 0, [], [], []),
  (43, .getfield 33, 3, 2, [], [9, 5], []),
  (46, .aload_n 0, 1, 0, [], [], []),
  (47, .getfield 58, 3, 2, [], [9, 10], []),
  (50, .iload_n 1, 1, 1, [], [], []),
  (51, .aaload, 1, 0, [], [], []),
  (52, .invokevirtual 326, 3, 66, [0, 1], [7], []),
  (55, .aload_n 0, 1, 0, [], [], []),
  (56, .getfield 50, 3, 2, [], [9, 8], []),
  (59, .invokevirtual 97, 3, 11, [0, 0], [3], []),
  (62, .iconst 1, 1, 0, [], [], []),
  (63, .ireturn, 1, 0, [], [], [])], [])
def mX11_total : sM := (2, 1, [
  (0, .iload_n 1, 1, 1, [], [], []),
  (1, .tableswitch 60 0 3 #[31, 39, 47, 55], 31, 61, [], [], [(0, 32), (1, 40), (2, 48), (3, 56)]),
  (32, .aload_n 0, 1, 0, [], [], []),
  (33, .getfield 23, 3, 2, [], [9, 3], []),
  (36, .getfield 319, 3, 0, [], [8, 3], []),
  (39, .ireturn, 1, 0, [], [], []),
  (40, .aload_n 0, 1, 0, [], [], []),
  (41, .getfield 23, 3, 2, [], [9, 3], []),
  (44, .getfield 243, 3, 0, [], [8, 4], []),
  (47, .ireturn, 1, 0, [], [], []),
  (48, .aload_n 0, 1, 0, [], [], []),
  (49, .getfield 23, 3, 2, [], [9, 3], []),
  (52, .invokevirtual 310, 3, 79, [1, 0], [8], []),
  (55, .ireturn, 1, 0, [], [], []),
  (56, .aload_n 0, 1, 0, [], [], []),
  (57, .getfield 68, 3, 0, [], [9, 1], []),
  (60, .ireturn, 1, 0, [], [], []),
  (61, .iconst (-1), 1, 0, [], [], []),
  (62, .ireturn, 1, 0, [], [], [])], [])
def mX12_thrown : sM := (1, 1, [
  (0, .aload_n 0, 1, 0, [], [], []),
  (1, .getfield 1, 3, 0, [], [10, 0], []),
  (4, .ireturn, 1, 0, [], [], [])], [])
def mX12_refuse : sM := (1, 1, [
  (0, .aload_n 0, 1, 0, [], [], []),
  (1, .iconst 1, 1, 0, [], [], []),
  (2, .putfield 1, 3, 0, [], [10, 0], []),
  (5, .iconst 0, 1, 0, [], [], []),
  (6, .ireturn, 1, 0, [], [], [])], [])
def mX12_come : sM := (3, 0, [
  (0, .bipush 24, 2, 0, [], [], []),
  (2, .istore_n 2, 1, 2, [], [], []),
  (3, .iload_n 2, 1, 2, [], [], []),
  (4, .ifCond .lt 35, 3, 39, [], [], []),
  (7, .aload_n 0, 1, 0, [], [], []),
  (8, .getfield 7, 3, 2, [], [10, 1], []),
  (11, .aload_n 0, 1, 0, [], [], []),
  (12, .getfield 11, 3, 0, [], [10, 2], []),
  (15, .iload_n 1, 1, 1, [], [], []),
  (16, .iload_n 2, 1, 2, [], [], []),
  (17, .iushr, 1, 0, [], [], []),
  (18, .sipush 255, 3, 0, [], [], []),
  (21, .iand, 1, 0, [], [], []),
  (22, .iastore, 1, 0, [], [], []),
  (23, .aload_n 0, 1, 0, [], [], []),
  (24, .dup, 1, 0, [], [], []),
  (25, .getfield 11, 3, 0, [], [10, 2], []),
  (28, .iconst 1, 1, 0, [], [], []),
  (29, .iadd, 1, 0, [], [], []),
  (30, .putfield 11, 3, 0, [], [10, 2], []),
  (33, .iinc 2 (-8), 3, 2, [], [], []),
  (36, .goto (-33), 3, 3, [], [], []),
  (39, .return_, 1, 0, [], [], [])], [(3, [true, true, true])])
def mX12_feed : sM := (6, 1, [
  (0, .aload_n 0, 1, 0, [], [], []),
  (1, .iconst 0, 1, 0, [], [], []),
  (2, .putfield 1, 3, 0, [], [10, 0], []),
  (5, .aload_n 0, 1, 0, [], [], []),
  (6, .getfield 11, 3, 0, [], [10, 2], []),
  (9, .bipush 20, 2, 0, [], [], []),
  (11, .iadd, 1, 0, [], [], []),
  (12, .sipush 940, 3, 0, [], [], []),
  (15, .if_icmp .le 5, 3, 20, [], [], []),
  (18, .iconst (-1), 1, 0, [], [], []),
  (19, .ireturn, 1, 0, [], [], []),
  (20, .aload_n 0, 1, 0, [], [], []),
  (21, .iload_n 1, 1, 1, [], [], []),
  (22, .invokevirtual 14, 3, 151, [0, 1], [10], []),
  (25, .aload_n 0, 1, 0, [], [], []),
  (26, .iload_n 2, 1, 2, [], [], []),
  (27, .invokevirtual 14, 3, 151, [0, 1], [10], []),
  (30, .aload_n 0, 1, 0, [], [], []),
  (31, .iload_n 3, 1, 3, [], [], []),
  (32, .invokevirtual 14, 3, 151, [0, 1], [10], []),
  (35, .aload_n 0, 1, 0, [], [], []),
  (36, .iload 4, 2, 4, [], [], []),
  (38, .invokevirtual 14, 3, 151, [0, 1], [10], []),
  (41, .aload_n 0, 1, 0, [], [], []),
  (42, .iload 5, 2, 5, [], [], []),
  (44, .invokevirtual 14, 3, 151, [0, 1], [10], []),
  (47, .aload_n 0, 1, 0, [], [], []),
  (48, .getfield 11, 3, 0, [], [10, 2], []),
  (51, .ireturn, 1, 0, [], [], [])], [])
def mX12_end : sM := (2, 4, [
  (0, .aload_n 0, 1, 0, [], [], []),
  (1, .iconst 0, 1, 0, [], [], []),
  (2, .putfield 1, 3, 0, [], [10, 0], []),
  (5, .iload_n 1, 1, 1, [], [], []),
  (6, .ifCond .lt 11, 3, 17, [], [], []),
  (9, .iload_n 1, 1, 1, [], [], []),
  (10, .aload_n 0, 1, 0, [], [], []),
  (11, .getfield 11, 3, 0, [], [10, 2], []),
  (14, .if_icmp .le 5, 3, 19, [], [], []),
  (17, .iconst 0, 1, 0, [], [], []),
  (18, .ireturn, 1, 0, [], [], []),
  (19, .aload_n 0, 1, 0, [], [], []),
  (20, .iload_n 1, 1, 1, [], [], []),
  (21, .putfield 11, 3, 0, [], [10, 2], []),
  (24, .iconst 1, 1, 0, [], [], []),
  (25, .ireturn, 1, 0, [], [], [])], [])
def mX12_take : sM := (2, 1, [
  (0, .aload_n 0, 1, 0, [], [], []),
  (1, .getfield 11, 3, 0, [], [10, 2], []),
  (4, .istore_n 1, 1, 1, [], [], []),
  (5, .aload_n 0, 1, 0, [], [], []),
  (6, .iconst 0, 1, 0, [], [], []),
  (7, .putfield 11, 3, 0, [], [10, 2], []),
  (10, .iload_n 1, 1, 1, [], [], []),
  (11, .ireturn, 1, 0, [], [], [])], [])
def mX12_isIn : sM := (3, 4, [
  (0, .iload_n 0, 1, 0, [], [], []),
  (1, .iload_n 1, 1, 1, [], [], []),
  (2, .if_icmp .lt 12, 3, 14, [], [], []),
  (5, .iload_n 0, 1, 0, [], [], []),
  (6, .iload_n 2, 1, 2, [], [], []),
  (7, .if_icmp .gt 7, 3, 14, [], [], []),
  (10, .iconst 1, 1, 0, [], [], []),
  (11, .goto 4, 3, 15, [], [], []),
  (14, .iconst 0, 1, 0, [], [], []),
  (15, .ireturn, 1, 0, [], [], [])], [])
def mX12_tapeAt : sM := (2, 1, [
  (0, .iload_n 1, 1, 1, [], [], []),
  (1, .aload_n 0, 1, 0, [], [], []),
  (2, .getfield 18, 3, 0, [], [10, 3], []),
  (5, .if_icmp .ge 12, 3, 17, [], [], []),
  (8, .aload_n 0, 1, 0, [], [], []),
  (9, .getfield 7, 3, 2, [], [10, 1], []),
  (12, .iload_n 1, 1, 1, [], [], []),
  (13, .iaload, 1, 0, [], [], []),
  (14, .goto 4, 3, 18, [], [], []),
  (17, .iconst 0, 1, 0, [], [], []),
  (18, .ireturn, 1, 0, [], [], [])], [])
def mX12_isDigit : sM := (1, 4, [
  (0, .iload_n 0, 1, 0, [], [], []),
  (1, .bipush 48, 2, 0, [], [], []),
  (3, .if_icmp .lt 13, 3, 16, [], [], []),
  (6, .iload_n 0, 1, 0, [], [], []),
  (7, .bipush 57, 2, 0, [], [], []),
  (9, .if_icmp .gt 7, 3, 16, [], [], []),
  (12, .iconst 1, 1, 0, [], [], []),
  (13, .goto 4, 3, 17, [], [], []),
  (16, .iconst 0, 1, 0, [], [], []),
  (17, .ireturn, 1, 0, [], [], [])], [])
def mX12_isLetter : sM := (1, 4, [
  (0, .iload_n 0, 1, 0, [], [], []),
  (1, .bipush 97, 2, 0, [], [], []),
  (3, .if_icmp .lt 13, 3, 16, [], [], []),
  (6, .iload_n 0, 1, 0, [], [], []),
  (7, .bipush 122, 2, 0, [], [], []),
  (9, .if_icmp .gt 7, 3, 16, [], [], []),
  (12, .iconst 1, 1, 0, [], [], []),
  (13, .goto 4, 3, 17, [], [], []),
  (16, .iconst 0, 1, 0, [], [], []),
  (17, .ireturn, 1, 0, [], [], [])], [])
def mX12_go : sM := (5, 0, [
  (0, .aload_n 0, 1, 0, [], [], []),
  (1, .getfield 21, 3, 0, [], [10, 5], []),
  (4, .aload_n 0, 1, 0, [], [], []),
  (5, .getfield 18, 3, 0, [], [10, 3], []),
  (8, .if_icmp .ge 44, 3, 52, [], [], []),
  (11, .aload_n 0, 1, 0, [], [], []),
  (12, .getfield 7, 3, 2, [], [10, 1], []),
  (15, .aload_n 0, 1, 0, [], [], []),
  (16, .getfield 21, 3, 0, [], [10, 5], []),
  (19, .iaload, 1, 0, [], [], []),
  (20, .bipush 32, 2, 0, [], [], []),
  (22, .if_icmp .eq 17, 3, 39, [], [], []),
  (25, .aload_n 0, 1, 0, [], [], []),
  (26, .getfield 7, 3, 2, [], [10, 1], []),
  (29, .aload_n 0, 1, 0, [], [], []),
  (30, .getfield 21, 3, 0, [], [10, 5], []),
  (33, .iaload, 1, 0, [], [], []),
  (34, .bipush 10, 2, 0, [], [], []),
  (36, .if_icmp .ne 16, 3, 52, [], [], []),
  (39, .aload_n 0, 1, 0, [], [], []),
  (40, .dup, 1, 0, [], [], []),
  (41, .getfield 21, 3, 0, [], [10, 5], []),
  (44, .iconst 1, 1, 0, [], [], []),
  (45, .iadd, 1, 0, [], [], []),
  (46, .putfield 21, 3, 0, [], [10, 5], []),
  (49, .goto (-49), 3, 0, [], [], []),
  (52, .aload_n 0, 1, 0, [], [], []),
  (53, .aload_n 0, 1, 0, [], [], []),
  (54, .getfield 21, 3, 0, [], [10, 5], []),
  (57, .putfield 24, 3, 0, [], [10, 6], []),
  (60, .aload_n 0, 1, 0, [], [], []),
  (61, .getfield 18, 3, 0, [], [10, 3], []),
  (64, .aload_n 0, 1, 0, [], [], []),
  (65, .getfield 27, 3, 0, [], [10, 4], []),
  (68, .if_icmp .le 28, 3, 96, [], [], []),
  (71, .aload_n 0, 1, 0, [], [], []),
  (72, .getfield 24, 3, 0, [], [10, 6], []),
  (75, .aload_n 0, 1, 0, [], [], []),
  (76, .getfield 27, 3, 0, [], [10, 4], []),
  (79, .if_icmp .lt 17, 3, 96, [], [], []),
  (82, .aload_n 0, 1, 0, [], [], []),
  (83, .aload_n 0, 1, 0, [], [], []),
  (84, .getfield 27, 3, 0, [], [10, 4], []),
  (87, .putfield 24, 3, 0, [], [10, 6], []),
  (90, .aload_n 0, 1, 0, [], [], []),
  (91, .iconst 1, 1, 0, [], [], []),
  (92, .putfield 30, 3, 0, [], [10, 7], []),
  (95, .return_, 1, 0, [], [], []),
  (96, .aload_n 0, 1, 0, [], [], []),
  (97, .getfield 21, 3, 0, [], [10, 5], []),
  (100, .aload_n 0, 1, 0, [], [], []),
  (101, .getfield 18, 3, 0, [], [10, 3], []),
  (104, .if_icmp .lt 9, 3, 113, [], [], []),
  (107, .aload_n 0, 1, 0, [], [], []),
  (108, .iconst 0, 1, 0, [], [], []),
  (109, .putfield 30, 3, 0, [], [10, 7], []),
  (112, .return_, 1, 0, [], [], []),
  (113, .aload_n 0, 1, 0, [], [], []),
  (114, .getfield 7, 3, 2, [], [10, 1], []),
  (117, .aload_n 0, 1, 0, [], [], []),
  (118, .getfield 21, 3, 0, [], [10, 5], []),
  (121, .iaload, 1, 0, [], [], []),
  (122, .istore_n 1, 1, 1, [], [], []),
  (123, .iload_n 1, 1, 1, [], [], []),
  (124, .invokestatic 33, 3, 158, [4, 1], [], []),
  (127, .ifCond .ne 71, 3, 198, [], [], []),
  (130, .iload_n 1, 1, 1, [], [], []),
  (131, .invokestatic 37, 3, 157, [4, 1], [], []),
  (134, .ifCond .ne 64, 3, 198, [], [], []),
  (137, .aload_n 0, 1, 0, [], [], []),
  (138, .iload_n 1, 1, 1, [], [], []),
  (139, .bipush 59, 2, 0, [], [], []),
  (141, .if_icmp .eq 33, 3, 174, [], [], []),
  (144, .iload_n 1, 1, 1, [], [], []),
  (145, .bipush 60, 2, 0, [], [], []),
  (147, .if_icmp .eq 27, 3, 174, [], [], []),
  (150, .iload_n 1, 1, 1, [], [], []),
  (151, .bipush 61, 2, 0, [], [], []),
  (153, .if_icmp .eq 21, 3, 174, [], [], []),
  (156, .iload_n 1, 1, 1, [], [], []),
  (157, .bipush 62, 2, 0, [], [], []),
  (159, .if_icmp .eq 15, 3, 174, [], [], []),
  (162, .iload_n 1, 1, 1, [], [], []),
  (163, .bipush 40, 2, 0, [], [], []),
  (165, .if_icmp .eq 9, 3, 174, [], [], []),
  (168, .iload_n 1, 1, 1, [], [], []),
  (169, .bipush 41, 2, 0, [], [], []),
  (171, .if_icmp .ne 7, 3, 178, [], [], []),
  (174, .iconst 4, 1, 0, [], [], []),
  (175, .goto 4, 3, 179, [], [], []),
  (178, .iconst 1, 1, 0, [], [], []),
  (179, .putfield 30, 3, 0, [], [10, 7], []),
  (182, .aload_n 0, 1, 0, [], [], []),
  (183, .iload_n 1, 1, 1, [], [], []),
  (184, .putfield 40, 3, 0, [], [10, 9], []),
  (187, .aload_n 0, 1, 0, [], [], []),
  (188, .dup, 1, 0, [], [], []),
  (189, .getfield 21, 3, 0, [], [10, 5], []),
  (192, .iconst 1, 1, 0, [], [], []),
  (193, .iadd, 1, 0, [], [], []),
  (194, .putfield 21, 3, 0, [], [10, 5], []),
  (197, .return_, 1, 0, [], [], []),
  (198, .iload_n 1, 1, 1, [], [], []),
  (199, .invokestatic 33, 3, 158, [4, 1], [], []),
  (202, .istore_n 2, 1, 2, [], [], []),
  (203, .iconst 1, 1, 0, [], [], []),
  (204, .istore_n 3, 1, 3, [], [], []),
  (205, .aload_n 0, 1, 0, [], [], []),
  (206, .lconst 0, 1, 0, [], [0], []),
  (207, .putfield 43, 3, 1, [], [10, 12], []),
  (210, .aload_n 0, 1, 0, [], [], []),
  (211, .iconst 0, 1, 0, [], [], []),
  (212, .putfield 47, 3, 0, [], [10, 8], []),
  (215, .aload_n 0, 1, 0, [], [], []),
  (216, .aload_n 0, 1, 0, [], [], []),
  (217, .getfield 21, 3, 0, [], [10, 5], []),
  (220, .invokevirtual 50, 3, 156, [1, 1], [10], []),
  (223, .invokestatic 33, 3, 158, [4, 1], [], []),
  (226, .ifCond .ne 17, 3, 243, [], [], []),
  (229, .aload_n 0, 1, 0, [], [], []),
  (230, .aload_n 0, 1, 0, [], [], []),
  (231, .getfield 21, 3, 0, [], [10, 5], []),
  (234, .invokevirtual 50, 3, 156, [1, 1], [10], []),
  (237, .invokestatic 37, 3, 157, [4, 1], [], []),
  (240, .ifCond .eq 110, 3, 350, [], [], []),
  (243, .aload_n 0, 1, 0, [], [], []),
  (244, .getfield 7, 3, 2, [], [10, 1], []),
  (247, .aload_n 0, 1, 0, [], [], []),
  (248, .getfield 21, 3, 0, [], [10, 5], []),
  (251, .iaload, 1, 0, [], [], []),
  (252, .istore 4, 2, 4, [], [], []),
  (254, .iload_n 3, 1, 3, [], [], []),
  (255, .ifCond .eq 16, 3, 271, [], [], []),
  (258, .iload 4, 2, 4, [], [], []),
  (260, .invokestatic 33, 3, 158, [4, 1], [], []),
  (263, .iload_n 2, 1, 2, [], [], []),
  (264, .if_icmp .ne 7, 3, 271, [], [], []),
  (267, .iconst 1, 1, 0, [], [], []),
  (268, .goto 4, 3, 272, [], [], []),
  (271, .iconst 0, 1, 0, [], [], []),
  (272, .istore_n 3, 1, 3, [], [], []),
  (273, .aload_n 0, 1, 0, [], [], []),
  (274, .getfield 21, 3, 0, [], [10, 5], []),
  (277, .aload_n 0, 1, 0, [], [], []),
  (278, .getfield 24, 3, 0, [], [10, 6], []),
  (281, .isub, 1, 0, [], [], []),
  (282, .bipush 7, 2, 0, [], [], []),
  (284, .if_icmp .ge 23, 3, 307, [], [], []),
  (287, .aload_n 0, 1, 0, [], [], []),
  (288, .ldc2_w 54, 3, 0, [], [27], []),
  (291, .aload_n 0, 1, 0, [], [], []),
  (292, .getfield 43, 3, 1, [], [10, 12], []),
  (295, .lmul, 1, 0, [], [], []),
  (296, .iload 4, 2, 4, [], [], []),
  (298, .i2l, 1, 0, [], [], []),
  (299, .ladd, 1, 0, [], [], []),
  (300, .ldc2_w 56, 3, 0, [], [96], []),
  (303, .lsub, 1, 0, [], [], []),
  (304, .putfield 43, 3, 1, [], [10, 12], []),
  (307, .aload_n 0, 1, 0, [], [], []),
  (308, .getfield 21, 3, 0, [], [10, 5], []),
  (311, .aload_n 0, 1, 0, [], [], []),
  (312, .getfield 24, 3, 0, [], [10, 6], []),
  (315, .isub, 1, 0, [], [], []),
  (316, .iconst 3, 1, 0, [], [], []),
  (317, .if_icmp .ge 20, 3, 337, [], [], []),
  (320, .aload_n 0, 1, 0, [], [], []),
  (321, .bipush 10, 2, 0, [], [], []),
  (323, .aload_n 0, 1, 0, [], [], []),
  (324, .getfield 47, 3, 0, [], [10, 8], []),
  (327, .imul, 1, 0, [], [], []),
  (328, .iload 4, 2, 4, [], [], []),
  (330, .iadd, 1, 0, [], [], []),
  (331, .bipush 48, 2, 0, [], [], []),
  (333, .isub, 1, 0, [], [], []),
  (334, .putfield 47, 3, 0, [], [10, 8], []),
  (337, .aload_n 0, 1, 0, [], [], []),
  (338, .dup, 1, 0, [], [], []),
  (339, .getfield 21, 3, 0, [], [10, 5], []),
  (342, .iconst 1, 1, 0, [], [], []),
  (343, .iadd, 1, 0, [], [], []),
  (344, .putfield 21, 3, 0, [], [10, 5], []),
  (347, .goto (-132), 3, 215, [], [], []),
  (350, .aload_n 0, 1, 0, [], [], []),
  (351, .iload_n 3, 1, 3, [], [], []),
  (352, .ifCond .eq 25, 3, 377, [], [], []),
  (355, .aload_n 0, 1, 0, [], [], []),
  (356, .getfield 21, 3, 0, [], [10, 5], []),
  (359, .aload_n 0, 1, 0, [], [], []),
  (360, .getfield 24, 3, 0, [], [10, 6], []),
  (363, .isub, 1, 0, [], [], []),
  (364, .iload_n 2, 1, 2, [], [], []),
  (365, .ifCond .eq 8, 3, 373, [], [], []),
  (368, .bipush 7, 2, 0, [], [], []),
  (370, .goto 4, 3, 374, [], [], []),
  (373, .iconst 3, 1, 0, [], [], []),
  (374, .if_icmp .le 7, 3, 381, [], [], []),
  (377, .iconst 1, 1, 0, [], [], []),
  (378, .goto 12, 3, 390, [], [], []),
  (381, .iload_n 2, 1, 2, [], [], []),
  (382, .ifCond .eq 7, 3, 389, [], [], []),
  (385, .iconst 2, 1, 0, [], [], []),
  (386, .goto 4, 3, 390, [], [], []),
  (389, .iconst 3, 1, 0, [], [], []),
  (390, .putfield 30, 3, 0, [], [10, 7], []),
  (393, .return_, 1, 0, [], [], [])], [(0, [true, false, false, false, false]), (96, [true, false, false, false, false]), (215, [true, false, true, true, false]), (272, [true, false, true, false, true])])
def mX12_spelt : sM := (9, 2, [
  (0, .ldc2_w 54, 3, 0, [], [27], []),
  (3, .iload_n 0, 1, 0, [], [], []),
  (4, .i2l, 1, 0, [], [], []),
  (5, .ldc2_w 56, 3, 0, [], [96], []),
  (8, .lsub, 1, 0, [], [], []),
  (9, .lmul, 1, 0, [], [], []),
  (10, .iload_n 1, 1, 1, [], [], []),
  (11, .i2l, 1, 0, [], [], []),
  (12, .ladd, 1, 0, [], [], []),
  (13, .ldc2_w 56, 3, 0, [], [96], []),
  (16, .lsub, 1, 0, [], [], []),
  (17, .lstore 7, 2, 7, [], [], []),
  (19, .iload_n 2, 1, 2, [], [], []),
  (20, .ifCond .le 18, 3, 38, [], [], []),
  (23, .ldc2_w 54, 3, 0, [], [27], []),
  (26, .lload 7, 2, 7, [], [], []),
  (28, .lmul, 1, 0, [], [], []),
  (29, .iload_n 2, 1, 2, [], [], []),
  (30, .i2l, 1, 0, [], [], []),
  (31, .ladd, 1, 0, [], [], []),
  (32, .ldc2_w 56, 3, 0, [], [96], []),
  (35, .lsub, 1, 0, [], [], []),
  (36, .lstore 7, 2, 7, [], [], []),
  (38, .iload_n 3, 1, 3, [], [], []),
  (39, .ifCond .le 18, 3, 57, [], [], []),
  (42, .ldc2_w 54, 3, 0, [], [27], []),
  (45, .lload 7, 2, 7, [], [], []),
  (47, .lmul, 1, 0, [], [], []),
  (48, .iload_n 3, 1, 3, [], [], []),
  (49, .i2l, 1, 0, [], [], []),
  (50, .ladd, 1, 0, [], [], []),
  (51, .ldc2_w 56, 3, 0, [], [96], []),
  (54, .lsub, 1, 0, [], [], []),
  (55, .lstore 7, 2, 7, [], [], []),
  (57, .iload 4, 2, 4, [], [], []),
  (59, .ifCond .le 19, 3, 78, [], [], []),
  (62, .ldc2_w 54, 3, 0, [], [27], []),
  (65, .lload 7, 2, 7, [], [], []),
  (67, .lmul, 1, 0, [], [], []),
  (68, .iload 4, 2, 4, [], [], []),
  (70, .i2l, 1, 0, [], [], []),
  (71, .ladd, 1, 0, [], [], []),
  (72, .ldc2_w 56, 3, 0, [], [96], []),
  (75, .lsub, 1, 0, [], [], []),
  (76, .lstore 7, 2, 7, [], [], []),
  (78, .iload 5, 2, 5, [], [], []),
  (80, .ifCond .le 19, 3, 99, [], [], []),
  (83, .ldc2_w 54, 3, 0, [], [27], []),
  (86, .lload 7, 2, 7, [], [], []),
  (88, .lmul, 1, 0, [], [], []),
  (89, .iload 5, 2, 5, [], [], []),
  (91, .i2l, 1, 0, [], [], []),
  (92, .ladd, 1, 0, [], [], []),
  (93, .ldc2_w 56, 3, 0, [], [96], []),
  (96, .lsub, 1, 0, [], [], []),
  (97, .lstore 7, 2, 7, [], [], []),
  (99, .iload 6, 2, 6, [], [], []),
  (101, .ifCond .le 19, 3, 120, [], [], []),
  (104, .ldc2_w 54, 3, 0, [], [27], []),
  (107, .lload 7, 2, 7, [], [], []),
  (109, .lmul, 1, 0, [], [], []),
  (110, .iload 6, 2, 6, [], [], []),
  (112, .i2l, 1, 0, [], [], []),
  (113, .ladd, 1, 0, [], [], []),
  (114, .ldc2_w 56, 3, 0, [], [96], []),
  (117, .lsub, 1, 0, [], [], []),
  (118, .lstore 7, 2, 7, [], [], []),
  (120, .lload 7, 2, 7, [], [], []),
  (122, .lreturn, 1, 0, [], [], [])], [(78, [false, false, false, false, false, true, true, true, false])])
def mX12_wordOf : sM := (1, 2, [
  (0, .iload_n 0, 1, 0, [], [], []),
  (1, .tableswitch 435 0 21 #[103, 118, 132, 150, 164, 178, 192, 207, 222, 238, 253, 269, 282, 296, 310, 326, 341, 356, 373, 388, 403, 418], 103, 436, [], [], [(0, 104), (1, 119), (2, 133), (3, 151), (4, 165), (5, 179), (6, 193), (7, 208), (8, 223), (9, 239), (10, 254), (11, 270), (12, 283), (13, 297), (14, 311), (15, 327), (16, 342), (17, 357), (18, 374), (19, 389), (20, 404), (21, 419)]),
  (104, .bipush 108, 2, 0, [], [], []),
  (106, .bipush 101, 2, 0, [], [], []),
  (108, .bipush 97, 2, 0, [], [], []),
  (110, .bipush 102, 2, 0, [], [], []),
  (112, .iconst 0, 1, 0, [], [], []),
  (113, .iconst 0, 1, 0, [], [], []),
  (114, .iconst 0, 1, 0, [], [], []),
  (115, .invokestatic 58, 3, 160, [2, 7], [], []),
  (118, .lreturn, 1, 0, [], [], []),
  (119, .bipush 114, 2, 0, [], [], []),
  (121, .bipush 111, 2, 0, [], [], []),
  (123, .bipush 119, 2, 0, [], [], []),
  (125, .iconst 0, 1, 0, [], [], []),
  (126, .iconst 0, 1, 0, [], [], []),
  (127, .iconst 0, 1, 0, [], [], []),
  (128, .iconst 0, 1, 0, [], [], []),
  (129, .invokestatic 58, 3, 160, [2, 7], [], []),
  (132, .lreturn, 1, 0, [], [], []),
  (133, .bipush 108, 2, 0, [], [], []),
  (135, .bipush 101, 2, 0, [], [], []),
  (137, .bipush 116, 2, 0, [], [], []),
  (139, .bipush 116, 2, 0, [], [], []),
  (141, .bipush 101, 2, 0, [], [], []),
  (143, .bipush 114, 2, 0, [], [], []),
  (145, .bipush 115, 2, 0, [], [], []),
  (147, .invokestatic 58, 3, 160, [2, 7], [], []),
  (150, .lreturn, 1, 0, [], [], []),
  (151, .bipush 112, 2, 0, [], [], []),
  (153, .bipush 117, 2, 0, [], [], []),
  (155, .bipush 116, 2, 0, [], [], []),
  (157, .iconst 0, 1, 0, [], [], []),
  (158, .iconst 0, 1, 0, [], [], []),
  (159, .iconst 0, 1, 0, [], [], []),
  (160, .iconst 0, 1, 0, [], [], []),
  (161, .invokestatic 58, 3, 160, [2, 7], [], []),
  (164, .lreturn, 1, 0, [], [], []),
  (165, .bipush 115, 2, 0, [], [], []),
  (167, .bipush 101, 2, 0, [], [], []),
  (169, .bipush 116, 2, 0, [], [], []),
  (171, .iconst 0, 1, 0, [], [], []),
  (172, .iconst 0, 1, 0, [], [], []),
  (173, .iconst 0, 1, 0, [], [], []),
  (174, .iconst 0, 1, 0, [], [], []),
  (175, .invokestatic 58, 3, 160, [2, 7], [], []),
  (178, .lreturn, 1, 0, [], [], []),
  (179, .bipush 99, 2, 0, [], [], []),
  (181, .bipush 117, 2, 0, [], [], []),
  (183, .bipush 116, 2, 0, [], [], []),
  (185, .iconst 0, 1, 0, [], [], []),
  (186, .iconst 0, 1, 0, [], [], []),
  (187, .iconst 0, 1, 0, [], [], []),
  (188, .iconst 0, 1, 0, [], [], []),
  (189, .invokestatic 58, 3, 160, [2, 7], [], []),
  (192, .lreturn, 1, 0, [], [], []),
  (193, .bipush 116, 2, 0, [], [], []),
  (195, .bipush 117, 2, 0, [], [], []),
  (197, .bipush 114, 2, 0, [], [], []),
  (199, .bipush 110, 2, 0, [], [], []),
  (201, .iconst 0, 1, 0, [], [], []),
  (202, .iconst 0, 1, 0, [], [], []),
  (203, .iconst 0, 1, 0, [], [], []),
  (204, .invokestatic 58, 3, 160, [2, 7], [], []),
  (207, .lreturn, 1, 0, [], [], []),
  (208, .bipush 106, 2, 0, [], [], []),
  (210, .bipush 111, 2, 0, [], [], []),
  (212, .bipush 105, 2, 0, [], [], []),
  (214, .bipush 110, 2, 0, [], [], []),
  (216, .iconst 0, 1, 0, [], [], []),
  (217, .iconst 0, 1, 0, [], [], []),
  (218, .iconst 0, 1, 0, [], [], []),
  (219, .invokestatic 58, 3, 160, [2, 7], [], []),
  (222, .lreturn, 1, 0, [], [], []),
  (223, .bipush 115, 2, 0, [], [], []),
  (225, .bipush 112, 2, 0, [], [], []),
  (227, .bipush 108, 2, 0, [], [], []),
  (229, .bipush 105, 2, 0, [], [], []),
  (231, .bipush 116, 2, 0, [], [], []),
  (233, .iconst 0, 1, 0, [], [], []),
  (234, .iconst 0, 1, 0, [], [], []),
  (235, .invokestatic 58, 3, 160, [2, 7], [], []),
  (238, .lreturn, 1, 0, [], [], []),
  (239, .bipush 116, 2, 0, [], [], []),
  (241, .bipush 121, 2, 0, [], [], []),
  (243, .bipush 112, 2, 0, [], [], []),
  (245, .bipush 101, 2, 0, [], [], []),
  (247, .iconst 0, 1, 0, [], [], []),
  (248, .iconst 0, 1, 0, [], [], []),
  (249, .iconst 0, 1, 0, [], [], []),
  (250, .invokestatic 58, 3, 160, [2, 7], [], []),
  (253, .lreturn, 1, 0, [], [], []),
  (254, .bipush 101, 2, 0, [], [], []),
  (256, .bipush 114, 2, 0, [], [], []),
  (258, .bipush 97, 2, 0, [], [], []),
  (260, .bipush 115, 2, 0, [], [], []),
  (262, .bipush 101, 2, 0, [], [], []),
  (264, .iconst 0, 1, 0, [], [], []),
  (265, .iconst 0, 1, 0, [], [], []),
  (266, .invokestatic 58, 3, 160, [2, 7], [], []),
  (269, .lreturn, 1, 0, [], [], []),
  (270, .bipush 111, 2, 0, [], [], []),
  (272, .bipush 114, 2, 0, [], [], []),
  (274, .iconst 0, 1, 0, [], [], []),
  (275, .iconst 0, 1, 0, [], [], []),
  (276, .iconst 0, 1, 0, [], [], []),
  (277, .iconst 0, 1, 0, [], [], []),
  (278, .iconst 0, 1, 0, [], [], []),
  (279, .invokestatic 58, 3, 160, [2, 7], [], []),
  (282, .lreturn, 1, 0, [], [], []),
  (283, .bipush 97, 2, 0, [], [], []),
  (285, .bipush 110, 2, 0, [], [], []),
  (287, .bipush 100, 2, 0, [], [], []),
  (289, .iconst 0, 1, 0, [], [], []),
  (290, .iconst 0, 1, 0, [], [], []),
  (291, .iconst 0, 1, 0, [], [], []),
  (292, .iconst 0, 1, 0, [], [], []),
  (293, .invokestatic 58, 3, 160, [2, 7], [], []),
  (296, .lreturn, 1, 0, [], [], []),
  (297, .bipush 110, 2, 0, [], [], []),
  (299, .bipush 111, 2, 0, [], [], []),
  (301, .bipush 116, 2, 0, [], [], []),
  (303, .iconst 0, 1, 0, [], [], []),
  (304, .iconst 0, 1, 0, [], [], []),
  (305, .iconst 0, 1, 0, [], [], []),
  (306, .iconst 0, 1, 0, [], [], []),
  (307, .invokestatic 58, 3, 160, [2, 7], [], []),
  (310, .lreturn, 1, 0, [], [], []),
  (311, .bipush 101, 2, 0, [], [], []),
  (313, .bipush 109, 2, 0, [], [], []),
  (315, .bipush 112, 2, 0, [], [], []),
  (317, .bipush 116, 2, 0, [], [], []),
  (319, .bipush 121, 2, 0, [], [], []),
  (321, .iconst 0, 1, 0, [], [], []),
  (322, .iconst 0, 1, 0, [], [], []),
  (323, .invokestatic 58, 3, 160, [2, 7], [], []),
  (326, .lreturn, 1, 0, [], [], []),
  (327, .bipush 101, 2, 0, [], [], []),
  (329, .bipush 118, 2, 0, [], [], []),
  (331, .bipush 101, 2, 0, [], [], []),
  (333, .bipush 110, 2, 0, [], [], []),
  (335, .iconst 0, 1, 0, [], [], []),
  (336, .iconst 0, 1, 0, [], [], []),
  (337, .iconst 0, 1, 0, [], [], []),
  (338, .invokestatic 58, 3, 160, [2, 7], [], []),
  (341, .lreturn, 1, 0, [], [], []),
  (342, .bipush 108, 2, 0, [], [], []),
  (344, .bipush 105, 2, 0, [], [], []),
  (346, .bipush 107, 2, 0, [], [], []),
  (348, .bipush 101, 2, 0, [], [], []),
  (350, .iconst 0, 1, 0, [], [], []),
  (351, .iconst 0, 1, 0, [], [], []),
  (352, .iconst 0, 1, 0, [], [], []),
  (353, .invokestatic 58, 3, 160, [2, 7], [], []),
  (356, .lreturn, 1, 0, [], [], []),
  (357, .bipush 98, 2, 0, [], [], []),
  (359, .bipush 101, 2, 0, [], [], []),
  (361, .bipush 103, 2, 0, [], [], []),
  (363, .bipush 105, 2, 0, [], [], []),
  (365, .bipush 110, 2, 0, [], [], []),
  (367, .bipush 115, 2, 0, [], [], []),
  (369, .iconst 0, 1, 0, [], [], []),
  (370, .invokestatic 58, 3, 160, [2, 7], [], []),
  (373, .lreturn, 1, 0, [], [], []),
  (374, .bipush 115, 2, 0, [], [], []),
  (376, .bipush 105, 2, 0, [], [], []),
  (378, .bipush 122, 2, 0, [], [], []),
  (380, .bipush 101, 2, 0, [], [], []),
  (382, .iconst 0, 1, 0, [], [], []),
  (383, .iconst 0, 1, 0, [], [], []),
  (384, .iconst 0, 1, 0, [], [], []),
  (385, .invokestatic 58, 3, 160, [2, 7], [], []),
  (388, .lreturn, 1, 0, [], [], []),
  (389, .bipush 111, 2, 0, [], [], []),
  (391, .bipush 110, 2, 0, [], [], []),
  (393, .bipush 101, 2, 0, [], [], []),
  (395, .bipush 115, 2, 0, [], [], []),
  (397, .iconst 0, 1, 0, [], [], []),
  (398, .iconst 0, 1, 0, [], [], []),
  (399, .iconst 0, 1, 0, [], [], []),
  (400, .invokestatic 58, 3, 160, [2, 7], [], []),
  (403, .lreturn, 1, 0, [], [], []),
  (404, .bipush 114, 2, 0, [], [], []),
  (406, .bipush 117, 2, 0, [], [], []),
  (408, .bipush 110, 2, 0, [], [], []),
  (410, .bipush 115, 2, 0, [], [], []),
  (412, .iconst 0, 1, 0, [], [], []),
  (413, .iconst 0, 1, 0, [], [], []),
  (414, .iconst 0, 1, 0, [], [], []),
  (415, .invokestatic 58, 3, 160, [2, 7], [], []),
  (418, .lreturn, 1, 0, [], [], []),
  (419, .bipush 108, 2, 0, [], [], []),
  (421, .bipush 101, 2, 0, [], [], []),
  (423, .bipush 97, 2, 0, [], [], []),
  (425, .bipush 118, 2, 0, [], [], []),
  (427, .bipush 101, 2, 0, [], [], []),
  (429, .bipush 115, 2, 0, [], [], []),
  (431, .iconst 0, 1, 0, [], [], []),
  (432, .invokestatic 58, 3, 160, [2, 7], [], []),
  (435, .lreturn, 1, 0, [], [], []),
  (436, .bipush 110, 2, 0, [], [], []),
  (438, .bipush 117, 2, 0, [], [], []),
  (440, .bipush 109, 2, 0, [], [], []),
  (442, .bipush 98, 2, 0, [], [], []),
  (444, .bipush 101, 2, 0, [], [], []),
  (446, .bipush 114, 2, 0, [], [], []),
  (448, .iconst 0, 1, 0, [], [], []),
  (449, .invokestatic 58, 3, 160, [2, 7], [], []),
  (452, .lreturn, 1, 0, [], [], [])], [])
def mX12_isWord : sM := (2, 4, [
  (0, .aload_n 0, 1, 0, [], [], []),
  (1, .getfield 30, 3, 0, [], [10, 7], []),
  (4, .iconst 2, 1, 0, [], [], []),
  (5, .if_icmp .ne 19, 3, 24, [], [], []),
  (8, .aload_n 0, 1, 0, [], [], []),
  (9, .getfield 43, 3, 1, [], [10, 12], []),
  (12, .iload_n 1, 1, 1, [], [], []),
  (13, .invokestatic 62, 3, 161, [2, 1], [], []),
  (16, .lcmp, 1, 0, [], [], []),
  (17, .ifCond .ne 7, 3, 24, [], [], []),
  (20, .iconst 1, 1, 0, [], [], []),
  (21, .goto 4, 3, 25, [], [], []),
  (24, .iconst 0, 1, 0, [], [], []),
  (25, .ireturn, 1, 0, [], [], [])], [])
def mX12_isSign : sM := (2, 4, [
  (0, .aload_n 0, 1, 0, [], [], []),
  (1, .getfield 30, 3, 0, [], [10, 7], []),
  (4, .iconst 4, 1, 0, [], [], []),
  (5, .if_icmp .ne 15, 3, 20, [], [], []),
  (8, .aload_n 0, 1, 0, [], [], []),
  (9, .getfield 40, 3, 0, [], [10, 9], []),
  (12, .iload_n 1, 1, 1, [], [], []),
  (13, .if_icmp .ne 7, 3, 20, [], [], []),
  (16, .iconst 1, 1, 0, [], [], []),
  (17, .goto 4, 3, 21, [], [], []),
  (20, .iconst 0, 1, 0, [], [], []),
  (21, .ireturn, 1, 0, [], [], [])], [])
def mX12_isName : sM := (2, 4, [
  (0, .aload_n 0, 1, 0, [], [], []),
  (1, .getfield 30, 3, 0, [], [10, 7], []),
  (4, .iconst 2, 1, 0, [], [], []),
  (5, .if_icmp .eq 5, 3, 10, [], [], []),
  (8, .iconst 0, 1, 0, [], [], []),
  (9, .ireturn, 1, 0, [], [], []),
  (10, .iconst 0, 1, 0, [], [], []),
  (11, .istore_n 1, 1, 1, [], [], []),
  (12, .iload_n 1, 1, 1, [], [], []),
  (13, .bipush 22, 2, 0, [], [], []),
  (15, .if_icmp .gt 23, 3, 38, [], [], []),
  (18, .aload_n 0, 1, 0, [], [], []),
  (19, .getfield 43, 3, 1, [], [10, 12], []),
  (22, .iload_n 1, 1, 1, [], [], []),
  (23, .invokestatic 62, 3, 161, [2, 1], [], []),
  (26, .lcmp, 1, 0, [], [], []),
  (27, .ifCond .ne 5, 3, 32, [], [], []),
  (30, .iconst 0, 1, 0, [], [], []),
  (31, .ireturn, 1, 0, [], [], []),
  (32, .iinc 1 1, 3, 1, [], [], []),
  (35, .goto (-23), 3, 12, [], [], []),
  (38, .iconst 1, 1, 0, [], [], []),
  (39, .ireturn, 1, 0, [], [], [])], [(12, [true, true])])
def mX12_bad : sM := (2, 4, [
  (0, .aload_n 0, 1, 0, [], [], []),
  (1, .aload_n 0, 1, 0, [], [], []),
  (2, .getfield 30, 3, 0, [], [10, 7], []),
  (5, .iconst 1, 1, 0, [], [], []),
  (6, .if_icmp .ne 7, 3, 13, [], [], []),
  (9, .iconst 1, 1, 0, [], [], []),
  (10, .goto 4, 3, 14, [], [], []),
  (13, .iload_n 1, 1, 1, [], [], []),
  (14, .putfield 66, 3, 0, [], [10, 10], []),
  (17, .aload_n 0, 1, 0, [], [], []),
  (18, .aload_n 0, 1, 0, [], [], []),
  (19, .getfield 24, 3, 0, [], [10, 6], []),
  (22, .putfield 69, 3, 0, [], [10, 11], []),
  (25, .iconst 0, 1, 0, [], [], []),
  (26, .ireturn, 1, 0, [], [], [])], [])
def mX12_readNumber : sM := (3, 4, [
  (0, .aload_n 0, 1, 0, [], [], []),
  (1, .getfield 30, 3, 0, [], [10, 7], []),
  (4, .iconst 3, 1, 0, [], [], []),
  (5, .if_icmp .eq 9, 3, 14, [], [], []),
  (8, .aload_n 0, 1, 0, [], [], []),
  (9, .iconst 1, 1, 0, [], [], []),
  (10, .invokevirtual 72, 3, 165, [4, 1], [10], []),
  (13, .ireturn, 1, 0, [], [], []),
  (14, .aload_n 0, 1, 0, [], [], []),
  (15, .getfield 47, 3, 0, [], [10, 8], []),
  (18, .iload_n 1, 1, 1, [], [], []),
  (19, .iload_n 2, 1, 2, [], [], []),
  (20, .invokestatic 75, 3, 155, [4, 3], [], []),
  (23, .ifCond .ne 9, 3, 32, [], [], []),
  (26, .aload_n 0, 1, 0, [], [], []),
  (27, .iconst 2, 1, 0, [], [], []),
  (28, .invokevirtual 72, 3, 165, [4, 1], [10], []),
  (31, .ireturn, 1, 0, [], [], []),
  (32, .aload_n 0, 1, 0, [], [], []),
  (33, .aload_n 0, 1, 0, [], [], []),
  (34, .getfield 47, 3, 0, [], [10, 8], []),
  (37, .putfield 79, 3, 0, [], [10, 13], []),
  (40, .aload_n 0, 1, 0, [], [], []),
  (41, .invokevirtual 82, 3, 159, [0, 0], [10], []),
  (44, .iconst 1, 1, 0, [], [], []),
  (45, .ireturn, 1, 0, [], [], [])], [])
def mX12_readEnd : sM := (1, 4, [
  (0, .aload_n 0, 1, 0, [], [], []),
  (1, .bipush 59, 2, 0, [], [], []),
  (3, .invokevirtual 86, 3, 163, [4, 1], [10], []),
  (6, .ifCond .ne 9, 3, 15, [], [], []),
  (9, .aload_n 0, 1, 0, [], [], []),
  (10, .iconst 1, 1, 0, [], [], []),
  (11, .invokevirtual 72, 3, 165, [4, 1], [10], []),
  (14, .ireturn, 1, 0, [], [], []),
  (15, .aload_n 0, 1, 0, [], [], []),
  (16, .invokevirtual 82, 3, 159, [0, 0], [10], []),
  (19, .iconst 1, 1, 0, [], [], []),
  (20, .ireturn, 1, 0, [], [], [])], [])
def mX12_begin : sM := (2, 0, [
  (0, .aload_n 0, 1, 0, [], [], []),
  (1, .iconst 0, 1, 0, [], [], []),
  (2, .putfield 1, 3, 0, [], [10, 0], []),
  (5, .aload_n 0, 1, 0, [], [], []),
  (6, .aload_n 0, 1, 0, [], [], []),
  (7, .invokevirtual 89, 3, 154, [1, 0], [10], []),
  (10, .putfield 18, 3, 0, [], [10, 3], []),
  (13, .aload_n 0, 1, 0, [], [], []),
  (14, .iload_n 1, 1, 1, [], [], []),
  (15, .putfield 27, 3, 0, [], [10, 4], []),
  (18, .aload_n 0, 1, 0, [], [], []),
  (19, .iconst 0, 1, 0, [], [], []),
  (20, .putfield 66, 3, 0, [], [10, 10], []),
  (23, .aload_n 0, 1, 0, [], [], []),
  (24, .iconst 0, 1, 0, [], [], []),
  (25, .putfield 21, 3, 0, [], [10, 5], []),
  (28, .aload_n 0, 1, 0, [], [], []),
  (29, .invokevirtual 82, 3, 159, [0, 0], [10], []),
  (32, .return_, 1, 0, [], [], [])], [])
def mX12_init : sM := (1, 0, [
  (0, .aload_n 0, 1, 0, [], [], []),
  (1, .invokespecial 93, 3, 0, [], [10], []),
  (4, .aload_n 0, 1, 0, [], [], []),
  (5, .sipush 940, 3, 0, [], [], []),
  (8, .newarray .int, 2, 0, [], [20], []),
  (10, .putfield 7, 3, 2, [], [10, 1], []),
  (13, .aload_n 0, 1, 0, [], [], []),
  (14, .sipush 6062, 3, 0, [], [], []),
  (17, .newarray .int, 2, 0, [], [20], []),
  (19, .putfield 98, 3, 2, [], [10, 14], []),
  (22, .aload_n 0, 1, 0, [], [], []),
  (23, .sipush 2607, 3, 0, [], [], []),
  (26, .newarray .int, 2, 0, [], [20], []),
  (28, .putfield 101, 3, 2, [], [10, 15], []),
  (31, .aload_n 0, 1, 0, [], [], []),
  (32, .sipush 12124, 3, 0, [], [], []),
  (35, .newarray .int, 2, 0, [], [20], []),
  (37, .putfield 104, 3, 2, [], [10, 16], []),
  (40, .aload_n 0, 1, 0, [], [], []),
  (41, .sipush 25704, 3, 0, [], [], []),
  (44, .newarray .int, 2, 0, [], [20], []),
  (46, .putfield 107, 3, 2, [], [10, 17], []),
  (49, .aload_n 0, 1, 0, [], [], []),
  (50, .sipush 3213, 3, 0, [], [], []),
  (53, .newarray .int, 2, 0, [], [20], []),
  (55, .putfield 110, 3, 2, [], [10, 18], []),
  (58, .aload_n 0, 1, 0, [], [], []),
  (59, .sipush 3213, 3, 0, [], [], []),
  (62, .newarray .int, 2, 0, [], [20], []),
  (64, .putfield 113, 3, 2, [], [10, 19], []),
  (67, .aload_n 0, 1, 0, [], [], []),
  (68, .iconst 4, 1, 0, [], [], []),
  (69, .newarray .long, 2, 0, [], [22], []),
  (71, .putfield 116, 3, 2, [], [10, 20], []),
  (74, .aload_n 0, 1, 0, [], [], []),
  (75, .iconst 4, 1, 0, [], [], []),
  (76, .newarray .long, 2, 0, [], [22], []),
  (78, .putfield 120, 3, 2, [], [10, 21], []),
  (81, .aload_n 0, 1, 0, [], [], []),
  (82, .bipush 8, 2, 0, [], [], []),
  (84, .newarray .long, 2, 0, [], [22], []),
  (86, .putfield 123, 3, 2, [], [10, 22], []),
  (89, .aload_n 0, 1, 0, [], [], []),
  (90, .iconst 2, 1, 0, [], [], []),
  (91, .newarray .boolean, 2, 0, [], [23], []),
  (93, .putfield 126, 3, 2, [], [10, 23], []),
  (96, .aload_n 0, 1, 0, [], [], []),
  (97, .sipush 600, 3, 0, [], [], []),
  (100, .newarray .int, 2, 0, [], [20], []),
  (102, .putfield 130, 3, 2, [], [10, 27], []),
  (105, .aload_n 0, 1, 0, [], [], []),
  (106, .sipush 160, 3, 0, [], [], []),
  (109, .newarray .int, 2, 0, [], [20], []),
  (111, .putfield 133, 3, 2, [], [10, 30], []),
  (114, .aload_n 0, 1, 0, [], [], []),
  (115, .iconst 4, 1, 0, [], [], []),
  (116, .newarray .int, 2, 0, [], [20], []),
  (118, .putfield 136, 3, 2, [], [10, 31], []),
  (121, .aload_n 0, 1, 0, [], [], []),
  (122, .sipush 240, 3, 0, [], [], []),
  (125, .newarray .int, 2, 0, [], [20], []),
  (127, .putfield 139, 3, 2, [], [10, 34], []),
  (130, .aload_n 0, 1, 0, [], [], []),
  (131, .getfield 98, 3, 2, [], [10, 14], []),
  (134, .iconst 1, 1, 0, [], [], []),
  (135, .bipush 8, 2, 0, [], [], []),
  (137, .iastore, 1, 0, [], [], []),
  (138, .return_, 1, 0, [], [], [])], [])
def mX12_startSo : sM := (3, 0, [
  (0, .sipush 2607, 3, 0, [], [], []),
  (3, .istore_n 1, 1, 1, [], [], []),
  (4, .iload_n 1, 1, 1, [], [], []),
  (5, .sipush 6062, 3, 0, [], [], []),
  (8, .if_icmp .ge 16, 3, 24, [], [], []),
  (11, .aload_n 0, 1, 0, [], [], []),
  (12, .getfield 98, 3, 2, [], [10, 14], []),
  (15, .iload_n 1, 1, 1, [], [], []),
  (16, .iconst 0, 1, 0, [], [], []),
  (17, .iastore, 1, 0, [], [], []),
  (18, .iinc 1 1, 3, 1, [], [], []),
  (21, .goto (-17), 3, 4, [], [], []),
  (24, .iconst 0, 1, 0, [], [], []),
  (25, .istore_n 1, 1, 1, [], [], []),
  (26, .iload_n 1, 1, 1, [], [], []),
  (27, .aload_n 0, 1, 0, [], [], []),
  (28, .getfield 98, 3, 2, [], [10, 14], []),
  (31, .iconst 0, 1, 0, [], [], []),
  (32, .iaload, 1, 0, [], [], []),
  (33, .if_icmp .ge 51, 3, 84, [], [], []),
  (36, .iconst 0, 1, 0, [], [], []),
  (37, .istore_n 2, 1, 2, [], [], []),
  (38, .iload_n 2, 1, 2, [], [], []),
  (39, .aload_n 0, 1, 0, [], [], []),
  (40, .getfield 98, 3, 2, [], [10, 14], []),
  (43, .iconst 2, 1, 0, [], [], []),
  (44, .iload_n 1, 1, 1, [], [], []),
  (45, .iadd, 1, 0, [], [], []),
  (46, .iaload, 1, 0, [], [], []),
  (47, .if_icmp .ge 31, 3, 78, [], [], []),
  (50, .aload_n 0, 1, 0, [], [], []),
  (51, .iload_n 1, 1, 1, [], [], []),
  (52, .iload_n 2, 1, 2, [], [], []),
  (53, .aload_n 0, 1, 0, [], [], []),
  (54, .getfield 98, 3, 2, [], [10, 14], []),
  (57, .sipush 207, 3, 0, [], [], []),
  (60, .sipush 600, 3, 0, [], [], []),
  (63, .iload_n 1, 1, 1, [], [], []),
  (64, .imul, 1, 0, [], [], []),
  (65, .iadd, 1, 0, [], [], []),
  (66, .iload_n 2, 1, 2, [], [], []),
  (67, .iadd, 1, 0, [], [], []),
  (68, .iaload, 1, 0, [], [], []),
  (69, .invokevirtual 142, 3, 185, [0, 3], [10], []),
  (72, .iinc 2 1, 3, 2, [], [], []),
  (75, .goto (-37), 3, 38, [], [], []),
  (78, .iinc 1 1, 3, 1, [], [], []),
  (81, .goto (-55), 3, 26, [], [], []),
  (84, .aload_n 0, 1, 0, [], [], []),
  (85, .getfield 98, 3, 2, [], [10, 14], []),
  (88, .sipush 2615, 3, 0, [], [], []),
  (91, .aload_n 0, 1, 0, [], [], []),
  (92, .getfield 98, 3, 2, [], [10, 14], []),
  (95, .bipush 6, 2, 0, [], [], []),
  (97, .iaload, 1, 0, [], [], []),
  (98, .iastore, 1, 0, [], [], []),
  (99, .iconst 0, 1, 0, [], [], []),
  (100, .istore_n 1, 1, 1, [], [], []),
  (101, .iload_n 1, 1, 1, [], [], []),
  (102, .sipush 200, 3, 0, [], [], []),
  (105, .if_icmp .ge 28, 3, 133, [], [], []),
  (108, .aload_n 0, 1, 0, [], [], []),
  (109, .getfield 98, 3, 2, [], [10, 14], []),
  (112, .sipush 2616, 3, 0, [], [], []),
  (115, .iload_n 1, 1, 1, [], [], []),
  (116, .iadd, 1, 0, [], [], []),
  (117, .aload_n 0, 1, 0, [], [], []),
  (118, .getfield 98, 3, 2, [], [10, 14], []),
  (121, .bipush 7, 2, 0, [], [], []),
  (123, .iload_n 1, 1, 1, [], [], []),
  (124, .iadd, 1, 0, [], [], []),
  (125, .iaload, 1, 0, [], [], []),
  (126, .iastore, 1, 0, [], [], []),
  (127, .iinc 1 1, 3, 1, [], [], []),
  (130, .goto (-29), 3, 101, [], [], []),
  (133, .return_, 1, 0, [], [], [])], [(4, [true, true, false]), (26, [true, true, false]), (38, [true, true, true]), (101, [true, true, false])])
def mX12_findIn : sM := (5, 1, [
  (0, .iconst 0, 1, 0, [], [], []),
  (1, .istore 4, 2, 4, [], [], []),
  (3, .iload 4, 2, 4, [], [], []),
  (5, .iload_n 1, 1, 1, [], [], []),
  (6, .if_icmp .ge 21, 3, 27, [], [], []),
  (9, .aload_n 0, 1, 0, [], [], []),
  (10, .iload 4, 2, 4, [], [], []),
  (12, .laload, 1, 0, [], [], []),
  (13, .lload_n 2, 1, 2, [], [], []),
  (14, .lcmp, 1, 0, [], [], []),
  (15, .ifCond .ne 6, 3, 21, [], [], []),
  (18, .iload 4, 2, 4, [], [], []),
  (20, .ireturn, 1, 0, [], [], []),
  (21, .iinc 4 1, 3, 4, [], [], []),
  (24, .goto (-21), 3, 3, [], [], []),
  (27, .iconst (-1), 1, 0, [], [], []),
  (28, .ireturn, 1, 0, [], [], [])], [(3, [true, true, true, false, true])])
def mX12_readLeaf : sM := (2, 4, [
  (0, .iload_n 1, 1, 1, [], [], []),
  (1, .ifCond .le 9, 3, 10, [], [], []),
  (4, .aload_n 0, 1, 0, [], [], []),
  (5, .iconst 3, 1, 0, [], [], []),
  (6, .invokevirtual 72, 3, 165, [4, 1], [10], []),
  (9, .ireturn, 1, 0, [], [], []),
  (10, .aload_n 0, 1, 0, [], [], []),
  (11, .invokevirtual 82, 3, 159, [0, 0], [10], []),
  (14, .aload_n 0, 1, 0, [], [], []),
  (15, .iconst 4, 1, 0, [], [], []),
  (16, .bipush 32, 2, 0, [], [], []),
  (18, .invokevirtual 146, 3, 166, [4, 2], [10], []),
  (21, .ifCond .ne 5, 3, 26, [], [], []),
  (24, .iconst 0, 1, 0, [], [], []),
  (25, .ireturn, 1, 0, [], [], []),
  (26, .aload_n 0, 1, 0, [], [], []),
  (27, .getfield 101, 3, 2, [], [10, 15], []),
  (30, .iconst 1, 1, 0, [], [], []),
  (31, .aload_n 0, 1, 0, [], [], []),
  (32, .getfield 79, 3, 0, [], [10, 13], []),
  (35, .iastore, 1, 0, [], [], []),
  (36, .iconst 1, 1, 0, [], [], []),
  (37, .ireturn, 1, 0, [], [], [])], [])
def mX12_areOf : sM := (3, 4, [
  (0, .aload_n 0, 1, 0, [], [], []),
  (1, .getfield 24, 3, 0, [], [10, 6], []),
  (4, .istore_n 2, 1, 2, [], [], []),
  (5, .iload_n 2, 1, 2, [], [], []),
  (6, .aload_n 0, 1, 0, [], [], []),
  (7, .getfield 21, 3, 0, [], [10, 5], []),
  (10, .if_icmp .ge 21, 3, 31, [], [], []),
  (13, .aload_n 0, 1, 0, [], [], []),
  (14, .getfield 7, 3, 2, [], [10, 1], []),
  (17, .iload_n 2, 1, 2, [], [], []),
  (18, .iaload, 1, 0, [], [], []),
  (19, .iload_n 1, 1, 1, [], [], []),
  (20, .if_icmp .le 5, 3, 25, [], [], []),
  (23, .iconst 0, 1, 0, [], [], []),
  (24, .ireturn, 1, 0, [], [], []),
  (25, .iinc 2 1, 3, 2, [], [], []),
  (28, .goto (-23), 3, 5, [], [], []),
  (31, .iconst 1, 1, 0, [], [], []),
  (32, .ireturn, 1, 0, [], [], [])], [(5, [true, true, true])])
def mX12_areBits : sM := (2, 4, [
  (0, .aload_n 0, 1, 0, [], [], []),
  (1, .getfield 24, 3, 0, [], [10, 6], []),
  (4, .istore_n 1, 1, 1, [], [], []),
  (5, .iload_n 1, 1, 1, [], [], []),
  (6, .aload_n 0, 1, 0, [], [], []),
  (7, .getfield 21, 3, 0, [], [10, 5], []),
  (10, .if_icmp .ge 33, 3, 43, [], [], []),
  (13, .aload_n 0, 1, 0, [], [], []),
  (14, .getfield 7, 3, 2, [], [10, 1], []),
  (17, .iload_n 1, 1, 1, [], [], []),
  (18, .iaload, 1, 0, [], [], []),
  (19, .bipush 105, 2, 0, [], [], []),
  (21, .if_icmp .eq 16, 3, 37, [], [], []),
  (24, .aload_n 0, 1, 0, [], [], []),
  (25, .getfield 7, 3, 2, [], [10, 1], []),
  (28, .iload_n 1, 1, 1, [], [], []),
  (29, .iaload, 1, 0, [], [], []),
  (30, .bipush 111, 2, 0, [], [], []),
  (32, .if_icmp .eq 5, 3, 37, [], [], []),
  (35, .iconst 0, 1, 0, [], [], []),
  (36, .ireturn, 1, 0, [], [], []),
  (37, .iinc 1 1, 3, 1, [], [], []),
  (40, .goto (-35), 3, 5, [], [], []),
  (43, .iconst 1, 1, 0, [], [], []),
  (44, .ireturn, 1, 0, [], [], [])], [(5, [true, true])])
def mX12_readRow : sM := (3, 4, [
  (0, .aload_n 0, 1, 0, [], [], []),
  (1, .getfield 101, 3, 2, [], [10, 15], []),
  (4, .iconst 0, 1, 0, [], [], []),
  (5, .iaload, 1, 0, [], [], []),
  (6, .iconst 4, 1, 0, [], [], []),
  (7, .if_icmp .ne 9, 3, 16, [], [], []),
  (10, .aload_n 0, 1, 0, [], [], []),
  (11, .iconst 4, 1, 0, [], [], []),
  (12, .invokevirtual 72, 3, 165, [4, 1], [10], []),
  (15, .ireturn, 1, 0, [], [], []),
  (16, .aload_n 0, 1, 0, [], [], []),
  (17, .getfield 101, 3, 2, [], [10, 15], []),
  (20, .iconst 0, 1, 0, [], [], []),
  (21, .iaload, 1, 0, [], [], []),
  (22, .istore_n 1, 1, 1, [], [], []),
  (23, .aload_n 0, 1, 0, [], [], []),
  (24, .invokevirtual 82, 3, 159, [0, 0], [10], []),
  (27, .aload_n 0, 1, 0, [], [], []),
  (28, .invokevirtual 150, 3, 164, [4, 0], [10], []),
  (31, .ifCond .ne 9, 3, 40, [], [], []),
  (34, .aload_n 0, 1, 0, [], [], []),
  (35, .iconst 1, 1, 0, [], [], []),
  (36, .invokevirtual 72, 3, 165, [4, 1], [10], []),
  (39, .ireturn, 1, 0, [], [], []),
  (40, .aload_n 0, 1, 0, [], [], []),
  (41, .getfield 120, 3, 2, [], [10, 21], []),
  (44, .iload_n 1, 1, 1, [], [], []),
  (45, .aload_n 0, 1, 0, [], [], []),
  (46, .getfield 43, 3, 1, [], [10, 12], []),
  (49, .invokestatic 154, 3, 171, [1, 3], [], []),
  (52, .iconst (-1), 1, 0, [], [], []),
  (53, .if_icmp .eq 9, 3, 62, [], [], []),
  (56, .aload_n 0, 1, 0, [], [], []),
  (57, .iconst 3, 1, 0, [], [], []),
  (58, .invokevirtual 72, 3, 165, [4, 1], [10], []),
  (61, .ireturn, 1, 0, [], [], []),
  (62, .aload_n 0, 1, 0, [], [], []),
  (63, .getfield 120, 3, 2, [], [10, 21], []),
  (66, .iload_n 1, 1, 1, [], [], []),
  (67, .aload_n 0, 1, 0, [], [], []),
  (68, .getfield 43, 3, 1, [], [10, 12], []),
  (71, .lastore, 1, 0, [], [], []),
  (72, .aload_n 0, 1, 0, [], [], []),
  (73, .getfield 101, 3, 2, [], [10, 15], []),
  (76, .iconst 0, 1, 0, [], [], []),
  (77, .dup2, 1, 0, [], [], []),
  (78, .iaload, 1, 0, [], [], []),
  (79, .iconst 1, 1, 0, [], [], []),
  (80, .iadd, 1, 0, [], [], []),
  (81, .iastore, 1, 0, [], [], []),
  (82, .aload_n 0, 1, 0, [], [], []),
  (83, .invokevirtual 82, 3, 159, [0, 0], [10], []),
  (86, .aload_n 0, 1, 0, [], [], []),
  (87, .getfield 30, 3, 0, [], [10, 7], []),
  (90, .iconst 2, 1, 0, [], [], []),
  (91, .if_icmp .ne 123, 3, 214, [], [], []),
  (94, .aload_n 0, 1, 0, [], [], []),
  (95, .invokevirtual 158, 3, 174, [4, 0], [10], []),
  (98, .ifCond .ne 9, 3, 107, [], [], []),
  (101, .aload_n 0, 1, 0, [], [], []),
  (102, .iconst 2, 1, 0, [], [], []),
  (103, .invokevirtual 72, 3, 165, [4, 1], [10], []),
  (106, .ireturn, 1, 0, [], [], []),
  (107, .aload_n 0, 1, 0, [], [], []),
  (108, .getfield 101, 3, 2, [], [10, 15], []),
  (111, .iconst 2, 1, 0, [], [], []),
  (112, .iload_n 1, 1, 1, [], [], []),
  (113, .iadd, 1, 0, [], [], []),
  (114, .iaload, 1, 0, [], [], []),
  (115, .aload_n 0, 1, 0, [], [], []),
  (116, .getfield 21, 3, 0, [], [10, 5], []),
  (119, .iadd, 1, 0, [], [], []),
  (120, .aload_n 0, 1, 0, [], [], []),
  (121, .getfield 24, 3, 0, [], [10, 6], []),
  (124, .isub, 1, 0, [], [], []),
  (125, .sipush 600, 3, 0, [], [], []),
  (128, .if_icmp .le 9, 3, 137, [], [], []),
  (131, .aload_n 0, 1, 0, [], [], []),
  (132, .iconst 4, 1, 0, [], [], []),
  (133, .invokevirtual 72, 3, 165, [4, 1], [10], []),
  (136, .ireturn, 1, 0, [], [], []),
  (137, .aload_n 0, 1, 0, [], [], []),
  (138, .getfield 24, 3, 0, [], [10, 6], []),
  (141, .istore_n 2, 1, 2, [], [], []),
  (142, .iload_n 2, 1, 2, [], [], []),
  (143, .aload_n 0, 1, 0, [], [], []),
  (144, .getfield 21, 3, 0, [], [10, 5], []),
  (147, .if_icmp .ge 60, 3, 207, [], [], []),
  (150, .aload_n 0, 1, 0, [], [], []),
  (151, .getfield 101, 3, 2, [], [10, 15], []),
  (154, .sipush 207, 3, 0, [], [], []),
  (157, .sipush 600, 3, 0, [], [], []),
  (160, .iload_n 1, 1, 1, [], [], []),
  (161, .imul, 1, 0, [], [], []),
  (162, .iadd, 1, 0, [], [], []),
  (163, .aload_n 0, 1, 0, [], [], []),
  (164, .getfield 101, 3, 2, [], [10, 15], []),
  (167, .iconst 2, 1, 0, [], [], []),
  (168, .iload_n 1, 1, 1, [], [], []),
  (169, .iadd, 1, 0, [], [], []),
  (170, .iaload, 1, 0, [], [], []),
  (171, .iadd, 1, 0, [], [], []),
  (172, .aload_n 0, 1, 0, [], [], []),
  (173, .getfield 7, 3, 2, [], [10, 1], []),
  (176, .iload_n 2, 1, 2, [], [], []),
  (177, .iaload, 1, 0, [], [], []),
  (178, .bipush 105, 2, 0, [], [], []),
  (180, .if_icmp .ne 7, 3, 187, [], [], []),
  (183, .iconst 1, 1, 0, [], [], []),
  (184, .goto 4, 3, 188, [], [], []),
  (187, .iconst 0, 1, 0, [], [], []),
  (188, .iastore, 1, 0, [], [], []),
  (189, .aload_n 0, 1, 0, [], [], []),
  (190, .getfield 101, 3, 2, [], [10, 15], []),
  (193, .iconst 2, 1, 0, [], [], []),
  (194, .iload_n 1, 1, 1, [], [], []),
  (195, .iadd, 1, 0, [], [], []),
  (196, .dup2, 1, 0, [], [], []),
  (197, .iaload, 1, 0, [], [], []),
  (198, .iconst 1, 1, 0, [], [], []),
  (199, .iadd, 1, 0, [], [], []),
  (200, .iastore, 1, 0, [], [], []),
  (201, .iinc 2 1, 3, 2, [], [], []),
  (204, .goto (-62), 3, 142, [], [], []),
  (207, .aload_n 0, 1, 0, [], [], []),
  (208, .invokevirtual 82, 3, 159, [0, 0], [10], []),
  (211, .goto (-125), 3, 86, [], [], []),
  (214, .iconst 1, 1, 0, [], [], []),
  (215, .ireturn, 1, 0, [], [], [])], [(86, [true, true, false]), (142, [true, true, true])])
def mX12_readLetters : sM := (2, 4, [
  (0, .aload_n 0, 1, 0, [], [], []),
  (1, .getfield 161, 3, 3, [], [10, 25], []),
  (4, .ifCond .eq 9, 3, 13, [], [], []),
  (7, .aload_n 0, 1, 0, [], [], []),
  (8, .iconst 3, 1, 0, [], [], []),
  (9, .invokevirtual 72, 3, 165, [4, 1], [10], []),
  (12, .ireturn, 1, 0, [], [], []),
  (13, .aload_n 0, 1, 0, [], [], []),
  (14, .iconst 1, 1, 0, [], [], []),
  (15, .putfield 161, 3, 3, [], [10, 25], []),
  (18, .aload_n 0, 1, 0, [], [], []),
  (19, .invokevirtual 82, 3, 159, [0, 0], [10], []),
  (22, .aload_n 0, 1, 0, [], [], []),
  (23, .getfield 30, 3, 0, [], [10, 7], []),
  (26, .iconst 2, 1, 0, [], [], []),
  (27, .if_icmp .ne 108, 3, 135, [], [], []),
  (30, .aload_n 0, 1, 0, [], [], []),
  (31, .bipush 104, 2, 0, [], [], []),
  (33, .invokevirtual 165, 3, 173, [4, 1], [10], []),
  (36, .ifCond .ne 9, 3, 45, [], [], []),
  (39, .aload_n 0, 1, 0, [], [], []),
  (40, .iconst 2, 1, 0, [], [], []),
  (41, .invokevirtual 72, 3, 165, [4, 1], [10], []),
  (44, .ireturn, 1, 0, [], [], []),
  (45, .aload_n 0, 1, 0, [], [], []),
  (46, .getfield 101, 3, 2, [], [10, 15], []),
  (49, .bipush 6, 2, 0, [], [], []),
  (51, .iaload, 1, 0, [], [], []),
  (52, .aload_n 0, 1, 0, [], [], []),
  (53, .getfield 21, 3, 0, [], [10, 5], []),
  (56, .iadd, 1, 0, [], [], []),
  (57, .aload_n 0, 1, 0, [], [], []),
  (58, .getfield 24, 3, 0, [], [10, 6], []),
  (61, .isub, 1, 0, [], [], []),
  (62, .sipush 200, 3, 0, [], [], []),
  (65, .if_icmp .le 9, 3, 74, [], [], []),
  (68, .aload_n 0, 1, 0, [], [], []),
  (69, .iconst 4, 1, 0, [], [], []),
  (70, .invokevirtual 72, 3, 165, [4, 1], [10], []),
  (73, .ireturn, 1, 0, [], [], []),
  (74, .aload_n 0, 1, 0, [], [], []),
  (75, .getfield 24, 3, 0, [], [10, 6], []),
  (78, .istore_n 1, 1, 1, [], [], []),
  (79, .iload_n 1, 1, 1, [], [], []),
  (80, .aload_n 0, 1, 0, [], [], []),
  (81, .getfield 21, 3, 0, [], [10, 5], []),
  (84, .if_icmp .ge 44, 3, 128, [], [], []),
  (87, .aload_n 0, 1, 0, [], [], []),
  (88, .getfield 101, 3, 2, [], [10, 15], []),
  (91, .bipush 7, 2, 0, [], [], []),
  (93, .aload_n 0, 1, 0, [], [], []),
  (94, .getfield 101, 3, 2, [], [10, 15], []),
  (97, .bipush 6, 2, 0, [], [], []),
  (99, .iaload, 1, 0, [], [], []),
  (100, .iadd, 1, 0, [], [], []),
  (101, .aload_n 0, 1, 0, [], [], []),
  (102, .getfield 7, 3, 2, [], [10, 1], []),
  (105, .iload_n 1, 1, 1, [], [], []),
  (106, .iaload, 1, 0, [], [], []),
  (107, .bipush 97, 2, 0, [], [], []),
  (109, .isub, 1, 0, [], [], []),
  (110, .iastore, 1, 0, [], [], []),
  (111, .aload_n 0, 1, 0, [], [], []),
  (112, .getfield 101, 3, 2, [], [10, 15], []),
  (115, .bipush 6, 2, 0, [], [], []),
  (117, .dup2, 1, 0, [], [], []),
  (118, .iaload, 1, 0, [], [], []),
  (119, .iconst 1, 1, 0, [], [], []),
  (120, .iadd, 1, 0, [], [], []),
  (121, .iastore, 1, 0, [], [], []),
  (122, .iinc 1 1, 3, 1, [], [], []),
  (125, .goto (-46), 3, 79, [], [], []),
  (128, .aload_n 0, 1, 0, [], [], []),
  (129, .invokevirtual 82, 3, 159, [0, 0], [10], []),
  (132, .goto (-110), 3, 22, [], [], []),
  (135, .iconst 1, 1, 0, [], [], []),
  (136, .ireturn, 1, 0, [], [], [])], [(22, [true, false]), (79, [true, true])])
def mX12_readLine : sM := (2, 4, [
  (0, .aload_n 0, 1, 0, [], [], []),
  (1, .iconst 0, 1, 0, [], [], []),
  (2, .invokevirtual 168, 3, 162, [4, 1], [10], []),
  (5, .ifCond .eq 9, 3, 14, [], [], []),
  (8, .aload_n 0, 1, 0, [], [], []),
  (9, .iload_n 1, 1, 1, [], [], []),
  (10, .invokevirtual 171, 3, 172, [4, 1], [10], []),
  (13, .ireturn, 1, 0, [], [], []),
  (14, .aload_n 0, 1, 0, [], [], []),
  (15, .iconst 1, 1, 0, [], [], []),
  (16, .invokevirtual 168, 3, 162, [4, 1], [10], []),
  (19, .ifCond .eq 8, 3, 27, [], [], []),
  (22, .aload_n 0, 1, 0, [], [], []),
  (23, .invokevirtual 174, 3, 175, [4, 0], [10], []),
  (26, .ireturn, 1, 0, [], [], []),
  (27, .aload_n 0, 1, 0, [], [], []),
  (28, .iconst 2, 1, 0, [], [], []),
  (29, .invokevirtual 168, 3, 162, [4, 1], [10], []),
  (32, .ifCond .eq 10, 3, 42, [], [], []),
  (35, .aload_n 0, 1, 0, [], [], []),
  (36, .invokevirtual 177, 3, 176, [4, 0], [10], []),
  (39, .goto 8, 3, 47, [], [], []),
  (42, .aload_n 0, 1, 0, [], [], []),
  (43, .iconst 1, 1, 0, [], [], []),
  (44, .invokevirtual 72, 3, 165, [4, 1], [10], []),
  (47, .ireturn, 1, 0, [], [], [])], [])
def mX12_room : sM := (3, 1, [
  (0, .aload_n 0, 1, 0, [], [], []),
  (1, .sipush 900, 3, 0, [], [], []),
  (4, .invokevirtual 180, 3, 168, [0, 1], [10], []),
  (7, .iconst 0, 1, 0, [], [], []),
  (8, .istore_n 1, 1, 1, [], [], []),
  (9, .iload_n 1, 1, 1, [], [], []),
  (10, .sipush 2607, 3, 0, [], [], []),
  (13, .if_icmp .ge 16, 3, 29, [], [], []),
  (16, .aload_n 0, 1, 0, [], [], []),
  (17, .getfield 101, 3, 2, [], [10, 15], []),
  (20, .iload_n 1, 1, 1, [], [], []),
  (21, .iconst 0, 1, 0, [], [], []),
  (22, .iastore, 1, 0, [], [], []),
  (23, .iinc 1 1, 3, 1, [], [], []),
  (26, .goto (-17), 3, 9, [], [], []),
  (29, .aload_n 0, 1, 0, [], [], []),
  (30, .getfield 101, 3, 2, [], [10, 15], []),
  (33, .iconst 1, 1, 0, [], [], []),
  (34, .bipush 8, 2, 0, [], [], []),
  (36, .iastore, 1, 0, [], [], []),
  (37, .aload_n 0, 1, 0, [], [], []),
  (38, .iconst 0, 1, 0, [], [], []),
  (39, .putfield 161, 3, 3, [], [10, 25], []),
  (42, .iconst 0, 1, 0, [], [], []),
  (43, .istore_n 1, 1, 1, [], [], []),
  (44, .aload_n 0, 1, 0, [], [], []),
  (45, .getfield 30, 3, 0, [], [10, 7], []),
  (48, .ifCond .eq 31, 3, 79, [], [], []),
  (51, .aload_n 0, 1, 0, [], [], []),
  (52, .iload_n 1, 1, 1, [], [], []),
  (53, .invokevirtual 183, 3, 177, [4, 1], [10], []),
  (56, .ifCond .eq 10, 3, 66, [], [], []),
  (59, .aload_n 0, 1, 0, [], [], []),
  (60, .invokevirtual 186, 3, 167, [4, 0], [10], []),
  (63, .ifCond .ne 10, 3, 73, [], [], []),
  (66, .iconst (-1), 1, 0, [], [], []),
  (67, .aload_n 0, 1, 0, [], [], []),
  (68, .getfield 69, 3, 0, [], [10, 11], []),
  (71, .isub, 1, 0, [], [], []),
  (72, .ireturn, 1, 0, [], [], []),
  (73, .iinc 1 1, 3, 1, [], [], []),
  (76, .goto (-32), 3, 44, [], [], []),
  (79, .iconst 0, 1, 0, [], [], []),
  (80, .istore_n 2, 1, 2, [], [], []),
  (81, .iload_n 2, 1, 2, [], [], []),
  (82, .sipush 2607, 3, 0, [], [], []),
  (85, .if_icmp .ge 21, 3, 106, [], [], []),
  (88, .aload_n 0, 1, 0, [], [], []),
  (89, .getfield 98, 3, 2, [], [10, 14], []),
  (92, .iload_n 2, 1, 2, [], [], []),
  (93, .aload_n 0, 1, 0, [], [], []),
  (94, .getfield 101, 3, 2, [], [10, 15], []),
  (97, .iload_n 2, 1, 2, [], [], []),
  (98, .iaload, 1, 0, [], [], []),
  (99, .iastore, 1, 0, [], [], []),
  (100, .iinc 2 1, 3, 2, [], [], []),
  (103, .goto (-22), 3, 81, [], [], []),
  (106, .iconst 0, 1, 0, [], [], []),
  (107, .istore_n 2, 1, 2, [], [], []),
  (108, .iload_n 2, 1, 2, [], [], []),
  (109, .iconst 4, 1, 0, [], [], []),
  (110, .if_icmp .ge 21, 3, 131, [], [], []),
  (113, .aload_n 0, 1, 0, [], [], []),
  (114, .getfield 116, 3, 2, [], [10, 20], []),
  (117, .iload_n 2, 1, 2, [], [], []),
  (118, .aload_n 0, 1, 0, [], [], []),
  (119, .getfield 120, 3, 2, [], [10, 21], []),
  (122, .iload_n 2, 1, 2, [], [], []),
  (123, .laload, 1, 0, [], [], []),
  (124, .lastore, 1, 0, [], [], []),
  (125, .iinc 2 1, 3, 2, [], [], []),
  (128, .goto (-20), 3, 108, [], [], []),
  (131, .aload_n 0, 1, 0, [], [], []),
  (132, .invokevirtual 189, 3, 170, [0, 0], [10], []),
  (135, .aload_n 0, 1, 0, [], [], []),
  (136, .iconst 0, 1, 0, [], [], []),
  (137, .putfield 192, 3, 0, [], [10, 24], []),
  (140, .iload_n 1, 1, 1, [], [], []),
  (141, .ireturn, 1, 0, [], [], [])], [(9, [true, true, false]), (44, [true, true, false]), (81, [true, true, true]), (108, [true, true, true])])
def mX12_fault : sM := (1, 1, [
  (0, .aload_n 0, 1, 0, [], [], []),
  (1, .iconst 0, 1, 0, [], [], []),
  (2, .putfield 1, 3, 0, [], [10, 0], []),
  (5, .aload_n 0, 1, 0, [], [], []),
  (6, .getfield 66, 3, 0, [], [10, 10], []),
  (9, .ireturn, 1, 0, [], [], [])], [])
def mX12_sizeOf : sM := (2, 1, [
  (0, .aload_n 0, 1, 0, [], [], []),
  (1, .getfield 98, 3, 2, [], [10, 14], []),
  (4, .sipush 2607, 3, 0, [], [], []),
  (7, .iload_n 1, 1, 1, [], [], []),
  (8, .iadd, 1, 0, [], [], []),
  (9, .iaload, 1, 0, [], [], []),
  (10, .ireturn, 1, 0, [], [], [])], [])
def mX12_bitOf : sM := (3, 1, [
  (0, .aload_n 0, 1, 0, [], [], []),
  (1, .getfield 98, 3, 2, [], [10, 14], []),
  (4, .sipush 3420, 3, 0, [], [], []),
  (7, .sipush 600, 3, 0, [], [], []),
  (10, .iload_n 1, 1, 1, [], [], []),
  (11, .imul, 1, 0, [], [], []),
  (12, .iadd, 1, 0, [], [], []),
  (13, .iload_n 2, 1, 2, [], [], []),
  (14, .iadd, 1, 0, [], [], []),
  (15, .iaload, 1, 0, [], [], []),
  (16, .ireturn, 1, 0, [], [], [])], [])
def mX12_leafAt : sM := (3, 1, [
  (0, .sipush 2816, 3, 0, [], [], []),
  (3, .sipush 151, 3, 0, [], [], []),
  (6, .iload_n 1, 1, 1, [], [], []),
  (7, .imul, 1, 0, [], [], []),
  (8, .iadd, 1, 0, [], [], []),
  (9, .iload_n 2, 1, 2, [], [], []),
  (10, .iadd, 1, 0, [], [], []),
  (11, .ireturn, 1, 0, [], [], [])], [])
def mX12_leafOf : sM := (5, 1, [
  (0, .iconst 0, 1, 0, [], [], []),
  (1, .istore_n 3, 1, 3, [], [], []),
  (2, .aload_n 0, 1, 0, [], [], []),
  (3, .getfield 98, 3, 2, [], [10, 14], []),
  (6, .aload_n 0, 1, 0, [], [], []),
  (7, .iload_n 1, 1, 1, [], [], []),
  (8, .iconst 0, 1, 0, [], [], []),
  (9, .invokevirtual 195, 3, 182, [1, 2], [10], []),
  (12, .iaload, 1, 0, [], [], []),
  (13, .istore 4, 2, 4, [], [], []),
  (15, .iload_n 2, 1, 2, [], [], []),
  (16, .iload 4, 2, 4, [], [], []),
  (18, .if_icmp .lt 25, 3, 43, [], [], []),
  (21, .iinc 3 1, 3, 3, [], [], []),
  (24, .iload 4, 2, 4, [], [], []),
  (26, .aload_n 0, 1, 0, [], [], []),
  (27, .getfield 98, 3, 2, [], [10, 14], []),
  (30, .aload_n 0, 1, 0, [], [], []),
  (31, .iload_n 1, 1, 1, [], [], []),
  (32, .iload_n 3, 1, 3, [], [], []),
  (33, .invokevirtual 195, 3, 182, [1, 2], [10], []),
  (36, .iaload, 1, 0, [], [], []),
  (37, .iadd, 1, 0, [], [], []),
  (38, .istore 4, 2, 4, [], [], []),
  (40, .goto (-25), 3, 15, [], [], []),
  (43, .iload_n 3, 1, 3, [], [], []),
  (44, .ireturn, 1, 0, [], [], [])], [(15, [true, true, true, true, true])])
def mX12_splitLeaf : sM := (5, 0, [
  (0, .aload_n 0, 1, 0, [], [], []),
  (1, .getfield 98, 3, 2, [], [10, 14], []),
  (4, .aload_n 0, 1, 0, [], [], []),
  (5, .iload_n 1, 1, 1, [], [], []),
  (6, .iload_n 2, 1, 2, [], [], []),
  (7, .invokevirtual 195, 3, 182, [1, 2], [10], []),
  (10, .iaload, 1, 0, [], [], []),
  (11, .istore_n 3, 1, 3, [], [], []),
  (12, .aload_n 0, 1, 0, [], [], []),
  (13, .getfield 98, 3, 2, [], [10, 14], []),
  (16, .sipush 2611, 3, 0, [], [], []),
  (19, .iload_n 1, 1, 1, [], [], []),
  (20, .iadd, 1, 0, [], [], []),
  (21, .iaload, 1, 0, [], [], []),
  (22, .istore 4, 2, 4, [], [], []),
  (24, .iload 4, 2, 4, [], [], []),
  (26, .iload_n 2, 1, 2, [], [], []),
  (27, .iconst 1, 1, 0, [], [], []),
  (28, .iadd, 1, 0, [], [], []),
  (29, .if_icmp .le 35, 3, 64, [], [], []),
  (32, .aload_n 0, 1, 0, [], [], []),
  (33, .getfield 98, 3, 2, [], [10, 14], []),
  (36, .aload_n 0, 1, 0, [], [], []),
  (37, .iload_n 1, 1, 1, [], [], []),
  (38, .iload 4, 2, 4, [], [], []),
  (40, .invokevirtual 195, 3, 182, [1, 2], [10], []),
  (43, .aload_n 0, 1, 0, [], [], []),
  (44, .getfield 98, 3, 2, [], [10, 14], []),
  (47, .aload_n 0, 1, 0, [], [], []),
  (48, .iload_n 1, 1, 1, [], [], []),
  (49, .iload 4, 2, 4, [], [], []),
  (51, .iconst 1, 1, 0, [], [], []),
  (52, .isub, 1, 0, [], [], []),
  (53, .invokevirtual 195, 3, 182, [1, 2], [10], []),
  (56, .iaload, 1, 0, [], [], []),
  (57, .iastore, 1, 0, [], [], []),
  (58, .iinc 4 (-1), 3, 4, [], [], []),
  (61, .goto (-37), 3, 24, [], [], []),
  (64, .aload_n 0, 1, 0, [], [], []),
  (65, .getfield 98, 3, 2, [], [10, 14], []),
  (68, .aload_n 0, 1, 0, [], [], []),
  (69, .iload_n 1, 1, 1, [], [], []),
  (70, .iload_n 2, 1, 2, [], [], []),
  (71, .invokevirtual 195, 3, 182, [1, 2], [10], []),
  (74, .iload_n 3, 1, 3, [], [], []),
  (75, .iconst 1, 1, 0, [], [], []),
  (76, .iadd, 1, 0, [], [], []),
  (77, .iconst 2, 1, 0, [], [], []),
  (78, .idiv, 1, 0, [], [], []),
  (79, .iastore, 1, 0, [], [], []),
  (80, .aload_n 0, 1, 0, [], [], []),
  (81, .getfield 98, 3, 2, [], [10, 14], []),
  (84, .aload_n 0, 1, 0, [], [], []),
  (85, .iload_n 1, 1, 1, [], [], []),
  (86, .iload_n 2, 1, 2, [], [], []),
  (87, .iconst 1, 1, 0, [], [], []),
  (88, .iadd, 1, 0, [], [], []),
  (89, .invokevirtual 195, 3, 182, [1, 2], [10], []),
  (92, .iload_n 3, 1, 3, [], [], []),
  (93, .iconst 2, 1, 0, [], [], []),
  (94, .idiv, 1, 0, [], [], []),
  (95, .iastore, 1, 0, [], [], []),
  (96, .aload_n 0, 1, 0, [], [], []),
  (97, .getfield 98, 3, 2, [], [10, 14], []),
  (100, .sipush 2611, 3, 0, [], [], []),
  (103, .iload_n 1, 1, 1, [], [], []),
  (104, .iadd, 1, 0, [], [], []),
  (105, .dup2, 1, 0, [], [], []),
  (106, .iaload, 1, 0, [], [], []),
  (107, .iconst 1, 1, 0, [], [], []),
  (108, .iadd, 1, 0, [], [], []),
  (109, .iastore, 1, 0, [], [], []),
  (110, .return_, 1, 0, [], [], [])], [(24, [true, true, true, true, true])])
def mX12_putBit : sM := (6, 0, [
  (0, .sipush 3420, 3, 0, [], [], []),
  (3, .sipush 600, 3, 0, [], [], []),
  (6, .iload_n 1, 1, 1, [], [], []),
  (7, .imul, 1, 0, [], [], []),
  (8, .iadd, 1, 0, [], [], []),
  (9, .istore 4, 2, 4, [], [], []),
  (11, .aload_n 0, 1, 0, [], [], []),
  (12, .iload_n 1, 1, 1, [], [], []),
  (13, .invokevirtual 199, 3, 180, [1, 1], [10], []),
  (16, .istore 5, 2, 5, [], [], []),
  (18, .iload 5, 2, 5, [], [], []),
  (20, .iload_n 2, 1, 2, [], [], []),
  (21, .if_icmp .le 31, 3, 52, [], [], []),
  (24, .aload_n 0, 1, 0, [], [], []),
  (25, .getfield 98, 3, 2, [], [10, 14], []),
  (28, .iload 4, 2, 4, [], [], []),
  (30, .iload 5, 2, 5, [], [], []),
  (32, .iadd, 1, 0, [], [], []),
  (33, .aload_n 0, 1, 0, [], [], []),
  (34, .getfield 98, 3, 2, [], [10, 14], []),
  (37, .iload 4, 2, 4, [], [], []),
  (39, .iload 5, 2, 5, [], [], []),
  (41, .iadd, 1, 0, [], [], []),
  (42, .iconst 1, 1, 0, [], [], []),
  (43, .isub, 1, 0, [], [], []),
  (44, .iaload, 1, 0, [], [], []),
  (45, .iastore, 1, 0, [], [], []),
  (46, .iinc 5 (-1), 3, 5, [], [], []),
  (49, .goto (-31), 3, 18, [], [], []),
  (52, .aload_n 0, 1, 0, [], [], []),
  (53, .getfield 98, 3, 2, [], [10, 14], []),
  (56, .iload 4, 2, 4, [], [], []),
  (58, .iload_n 2, 1, 2, [], [], []),
  (59, .iadd, 1, 0, [], [], []),
  (60, .iload_n 3, 1, 3, [], [], []),
  (61, .iastore, 1, 0, [], [], []),
  (62, .aload_n 0, 1, 0, [], [], []),
  (63, .getfield 98, 3, 2, [], [10, 14], []),
  (66, .sipush 2611, 3, 0, [], [], []),
  (69, .iload_n 1, 1, 1, [], [], []),
  (70, .iadd, 1, 0, [], [], []),
  (71, .iaload, 1, 0, [], [], []),
  (72, .ifCond .ne 14, 3, 86, [], [], []),
  (75, .aload_n 0, 1, 0, [], [], []),
  (76, .getfield 98, 3, 2, [], [10, 14], []),
  (79, .sipush 2611, 3, 0, [], [], []),
  (82, .iload_n 1, 1, 1, [], [], []),
  (83, .iadd, 1, 0, [], [], []),
  (84, .iconst 1, 1, 0, [], [], []),
  (85, .iastore, 1, 0, [], [], []),
  (86, .iload_n 2, 1, 2, [], [], []),
  (87, .ifCond .ne 7, 3, 94, [], [], []),
  (90, .iconst 0, 1, 0, [], [], []),
  (91, .goto 11, 3, 102, [], [], []),
  (94, .aload_n 0, 1, 0, [], [], []),
  (95, .iload_n 1, 1, 1, [], [], []),
  (96, .iload_n 2, 1, 2, [], [], []),
  (97, .iconst 1, 1, 0, [], [], []),
  (98, .isub, 1, 0, [], [], []),
  (99, .invokevirtual 202, 3, 183, [1, 2], [10], []),
  (102, .istore 5, 2, 5, [], [], []),
  (104, .aload_n 0, 1, 0, [], [], []),
  (105, .getfield 98, 3, 2, [], [10, 14], []),
  (108, .sipush 2607, 3, 0, [], [], []),
  (111, .iload_n 1, 1, 1, [], [], []),
  (112, .iadd, 1, 0, [], [], []),
  (113, .dup2, 1, 0, [], [], []),
  (114, .iaload, 1, 0, [], [], []),
  (115, .iconst 1, 1, 0, [], [], []),
  (116, .iadd, 1, 0, [], [], []),
  (117, .iastore, 1, 0, [], [], []),
  (118, .aload_n 0, 1, 0, [], [], []),
  (119, .getfield 98, 3, 2, [], [10, 14], []),
  (122, .aload_n 0, 1, 0, [], [], []),
  (123, .iload_n 1, 1, 1, [], [], []),
  (124, .iload 5, 2, 5, [], [], []),
  (126, .invokevirtual 195, 3, 182, [1, 2], [10], []),
  (129, .dup2, 1, 0, [], [], []),
  (130, .iaload, 1, 0, [], [], []),
  (131, .iconst 1, 1, 0, [], [], []),
  (132, .iadd, 1, 0, [], [], []),
  (133, .iastore, 1, 0, [], [], []),
  (134, .aload_n 0, 1, 0, [], [], []),
  (135, .getfield 98, 3, 2, [], [10, 14], []),
  (138, .aload_n 0, 1, 0, [], [], []),
  (139, .iload_n 1, 1, 1, [], [], []),
  (140, .iload 5, 2, 5, [], [], []),
  (142, .invokevirtual 195, 3, 182, [1, 2], [10], []),
  (145, .iaload, 1, 0, [], [], []),
  (146, .iconst 2, 1, 0, [], [], []),
  (147, .aload_n 0, 1, 0, [], [], []),
  (148, .getfield 98, 3, 2, [], [10, 14], []),
  (151, .iconst 1, 1, 0, [], [], []),
  (152, .iaload, 1, 0, [], [], []),
  (153, .imul, 1, 0, [], [], []),
  (154, .if_icmp .le 10, 3, 164, [], [], []),
  (157, .aload_n 0, 1, 0, [], [], []),
  (158, .iload_n 1, 1, 1, [], [], []),
  (159, .iload 5, 2, 5, [], [], []),
  (161, .invokevirtual 205, 3, 184, [0, 2], [10], []),
  (164, .return_, 1, 0, [], [], [])], [(18, [true, true, true, true, true, true]), (102, [true, true, false, false, false, false])])
def mX12_joinLeaves : sM := (4, 0, [
  (0, .aload_n 0, 1, 0, [], [], []),
  (1, .getfield 98, 3, 2, [], [10, 14], []),
  (4, .aload_n 0, 1, 0, [], [], []),
  (5, .iload_n 1, 1, 1, [], [], []),
  (6, .iload_n 2, 1, 2, [], [], []),
  (7, .invokevirtual 195, 3, 182, [1, 2], [10], []),
  (10, .dup2, 1, 0, [], [], []),
  (11, .iaload, 1, 0, [], [], []),
  (12, .aload_n 0, 1, 0, [], [], []),
  (13, .getfield 98, 3, 2, [], [10, 14], []),
  (16, .aload_n 0, 1, 0, [], [], []),
  (17, .iload_n 1, 1, 1, [], [], []),
  (18, .iload_n 2, 1, 2, [], [], []),
  (19, .iconst 1, 1, 0, [], [], []),
  (20, .iadd, 1, 0, [], [], []),
  (21, .invokevirtual 195, 3, 182, [1, 2], [10], []),
  (24, .iaload, 1, 0, [], [], []),
  (25, .iadd, 1, 0, [], [], []),
  (26, .iastore, 1, 0, [], [], []),
  (27, .aload_n 0, 1, 0, [], [], []),
  (28, .getfield 98, 3, 2, [], [10, 14], []),
  (31, .sipush 2611, 3, 0, [], [], []),
  (34, .iload_n 1, 1, 1, [], [], []),
  (35, .iadd, 1, 0, [], [], []),
  (36, .dup2, 1, 0, [], [], []),
  (37, .iaload, 1, 0, [], [], []),
  (38, .iconst 1, 1, 0, [], [], []),
  (39, .isub, 1, 0, [], [], []),
  (40, .iastore, 1, 0, [], [], []),
  (41, .iload_n 2, 1, 2, [], [], []),
  (42, .iconst 1, 1, 0, [], [], []),
  (43, .iadd, 1, 0, [], [], []),
  (44, .istore_n 3, 1, 3, [], [], []),
  (45, .iload_n 3, 1, 3, [], [], []),
  (46, .aload_n 0, 1, 0, [], [], []),
  (47, .getfield 98, 3, 2, [], [10, 14], []),
  (50, .sipush 2611, 3, 0, [], [], []),
  (53, .iload_n 1, 1, 1, [], [], []),
  (54, .iadd, 1, 0, [], [], []),
  (55, .iaload, 1, 0, [], [], []),
  (56, .if_icmp .ge 33, 3, 89, [], [], []),
  (59, .aload_n 0, 1, 0, [], [], []),
  (60, .getfield 98, 3, 2, [], [10, 14], []),
  (63, .aload_n 0, 1, 0, [], [], []),
  (64, .iload_n 1, 1, 1, [], [], []),
  (65, .iload_n 3, 1, 3, [], [], []),
  (66, .invokevirtual 195, 3, 182, [1, 2], [10], []),
  (69, .aload_n 0, 1, 0, [], [], []),
  (70, .getfield 98, 3, 2, [], [10, 14], []),
  (73, .aload_n 0, 1, 0, [], [], []),
  (74, .iload_n 1, 1, 1, [], [], []),
  (75, .iload_n 3, 1, 3, [], [], []),
  (76, .iconst 1, 1, 0, [], [], []),
  (77, .iadd, 1, 0, [], [], []),
  (78, .invokevirtual 195, 3, 182, [1, 2], [10], []),
  (81, .iaload, 1, 0, [], [], []),
  (82, .iastore, 1, 0, [], [], []),
  (83, .iinc 3 1, 3, 3, [], [], []),
  (86, .goto (-41), 3, 45, [], [], []),
  (89, .aload_n 0, 1, 0, [], [], []),
  (90, .getfield 98, 3, 2, [], [10, 14], []),
  (93, .aload_n 0, 1, 0, [], [], []),
  (94, .iload_n 1, 1, 1, [], [], []),
  (95, .aload_n 0, 1, 0, [], [], []),
  (96, .getfield 98, 3, 2, [], [10, 14], []),
  (99, .sipush 2611, 3, 0, [], [], []),
  (102, .iload_n 1, 1, 1, [], [], []),
  (103, .iadd, 1, 0, [], [], []),
  (104, .iaload, 1, 0, [], [], []),
  (105, .invokevirtual 195, 3, 182, [1, 2], [10], []),
  (108, .iconst 0, 1, 0, [], [], []),
  (109, .iastore, 1, 0, [], [], []),
  (110, .aload_n 0, 1, 0, [], [], []),
  (111, .getfield 98, 3, 2, [], [10, 14], []),
  (114, .aload_n 0, 1, 0, [], [], []),
  (115, .iload_n 1, 1, 1, [], [], []),
  (116, .iload_n 2, 1, 2, [], [], []),
  (117, .invokevirtual 195, 3, 182, [1, 2], [10], []),
  (120, .iaload, 1, 0, [], [], []),
  (121, .iconst 2, 1, 0, [], [], []),
  (122, .aload_n 0, 1, 0, [], [], []),
  (123, .getfield 98, 3, 2, [], [10, 14], []),
  (126, .iconst 1, 1, 0, [], [], []),
  (127, .iaload, 1, 0, [], [], []),
  (128, .imul, 1, 0, [], [], []),
  (129, .if_icmp .le 9, 3, 138, [], [], []),
  (132, .aload_n 0, 1, 0, [], [], []),
  (133, .iload_n 1, 1, 1, [], [], []),
  (134, .iload_n 2, 1, 2, [], [], []),
  (135, .invokevirtual 205, 3, 184, [0, 2], [10], []),
  (138, .return_, 1, 0, [], [], [])], [(45, [true, true, true, true])])
def mX12_takeBit : sM := (6, 0, [
  (0, .sipush 3420, 3, 0, [], [], []),
  (3, .sipush 600, 3, 0, [], [], []),
  (6, .iload_n 1, 1, 1, [], [], []),
  (7, .imul, 1, 0, [], [], []),
  (8, .iadd, 1, 0, [], [], []),
  (9, .istore_n 3, 1, 3, [], [], []),
  (10, .aload_n 0, 1, 0, [], [], []),
  (11, .iload_n 1, 1, 1, [], [], []),
  (12, .iload_n 2, 1, 2, [], [], []),
  (13, .invokevirtual 202, 3, 183, [1, 2], [10], []),
  (16, .istore 4, 2, 4, [], [], []),
  (18, .aload_n 0, 1, 0, [], [], []),
  (19, .getfield 98, 3, 2, [], [10, 14], []),
  (22, .sipush 2607, 3, 0, [], [], []),
  (25, .iload_n 1, 1, 1, [], [], []),
  (26, .iadd, 1, 0, [], [], []),
  (27, .dup2, 1, 0, [], [], []),
  (28, .iaload, 1, 0, [], [], []),
  (29, .iconst 1, 1, 0, [], [], []),
  (30, .isub, 1, 0, [], [], []),
  (31, .iastore, 1, 0, [], [], []),
  (32, .iload_n 2, 1, 2, [], [], []),
  (33, .istore 5, 2, 5, [], [], []),
  (35, .iload 5, 2, 5, [], [], []),
  (37, .aload_n 0, 1, 0, [], [], []),
  (38, .iload_n 1, 1, 1, [], [], []),
  (39, .invokevirtual 199, 3, 180, [1, 1], [10], []),
  (42, .if_icmp .ge 29, 3, 71, [], [], []),
  (45, .aload_n 0, 1, 0, [], [], []),
  (46, .getfield 98, 3, 2, [], [10, 14], []),
  (49, .iload_n 3, 1, 3, [], [], []),
  (50, .iload 5, 2, 5, [], [], []),
  (52, .iadd, 1, 0, [], [], []),
  (53, .aload_n 0, 1, 0, [], [], []),
  (54, .getfield 98, 3, 2, [], [10, 14], []),
  (57, .iload_n 3, 1, 3, [], [], []),
  (58, .iload 5, 2, 5, [], [], []),
  (60, .iadd, 1, 0, [], [], []),
  (61, .iconst 1, 1, 0, [], [], []),
  (62, .iadd, 1, 0, [], [], []),
  (63, .iaload, 1, 0, [], [], []),
  (64, .iastore, 1, 0, [], [], []),
  (65, .iinc 5 1, 3, 5, [], [], []),
  (68, .goto (-33), 3, 35, [], [], []),
  (71, .aload_n 0, 1, 0, [], [], []),
  (72, .getfield 98, 3, 2, [], [10, 14], []),
  (75, .iload_n 3, 1, 3, [], [], []),
  (76, .aload_n 0, 1, 0, [], [], []),
  (77, .iload_n 1, 1, 1, [], [], []),
  (78, .invokevirtual 199, 3, 180, [1, 1], [10], []),
  (81, .iadd, 1, 0, [], [], []),
  (82, .iconst 0, 1, 0, [], [], []),
  (83, .iastore, 1, 0, [], [], []),
  (84, .aload_n 0, 1, 0, [], [], []),
  (85, .getfield 98, 3, 2, [], [10, 14], []),
  (88, .aload_n 0, 1, 0, [], [], []),
  (89, .iload_n 1, 1, 1, [], [], []),
  (90, .iload 4, 2, 4, [], [], []),
  (92, .invokevirtual 195, 3, 182, [1, 2], [10], []),
  (95, .dup2, 1, 0, [], [], []),
  (96, .iaload, 1, 0, [], [], []),
  (97, .iconst 1, 1, 0, [], [], []),
  (98, .isub, 1, 0, [], [], []),
  (99, .iastore, 1, 0, [], [], []),
  (100, .aload_n 0, 1, 0, [], [], []),
  (101, .getfield 98, 3, 2, [], [10, 14], []),
  (104, .sipush 2611, 3, 0, [], [], []),
  (107, .iload_n 1, 1, 1, [], [], []),
  (108, .iadd, 1, 0, [], [], []),
  (109, .iaload, 1, 0, [], [], []),
  (110, .iconst 1, 1, 0, [], [], []),
  (111, .if_icmp .ne 30, 3, 141, [], [], []),
  (114, .aload_n 0, 1, 0, [], [], []),
  (115, .getfield 98, 3, 2, [], [10, 14], []),
  (118, .aload_n 0, 1, 0, [], [], []),
  (119, .iload_n 1, 1, 1, [], [], []),
  (120, .iload 4, 2, 4, [], [], []),
  (122, .invokevirtual 195, 3, 182, [1, 2], [10], []),
  (125, .iaload, 1, 0, [], [], []),
  (126, .ifCond .ne 14, 3, 140, [], [], []),
  (129, .aload_n 0, 1, 0, [], [], []),
  (130, .getfield 98, 3, 2, [], [10, 14], []),
  (133, .sipush 2611, 3, 0, [], [], []),
  (136, .iload_n 1, 1, 1, [], [], []),
  (137, .iadd, 1, 0, [], [], []),
  (138, .iconst 0, 1, 0, [], [], []),
  (139, .iastore, 1, 0, [], [], []),
  (140, .return_, 1, 0, [], [], []),
  (141, .aload_n 0, 1, 0, [], [], []),
  (142, .getfield 98, 3, 2, [], [10, 14], []),
  (145, .aload_n 0, 1, 0, [], [], []),
  (146, .iload_n 1, 1, 1, [], [], []),
  (147, .iload 4, 2, 4, [], [], []),
  (149, .invokevirtual 195, 3, 182, [1, 2], [10], []),
  (152, .iaload, 1, 0, [], [], []),
  (153, .aload_n 0, 1, 0, [], [], []),
  (154, .getfield 98, 3, 2, [], [10, 14], []),
  (157, .iconst 1, 1, 0, [], [], []),
  (158, .iaload, 1, 0, [], [], []),
  (159, .if_icmp .ge 34, 3, 193, [], [], []),
  (162, .aload_n 0, 1, 0, [], [], []),
  (163, .iload_n 1, 1, 1, [], [], []),
  (164, .iload 4, 2, 4, [], [], []),
  (166, .aload_n 0, 1, 0, [], [], []),
  (167, .getfield 98, 3, 2, [], [10, 14], []),
  (170, .sipush 2611, 3, 0, [], [], []),
  (173, .iload_n 1, 1, 1, [], [], []),
  (174, .iadd, 1, 0, [], [], []),
  (175, .iaload, 1, 0, [], [], []),
  (176, .iconst 1, 1, 0, [], [], []),
  (177, .isub, 1, 0, [], [], []),
  (178, .if_icmp .ge 8, 3, 186, [], [], []),
  (181, .iload 4, 2, 4, [], [], []),
  (183, .goto 7, 3, 190, [], [], []),
  (186, .iload 4, 2, 4, [], [], []),
  (188, .iconst 1, 1, 0, [], [], []),
  (189, .isub, 1, 0, [], [], []),
  (190, .invokevirtual 209, 3, 186, [0, 2], [10], []),
  (193, .return_, 1, 0, [], [], [])], [(35, [true, true, false, true, true, true])])
def mX12_isRow : sM := (2, 4, [
  (0, .iload_n 1, 1, 1, [], [], []),
  (1, .iconst 0, 1, 0, [], [], []),
  (2, .aload_n 0, 1, 0, [], [], []),
  (3, .getfield 98, 3, 2, [], [10, 14], []),
  (6, .iconst 0, 1, 0, [], [], []),
  (7, .iaload, 1, 0, [], [], []),
  (8, .iconst 1, 1, 0, [], [], []),
  (9, .isub, 1, 0, [], [], []),
  (10, .invokestatic 75, 3, 155, [4, 3], [], []),
  (13, .ireturn, 1, 0, [], [], [])], [])
def mX12_isBit : sM := (2, 4, [
  (0, .iload_n 1, 1, 1, [], [], []),
  (1, .iconst 0, 1, 0, [], [], []),
  (2, .iconst 1, 1, 0, [], [], []),
  (3, .invokestatic 75, 3, 155, [4, 3], [], []),
  (6, .ireturn, 1, 0, [], [], [])], [])
def mX12_isThere : sM := (3, 4, [
  (0, .iload_n 2, 1, 2, [], [], []),
  (1, .iconst 0, 1, 0, [], [], []),
  (2, .aload_n 0, 1, 0, [], [], []),
  (3, .iload_n 1, 1, 1, [], [], []),
  (4, .invokevirtual 199, 3, 180, [1, 1], [10], []),
  (7, .iconst 1, 1, 0, [], [], []),
  (8, .isub, 1, 0, [], [], []),
  (9, .invokestatic 75, 3, 155, [4, 3], [], []),
  (12, .ireturn, 1, 0, [], [], [])], [])
def mX12_onesIn : sM := (6, 1, [
  (0, .iconst 0, 1, 0, [], [], []),
  (1, .istore 4, 2, 4, [], [], []),
  (3, .iload_n 2, 1, 2, [], [], []),
  (4, .istore 5, 2, 5, [], [], []),
  (6, .iload 5, 2, 5, [], [], []),
  (8, .iload_n 3, 1, 3, [], [], []),
  (9, .if_icmp .ge 21, 3, 30, [], [], []),
  (12, .iload 4, 2, 4, [], [], []),
  (14, .aload_n 0, 1, 0, [], [], []),
  (15, .iload_n 1, 1, 1, [], [], []),
  (16, .iload 5, 2, 5, [], [], []),
  (18, .invokevirtual 212, 3, 181, [1, 2], [10], []),
  (21, .iadd, 1, 0, [], [], []),
  (22, .istore 4, 2, 4, [], [], []),
  (24, .iinc 5 1, 3, 5, [], [], []),
  (27, .goto (-21), 3, 6, [], [], []),
  (30, .iload 4, 2, 4, [], [], []),
  (32, .ireturn, 1, 0, [], [], [])], [(6, [true, true, false, true, true, true])])
def mX12_size : sM := (2, 1, [
  (0, .aload_n 0, 1, 0, [], [], []),
  (1, .iconst 0, 1, 0, [], [], []),
  (2, .putfield 1, 3, 0, [], [10, 0], []),
  (5, .aload_n 0, 1, 0, [], [], []),
  (6, .iload_n 1, 1, 1, [], [], []),
  (7, .invokevirtual 215, 3, 188, [4, 1], [10], []),
  (10, .ifCond .eq 11, 3, 21, [], [], []),
  (13, .aload_n 0, 1, 0, [], [], []),
  (14, .iload_n 1, 1, 1, [], [], []),
  (15, .invokevirtual 199, 3, 180, [1, 1], [10], []),
  (18, .goto 4, 3, 22, [], [], []),
  (21, .iconst (-1), 1, 0, [], [], []),
  (22, .ireturn, 1, 0, [], [], [])], [])
def mX12_bit : sM := (3, 1, [
  (0, .aload_n 0, 1, 0, [], [], []),
  (1, .iconst 0, 1, 0, [], [], []),
  (2, .putfield 1, 3, 0, [], [10, 0], []),
  (5, .aload_n 0, 1, 0, [], [], []),
  (6, .iload_n 1, 1, 1, [], [], []),
  (7, .invokevirtual 215, 3, 188, [4, 1], [10], []),
  (10, .ifCond .eq 21, 3, 31, [], [], []),
  (13, .aload_n 0, 1, 0, [], [], []),
  (14, .iload_n 1, 1, 1, [], [], []),
  (15, .iload_n 2, 1, 2, [], [], []),
  (16, .invokevirtual 218, 3, 190, [4, 2], [10], []),
  (19, .ifCond .eq 12, 3, 31, [], [], []),
  (22, .aload_n 0, 1, 0, [], [], []),
  (23, .iload_n 1, 1, 1, [], [], []),
  (24, .iload_n 2, 1, 2, [], [], []),
  (25, .invokevirtual 212, 3, 181, [1, 2], [10], []),
  (28, .goto 4, 3, 32, [], [], []),
  (31, .iconst (-1), 1, 0, [], [], []),
  (32, .ireturn, 1, 0, [], [], [])], [])
def mX12_rank : sM := (5, 1, [
  (0, .aload_n 0, 1, 0, [], [], []),
  (1, .iconst 0, 1, 0, [], [], []),
  (2, .putfield 1, 3, 0, [], [10, 0], []),
  (5, .aload_n 0, 1, 0, [], [], []),
  (6, .iload_n 1, 1, 1, [], [], []),
  (7, .invokevirtual 215, 3, 188, [4, 1], [10], []),
  (10, .ifCond .eq 24, 3, 34, [], [], []),
  (13, .aload_n 0, 1, 0, [], [], []),
  (14, .iload_n 3, 1, 3, [], [], []),
  (15, .invokevirtual 221, 3, 189, [4, 1], [10], []),
  (18, .ifCond .eq 16, 3, 34, [], [], []),
  (21, .iload_n 2, 1, 2, [], [], []),
  (22, .iconst 0, 1, 0, [], [], []),
  (23, .aload_n 0, 1, 0, [], [], []),
  (24, .iload_n 1, 1, 1, [], [], []),
  (25, .invokevirtual 199, 3, 180, [1, 1], [10], []),
  (28, .invokestatic 75, 3, 155, [4, 3], [], []),
  (31, .ifCond .ne 5, 3, 36, [], [], []),
  (34, .iconst (-1), 1, 0, [], [], []),
  (35, .ireturn, 1, 0, [], [], []),
  (36, .aload_n 0, 1, 0, [], [], []),
  (37, .iload_n 1, 1, 1, [], [], []),
  (38, .iconst 0, 1, 0, [], [], []),
  (39, .iload_n 2, 1, 2, [], [], []),
  (40, .invokevirtual 224, 3, 191, [1, 3], [10], []),
  (43, .istore 4, 2, 4, [], [], []),
  (45, .iload_n 3, 1, 3, [], [], []),
  (46, .iconst 1, 1, 0, [], [], []),
  (47, .if_icmp .ne 8, 3, 55, [], [], []),
  (50, .iload 4, 2, 4, [], [], []),
  (52, .goto 7, 3, 59, [], [], []),
  (55, .iload_n 2, 1, 2, [], [], []),
  (56, .iload 4, 2, 4, [], [], []),
  (58, .isub, 1, 0, [], [], []),
  (59, .ireturn, 1, 0, [], [], [])], [])
def mX12_select : sM := (6, 1, [
  (0, .aload_n 0, 1, 0, [], [], []),
  (1, .iconst 0, 1, 0, [], [], []),
  (2, .putfield 1, 3, 0, [], [10, 0], []),
  (5, .aload_n 0, 1, 0, [], [], []),
  (6, .iload_n 1, 1, 1, [], [], []),
  (7, .invokevirtual 215, 3, 188, [4, 1], [10], []),
  (10, .ifCond .eq 15, 3, 25, [], [], []),
  (13, .aload_n 0, 1, 0, [], [], []),
  (14, .iload_n 3, 1, 3, [], [], []),
  (15, .invokevirtual 221, 3, 189, [4, 1], [10], []),
  (18, .ifCond .eq 7, 3, 25, [], [], []),
  (21, .iload_n 2, 1, 2, [], [], []),
  (22, .ifCond .ge 5, 3, 27, [], [], []),
  (25, .iconst (-1), 1, 0, [], [], []),
  (26, .ireturn, 1, 0, [], [], []),
  (27, .iconst 0, 1, 0, [], [], []),
  (28, .istore 4, 2, 4, [], [], []),
  (30, .iconst 0, 1, 0, [], [], []),
  (31, .istore 5, 2, 5, [], [], []),
  (33, .iload 5, 2, 5, [], [], []),
  (35, .aload_n 0, 1, 0, [], [], []),
  (36, .iload_n 1, 1, 1, [], [], []),
  (37, .invokevirtual 199, 3, 180, [1, 1], [10], []),
  (40, .if_icmp .ge 35, 3, 75, [], [], []),
  (43, .aload_n 0, 1, 0, [], [], []),
  (44, .iload_n 1, 1, 1, [], [], []),
  (45, .iload 5, 2, 5, [], [], []),
  (47, .invokevirtual 212, 3, 181, [1, 2], [10], []),
  (50, .iload_n 3, 1, 3, [], [], []),
  (51, .if_icmp .eq 6, 3, 57, [], [], []),
  (54, .goto 15, 3, 69, [], [], []),
  (57, .iload 4, 2, 4, [], [], []),
  (59, .iload_n 2, 1, 2, [], [], []),
  (60, .if_icmp .ne 6, 3, 66, [], [], []),
  (63, .iload 5, 2, 5, [], [], []),
  (65, .ireturn, 1, 0, [], [], []),
  (66, .iinc 4 1, 3, 4, [], [], []),
  (69, .iinc 5 1, 3, 5, [], [], []),
  (72, .goto (-39), 3, 33, [], [], []),
  (75, .iconst (-1), 1, 0, [], [], []),
  (76, .ireturn, 1, 0, [], [], [])], [(33, [true, true, true, true, true, true])])
def mX12_find : sM := (5, 1, [
  (0, .aload_n 0, 1, 0, [], [], []),
  (1, .iconst 0, 1, 0, [], [], []),
  (2, .putfield 1, 3, 0, [], [10, 0], []),
  (5, .aload_n 0, 1, 0, [], [], []),
  (6, .iload_n 1, 1, 1, [], [], []),
  (7, .invokevirtual 215, 3, 188, [4, 1], [10], []),
  (10, .ifCond .eq 15, 3, 25, [], [], []),
  (13, .aload_n 0, 1, 0, [], [], []),
  (14, .iload_n 3, 1, 3, [], [], []),
  (15, .invokevirtual 221, 3, 189, [4, 1], [10], []),
  (18, .ifCond .eq 7, 3, 25, [], [], []),
  (21, .iload_n 2, 1, 2, [], [], []),
  (22, .ifCond .ge 5, 3, 27, [], [], []),
  (25, .iconst (-1), 1, 0, [], [], []),
  (26, .ireturn, 1, 0, [], [], []),
  (27, .iload_n 2, 1, 2, [], [], []),
  (28, .istore 4, 2, 4, [], [], []),
  (30, .iload 4, 2, 4, [], [], []),
  (32, .aload_n 0, 1, 0, [], [], []),
  (33, .iload_n 1, 1, 1, [], [], []),
  (34, .invokevirtual 199, 3, 180, [1, 1], [10], []),
  (37, .if_icmp .ge 23, 3, 60, [], [], []),
  (40, .aload_n 0, 1, 0, [], [], []),
  (41, .iload_n 1, 1, 1, [], [], []),
  (42, .iload 4, 2, 4, [], [], []),
  (44, .invokevirtual 212, 3, 181, [1, 2], [10], []),
  (47, .iload_n 3, 1, 3, [], [], []),
  (48, .if_icmp .ne 6, 3, 54, [], [], []),
  (51, .iload 4, 2, 4, [], [], []),
  (53, .ireturn, 1, 0, [], [], []),
  (54, .iinc 4 1, 3, 4, [], [], []),
  (57, .goto (-27), 3, 30, [], [], []),
  (60, .iconst (-1), 1, 0, [], [], []),
  (61, .ireturn, 1, 0, [], [], [])], [(30, [true, true, false, true, true])])
def mX12_runsOf : sM := (4, 1, [
  (0, .iconst 0, 1, 0, [], [], []),
  (1, .istore_n 2, 1, 2, [], [], []),
  (2, .iconst 0, 1, 0, [], [], []),
  (3, .istore_n 3, 1, 3, [], [], []),
  (4, .iload_n 3, 1, 3, [], [], []),
  (5, .aload_n 0, 1, 0, [], [], []),
  (6, .iload_n 1, 1, 1, [], [], []),
  (7, .invokevirtual 199, 3, 180, [1, 1], [10], []),
  (10, .if_icmp .ge 33, 3, 43, [], [], []),
  (13, .iload_n 3, 1, 3, [], [], []),
  (14, .ifCond .eq 20, 3, 34, [], [], []),
  (17, .aload_n 0, 1, 0, [], [], []),
  (18, .iload_n 1, 1, 1, [], [], []),
  (19, .iload_n 3, 1, 3, [], [], []),
  (20, .invokevirtual 212, 3, 181, [1, 2], [10], []),
  (23, .aload_n 0, 1, 0, [], [], []),
  (24, .iload_n 1, 1, 1, [], [], []),
  (25, .iload_n 3, 1, 3, [], [], []),
  (26, .iconst 1, 1, 0, [], [], []),
  (27, .isub, 1, 0, [], [], []),
  (28, .invokevirtual 212, 3, 181, [1, 2], [10], []),
  (31, .if_icmp .eq 6, 3, 37, [], [], []),
  (34, .iinc 2 1, 3, 2, [], [], []),
  (37, .iinc 3 1, 3, 3, [], [], []),
  (40, .goto (-36), 3, 4, [], [], []),
  (43, .iload_n 2, 1, 2, [], [], []),
  (44, .ireturn, 1, 0, [], [], [])], [(4, [true, true, true, true])])
def mX12_runs : sM := (2, 1, [
  (0, .aload_n 0, 1, 0, [], [], []),
  (1, .iconst 0, 1, 0, [], [], []),
  (2, .putfield 1, 3, 0, [], [10, 0], []),
  (5, .aload_n 0, 1, 0, [], [], []),
  (6, .iload_n 1, 1, 1, [], [], []),
  (7, .invokevirtual 215, 3, 188, [4, 1], [10], []),
  (10, .ifCond .eq 11, 3, 21, [], [], []),
  (13, .aload_n 0, 1, 0, [], [], []),
  (14, .iload_n 1, 1, 1, [], [], []),
  (15, .invokevirtual 228, 3, 197, [1, 1], [10], []),
  (18, .goto 4, 3, 22, [], [], []),
  (21, .iconst (-1), 1, 0, [], [], []),
  (22, .ireturn, 1, 0, [], [], [])], [])
def mX12_longest : sM := (6, 1, [
  (0, .aload_n 0, 1, 0, [], [], []),
  (1, .iconst 0, 1, 0, [], [], []),
  (2, .putfield 1, 3, 0, [], [10, 0], []),
  (5, .aload_n 0, 1, 0, [], [], []),
  (6, .iload_n 1, 1, 1, [], [], []),
  (7, .invokevirtual 215, 3, 188, [4, 1], [10], []),
  (10, .ifCond .eq 11, 3, 21, [], [], []),
  (13, .aload_n 0, 1, 0, [], [], []),
  (14, .iload_n 2, 1, 2, [], [], []),
  (15, .invokevirtual 221, 3, 189, [4, 1], [10], []),
  (18, .ifCond .ne 5, 3, 23, [], [], []),
  (21, .iconst (-1), 1, 0, [], [], []),
  (22, .ireturn, 1, 0, [], [], []),
  (23, .iconst 0, 1, 0, [], [], []),
  (24, .istore_n 3, 1, 3, [], [], []),
  (25, .iconst 0, 1, 0, [], [], []),
  (26, .istore 4, 2, 4, [], [], []),
  (28, .iconst 0, 1, 0, [], [], []),
  (29, .istore 5, 2, 5, [], [], []),
  (31, .iload 5, 2, 5, [], [], []),
  (33, .aload_n 0, 1, 0, [], [], []),
  (34, .iload_n 1, 1, 1, [], [], []),
  (35, .invokevirtual 199, 3, 180, [1, 1], [10], []),
  (38, .if_icmp .ge 39, 3, 77, [], [], []),
  (41, .aload_n 0, 1, 0, [], [], []),
  (42, .iload_n 1, 1, 1, [], [], []),
  (43, .iload 5, 2, 5, [], [], []),
  (45, .invokevirtual 212, 3, 181, [1, 2], [10], []),
  (48, .iload_n 2, 1, 2, [], [], []),
  (49, .if_icmp .ne 10, 3, 59, [], [], []),
  (52, .iload 4, 2, 4, [], [], []),
  (54, .iconst 1, 1, 0, [], [], []),
  (55, .iadd, 1, 0, [], [], []),
  (56, .goto 4, 3, 60, [], [], []),
  (59, .iconst 0, 1, 0, [], [], []),
  (60, .istore 4, 2, 4, [], [], []),
  (62, .iload 4, 2, 4, [], [], []),
  (64, .iload_n 3, 1, 3, [], [], []),
  (65, .if_icmp .le 6, 3, 71, [], [], []),
  (68, .iload 4, 2, 4, [], [], []),
  (70, .istore_n 3, 1, 3, [], [], []),
  (71, .iinc 5 1, 3, 5, [], [], []),
  (74, .goto (-43), 3, 31, [], [], []),
  (77, .iload_n 3, 1, 3, [], [], []),
  (78, .ireturn, 1, 0, [], [], [])], [(31, [true, true, true, true, true, true])])
def mX12_word : sM := (5, 1, [
  (0, .aload_n 0, 1, 0, [], [], []),
  (1, .iconst 0, 1, 0, [], [], []),
  (2, .putfield 1, 3, 0, [], [10, 0], []),
  (5, .aload_n 0, 1, 0, [], [], []),
  (6, .iload_n 1, 1, 1, [], [], []),
  (7, .invokevirtual 215, 3, 188, [4, 1], [10], []),
  (10, .ifCond .eq 16, 3, 26, [], [], []),
  (13, .iload_n 2, 1, 2, [], [], []),
  (14, .iconst 0, 1, 0, [], [], []),
  (15, .aload_n 0, 1, 0, [], [], []),
  (16, .iload_n 1, 1, 1, [], [], []),
  (17, .invokevirtual 199, 3, 180, [1, 1], [10], []),
  (20, .invokestatic 75, 3, 155, [4, 3], [], []),
  (23, .ifCond .ne 8, 3, 31, [], [], []),
  (26, .aload_n 0, 1, 0, [], [], []),
  (27, .invokevirtual 231, 3, 150, [1, 0], [10], []),
  (30, .ireturn, 1, 0, [], [], []),
  (31, .iconst 0, 1, 0, [], [], []),
  (32, .istore_n 3, 1, 3, [], [], []),
  (33, .iload_n 2, 1, 2, [], [], []),
  (34, .istore 4, 2, 4, [], [], []),
  (36, .iload 4, 2, 4, [], [], []),
  (38, .iload_n 2, 1, 2, [], [], []),
  (39, .bipush 32, 2, 0, [], [], []),
  (41, .iadd, 1, 0, [], [], []),
  (42, .if_icmp .ge 35, 3, 77, [], [], []),
  (45, .iload_n 3, 1, 3, [], [], []),
  (46, .iconst 1, 1, 0, [], [], []),
  (47, .ishl, 1, 0, [], [], []),
  (48, .iload 4, 2, 4, [], [], []),
  (50, .aload_n 0, 1, 0, [], [], []),
  (51, .iload_n 1, 1, 1, [], [], []),
  (52, .invokevirtual 199, 3, 180, [1, 1], [10], []),
  (55, .if_icmp .ge 13, 3, 68, [], [], []),
  (58, .aload_n 0, 1, 0, [], [], []),
  (59, .iload_n 1, 1, 1, [], [], []),
  (60, .iload 4, 2, 4, [], [], []),
  (62, .invokevirtual 212, 3, 181, [1, 2], [10], []),
  (65, .goto 4, 3, 69, [], [], []),
  (68, .iconst 0, 1, 0, [], [], []),
  (69, .ior, 1, 0, [], [], []),
  (70, .istore_n 3, 1, 3, [], [], []),
  (71, .iinc 4 1, 3, 4, [], [], []),
  (74, .goto (-38), 3, 36, [], [], []),
  (77, .iload_n 3, 1, 3, [], [], []),
  (78, .ireturn, 1, 0, [], [], [])], [(36, [true, true, true, true, true])])
def mX12_leaves : sM := (2, 1, [
  (0, .aload_n 0, 1, 0, [], [], []),
  (1, .iconst 0, 1, 0, [], [], []),
  (2, .putfield 1, 3, 0, [], [10, 0], []),
  (5, .aload_n 0, 1, 0, [], [], []),
  (6, .iload_n 1, 1, 1, [], [], []),
  (7, .invokevirtual 215, 3, 188, [4, 1], [10], []),
  (10, .ifCond .eq 16, 3, 26, [], [], []),
  (13, .aload_n 0, 1, 0, [], [], []),
  (14, .getfield 98, 3, 2, [], [10, 14], []),
  (17, .sipush 2611, 3, 0, [], [], []),
  (20, .iload_n 1, 1, 1, [], [], []),
  (21, .iadd, 1, 0, [], [], []),
  (22, .iaload, 1, 0, [], [], []),
  (23, .goto 4, 3, 27, [], [], []),
  (26, .iconst (-1), 1, 0, [], [], []),
  (27, .ireturn, 1, 0, [], [], [])], [])
def mX12_leaf : sM := (6, 1, [
  (0, .aload_n 0, 1, 0, [], [], []),
  (1, .iconst 0, 1, 0, [], [], []),
  (2, .putfield 1, 3, 0, [], [10, 0], []),
  (5, .aload_n 0, 1, 0, [], [], []),
  (6, .iload_n 1, 1, 1, [], [], []),
  (7, .invokevirtual 215, 3, 188, [4, 1], [10], []),
  (10, .ifCond .eq 23, 3, 33, [], [], []),
  (13, .iload_n 2, 1, 2, [], [], []),
  (14, .iconst 0, 1, 0, [], [], []),
  (15, .aload_n 0, 1, 0, [], [], []),
  (16, .getfield 98, 3, 2, [], [10, 14], []),
  (19, .sipush 2611, 3, 0, [], [], []),
  (22, .iload_n 1, 1, 1, [], [], []),
  (23, .iadd, 1, 0, [], [], []),
  (24, .iaload, 1, 0, [], [], []),
  (25, .iconst 1, 1, 0, [], [], []),
  (26, .isub, 1, 0, [], [], []),
  (27, .invokestatic 75, 3, 155, [4, 3], [], []),
  (30, .ifCond .ne 5, 3, 35, [], [], []),
  (33, .iconst (-1), 1, 0, [], [], []),
  (34, .ireturn, 1, 0, [], [], []),
  (35, .iconst 0, 1, 0, [], [], []),
  (36, .istore 4, 2, 4, [], [], []),
  (38, .iconst 0, 1, 0, [], [], []),
  (39, .istore 5, 2, 5, [], [], []),
  (41, .iload 5, 2, 5, [], [], []),
  (43, .iload_n 2, 1, 2, [], [], []),
  (44, .if_icmp .ge 26, 3, 70, [], [], []),
  (47, .iload 4, 2, 4, [], [], []),
  (49, .aload_n 0, 1, 0, [], [], []),
  (50, .getfield 98, 3, 2, [], [10, 14], []),
  (53, .aload_n 0, 1, 0, [], [], []),
  (54, .iload_n 1, 1, 1, [], [], []),
  (55, .iload 5, 2, 5, [], [], []),
  (57, .invokevirtual 195, 3, 182, [1, 2], [10], []),
  (60, .iaload, 1, 0, [], [], []),
  (61, .iadd, 1, 0, [], [], []),
  (62, .istore 4, 2, 4, [], [], []),
  (64, .iinc 5 1, 3, 5, [], [], []),
  (67, .goto (-26), 3, 41, [], [], []),
  (70, .aload_n 0, 1, 0, [], [], []),
  (71, .getfield 98, 3, 2, [], [10, 14], []),
  (74, .aload_n 0, 1, 0, [], [], []),
  (75, .iload_n 1, 1, 1, [], [], []),
  (76, .iload_n 2, 1, 2, [], [], []),
  (77, .invokevirtual 195, 3, 182, [1, 2], [10], []),
  (80, .iaload, 1, 0, [], [], []),
  (81, .istore 5, 2, 5, [], [], []),
  (83, .iload_n 3, 1, 3, [], [], []),
  (84, .tableswitch 47 0 2 #[28, 31, 44], 28, 131, [], [], [(0, 112), (1, 115), (2, 128)]),
  (112, .iload 5, 2, 5, [], [], []),
  (114, .ireturn, 1, 0, [], [], []),
  (115, .aload_n 0, 1, 0, [], [], []),
  (116, .iload_n 1, 1, 1, [], [], []),
  (117, .iload 4, 2, 4, [], [], []),
  (119, .iload 4, 2, 4, [], [], []),
  (121, .iload 5, 2, 5, [], [], []),
  (123, .iadd, 1, 0, [], [], []),
  (124, .invokevirtual 224, 3, 191, [1, 3], [10], []),
  (127, .ireturn, 1, 0, [], [], []),
  (128, .iload 4, 2, 4, [], [], []),
  (130, .ireturn, 1, 0, [], [], []),
  (131, .iconst (-1), 1, 0, [], [], []),
  (132, .ireturn, 1, 0, [], [], [])], [(41, [true, true, true, true, true, true])])
def mX12_highOf : sM := (1, 1, [
  (0, .iload_n 0, 1, 0, [], [], []),
  (1, .iconst 2, 1, 0, [], [], []),
  (2, .if_icmp .ge 7, 3, 9, [], [], []),
  (5, .iconst 0, 1, 0, [], [], []),
  (6, .goto 13, 3, 19, [], [], []),
  (9, .iconst 1, 1, 0, [], [], []),
  (10, .iload_n 0, 1, 0, [], [], []),
  (11, .iconst 1, 1, 0, [], [], []),
  (12, .iadd, 1, 0, [], [], []),
  (13, .iconst 2, 1, 0, [], [], []),
  (14, .idiv, 1, 0, [], [], []),
  (15, .invokestatic 234, 3, 203, [1, 1], [], []),
  (18, .iadd, 1, 0, [], [], []),
  (19, .ireturn, 1, 0, [], [], [])], [])
def mX12_mixedOf : sM := (1, 1, [
  (0, .iload_n 0, 1, 0, [], [], []),
  (1, .iconst 2, 1, 0, [], [], []),
  (2, .if_icmp .ge 7, 3, 9, [], [], []),
  (5, .iconst 0, 1, 0, [], [], []),
  (6, .goto 29, 3, 35, [], [], []),
  (9, .iload_n 0, 1, 0, [], [], []),
  (10, .iconst 1, 1, 0, [], [], []),
  (11, .iadd, 1, 0, [], [], []),
  (12, .iconst 2, 1, 0, [], [], []),
  (13, .idiv, 1, 0, [], [], []),
  (14, .invokestatic 237, 3, 204, [1, 1], [], []),
  (17, .iload_n 0, 1, 0, [], [], []),
  (18, .iconst 2, 1, 0, [], [], []),
  (19, .idiv, 1, 0, [], [], []),
  (20, .invokestatic 237, 3, 204, [1, 1], [], []),
  (23, .iadd, 1, 0, [], [], []),
  (24, .iload_n 0, 1, 0, [], [], []),
  (25, .iconst 3, 1, 0, [], [], []),
  (26, .if_icmp .ne 7, 3, 33, [], [], []),
  (29, .iconst 1, 1, 0, [], [], []),
  (30, .goto 4, 3, 34, [], [], []),
  (33, .iconst 0, 1, 0, [], [], []),
  (34, .iadd, 1, 0, [], [], []),
  (35, .ireturn, 1, 0, [], [], [])], [])
def mX12_innerOf : sM := (1, 1, [
  (0, .iload_n 0, 1, 0, [], [], []),
  (1, .iconst 2, 1, 0, [], [], []),
  (2, .if_icmp .ge 7, 3, 9, [], [], []),
  (5, .iconst 0, 1, 0, [], [], []),
  (6, .goto 6, 3, 12, [], [], []),
  (9, .iload_n 0, 1, 0, [], [], []),
  (10, .iconst 1, 1, 0, [], [], []),
  (11, .isub, 1, 0, [], [], []),
  (12, .ireturn, 1, 0, [], [], [])], [])
def mX12_costOf : sM := (4, 1, [
  (0, .iconst 5, 1, 0, [], [], []),
  (1, .aload_n 0, 1, 0, [], [], []),
  (2, .getfield 98, 3, 2, [], [10, 14], []),
  (5, .sipush 2611, 3, 0, [], [], []),
  (8, .iload_n 1, 1, 1, [], [], []),
  (9, .iadd, 1, 0, [], [], []),
  (10, .iaload, 1, 0, [], [], []),
  (11, .invokestatic 240, 3, 205, [1, 1], [], []),
  (14, .imul, 1, 0, [], [], []),
  (15, .istore_n 2, 1, 2, [], [], []),
  (16, .iconst 0, 1, 0, [], [], []),
  (17, .istore_n 3, 1, 3, [], [], []),
  (18, .iload_n 3, 1, 3, [], [], []),
  (19, .aload_n 0, 1, 0, [], [], []),
  (20, .getfield 98, 3, 2, [], [10, 14], []),
  (23, .sipush 2611, 3, 0, [], [], []),
  (26, .iload_n 1, 1, 1, [], [], []),
  (27, .iadd, 1, 0, [], [], []),
  (28, .iaload, 1, 0, [], [], []),
  (29, .if_icmp .ge 31, 3, 60, [], [], []),
  (32, .iload_n 2, 1, 2, [], [], []),
  (33, .aload_n 0, 1, 0, [], [], []),
  (34, .getfield 98, 3, 2, [], [10, 14], []),
  (37, .aload_n 0, 1, 0, [], [], []),
  (38, .iload_n 1, 1, 1, [], [], []),
  (39, .iload_n 3, 1, 3, [], [], []),
  (40, .invokevirtual 195, 3, 182, [1, 2], [10], []),
  (43, .iaload, 1, 0, [], [], []),
  (44, .bipush 31, 2, 0, [], [], []),
  (46, .iadd, 1, 0, [], [], []),
  (47, .bipush 32, 2, 0, [], [], []),
  (49, .idiv, 1, 0, [], [], []),
  (50, .iconst 4, 1, 0, [], [], []),
  (51, .iadd, 1, 0, [], [], []),
  (52, .iadd, 1, 0, [], [], []),
  (53, .istore_n 2, 1, 2, [], [], []),
  (54, .iinc 3 1, 3, 3, [], [], []),
  (57, .goto (-39), 3, 18, [], [], []),
  (60, .iload_n 2, 1, 2, [], [], []),
  (61, .ireturn, 1, 0, [], [], [])], [(18, [true, true, true, true])])
def mX12_tree : sM := (4, 1, [
  (0, .aload_n 0, 1, 0, [], [], []),
  (1, .iconst 0, 1, 0, [], [], []),
  (2, .putfield 1, 3, 0, [], [10, 0], []),
  (5, .aload_n 0, 1, 0, [], [], []),
  (6, .iload_n 1, 1, 1, [], [], []),
  (7, .invokevirtual 215, 3, 188, [4, 1], [10], []),
  (10, .ifCond .ne 5, 3, 15, [], [], []),
  (13, .iconst (-1), 1, 0, [], [], []),
  (14, .ireturn, 1, 0, [], [], []),
  (15, .aload_n 0, 1, 0, [], [], []),
  (16, .getfield 98, 3, 2, [], [10, 14], []),
  (19, .sipush 2611, 3, 0, [], [], []),
  (22, .iload_n 1, 1, 1, [], [], []),
  (23, .iadd, 1, 0, [], [], []),
  (24, .iaload, 1, 0, [], [], []),
  (25, .istore_n 3, 1, 3, [], [], []),
  (26, .iload_n 2, 1, 2, [], [], []),
  (27, .tableswitch 50 0 3 #[29, 34, 39, 44], 29, 77, [], [], [(0, 56), (1, 61), (2, 66), (3, 71)]),
  (56, .iload_n 3, 1, 3, [], [], []),
  (57, .invokestatic 234, 3, 203, [1, 1], [], []),
  (60, .ireturn, 1, 0, [], [], []),
  (61, .iload_n 3, 1, 3, [], [], []),
  (62, .invokestatic 240, 3, 205, [1, 1], [], []),
  (65, .ireturn, 1, 0, [], [], []),
  (66, .iload_n 3, 1, 3, [], [], []),
  (67, .invokestatic 237, 3, 204, [1, 1], [], []),
  (70, .ireturn, 1, 0, [], [], []),
  (71, .aload_n 0, 1, 0, [], [], []),
  (72, .iload_n 1, 1, 1, [], [], []),
  (73, .invokevirtual 243, 3, 206, [1, 1], [10], []),
  (76, .ireturn, 1, 0, [], [], []),
  (77, .iconst (-1), 1, 0, [], [], []),
  (78, .ireturn, 1, 0, [], [], [])], [])
def mX12_firstBits : sM := (13, 2, [
  (0, .iload_n 1, 1, 1, [], [], []),
  (1, .i2l, 1, 0, [], [], []),
  (2, .lstore 4, 2, 4, [], [], []),
  (4, .iload_n 2, 1, 2, [], [], []),
  (5, .i2l, 1, 0, [], [], []),
  (6, .lstore 6, 2, 6, [], [], []),
  (8, .aload_n 0, 1, 0, [], [], []),
  (9, .iconst 0, 1, 0, [], [], []),
  (10, .putfield 246, 3, 0, [], [10, 26], []),
  (13, .lload 4, 2, 4, [], [], []),
  (15, .ldc2_w 249, 3, 0, [], [2], []),
  (18, .lload 6, 2, 6, [], [], []),
  (20, .lmul, 1, 0, [], [], []),
  (21, .lcmp, 1, 0, [], [], []),
  (22, .ifCond .lt 24, 3, 46, [], [], []),
  (25, .lload 6, 2, 6, [], [], []),
  (27, .ldc2_w 249, 3, 0, [], [2], []),
  (30, .lmul, 1, 0, [], [], []),
  (31, .lstore 6, 2, 6, [], [], []),
  (33, .aload_n 0, 1, 0, [], [], []),
  (34, .dup, 1, 0, [], [], []),
  (35, .getfield 246, 3, 0, [], [10, 26], []),
  (38, .iconst 1, 1, 0, [], [], []),
  (39, .iadd, 1, 0, [], [], []),
  (40, .putfield 246, 3, 0, [], [10, 26], []),
  (43, .goto (-30), 3, 13, [], [], []),
  (46, .lload 4, 2, 4, [], [], []),
  (48, .lload 6, 2, 6, [], [], []),
  (50, .lcmp, 1, 0, [], [], []),
  (51, .ifCond .ge 24, 3, 75, [], [], []),
  (54, .lload 4, 2, 4, [], [], []),
  (56, .ldc2_w 249, 3, 0, [], [2], []),
  (59, .lmul, 1, 0, [], [], []),
  (60, .lstore 4, 2, 4, [], [], []),
  (62, .aload_n 0, 1, 0, [], [], []),
  (63, .dup, 1, 0, [], [], []),
  (64, .getfield 246, 3, 0, [], [10, 26], []),
  (67, .iconst 1, 1, 0, [], [], []),
  (68, .isub, 1, 0, [], [], []),
  (69, .putfield 246, 3, 0, [], [10, 26], []),
  (72, .goto (-26), 3, 46, [], [], []),
  (75, .lconst 1, 1, 0, [], [1], []),
  (76, .lstore 8, 2, 8, [], [], []),
  (78, .lload 4, 2, 4, [], [], []),
  (80, .lload 6, 2, 6, [], [], []),
  (82, .lsub, 1, 0, [], [], []),
  (83, .lstore 10, 2, 10, [], [], []),
  (85, .iconst 1, 1, 0, [], [], []),
  (86, .istore 12, 2, 12, [], [], []),
  (88, .iload 12, 2, 12, [], [], []),
  (90, .iload_n 3, 1, 3, [], [], []),
  (91, .if_icmp .ge 49, 3, 140, [], [], []),
  (94, .lload 10, 2, 10, [], [], []),
  (96, .ldc2_w 249, 3, 0, [], [2], []),
  (99, .lmul, 1, 0, [], [], []),
  (100, .lstore 10, 2, 10, [], [], []),
  (102, .lload 8, 2, 8, [], [], []),
  (104, .ldc2_w 249, 3, 0, [], [2], []),
  (107, .lmul, 1, 0, [], [], []),
  (108, .lstore 8, 2, 8, [], [], []),
  (110, .lload 10, 2, 10, [], [], []),
  (112, .lload 6, 2, 6, [], [], []),
  (114, .lcmp, 1, 0, [], [], []),
  (115, .ifCond .ge 6, 3, 121, [], [], []),
  (118, .goto 16, 3, 134, [], [], []),
  (121, .lload 10, 2, 10, [], [], []),
  (123, .lload 6, 2, 6, [], [], []),
  (125, .lsub, 1, 0, [], [], []),
  (126, .lstore 10, 2, 10, [], [], []),
  (128, .lload 8, 2, 8, [], [], []),
  (130, .lconst 1, 1, 0, [], [1], []),
  (131, .ladd, 1, 0, [], [], []),
  (132, .lstore 8, 2, 8, [], [], []),
  (134, .iinc 12 1, 3, 12, [], [], []),
  (137, .goto (-49), 3, 88, [], [], []),
  (140, .ldc2_w 249, 3, 0, [], [2], []),
  (143, .lload 10, 2, 10, [], [], []),
  (145, .lmul, 1, 0, [], [], []),
  (146, .lload 6, 2, 6, [], [], []),
  (148, .lcmp, 1, 0, [], [], []),
  (149, .ifCond .gt 26, 3, 175, [], [], []),
  (152, .ldc2_w 249, 3, 0, [], [2], []),
  (155, .lload 10, 2, 10, [], [], []),
  (157, .lmul, 1, 0, [], [], []),
  (158, .lload 6, 2, 6, [], [], []),
  (160, .lcmp, 1, 0, [], [], []),
  (161, .ifCond .ne 20, 3, 181, [], [], []),
  (164, .lload 8, 2, 8, [], [], []),
  (166, .ldc2_w 249, 3, 0, [], [2], []),
  (169, .lrem, 1, 0, [], [], []),
  (170, .lconst 1, 1, 0, [], [1], []),
  (171, .lcmp, 1, 0, [], [], []),
  (172, .ifCond .ne 9, 3, 181, [], [], []),
  (175, .lload 8, 2, 8, [], [], []),
  (177, .lconst 1, 1, 0, [], [1], []),
  (178, .ladd, 1, 0, [], [], []),
  (179, .lstore 8, 2, 8, [], [], []),
  (181, .lload 8, 2, 8, [], [], []),
  (183, .lconst 1, 1, 0, [], [1], []),
  (184, .iload_n 3, 1, 3, [], [], []),
  (185, .lshl, 1, 0, [], [], []),
  (186, .lcmp, 1, 0, [], [], []),
  (187, .ifCond .ge 6, 3, 193, [], [], []),
  (190, .lload 8, 2, 8, [], [], []),
  (192, .lreturn, 1, 0, [], [], []),
  (193, .aload_n 0, 1, 0, [], [], []),
  (194, .dup, 1, 0, [], [], []),
  (195, .getfield 246, 3, 0, [], [10, 26], []),
  (198, .iconst 1, 1, 0, [], [], []),
  (199, .iadd, 1, 0, [], [], []),
  (200, .putfield 246, 3, 0, [], [10, 26], []),
  (203, .lload 8, 2, 8, [], [], []),
  (205, .ldc2_w 249, 3, 0, [], [2], []),
  (208, .ldiv, 1, 0, [], [], []),
  (209, .lreturn, 1, 0, [], [], [])], [(13, [true, false, false, true, true, false, true, false, false, false, false, false, false]), (46, [true, false, false, true, true, false, true, false, false, false, false, false, false]), (88, [true, false, false, true, false, false, true, false, true, false, true, false, true])])
def mX12_asFloat : sM := (4, 1, [
  (0, .iload_n 1, 1, 1, [], [], []),
  (1, .ifCond .ne 5, 3, 6, [], [], []),
  (4, .iconst 0, 1, 0, [], [], []),
  (5, .ireturn, 1, 0, [], [], []),
  (6, .aload_n 0, 1, 0, [], [], []),
  (7, .iload_n 1, 1, 1, [], [], []),
  (8, .iload_n 2, 1, 2, [], [], []),
  (9, .bipush 24, 2, 0, [], [], []),
  (11, .invokevirtual 251, 3, 208, [2, 3], [10], []),
  (14, .l2i, 1, 0, [], [], []),
  (15, .istore_n 3, 1, 3, [], [], []),
  (16, .aload_n 0, 1, 0, [], [], []),
  (17, .getfield 246, 3, 0, [], [10, 26], []),
  (20, .bipush 127, 2, 0, [], [], []),
  (22, .iadd, 1, 0, [], [], []),
  (23, .bipush 23, 2, 0, [], [], []),
  (25, .ishl, 1, 0, [], [], []),
  (26, .iload_n 3, 1, 3, [], [], []),
  (27, .ldc 255, 2, 0, [], [8388608], []),
  (29, .isub, 1, 0, [], [], []),
  (30, .ior, 1, 0, [], [], []),
  (31, .ireturn, 1, 0, [], [], [])], [])
def mX12_asDouble : sM := (5, 2, [
  (0, .iload_n 1, 1, 1, [], [], []),
  (1, .ifCond .ne 5, 3, 6, [], [], []),
  (4, .lconst 0, 1, 0, [], [0], []),
  (5, .lreturn, 1, 0, [], [], []),
  (6, .aload_n 0, 1, 0, [], [], []),
  (7, .iload_n 1, 1, 1, [], [], []),
  (8, .iload_n 2, 1, 2, [], [], []),
  (9, .bipush 53, 2, 0, [], [], []),
  (11, .invokevirtual 251, 3, 208, [2, 3], [10], []),
  (14, .lstore_n 3, 1, 3, [], [], []),
  (15, .aload_n 0, 1, 0, [], [], []),
  (16, .getfield 246, 3, 0, [], [10, 26], []),
  (19, .i2l, 1, 0, [], [], []),
  (20, .ldc2_w 256, 3, 0, [], [1023], []),
  (23, .ladd, 1, 0, [], [], []),
  (24, .bipush 52, 2, 0, [], [], []),
  (26, .lshl, 1, 0, [], [], []),
  (27, .lload_n 3, 1, 3, [], [], []),
  (28, .ldc2_w 258, 3, 0, [], [4503599627370496], []),
  (31, .lsub, 1, 0, [], [], []),
  (32, .lor, 1, 0, [], [], []),
  (33, .lreturn, 1, 0, [], [], [])], [])
def mX12_dense : sM := (4, 1, [
  (0, .aload_n 0, 1, 0, [], [], []),
  (1, .iconst 0, 1, 0, [], [], []),
  (2, .putfield 1, 3, 0, [], [10, 0], []),
  (5, .aload_n 0, 1, 0, [], [], []),
  (6, .iload_n 1, 1, 1, [], [], []),
  (7, .invokevirtual 215, 3, 188, [4, 1], [10], []),
  (10, .ifCond .eq 32, 3, 42, [], [], []),
  (13, .iload_n 2, 1, 2, [], [], []),
  (14, .ifCond .lt 28, 3, 42, [], [], []),
  (17, .iload_n 3, 1, 3, [], [], []),
  (18, .iconst 1, 1, 0, [], [], []),
  (19, .if_icmp .lt 23, 3, 42, [], [], []),
  (22, .iload_n 3, 1, 3, [], [], []),
  (23, .aload_n 0, 1, 0, [], [], []),
  (24, .iload_n 1, 1, 1, [], [], []),
  (25, .invokevirtual 199, 3, 180, [1, 1], [10], []),
  (28, .if_icmp .gt 14, 3, 42, [], [], []),
  (31, .iload_n 2, 1, 2, [], [], []),
  (32, .aload_n 0, 1, 0, [], [], []),
  (33, .iload_n 1, 1, 1, [], [], []),
  (34, .invokevirtual 199, 3, 180, [1, 1], [10], []),
  (37, .iload_n 3, 1, 3, [], [], []),
  (38, .isub, 1, 0, [], [], []),
  (39, .if_icmp .le 8, 3, 47, [], [], []),
  (42, .aload_n 0, 1, 0, [], [], []),
  (43, .invokevirtual 231, 3, 150, [1, 0], [10], []),
  (46, .ireturn, 1, 0, [], [], []),
  (47, .aload_n 0, 1, 0, [], [], []),
  (48, .aload_n 0, 1, 0, [], [], []),
  (49, .iload_n 1, 1, 1, [], [], []),
  (50, .iload_n 2, 1, 2, [], [], []),
  (51, .iload_n 2, 1, 2, [], [], []),
  (52, .iload_n 3, 1, 3, [], [], []),
  (53, .iadd, 1, 0, [], [], []),
  (54, .invokevirtual 224, 3, 191, [1, 3], [10], []),
  (57, .iload_n 3, 1, 3, [], [], []),
  (58, .invokevirtual 260, 3, 209, [1, 2], [10], []),
  (61, .ireturn, 1, 0, [], [], [])], [])
def mX12_load : sM := (2, 1, [
  (0, .aload_n 0, 1, 0, [], [], []),
  (1, .iconst 0, 1, 0, [], [], []),
  (2, .putfield 1, 3, 0, [], [10, 0], []),
  (5, .aload_n 0, 1, 0, [], [], []),
  (6, .iload_n 1, 1, 1, [], [], []),
  (7, .invokevirtual 215, 3, 188, [4, 1], [10], []),
  (10, .ifCond .eq 31, 3, 41, [], [], []),
  (13, .aload_n 0, 1, 0, [], [], []),
  (14, .iload_n 1, 1, 1, [], [], []),
  (15, .invokevirtual 199, 3, 180, [1, 1], [10], []),
  (18, .ifCond .le 23, 3, 41, [], [], []),
  (21, .aload_n 0, 1, 0, [], [], []),
  (22, .bipush 32, 2, 0, [], [], []),
  (24, .aload_n 0, 1, 0, [], [], []),
  (25, .iload_n 1, 1, 1, [], [], []),
  (26, .invokevirtual 243, 3, 206, [1, 1], [10], []),
  (29, .imul, 1, 0, [], [], []),
  (30, .aload_n 0, 1, 0, [], [], []),
  (31, .iload_n 1, 1, 1, [], [], []),
  (32, .invokevirtual 199, 3, 180, [1, 1], [10], []),
  (35, .invokevirtual 260, 3, 209, [1, 2], [10], []),
  (38, .goto 7, 3, 45, [], [], []),
  (41, .aload_n 0, 1, 0, [], [], []),
  (42, .invokevirtual 231, 3, 150, [1, 0], [10], []),
  (45, .ireturn, 1, 0, [], [], [])], [])
def mX12_centre : sM := (7, 1, [
  (0, .aload_n 0, 1, 0, [], [], []),
  (1, .iconst 0, 1, 0, [], [], []),
  (2, .putfield 1, 3, 0, [], [10, 0], []),
  (5, .aload_n 0, 1, 0, [], [], []),
  (6, .iload_n 1, 1, 1, [], [], []),
  (7, .invokevirtual 215, 3, 188, [4, 1], [10], []),
  (10, .ifCond .eq 12, 3, 22, [], [], []),
  (13, .iload_n 2, 1, 2, [], [], []),
  (14, .iconst 0, 1, 0, [], [], []),
  (15, .iconst 1, 1, 0, [], [], []),
  (16, .invokestatic 75, 3, 155, [4, 3], [], []),
  (19, .ifCond .ne 8, 3, 27, [], [], []),
  (22, .aload_n 0, 1, 0, [], [], []),
  (23, .invokevirtual 231, 3, 150, [1, 0], [10], []),
  (26, .ireturn, 1, 0, [], [], []),
  (27, .iconst 0, 1, 0, [], [], []),
  (28, .istore_n 3, 1, 3, [], [], []),
  (29, .iconst 0, 1, 0, [], [], []),
  (30, .istore 4, 2, 4, [], [], []),
  (32, .iconst 0, 1, 0, [], [], []),
  (33, .istore 5, 2, 5, [], [], []),
  (35, .iload 5, 2, 5, [], [], []),
  (37, .aload_n 0, 1, 0, [], [], []),
  (38, .iload_n 1, 1, 1, [], [], []),
  (39, .invokevirtual 199, 3, 180, [1, 1], [10], []),
  (42, .if_icmp .ge 32, 3, 74, [], [], []),
  (45, .aload_n 0, 1, 0, [], [], []),
  (46, .iload_n 1, 1, 1, [], [], []),
  (47, .iload 5, 2, 5, [], [], []),
  (49, .invokevirtual 212, 3, 181, [1, 2], [10], []),
  (52, .ifCond .ne 6, 3, 58, [], [], []),
  (55, .goto 13, 3, 68, [], [], []),
  (58, .iinc 3 1, 3, 3, [], [], []),
  (61, .iload 4, 2, 4, [], [], []),
  (63, .iload 5, 2, 5, [], [], []),
  (65, .iadd, 1, 0, [], [], []),
  (66, .istore 4, 2, 4, [], [], []),
  (68, .iinc 5 1, 3, 5, [], [], []),
  (71, .goto (-36), 3, 35, [], [], []),
  (74, .iload_n 3, 1, 3, [], [], []),
  (75, .ifCond .ne 8, 3, 83, [], [], []),
  (78, .aload_n 0, 1, 0, [], [], []),
  (79, .invokevirtual 231, 3, 150, [1, 0], [10], []),
  (82, .ireturn, 1, 0, [], [], []),
  (83, .aload_n 0, 1, 0, [], [], []),
  (84, .iload 4, 2, 4, [], [], []),
  (86, .iload_n 3, 1, 3, [], [], []),
  (87, .invokevirtual 263, 3, 210, [2, 2], [10], []),
  (90, .lstore 5, 2, 5, [], [], []),
  (92, .iload_n 2, 1, 2, [], [], []),
  (93, .ifCond .ne 11, 3, 104, [], [], []),
  (96, .lload 5, 2, 5, [], [], []),
  (98, .bipush 32, 2, 0, [], [], []),
  (100, .lshr, 1, 0, [], [], []),
  (101, .goto 5, 3, 106, [], [], []),
  (104, .lload 5, 2, 5, [], [], []),
  (106, .l2i, 1, 0, [], [], []),
  (107, .ireturn, 1, 0, [], [], [])], [(35, [true, true, true, true, true, true, false])])
def mX12_firstApart : sM := (4, 1, [
  (0, .iconst 0, 1, 0, [], [], []),
  (1, .istore_n 3, 1, 3, [], [], []),
  (2, .aload_n 0, 1, 0, [], [], []),
  (3, .iload_n 1, 1, 1, [], [], []),
  (4, .iload_n 3, 1, 3, [], [], []),
  (5, .invokevirtual 218, 3, 190, [4, 2], [10], []),
  (8, .ifCond .eq 33, 3, 41, [], [], []),
  (11, .aload_n 0, 1, 0, [], [], []),
  (12, .iload_n 2, 1, 2, [], [], []),
  (13, .iload_n 3, 1, 3, [], [], []),
  (14, .invokevirtual 218, 3, 190, [4, 2], [10], []),
  (17, .ifCond .eq 24, 3, 41, [], [], []),
  (20, .aload_n 0, 1, 0, [], [], []),
  (21, .iload_n 1, 1, 1, [], [], []),
  (22, .iload_n 3, 1, 3, [], [], []),
  (23, .invokevirtual 212, 3, 181, [1, 2], [10], []),
  (26, .aload_n 0, 1, 0, [], [], []),
  (27, .iload_n 2, 1, 2, [], [], []),
  (28, .iload_n 3, 1, 3, [], [], []),
  (29, .invokevirtual 212, 3, 181, [1, 2], [10], []),
  (32, .if_icmp .ne 9, 3, 41, [], [], []),
  (35, .iinc 3 1, 3, 3, [], [], []),
  (38, .goto (-36), 3, 2, [], [], []),
  (41, .iload_n 3, 1, 3, [], [], []),
  (42, .ireturn, 1, 0, [], [], [])], [(2, [true, true, true, true])])
def mX12_apart : sM := (5, 1, [
  (0, .aload_n 0, 1, 0, [], [], []),
  (1, .iconst 0, 1, 0, [], [], []),
  (2, .putfield 1, 3, 0, [], [10, 0], []),
  (5, .aload_n 0, 1, 0, [], [], []),
  (6, .iload_n 1, 1, 1, [], [], []),
  (7, .invokevirtual 215, 3, 188, [4, 1], [10], []),
  (10, .ifCond .eq 11, 3, 21, [], [], []),
  (13, .aload_n 0, 1, 0, [], [], []),
  (14, .iload_n 2, 1, 2, [], [], []),
  (15, .invokevirtual 215, 3, 188, [4, 1], [10], []),
  (18, .ifCond .ne 5, 3, 23, [], [], []),
  (21, .iconst (-1), 1, 0, [], [], []),
  (22, .ireturn, 1, 0, [], [], []),
  (23, .aload_n 0, 1, 0, [], [], []),
  (24, .iload_n 1, 1, 1, [], [], []),
  (25, .invokevirtual 199, 3, 180, [1, 1], [10], []),
  (28, .aload_n 0, 1, 0, [], [], []),
  (29, .iload_n 2, 1, 2, [], [], []),
  (30, .invokevirtual 199, 3, 180, [1, 1], [10], []),
  (33, .if_icmp .le 17, 3, 50, [], [], []),
  (36, .aload_n 0, 1, 0, [], [], []),
  (37, .iload_n 1, 1, 1, [], [], []),
  (38, .invokevirtual 199, 3, 180, [1, 1], [10], []),
  (41, .aload_n 0, 1, 0, [], [], []),
  (42, .iload_n 2, 1, 2, [], [], []),
  (43, .invokevirtual 199, 3, 180, [1, 1], [10], []),
  (46, .isub, 1, 0, [], [], []),
  (47, .goto 14, 3, 61, [], [], []),
  (50, .aload_n 0, 1, 0, [], [], []),
  (51, .iload_n 2, 1, 2, [], [], []),
  (52, .invokevirtual 199, 3, 180, [1, 1], [10], []),
  (55, .aload_n 0, 1, 0, [], [], []),
  (56, .iload_n 1, 1, 1, [], [], []),
  (57, .invokevirtual 199, 3, 180, [1, 1], [10], []),
  (60, .isub, 1, 0, [], [], []),
  (61, .istore_n 3, 1, 3, [], [], []),
  (62, .iconst 0, 1, 0, [], [], []),
  (63, .istore 4, 2, 4, [], [], []),
  (65, .aload_n 0, 1, 0, [], [], []),
  (66, .iload_n 1, 1, 1, [], [], []),
  (67, .iload 4, 2, 4, [], [], []),
  (69, .invokevirtual 218, 3, 190, [4, 2], [10], []),
  (72, .ifCond .eq 39, 3, 111, [], [], []),
  (75, .aload_n 0, 1, 0, [], [], []),
  (76, .iload_n 2, 1, 2, [], [], []),
  (77, .iload 4, 2, 4, [], [], []),
  (79, .invokevirtual 218, 3, 190, [4, 2], [10], []),
  (82, .ifCond .eq 29, 3, 111, [], [], []),
  (85, .aload_n 0, 1, 0, [], [], []),
  (86, .iload_n 1, 1, 1, [], [], []),
  (87, .iload 4, 2, 4, [], [], []),
  (89, .invokevirtual 212, 3, 181, [1, 2], [10], []),
  (92, .aload_n 0, 1, 0, [], [], []),
  (93, .iload_n 2, 1, 2, [], [], []),
  (94, .iload 4, 2, 4, [], [], []),
  (96, .invokevirtual 212, 3, 181, [1, 2], [10], []),
  (99, .if_icmp .eq 6, 3, 105, [], [], []),
  (102, .iinc 3 1, 3, 3, [], [], []),
  (105, .iinc 4 1, 3, 4, [], [], []),
  (108, .goto (-43), 3, 65, [], [], []),
  (111, .iload_n 3, 1, 3, [], [], []),
  (112, .ireturn, 1, 0, [], [], [])], [(65, [true, true, true, true, true])])
def mX12_areLike : sM := (3, 4, [
  (0, .aload_n 0, 1, 0, [], [], []),
  (1, .iload_n 1, 1, 1, [], [], []),
  (2, .invokevirtual 199, 3, 180, [1, 1], [10], []),
  (5, .aload_n 0, 1, 0, [], [], []),
  (6, .iload_n 2, 1, 2, [], [], []),
  (7, .invokevirtual 199, 3, 180, [1, 1], [10], []),
  (10, .if_icmp .ne 21, 3, 31, [], [], []),
  (13, .aload_n 0, 1, 0, [], [], []),
  (14, .iload_n 1, 1, 1, [], [], []),
  (15, .iload_n 2, 1, 2, [], [], []),
  (16, .invokevirtual 267, 3, 214, [1, 2], [10], []),
  (19, .aload_n 0, 1, 0, [], [], []),
  (20, .iload_n 1, 1, 1, [], [], []),
  (21, .invokevirtual 199, 3, 180, [1, 1], [10], []),
  (24, .if_icmp .ne 7, 3, 31, [], [], []),
  (27, .iconst 1, 1, 0, [], [], []),
  (28, .goto 4, 3, 32, [], [], []),
  (31, .iconst 0, 1, 0, [], [], []),
  (32, .ireturn, 1, 0, [], [], [])], [])
def mX12_differ : sM := (3, 1, [
  (0, .aload_n 0, 1, 0, [], [], []),
  (1, .iconst 0, 1, 0, [], [], []),
  (2, .putfield 1, 3, 0, [], [10, 0], []),
  (5, .aload_n 0, 1, 0, [], [], []),
  (6, .iload_n 1, 1, 1, [], [], []),
  (7, .invokevirtual 215, 3, 188, [4, 1], [10], []),
  (10, .ifCond .eq 29, 3, 39, [], [], []),
  (13, .aload_n 0, 1, 0, [], [], []),
  (14, .iload_n 2, 1, 2, [], [], []),
  (15, .invokevirtual 215, 3, 188, [4, 1], [10], []),
  (18, .ifCond .eq 21, 3, 39, [], [], []),
  (21, .aload_n 0, 1, 0, [], [], []),
  (22, .iload_n 1, 1, 1, [], [], []),
  (23, .iload_n 2, 1, 2, [], [], []),
  (24, .invokevirtual 270, 3, 216, [4, 2], [10], []),
  (27, .ifCond .ne 12, 3, 39, [], [], []),
  (30, .aload_n 0, 1, 0, [], [], []),
  (31, .iload_n 1, 1, 1, [], [], []),
  (32, .iload_n 2, 1, 2, [], [], []),
  (33, .invokevirtual 267, 3, 214, [1, 2], [10], []),
  (36, .goto 4, 3, 40, [], [], []),
  (39, .iconst (-1), 1, 0, [], [], []),
  (40, .ireturn, 1, 0, [], [], [])], [])
def mX12_isOnTape : sM := (5, 4, [
  (0, .iconst 0, 1, 0, [], [], []),
  (1, .istore 4, 2, 4, [], [], []),
  (3, .iload 4, 2, 4, [], [], []),
  (5, .iload_n 3, 1, 3, [], [], []),
  (6, .if_icmp .ge 30, 3, 36, [], [], []),
  (9, .aload_n 0, 1, 0, [], [], []),
  (10, .iload_n 1, 1, 1, [], [], []),
  (11, .iload_n 2, 1, 2, [], [], []),
  (12, .iload 4, 2, 4, [], [], []),
  (14, .iadd, 1, 0, [], [], []),
  (15, .invokevirtual 212, 3, 181, [1, 2], [10], []),
  (18, .aload_n 0, 1, 0, [], [], []),
  (19, .getfield 7, 3, 2, [], [10, 1], []),
  (22, .iload 4, 2, 4, [], [], []),
  (24, .iaload, 1, 0, [], [], []),
  (25, .if_icmp .eq 5, 3, 30, [], [], []),
  (28, .iconst 0, 1, 0, [], [], []),
  (29, .ireturn, 1, 0, [], [], []),
  (30, .iinc 4 1, 3, 4, [], [], []),
  (33, .goto (-30), 3, 3, [], [], []),
  (36, .iconst 1, 1, 0, [], [], []),
  (37, .ireturn, 1, 0, [], [], [])], [(3, [true, true, true, true, true])])
def mX12_areTapeBits : sM := (4, 4, [
  (0, .iconst 0, 1, 0, [], [], []),
  (1, .istore_n 3, 1, 3, [], [], []),
  (2, .iload_n 3, 1, 3, [], [], []),
  (3, .iload_n 1, 1, 1, [], [], []),
  (4, .if_icmp .ge 21, 3, 25, [], [], []),
  (7, .aload_n 0, 1, 0, [], [], []),
  (8, .getfield 7, 3, 2, [], [10, 1], []),
  (11, .iload_n 3, 1, 3, [], [], []),
  (12, .iaload, 1, 0, [], [], []),
  (13, .iconst 1, 1, 0, [], [], []),
  (14, .if_icmp .le 5, 3, 19, [], [], []),
  (17, .iconst 0, 1, 0, [], [], []),
  (18, .ireturn, 1, 0, [], [], []),
  (19, .iinc 3 1, 3, 3, [], [], []),
  (22, .goto (-20), 3, 2, [], [], []),
  (25, .iload_n 1, 1, 1, [], [], []),
  (26, .iconst 1, 1, 0, [], [], []),
  (27, .iload_n 2, 1, 2, [], [], []),
  (28, .invokestatic 75, 3, 155, [4, 3], [], []),
  (31, .ireturn, 1, 0, [], [], [])], [(2, [true, true, true, true])])
def mX12_seek : sM := (4, 1, [
  (0, .aload_n 0, 1, 0, [], [], []),
  (1, .iconst 0, 1, 0, [], [], []),
  (2, .putfield 1, 3, 0, [], [10, 0], []),
  (5, .aload_n 0, 1, 0, [], [], []),
  (6, .invokevirtual 89, 3, 154, [1, 0], [10], []),
  (9, .istore_n 2, 1, 2, [], [], []),
  (10, .aload_n 0, 1, 0, [], [], []),
  (11, .iload_n 1, 1, 1, [], [], []),
  (12, .invokevirtual 215, 3, 188, [4, 1], [10], []),
  (15, .ifCond .eq 13, 3, 28, [], [], []),
  (18, .aload_n 0, 1, 0, [], [], []),
  (19, .iload_n 2, 1, 2, [], [], []),
  (20, .bipush 32, 2, 0, [], [], []),
  (22, .invokevirtual 273, 3, 219, [4, 2], [10], []),
  (25, .ifCond .ne 5, 3, 30, [], [], []),
  (28, .iconst (-1), 1, 0, [], [], []),
  (29, .ireturn, 1, 0, [], [], []),
  (30, .aload_n 0, 1, 0, [], [], []),
  (31, .iconst 0, 1, 0, [], [], []),
  (32, .putfield 276, 3, 0, [], [10, 28], []),
  (35, .iconst 0, 1, 0, [], [], []),
  (36, .istore_n 3, 1, 3, [], [], []),
  (37, .iload_n 3, 1, 3, [], [], []),
  (38, .iload_n 2, 1, 2, [], [], []),
  (39, .iadd, 1, 0, [], [], []),
  (40, .aload_n 0, 1, 0, [], [], []),
  (41, .iload_n 1, 1, 1, [], [], []),
  (42, .invokevirtual 199, 3, 180, [1, 1], [10], []),
  (45, .if_icmp .gt 42, 3, 87, [], [], []),
  (48, .aload_n 0, 1, 0, [], [], []),
  (49, .iload_n 1, 1, 1, [], [], []),
  (50, .iload_n 3, 1, 3, [], [], []),
  (51, .iload_n 2, 1, 2, [], [], []),
  (52, .invokevirtual 279, 3, 218, [4, 3], [10], []),
  (55, .ifCond .ne 6, 3, 61, [], [], []),
  (58, .goto 23, 3, 81, [], [], []),
  (61, .aload_n 0, 1, 0, [], [], []),
  (62, .getfield 130, 3, 2, [], [10, 27], []),
  (65, .aload_n 0, 1, 0, [], [], []),
  (66, .getfield 276, 3, 0, [], [10, 28], []),
  (69, .iload_n 3, 1, 3, [], [], []),
  (70, .iastore, 1, 0, [], [], []),
  (71, .aload_n 0, 1, 0, [], [], []),
  (72, .dup, 1, 0, [], [], []),
  (73, .getfield 276, 3, 0, [], [10, 28], []),
  (76, .iconst 1, 1, 0, [], [], []),
  (77, .iadd, 1, 0, [], [], []),
  (78, .putfield 276, 3, 0, [], [10, 28], []),
  (81, .iinc 3 1, 3, 3, [], [], []),
  (84, .goto (-47), 3, 37, [], [], []),
  (87, .aload_n 0, 1, 0, [], [], []),
  (88, .getfield 276, 3, 0, [], [10, 28], []),
  (91, .ireturn, 1, 0, [], [], [])], [(37, [true, true, true, true])])
def mX12_seekAt : sM := (2, 1, [
  (0, .aload_n 0, 1, 0, [], [], []),
  (1, .iconst 0, 1, 0, [], [], []),
  (2, .putfield 1, 3, 0, [], [10, 0], []),
  (5, .iload_n 1, 1, 1, [], [], []),
  (6, .iconst 0, 1, 0, [], [], []),
  (7, .aload_n 0, 1, 0, [], [], []),
  (8, .getfield 276, 3, 0, [], [10, 28], []),
  (11, .iconst 1, 1, 0, [], [], []),
  (12, .isub, 1, 0, [], [], []),
  (13, .invokestatic 75, 3, 155, [4, 3], [], []),
  (16, .ifCond .eq 12, 3, 28, [], [], []),
  (19, .aload_n 0, 1, 0, [], [], []),
  (20, .getfield 130, 3, 2, [], [10, 27], []),
  (23, .iload_n 1, 1, 1, [], [], []),
  (24, .iaload, 1, 0, [], [], []),
  (25, .goto 4, 3, 29, [], [], []),
  (28, .iconst (-1), 1, 0, [], [], []),
  (29, .ireturn, 1, 0, [], [], [])], [])
def mX12_isLetterAt : sM := (2, 4, [
  (0, .iload_n 1, 1, 1, [], [], []),
  (1, .iconst 0, 1, 0, [], [], []),
  (2, .aload_n 0, 1, 0, [], [], []),
  (3, .getfield 98, 3, 2, [], [10, 14], []),
  (6, .sipush 2615, 3, 0, [], [], []),
  (9, .iaload, 1, 0, [], [], []),
  (10, .iconst 1, 1, 0, [], [], []),
  (11, .isub, 1, 0, [], [], []),
  (12, .invokestatic 75, 3, 155, [4, 3], [], []),
  (15, .ireturn, 1, 0, [], [], [])], [])
def mX12_letters : sM := (1, 1, [
  (0, .aload_n 0, 1, 0, [], [], []),
  (1, .iconst 0, 1, 0, [], [], []),
  (2, .putfield 1, 3, 0, [], [10, 0], []),
  (5, .aload_n 0, 1, 0, [], [], []),
  (6, .getfield 98, 3, 2, [], [10, 14], []),
  (9, .sipush 2615, 3, 0, [], [], []),
  (12, .iaload, 1, 0, [], [], []),
  (13, .ireturn, 1, 0, [], [], [])], [])
def mX12_letter : sM := (2, 1, [
  (0, .aload_n 0, 1, 0, [], [], []),
  (1, .iconst 0, 1, 0, [], [], []),
  (2, .putfield 1, 3, 0, [], [10, 0], []),
  (5, .aload_n 0, 1, 0, [], [], []),
  (6, .iload_n 1, 1, 1, [], [], []),
  (7, .invokevirtual 282, 3, 222, [4, 1], [10], []),
  (10, .ifCond .eq 16, 3, 26, [], [], []),
  (13, .aload_n 0, 1, 0, [], [], []),
  (14, .getfield 98, 3, 2, [], [10, 14], []),
  (17, .sipush 2616, 3, 0, [], [], []),
  (20, .iload_n 1, 1, 1, [], [], []),
  (21, .iadd, 1, 0, [], [], []),
  (22, .iaload, 1, 0, [], [], []),
  (23, .goto 4, 3, 27, [], [], []),
  (26, .iconst (-1), 1, 0, [], [], []),
  (27, .ireturn, 1, 0, [], [], [])], [])
def mX12_count : sM := (5, 1, [
  (0, .aload_n 0, 1, 0, [], [], []),
  (1, .iconst 0, 1, 0, [], [], []),
  (2, .putfield 1, 3, 0, [], [10, 0], []),
  (5, .iload_n 1, 1, 1, [], [], []),
  (6, .iconst 0, 1, 0, [], [], []),
  (7, .bipush 7, 2, 0, [], [], []),
  (9, .invokestatic 75, 3, 155, [4, 3], [], []),
  (12, .ifCond .eq 19, 3, 31, [], [], []),
  (15, .iload_n 2, 1, 2, [], [], []),
  (16, .iconst 0, 1, 0, [], [], []),
  (17, .aload_n 0, 1, 0, [], [], []),
  (18, .getfield 98, 3, 2, [], [10, 14], []),
  (21, .sipush 2615, 3, 0, [], [], []),
  (24, .iaload, 1, 0, [], [], []),
  (25, .invokestatic 75, 3, 155, [4, 3], [], []),
  (28, .ifCond .ne 5, 3, 33, [], [], []),
  (31, .iconst (-1), 1, 0, [], [], []),
  (32, .ireturn, 1, 0, [], [], []),
  (33, .iconst 0, 1, 0, [], [], []),
  (34, .istore_n 3, 1, 3, [], [], []),
  (35, .iconst 0, 1, 0, [], [], []),
  (36, .istore 4, 2, 4, [], [], []),
  (38, .iload 4, 2, 4, [], [], []),
  (40, .iload_n 2, 1, 2, [], [], []),
  (41, .if_icmp .ge 27, 3, 68, [], [], []),
  (44, .aload_n 0, 1, 0, [], [], []),
  (45, .getfield 98, 3, 2, [], [10, 14], []),
  (48, .sipush 2616, 3, 0, [], [], []),
  (51, .iload 4, 2, 4, [], [], []),
  (53, .iadd, 1, 0, [], [], []),
  (54, .iaload, 1, 0, [], [], []),
  (55, .iload_n 1, 1, 1, [], [], []),
  (56, .if_icmp .ne 6, 3, 62, [], [], []),
  (59, .iinc 3 1, 3, 3, [], [], []),
  (62, .iinc 4 1, 3, 4, [], [], []),
  (65, .goto (-27), 3, 38, [], [], []),
  (68, .iload_n 3, 1, 3, [], [], []),
  (69, .ireturn, 1, 0, [], [], [])], [(38, [true, true, true, true, true])])
def mX12_place : sM := (5, 1, [
  (0, .aload_n 0, 1, 0, [], [], []),
  (1, .iconst 0, 1, 0, [], [], []),
  (2, .putfield 1, 3, 0, [], [10, 0], []),
  (5, .iload_n 1, 1, 1, [], [], []),
  (6, .iconst 0, 1, 0, [], [], []),
  (7, .bipush 7, 2, 0, [], [], []),
  (9, .invokestatic 75, 3, 155, [4, 3], [], []),
  (12, .ifCond .eq 7, 3, 19, [], [], []),
  (15, .iload_n 2, 1, 2, [], [], []),
  (16, .ifCond .ge 5, 3, 21, [], [], []),
  (19, .iconst (-1), 1, 0, [], [], []),
  (20, .ireturn, 1, 0, [], [], []),
  (21, .iconst 0, 1, 0, [], [], []),
  (22, .istore_n 3, 1, 3, [], [], []),
  (23, .iconst 0, 1, 0, [], [], []),
  (24, .istore 4, 2, 4, [], [], []),
  (26, .iload 4, 2, 4, [], [], []),
  (28, .aload_n 0, 1, 0, [], [], []),
  (29, .getfield 98, 3, 2, [], [10, 14], []),
  (32, .sipush 2615, 3, 0, [], [], []),
  (35, .iaload, 1, 0, [], [], []),
  (36, .if_icmp .ge 38, 3, 74, [], [], []),
  (39, .aload_n 0, 1, 0, [], [], []),
  (40, .getfield 98, 3, 2, [], [10, 14], []),
  (43, .sipush 2616, 3, 0, [], [], []),
  (46, .iload 4, 2, 4, [], [], []),
  (48, .iadd, 1, 0, [], [], []),
  (49, .iaload, 1, 0, [], [], []),
  (50, .iload_n 1, 1, 1, [], [], []),
  (51, .if_icmp .eq 6, 3, 57, [], [], []),
  (54, .goto 14, 3, 68, [], [], []),
  (57, .iload_n 3, 1, 3, [], [], []),
  (58, .iload_n 2, 1, 2, [], [], []),
  (59, .if_icmp .ne 6, 3, 65, [], [], []),
  (62, .iload 4, 2, 4, [], [], []),
  (64, .ireturn, 1, 0, [], [], []),
  (65, .iinc 3 1, 3, 3, [], [], []),
  (68, .iinc 4 1, 3, 4, [], [], []),
  (71, .goto (-45), 3, 26, [], [], []),
  (74, .iconst (-1), 1, 0, [], [], []),
  (75, .ireturn, 1, 0, [], [], [])], [(26, [true, true, true, true, true])])
def mX12_least : sM := (7, 1, [
  (0, .aload_n 0, 1, 0, [], [], []),
  (1, .iconst 0, 1, 0, [], [], []),
  (2, .putfield 1, 3, 0, [], [10, 0], []),
  (5, .iload_n 1, 1, 1, [], [], []),
  (6, .ifCond .lt 19, 3, 25, [], [], []),
  (9, .iload_n 2, 1, 2, [], [], []),
  (10, .aload_n 0, 1, 0, [], [], []),
  (11, .getfield 98, 3, 2, [], [10, 14], []),
  (14, .sipush 2615, 3, 0, [], [], []),
  (17, .iaload, 1, 0, [], [], []),
  (18, .if_icmp .gt 7, 3, 25, [], [], []),
  (21, .iload_n 3, 1, 3, [], [], []),
  (22, .ifCond .ge 5, 3, 27, [], [], []),
  (25, .iconst (-1), 1, 0, [], [], []),
  (26, .ireturn, 1, 0, [], [], []),
  (27, .iconst 0, 1, 0, [], [], []),
  (28, .istore 4, 2, 4, [], [], []),
  (30, .iconst 0, 1, 0, [], [], []),
  (31, .istore 5, 2, 5, [], [], []),
  (33, .iload 5, 2, 5, [], [], []),
  (35, .bipush 8, 2, 0, [], [], []),
  (37, .if_icmp .ge 52, 3, 89, [], [], []),
  (40, .iload_n 1, 1, 1, [], [], []),
  (41, .istore 6, 2, 6, [], [], []),
  (43, .iload 6, 2, 6, [], [], []),
  (45, .iload_n 2, 1, 2, [], [], []),
  (46, .if_icmp .ge 28, 3, 74, [], [], []),
  (49, .aload_n 0, 1, 0, [], [], []),
  (50, .getfield 98, 3, 2, [], [10, 14], []),
  (53, .sipush 2616, 3, 0, [], [], []),
  (56, .iload 6, 2, 6, [], [], []),
  (58, .iadd, 1, 0, [], [], []),
  (59, .iaload, 1, 0, [], [], []),
  (60, .iload 5, 2, 5, [], [], []),
  (62, .if_icmp .ne 6, 3, 68, [], [], []),
  (65, .iinc 4 1, 3, 4, [], [], []),
  (68, .iinc 6 1, 3, 6, [], [], []),
  (71, .goto (-28), 3, 43, [], [], []),
  (74, .iload 4, 2, 4, [], [], []),
  (76, .iload_n 3, 1, 3, [], [], []),
  (77, .if_icmp .le 6, 3, 83, [], [], []),
  (80, .iload 5, 2, 5, [], [], []),
  (82, .ireturn, 1, 0, [], [], []),
  (83, .iinc 5 1, 3, 5, [], [], []),
  (86, .goto (-53), 3, 33, [], [], []),
  (89, .iconst (-1), 1, 0, [], [], []),
  (90, .ireturn, 1, 0, [], [], [])], [(33, [true, true, true, true, true, true, false]), (43, [true, true, true, true, true, true, true])])
def mX12_isInNode : sM := (2, 4, [
  (0, .iload_n 0, 1, 0, [], [], []),
  (1, .ifCond .eq 31, 3, 32, [], [], []),
  (4, .iload_n 0, 1, 0, [], [], []),
  (5, .iconst 3, 1, 0, [], [], []),
  (6, .if_icmp .ge 12, 3, 18, [], [], []),
  (9, .iload_n 1, 1, 1, [], [], []),
  (10, .iconst 4, 1, 0, [], [], []),
  (11, .idiv, 1, 0, [], [], []),
  (12, .iload_n 0, 1, 0, [], [], []),
  (13, .iconst 1, 1, 0, [], [], []),
  (14, .isub, 1, 0, [], [], []),
  (15, .if_icmp .eq 17, 3, 32, [], [], []),
  (18, .iload_n 0, 1, 0, [], [], []),
  (19, .iconst 2, 1, 0, [], [], []),
  (20, .if_icmp .le 16, 3, 36, [], [], []),
  (23, .iload_n 1, 1, 1, [], [], []),
  (24, .iconst 2, 1, 0, [], [], []),
  (25, .idiv, 1, 0, [], [], []),
  (26, .iload_n 0, 1, 0, [], [], []),
  (27, .iconst 3, 1, 0, [], [], []),
  (28, .isub, 1, 0, [], [], []),
  (29, .if_icmp .ne 7, 3, 36, [], [], []),
  (32, .iconst 1, 1, 0, [], [], []),
  (33, .goto 4, 3, 37, [], [], []),
  (36, .iconst 0, 1, 0, [], [], []),
  (37, .ireturn, 1, 0, [], [], [])], [])
def mX12_node : sM := (6, 1, [
  (0, .aload_n 0, 1, 0, [], [], []),
  (1, .iconst 0, 1, 0, [], [], []),
  (2, .putfield 1, 3, 0, [], [10, 0], []),
  (5, .iload_n 1, 1, 1, [], [], []),
  (6, .iconst 0, 1, 0, [], [], []),
  (7, .bipush 6, 2, 0, [], [], []),
  (9, .invokestatic 75, 3, 155, [4, 3], [], []),
  (12, .ifCond .eq 7, 3, 19, [], [], []),
  (15, .iload_n 2, 1, 2, [], [], []),
  (16, .ifCond .ge 5, 3, 21, [], [], []),
  (19, .iconst (-1), 1, 0, [], [], []),
  (20, .ireturn, 1, 0, [], [], []),
  (21, .iconst 0, 1, 0, [], [], []),
  (22, .istore_n 3, 1, 3, [], [], []),
  (23, .iconst 0, 1, 0, [], [], []),
  (24, .istore 4, 2, 4, [], [], []),
  (26, .iload 4, 2, 4, [], [], []),
  (28, .aload_n 0, 1, 0, [], [], []),
  (29, .getfield 98, 3, 2, [], [10, 14], []),
  (32, .sipush 2615, 3, 0, [], [], []),
  (35, .iaload, 1, 0, [], [], []),
  (36, .if_icmp .ge 66, 3, 102, [], [], []),
  (39, .aload_n 0, 1, 0, [], [], []),
  (40, .getfield 98, 3, 2, [], [10, 14], []),
  (43, .sipush 2616, 3, 0, [], [], []),
  (46, .iload 4, 2, 4, [], [], []),
  (48, .iadd, 1, 0, [], [], []),
  (49, .iaload, 1, 0, [], [], []),
  (50, .istore 5, 2, 5, [], [], []),
  (52, .iload_n 1, 1, 1, [], [], []),
  (53, .iload 5, 2, 5, [], [], []),
  (55, .invokestatic 285, 3, 228, [4, 2], [], []),
  (58, .ifCond .ne 6, 3, 64, [], [], []),
  (61, .goto 35, 3, 96, [], [], []),
  (64, .iload_n 3, 1, 3, [], [], []),
  (65, .iload_n 2, 1, 2, [], [], []),
  (66, .if_icmp .ne 27, 3, 93, [], [], []),
  (69, .iload 5, 2, 5, [], [], []),
  (71, .iload_n 1, 1, 1, [], [], []),
  (72, .ifCond .ne 7, 3, 79, [], [], []),
  (75, .iconst 2, 1, 0, [], [], []),
  (76, .goto 13, 3, 89, [], [], []),
  (79, .iload_n 1, 1, 1, [], [], []),
  (80, .iconst 3, 1, 0, [], [], []),
  (81, .if_icmp .ge 7, 3, 88, [], [], []),
  (84, .iconst 1, 1, 0, [], [], []),
  (85, .goto 4, 3, 89, [], [], []),
  (88, .iconst 0, 1, 0, [], [], []),
  (89, .ishr, 1, 0, [], [], []),
  (90, .iconst 1, 1, 0, [], [], []),
  (91, .iand, 1, 0, [], [], []),
  (92, .ireturn, 1, 0, [], [], []),
  (93, .iinc 3 1, 3, 3, [], [], []),
  (96, .iinc 4 1, 3, 4, [], [], []),
  (99, .goto (-73), 3, 26, [], [], []),
  (102, .iconst (-1), 1, 0, [], [], []),
  (103, .ireturn, 1, 0, [], [], [])], [(26, [true, true, true, true, true, false])])
def mX12_save : sM := (4, 0, [
  (0, .iconst 0, 1, 0, [], [], []),
  (1, .istore_n 3, 1, 3, [], [], []),
  (2, .iload_n 3, 1, 3, [], [], []),
  (3, .sipush 3213, 3, 0, [], [], []),
  (6, .if_icmp .ge 24, 3, 30, [], [], []),
  (9, .aload_n 1, 1, 1, [], [], []),
  (10, .iload_n 2, 1, 2, [], [], []),
  (11, .iload_n 3, 1, 3, [], [], []),
  (12, .iadd, 1, 0, [], [], []),
  (13, .aload_n 0, 1, 0, [], [], []),
  (14, .getfield 98, 3, 2, [], [10, 14], []),
  (17, .sipush 2607, 3, 0, [], [], []),
  (20, .iload_n 3, 1, 3, [], [], []),
  (21, .iadd, 1, 0, [], [], []),
  (22, .iaload, 1, 0, [], [], []),
  (23, .iastore, 1, 0, [], [], []),
  (24, .iinc 3 1, 3, 3, [], [], []),
  (27, .goto (-25), 3, 2, [], [], []),
  (30, .return_, 1, 0, [], [], [])], [(2, [true, true, true, true])])
def mX12_comeBack : sM := (4, 0, [
  (0, .iconst 0, 1, 0, [], [], []),
  (1, .istore_n 3, 1, 3, [], [], []),
  (2, .iload_n 3, 1, 3, [], [], []),
  (3, .sipush 3213, 3, 0, [], [], []),
  (6, .if_icmp .ge 24, 3, 30, [], [], []),
  (9, .aload_n 0, 1, 0, [], [], []),
  (10, .getfield 98, 3, 2, [], [10, 14], []),
  (13, .sipush 2607, 3, 0, [], [], []),
  (16, .iload_n 3, 1, 3, [], [], []),
  (17, .iadd, 1, 0, [], [], []),
  (18, .aload_n 1, 1, 1, [], [], []),
  (19, .iload_n 2, 1, 2, [], [], []),
  (20, .iload_n 3, 1, 3, [], [], []),
  (21, .iadd, 1, 0, [], [], []),
  (22, .iaload, 1, 0, [], [], []),
  (23, .iastore, 1, 0, [], [], []),
  (24, .iinc 3 1, 3, 3, [], [], []),
  (27, .goto (-25), 3, 2, [], [], []),
  (30, .return_, 1, 0, [], [], [])], [(2, [true, true, true, true])])
def mX12_snap : sM := (2, 0, [
  (0, .aload_n 0, 1, 0, [], [], []),
  (1, .getfield 192, 3, 0, [], [10, 24], []),
  (4, .bipush 8, 2, 0, [], [], []),
  (6, .if_icmp .ne 44, 3, 50, [], [], []),
  (9, .iconst 0, 1, 0, [], [], []),
  (10, .istore_n 1, 1, 1, [], [], []),
  (11, .iload_n 1, 1, 1, [], [], []),
  (12, .sipush 22491, 3, 0, [], [], []),
  (15, .if_icmp .ge 25, 3, 40, [], [], []),
  (18, .aload_n 0, 1, 0, [], [], []),
  (19, .getfield 107, 3, 2, [], [10, 17], []),
  (22, .iload_n 1, 1, 1, [], [], []),
  (23, .aload_n 0, 1, 0, [], [], []),
  (24, .getfield 107, 3, 2, [], [10, 17], []),
  (27, .iload_n 1, 1, 1, [], [], []),
  (28, .sipush 3213, 3, 0, [], [], []),
  (31, .iadd, 1, 0, [], [], []),
  (32, .iaload, 1, 0, [], [], []),
  (33, .iastore, 1, 0, [], [], []),
  (34, .iinc 1 1, 3, 1, [], [], []),
  (37, .goto (-26), 3, 11, [], [], []),
  (40, .aload_n 0, 1, 0, [], [], []),
  (41, .dup, 1, 0, [], [], []),
  (42, .getfield 192, 3, 0, [], [10, 24], []),
  (45, .iconst 1, 1, 0, [], [], []),
  (46, .isub, 1, 0, [], [], []),
  (47, .putfield 192, 3, 0, [], [10, 24], []),
  (50, .aload_n 0, 1, 0, [], [], []),
  (51, .aload_n 0, 1, 0, [], [], []),
  (52, .getfield 107, 3, 2, [], [10, 17], []),
  (55, .sipush 3213, 3, 0, [], [], []),
  (58, .aload_n 0, 1, 0, [], [], []),
  (59, .getfield 192, 3, 0, [], [10, 24], []),
  (62, .imul, 1, 0, [], [], []),
  (63, .invokevirtual 288, 3, 230, [0, 2], [10], []),
  (66, .aload_n 0, 1, 0, [], [], []),
  (67, .dup, 1, 0, [], [], []),
  (68, .getfield 192, 3, 0, [], [10, 24], []),
  (71, .iconst 1, 1, 0, [], [], []),
  (72, .iadd, 1, 0, [], [], []),
  (73, .putfield 192, 3, 0, [], [10, 24], []),
  (76, .return_, 1, 0, [], [], [])], [(11, [true, true])])
def mX12_areThere : sM := (3, 4, [
  (0, .iload_n 0, 1, 0, [], [], []),
  (1, .ifCond .lt 19, 3, 20, [], [], []),
  (4, .iload_n 1, 1, 1, [], [], []),
  (5, .iload_n 2, 1, 2, [], [], []),
  (6, .if_icmp .gt 14, 3, 20, [], [], []),
  (9, .iload_n 0, 1, 0, [], [], []),
  (10, .iload_n 2, 1, 2, [], [], []),
  (11, .iload_n 1, 1, 1, [], [], []),
  (12, .isub, 1, 0, [], [], []),
  (13, .if_icmp .gt 7, 3, 20, [], [], []),
  (16, .iconst 1, 1, 0, [], [], []),
  (17, .goto 4, 3, 21, [], [], []),
  (20, .iconst 0, 1, 0, [], [], []),
  (21, .ireturn, 1, 0, [], [], [])], [])
def mX12_whyPut : sM := (4, 1, [
  (0, .iload_n 2, 1, 2, [], [], []),
  (1, .iconst 0, 1, 0, [], [], []),
  (2, .aload_n 0, 1, 0, [], [], []),
  (3, .iload_n 1, 1, 1, [], [], []),
  (4, .invokevirtual 199, 3, 180, [1, 1], [10], []),
  (7, .invokestatic 75, 3, 155, [4, 3], [], []),
  (10, .ifCond .ne 7, 3, 17, [], [], []),
  (13, .iconst 1, 1, 0, [], [], []),
  (14, .goto 21, 3, 35, [], [], []),
  (17, .aload_n 0, 1, 0, [], [], []),
  (18, .iload_n 1, 1, 1, [], [], []),
  (19, .invokevirtual 199, 3, 180, [1, 1], [10], []),
  (22, .iload_n 3, 1, 3, [], [], []),
  (23, .iadd, 1, 0, [], [], []),
  (24, .sipush 600, 3, 0, [], [], []),
  (27, .if_icmp .le 7, 3, 34, [], [], []),
  (30, .iconst 2, 1, 0, [], [], []),
  (31, .goto 4, 3, 35, [], [], []),
  (34, .iconst 0, 1, 0, [], [], []),
  (35, .ireturn, 1, 0, [], [], [])], [])
def mX12_refusal : sM := (5, 1, [
  (0, .iload_n 1, 1, 1, [], [], []),
  (1, .tableswitch 217 0 6 #[43, 51, 81, 81, 101, 138, 177], 43, 218, [], [], [(0, 44), (1, 52), (2, 82), (3, 82), (4, 102), (5, 139), (6, 178)]),
  (44, .aload_n 0, 1, 0, [], [], []),
  (45, .iload_n 2, 1, 2, [], [], []),
  (46, .iload_n 3, 1, 3, [], [], []),
  (47, .iconst 1, 1, 0, [], [], []),
  (48, .invokevirtual 292, 3, 234, [1, 3], [10], []),
  (51, .ireturn, 1, 0, [], [], []),
  (52, .aload_n 0, 1, 0, [], [], []),
  (53, .iload_n 2, 1, 2, [], [], []),
  (54, .iload_n 3, 1, 3, [], [], []),
  (55, .invokevirtual 218, 3, 190, [4, 2], [10], []),
  (58, .ifCond .ne 7, 3, 65, [], [], []),
  (61, .iconst 1, 1, 0, [], [], []),
  (62, .goto 19, 3, 81, [], [], []),
  (65, .aload_n 0, 1, 0, [], [], []),
  (66, .iload_n 2, 1, 2, [], [], []),
  (67, .iload_n 3, 1, 3, [], [], []),
  (68, .invokevirtual 212, 3, 181, [1, 2], [10], []),
  (71, .iload 4, 2, 4, [], [], []),
  (73, .if_icmp .ne 7, 3, 80, [], [], []),
  (76, .iconst 2, 1, 0, [], [], []),
  (77, .goto 4, 3, 81, [], [], []),
  (80, .iconst 0, 1, 0, [], [], []),
  (81, .ireturn, 1, 0, [], [], []),
  (82, .iload_n 3, 1, 3, [], [], []),
  (83, .iload 4, 2, 4, [], [], []),
  (85, .aload_n 0, 1, 0, [], [], []),
  (86, .iload_n 2, 1, 2, [], [], []),
  (87, .invokevirtual 199, 3, 180, [1, 1], [10], []),
  (90, .invokestatic 295, 3, 233, [4, 3], [], []),
  (93, .ifCond .eq 7, 3, 100, [], [], []),
  (96, .iconst 0, 1, 0, [], [], []),
  (97, .goto 4, 3, 101, [], [], []),
  (100, .iconst 1, 1, 0, [], [], []),
  (101, .ireturn, 1, 0, [], [], []),
  (102, .aload_n 0, 1, 0, [], [], []),
  (103, .iload 4, 2, 4, [], [], []),
  (105, .invokevirtual 199, 3, 180, [1, 1], [10], []),
  (108, .ifCond .ne 7, 3, 115, [], [], []),
  (111, .iconst 1, 1, 0, [], [], []),
  (112, .goto 26, 3, 138, [], [], []),
  (115, .aload_n 0, 1, 0, [], [], []),
  (116, .iload_n 2, 1, 2, [], [], []),
  (117, .invokevirtual 199, 3, 180, [1, 1], [10], []),
  (120, .aload_n 0, 1, 0, [], [], []),
  (121, .iload 4, 2, 4, [], [], []),
  (123, .invokevirtual 199, 3, 180, [1, 1], [10], []),
  (126, .iadd, 1, 0, [], [], []),
  (127, .sipush 600, 3, 0, [], [], []),
  (130, .if_icmp .le 7, 3, 137, [], [], []),
  (133, .iconst 2, 1, 0, [], [], []),
  (134, .goto 4, 3, 138, [], [], []),
  (137, .iconst 0, 1, 0, [], [], []),
  (138, .ireturn, 1, 0, [], [], []),
  (139, .aload_n 0, 1, 0, [], [], []),
  (140, .iload_n 2, 1, 2, [], [], []),
  (141, .iload_n 3, 1, 3, [], [], []),
  (142, .invokevirtual 218, 3, 190, [4, 2], [10], []),
  (145, .ifCond .ne 7, 3, 152, [], [], []),
  (148, .iconst 1, 1, 0, [], [], []),
  (149, .goto 28, 3, 177, [], [], []),
  (152, .aload_n 0, 1, 0, [], [], []),
  (153, .iload 4, 2, 4, [], [], []),
  (155, .invokevirtual 199, 3, 180, [1, 1], [10], []),
  (158, .aload_n 0, 1, 0, [], [], []),
  (159, .iload_n 2, 1, 2, [], [], []),
  (160, .invokevirtual 199, 3, 180, [1, 1], [10], []),
  (163, .iadd, 1, 0, [], [], []),
  (164, .iload_n 3, 1, 3, [], [], []),
  (165, .isub, 1, 0, [], [], []),
  (166, .sipush 600, 3, 0, [], [], []),
  (169, .if_icmp .le 7, 3, 176, [], [], []),
  (172, .iconst 2, 1, 0, [], [], []),
  (173, .goto 4, 3, 177, [], [], []),
  (176, .iconst 0, 1, 0, [], [], []),
  (177, .ireturn, 1, 0, [], [], []),
  (178, .iload_n 3, 1, 3, [], [], []),
  (179, .iconst 0, 1, 0, [], [], []),
  (180, .aload_n 0, 1, 0, [], [], []),
  (181, .getfield 98, 3, 2, [], [10, 14], []),
  (184, .sipush 2615, 3, 0, [], [], []),
  (187, .iaload, 1, 0, [], [], []),
  (188, .invokestatic 75, 3, 155, [4, 3], [], []),
  (191, .ifCond .ne 7, 3, 198, [], [], []),
  (194, .iconst 1, 1, 0, [], [], []),
  (195, .goto 22, 3, 217, [], [], []),
  (198, .aload_n 0, 1, 0, [], [], []),
  (199, .getfield 98, 3, 2, [], [10, 14], []),
  (202, .sipush 2615, 3, 0, [], [], []),
  (205, .iaload, 1, 0, [], [], []),
  (206, .sipush 200, 3, 0, [], [], []),
  (209, .if_icmp .ne 7, 3, 216, [], [], []),
  (212, .iconst 2, 1, 0, [], [], []),
  (213, .goto 4, 3, 217, [], [], []),
  (216, .iconst 0, 1, 0, [], [], []),
  (217, .ireturn, 1, 0, [], [], []),
  (218, .iload_n 3, 1, 3, [], [], []),
  (219, .iload 4, 2, 4, [], [], []),
  (221, .aload_n 0, 1, 0, [], [], []),
  (222, .getfield 98, 3, 2, [], [10, 14], []),
  (225, .sipush 2615, 3, 0, [], [], []),
  (228, .iaload, 1, 0, [], [], []),
  (229, .invokestatic 295, 3, 233, [4, 3], [], []),
  (232, .ifCond .eq 7, 3, 239, [], [], []),
  (235, .iconst 0, 1, 0, [], [], []),
  (236, .goto 4, 3, 240, [], [], []),
  (239, .iconst 1, 1, 0, [], [], []),
  (240, .ireturn, 1, 0, [], [], [])], [])
def mX12_live : sM := (6, 0, [
  (0, .iload_n 1, 1, 1, [], [], []),
  (1, .tableswitch 228 0 6 #[43, 52, 71, 94, 139, 148, 157], 43, 229, [], [], [(0, 44), (1, 53), (2, 72), (3, 95), (4, 140), (5, 149), (6, 158)]),
  (44, .aload_n 0, 1, 0, [], [], []),
  (45, .iload_n 2, 1, 2, [], [], []),
  (46, .iload_n 3, 1, 3, [], [], []),
  (47, .iload 4, 2, 4, [], [], []),
  (49, .invokevirtual 142, 3, 185, [0, 3], [10], []),
  (52, .return_, 1, 0, [], [], []),
  (53, .aload_n 0, 1, 0, [], [], []),
  (54, .getfield 98, 3, 2, [], [10, 14], []),
  (57, .sipush 3420, 3, 0, [], [], []),
  (60, .sipush 600, 3, 0, [], [], []),
  (63, .iload_n 2, 1, 2, [], [], []),
  (64, .imul, 1, 0, [], [], []),
  (65, .iadd, 1, 0, [], [], []),
  (66, .iload_n 3, 1, 3, [], [], []),
  (67, .iadd, 1, 0, [], [], []),
  (68, .iload 4, 2, 4, [], [], []),
  (70, .iastore, 1, 0, [], [], []),
  (71, .return_, 1, 0, [], [], []),
  (72, .iconst 0, 1, 0, [], [], []),
  (73, .istore 5, 2, 5, [], [], []),
  (75, .iload 5, 2, 5, [], [], []),
  (77, .iload 4, 2, 4, [], [], []),
  (79, .if_icmp .ge 15, 3, 94, [], [], []),
  (82, .aload_n 0, 1, 0, [], [], []),
  (83, .iload_n 2, 1, 2, [], [], []),
  (84, .iload_n 3, 1, 3, [], [], []),
  (85, .invokevirtual 298, 3, 187, [0, 2], [10], []),
  (88, .iinc 5 1, 3, 5, [], [], []),
  (91, .goto (-16), 3, 75, [], [], []),
  (94, .return_, 1, 0, [], [], []),
  (95, .iload_n 3, 1, 3, [], [], []),
  (96, .istore 5, 2, 5, [], [], []),
  (98, .iload 5, 2, 5, [], [], []),
  (100, .iload_n 3, 1, 3, [], [], []),
  (101, .iload 4, 2, 4, [], [], []),
  (103, .iadd, 1, 0, [], [], []),
  (104, .if_icmp .ge 35, 3, 139, [], [], []),
  (107, .aload_n 0, 1, 0, [], [], []),
  (108, .getfield 98, 3, 2, [], [10, 14], []),
  (111, .sipush 3420, 3, 0, [], [], []),
  (114, .sipush 600, 3, 0, [], [], []),
  (117, .iload_n 2, 1, 2, [], [], []),
  (118, .imul, 1, 0, [], [], []),
  (119, .iadd, 1, 0, [], [], []),
  (120, .iload 5, 2, 5, [], [], []),
  (122, .iadd, 1, 0, [], [], []),
  (123, .iconst 1, 1, 0, [], [], []),
  (124, .aload_n 0, 1, 0, [], [], []),
  (125, .iload_n 2, 1, 2, [], [], []),
  (126, .iload 5, 2, 5, [], [], []),
  (128, .invokevirtual 212, 3, 181, [1, 2], [10], []),
  (131, .isub, 1, 0, [], [], []),
  (132, .iastore, 1, 0, [], [], []),
  (133, .iinc 5 1, 3, 5, [], [], []),
  (136, .goto (-38), 3, 98, [], [], []),
  (139, .return_, 1, 0, [], [], []),
  (140, .aload_n 0, 1, 0, [], [], []),
  (141, .iload 4, 2, 4, [], [], []),
  (143, .iconst 0, 1, 0, [], [], []),
  (144, .iload_n 2, 1, 2, [], [], []),
  (145, .invokevirtual 301, 3, 237, [0, 3], [10], []),
  (148, .return_, 1, 0, [], [], []),
  (149, .aload_n 0, 1, 0, [], [], []),
  (150, .iload_n 2, 1, 2, [], [], []),
  (151, .iload_n 3, 1, 3, [], [], []),
  (152, .iload 4, 2, 4, [], [], []),
  (154, .invokevirtual 301, 3, 237, [0, 3], [10], []),
  (157, .return_, 1, 0, [], [], []),
  (158, .aload_n 0, 1, 0, [], [], []),
  (159, .getfield 98, 3, 2, [], [10, 14], []),
  (162, .sipush 2615, 3, 0, [], [], []),
  (165, .iaload, 1, 0, [], [], []),
  (166, .istore 5, 2, 5, [], [], []),
  (168, .iload 5, 2, 5, [], [], []),
  (170, .iload_n 3, 1, 3, [], [], []),
  (171, .if_icmp .le 33, 3, 204, [], [], []),
  (174, .aload_n 0, 1, 0, [], [], []),
  (175, .getfield 98, 3, 2, [], [10, 14], []),
  (178, .sipush 2616, 3, 0, [], [], []),
  (181, .iload 5, 2, 5, [], [], []),
  (183, .iadd, 1, 0, [], [], []),
  (184, .aload_n 0, 1, 0, [], [], []),
  (185, .getfield 98, 3, 2, [], [10, 14], []),
  (188, .sipush 2616, 3, 0, [], [], []),
  (191, .iload 5, 2, 5, [], [], []),
  (193, .iadd, 1, 0, [], [], []),
  (194, .iconst 1, 1, 0, [], [], []),
  (195, .isub, 1, 0, [], [], []),
  (196, .iaload, 1, 0, [], [], []),
  (197, .iastore, 1, 0, [], [], []),
  (198, .iinc 5 (-1), 3, 5, [], [], []),
  (201, .goto (-33), 3, 168, [], [], []),
  (204, .aload_n 0, 1, 0, [], [], []),
  (205, .getfield 98, 3, 2, [], [10, 14], []),
  (208, .sipush 2616, 3, 0, [], [], []),
  (211, .iload_n 3, 1, 3, [], [], []),
  (212, .iadd, 1, 0, [], [], []),
  (213, .iload 4, 2, 4, [], [], []),
  (215, .iastore, 1, 0, [], [], []),
  (216, .aload_n 0, 1, 0, [], [], []),
  (217, .getfield 98, 3, 2, [], [10, 14], []),
  (220, .sipush 2615, 3, 0, [], [], []),
  (223, .dup2, 1, 0, [], [], []),
  (224, .iaload, 1, 0, [], [], []),
  (225, .iconst 1, 1, 0, [], [], []),
  (226, .iadd, 1, 0, [], [], []),
  (227, .iastore, 1, 0, [], [], []),
  (228, .return_, 1, 0, [], [], []),
  (229, .aload_n 0, 1, 0, [], [], []),
  (230, .getfield 98, 3, 2, [], [10, 14], []),
  (233, .sipush 2615, 3, 0, [], [], []),
  (236, .dup2, 1, 0, [], [], []),
  (237, .iaload, 1, 0, [], [], []),
  (238, .iload 4, 2, 4, [], [], []),
  (240, .isub, 1, 0, [], [], []),
  (241, .iastore, 1, 0, [], [], []),
  (242, .iload_n 3, 1, 3, [], [], []),
  (243, .istore 5, 2, 5, [], [], []),
  (245, .iload 5, 2, 5, [], [], []),
  (247, .sipush 200, 3, 0, [], [], []),
  (250, .if_icmp .ge 51, 3, 301, [], [], []),
  (253, .aload_n 0, 1, 0, [], [], []),
  (254, .getfield 98, 3, 2, [], [10, 14], []),
  (257, .sipush 2616, 3, 0, [], [], []),
  (260, .iload 5, 2, 5, [], [], []),
  (262, .iadd, 1, 0, [], [], []),
  (263, .iload 5, 2, 5, [], [], []),
  (265, .aload_n 0, 1, 0, [], [], []),
  (266, .getfield 98, 3, 2, [], [10, 14], []),
  (269, .sipush 2615, 3, 0, [], [], []),
  (272, .iaload, 1, 0, [], [], []),
  (273, .if_icmp .ge 20, 3, 293, [], [], []),
  (276, .aload_n 0, 1, 0, [], [], []),
  (277, .getfield 98, 3, 2, [], [10, 14], []),
  (280, .sipush 2616, 3, 0, [], [], []),
  (283, .iload 5, 2, 5, [], [], []),
  (285, .iadd, 1, 0, [], [], []),
  (286, .iload 4, 2, 4, [], [], []),
  (288, .iadd, 1, 0, [], [], []),
  (289, .iaload, 1, 0, [], [], []),
  (290, .goto 4, 3, 294, [], [], []),
  (293, .iconst 0, 1, 0, [], [], []),
  (294, .iastore, 1, 0, [], [], []),
  (295, .iinc 5 1, 3, 5, [], [], []),
  (298, .goto (-53), 3, 245, [], [], []),
  (301, .return_, 1, 0, [], [], [])], [(75, [true, false, true, true, true, true]), (98, [true, false, true, true, true, true]), (168, [true, false, false, true, true, true]), (245, [true, false, false, false, true, true])])
def mX12_moves : sM := (6, 0, [
  (0, .aload_n 0, 1, 0, [], [], []),
  (1, .iload_n 1, 1, 1, [], [], []),
  (2, .invokevirtual 199, 3, 180, [1, 1], [10], []),
  (5, .iload_n 2, 1, 2, [], [], []),
  (6, .isub, 1, 0, [], [], []),
  (7, .istore 4, 2, 4, [], [], []),
  (9, .iconst 0, 1, 0, [], [], []),
  (10, .istore 5, 2, 5, [], [], []),
  (12, .iload 5, 2, 5, [], [], []),
  (14, .iload 4, 2, 4, [], [], []),
  (16, .if_icmp .ge 28, 3, 44, [], [], []),
  (19, .aload_n 0, 1, 0, [], [], []),
  (20, .iload_n 3, 1, 3, [], [], []),
  (21, .aload_n 0, 1, 0, [], [], []),
  (22, .iload_n 3, 1, 3, [], [], []),
  (23, .invokevirtual 199, 3, 180, [1, 1], [10], []),
  (26, .aload_n 0, 1, 0, [], [], []),
  (27, .iload_n 1, 1, 1, [], [], []),
  (28, .iload_n 2, 1, 2, [], [], []),
  (29, .iload 5, 2, 5, [], [], []),
  (31, .iadd, 1, 0, [], [], []),
  (32, .invokevirtual 212, 3, 181, [1, 2], [10], []),
  (35, .invokevirtual 142, 3, 185, [0, 3], [10], []),
  (38, .iinc 5 1, 3, 5, [], [], []),
  (41, .goto (-29), 3, 12, [], [], []),
  (44, .iconst 0, 1, 0, [], [], []),
  (45, .istore 5, 2, 5, [], [], []),
  (47, .iload 5, 2, 5, [], [], []),
  (49, .iload 4, 2, 4, [], [], []),
  (51, .if_icmp .ge 15, 3, 66, [], [], []),
  (54, .aload_n 0, 1, 0, [], [], []),
  (55, .iload_n 1, 1, 1, [], [], []),
  (56, .iload_n 2, 1, 2, [], [], []),
  (57, .invokevirtual 298, 3, 187, [0, 2], [10], []),
  (60, .iinc 5 1, 3, 5, [], [], []),
  (63, .goto (-16), 3, 47, [], [], []),
  (66, .return_, 1, 0, [], [], [])], [(12, [true, true, true, true, true, true]), (47, [true, true, true, false, true, true])])
def mX12_act : sM := (7, 1, [
  (0, .iload 5, 2, 5, [], [], []),
  (2, .ifCond .ne 5, 3, 7, [], [], []),
  (5, .iconst (-1), 1, 0, [], [], []),
  (6, .ireturn, 1, 0, [], [], []),
  (7, .aload_n 0, 1, 0, [], [], []),
  (8, .iload_n 1, 1, 1, [], [], []),
  (9, .iload_n 2, 1, 2, [], [], []),
  (10, .iload_n 3, 1, 3, [], [], []),
  (11, .iload 4, 2, 4, [], [], []),
  (13, .invokevirtual 304, 3, 235, [1, 4], [10], []),
  (16, .istore 6, 2, 6, [], [], []),
  (18, .iload 6, 2, 6, [], [], []),
  (20, .ifCond .eq 6, 3, 26, [], [], []),
  (23, .iload 6, 2, 6, [], [], []),
  (25, .ireturn, 1, 0, [], [], []),
  (26, .aload_n 0, 1, 0, [], [], []),
  (27, .invokevirtual 308, 3, 232, [0, 0], [10], []),
  (30, .aload_n 0, 1, 0, [], [], []),
  (31, .iload_n 1, 1, 1, [], [], []),
  (32, .iload_n 2, 1, 2, [], [], []),
  (33, .iload_n 3, 1, 3, [], [], []),
  (34, .iload 4, 2, 4, [], [], []),
  (36, .invokevirtual 311, 3, 236, [0, 4], [10], []),
  (39, .iconst 0, 1, 0, [], [], []),
  (40, .ireturn, 1, 0, [], [], [])], [])
def mX12_put : sM := (4, 1, [
  (0, .aload_n 0, 1, 0, [], [], []),
  (1, .iconst 0, 1, 0, [], [], []),
  (2, .putfield 1, 3, 0, [], [10, 0], []),
  (5, .aload_n 0, 1, 0, [], [], []),
  (6, .iconst 0, 1, 0, [], [], []),
  (7, .iload_n 1, 1, 1, [], [], []),
  (8, .iload_n 2, 1, 2, [], [], []),
  (9, .iload_n 3, 1, 3, [], [], []),
  (10, .aload_n 0, 1, 0, [], [], []),
  (11, .iload_n 1, 1, 1, [], [], []),
  (12, .invokevirtual 215, 3, 188, [4, 1], [10], []),
  (15, .ifCond .eq 15, 3, 30, [], [], []),
  (18, .aload_n 0, 1, 0, [], [], []),
  (19, .iload_n 3, 1, 3, [], [], []),
  (20, .invokevirtual 221, 3, 189, [4, 1], [10], []),
  (23, .ifCond .eq 7, 3, 30, [], [], []),
  (26, .iconst 1, 1, 0, [], [], []),
  (27, .goto 4, 3, 31, [], [], []),
  (30, .iconst 0, 1, 0, [], [], []),
  (31, .invokevirtual 315, 3, 238, [1, 5], [10], []),
  (34, .ireturn, 1, 0, [], [], [])], [])
def mX12_set : sM := (4, 1, [
  (0, .aload_n 0, 1, 0, [], [], []),
  (1, .iconst 0, 1, 0, [], [], []),
  (2, .putfield 1, 3, 0, [], [10, 0], []),
  (5, .aload_n 0, 1, 0, [], [], []),
  (6, .iconst 1, 1, 0, [], [], []),
  (7, .iload_n 1, 1, 1, [], [], []),
  (8, .iload_n 2, 1, 2, [], [], []),
  (9, .iload_n 3, 1, 3, [], [], []),
  (10, .aload_n 0, 1, 0, [], [], []),
  (11, .iload_n 1, 1, 1, [], [], []),
  (12, .invokevirtual 215, 3, 188, [4, 1], [10], []),
  (15, .ifCond .eq 15, 3, 30, [], [], []),
  (18, .aload_n 0, 1, 0, [], [], []),
  (19, .iload_n 3, 1, 3, [], [], []),
  (20, .invokevirtual 221, 3, 189, [4, 1], [10], []),
  (23, .ifCond .eq 7, 3, 30, [], [], []),
  (26, .iconst 1, 1, 0, [], [], []),
  (27, .goto 4, 3, 31, [], [], []),
  (30, .iconst 0, 1, 0, [], [], []),
  (31, .invokevirtual 315, 3, 238, [1, 5], [10], []),
  (34, .ireturn, 1, 0, [], [], [])], [])
def mX12_cut : sM := (4, 1, [
  (0, .aload_n 0, 1, 0, [], [], []),
  (1, .iconst 0, 1, 0, [], [], []),
  (2, .putfield 1, 3, 0, [], [10, 0], []),
  (5, .aload_n 0, 1, 0, [], [], []),
  (6, .iconst 2, 1, 0, [], [], []),
  (7, .iload_n 1, 1, 1, [], [], []),
  (8, .iload_n 2, 1, 2, [], [], []),
  (9, .iload_n 3, 1, 3, [], [], []),
  (10, .aload_n 0, 1, 0, [], [], []),
  (11, .iload_n 1, 1, 1, [], [], []),
  (12, .invokevirtual 215, 3, 188, [4, 1], [10], []),
  (15, .ifCond .eq 18, 3, 33, [], [], []),
  (18, .iload_n 3, 1, 3, [], [], []),
  (19, .iconst 1, 1, 0, [], [], []),
  (20, .sipush 600, 3, 0, [], [], []),
  (23, .invokestatic 75, 3, 155, [4, 3], [], []),
  (26, .ifCond .eq 7, 3, 33, [], [], []),
  (29, .iconst 1, 1, 0, [], [], []),
  (30, .goto 4, 3, 34, [], [], []),
  (33, .iconst 0, 1, 0, [], [], []),
  (34, .invokevirtual 315, 3, 238, [1, 5], [10], []),
  (37, .ireturn, 1, 0, [], [], [])], [])
def mX12_turn : sM := (4, 1, [
  (0, .aload_n 0, 1, 0, [], [], []),
  (1, .iconst 0, 1, 0, [], [], []),
  (2, .putfield 1, 3, 0, [], [10, 0], []),
  (5, .aload_n 0, 1, 0, [], [], []),
  (6, .iconst 3, 1, 0, [], [], []),
  (7, .iload_n 1, 1, 1, [], [], []),
  (8, .iload_n 2, 1, 2, [], [], []),
  (9, .iload_n 3, 1, 3, [], [], []),
  (10, .aload_n 0, 1, 0, [], [], []),
  (11, .iload_n 1, 1, 1, [], [], []),
  (12, .invokevirtual 215, 3, 188, [4, 1], [10], []),
  (15, .ifCond .eq 18, 3, 33, [], [], []),
  (18, .iload_n 3, 1, 3, [], [], []),
  (19, .iconst 1, 1, 0, [], [], []),
  (20, .sipush 600, 3, 0, [], [], []),
  (23, .invokestatic 75, 3, 155, [4, 3], [], []),
  (26, .ifCond .eq 7, 3, 33, [], [], []),
  (29, .iconst 1, 1, 0, [], [], []),
  (30, .goto 4, 3, 34, [], [], []),
  (33, .iconst 0, 1, 0, [], [], []),
  (34, .invokevirtual 315, 3, 238, [1, 5], [10], []),
  (37, .ireturn, 1, 0, [], [], [])], [])
def mX12_paste : sM := (6, 1, [
  (0, .aload_n 0, 1, 0, [], [], []),
  (1, .iconst 0, 1, 0, [], [], []),
  (2, .putfield 1, 3, 0, [], [10, 0], []),
  (5, .aload_n 0, 1, 0, [], [], []),
  (6, .invokevirtual 89, 3, 154, [1, 0], [10], []),
  (9, .istore_n 3, 1, 3, [], [], []),
  (10, .aload_n 0, 1, 0, [], [], []),
  (11, .iload_n 1, 1, 1, [], [], []),
  (12, .invokevirtual 215, 3, 188, [4, 1], [10], []),
  (15, .ifCond .eq 13, 3, 28, [], [], []),
  (18, .aload_n 0, 1, 0, [], [], []),
  (19, .iload_n 3, 1, 3, [], [], []),
  (20, .bipush 64, 2, 0, [], [], []),
  (22, .invokevirtual 273, 3, 219, [4, 2], [10], []),
  (25, .ifCond .ne 5, 3, 30, [], [], []),
  (28, .iconst (-1), 1, 0, [], [], []),
  (29, .ireturn, 1, 0, [], [], []),
  (30, .aload_n 0, 1, 0, [], [], []),
  (31, .iload_n 1, 1, 1, [], [], []),
  (32, .iload_n 2, 1, 2, [], [], []),
  (33, .iload_n 3, 1, 3, [], [], []),
  (34, .invokevirtual 292, 3, 234, [1, 3], [10], []),
  (37, .istore 4, 2, 4, [], [], []),
  (39, .iload 4, 2, 4, [], [], []),
  (41, .ifCond .eq 6, 3, 47, [], [], []),
  (44, .iload 4, 2, 4, [], [], []),
  (46, .ireturn, 1, 0, [], [], []),
  (47, .aload_n 0, 1, 0, [], [], []),
  (48, .invokevirtual 308, 3, 232, [0, 0], [10], []),
  (51, .iconst 0, 1, 0, [], [], []),
  (52, .istore 5, 2, 5, [], [], []),
  (54, .iload 5, 2, 5, [], [], []),
  (56, .iload_n 3, 1, 3, [], [], []),
  (57, .if_icmp .ge 25, 3, 82, [], [], []),
  (60, .aload_n 0, 1, 0, [], [], []),
  (61, .iload_n 1, 1, 1, [], [], []),
  (62, .iload_n 2, 1, 2, [], [], []),
  (63, .iload 5, 2, 5, [], [], []),
  (65, .iadd, 1, 0, [], [], []),
  (66, .aload_n 0, 1, 0, [], [], []),
  (67, .getfield 7, 3, 2, [], [10, 1], []),
  (70, .iload 5, 2, 5, [], [], []),
  (72, .iaload, 1, 0, [], [], []),
  (73, .invokevirtual 142, 3, 185, [0, 3], [10], []),
  (76, .iinc 5 1, 3, 5, [], [], []),
  (79, .goto (-25), 3, 54, [], [], []),
  (82, .iconst 0, 1, 0, [], [], []),
  (83, .ireturn, 1, 0, [], [], [])], [(54, [true, true, true, true, false, true])])
def mX12_areTwo : sM := (3, 4, [
  (0, .aload_n 0, 1, 0, [], [], []),
  (1, .iload_n 1, 1, 1, [], [], []),
  (2, .invokevirtual 215, 3, 188, [4, 1], [10], []),
  (5, .ifCond .eq 20, 3, 25, [], [], []),
  (8, .aload_n 0, 1, 0, [], [], []),
  (9, .iload_n 2, 1, 2, [], [], []),
  (10, .invokevirtual 215, 3, 188, [4, 1], [10], []),
  (13, .ifCond .eq 12, 3, 25, [], [], []),
  (16, .iload_n 1, 1, 1, [], [], []),
  (17, .iload_n 2, 1, 2, [], [], []),
  (18, .if_icmp .eq 7, 3, 25, [], [], []),
  (21, .iconst 1, 1, 0, [], [], []),
  (22, .goto 4, 3, 26, [], [], []),
  (25, .iconst 0, 1, 0, [], [], []),
  (26, .ireturn, 1, 0, [], [], [])], [])
def mX12_join : sM := (3, 1, [
  (0, .aload_n 0, 1, 0, [], [], []),
  (1, .iconst 0, 1, 0, [], [], []),
  (2, .putfield 1, 3, 0, [], [10, 0], []),
  (5, .aload_n 0, 1, 0, [], [], []),
  (6, .iconst 4, 1, 0, [], [], []),
  (7, .iload_n 1, 1, 1, [], [], []),
  (8, .iconst 0, 1, 0, [], [], []),
  (9, .iload_n 2, 1, 2, [], [], []),
  (10, .aload_n 0, 1, 0, [], [], []),
  (11, .iload_n 1, 1, 1, [], [], []),
  (12, .iload_n 2, 1, 2, [], [], []),
  (13, .invokevirtual 319, 3, 244, [4, 2], [10], []),
  (16, .invokevirtual 315, 3, 238, [1, 5], [10], []),
  (19, .ireturn, 1, 0, [], [], [])], [])
def mX12_split : sM := (4, 1, [
  (0, .aload_n 0, 1, 0, [], [], []),
  (1, .iconst 0, 1, 0, [], [], []),
  (2, .putfield 1, 3, 0, [], [10, 0], []),
  (5, .aload_n 0, 1, 0, [], [], []),
  (6, .iconst 5, 1, 0, [], [], []),
  (7, .iload_n 1, 1, 1, [], [], []),
  (8, .iload_n 2, 1, 2, [], [], []),
  (9, .iload_n 3, 1, 3, [], [], []),
  (10, .aload_n 0, 1, 0, [], [], []),
  (11, .iload_n 1, 1, 1, [], [], []),
  (12, .iload_n 3, 1, 3, [], [], []),
  (13, .invokevirtual 319, 3, 244, [4, 2], [10], []),
  (16, .invokevirtual 315, 3, 238, [1, 5], [10], []),
  (19, .ireturn, 1, 0, [], [], [])], [])
def mX12_type : sM := (3, 1, [
  (0, .aload_n 0, 1, 0, [], [], []),
  (1, .iconst 0, 1, 0, [], [], []),
  (2, .putfield 1, 3, 0, [], [10, 0], []),
  (5, .aload_n 0, 1, 0, [], [], []),
  (6, .bipush 6, 2, 0, [], [], []),
  (8, .iconst 0, 1, 0, [], [], []),
  (9, .iload_n 1, 1, 1, [], [], []),
  (10, .iload_n 2, 1, 2, [], [], []),
  (11, .iload_n 2, 1, 2, [], [], []),
  (12, .iconst 0, 1, 0, [], [], []),
  (13, .bipush 7, 2, 0, [], [], []),
  (15, .invokestatic 75, 3, 155, [4, 3], [], []),
  (18, .invokevirtual 315, 3, 238, [1, 5], [10], []),
  (21, .ireturn, 1, 0, [], [], [])], [])
def mX12_erase : sM := (3, 1, [
  (0, .aload_n 0, 1, 0, [], [], []),
  (1, .iconst 0, 1, 0, [], [], []),
  (2, .putfield 1, 3, 0, [], [10, 0], []),
  (5, .aload_n 0, 1, 0, [], [], []),
  (6, .bipush 7, 2, 0, [], [], []),
  (8, .iconst 0, 1, 0, [], [], []),
  (9, .iload_n 1, 1, 1, [], [], []),
  (10, .iload_n 2, 1, 2, [], [], []),
  (11, .iload_n 2, 1, 2, [], [], []),
  (12, .iconst 1, 1, 0, [], [], []),
  (13, .sipush 200, 3, 0, [], [], []),
  (16, .invokestatic 75, 3, 155, [4, 3], [], []),
  (19, .invokevirtual 315, 3, 238, [1, 5], [10], []),
  (22, .ireturn, 1, 0, [], [], [])], [])
def mX12_undo : sM := (1, 1, [
  (0, .aload_n 0, 1, 0, [], [], []),
  (1, .iconst 0, 1, 0, [], [], []),
  (2, .putfield 1, 3, 0, [], [10, 0], []),
  (5, .aload_n 0, 1, 0, [], [], []),
  (6, .getfield 192, 3, 0, [], [10, 24], []),
  (9, .ifCond .ne 5, 3, 14, [], [], []),
  (12, .iconst (-1), 1, 0, [], [], []),
  (13, .ireturn, 1, 0, [], [], []),
  (14, .aload_n 0, 1, 0, [], [], []),
  (15, .dup, 1, 0, [], [], []),
  (16, .getfield 192, 3, 0, [], [10, 24], []),
  (19, .iconst 1, 1, 0, [], [], []),
  (20, .isub, 1, 0, [], [], []),
  (21, .putfield 192, 3, 0, [], [10, 24], []),
  (24, .aload_n 0, 1, 0, [], [], []),
  (25, .aload_n 0, 1, 0, [], [], []),
  (26, .getfield 107, 3, 2, [], [10, 17], []),
  (29, .sipush 3213, 3, 0, [], [], []),
  (32, .aload_n 0, 1, 0, [], [], []),
  (33, .getfield 192, 3, 0, [], [10, 24], []),
  (36, .imul, 1, 0, [], [], []),
  (37, .invokevirtual 322, 3, 231, [0, 2], [10], []),
  (40, .aload_n 0, 1, 0, [], [], []),
  (41, .getfield 192, 3, 0, [], [10, 24], []),
  (44, .ireturn, 1, 0, [], [], [])], [])
def mX12_draw : sM := (2, 1, [
  (0, .aload_n 0, 1, 0, [], [], []),
  (1, .aload_n 0, 1, 0, [], [], []),
  (2, .getfield 325, 3, 0, [], [10, 29], []),
  (5, .ldc_w 328, 3, 0, [], [1103515245], []),
  (8, .imul, 1, 0, [], [], []),
  (9, .sipush 12345, 3, 0, [], [], []),
  (12, .iadd, 1, 0, [], [], []),
  (13, .putfield 325, 3, 0, [], [10, 29], []),
  (16, .aload_n 0, 1, 0, [], [], []),
  (17, .getfield 325, 3, 0, [], [10, 29], []),
  (20, .bipush 8, 2, 0, [], [], []),
  (22, .iushr, 1, 0, [], [], []),
  (23, .iload_n 1, 1, 1, [], [], []),
  (24, .irem, 1, 0, [], [], []),
  (25, .ireturn, 1, 0, [], [], [])], [])
def mX12_doIf : sM := (5, 4, [
  (0, .aload_n 0, 1, 0, [], [], []),
  (1, .iload_n 1, 1, 1, [], [], []),
  (2, .iload_n 2, 1, 2, [], [], []),
  (3, .iload_n 3, 1, 3, [], [], []),
  (4, .iload 4, 2, 4, [], [], []),
  (6, .invokevirtual 304, 3, 235, [1, 4], [10], []),
  (9, .ifCond .eq 5, 3, 14, [], [], []),
  (12, .iconst 0, 1, 0, [], [], []),
  (13, .ireturn, 1, 0, [], [], []),
  (14, .aload_n 0, 1, 0, [], [], []),
  (15, .iload_n 1, 1, 1, [], [], []),
  (16, .iload_n 2, 1, 2, [], [], []),
  (17, .iload_n 3, 1, 3, [], [], []),
  (18, .iload 4, 2, 4, [], [], []),
  (20, .invokevirtual 311, 3, 236, [0, 4], [10], []),
  (23, .iconst 1, 1, 0, [], [], []),
  (24, .ireturn, 1, 0, [], [], [])], [])
def mX12_drawsDeed : sM := (5, 4, [
  (0, .aload_n 0, 1, 0, [], [], []),
  (1, .bipush 8, 2, 0, [], [], []),
  (3, .invokevirtual 329, 3, 250, [1, 1], [10], []),
  (6, .istore_n 1, 1, 1, [], [], []),
  (7, .aload_n 0, 1, 0, [], [], []),
  (8, .aload_n 0, 1, 0, [], [], []),
  (9, .getfield 98, 3, 2, [], [10, 14], []),
  (12, .iconst 0, 1, 0, [], [], []),
  (13, .iaload, 1, 0, [], [], []),
  (14, .invokevirtual 329, 3, 250, [1, 1], [10], []),
  (17, .istore_n 2, 1, 2, [], [], []),
  (18, .aload_n 0, 1, 0, [], [], []),
  (19, .aload_n 0, 1, 0, [], [], []),
  (20, .iload_n 2, 1, 2, [], [], []),
  (21, .invokevirtual 199, 3, 180, [1, 1], [10], []),
  (24, .iconst 1, 1, 0, [], [], []),
  (25, .iadd, 1, 0, [], [], []),
  (26, .invokevirtual 329, 3, 250, [1, 1], [10], []),
  (29, .istore_n 3, 1, 3, [], [], []),
  (30, .iload_n 1, 1, 1, [], [], []),
  (31, .iconst 3, 1, 0, [], [], []),
  (32, .if_icmp .ge 16, 3, 48, [], [], []),
  (35, .aload_n 0, 1, 0, [], [], []),
  (36, .iconst 0, 1, 0, [], [], []),
  (37, .iload_n 2, 1, 2, [], [], []),
  (38, .iload_n 3, 1, 3, [], [], []),
  (39, .aload_n 0, 1, 0, [], [], []),
  (40, .iconst 2, 1, 0, [], [], []),
  (41, .invokevirtual 329, 3, 250, [1, 1], [10], []),
  (44, .invokevirtual 332, 3, 251, [4, 4], [10], []),
  (47, .ireturn, 1, 0, [], [], []),
  (48, .iload_n 1, 1, 1, [], [], []),
  (49, .iconst 3, 1, 0, [], [], []),
  (50, .if_icmp .ne 19, 3, 69, [], [], []),
  (53, .aload_n 0, 1, 0, [], [], []),
  (54, .iconst 2, 1, 0, [], [], []),
  (55, .iload_n 2, 1, 2, [], [], []),
  (56, .iload_n 3, 1, 3, [], [], []),
  (57, .aload_n 0, 1, 0, [], [], []),
  (58, .bipush 8, 2, 0, [], [], []),
  (60, .invokevirtual 329, 3, 250, [1, 1], [10], []),
  (63, .iconst 1, 1, 0, [], [], []),
  (64, .iadd, 1, 0, [], [], []),
  (65, .invokevirtual 332, 3, 251, [4, 4], [10], []),
  (68, .ireturn, 1, 0, [], [], []),
  (69, .iload_n 1, 1, 1, [], [], []),
  (70, .bipush 6, 2, 0, [], [], []),
  (72, .if_icmp .ge 19, 3, 91, [], [], []),
  (75, .aload_n 0, 1, 0, [], [], []),
  (76, .iconst 3, 1, 0, [], [], []),
  (77, .iload_n 2, 1, 2, [], [], []),
  (78, .iload_n 3, 1, 3, [], [], []),
  (79, .aload_n 0, 1, 0, [], [], []),
  (80, .bipush 40, 2, 0, [], [], []),
  (82, .invokevirtual 329, 3, 250, [1, 1], [10], []),
  (85, .iconst 1, 1, 0, [], [], []),
  (86, .iadd, 1, 0, [], [], []),
  (87, .invokevirtual 332, 3, 251, [4, 4], [10], []),
  (90, .ireturn, 1, 0, [], [], []),
  (91, .aload_n 0, 1, 0, [], [], []),
  (92, .aload_n 0, 1, 0, [], [], []),
  (93, .getfield 98, 3, 2, [], [10, 14], []),
  (96, .iconst 0, 1, 0, [], [], []),
  (97, .iaload, 1, 0, [], [], []),
  (98, .invokevirtual 329, 3, 250, [1, 1], [10], []),
  (101, .istore 4, 2, 4, [], [], []),
  (103, .iload 4, 2, 4, [], [], []),
  (105, .iload_n 2, 1, 2, [], [], []),
  (106, .if_icmp .eq 29, 3, 135, [], [], []),
  (109, .aload_n 0, 1, 0, [], [], []),
  (110, .iload_n 1, 1, 1, [], [], []),
  (111, .bipush 6, 2, 0, [], [], []),
  (113, .if_icmp .ne 7, 3, 120, [], [], []),
  (116, .iconst 4, 1, 0, [], [], []),
  (117, .goto 4, 3, 121, [], [], []),
  (120, .iconst 5, 1, 0, [], [], []),
  (121, .iload_n 2, 1, 2, [], [], []),
  (122, .iload_n 3, 1, 3, [], [], []),
  (123, .iload 4, 2, 4, [], [], []),
  (125, .invokevirtual 332, 3, 251, [4, 4], [10], []),
  (128, .ifCond .eq 7, 3, 135, [], [], []),
  (131, .iconst 1, 1, 0, [], [], []),
  (132, .goto 4, 3, 136, [], [], []),
  (135, .iconst 0, 1, 0, [], [], []),
  (136, .ireturn, 1, 0, [], [], [])], [])
def mX12_drawn : sM := (5, 1, [
  (0, .aload_n 0, 1, 0, [], [], []),
  (1, .iconst 0, 1, 0, [], [], []),
  (2, .putfield 1, 3, 0, [], [10, 0], []),
  (5, .iload_n 1, 1, 1, [], [], []),
  (6, .iconst 1, 1, 0, [], [], []),
  (7, .bipush 60, 2, 0, [], [], []),
  (9, .invokestatic 75, 3, 155, [4, 3], [], []),
  (12, .ifCond .ne 5, 3, 17, [], [], []),
  (15, .iconst (-1), 1, 0, [], [], []),
  (16, .ireturn, 1, 0, [], [], []),
  (17, .aload_n 0, 1, 0, [], [], []),
  (18, .getfield 98, 3, 2, [], [10, 14], []),
  (21, .iconst 0, 1, 0, [], [], []),
  (22, .iaload, 1, 0, [], [], []),
  (23, .ifCond .ne 5, 3, 28, [], [], []),
  (26, .iconst 0, 1, 0, [], [], []),
  (27, .ireturn, 1, 0, [], [], []),
  (28, .aload_n 0, 1, 0, [], [], []),
  (29, .aload_n 0, 1, 0, [], [], []),
  (30, .getfield 113, 3, 2, [], [10, 19], []),
  (33, .iconst 0, 1, 0, [], [], []),
  (34, .invokevirtual 288, 3, 230, [0, 2], [10], []),
  (37, .aload_n 0, 1, 0, [], [], []),
  (38, .iload_n 2, 1, 2, [], [], []),
  (39, .putfield 325, 3, 0, [], [10, 29], []),
  (42, .iconst 0, 1, 0, [], [], []),
  (43, .istore_n 3, 1, 3, [], [], []),
  (44, .iconst 0, 1, 0, [], [], []),
  (45, .istore 4, 2, 4, [], [], []),
  (47, .iload 4, 2, 4, [], [], []),
  (49, .iload_n 1, 1, 1, [], [], []),
  (50, .if_icmp .ge 19, 3, 69, [], [], []),
  (53, .aload_n 0, 1, 0, [], [], []),
  (54, .invokevirtual 336, 3, 252, [4, 0], [10], []),
  (57, .ifCond .eq 6, 3, 63, [], [], []),
  (60, .iinc 3 1, 3, 3, [], [], []),
  (63, .iinc 4 1, 3, 4, [], [], []),
  (66, .goto (-19), 3, 47, [], [], []),
  (69, .aload_n 0, 1, 0, [], [], []),
  (70, .iload_n 3, 1, 3, [], [], []),
  (71, .ifCond .le 7, 3, 78, [], [], []),
  (74, .iconst 1, 1, 0, [], [], []),
  (75, .goto 4, 3, 79, [], [], []),
  (78, .iconst 0, 1, 0, [], [], []),
  (79, .invokevirtual 339, 3, 261, [0, 1], [10], []),
  (82, .iload_n 3, 1, 3, [], [], []),
  (83, .ireturn, 1, 0, [], [], [])], [(47, [true, true, false, true, true])])
def mX12_keep : sM := (3, 4, [
  (0, .iload_n 2, 1, 2, [], [], []),
  (1, .ifCond .eq 13, 3, 14, [], [], []),
  (4, .aload_n 0, 1, 0, [], [], []),
  (5, .getfield 133, 3, 2, [], [10, 30], []),
  (8, .iload_n 1, 1, 1, [], [], []),
  (9, .aload_n 0, 1, 0, [], [], []),
  (10, .getfield 79, 3, 0, [], [10, 13], []),
  (13, .iastore, 1, 0, [], [], []),
  (14, .iload_n 2, 1, 2, [], [], []),
  (15, .ireturn, 1, 0, [], [], [])], [])
def mX12_readRowName : sM := (1, 4, [
  (0, .aload_n 0, 1, 0, [], [], []),
  (1, .invokevirtual 150, 3, 164, [4, 0], [10], []),
  (4, .ifCond .ne 9, 3, 13, [], [], []),
  (7, .aload_n 0, 1, 0, [], [], []),
  (8, .iconst 1, 1, 0, [], [], []),
  (9, .invokevirtual 72, 3, 165, [4, 1], [10], []),
  (12, .ireturn, 1, 0, [], [], []),
  (13, .aload_n 0, 1, 0, [], [], []),
  (14, .aload_n 0, 1, 0, [], [], []),
  (15, .getfield 116, 3, 2, [], [10, 20], []),
  (18, .aload_n 0, 1, 0, [], [], []),
  (19, .getfield 98, 3, 2, [], [10, 14], []),
  (22, .iconst 0, 1, 0, [], [], []),
  (23, .iaload, 1, 0, [], [], []),
  (24, .aload_n 0, 1, 0, [], [], []),
  (25, .getfield 43, 3, 1, [], [10, 12], []),
  (28, .invokestatic 154, 3, 171, [1, 3], [], []),
  (31, .putfield 79, 3, 0, [], [10, 13], []),
  (34, .aload_n 0, 1, 0, [], [], []),
  (35, .getfield 79, 3, 0, [], [10, 13], []),
  (38, .iconst (-1), 1, 0, [], [], []),
  (39, .if_icmp .ne 9, 3, 48, [], [], []),
  (42, .aload_n 0, 1, 0, [], [], []),
  (43, .iconst 3, 1, 0, [], [], []),
  (44, .invokevirtual 72, 3, 165, [4, 1], [10], []),
  (47, .ireturn, 1, 0, [], [], []),
  (48, .aload_n 0, 1, 0, [], [], []),
  (49, .invokevirtual 82, 3, 159, [0, 0], [10], []),
  (52, .iconst 1, 1, 0, [], [], []),
  (53, .ireturn, 1, 0, [], [], [])], [])
def mX12_readOther : sM := (2, 4, [
  (0, .aload_n 0, 1, 0, [], [], []),
  (1, .invokevirtual 150, 3, 164, [4, 0], [10], []),
  (4, .ifCond .ne 9, 3, 13, [], [], []),
  (7, .aload_n 0, 1, 0, [], [], []),
  (8, .iconst 1, 1, 0, [], [], []),
  (9, .invokevirtual 72, 3, 165, [4, 1], [10], []),
  (12, .ireturn, 1, 0, [], [], []),
  (13, .aload_n 0, 1, 0, [], [], []),
  (14, .getfield 133, 3, 2, [], [10, 30], []),
  (17, .iload_n 1, 1, 1, [], [], []),
  (18, .iconst 3, 1, 0, [], [], []),
  (19, .iadd, 1, 0, [], [], []),
  (20, .aload_n 0, 1, 0, [], [], []),
  (21, .getfield 116, 3, 2, [], [10, 20], []),
  (24, .aload_n 0, 1, 0, [], [], []),
  (25, .getfield 98, 3, 2, [], [10, 14], []),
  (28, .iconst 0, 1, 0, [], [], []),
  (29, .iaload, 1, 0, [], [], []),
  (30, .aload_n 0, 1, 0, [], [], []),
  (31, .getfield 43, 3, 1, [], [10, 12], []),
  (34, .invokestatic 154, 3, 171, [1, 3], [], []),
  (37, .iastore, 1, 0, [], [], []),
  (38, .aload_n 0, 1, 0, [], [], []),
  (39, .getfield 133, 3, 2, [], [10, 30], []),
  (42, .iload_n 1, 1, 1, [], [], []),
  (43, .iconst 3, 1, 0, [], [], []),
  (44, .iadd, 1, 0, [], [], []),
  (45, .iaload, 1, 0, [], [], []),
  (46, .iconst (-1), 1, 0, [], [], []),
  (47, .if_icmp .eq 22, 3, 69, [], [], []),
  (50, .aload_n 0, 1, 0, [], [], []),
  (51, .getfield 133, 3, 2, [], [10, 30], []),
  (54, .iload_n 1, 1, 1, [], [], []),
  (55, .iconst 3, 1, 0, [], [], []),
  (56, .iadd, 1, 0, [], [], []),
  (57, .iaload, 1, 0, [], [], []),
  (58, .aload_n 0, 1, 0, [], [], []),
  (59, .getfield 133, 3, 2, [], [10, 30], []),
  (62, .iload_n 1, 1, 1, [], [], []),
  (63, .iconst 1, 1, 0, [], [], []),
  (64, .iadd, 1, 0, [], [], []),
  (65, .iaload, 1, 0, [], [], []),
  (66, .if_icmp .ne 9, 3, 75, [], [], []),
  (69, .aload_n 0, 1, 0, [], [], []),
  (70, .iconst 3, 1, 0, [], [], []),
  (71, .invokevirtual 72, 3, 165, [4, 1], [10], []),
  (74, .ireturn, 1, 0, [], [], []),
  (75, .aload_n 0, 1, 0, [], [], []),
  (76, .invokevirtual 82, 3, 159, [0, 0], [10], []),
  (79, .iconst 1, 1, 0, [], [], []),
  (80, .ireturn, 1, 0, [], [], [])], [])
def mX12_readBookLine : sM := (4, 4, [
  (0, .iconst (-1), 1, 0, [], [], []),
  (1, .istore_n 1, 1, 1, [], [], []),
  (2, .iconst 0, 1, 0, [], [], []),
  (3, .istore_n 2, 1, 2, [], [], []),
  (4, .iload_n 2, 1, 2, [], [], []),
  (5, .bipush 7, 2, 0, [], [], []),
  (7, .if_icmp .gt 21, 3, 28, [], [], []),
  (10, .aload_n 0, 1, 0, [], [], []),
  (11, .iconst 3, 1, 0, [], [], []),
  (12, .iload_n 2, 1, 2, [], [], []),
  (13, .iadd, 1, 0, [], [], []),
  (14, .invokevirtual 168, 3, 162, [4, 1], [10], []),
  (17, .ifCond .eq 5, 3, 22, [], [], []),
  (20, .iload_n 2, 1, 2, [], [], []),
  (21, .istore_n 1, 1, 1, [], [], []),
  (22, .iinc 2 1, 3, 2, [], [], []),
  (25, .goto (-21), 3, 4, [], [], []),
  (28, .iload_n 1, 1, 1, [], [], []),
  (29, .iconst (-1), 1, 0, [], [], []),
  (30, .if_icmp .ne 9, 3, 39, [], [], []),
  (33, .aload_n 0, 1, 0, [], [], []),
  (34, .iconst 1, 1, 0, [], [], []),
  (35, .invokevirtual 72, 3, 165, [4, 1], [10], []),
  (38, .ireturn, 1, 0, [], [], []),
  (39, .aload_n 0, 1, 0, [], [], []),
  (40, .getfield 343, 3, 0, [], [10, 32], []),
  (43, .bipush 40, 2, 0, [], [], []),
  (45, .if_icmp .ne 9, 3, 54, [], [], []),
  (48, .aload_n 0, 1, 0, [], [], []),
  (49, .iconst 4, 1, 0, [], [], []),
  (50, .invokevirtual 72, 3, 165, [4, 1], [10], []),
  (53, .ireturn, 1, 0, [], [], []),
  (54, .iconst 4, 1, 0, [], [], []),
  (55, .aload_n 0, 1, 0, [], [], []),
  (56, .getfield 343, 3, 0, [], [10, 32], []),
  (59, .imul, 1, 0, [], [], []),
  (60, .istore_n 2, 1, 2, [], [], []),
  (61, .aload_n 0, 1, 0, [], [], []),
  (62, .getfield 133, 3, 2, [], [10, 30], []),
  (65, .iload_n 2, 1, 2, [], [], []),
  (66, .iload_n 1, 1, 1, [], [], []),
  (67, .iastore, 1, 0, [], [], []),
  (68, .aload_n 0, 1, 0, [], [], []),
  (69, .getfield 133, 3, 2, [], [10, 30], []),
  (72, .iload_n 2, 1, 2, [], [], []),
  (73, .iconst 1, 1, 0, [], [], []),
  (74, .iadd, 1, 0, [], [], []),
  (75, .iconst 0, 1, 0, [], [], []),
  (76, .iastore, 1, 0, [], [], []),
  (77, .aload_n 0, 1, 0, [], [], []),
  (78, .getfield 133, 3, 2, [], [10, 30], []),
  (81, .iload_n 2, 1, 2, [], [], []),
  (82, .iconst 2, 1, 0, [], [], []),
  (83, .iadd, 1, 0, [], [], []),
  (84, .iconst 0, 1, 0, [], [], []),
  (85, .iastore, 1, 0, [], [], []),
  (86, .aload_n 0, 1, 0, [], [], []),
  (87, .invokevirtual 82, 3, 159, [0, 0], [10], []),
  (90, .iload_n 1, 1, 1, [], [], []),
  (91, .bipush 6, 2, 0, [], [], []),
  (93, .if_icmp .ge 19, 3, 112, [], [], []),
  (96, .aload_n 0, 1, 0, [], [], []),
  (97, .iload_n 2, 1, 2, [], [], []),
  (98, .iconst 1, 1, 0, [], [], []),
  (99, .iadd, 1, 0, [], [], []),
  (100, .aload_n 0, 1, 0, [], [], []),
  (101, .invokevirtual 346, 3, 255, [4, 0], [10], []),
  (104, .invokevirtual 349, 3, 254, [4, 2], [10], []),
  (107, .ifCond .ne 5, 3, 112, [], [], []),
  (110, .iconst 0, 1, 0, [], [], []),
  (111, .ireturn, 1, 0, [], [], []),
  (112, .iload_n 1, 1, 1, [], [], []),
  (113, .iconst 4, 1, 0, [], [], []),
  (114, .if_icmp .eq 23, 3, 137, [], [], []),
  (117, .aload_n 0, 1, 0, [], [], []),
  (118, .iload_n 2, 1, 2, [], [], []),
  (119, .iconst 2, 1, 0, [], [], []),
  (120, .iadd, 1, 0, [], [], []),
  (121, .aload_n 0, 1, 0, [], [], []),
  (122, .iconst 0, 1, 0, [], [], []),
  (123, .sipush 999, 3, 0, [], [], []),
  (126, .invokevirtual 146, 3, 166, [4, 2], [10], []),
  (129, .invokevirtual 349, 3, 254, [4, 2], [10], []),
  (132, .ifCond .ne 5, 3, 137, [], [], []),
  (135, .iconst 0, 1, 0, [], [], []),
  (136, .ireturn, 1, 0, [], [], []),
  (137, .iload_n 1, 1, 1, [], [], []),
  (138, .iconst 4, 1, 0, [], [], []),
  (139, .if_icmp .eq 8, 3, 147, [], [], []),
  (142, .iload_n 1, 1, 1, [], [], []),
  (143, .iconst 5, 1, 0, [], [], []),
  (144, .if_icmp .ne 24, 3, 168, [], [], []),
  (147, .aload_n 0, 1, 0, [], [], []),
  (148, .iload_n 2, 1, 2, [], [], []),
  (149, .invokevirtual 353, 3, 256, [4, 1], [10], []),
  (152, .ifCond .eq 14, 3, 166, [], [], []),
  (155, .aload_n 0, 1, 0, [], [], []),
  (156, .invokevirtual 186, 3, 167, [4, 0], [10], []),
  (159, .ifCond .eq 7, 3, 166, [], [], []),
  (162, .iconst 1, 1, 0, [], [], []),
  (163, .goto 4, 3, 167, [], [], []),
  (166, .iconst 0, 1, 0, [], [], []),
  (167, .ireturn, 1, 0, [], [], []),
  (168, .iload_n 1, 1, 1, [], [], []),
  (169, .iconst 2, 1, 0, [], [], []),
  (170, .if_icmp .eq 14, 3, 184, [], [], []),
  (173, .iload_n 1, 1, 1, [], [], []),
  (174, .iconst 3, 1, 0, [], [], []),
  (175, .if_icmp .eq 9, 3, 184, [], [], []),
  (178, .iload_n 1, 1, 1, [], [], []),
  (179, .bipush 7, 2, 0, [], [], []),
  (181, .if_icmp .ne 7, 3, 188, [], [], []),
  (184, .iconst 1, 1, 0, [], [], []),
  (185, .goto 4, 3, 189, [], [], []),
  (188, .iconst 0, 1, 0, [], [], []),
  (189, .istore_n 3, 1, 3, [], [], []),
  (190, .aload_n 0, 1, 0, [], [], []),
  (191, .iload_n 2, 1, 2, [], [], []),
  (192, .iconst 3, 1, 0, [], [], []),
  (193, .iadd, 1, 0, [], [], []),
  (194, .iload_n 3, 1, 3, [], [], []),
  (195, .ifCond .eq 14, 3, 209, [], [], []),
  (198, .aload_n 0, 1, 0, [], [], []),
  (199, .iconst 1, 1, 0, [], [], []),
  (200, .sipush 600, 3, 0, [], [], []),
  (203, .invokevirtual 146, 3, 166, [4, 2], [10], []),
  (206, .goto 20, 3, 226, [], [], []),
  (209, .aload_n 0, 1, 0, [], [], []),
  (210, .iconst 0, 1, 0, [], [], []),
  (211, .iload_n 1, 1, 1, [], [], []),
  (212, .bipush 6, 2, 0, [], [], []),
  (214, .if_icmp .ne 8, 3, 222, [], [], []),
  (217, .bipush 7, 2, 0, [], [], []),
  (219, .goto 4, 3, 223, [], [], []),
  (222, .iconst 1, 1, 0, [], [], []),
  (223, .invokevirtual 146, 3, 166, [4, 2], [10], []),
  (226, .invokevirtual 349, 3, 254, [4, 2], [10], []),
  (229, .ifCond .eq 14, 3, 243, [], [], []),
  (232, .aload_n 0, 1, 0, [], [], []),
  (233, .invokevirtual 186, 3, 167, [4, 0], [10], []),
  (236, .ifCond .eq 7, 3, 243, [], [], []),
  (239, .iconst 1, 1, 0, [], [], []),
  (240, .goto 4, 3, 244, [], [], []),
  (243, .iconst 0, 1, 0, [], [], []),
  (244, .ireturn, 1, 0, [], [], [])], [(4, [true, true, true, false]), (137, [true, true, true, false]), (189, [true, true, true, false])])
def mX12_goBy : sM := (4, 1, [
  (0, .aload_n 0, 1, 0, [], [], []),
  (1, .getfield 133, 3, 2, [], [10, 30], []),
  (4, .iload_n 1, 1, 1, [], [], []),
  (5, .iaload, 1, 0, [], [], []),
  (6, .istore_n 2, 1, 2, [], [], []),
  (7, .aload_n 0, 1, 0, [], [], []),
  (8, .iload_n 2, 1, 2, [], [], []),
  (9, .aload_n 0, 1, 0, [], [], []),
  (10, .getfield 133, 3, 2, [], [10, 30], []),
  (13, .iload_n 1, 1, 1, [], [], []),
  (14, .iconst 1, 1, 0, [], [], []),
  (15, .iadd, 1, 0, [], [], []),
  (16, .iaload, 1, 0, [], [], []),
  (17, .aload_n 0, 1, 0, [], [], []),
  (18, .getfield 133, 3, 2, [], [10, 30], []),
  (21, .iload_n 1, 1, 1, [], [], []),
  (22, .iconst 2, 1, 0, [], [], []),
  (23, .iadd, 1, 0, [], [], []),
  (24, .iaload, 1, 0, [], [], []),
  (25, .aload_n 0, 1, 0, [], [], []),
  (26, .getfield 133, 3, 2, [], [10, 30], []),
  (29, .iload_n 1, 1, 1, [], [], []),
  (30, .iconst 3, 1, 0, [], [], []),
  (31, .iadd, 1, 0, [], [], []),
  (32, .iaload, 1, 0, [], [], []),
  (33, .invokevirtual 304, 3, 235, [1, 4], [10], []),
  (36, .istore_n 3, 1, 3, [], [], []),
  (37, .iload_n 3, 1, 3, [], [], []),
  (38, .ifCond .eq 10, 3, 48, [], [], []),
  (41, .bipush 10, 2, 0, [], [], []),
  (43, .iload_n 2, 1, 2, [], [], []),
  (44, .imul, 1, 0, [], [], []),
  (45, .iload_n 3, 1, 3, [], [], []),
  (46, .iadd, 1, 0, [], [], []),
  (47, .ireturn, 1, 0, [], [], []),
  (48, .aload_n 0, 1, 0, [], [], []),
  (49, .iload_n 2, 1, 2, [], [], []),
  (50, .aload_n 0, 1, 0, [], [], []),
  (51, .getfield 133, 3, 2, [], [10, 30], []),
  (54, .iload_n 1, 1, 1, [], [], []),
  (55, .iconst 1, 1, 0, [], [], []),
  (56, .iadd, 1, 0, [], [], []),
  (57, .iaload, 1, 0, [], [], []),
  (58, .aload_n 0, 1, 0, [], [], []),
  (59, .getfield 133, 3, 2, [], [10, 30], []),
  (62, .iload_n 1, 1, 1, [], [], []),
  (63, .iconst 2, 1, 0, [], [], []),
  (64, .iadd, 1, 0, [], [], []),
  (65, .iaload, 1, 0, [], [], []),
  (66, .aload_n 0, 1, 0, [], [], []),
  (67, .getfield 133, 3, 2, [], [10, 30], []),
  (70, .iload_n 1, 1, 1, [], [], []),
  (71, .iconst 3, 1, 0, [], [], []),
  (72, .iadd, 1, 0, [], [], []),
  (73, .iaload, 1, 0, [], [], []),
  (74, .invokevirtual 311, 3, 236, [0, 4], [10], []),
  (77, .iconst 0, 1, 0, [], [], []),
  (78, .ireturn, 1, 0, [], [], [])], [])
def mX12_allBits : sM := (3, 1, [
  (0, .iconst 0, 1, 0, [], [], []),
  (1, .istore_n 1, 1, 1, [], [], []),
  (2, .iconst 0, 1, 0, [], [], []),
  (3, .istore_n 2, 1, 2, [], [], []),
  (4, .iload_n 2, 1, 2, [], [], []),
  (5, .aload_n 0, 1, 0, [], [], []),
  (6, .getfield 98, 3, 2, [], [10, 14], []),
  (9, .iconst 0, 1, 0, [], [], []),
  (10, .iaload, 1, 0, [], [], []),
  (11, .if_icmp .ge 17, 3, 28, [], [], []),
  (14, .iload_n 1, 1, 1, [], [], []),
  (15, .aload_n 0, 1, 0, [], [], []),
  (16, .iload_n 2, 1, 2, [], [], []),
  (17, .invokevirtual 199, 3, 180, [1, 1], [10], []),
  (20, .iadd, 1, 0, [], [], []),
  (21, .istore_n 1, 1, 1, [], [], []),
  (22, .iinc 2 1, 3, 2, [], [], []),
  (25, .goto (-21), 3, 4, [], [], []),
  (28, .iload_n 1, 1, 1, [], [], []),
  (29, .ireturn, 1, 0, [], [], [])], [(4, [true, true, true])])
def mX12_book : sM := (4, 1, [
  (0, .aload_n 0, 1, 0, [], [], []),
  (1, .iconst 0, 1, 0, [], [], []),
  (2, .putfield 1, 3, 0, [], [10, 0], []),
  (5, .iload_n 1, 1, 1, [], [], []),
  (6, .iconst 0, 1, 0, [], [], []),
  (7, .iconst 1, 1, 0, [], [], []),
  (8, .invokestatic 75, 3, 155, [4, 3], [], []),
  (11, .ifCond .ne 7, 3, 18, [], [], []),
  (14, .sipush (-1000), 3, 0, [], [], []),
  (17, .ireturn, 1, 0, [], [], []),
  (18, .aload_n 0, 1, 0, [], [], []),
  (19, .sipush 400, 3, 0, [], [], []),
  (22, .invokevirtual 180, 3, 168, [0, 1], [10], []),
  (25, .aload_n 0, 1, 0, [], [], []),
  (26, .iconst 0, 1, 0, [], [], []),
  (27, .putfield 343, 3, 0, [], [10, 32], []),
  (30, .aload_n 0, 1, 0, [], [], []),
  (31, .getfield 30, 3, 0, [], [10, 7], []),
  (34, .ifCond .eq 31, 3, 65, [], [], []),
  (37, .aload_n 0, 1, 0, [], [], []),
  (38, .invokevirtual 356, 3, 257, [4, 0], [10], []),
  (41, .ifCond .ne 11, 3, 52, [], [], []),
  (44, .bipush (-2), 2, 0, [], [], []),
  (46, .aload_n 0, 1, 0, [], [], []),
  (47, .getfield 69, 3, 0, [], [10, 11], []),
  (50, .isub, 1, 0, [], [], []),
  (51, .ireturn, 1, 0, [], [], []),
  (52, .aload_n 0, 1, 0, [], [], []),
  (53, .dup, 1, 0, [], [], []),
  (54, .getfield 343, 3, 0, [], [10, 32], []),
  (57, .iconst 1, 1, 0, [], [], []),
  (58, .iadd, 1, 0, [], [], []),
  (59, .putfield 343, 3, 0, [], [10, 32], []),
  (62, .goto (-32), 3, 30, [], [], []),
  (65, .aload_n 0, 1, 0, [], [], []),
  (66, .aload_n 0, 1, 0, [], [], []),
  (67, .getfield 113, 3, 2, [], [10, 19], []),
  (70, .iconst 0, 1, 0, [], [], []),
  (71, .invokevirtual 288, 3, 230, [0, 2], [10], []),
  (74, .iconst 0, 1, 0, [], [], []),
  (75, .istore_n 2, 1, 2, [], [], []),
  (76, .iconst 0, 1, 0, [], [], []),
  (77, .istore_n 3, 1, 3, [], [], []),
  (78, .iload_n 2, 1, 2, [], [], []),
  (79, .aload_n 0, 1, 0, [], [], []),
  (80, .getfield 343, 3, 0, [], [10, 32], []),
  (83, .if_icmp .ge 25, 3, 108, [], [], []),
  (86, .iload_n 3, 1, 3, [], [], []),
  (87, .ifCond .ne 21, 3, 108, [], [], []),
  (90, .aload_n 0, 1, 0, [], [], []),
  (91, .iconst 4, 1, 0, [], [], []),
  (92, .iload_n 2, 1, 2, [], [], []),
  (93, .imul, 1, 0, [], [], []),
  (94, .invokevirtual 359, 3, 258, [1, 1], [10], []),
  (97, .istore_n 3, 1, 3, [], [], []),
  (98, .iload_n 3, 1, 3, [], [], []),
  (99, .ifCond .ne (-21), 3, 78, [], [], []),
  (102, .iinc 2 1, 3, 2, [], [], []),
  (105, .goto (-27), 3, 78, [], [], []),
  (108, .aload_n 0, 1, 0, [], [], []),
  (109, .getfield 136, 3, 2, [], [10, 31], []),
  (112, .iconst 0, 1, 0, [], [], []),
  (113, .iload_n 3, 1, 3, [], [], []),
  (114, .iastore, 1, 0, [], [], []),
  (115, .aload_n 0, 1, 0, [], [], []),
  (116, .getfield 136, 3, 2, [], [10, 31], []),
  (119, .iconst 1, 1, 0, [], [], []),
  (120, .iload_n 2, 1, 2, [], [], []),
  (121, .iastore, 1, 0, [], [], []),
  (122, .aload_n 0, 1, 0, [], [], []),
  (123, .getfield 136, 3, 2, [], [10, 31], []),
  (126, .iconst 2, 1, 0, [], [], []),
  (127, .aload_n 0, 1, 0, [], [], []),
  (128, .invokevirtual 362, 3, 259, [1, 0], [10], []),
  (131, .iastore, 1, 0, [], [], []),
  (132, .aload_n 0, 1, 0, [], [], []),
  (133, .getfield 136, 3, 2, [], [10, 31], []),
  (136, .iconst 3, 1, 0, [], [], []),
  (137, .aload_n 0, 1, 0, [], [], []),
  (138, .getfield 98, 3, 2, [], [10, 14], []),
  (141, .sipush 2615, 3, 0, [], [], []),
  (144, .iaload, 1, 0, [], [], []),
  (145, .iastore, 1, 0, [], [], []),
  (146, .aload_n 0, 1, 0, [], [], []),
  (147, .iconst 1, 1, 0, [], [], []),
  (148, .putfield 365, 3, 3, [], [10, 33], []),
  (151, .aload_n 0, 1, 0, [], [], []),
  (152, .iload_n 1, 1, 1, [], [], []),
  (153, .iconst 1, 1, 0, [], [], []),
  (154, .if_icmp .ne 11, 3, 165, [], [], []),
  (157, .iload_n 2, 1, 2, [], [], []),
  (158, .ifCond .le 7, 3, 165, [], [], []),
  (161, .iconst 1, 1, 0, [], [], []),
  (162, .goto 4, 3, 166, [], [], []),
  (165, .iconst 0, 1, 0, [], [], []),
  (166, .invokevirtual 339, 3, 261, [0, 1], [10], []),
  (169, .iload_n 3, 1, 3, [], [], []),
  (170, .ifCond .ne 7, 3, 177, [], [], []),
  (173, .iconst (-1), 1, 0, [], [], []),
  (174, .goto 4, 3, 178, [], [], []),
  (177, .iload_n 2, 1, 2, [], [], []),
  (178, .ireturn, 1, 0, [], [], [])], [(30, [true, true, false, false]), (78, [true, true, true, true])])
def mX12_stay : sM := (2, 0, [
  (0, .aload_n 0, 1, 0, [], [], []),
  (1, .aload_n 0, 1, 0, [], [], []),
  (2, .getfield 110, 3, 2, [], [10, 18], []),
  (5, .iconst 0, 1, 0, [], [], []),
  (6, .invokevirtual 288, 3, 230, [0, 2], [10], []),
  (9, .aload_n 0, 1, 0, [], [], []),
  (10, .aload_n 0, 1, 0, [], [], []),
  (11, .getfield 113, 3, 2, [], [10, 19], []),
  (14, .iconst 0, 1, 0, [], [], []),
  (15, .invokevirtual 322, 3, 231, [0, 2], [10], []),
  (18, .iload_n 1, 1, 1, [], [], []),
  (19, .ifCond .ne 4, 3, 23, [], [], []),
  (22, .return_, 1, 0, [], [], []),
  (23, .aload_n 0, 1, 0, [], [], []),
  (24, .invokevirtual 308, 3, 232, [0, 0], [10], []),
  (27, .aload_n 0, 1, 0, [], [], []),
  (28, .aload_n 0, 1, 0, [], [], []),
  (29, .getfield 110, 3, 2, [], [10, 18], []),
  (32, .iconst 0, 1, 0, [], [], []),
  (33, .invokevirtual 322, 3, 231, [0, 2], [10], []),
  (36, .return_, 1, 0, [], [], [])], [])
def mX12_told : sM := (2, 1, [
  (0, .aload_n 0, 1, 0, [], [], []),
  (1, .iconst 0, 1, 0, [], [], []),
  (2, .putfield 1, 3, 0, [], [10, 0], []),
  (5, .aload_n 0, 1, 0, [], [], []),
  (6, .getfield 365, 3, 3, [], [10, 33], []),
  (9, .ifCond .eq 21, 3, 30, [], [], []),
  (12, .iload_n 1, 1, 1, [], [], []),
  (13, .iconst 0, 1, 0, [], [], []),
  (14, .iconst 3, 1, 0, [], [], []),
  (15, .invokestatic 75, 3, 155, [4, 3], [], []),
  (18, .ifCond .eq 12, 3, 30, [], [], []),
  (21, .aload_n 0, 1, 0, [], [], []),
  (22, .getfield 136, 3, 2, [], [10, 31], []),
  (25, .iload_n 1, 1, 1, [], [], []),
  (26, .iaload, 1, 0, [], [], []),
  (27, .goto 4, 3, 31, [], [], []),
  (30, .iconst (-1), 1, 0, [], [], []),
  (31, .ireturn, 1, 0, [], [], [])], [])
def mX12_beginsWith : sM := (3, 4, [
  (0, .aload_n 0, 1, 0, [], [], []),
  (1, .iload_n 2, 1, 2, [], [], []),
  (2, .invokevirtual 199, 3, 180, [1, 1], [10], []),
  (5, .aload_n 0, 1, 0, [], [], []),
  (6, .iload_n 1, 1, 1, [], [], []),
  (7, .invokevirtual 199, 3, 180, [1, 1], [10], []),
  (10, .if_icmp .gt 21, 3, 31, [], [], []),
  (13, .aload_n 0, 1, 0, [], [], []),
  (14, .iload_n 1, 1, 1, [], [], []),
  (15, .iload_n 2, 1, 2, [], [], []),
  (16, .invokevirtual 267, 3, 214, [1, 2], [10], []),
  (19, .aload_n 0, 1, 0, [], [], []),
  (20, .iload_n 2, 1, 2, [], [], []),
  (21, .invokevirtual 199, 3, 180, [1, 1], [10], []),
  (24, .if_icmp .ne 7, 3, 31, [], [], []),
  (27, .iconst 1, 1, 0, [], [], []),
  (28, .goto 4, 3, 32, [], [], []),
  (31, .iconst 0, 1, 0, [], [], []),
  (32, .ireturn, 1, 0, [], [], [])], [])
def mX12_onesOf : sM := (2, 1, [
  (0, .aload_n 0, 1, 0, [], [], []),
  (1, .iload_n 1, 1, 1, [], [], []),
  (2, .iconst 0, 1, 0, [], [], []),
  (3, .aload_n 0, 1, 0, [], [], []),
  (4, .iload_n 1, 1, 1, [], [], []),
  (5, .invokevirtual 199, 3, 180, [1, 1], [10], []),
  (8, .invokevirtual 224, 3, 191, [1, 3], [10], []),
  (11, .ireturn, 1, 0, [], [], [])], [])
def mX12_saysOne : sM := (6, 1, [
  (0, .iconst 4, 1, 0, [], [], []),
  (1, .aload_n 0, 1, 0, [], [], []),
  (2, .getfield 368, 3, 0, [], [10, 35], []),
  (5, .imul, 1, 0, [], [], []),
  (6, .istore 5, 2, 5, [], [], []),
  (8, .aload_n 0, 1, 0, [], [], []),
  (9, .getfield 139, 3, 2, [], [10, 34], []),
  (12, .iload 5, 2, 5, [], [], []),
  (14, .iload_n 1, 1, 1, [], [], []),
  (15, .iastore, 1, 0, [], [], []),
  (16, .aload_n 0, 1, 0, [], [], []),
  (17, .getfield 139, 3, 2, [], [10, 34], []),
  (20, .iload 5, 2, 5, [], [], []),
  (22, .iconst 1, 1, 0, [], [], []),
  (23, .iadd, 1, 0, [], [], []),
  (24, .iload_n 2, 1, 2, [], [], []),
  (25, .iastore, 1, 0, [], [], []),
  (26, .aload_n 0, 1, 0, [], [], []),
  (27, .getfield 139, 3, 2, [], [10, 34], []),
  (30, .iload 5, 2, 5, [], [], []),
  (32, .iconst 2, 1, 0, [], [], []),
  (33, .iadd, 1, 0, [], [], []),
  (34, .iload_n 3, 1, 3, [], [], []),
  (35, .iastore, 1, 0, [], [], []),
  (36, .aload_n 0, 1, 0, [], [], []),
  (37, .getfield 139, 3, 2, [], [10, 34], []),
  (40, .iload 5, 2, 5, [], [], []),
  (42, .iconst 3, 1, 0, [], [], []),
  (43, .iadd, 1, 0, [], [], []),
  (44, .iload 4, 2, 4, [], [], []),
  (46, .iastore, 1, 0, [], [], []),
  (47, .aload_n 0, 1, 0, [], [], []),
  (48, .dup, 1, 0, [], [], []),
  (49, .getfield 368, 3, 0, [], [10, 35], []),
  (52, .iconst 1, 1, 0, [], [], []),
  (53, .iadd, 1, 0, [], [], []),
  (54, .putfield 368, 3, 0, [], [10, 35], []),
  (57, .aload_n 0, 1, 0, [], [], []),
  (58, .getfield 368, 3, 0, [], [10, 35], []),
  (61, .iconst 1, 1, 0, [], [], []),
  (62, .isub, 1, 0, [], [], []),
  (63, .ireturn, 1, 0, [], [], [])], [])
def mX12_readOr : sM := (2, 4, [
  (0, .aload_n 0, 1, 0, [], [], []),
  (1, .invokevirtual 371, 3, 267, [4, 0], [10], []),
  (4, .ifCond .ne 5, 3, 9, [], [], []),
  (7, .iconst 0, 1, 0, [], [], []),
  (8, .ireturn, 1, 0, [], [], []),
  (9, .aload_n 0, 1, 0, [], [], []),
  (10, .getfield 374, 3, 0, [], [10, 38], []),
  (13, .istore_n 1, 1, 1, [], [], []),
  (14, .aload_n 0, 1, 0, [], [], []),
  (15, .bipush 11, 2, 0, [], [], []),
  (17, .invokevirtual 168, 3, 162, [4, 1], [10], []),
  (20, .ifCond .eq 31, 3, 51, [], [], []),
  (23, .aload_n 0, 1, 0, [], [], []),
  (24, .invokevirtual 82, 3, 159, [0, 0], [10], []),
  (27, .aload_n 0, 1, 0, [], [], []),
  (28, .invokevirtual 371, 3, 267, [4, 0], [10], []),
  (31, .ifCond .ne 5, 3, 36, [], [], []),
  (34, .iconst 0, 1, 0, [], [], []),
  (35, .ireturn, 1, 0, [], [], []),
  (36, .aload_n 0, 1, 0, [], [], []),
  (37, .iconst 3, 1, 0, [], [], []),
  (38, .iload_n 1, 1, 1, [], [], []),
  (39, .aload_n 0, 1, 0, [], [], []),
  (40, .getfield 374, 3, 0, [], [10, 38], []),
  (43, .iconst 0, 1, 0, [], [], []),
  (44, .invokevirtual 377, 3, 265, [1, 4], [10], []),
  (47, .istore_n 1, 1, 1, [], [], []),
  (48, .goto (-34), 3, 14, [], [], []),
  (51, .aload_n 0, 1, 0, [], [], []),
  (52, .iload_n 1, 1, 1, [], [], []),
  (53, .putfield 374, 3, 0, [], [10, 38], []),
  (56, .iconst 1, 1, 0, [], [], []),
  (57, .ireturn, 1, 0, [], [], [])], [(14, [true, true])])
def mX12_readAnd : sM := (2, 4, [
  (0, .aload_n 0, 1, 0, [], [], []),
  (1, .invokevirtual 380, 3, 268, [4, 0], [10], []),
  (4, .ifCond .ne 5, 3, 9, [], [], []),
  (7, .iconst 0, 1, 0, [], [], []),
  (8, .ireturn, 1, 0, [], [], []),
  (9, .aload_n 0, 1, 0, [], [], []),
  (10, .getfield 374, 3, 0, [], [10, 38], []),
  (13, .istore_n 1, 1, 1, [], [], []),
  (14, .aload_n 0, 1, 0, [], [], []),
  (15, .bipush 12, 2, 0, [], [], []),
  (17, .invokevirtual 168, 3, 162, [4, 1], [10], []),
  (20, .ifCond .eq 31, 3, 51, [], [], []),
  (23, .aload_n 0, 1, 0, [], [], []),
  (24, .invokevirtual 82, 3, 159, [0, 0], [10], []),
  (27, .aload_n 0, 1, 0, [], [], []),
  (28, .invokevirtual 380, 3, 268, [4, 0], [10], []),
  (31, .ifCond .ne 5, 3, 36, [], [], []),
  (34, .iconst 0, 1, 0, [], [], []),
  (35, .ireturn, 1, 0, [], [], []),
  (36, .aload_n 0, 1, 0, [], [], []),
  (37, .iconst 2, 1, 0, [], [], []),
  (38, .iload_n 1, 1, 1, [], [], []),
  (39, .aload_n 0, 1, 0, [], [], []),
  (40, .getfield 374, 3, 0, [], [10, 38], []),
  (43, .iconst 0, 1, 0, [], [], []),
  (44, .invokevirtual 377, 3, 265, [1, 4], [10], []),
  (47, .istore_n 1, 1, 1, [], [], []),
  (48, .goto (-34), 3, 14, [], [], []),
  (51, .aload_n 0, 1, 0, [], [], []),
  (52, .iload_n 1, 1, 1, [], [], []),
  (53, .putfield 374, 3, 0, [], [10, 38], []),
  (56, .iconst 1, 1, 0, [], [], []),
  (57, .ireturn, 1, 0, [], [], [])], [(14, [true, true])])
def mX12_readSaid : sM := (4, 4, [
  (0, .aload_n 0, 1, 0, [], [], []),
  (1, .bipush 40, 2, 0, [], [], []),
  (3, .invokevirtual 86, 3, 163, [4, 1], [10], []),
  (6, .istore_n 1, 1, 1, [], [], []),
  (7, .bipush 13, 2, 0, [], [], []),
  (9, .istore_n 2, 1, 2, [], [], []),
  (10, .iload_n 2, 1, 2, [], [], []),
  (11, .bipush 22, 2, 0, [], [], []),
  (13, .if_icmp .gt 17, 3, 30, [], [], []),
  (16, .aload_n 0, 1, 0, [], [], []),
  (17, .iload_n 2, 1, 2, [], [], []),
  (18, .invokevirtual 168, 3, 162, [4, 1], [10], []),
  (21, .ifCond .ne 9, 3, 30, [], [], []),
  (24, .iinc 2 1, 3, 2, [], [], []),
  (27, .goto (-17), 3, 10, [], [], []),
  (30, .iload_n 1, 1, 1, [], [], []),
  (31, .ifCond .ne 15, 3, 46, [], [], []),
  (34, .iload_n 2, 1, 2, [], [], []),
  (35, .bipush 22, 2, 0, [], [], []),
  (37, .if_icmp .le 9, 3, 46, [], [], []),
  (40, .aload_n 0, 1, 0, [], [], []),
  (41, .iconst 1, 1, 0, [], [], []),
  (42, .invokevirtual 72, 3, 165, [4, 1], [10], []),
  (45, .ireturn, 1, 0, [], [], []),
  (46, .aload_n 0, 1, 0, [], [], []),
  (47, .getfield 383, 3, 0, [], [10, 36], []),
  (50, .bipush 20, 2, 0, [], [], []),
  (52, .if_icmp .eq 12, 3, 64, [], [], []),
  (55, .aload_n 0, 1, 0, [], [], []),
  (56, .getfield 386, 3, 0, [], [10, 37], []),
  (59, .bipush 8, 2, 0, [], [], []),
  (61, .if_icmp .ne 9, 3, 70, [], [], []),
  (64, .aload_n 0, 1, 0, [], [], []),
  (65, .iconst 4, 1, 0, [], [], []),
  (66, .invokevirtual 72, 3, 165, [4, 1], [10], []),
  (69, .ireturn, 1, 0, [], [], []),
  (70, .aload_n 0, 1, 0, [], [], []),
  (71, .dup, 1, 0, [], [], []),
  (72, .getfield 383, 3, 0, [], [10, 36], []),
  (75, .iconst 1, 1, 0, [], [], []),
  (76, .iadd, 1, 0, [], [], []),
  (77, .putfield 383, 3, 0, [], [10, 36], []),
  (80, .aload_n 0, 1, 0, [], [], []),
  (81, .dup, 1, 0, [], [], []),
  (82, .getfield 386, 3, 0, [], [10, 37], []),
  (85, .iconst 1, 1, 0, [], [], []),
  (86, .iadd, 1, 0, [], [], []),
  (87, .putfield 386, 3, 0, [], [10, 37], []),
  (90, .aload_n 0, 1, 0, [], [], []),
  (91, .invokevirtual 82, 3, 159, [0, 0], [10], []),
  (94, .iconst 1, 1, 0, [], [], []),
  (95, .istore_n 3, 1, 3, [], [], []),
  (96, .iload_n 1, 1, 1, [], [], []),
  (97, .ifCond .eq 11, 3, 108, [], [], []),
  (100, .aload_n 0, 1, 0, [], [], []),
  (101, .invokevirtual 389, 3, 270, [4, 0], [10], []),
  (104, .istore_n 3, 1, 3, [], [], []),
  (105, .goto 61, 3, 166, [], [], []),
  (108, .iload_n 2, 1, 2, [], [], []),
  (109, .bipush 13, 2, 0, [], [], []),
  (111, .if_icmp .ne 11, 3, 122, [], [], []),
  (114, .aload_n 0, 1, 0, [], [], []),
  (115, .invokevirtual 392, 3, 269, [4, 0], [10], []),
  (118, .istore_n 3, 1, 3, [], [], []),
  (119, .goto 47, 3, 166, [], [], []),
  (122, .iload_n 2, 1, 2, [], [], []),
  (123, .bipush 16, 2, 0, [], [], []),
  (125, .if_icmp .ge 21, 3, 146, [], [], []),
  (128, .aload_n 0, 1, 0, [], [], []),
  (129, .aload_n 0, 1, 0, [], [], []),
  (130, .bipush 50, 2, 0, [], [], []),
  (132, .iload_n 2, 1, 2, [], [], []),
  (133, .iadd, 1, 0, [], [], []),
  (134, .iconst 0, 1, 0, [], [], []),
  (135, .iconst 0, 1, 0, [], [], []),
  (136, .iconst 0, 1, 0, [], [], []),
  (137, .invokevirtual 377, 3, 265, [1, 4], [10], []),
  (140, .putfield 374, 3, 0, [], [10, 38], []),
  (143, .goto 23, 3, 166, [], [], []),
  (146, .iload_n 2, 1, 2, [], [], []),
  (147, .bipush 18, 2, 0, [], [], []),
  (149, .if_icmp .ge 11, 3, 160, [], [], []),
  (152, .aload_n 0, 1, 0, [], [], []),
  (153, .iload_n 2, 1, 2, [], [], []),
  (154, .invokevirtual 395, 3, 271, [4, 1], [10], []),
  (157, .goto 8, 3, 165, [], [], []),
  (160, .aload_n 0, 1, 0, [], [], []),
  (161, .iload_n 2, 1, 2, [], [], []),
  (162, .invokevirtual 398, 3, 272, [4, 1], [10], []),
  (165, .istore_n 3, 1, 3, [], [], []),
  (166, .aload_n 0, 1, 0, [], [], []),
  (167, .dup, 1, 0, [], [], []),
  (168, .getfield 386, 3, 0, [], [10, 37], []),
  (171, .iconst 1, 1, 0, [], [], []),
  (172, .isub, 1, 0, [], [], []),
  (173, .putfield 386, 3, 0, [], [10, 37], []),
  (176, .iload_n 3, 1, 3, [], [], []),
  (177, .ireturn, 1, 0, [], [], [])], [(10, [true, true, true, false]), (46, [true, true, true, false])])
def mX12_readNot : sM := (1, 4, [
  (0, .aload_n 0, 1, 0, [], [], []),
  (1, .invokevirtual 380, 3, 268, [4, 0], [10], []),
  (4, .ifCond .ne 5, 3, 9, [], [], []),
  (7, .iconst 0, 1, 0, [], [], []),
  (8, .ireturn, 1, 0, [], [], []),
  (9, .aload_n 0, 1, 0, [], [], []),
  (10, .aload_n 0, 1, 0, [], [], []),
  (11, .iconst 1, 1, 0, [], [], []),
  (12, .aload_n 0, 1, 0, [], [], []),
  (13, .getfield 374, 3, 0, [], [10, 38], []),
  (16, .iconst 0, 1, 0, [], [], []),
  (17, .iconst 0, 1, 0, [], [], []),
  (18, .invokevirtual 377, 3, 265, [1, 4], [10], []),
  (21, .putfield 374, 3, 0, [], [10, 38], []),
  (24, .iconst 1, 1, 0, [], [], []),
  (25, .ireturn, 1, 0, [], [], [])], [])
def mX12_readBracket : sM := (1, 4, [
  (0, .aload_n 0, 1, 0, [], [], []),
  (1, .invokevirtual 401, 3, 266, [4, 0], [10], []),
  (4, .ifCond .ne 5, 3, 9, [], [], []),
  (7, .iconst 0, 1, 0, [], [], []),
  (8, .ireturn, 1, 0, [], [], []),
  (9, .aload_n 0, 1, 0, [], [], []),
  (10, .bipush 41, 2, 0, [], [], []),
  (12, .invokevirtual 86, 3, 163, [4, 1], [10], []),
  (15, .ifCond .ne 9, 3, 24, [], [], []),
  (18, .aload_n 0, 1, 0, [], [], []),
  (19, .iconst 1, 1, 0, [], [], []),
  (20, .invokevirtual 72, 3, 165, [4, 1], [10], []),
  (23, .ireturn, 1, 0, [], [], []),
  (24, .aload_n 0, 1, 0, [], [], []),
  (25, .invokevirtual 82, 3, 159, [0, 0], [10], []),
  (28, .iconst 1, 1, 0, [], [], []),
  (29, .ireturn, 1, 0, [], [], [])], [])
def mX12_readOf : sM := (2, 4, [
  (0, .aload_n 0, 1, 0, [], [], []),
  (1, .invokevirtual 346, 3, 255, [4, 0], [10], []),
  (4, .ifCond .ne 5, 3, 9, [], [], []),
  (7, .iconst 0, 1, 0, [], [], []),
  (8, .ireturn, 1, 0, [], [], []),
  (9, .aload_n 0, 1, 0, [], [], []),
  (10, .aload_n 0, 1, 0, [], [], []),
  (11, .bipush 50, 2, 0, [], [], []),
  (13, .iload_n 1, 1, 1, [], [], []),
  (14, .iadd, 1, 0, [], [], []),
  (15, .aload_n 0, 1, 0, [], [], []),
  (16, .getfield 79, 3, 0, [], [10, 13], []),
  (19, .iconst 0, 1, 0, [], [], []),
  (20, .iconst 0, 1, 0, [], [], []),
  (21, .invokevirtual 377, 3, 265, [1, 4], [10], []),
  (24, .putfield 374, 3, 0, [], [10, 38], []),
  (27, .iconst 1, 1, 0, [], [], []),
  (28, .ireturn, 1, 0, [], [], [])], [])
def mX12_readCompare : sM := (3, 4, [
  (0, .aload_n 0, 1, 0, [], [], []),
  (1, .bipush 60, 2, 0, [], [], []),
  (3, .invokevirtual 86, 3, 163, [4, 1], [10], []),
  (6, .ifCond .ne 27, 3, 33, [], [], []),
  (9, .aload_n 0, 1, 0, [], [], []),
  (10, .bipush 61, 2, 0, [], [], []),
  (12, .invokevirtual 86, 3, 163, [4, 1], [10], []),
  (15, .ifCond .ne 18, 3, 33, [], [], []),
  (18, .aload_n 0, 1, 0, [], [], []),
  (19, .bipush 62, 2, 0, [], [], []),
  (21, .invokevirtual 86, 3, 163, [4, 1], [10], []),
  (24, .ifCond .ne 9, 3, 33, [], [], []),
  (27, .aload_n 0, 1, 0, [], [], []),
  (28, .iconst 1, 1, 0, [], [], []),
  (29, .invokevirtual 72, 3, 165, [4, 1], [10], []),
  (32, .ireturn, 1, 0, [], [], []),
  (33, .aload_n 0, 1, 0, [], [], []),
  (34, .getfield 40, 3, 0, [], [10, 9], []),
  (37, .istore_n 2, 1, 2, [], [], []),
  (38, .aload_n 0, 1, 0, [], [], []),
  (39, .invokevirtual 82, 3, 159, [0, 0], [10], []),
  (42, .aload_n 0, 1, 0, [], [], []),
  (43, .iconst 0, 1, 0, [], [], []),
  (44, .sipush 999, 3, 0, [], [], []),
  (47, .invokevirtual 146, 3, 166, [4, 2], [10], []),
  (50, .ifCond .ne 5, 3, 55, [], [], []),
  (53, .iconst 0, 1, 0, [], [], []),
  (54, .ireturn, 1, 0, [], [], []),
  (55, .aload_n 0, 1, 0, [], [], []),
  (56, .aload_n 0, 1, 0, [], [], []),
  (57, .bipush 50, 2, 0, [], [], []),
  (59, .iload_n 1, 1, 1, [], [], []),
  (60, .iadd, 1, 0, [], [], []),
  (61, .iconst 0, 1, 0, [], [], []),
  (62, .aload_n 0, 1, 0, [], [], []),
  (63, .getfield 79, 3, 0, [], [10, 13], []),
  (66, .iload_n 2, 1, 2, [], [], []),
  (67, .invokevirtual 377, 3, 265, [1, 4], [10], []),
  (70, .putfield 374, 3, 0, [], [10, 38], []),
  (73, .iconst 1, 1, 0, [], [], []),
  (74, .ireturn, 1, 0, [], [], [])], [(33, [true, true, false])])
def mX12_sentence : sM := (2, 1, [
  (0, .aload_n 0, 1, 0, [], [], []),
  (1, .sipush 200, 3, 0, [], [], []),
  (4, .invokevirtual 180, 3, 168, [0, 1], [10], []),
  (7, .aload_n 0, 1, 0, [], [], []),
  (8, .iconst 0, 1, 0, [], [], []),
  (9, .putfield 368, 3, 0, [], [10, 35], []),
  (12, .aload_n 0, 1, 0, [], [], []),
  (13, .iconst 0, 1, 0, [], [], []),
  (14, .putfield 383, 3, 0, [], [10, 36], []),
  (17, .aload_n 0, 1, 0, [], [], []),
  (18, .iconst 0, 1, 0, [], [], []),
  (19, .putfield 386, 3, 0, [], [10, 37], []),
  (22, .aload_n 0, 1, 0, [], [], []),
  (23, .invokevirtual 401, 3, 266, [4, 0], [10], []),
  (26, .ifCond .ne 10, 3, 36, [], [], []),
  (29, .iconst (-1), 1, 0, [], [], []),
  (30, .aload_n 0, 1, 0, [], [], []),
  (31, .getfield 69, 3, 0, [], [10, 11], []),
  (34, .isub, 1, 0, [], [], []),
  (35, .ireturn, 1, 0, [], [], []),
  (36, .aload_n 0, 1, 0, [], [], []),
  (37, .getfield 30, 3, 0, [], [10, 7], []),
  (40, .ifCond .eq 16, 3, 56, [], [], []),
  (43, .aload_n 0, 1, 0, [], [], []),
  (44, .iconst 1, 1, 0, [], [], []),
  (45, .invokevirtual 72, 3, 165, [4, 1], [10], []),
  (48, .pop, 1, 0, [], [], []),
  (49, .iconst (-1), 1, 0, [], [], []),
  (50, .aload_n 0, 1, 0, [], [], []),
  (51, .getfield 69, 3, 0, [], [10, 11], []),
  (54, .isub, 1, 0, [], [], []),
  (55, .ireturn, 1, 0, [], [], []),
  (56, .aload_n 0, 1, 0, [], [], []),
  (57, .getfield 98, 3, 2, [], [10, 14], []),
  (60, .sipush 5820, 3, 0, [], [], []),
  (63, .iconst 1, 1, 0, [], [], []),
  (64, .iastore, 1, 0, [], [], []),
  (65, .aload_n 0, 1, 0, [], [], []),
  (66, .getfield 98, 3, 2, [], [10, 14], []),
  (69, .sipush 5821, 3, 0, [], [], []),
  (72, .aload_n 0, 1, 0, [], [], []),
  (73, .getfield 374, 3, 0, [], [10, 38], []),
  (76, .iastore, 1, 0, [], [], []),
  (77, .iconst 0, 1, 0, [], [], []),
  (78, .istore_n 1, 1, 1, [], [], []),
  (79, .iload_n 1, 1, 1, [], [], []),
  (80, .sipush 240, 3, 0, [], [], []),
  (83, .if_icmp .ge 25, 3, 108, [], [], []),
  (86, .aload_n 0, 1, 0, [], [], []),
  (87, .getfield 98, 3, 2, [], [10, 14], []),
  (90, .sipush 5822, 3, 0, [], [], []),
  (93, .iload_n 1, 1, 1, [], [], []),
  (94, .iadd, 1, 0, [], [], []),
  (95, .aload_n 0, 1, 0, [], [], []),
  (96, .getfield 139, 3, 2, [], [10, 34], []),
  (99, .iload_n 1, 1, 1, [], [], []),
  (100, .iaload, 1, 0, [], [], []),
  (101, .iastore, 1, 0, [], [], []),
  (102, .iinc 1 1, 3, 1, [], [], []),
  (105, .goto (-26), 3, 79, [], [], []),
  (108, .aload_n 0, 1, 0, [], [], []),
  (109, .getfield 383, 3, 0, [], [10, 36], []),
  (112, .ireturn, 1, 0, [], [], [])], [(79, [true, true])])
def mX12_holds : sM := (8, 4, [
  (0, .sipush 5822, 3, 0, [], [], []),
  (3, .iconst 4, 1, 0, [], [], []),
  (4, .iload_n 1, 1, 1, [], [], []),
  (5, .imul, 1, 0, [], [], []),
  (6, .iadd, 1, 0, [], [], []),
  (7, .istore_n 3, 1, 3, [], [], []),
  (8, .aload_n 0, 1, 0, [], [], []),
  (9, .getfield 98, 3, 2, [], [10, 14], []),
  (12, .iload_n 3, 1, 3, [], [], []),
  (13, .iconst 1, 1, 0, [], [], []),
  (14, .iadd, 1, 0, [], [], []),
  (15, .iaload, 1, 0, [], [], []),
  (16, .istore 4, 2, 4, [], [], []),
  (18, .aload_n 0, 1, 0, [], [], []),
  (19, .getfield 98, 3, 2, [], [10, 14], []),
  (22, .iload_n 3, 1, 3, [], [], []),
  (23, .iconst 2, 1, 0, [], [], []),
  (24, .iadd, 1, 0, [], [], []),
  (25, .iaload, 1, 0, [], [], []),
  (26, .istore 5, 2, 5, [], [], []),
  (28, .aload_n 0, 1, 0, [], [], []),
  (29, .getfield 98, 3, 2, [], [10, 14], []),
  (32, .iload_n 3, 1, 3, [], [], []),
  (33, .iaload, 1, 0, [], [], []),
  (34, .lookupswitch 180 #[(1, 66), (2, 82), (3, 108), (64, 134), (65, 148), (66, 164), (67, 172)], 66, 214, [], [], [(1, 100), (2, 116), (3, 142), (64, 168), (65, 182), (66, 198), (67, 206)]),
  (100, .aload_n 0, 1, 0, [], [], []),
  (101, .iload 4, 2, 4, [], [], []),
  (103, .iload_n 2, 1, 2, [], [], []),
  (104, .invokevirtual 404, 3, 274, [4, 2], [10], []),
  (107, .ifCond .ne 7, 3, 114, [], [], []),
  (110, .iconst 1, 1, 0, [], [], []),
  (111, .goto 4, 3, 115, [], [], []),
  (114, .iconst 0, 1, 0, [], [], []),
  (115, .ireturn, 1, 0, [], [], []),
  (116, .aload_n 0, 1, 0, [], [], []),
  (117, .iload 4, 2, 4, [], [], []),
  (119, .iload_n 2, 1, 2, [], [], []),
  (120, .invokevirtual 404, 3, 274, [4, 2], [10], []),
  (123, .ifCond .eq 17, 3, 140, [], [], []),
  (126, .aload_n 0, 1, 0, [], [], []),
  (127, .iload 5, 2, 5, [], [], []),
  (129, .iload_n 2, 1, 2, [], [], []),
  (130, .invokevirtual 404, 3, 274, [4, 2], [10], []),
  (133, .ifCond .eq 7, 3, 140, [], [], []),
  (136, .iconst 1, 1, 0, [], [], []),
  (137, .goto 4, 3, 141, [], [], []),
  (140, .iconst 0, 1, 0, [], [], []),
  (141, .ireturn, 1, 0, [], [], []),
  (142, .aload_n 0, 1, 0, [], [], []),
  (143, .iload 4, 2, 4, [], [], []),
  (145, .iload_n 2, 1, 2, [], [], []),
  (146, .invokevirtual 404, 3, 274, [4, 2], [10], []),
  (149, .ifCond .ne 13, 3, 162, [], [], []),
  (152, .aload_n 0, 1, 0, [], [], []),
  (153, .iload 5, 2, 5, [], [], []),
  (155, .iload_n 2, 1, 2, [], [], []),
  (156, .invokevirtual 404, 3, 274, [4, 2], [10], []),
  (159, .ifCond .eq 7, 3, 166, [], [], []),
  (162, .iconst 1, 1, 0, [], [], []),
  (163, .goto 4, 3, 167, [], [], []),
  (166, .iconst 0, 1, 0, [], [], []),
  (167, .ireturn, 1, 0, [], [], []),
  (168, .aload_n 0, 1, 0, [], [], []),
  (169, .iload_n 2, 1, 2, [], [], []),
  (170, .invokevirtual 199, 3, 180, [1, 1], [10], []),
  (173, .ifCond .ne 7, 3, 180, [], [], []),
  (176, .iconst 1, 1, 0, [], [], []),
  (177, .goto 4, 3, 181, [], [], []),
  (180, .iconst 0, 1, 0, [], [], []),
  (181, .ireturn, 1, 0, [], [], []),
  (182, .aload_n 0, 1, 0, [], [], []),
  (183, .iload_n 2, 1, 2, [], [], []),
  (184, .invokevirtual 407, 3, 264, [1, 1], [10], []),
  (187, .iconst 2, 1, 0, [], [], []),
  (188, .irem, 1, 0, [], [], []),
  (189, .ifCond .ne 7, 3, 196, [], [], []),
  (192, .iconst 1, 1, 0, [], [], []),
  (193, .goto 4, 3, 197, [], [], []),
  (196, .iconst 0, 1, 0, [], [], []),
  (197, .ireturn, 1, 0, [], [], []),
  (198, .aload_n 0, 1, 0, [], [], []),
  (199, .iload_n 2, 1, 2, [], [], []),
  (200, .iload 4, 2, 4, [], [], []),
  (202, .invokevirtual 270, 3, 216, [4, 2], [10], []),
  (205, .ireturn, 1, 0, [], [], []),
  (206, .aload_n 0, 1, 0, [], [], []),
  (207, .iload_n 2, 1, 2, [], [], []),
  (208, .iload 4, 2, 4, [], [], []),
  (210, .invokevirtual 410, 3, 263, [4, 2], [10], []),
  (213, .ireturn, 1, 0, [], [], []),
  (214, .aload_n 0, 1, 0, [], [], []),
  (215, .getfield 98, 3, 2, [], [10, 14], []),
  (218, .iload_n 3, 1, 3, [], [], []),
  (219, .iaload, 1, 0, [], [], []),
  (220, .bipush 50, 2, 0, [], [], []),
  (222, .isub, 1, 0, [], [], []),
  (223, .istore 6, 2, 6, [], [], []),
  (225, .iload 6, 2, 6, [], [], []),
  (227, .bipush 18, 2, 0, [], [], []),
  (229, .if_icmp .ne 11, 3, 240, [], [], []),
  (232, .aload_n 0, 1, 0, [], [], []),
  (233, .iload_n 2, 1, 2, [], [], []),
  (234, .invokevirtual 199, 3, 180, [1, 1], [10], []),
  (237, .goto 54, 3, 291, [], [], []),
  (240, .iload 6, 2, 6, [], [], []),
  (242, .bipush 19, 2, 0, [], [], []),
  (244, .if_icmp .ne 11, 3, 255, [], [], []),
  (247, .aload_n 0, 1, 0, [], [], []),
  (248, .iload_n 2, 1, 2, [], [], []),
  (249, .invokevirtual 407, 3, 264, [1, 1], [10], []),
  (252, .goto 39, 3, 291, [], [], []),
  (255, .iload 6, 2, 6, [], [], []),
  (257, .bipush 20, 2, 0, [], [], []),
  (259, .if_icmp .ne 11, 3, 270, [], [], []),
  (262, .aload_n 0, 1, 0, [], [], []),
  (263, .iload_n 2, 1, 2, [], [], []),
  (264, .invokevirtual 228, 3, 197, [1, 1], [10], []),
  (267, .goto 24, 3, 291, [], [], []),
  (270, .iload 6, 2, 6, [], [], []),
  (272, .bipush 21, 2, 0, [], [], []),
  (274, .if_icmp .ne 16, 3, 290, [], [], []),
  (277, .aload_n 0, 1, 0, [], [], []),
  (278, .getfield 98, 3, 2, [], [10, 14], []),
  (281, .sipush 2611, 3, 0, [], [], []),
  (284, .iload_n 2, 1, 2, [], [], []),
  (285, .iadd, 1, 0, [], [], []),
  (286, .iaload, 1, 0, [], [], []),
  (287, .goto 4, 3, 291, [], [], []),
  (290, .iload_n 2, 1, 2, [], [], []),
  (291, .istore 7, 2, 7, [], [], []),
  (293, .aload_n 0, 1, 0, [], [], []),
  (294, .getfield 98, 3, 2, [], [10, 14], []),
  (297, .iload_n 3, 1, 3, [], [], []),
  (298, .iconst 3, 1, 0, [], [], []),
  (299, .iadd, 1, 0, [], [], []),
  (300, .iaload, 1, 0, [], [], []),
  (301, .bipush 60, 2, 0, [], [], []),
  (303, .if_icmp .ne 18, 3, 321, [], [], []),
  (306, .iload 7, 2, 7, [], [], []),
  (308, .iload 5, 2, 5, [], [], []),
  (310, .if_icmp .ge 7, 3, 317, [], [], []),
  (313, .iconst 1, 1, 0, [], [], []),
  (314, .goto 47, 3, 361, [], [], []),
  (317, .iconst 0, 1, 0, [], [], []),
  (318, .goto 43, 3, 361, [], [], []),
  (321, .aload_n 0, 1, 0, [], [], []),
  (322, .getfield 98, 3, 2, [], [10, 14], []),
  (325, .iload_n 3, 1, 3, [], [], []),
  (326, .iconst 3, 1, 0, [], [], []),
  (327, .iadd, 1, 0, [], [], []),
  (328, .iaload, 1, 0, [], [], []),
  (329, .bipush 61, 2, 0, [], [], []),
  (331, .if_icmp .ne 18, 3, 349, [], [], []),
  (334, .iload 7, 2, 7, [], [], []),
  (336, .iload 5, 2, 5, [], [], []),
  (338, .if_icmp .ne 7, 3, 345, [], [], []),
  (341, .iconst 1, 1, 0, [], [], []),
  (342, .goto 19, 3, 361, [], [], []),
  (345, .iconst 0, 1, 0, [], [], []),
  (346, .goto 15, 3, 361, [], [], []),
  (349, .iload 7, 2, 7, [], [], []),
  (351, .iload 5, 2, 5, [], [], []),
  (353, .if_icmp .le 7, 3, 360, [], [], []),
  (356, .iconst 1, 1, 0, [], [], []),
  (357, .goto 4, 3, 361, [], [], []),
  (360, .iconst 0, 1, 0, [], [], []),
  (361, .ireturn, 1, 0, [], [], [])], [])
def mX12_said : sM := (4, 1, [
  (0, .aload_n 0, 1, 0, [], [], []),
  (1, .iconst 0, 1, 0, [], [], []),
  (2, .putfield 1, 3, 0, [], [10, 0], []),
  (5, .aload_n 0, 1, 0, [], [], []),
  (6, .getfield 98, 3, 2, [], [10, 14], []),
  (9, .sipush 5820, 3, 0, [], [], []),
  (12, .iaload, 1, 0, [], [], []),
  (13, .ifCond .ne 5, 3, 18, [], [], []),
  (16, .iconst (-1), 1, 0, [], [], []),
  (17, .ireturn, 1, 0, [], [], []),
  (18, .iconst 0, 1, 0, [], [], []),
  (19, .istore_n 2, 1, 2, [], [], []),
  (20, .iconst 0, 1, 0, [], [], []),
  (21, .istore_n 3, 1, 3, [], [], []),
  (22, .iload_n 3, 1, 3, [], [], []),
  (23, .aload_n 0, 1, 0, [], [], []),
  (24, .getfield 98, 3, 2, [], [10, 14], []),
  (27, .iconst 0, 1, 0, [], [], []),
  (28, .iaload, 1, 0, [], [], []),
  (29, .if_icmp .ge 38, 3, 67, [], [], []),
  (32, .aload_n 0, 1, 0, [], [], []),
  (33, .aload_n 0, 1, 0, [], [], []),
  (34, .getfield 98, 3, 2, [], [10, 14], []),
  (37, .sipush 5821, 3, 0, [], [], []),
  (40, .iaload, 1, 0, [], [], []),
  (41, .iload_n 3, 1, 3, [], [], []),
  (42, .invokevirtual 404, 3, 274, [4, 2], [10], []),
  (45, .ifCond .ne 6, 3, 51, [], [], []),
  (48, .goto 13, 3, 61, [], [], []),
  (51, .iload_n 2, 1, 2, [], [], []),
  (52, .iload_n 1, 1, 1, [], [], []),
  (53, .if_icmp .ne 5, 3, 58, [], [], []),
  (56, .iload_n 3, 1, 3, [], [], []),
  (57, .ireturn, 1, 0, [], [], []),
  (58, .iinc 2 1, 3, 2, [], [], []),
  (61, .iinc 3 1, 3, 3, [], [], []),
  (64, .goto (-42), 3, 22, [], [], []),
  (67, .iload_n 1, 1, 1, [], [], []),
  (68, .iconst (-1), 1, 0, [], [], []),
  (69, .if_icmp .ne 7, 3, 76, [], [], []),
  (72, .iload_n 2, 1, 2, [], [], []),
  (73, .goto 4, 3, 77, [], [], []),
  (76, .iconst (-1), 1, 0, [], [], []),
  (77, .ireturn, 1, 0, [], [], [])], [(22, [true, true, true, true])])
def mX12_image : sM := (3, 4, [
  (0, .aload_n 0, 1, 0, [], [], []),
  (1, .iconst 0, 1, 0, [], [], []),
  (2, .putfield 1, 3, 0, [], [10, 0], []),
  (5, .iload_n 1, 1, 1, [], [], []),
  (6, .iconst 0, 1, 0, [], [], []),
  (7, .iconst 1, 1, 0, [], [], []),
  (8, .invokestatic 75, 3, 155, [4, 3], [], []),
  (11, .ifCond .ne 5, 3, 16, [], [], []),
  (14, .iconst 0, 1, 0, [], [], []),
  (15, .ireturn, 1, 0, [], [], []),
  (16, .iconst 0, 1, 0, [], [], []),
  (17, .istore_n 2, 1, 2, [], [], []),
  (18, .iload_n 2, 1, 2, [], [], []),
  (19, .sipush 6062, 3, 0, [], [], []),
  (22, .if_icmp .ge 27, 3, 49, [], [], []),
  (25, .aload_n 0, 1, 0, [], [], []),
  (26, .getfield 104, 3, 2, [], [10, 16], []),
  (29, .sipush 6062, 3, 0, [], [], []),
  (32, .iload_n 1, 1, 1, [], [], []),
  (33, .imul, 1, 0, [], [], []),
  (34, .iload_n 2, 1, 2, [], [], []),
  (35, .iadd, 1, 0, [], [], []),
  (36, .aload_n 0, 1, 0, [], [], []),
  (37, .getfield 98, 3, 2, [], [10, 14], []),
  (40, .iload_n 2, 1, 2, [], [], []),
  (41, .iaload, 1, 0, [], [], []),
  (42, .iastore, 1, 0, [], [], []),
  (43, .iinc 2 1, 3, 2, [], [], []),
  (46, .goto (-28), 3, 18, [], [], []),
  (49, .iconst 0, 1, 0, [], [], []),
  (50, .istore_n 2, 1, 2, [], [], []),
  (51, .iload_n 2, 1, 2, [], [], []),
  (52, .iconst 4, 1, 0, [], [], []),
  (53, .if_icmp .ge 25, 3, 78, [], [], []),
  (56, .aload_n 0, 1, 0, [], [], []),
  (57, .getfield 123, 3, 2, [], [10, 22], []),
  (60, .iconst 4, 1, 0, [], [], []),
  (61, .iload_n 1, 1, 1, [], [], []),
  (62, .imul, 1, 0, [], [], []),
  (63, .iload_n 2, 1, 2, [], [], []),
  (64, .iadd, 1, 0, [], [], []),
  (65, .aload_n 0, 1, 0, [], [], []),
  (66, .getfield 116, 3, 2, [], [10, 20], []),
  (69, .iload_n 2, 1, 2, [], [], []),
  (70, .laload, 1, 0, [], [], []),
  (71, .lastore, 1, 0, [], [], []),
  (72, .iinc 2 1, 3, 2, [], [], []),
  (75, .goto (-24), 3, 51, [], [], []),
  (78, .aload_n 0, 1, 0, [], [], []),
  (79, .getfield 126, 3, 2, [], [10, 23], []),
  (82, .iload_n 1, 1, 1, [], [], []),
  (83, .iconst 1, 1, 0, [], [], []),
  (84, .bastore, 1, 0, [], [], []),
  (85, .iconst 1, 1, 0, [], [], []),
  (86, .ireturn, 1, 0, [], [], [])], [(18, [true, true, true]), (51, [true, true, true])])
def mX12_restore : sM := (3, 4, [
  (0, .aload_n 0, 1, 0, [], [], []),
  (1, .iconst 0, 1, 0, [], [], []),
  (2, .putfield 1, 3, 0, [], [10, 0], []),
  (5, .iload_n 1, 1, 1, [], [], []),
  (6, .iconst 0, 1, 0, [], [], []),
  (7, .iconst 1, 1, 0, [], [], []),
  (8, .invokestatic 75, 3, 155, [4, 3], [], []),
  (11, .ifCond .eq 12, 3, 23, [], [], []),
  (14, .aload_n 0, 1, 0, [], [], []),
  (15, .getfield 126, 3, 2, [], [10, 23], []),
  (18, .iload_n 1, 1, 1, [], [], []),
  (19, .baload, 1, 0, [], [], []),
  (20, .ifCond .ne 5, 3, 25, [], [], []),
  (23, .iconst 0, 1, 0, [], [], []),
  (24, .ireturn, 1, 0, [], [], []),
  (25, .iconst 0, 1, 0, [], [], []),
  (26, .istore_n 2, 1, 2, [], [], []),
  (27, .iload_n 2, 1, 2, [], [], []),
  (28, .sipush 6062, 3, 0, [], [], []),
  (31, .if_icmp .ge 27, 3, 58, [], [], []),
  (34, .aload_n 0, 1, 0, [], [], []),
  (35, .getfield 98, 3, 2, [], [10, 14], []),
  (38, .iload_n 2, 1, 2, [], [], []),
  (39, .aload_n 0, 1, 0, [], [], []),
  (40, .getfield 104, 3, 2, [], [10, 16], []),
  (43, .sipush 6062, 3, 0, [], [], []),
  (46, .iload_n 1, 1, 1, [], [], []),
  (47, .imul, 1, 0, [], [], []),
  (48, .iload_n 2, 1, 2, [], [], []),
  (49, .iadd, 1, 0, [], [], []),
  (50, .iaload, 1, 0, [], [], []),
  (51, .iastore, 1, 0, [], [], []),
  (52, .iinc 2 1, 3, 2, [], [], []),
  (55, .goto (-28), 3, 27, [], [], []),
  (58, .iconst 0, 1, 0, [], [], []),
  (59, .istore_n 2, 1, 2, [], [], []),
  (60, .iload_n 2, 1, 2, [], [], []),
  (61, .iconst 4, 1, 0, [], [], []),
  (62, .if_icmp .ge 25, 3, 87, [], [], []),
  (65, .aload_n 0, 1, 0, [], [], []),
  (66, .getfield 116, 3, 2, [], [10, 20], []),
  (69, .iload_n 2, 1, 2, [], [], []),
  (70, .aload_n 0, 1, 0, [], [], []),
  (71, .getfield 123, 3, 2, [], [10, 22], []),
  (74, .iconst 4, 1, 0, [], [], []),
  (75, .iload_n 1, 1, 1, [], [], []),
  (76, .imul, 1, 0, [], [], []),
  (77, .iload_n 2, 1, 2, [], [], []),
  (78, .iadd, 1, 0, [], [], []),
  (79, .laload, 1, 0, [], [], []),
  (80, .lastore, 1, 0, [], [], []),
  (81, .iinc 2 1, 3, 2, [], [], []),
  (84, .goto (-24), 3, 60, [], [], []),
  (87, .aload_n 0, 1, 0, [], [], []),
  (88, .iconst 0, 1, 0, [], [], []),
  (89, .putfield 192, 3, 0, [], [10, 24], []),
  (92, .iconst 1, 1, 0, [], [], []),
  (93, .ireturn, 1, 0, [], [], [])], [(27, [true, true, true]), (60, [true, true, true])])
def mX12_total : sM := (2, 1, [
  (0, .aload_n 0, 1, 0, [], [], []),
  (1, .iconst 0, 1, 0, [], [], []),
  (2, .putfield 1, 3, 0, [], [10, 0], []),
  (5, .iload_n 1, 1, 1, [], [], []),
  (6, .tableswitch 54 0 3 #[30, 37, 44, 49], 30, 60, [], [], [(0, 36), (1, 43), (2, 50), (3, 55)]),
  (36, .aload_n 0, 1, 0, [], [], []),
  (37, .getfield 98, 3, 2, [], [10, 14], []),
  (40, .iconst 0, 1, 0, [], [], []),
  (41, .iaload, 1, 0, [], [], []),
  (42, .ireturn, 1, 0, [], [], []),
  (43, .aload_n 0, 1, 0, [], [], []),
  (44, .getfield 98, 3, 2, [], [10, 14], []),
  (47, .iconst 1, 1, 0, [], [], []),
  (48, .iaload, 1, 0, [], [], []),
  (49, .ireturn, 1, 0, [], [], []),
  (50, .aload_n 0, 1, 0, [], [], []),
  (51, .invokevirtual 362, 3, 259, [1, 0], [10], []),
  (54, .ireturn, 1, 0, [], [], []),
  (55, .aload_n 0, 1, 0, [], [], []),
  (56, .getfield 11, 3, 0, [], [10, 2], []),
  (59, .ireturn, 1, 0, [], [], []),
  (60, .iconst (-1), 1, 0, [], [], []),
  (61, .ireturn, 1, 0, [], [], [])], [])
def mL_law : sM := (7, 4, [
  (0, .new 8, 3, 15, [], [9], []),
  (3, .dup, 1, 0, [], [], []),
  (4, .invokespecial 26, 3, 95, [0], [9], []),
  (7, .astore_n 1, 1, 1, [], [], []),
  (8, .new 27, 3, 39, [], [10], []),
  (11, .dup, 1, 0, [], [], []),
  (12, .invokespecial 29, 3, 169, [0], [10], []),
  (15, .astore_n 2, 1, 2, [], [], []),
  (16, .iconst 1, 1, 0, [], [], []),
  (17, .newarray .long, 2, 0, [], [22], []),
  (19, .astore_n 3, 1, 3, [], [], []),
  (20, .iconst 0, 1, 0, [], [], []),
  (21, .istore 4, 2, 4, [], [], []),
  (23, .iload 4, 2, 4, [], [], []),
  (25, .aload_n 0, 1, 0, [], [], []),
  (26, .arraylength, 1, 0, [], [], []),
  (27, .bipush 6, 2, 0, [], [], []),
  (29, .isub, 1, 0, [], [], []),
  (30, .if_icmp .gt 1922, 3, 1952, [], [], []),
  (33, .aload_n 0, 1, 0, [], [], []),
  (34, .iload 4, 2, 4, [], [], []),
  (36, .iaload, 1, 0, [], [], []),
  (37, .bipush 63, 2, 0, [], [], []),
  (39, .iand, 1, 0, [], [], []),
  (40, .tableswitch 1906 0 45 #[200, 273, 298, 311, 324, 349, 386, 435, 484, 533, 558, 595, 663, 688, 737, 774, 854, 910, 978, 1015, 1052, 1077, 1102, 1151, 1200, 1249, 1298, 1335, 1372, 1421, 1434, 1459, 1496, 1533, 1582, 1619, 1656, 1693, 1706, 1743, 1768, 1793, 1806, 1831, 1856, 1881], 200, 1946, [], [], [(0, 240), (1, 313), (2, 338), (3, 351), (4, 364), (5, 389), (6, 426), (7, 475), (8, 524), (9, 573), (10, 598), (11, 635), (12, 703), (13, 728), (14, 777), (15, 814), (16, 894), (17, 950), (18, 1018), (19, 1055), (20, 1092), (21, 1117), (22, 1142), (23, 1191), (24, 1240), (25, 1289), (26, 1338), (27, 1375), (28, 1412), (29, 1461), (30, 1474), (31, 1499), (32, 1536), (33, 1573), (34, 1622), (35, 1659), (36, 1696), (37, 1733), (38, 1746), (39, 1783), (40, 1808), (41, 1833), (42, 1846), (43, 1871), (44, 1896), (45, 1921)]),
  (240, .aload_n 1, 1, 1, [], [], []),
  (241, .aload_n 0, 1, 0, [], [], []),
  (242, .iload 4, 2, 4, [], [], []),
  (244, .iconst 1, 1, 0, [], [], []),
  (245, .iadd, 1, 0, [], [], []),
  (246, .iaload, 1, 0, [], [], []),
  (247, .aload_n 0, 1, 0, [], [], []),
  (248, .iload 4, 2, 4, [], [], []),
  (250, .iconst 2, 1, 0, [], [], []),
  (251, .iadd, 1, 0, [], [], []),
  (252, .iaload, 1, 0, [], [], []),
  (253, .aload_n 0, 1, 0, [], [], []),
  (254, .iload 4, 2, 4, [], [], []),
  (256, .iconst 3, 1, 0, [], [], []),
  (257, .iadd, 1, 0, [], [], []),
  (258, .iaload, 1, 0, [], [], []),
  (259, .aload_n 0, 1, 0, [], [], []),
  (260, .iload 4, 2, 4, [], [], []),
  (262, .iconst 4, 1, 0, [], [], []),
  (263, .iadd, 1, 0, [], [], []),
  (264, .iaload, 1, 0, [], [], []),
  (265, .aload_n 0, 1, 0, [], [], []),
  (266, .iload 4, 2, 4, [], [], []),
  (268, .iconst 5, 1, 0, [], [], []),
  (269, .iadd, 1, 0, [], [], []),
  (270, .iaload, 1, 0, [], [], []),
  (271, .invokevirtual 30, 3, 96, [1, 5], [9], []),
  (274, .aload_n 2, 1, 2, [], [], []),
  (275, .aload_n 0, 1, 0, [], [], []),
  (276, .iload 4, 2, 4, [], [], []),
  (278, .iconst 1, 1, 0, [], [], []),
  (279, .iadd, 1, 0, [], [], []),
  (280, .iaload, 1, 0, [], [], []),
  (281, .aload_n 0, 1, 0, [], [], []),
  (282, .iload 4, 2, 4, [], [], []),
  (284, .iconst 2, 1, 0, [], [], []),
  (285, .iadd, 1, 0, [], [], []),
  (286, .iaload, 1, 0, [], [], []),
  (287, .aload_n 0, 1, 0, [], [], []),
  (288, .iload 4, 2, 4, [], [], []),
  (290, .iconst 3, 1, 0, [], [], []),
  (291, .iadd, 1, 0, [], [], []),
  (292, .iaload, 1, 0, [], [], []),
  (293, .aload_n 0, 1, 0, [], [], []),
  (294, .iload 4, 2, 4, [], [], []),
  (296, .iconst 4, 1, 0, [], [], []),
  (297, .iadd, 1, 0, [], [], []),
  (298, .iaload, 1, 0, [], [], []),
  (299, .aload_n 0, 1, 0, [], [], []),
  (300, .iload 4, 2, 4, [], [], []),
  (302, .iconst 5, 1, 0, [], [], []),
  (303, .iadd, 1, 0, [], [], []),
  (304, .iaload, 1, 0, [], [], []),
  (305, .invokevirtual 34, 3, 152, [1, 5], [10], []),
  (308, .if_icmp .eq 1638, 3, 1946, [], [], []),
  (311, .iconst 0, 1, 0, [], [], []),
  (312, .ireturn, 1, 0, [], [], []),
  (313, .aload_n 1, 1, 1, [], [], []),
  (314, .aload_n 0, 1, 0, [], [], []),
  (315, .iload 4, 2, 4, [], [], []),
  (317, .iconst 1, 1, 0, [], [], []),
  (318, .iadd, 1, 0, [], [], []),
  (319, .iaload, 1, 0, [], [], []),
  (320, .invokevirtual 35, 3, 98, [4, 1], [9], []),
  (323, .aload_n 2, 1, 2, [], [], []),
  (324, .aload_n 0, 1, 0, [], [], []),
  (325, .iload 4, 2, 4, [], [], []),
  (327, .iconst 1, 1, 0, [], [], []),
  (328, .iadd, 1, 0, [], [], []),
  (329, .iaload, 1, 0, [], [], []),
  (330, .invokevirtual 39, 3, 153, [4, 1], [10], []),
  (333, .if_icmp .eq 1613, 3, 1946, [], [], []),
  (336, .iconst 0, 1, 0, [], [], []),
  (337, .ireturn, 1, 0, [], [], []),
  (338, .aload_n 1, 1, 1, [], [], []),
  (339, .invokevirtual 40, 3, 99, [1, 0], [9], []),
  (342, .aload_n 2, 1, 2, [], [], []),
  (343, .invokevirtual 44, 3, 178, [1, 0], [10], []),
  (346, .if_icmp .eq 1600, 3, 1946, [], [], []),
  (349, .iconst 0, 1, 0, [], [], []),
  (350, .ireturn, 1, 0, [], [], []),
  (351, .aload_n 1, 1, 1, [], [], []),
  (352, .invokevirtual 45, 3, 102, [1, 0], [9], []),
  (355, .aload_n 2, 1, 2, [], [], []),
  (356, .invokevirtual 48, 3, 179, [1, 0], [10], []),
  (359, .if_icmp .eq 1587, 3, 1946, [], [], []),
  (362, .iconst 0, 1, 0, [], [], []),
  (363, .ireturn, 1, 0, [], [], []),
  (364, .aload_n 1, 1, 1, [], [], []),
  (365, .aload_n 0, 1, 0, [], [], []),
  (366, .iload 4, 2, 4, [], [], []),
  (368, .iconst 1, 1, 0, [], [], []),
  (369, .iadd, 1, 0, [], [], []),
  (370, .iaload, 1, 0, [], [], []),
  (371, .invokevirtual 49, 3, 103, [1, 1], [9], []),
  (374, .aload_n 2, 1, 2, [], [], []),
  (375, .aload_n 0, 1, 0, [], [], []),
  (376, .iload 4, 2, 4, [], [], []),
  (378, .iconst 1, 1, 0, [], [], []),
  (379, .iadd, 1, 0, [], [], []),
  (380, .iaload, 1, 0, [], [], []),
  (381, .invokevirtual 52, 3, 192, [1, 1], [10], []),
  (384, .if_icmp .eq 1562, 3, 1946, [], [], []),
  (387, .iconst 0, 1, 0, [], [], []),
  (388, .ireturn, 1, 0, [], [], []),
  (389, .aload_n 1, 1, 1, [], [], []),
  (390, .aload_n 0, 1, 0, [], [], []),
  (391, .iload 4, 2, 4, [], [], []),
  (393, .iconst 1, 1, 0, [], [], []),
  (394, .iadd, 1, 0, [], [], []),
  (395, .iaload, 1, 0, [], [], []),
  (396, .aload_n 0, 1, 0, [], [], []),
  (397, .iload 4, 2, 4, [], [], []),
  (399, .iconst 2, 1, 0, [], [], []),
  (400, .iadd, 1, 0, [], [], []),
  (401, .iaload, 1, 0, [], [], []),
  (402, .invokevirtual 53, 3, 104, [1, 2], [9], []),
  (405, .aload_n 2, 1, 2, [], [], []),
  (406, .aload_n 0, 1, 0, [], [], []),
  (407, .iload 4, 2, 4, [], [], []),
  (409, .iconst 1, 1, 0, [], [], []),
  (410, .iadd, 1, 0, [], [], []),
  (411, .iaload, 1, 0, [], [], []),
  (412, .aload_n 0, 1, 0, [], [], []),
  (413, .iload 4, 2, 4, [], [], []),
  (415, .iconst 2, 1, 0, [], [], []),
  (416, .iadd, 1, 0, [], [], []),
  (417, .iaload, 1, 0, [], [], []),
  (418, .invokevirtual 56, 3, 193, [1, 2], [10], []),
  (421, .if_icmp .eq 1525, 3, 1946, [], [], []),
  (424, .iconst 0, 1, 0, [], [], []),
  (425, .ireturn, 1, 0, [], [], []),
  (426, .aload_n 1, 1, 1, [], [], []),
  (427, .aload_n 0, 1, 0, [], [], []),
  (428, .iload 4, 2, 4, [], [], []),
  (430, .iconst 1, 1, 0, [], [], []),
  (431, .iadd, 1, 0, [], [], []),
  (432, .iaload, 1, 0, [], [], []),
  (433, .aload_n 0, 1, 0, [], [], []),
  (434, .iload 4, 2, 4, [], [], []),
  (436, .iconst 2, 1, 0, [], [], []),
  (437, .iadd, 1, 0, [], [], []),
  (438, .iaload, 1, 0, [], [], []),
  (439, .aload_n 0, 1, 0, [], [], []),
  (440, .iload 4, 2, 4, [], [], []),
  (442, .iconst 3, 1, 0, [], [], []),
  (443, .iadd, 1, 0, [], [], []),
  (444, .iaload, 1, 0, [], [], []),
  (445, .invokevirtual 57, 3, 105, [1, 3], [9], []),
  (448, .aload_n 2, 1, 2, [], [], []),
  (449, .aload_n 0, 1, 0, [], [], []),
  (450, .iload 4, 2, 4, [], [], []),
  (452, .iconst 1, 1, 0, [], [], []),
  (453, .iadd, 1, 0, [], [], []),
  (454, .iaload, 1, 0, [], [], []),
  (455, .aload_n 0, 1, 0, [], [], []),
  (456, .iload 4, 2, 4, [], [], []),
  (458, .iconst 2, 1, 0, [], [], []),
  (459, .iadd, 1, 0, [], [], []),
  (460, .iaload, 1, 0, [], [], []),
  (461, .aload_n 0, 1, 0, [], [], []),
  (462, .iload 4, 2, 4, [], [], []),
  (464, .iconst 3, 1, 0, [], [], []),
  (465, .iadd, 1, 0, [], [], []),
  (466, .iaload, 1, 0, [], [], []),
  (467, .invokevirtual 60, 3, 194, [1, 3], [10], []),
  (470, .if_icmp .eq 1476, 3, 1946, [], [], []),
  (473, .iconst 0, 1, 0, [], [], []),
  (474, .ireturn, 1, 0, [], [], []),
  (475, .aload_n 1, 1, 1, [], [], []),
  (476, .aload_n 0, 1, 0, [], [], []),
  (477, .iload 4, 2, 4, [], [], []),
  (479, .iconst 1, 1, 0, [], [], []),
  (480, .iadd, 1, 0, [], [], []),
  (481, .iaload, 1, 0, [], [], []),
  (482, .aload_n 0, 1, 0, [], [], []),
  (483, .iload 4, 2, 4, [], [], []),
  (485, .iconst 2, 1, 0, [], [], []),
  (486, .iadd, 1, 0, [], [], []),
  (487, .iaload, 1, 0, [], [], []),
  (488, .aload_n 0, 1, 0, [], [], []),
  (489, .iload 4, 2, 4, [], [], []),
  (491, .iconst 3, 1, 0, [], [], []),
  (492, .iadd, 1, 0, [], [], []),
  (493, .iaload, 1, 0, [], [], []),
  (494, .invokevirtual 61, 3, 107, [1, 3], [9], []),
  (497, .aload_n 2, 1, 2, [], [], []),
  (498, .aload_n 0, 1, 0, [], [], []),
  (499, .iload 4, 2, 4, [], [], []),
  (501, .iconst 1, 1, 0, [], [], []),
  (502, .iadd, 1, 0, [], [], []),
  (503, .iaload, 1, 0, [], [], []),
  (504, .aload_n 0, 1, 0, [], [], []),
  (505, .iload 4, 2, 4, [], [], []),
  (507, .iconst 2, 1, 0, [], [], []),
  (508, .iadd, 1, 0, [], [], []),
  (509, .iaload, 1, 0, [], [], []),
  (510, .aload_n 0, 1, 0, [], [], []),
  (511, .iload 4, 2, 4, [], [], []),
  (513, .iconst 3, 1, 0, [], [], []),
  (514, .iadd, 1, 0, [], [], []),
  (515, .iaload, 1, 0, [], [], []),
  (516, .invokevirtual 64, 3, 195, [1, 3], [10], []),
  (519, .if_icmp .eq 1427, 3, 1946, [], [], []),
  (522, .iconst 0, 1, 0, [], [], []),
  (523, .ireturn, 1, 0, [], [], []),
  (524, .aload_n 1, 1, 1, [], [], []),
  (525, .aload_n 0, 1, 0, [], [], []),
  (526, .iload 4, 2, 4, [], [], []),
  (528, .iconst 1, 1, 0, [], [], []),
  (529, .iadd, 1, 0, [], [], []),
  (530, .iaload, 1, 0, [], [], []),
  (531, .aload_n 0, 1, 0, [], [], []),
  (532, .iload 4, 2, 4, [], [], []),
  (534, .iconst 2, 1, 0, [], [], []),
  (535, .iadd, 1, 0, [], [], []),
  (536, .iaload, 1, 0, [], [], []),
  (537, .aload_n 0, 1, 0, [], [], []),
  (538, .iload 4, 2, 4, [], [], []),
  (540, .iconst 3, 1, 0, [], [], []),
  (541, .iadd, 1, 0, [], [], []),
  (542, .iaload, 1, 0, [], [], []),
  (543, .invokevirtual 65, 3, 108, [1, 3], [9], []),
  (546, .aload_n 2, 1, 2, [], [], []),
  (547, .aload_n 0, 1, 0, [], [], []),
  (548, .iload 4, 2, 4, [], [], []),
  (550, .iconst 1, 1, 0, [], [], []),
  (551, .iadd, 1, 0, [], [], []),
  (552, .iaload, 1, 0, [], [], []),
  (553, .aload_n 0, 1, 0, [], [], []),
  (554, .iload 4, 2, 4, [], [], []),
  (556, .iconst 2, 1, 0, [], [], []),
  (557, .iadd, 1, 0, [], [], []),
  (558, .iaload, 1, 0, [], [], []),
  (559, .aload_n 0, 1, 0, [], [], []),
  (560, .iload 4, 2, 4, [], [], []),
  (562, .iconst 3, 1, 0, [], [], []),
  (563, .iadd, 1, 0, [], [], []),
  (564, .iaload, 1, 0, [], [], []),
  (565, .invokevirtual 68, 3, 196, [1, 3], [10], []),
  (568, .if_icmp .eq 1378, 3, 1946, [], [], []),
  (571, .iconst 0, 1, 0, [], [], []),
  (572, .ireturn, 1, 0, [], [], []),
  (573, .aload_n 1, 1, 1, [], [], []),
  (574, .aload_n 0, 1, 0, [], [], []),
  (575, .iload 4, 2, 4, [], [], []),
  (577, .iconst 1, 1, 0, [], [], []),
  (578, .iadd, 1, 0, [], [], []),
  (579, .iaload, 1, 0, [], [], []),
  (580, .invokevirtual 69, 3, 109, [1, 1], [9], []),
  (583, .aload_n 2, 1, 2, [], [], []),
  (584, .aload_n 0, 1, 0, [], [], []),
  (585, .iload 4, 2, 4, [], [], []),
  (587, .iconst 1, 1, 0, [], [], []),
  (588, .iadd, 1, 0, [], [], []),
  (589, .iaload, 1, 0, [], [], []),
  (590, .invokevirtual 72, 3, 198, [1, 1], [10], []),
  (593, .if_icmp .eq 1353, 3, 1946, [], [], []),
  (596, .iconst 0, 1, 0, [], [], []),
  (597, .ireturn, 1, 0, [], [], []),
  (598, .aload_n 1, 1, 1, [], [], []),
  (599, .aload_n 0, 1, 0, [], [], []),
  (600, .iload 4, 2, 4, [], [], []),
  (602, .iconst 1, 1, 0, [], [], []),
  (603, .iadd, 1, 0, [], [], []),
  (604, .iaload, 1, 0, [], [], []),
  (605, .aload_n 0, 1, 0, [], [], []),
  (606, .iload 4, 2, 4, [], [], []),
  (608, .iconst 2, 1, 0, [], [], []),
  (609, .iadd, 1, 0, [], [], []),
  (610, .iaload, 1, 0, [], [], []),
  (611, .invokevirtual 73, 3, 110, [1, 2], [9], []),
  (614, .aload_n 2, 1, 2, [], [], []),
  (615, .aload_n 0, 1, 0, [], [], []),
  (616, .iload 4, 2, 4, [], [], []),
  (618, .iconst 1, 1, 0, [], [], []),
  (619, .iadd, 1, 0, [], [], []),
  (620, .iaload, 1, 0, [], [], []),
  (621, .aload_n 0, 1, 0, [], [], []),
  (622, .iload 4, 2, 4, [], [], []),
  (624, .iconst 2, 1, 0, [], [], []),
  (625, .iadd, 1, 0, [], [], []),
  (626, .iaload, 1, 0, [], [], []),
  (627, .invokevirtual 76, 3, 199, [1, 2], [10], []),
  (630, .if_icmp .eq 1316, 3, 1946, [], [], []),
  (633, .iconst 0, 1, 0, [], [], []),
  (634, .ireturn, 1, 0, [], [], []),
  (635, .aload_n 1, 1, 1, [], [], []),
  (636, .aload_n 0, 1, 0, [], [], []),
  (637, .iload 4, 2, 4, [], [], []),
  (639, .iconst 1, 1, 0, [], [], []),
  (640, .iadd, 1, 0, [], [], []),
  (641, .iaload, 1, 0, [], [], []),
  (642, .aload_n 0, 1, 0, [], [], []),
  (643, .iload 4, 2, 4, [], [], []),
  (645, .iconst 2, 1, 0, [], [], []),
  (646, .iadd, 1, 0, [], [], []),
  (647, .iaload, 1, 0, [], [], []),
  (648, .aload_n 3, 1, 3, [], [], []),
  (649, .invokestatic 77, 3, 279, [1, 4], [], []),
  (652, .istore 5, 2, 5, [], [], []),
  (654, .aload_n 2, 1, 2, [], [], []),
  (655, .aload_n 0, 1, 0, [], [], []),
  (656, .iload 4, 2, 4, [], [], []),
  (658, .iconst 1, 1, 0, [], [], []),
  (659, .iadd, 1, 0, [], [], []),
  (660, .iaload, 1, 0, [], [], []),
  (661, .aload_n 0, 1, 0, [], [], []),
  (662, .iload 4, 2, 4, [], [], []),
  (664, .iconst 2, 1, 0, [], [], []),
  (665, .iadd, 1, 0, [], [], []),
  (666, .iaload, 1, 0, [], [], []),
  (667, .invokevirtual 82, 3, 200, [1, 2], [10], []),
  (670, .istore 6, 2, 6, [], [], []),
  (672, .aload_n 2, 1, 2, [], [], []),
  (673, .invokevirtual 83, 3, 149, [1, 0], [10], []),
  (676, .iload 5, 2, 5, [], [], []),
  (678, .if_icmp .eq 5, 3, 683, [], [], []),
  (681, .iconst 0, 1, 0, [], [], []),
  (682, .ireturn, 1, 0, [], [], []),
  (683, .iload 5, 2, 5, [], [], []),
  (685, .ifCond .ne 15, 3, 700, [], [], []),
  (688, .aload_n 3, 1, 3, [], [], []),
  (689, .iconst 0, 1, 0, [], [], []),
  (690, .laload, 1, 0, [], [], []),
  (691, .iload 6, 2, 6, [], [], []),
  (693, .i2l, 1, 0, [], [], []),
  (694, .lcmp, 1, 0, [], [], []),
  (695, .ifCond .eq 5, 3, 700, [], [], []),
  (698, .iconst 0, 1, 0, [], [], []),
  (699, .ireturn, 1, 0, [], [], []),
  (700, .goto 1246, 3, 1946, [], [], []),
  (703, .aload_n 1, 1, 1, [], [], []),
  (704, .aload_n 0, 1, 0, [], [], []),
  (705, .iload 4, 2, 4, [], [], []),
  (707, .iconst 1, 1, 0, [], [], []),
  (708, .iadd, 1, 0, [], [], []),
  (709, .iaload, 1, 0, [], [], []),
  (710, .invokevirtual 86, 3, 112, [1, 1], [9], []),
  (713, .aload_n 2, 1, 2, [], [], []),
  (714, .aload_n 0, 1, 0, [], [], []),
  (715, .iload 4, 2, 4, [], [], []),
  (717, .iconst 1, 1, 0, [], [], []),
  (718, .iadd, 1, 0, [], [], []),
  (719, .iaload, 1, 0, [], [], []),
  (720, .invokevirtual 89, 3, 201, [1, 1], [10], []),
  (723, .if_icmp .eq 1223, 3, 1946, [], [], []),
  (726, .iconst 0, 1, 0, [], [], []),
  (727, .ireturn, 1, 0, [], [], []),
  (728, .aload_n 1, 1, 1, [], [], []),
  (729, .aload_n 0, 1, 0, [], [], []),
  (730, .iload 4, 2, 4, [], [], []),
  (732, .iconst 1, 1, 0, [], [], []),
  (733, .iadd, 1, 0, [], [], []),
  (734, .iaload, 1, 0, [], [], []),
  (735, .aload_n 0, 1, 0, [], [], []),
  (736, .iload 4, 2, 4, [], [], []),
  (738, .iconst 2, 1, 0, [], [], []),
  (739, .iadd, 1, 0, [], [], []),
  (740, .iaload, 1, 0, [], [], []),
  (741, .aload_n 0, 1, 0, [], [], []),
  (742, .iload 4, 2, 4, [], [], []),
  (744, .iconst 3, 1, 0, [], [], []),
  (745, .iadd, 1, 0, [], [], []),
  (746, .iaload, 1, 0, [], [], []),
  (747, .invokevirtual 90, 3, 113, [1, 3], [9], []),
  (750, .aload_n 2, 1, 2, [], [], []),
  (751, .aload_n 0, 1, 0, [], [], []),
  (752, .iload 4, 2, 4, [], [], []),
  (754, .iconst 1, 1, 0, [], [], []),
  (755, .iadd, 1, 0, [], [], []),
  (756, .iaload, 1, 0, [], [], []),
  (757, .aload_n 0, 1, 0, [], [], []),
  (758, .iload 4, 2, 4, [], [], []),
  (760, .iconst 2, 1, 0, [], [], []),
  (761, .iadd, 1, 0, [], [], []),
  (762, .iaload, 1, 0, [], [], []),
  (763, .aload_n 0, 1, 0, [], [], []),
  (764, .iload 4, 2, 4, [], [], []),
  (766, .iconst 3, 1, 0, [], [], []),
  (767, .iadd, 1, 0, [], [], []),
  (768, .iaload, 1, 0, [], [], []),
  (769, .invokevirtual 93, 3, 202, [1, 3], [10], []),
  (772, .if_icmp .eq 1174, 3, 1946, [], [], []),
  (775, .iconst 0, 1, 0, [], [], []),
  (776, .ireturn, 1, 0, [], [], []),
  (777, .aload_n 1, 1, 1, [], [], []),
  (778, .aload_n 0, 1, 0, [], [], []),
  (779, .iload 4, 2, 4, [], [], []),
  (781, .iconst 1, 1, 0, [], [], []),
  (782, .iadd, 1, 0, [], [], []),
  (783, .iaload, 1, 0, [], [], []),
  (784, .aload_n 0, 1, 0, [], [], []),
  (785, .iload 4, 2, 4, [], [], []),
  (787, .iconst 2, 1, 0, [], [], []),
  (788, .iadd, 1, 0, [], [], []),
  (789, .iaload, 1, 0, [], [], []),
  (790, .invokevirtual 94, 3, 114, [1, 2], [9], []),
  (793, .aload_n 2, 1, 2, [], [], []),
  (794, .aload_n 0, 1, 0, [], [], []),
  (795, .iload 4, 2, 4, [], [], []),
  (797, .iconst 1, 1, 0, [], [], []),
  (798, .iadd, 1, 0, [], [], []),
  (799, .iaload, 1, 0, [], [], []),
  (800, .aload_n 0, 1, 0, [], [], []),
  (801, .iload 4, 2, 4, [], [], []),
  (803, .iconst 2, 1, 0, [], [], []),
  (804, .iadd, 1, 0, [], [], []),
  (805, .iaload, 1, 0, [], [], []),
  (806, .invokevirtual 97, 3, 207, [1, 2], [10], []),
  (809, .if_icmp .eq 1137, 3, 1946, [], [], []),
  (812, .iconst 0, 1, 0, [], [], []),
  (813, .ireturn, 1, 0, [], [], []),
  (814, .aload_n 1, 1, 1, [], [], []),
  (815, .aload_n 0, 1, 0, [], [], []),
  (816, .iload 4, 2, 4, [], [], []),
  (818, .iconst 1, 1, 0, [], [], []),
  (819, .iadd, 1, 0, [], [], []),
  (820, .iaload, 1, 0, [], [], []),
  (821, .aload_n 0, 1, 0, [], [], []),
  (822, .iload 4, 2, 4, [], [], []),
  (824, .iconst 2, 1, 0, [], [], []),
  (825, .iadd, 1, 0, [], [], []),
  (826, .iaload, 1, 0, [], [], []),
  (827, .aload_n 0, 1, 0, [], [], []),
  (828, .iload 4, 2, 4, [], [], []),
  (830, .iconst 3, 1, 0, [], [], []),
  (831, .iadd, 1, 0, [], [], []),
  (832, .iaload, 1, 0, [], [], []),
  (833, .aload_n 3, 1, 3, [], [], []),
  (834, .invokestatic 98, 3, 280, [1, 5], [], []),
  (837, .istore 5, 2, 5, [], [], []),
  (839, .aload_n 2, 1, 2, [], [], []),
  (840, .aload_n 0, 1, 0, [], [], []),
  (841, .iload 4, 2, 4, [], [], []),
  (843, .iconst 1, 1, 0, [], [], []),
  (844, .iadd, 1, 0, [], [], []),
  (845, .iaload, 1, 0, [], [], []),
  (846, .aload_n 0, 1, 0, [], [], []),
  (847, .iload 4, 2, 4, [], [], []),
  (849, .iconst 2, 1, 0, [], [], []),
  (850, .iadd, 1, 0, [], [], []),
  (851, .iaload, 1, 0, [], [], []),
  (852, .aload_n 0, 1, 0, [], [], []),
  (853, .iload 4, 2, 4, [], [], []),
  (855, .iconst 3, 1, 0, [], [], []),
  (856, .iadd, 1, 0, [], [], []),
  (857, .iaload, 1, 0, [], [], []),
  (858, .invokevirtual 101, 3, 211, [1, 3], [10], []),
  (861, .istore 6, 2, 6, [], [], []),
  (863, .aload_n 2, 1, 2, [], [], []),
  (864, .invokevirtual 83, 3, 149, [1, 0], [10], []),
  (867, .iload 5, 2, 5, [], [], []),
  (869, .if_icmp .eq 5, 3, 874, [], [], []),
  (872, .iconst 0, 1, 0, [], [], []),
  (873, .ireturn, 1, 0, [], [], []),
  (874, .iload 5, 2, 5, [], [], []),
  (876, .ifCond .ne 15, 3, 891, [], [], []),
  (879, .aload_n 3, 1, 3, [], [], []),
  (880, .iconst 0, 1, 0, [], [], []),
  (881, .laload, 1, 0, [], [], []),
  (882, .iload 6, 2, 6, [], [], []),
  (884, .i2l, 1, 0, [], [], []),
  (885, .lcmp, 1, 0, [], [], []),
  (886, .ifCond .eq 5, 3, 891, [], [], []),
  (889, .iconst 0, 1, 0, [], [], []),
  (890, .ireturn, 1, 0, [], [], []),
  (891, .goto 1055, 3, 1946, [], [], []),
  (894, .aload_n 1, 1, 1, [], [], []),
  (895, .aload_n 0, 1, 0, [], [], []),
  (896, .iload 4, 2, 4, [], [], []),
  (898, .iconst 1, 1, 0, [], [], []),
  (899, .iadd, 1, 0, [], [], []),
  (900, .iaload, 1, 0, [], [], []),
  (901, .aload_n 3, 1, 3, [], [], []),
  (902, .invokestatic 102, 3, 281, [1, 3], [], []),
  (905, .istore 5, 2, 5, [], [], []),
  (907, .aload_n 2, 1, 2, [], [], []),
  (908, .aload_n 0, 1, 0, [], [], []),
  (909, .iload 4, 2, 4, [], [], []),
  (911, .iconst 1, 1, 0, [], [], []),
  (912, .iadd, 1, 0, [], [], []),
  (913, .iaload, 1, 0, [], [], []),
  (914, .invokevirtual 105, 3, 212, [1, 1], [10], []),
  (917, .istore 6, 2, 6, [], [], []),
  (919, .aload_n 2, 1, 2, [], [], []),
  (920, .invokevirtual 83, 3, 149, [1, 0], [10], []),
  (923, .iload 5, 2, 5, [], [], []),
  (925, .if_icmp .eq 5, 3, 930, [], [], []),
  (928, .iconst 0, 1, 0, [], [], []),
  (929, .ireturn, 1, 0, [], [], []),
  (930, .iload 5, 2, 5, [], [], []),
  (932, .ifCond .ne 15, 3, 947, [], [], []),
  (935, .aload_n 3, 1, 3, [], [], []),
  (936, .iconst 0, 1, 0, [], [], []),
  (937, .laload, 1, 0, [], [], []),
  (938, .iload 6, 2, 6, [], [], []),
  (940, .i2l, 1, 0, [], [], []),
  (941, .lcmp, 1, 0, [], [], []),
  (942, .ifCond .eq 5, 3, 947, [], [], []),
  (945, .iconst 0, 1, 0, [], [], []),
  (946, .ireturn, 1, 0, [], [], []),
  (947, .goto 999, 3, 1946, [], [], []),
  (950, .aload_n 1, 1, 1, [], [], []),
  (951, .aload_n 0, 1, 0, [], [], []),
  (952, .iload 4, 2, 4, [], [], []),
  (954, .iconst 1, 1, 0, [], [], []),
  (955, .iadd, 1, 0, [], [], []),
  (956, .iaload, 1, 0, [], [], []),
  (957, .aload_n 0, 1, 0, [], [], []),
  (958, .iload 4, 2, 4, [], [], []),
  (960, .iconst 2, 1, 0, [], [], []),
  (961, .iadd, 1, 0, [], [], []),
  (962, .iaload, 1, 0, [], [], []),
  (963, .aload_n 3, 1, 3, [], [], []),
  (964, .invokestatic 106, 3, 282, [1, 4], [], []),
  (967, .istore 5, 2, 5, [], [], []),
  (969, .aload_n 2, 1, 2, [], [], []),
  (970, .aload_n 0, 1, 0, [], [], []),
  (971, .iload 4, 2, 4, [], [], []),
  (973, .iconst 1, 1, 0, [], [], []),
  (974, .iadd, 1, 0, [], [], []),
  (975, .iaload, 1, 0, [], [], []),
  (976, .aload_n 0, 1, 0, [], [], []),
  (977, .iload 4, 2, 4, [], [], []),
  (979, .iconst 2, 1, 0, [], [], []),
  (980, .iadd, 1, 0, [], [], []),
  (981, .iaload, 1, 0, [], [], []),
  (982, .invokevirtual 108, 3, 213, [1, 2], [10], []),
  (985, .istore 6, 2, 6, [], [], []),
  (987, .aload_n 2, 1, 2, [], [], []),
  (988, .invokevirtual 83, 3, 149, [1, 0], [10], []),
  (991, .iload 5, 2, 5, [], [], []),
  (993, .if_icmp .eq 5, 3, 998, [], [], []),
  (996, .iconst 0, 1, 0, [], [], []),
  (997, .ireturn, 1, 0, [], [], []),
  (998, .iload 5, 2, 5, [], [], []),
  (1000, .ifCond .ne 15, 3, 1015, [], [], []),
  (1003, .aload_n 3, 1, 3, [], [], []),
  (1004, .iconst 0, 1, 0, [], [], []),
  (1005, .laload, 1, 0, [], [], []),
  (1006, .iload 6, 2, 6, [], [], []),
  (1008, .i2l, 1, 0, [], [], []),
  (1009, .lcmp, 1, 0, [], [], []),
  (1010, .ifCond .eq 5, 3, 1015, [], [], []),
  (1013, .iconst 0, 1, 0, [], [], []),
  (1014, .ireturn, 1, 0, [], [], []),
  (1015, .goto 931, 3, 1946, [], [], []),
  (1018, .aload_n 1, 1, 1, [], [], []),
  (1019, .aload_n 0, 1, 0, [], [], []),
  (1020, .iload 4, 2, 4, [], [], []),
  (1022, .iconst 1, 1, 0, [], [], []),
  (1023, .iadd, 1, 0, [], [], []),
  (1024, .iaload, 1, 0, [], [], []),
  (1025, .aload_n 0, 1, 0, [], [], []),
  (1026, .iload 4, 2, 4, [], [], []),
  (1028, .iconst 2, 1, 0, [], [], []),
  (1029, .iadd, 1, 0, [], [], []),
  (1030, .iaload, 1, 0, [], [], []),
  (1031, .invokevirtual 109, 3, 118, [1, 2], [9], []),
  (1034, .aload_n 2, 1, 2, [], [], []),
  (1035, .aload_n 0, 1, 0, [], [], []),
  (1036, .iload 4, 2, 4, [], [], []),
  (1038, .iconst 1, 1, 0, [], [], []),
  (1039, .iadd, 1, 0, [], [], []),
  (1040, .iaload, 1, 0, [], [], []),
  (1041, .aload_n 0, 1, 0, [], [], []),
  (1042, .iload 4, 2, 4, [], [], []),
  (1044, .iconst 2, 1, 0, [], [], []),
  (1045, .iadd, 1, 0, [], [], []),
  (1046, .iaload, 1, 0, [], [], []),
  (1047, .invokevirtual 112, 3, 215, [1, 2], [10], []),
  (1050, .if_icmp .eq 896, 3, 1946, [], [], []),
  (1053, .iconst 0, 1, 0, [], [], []),
  (1054, .ireturn, 1, 0, [], [], []),
  (1055, .aload_n 1, 1, 1, [], [], []),
  (1056, .aload_n 0, 1, 0, [], [], []),
  (1057, .iload 4, 2, 4, [], [], []),
  (1059, .iconst 1, 1, 0, [], [], []),
  (1060, .iadd, 1, 0, [], [], []),
  (1061, .iaload, 1, 0, [], [], []),
  (1062, .aload_n 0, 1, 0, [], [], []),
  (1063, .iload 4, 2, 4, [], [], []),
  (1065, .iconst 2, 1, 0, [], [], []),
  (1066, .iadd, 1, 0, [], [], []),
  (1067, .iaload, 1, 0, [], [], []),
  (1068, .invokevirtual 113, 3, 119, [1, 2], [9], []),
  (1071, .aload_n 2, 1, 2, [], [], []),
  (1072, .aload_n 0, 1, 0, [], [], []),
  (1073, .iload 4, 2, 4, [], [], []),
  (1075, .iconst 1, 1, 0, [], [], []),
  (1076, .iadd, 1, 0, [], [], []),
  (1077, .iaload, 1, 0, [], [], []),
  (1078, .aload_n 0, 1, 0, [], [], []),
  (1079, .iload 4, 2, 4, [], [], []),
  (1081, .iconst 2, 1, 0, [], [], []),
  (1082, .iadd, 1, 0, [], [], []),
  (1083, .iaload, 1, 0, [], [], []),
  (1084, .invokevirtual 116, 3, 217, [1, 2], [10], []),
  (1087, .if_icmp .eq 859, 3, 1946, [], [], []),
  (1090, .iconst 0, 1, 0, [], [], []),
  (1091, .ireturn, 1, 0, [], [], []),
  (1092, .aload_n 1, 1, 1, [], [], []),
  (1093, .aload_n 0, 1, 0, [], [], []),
  (1094, .iload 4, 2, 4, [], [], []),
  (1096, .iconst 1, 1, 0, [], [], []),
  (1097, .iadd, 1, 0, [], [], []),
  (1098, .iaload, 1, 0, [], [], []),
  (1099, .invokevirtual 117, 3, 120, [1, 1], [9], []),
  (1102, .aload_n 2, 1, 2, [], [], []),
  (1103, .aload_n 0, 1, 0, [], [], []),
  (1104, .iload 4, 2, 4, [], [], []),
  (1106, .iconst 1, 1, 0, [], [], []),
  (1107, .iadd, 1, 0, [], [], []),
  (1108, .iaload, 1, 0, [], [], []),
  (1109, .invokevirtual 120, 3, 220, [1, 1], [10], []),
  (1112, .if_icmp .eq 834, 3, 1946, [], [], []),
  (1115, .iconst 0, 1, 0, [], [], []),
  (1116, .ireturn, 1, 0, [], [], []),
  (1117, .aload_n 1, 1, 1, [], [], []),
  (1118, .aload_n 0, 1, 0, [], [], []),
  (1119, .iload 4, 2, 4, [], [], []),
  (1121, .iconst 1, 1, 0, [], [], []),
  (1122, .iadd, 1, 0, [], [], []),
  (1123, .iaload, 1, 0, [], [], []),
  (1124, .invokevirtual 121, 3, 122, [1, 1], [9], []),
  (1127, .aload_n 2, 1, 2, [], [], []),
  (1128, .aload_n 0, 1, 0, [], [], []),
  (1129, .iload 4, 2, 4, [], [], []),
  (1131, .iconst 1, 1, 0, [], [], []),
  (1132, .iadd, 1, 0, [], [], []),
  (1133, .iaload, 1, 0, [], [], []),
  (1134, .invokevirtual 124, 3, 221, [1, 1], [10], []),
  (1137, .if_icmp .eq 809, 3, 1946, [], [], []),
  (1140, .iconst 0, 1, 0, [], [], []),
  (1141, .ireturn, 1, 0, [], [], []),
  (1142, .aload_n 1, 1, 1, [], [], []),
  (1143, .aload_n 0, 1, 0, [], [], []),
  (1144, .iload 4, 2, 4, [], [], []),
  (1146, .iconst 1, 1, 0, [], [], []),
  (1147, .iadd, 1, 0, [], [], []),
  (1148, .iaload, 1, 0, [], [], []),
  (1149, .aload_n 0, 1, 0, [], [], []),
  (1150, .iload 4, 2, 4, [], [], []),
  (1152, .iconst 2, 1, 0, [], [], []),
  (1153, .iadd, 1, 0, [], [], []),
  (1154, .iaload, 1, 0, [], [], []),
  (1155, .aload_n 0, 1, 0, [], [], []),
  (1156, .iload 4, 2, 4, [], [], []),
  (1158, .iconst 3, 1, 0, [], [], []),
  (1159, .iadd, 1, 0, [], [], []),
  (1160, .iaload, 1, 0, [], [], []),
  (1161, .invokevirtual 125, 3, 123, [1, 3], [9], []),
  (1164, .aload_n 2, 1, 2, [], [], []),
  (1165, .aload_n 0, 1, 0, [], [], []),
  (1166, .iload 4, 2, 4, [], [], []),
  (1168, .iconst 1, 1, 0, [], [], []),
  (1169, .iadd, 1, 0, [], [], []),
  (1170, .iaload, 1, 0, [], [], []),
  (1171, .aload_n 0, 1, 0, [], [], []),
  (1172, .iload 4, 2, 4, [], [], []),
  (1174, .iconst 2, 1, 0, [], [], []),
  (1175, .iadd, 1, 0, [], [], []),
  (1176, .iaload, 1, 0, [], [], []),
  (1177, .aload_n 0, 1, 0, [], [], []),
  (1178, .iload 4, 2, 4, [], [], []),
  (1180, .iconst 3, 1, 0, [], [], []),
  (1181, .iadd, 1, 0, [], [], []),
  (1182, .iaload, 1, 0, [], [], []),
  (1183, .invokevirtual 128, 3, 239, [1, 3], [10], []),
  (1186, .if_icmp .eq 760, 3, 1946, [], [], []),
  (1189, .iconst 0, 1, 0, [], [], []),
  (1190, .ireturn, 1, 0, [], [], []),
  (1191, .aload_n 1, 1, 1, [], [], []),
  (1192, .aload_n 0, 1, 0, [], [], []),
  (1193, .iload 4, 2, 4, [], [], []),
  (1195, .iconst 1, 1, 0, [], [], []),
  (1196, .iadd, 1, 0, [], [], []),
  (1197, .iaload, 1, 0, [], [], []),
  (1198, .aload_n 0, 1, 0, [], [], []),
  (1199, .iload 4, 2, 4, [], [], []),
  (1201, .iconst 2, 1, 0, [], [], []),
  (1202, .iadd, 1, 0, [], [], []),
  (1203, .iaload, 1, 0, [], [], []),
  (1204, .aload_n 0, 1, 0, [], [], []),
  (1205, .iload 4, 2, 4, [], [], []),
  (1207, .iconst 3, 1, 0, [], [], []),
  (1208, .iadd, 1, 0, [], [], []),
  (1209, .iaload, 1, 0, [], [], []),
  (1210, .invokevirtual 129, 3, 125, [1, 3], [9], []),
  (1213, .aload_n 2, 1, 2, [], [], []),
  (1214, .aload_n 0, 1, 0, [], [], []),
  (1215, .iload 4, 2, 4, [], [], []),
  (1217, .iconst 1, 1, 0, [], [], []),
  (1218, .iadd, 1, 0, [], [], []),
  (1219, .iaload, 1, 0, [], [], []),
  (1220, .aload_n 0, 1, 0, [], [], []),
  (1221, .iload 4, 2, 4, [], [], []),
  (1223, .iconst 2, 1, 0, [], [], []),
  (1224, .iadd, 1, 0, [], [], []),
  (1225, .iaload, 1, 0, [], [], []),
  (1226, .aload_n 0, 1, 0, [], [], []),
  (1227, .iload 4, 2, 4, [], [], []),
  (1229, .iconst 3, 1, 0, [], [], []),
  (1230, .iadd, 1, 0, [], [], []),
  (1231, .iaload, 1, 0, [], [], []),
  (1232, .invokevirtual 132, 3, 240, [1, 3], [10], []),
  (1235, .if_icmp .eq 711, 3, 1946, [], [], []),
  (1238, .iconst 0, 1, 0, [], [], []),
  (1239, .ireturn, 1, 0, [], [], []),
  (1240, .aload_n 1, 1, 1, [], [], []),
  (1241, .aload_n 0, 1, 0, [], [], []),
  (1242, .iload 4, 2, 4, [], [], []),
  (1244, .iconst 1, 1, 0, [], [], []),
  (1245, .iadd, 1, 0, [], [], []),
  (1246, .iaload, 1, 0, [], [], []),
  (1247, .aload_n 0, 1, 0, [], [], []),
  (1248, .iload 4, 2, 4, [], [], []),
  (1250, .iconst 2, 1, 0, [], [], []),
  (1251, .iadd, 1, 0, [], [], []),
  (1252, .iaload, 1, 0, [], [], []),
  (1253, .aload_n 0, 1, 0, [], [], []),
  (1254, .iload 4, 2, 4, [], [], []),
  (1256, .iconst 3, 1, 0, [], [], []),
  (1257, .iadd, 1, 0, [], [], []),
  (1258, .iaload, 1, 0, [], [], []),
  (1259, .invokevirtual 133, 3, 126, [1, 3], [9], []),
  (1262, .aload_n 2, 1, 2, [], [], []),
  (1263, .aload_n 0, 1, 0, [], [], []),
  (1264, .iload 4, 2, 4, [], [], []),
  (1266, .iconst 1, 1, 0, [], [], []),
  (1267, .iadd, 1, 0, [], [], []),
  (1268, .iaload, 1, 0, [], [], []),
  (1269, .aload_n 0, 1, 0, [], [], []),
  (1270, .iload 4, 2, 4, [], [], []),
  (1272, .iconst 2, 1, 0, [], [], []),
  (1273, .iadd, 1, 0, [], [], []),
  (1274, .iaload, 1, 0, [], [], []),
  (1275, .aload_n 0, 1, 0, [], [], []),
  (1276, .iload 4, 2, 4, [], [], []),
  (1278, .iconst 3, 1, 0, [], [], []),
  (1279, .iadd, 1, 0, [], [], []),
  (1280, .iaload, 1, 0, [], [], []),
  (1281, .invokevirtual 136, 3, 241, [1, 3], [10], []),
  (1284, .if_icmp .eq 662, 3, 1946, [], [], []),
  (1287, .iconst 0, 1, 0, [], [], []),
  (1288, .ireturn, 1, 0, [], [], []),
  (1289, .aload_n 1, 1, 1, [], [], []),
  (1290, .aload_n 0, 1, 0, [], [], []),
  (1291, .iload 4, 2, 4, [], [], []),
  (1293, .iconst 1, 1, 0, [], [], []),
  (1294, .iadd, 1, 0, [], [], []),
  (1295, .iaload, 1, 0, [], [], []),
  (1296, .aload_n 0, 1, 0, [], [], []),
  (1297, .iload 4, 2, 4, [], [], []),
  (1299, .iconst 2, 1, 0, [], [], []),
  (1300, .iadd, 1, 0, [], [], []),
  (1301, .iaload, 1, 0, [], [], []),
  (1302, .aload_n 0, 1, 0, [], [], []),
  (1303, .iload 4, 2, 4, [], [], []),
  (1305, .iconst 3, 1, 0, [], [], []),
  (1306, .iadd, 1, 0, [], [], []),
  (1307, .iaload, 1, 0, [], [], []),
  (1308, .invokevirtual 137, 3, 127, [1, 3], [9], []),
  (1311, .aload_n 2, 1, 2, [], [], []),
  (1312, .aload_n 0, 1, 0, [], [], []),
  (1313, .iload 4, 2, 4, [], [], []),
  (1315, .iconst 1, 1, 0, [], [], []),
  (1316, .iadd, 1, 0, [], [], []),
  (1317, .iaload, 1, 0, [], [], []),
  (1318, .aload_n 0, 1, 0, [], [], []),
  (1319, .iload 4, 2, 4, [], [], []),
  (1321, .iconst 2, 1, 0, [], [], []),
  (1322, .iadd, 1, 0, [], [], []),
  (1323, .iaload, 1, 0, [], [], []),
  (1324, .aload_n 0, 1, 0, [], [], []),
  (1325, .iload 4, 2, 4, [], [], []),
  (1327, .iconst 3, 1, 0, [], [], []),
  (1328, .iadd, 1, 0, [], [], []),
  (1329, .iaload, 1, 0, [], [], []),
  (1330, .invokevirtual 140, 3, 242, [1, 3], [10], []),
  (1333, .if_icmp .eq 613, 3, 1946, [], [], []),
  (1336, .iconst 0, 1, 0, [], [], []),
  (1337, .ireturn, 1, 0, [], [], []),
  (1338, .aload_n 1, 1, 1, [], [], []),
  (1339, .aload_n 0, 1, 0, [], [], []),
  (1340, .iload 4, 2, 4, [], [], []),
  (1342, .iconst 1, 1, 0, [], [], []),
  (1343, .iadd, 1, 0, [], [], []),
  (1344, .iaload, 1, 0, [], [], []),
  (1345, .aload_n 0, 1, 0, [], [], []),
  (1346, .iload 4, 2, 4, [], [], []),
  (1348, .iconst 2, 1, 0, [], [], []),
  (1349, .iadd, 1, 0, [], [], []),
  (1350, .iaload, 1, 0, [], [], []),
  (1351, .invokevirtual 141, 3, 128, [1, 2], [9], []),
  (1354, .aload_n 2, 1, 2, [], [], []),
  (1355, .aload_n 0, 1, 0, [], [], []),
  (1356, .iload 4, 2, 4, [], [], []),
  (1358, .iconst 1, 1, 0, [], [], []),
  (1359, .iadd, 1, 0, [], [], []),
  (1360, .iaload, 1, 0, [], [], []),
  (1361, .aload_n 0, 1, 0, [], [], []),
  (1362, .iload 4, 2, 4, [], [], []),
  (1364, .iconst 2, 1, 0, [], [], []),
  (1365, .iadd, 1, 0, [], [], []),
  (1366, .iaload, 1, 0, [], [], []),
  (1367, .invokevirtual 144, 3, 243, [1, 2], [10], []),
  (1370, .if_icmp .eq 576, 3, 1946, [], [], []),
  (1373, .iconst 0, 1, 0, [], [], []),
  (1374, .ireturn, 1, 0, [], [], []),
  (1375, .aload_n 1, 1, 1, [], [], []),
  (1376, .aload_n 0, 1, 0, [], [], []),
  (1377, .iload 4, 2, 4, [], [], []),
  (1379, .iconst 1, 1, 0, [], [], []),
  (1380, .iadd, 1, 0, [], [], []),
  (1381, .iaload, 1, 0, [], [], []),
  (1382, .aload_n 0, 1, 0, [], [], []),
  (1383, .iload 4, 2, 4, [], [], []),
  (1385, .iconst 2, 1, 0, [], [], []),
  (1386, .iadd, 1, 0, [], [], []),
  (1387, .iaload, 1, 0, [], [], []),
  (1388, .invokevirtual 145, 3, 129, [1, 2], [9], []),
  (1391, .aload_n 2, 1, 2, [], [], []),
  (1392, .aload_n 0, 1, 0, [], [], []),
  (1393, .iload 4, 2, 4, [], [], []),
  (1395, .iconst 1, 1, 0, [], [], []),
  (1396, .iadd, 1, 0, [], [], []),
  (1397, .iaload, 1, 0, [], [], []),
  (1398, .aload_n 0, 1, 0, [], [], []),
  (1399, .iload 4, 2, 4, [], [], []),
  (1401, .iconst 2, 1, 0, [], [], []),
  (1402, .iadd, 1, 0, [], [], []),
  (1403, .iaload, 1, 0, [], [], []),
  (1404, .invokevirtual 148, 3, 245, [1, 2], [10], []),
  (1407, .if_icmp .eq 539, 3, 1946, [], [], []),
  (1410, .iconst 0, 1, 0, [], [], []),
  (1411, .ireturn, 1, 0, [], [], []),
  (1412, .aload_n 1, 1, 1, [], [], []),
  (1413, .aload_n 0, 1, 0, [], [], []),
  (1414, .iload 4, 2, 4, [], [], []),
  (1416, .iconst 1, 1, 0, [], [], []),
  (1417, .iadd, 1, 0, [], [], []),
  (1418, .iaload, 1, 0, [], [], []),
  (1419, .aload_n 0, 1, 0, [], [], []),
  (1420, .iload 4, 2, 4, [], [], []),
  (1422, .iconst 2, 1, 0, [], [], []),
  (1423, .iadd, 1, 0, [], [], []),
  (1424, .iaload, 1, 0, [], [], []),
  (1425, .aload_n 0, 1, 0, [], [], []),
  (1426, .iload 4, 2, 4, [], [], []),
  (1428, .iconst 3, 1, 0, [], [], []),
  (1429, .iadd, 1, 0, [], [], []),
  (1430, .iaload, 1, 0, [], [], []),
  (1431, .invokevirtual 149, 3, 130, [1, 3], [9], []),
  (1434, .aload_n 2, 1, 2, [], [], []),
  (1435, .aload_n 0, 1, 0, [], [], []),
  (1436, .iload 4, 2, 4, [], [], []),
  (1438, .iconst 1, 1, 0, [], [], []),
  (1439, .iadd, 1, 0, [], [], []),
  (1440, .iaload, 1, 0, [], [], []),
  (1441, .aload_n 0, 1, 0, [], [], []),
  (1442, .iload 4, 2, 4, [], [], []),
  (1444, .iconst 2, 1, 0, [], [], []),
  (1445, .iadd, 1, 0, [], [], []),
  (1446, .iaload, 1, 0, [], [], []),
  (1447, .aload_n 0, 1, 0, [], [], []),
  (1448, .iload 4, 2, 4, [], [], []),
  (1450, .iconst 3, 1, 0, [], [], []),
  (1451, .iadd, 1, 0, [], [], []),
  (1452, .iaload, 1, 0, [], [], []),
  (1453, .invokevirtual 152, 3, 246, [1, 3], [10], []),
  (1456, .if_icmp .eq 490, 3, 1946, [], [], []),
  (1459, .iconst 0, 1, 0, [], [], []),
  (1460, .ireturn, 1, 0, [], [], []),
  (1461, .aload_n 1, 1, 1, [], [], []),
  (1462, .invokevirtual 153, 3, 131, [1, 0], [9], []),
  (1465, .aload_n 2, 1, 2, [], [], []),
  (1466, .invokevirtual 156, 3, 223, [1, 0], [10], []),
  (1469, .if_icmp .eq 477, 3, 1946, [], [], []),
  (1472, .iconst 0, 1, 0, [], [], []),
  (1473, .ireturn, 1, 0, [], [], []),
  (1474, .aload_n 1, 1, 1, [], [], []),
  (1475, .aload_n 0, 1, 0, [], [], []),
  (1476, .iload 4, 2, 4, [], [], []),
  (1478, .iconst 1, 1, 0, [], [], []),
  (1479, .iadd, 1, 0, [], [], []),
  (1480, .iaload, 1, 0, [], [], []),
  (1481, .invokevirtual 157, 3, 132, [1, 1], [9], []),
  (1484, .aload_n 2, 1, 2, [], [], []),
  (1485, .aload_n 0, 1, 0, [], [], []),
  (1486, .iload 4, 2, 4, [], [], []),
  (1488, .iconst 1, 1, 0, [], [], []),
  (1489, .iadd, 1, 0, [], [], []),
  (1490, .iaload, 1, 0, [], [], []),
  (1491, .invokevirtual 160, 3, 224, [1, 1], [10], []),
  (1494, .if_icmp .eq 452, 3, 1946, [], [], []),
  (1497, .iconst 0, 1, 0, [], [], []),
  (1498, .ireturn, 1, 0, [], [], []),
  (1499, .aload_n 1, 1, 1, [], [], []),
  (1500, .aload_n 0, 1, 0, [], [], []),
  (1501, .iload 4, 2, 4, [], [], []),
  (1503, .iconst 1, 1, 0, [], [], []),
  (1504, .iadd, 1, 0, [], [], []),
  (1505, .iaload, 1, 0, [], [], []),
  (1506, .aload_n 0, 1, 0, [], [], []),
  (1507, .iload 4, 2, 4, [], [], []),
  (1509, .iconst 2, 1, 0, [], [], []),
  (1510, .iadd, 1, 0, [], [], []),
  (1511, .iaload, 1, 0, [], [], []),
  (1512, .invokevirtual 161, 3, 133, [1, 2], [9], []),
  (1515, .aload_n 2, 1, 2, [], [], []),
  (1516, .aload_n 0, 1, 0, [], [], []),
  (1517, .iload 4, 2, 4, [], [], []),
  (1519, .iconst 1, 1, 0, [], [], []),
  (1520, .iadd, 1, 0, [], [], []),
  (1521, .iaload, 1, 0, [], [], []),
  (1522, .aload_n 0, 1, 0, [], [], []),
  (1523, .iload 4, 2, 4, [], [], []),
  (1525, .iconst 2, 1, 0, [], [], []),
  (1526, .iadd, 1, 0, [], [], []),
  (1527, .iaload, 1, 0, [], [], []),
  (1528, .invokevirtual 164, 3, 225, [1, 2], [10], []),
  (1531, .if_icmp .eq 415, 3, 1946, [], [], []),
  (1534, .iconst 0, 1, 0, [], [], []),
  (1535, .ireturn, 1, 0, [], [], []),
  (1536, .aload_n 1, 1, 1, [], [], []),
  (1537, .aload_n 0, 1, 0, [], [], []),
  (1538, .iload 4, 2, 4, [], [], []),
  (1540, .iconst 1, 1, 0, [], [], []),
  (1541, .iadd, 1, 0, [], [], []),
  (1542, .iaload, 1, 0, [], [], []),
  (1543, .aload_n 0, 1, 0, [], [], []),
  (1544, .iload 4, 2, 4, [], [], []),
  (1546, .iconst 2, 1, 0, [], [], []),
  (1547, .iadd, 1, 0, [], [], []),
  (1548, .iaload, 1, 0, [], [], []),
  (1549, .invokevirtual 165, 3, 135, [1, 2], [9], []),
  (1552, .aload_n 2, 1, 2, [], [], []),
  (1553, .aload_n 0, 1, 0, [], [], []),
  (1554, .iload 4, 2, 4, [], [], []),
  (1556, .iconst 1, 1, 0, [], [], []),
  (1557, .iadd, 1, 0, [], [], []),
  (1558, .iaload, 1, 0, [], [], []),
  (1559, .aload_n 0, 1, 0, [], [], []),
  (1560, .iload 4, 2, 4, [], [], []),
  (1562, .iconst 2, 1, 0, [], [], []),
  (1563, .iadd, 1, 0, [], [], []),
  (1564, .iaload, 1, 0, [], [], []),
  (1565, .invokevirtual 168, 3, 226, [1, 2], [10], []),
  (1568, .if_icmp .eq 378, 3, 1946, [], [], []),
  (1571, .iconst 0, 1, 0, [], [], []),
  (1572, .ireturn, 1, 0, [], [], []),
  (1573, .aload_n 1, 1, 1, [], [], []),
  (1574, .aload_n 0, 1, 0, [], [], []),
  (1575, .iload 4, 2, 4, [], [], []),
  (1577, .iconst 1, 1, 0, [], [], []),
  (1578, .iadd, 1, 0, [], [], []),
  (1579, .iaload, 1, 0, [], [], []),
  (1580, .aload_n 0, 1, 0, [], [], []),
  (1581, .iload 4, 2, 4, [], [], []),
  (1583, .iconst 2, 1, 0, [], [], []),
  (1584, .iadd, 1, 0, [], [], []),
  (1585, .iaload, 1, 0, [], [], []),
  (1586, .aload_n 0, 1, 0, [], [], []),
  (1587, .iload 4, 2, 4, [], [], []),
  (1589, .iconst 3, 1, 0, [], [], []),
  (1590, .iadd, 1, 0, [], [], []),
  (1591, .iaload, 1, 0, [], [], []),
  (1592, .invokevirtual 169, 3, 136, [1, 3], [9], []),
  (1595, .aload_n 2, 1, 2, [], [], []),
  (1596, .aload_n 0, 1, 0, [], [], []),
  (1597, .iload 4, 2, 4, [], [], []),
  (1599, .iconst 1, 1, 0, [], [], []),
  (1600, .iadd, 1, 0, [], [], []),
  (1601, .iaload, 1, 0, [], [], []),
  (1602, .aload_n 0, 1, 0, [], [], []),
  (1603, .iload 4, 2, 4, [], [], []),
  (1605, .iconst 2, 1, 0, [], [], []),
  (1606, .iadd, 1, 0, [], [], []),
  (1607, .iaload, 1, 0, [], [], []),
  (1608, .aload_n 0, 1, 0, [], [], []),
  (1609, .iload 4, 2, 4, [], [], []),
  (1611, .iconst 3, 1, 0, [], [], []),
  (1612, .iadd, 1, 0, [], [], []),
  (1613, .iaload, 1, 0, [], [], []),
  (1614, .invokevirtual 172, 3, 227, [1, 3], [10], []),
  (1617, .if_icmp .eq 329, 3, 1946, [], [], []),
  (1620, .iconst 0, 1, 0, [], [], []),
  (1621, .ireturn, 1, 0, [], [], []),
  (1622, .aload_n 1, 1, 1, [], [], []),
  (1623, .aload_n 0, 1, 0, [], [], []),
  (1624, .iload 4, 2, 4, [], [], []),
  (1626, .iconst 1, 1, 0, [], [], []),
  (1627, .iadd, 1, 0, [], [], []),
  (1628, .iaload, 1, 0, [], [], []),
  (1629, .aload_n 0, 1, 0, [], [], []),
  (1630, .iload 4, 2, 4, [], [], []),
  (1632, .iconst 2, 1, 0, [], [], []),
  (1633, .iadd, 1, 0, [], [], []),
  (1634, .iaload, 1, 0, [], [], []),
  (1635, .invokevirtual 173, 3, 137, [1, 2], [9], []),
  (1638, .aload_n 2, 1, 2, [], [], []),
  (1639, .aload_n 0, 1, 0, [], [], []),
  (1640, .iload 4, 2, 4, [], [], []),
  (1642, .iconst 1, 1, 0, [], [], []),
  (1643, .iadd, 1, 0, [], [], []),
  (1644, .iaload, 1, 0, [], [], []),
  (1645, .aload_n 0, 1, 0, [], [], []),
  (1646, .iload 4, 2, 4, [], [], []),
  (1648, .iconst 2, 1, 0, [], [], []),
  (1649, .iadd, 1, 0, [], [], []),
  (1650, .iaload, 1, 0, [], [], []),
  (1651, .invokevirtual 176, 3, 229, [1, 2], [10], []),
  (1654, .if_icmp .eq 292, 3, 1946, [], [], []),
  (1657, .iconst 0, 1, 0, [], [], []),
  (1658, .ireturn, 1, 0, [], [], []),
  (1659, .aload_n 1, 1, 1, [], [], []),
  (1660, .aload_n 0, 1, 0, [], [], []),
  (1661, .iload 4, 2, 4, [], [], []),
  (1663, .iconst 1, 1, 0, [], [], []),
  (1664, .iadd, 1, 0, [], [], []),
  (1665, .iaload, 1, 0, [], [], []),
  (1666, .aload_n 0, 1, 0, [], [], []),
  (1667, .iload 4, 2, 4, [], [], []),
  (1669, .iconst 2, 1, 0, [], [], []),
  (1670, .iadd, 1, 0, [], [], []),
  (1671, .iaload, 1, 0, [], [], []),
  (1672, .invokevirtual 177, 3, 138, [1, 2], [9], []),
  (1675, .aload_n 2, 1, 2, [], [], []),
  (1676, .aload_n 0, 1, 0, [], [], []),
  (1677, .iload 4, 2, 4, [], [], []),
  (1679, .iconst 1, 1, 0, [], [], []),
  (1680, .iadd, 1, 0, [], [], []),
  (1681, .iaload, 1, 0, [], [], []),
  (1682, .aload_n 0, 1, 0, [], [], []),
  (1683, .iload 4, 2, 4, [], [], []),
  (1685, .iconst 2, 1, 0, [], [], []),
  (1686, .iadd, 1, 0, [], [], []),
  (1687, .iaload, 1, 0, [], [], []),
  (1688, .invokevirtual 180, 3, 247, [1, 2], [10], []),
  (1691, .if_icmp .eq 255, 3, 1946, [], [], []),
  (1694, .iconst 0, 1, 0, [], [], []),
  (1695, .ireturn, 1, 0, [], [], []),
  (1696, .aload_n 1, 1, 1, [], [], []),
  (1697, .aload_n 0, 1, 0, [], [], []),
  (1698, .iload 4, 2, 4, [], [], []),
  (1700, .iconst 1, 1, 0, [], [], []),
  (1701, .iadd, 1, 0, [], [], []),
  (1702, .iaload, 1, 0, [], [], []),
  (1703, .aload_n 0, 1, 0, [], [], []),
  (1704, .iload 4, 2, 4, [], [], []),
  (1706, .iconst 2, 1, 0, [], [], []),
  (1707, .iadd, 1, 0, [], [], []),
  (1708, .iaload, 1, 0, [], [], []),
  (1709, .invokevirtual 181, 3, 139, [1, 2], [9], []),
  (1712, .aload_n 2, 1, 2, [], [], []),
  (1713, .aload_n 0, 1, 0, [], [], []),
  (1714, .iload 4, 2, 4, [], [], []),
  (1716, .iconst 1, 1, 0, [], [], []),
  (1717, .iadd, 1, 0, [], [], []),
  (1718, .iaload, 1, 0, [], [], []),
  (1719, .aload_n 0, 1, 0, [], [], []),
  (1720, .iload 4, 2, 4, [], [], []),
  (1722, .iconst 2, 1, 0, [], [], []),
  (1723, .iadd, 1, 0, [], [], []),
  (1724, .iaload, 1, 0, [], [], []),
  (1725, .invokevirtual 184, 3, 248, [1, 2], [10], []),
  (1728, .if_icmp .eq 218, 3, 1946, [], [], []),
  (1731, .iconst 0, 1, 0, [], [], []),
  (1732, .ireturn, 1, 0, [], [], []),
  (1733, .aload_n 1, 1, 1, [], [], []),
  (1734, .invokevirtual 185, 3, 140, [1, 0], [9], []),
  (1737, .aload_n 2, 1, 2, [], [], []),
  (1738, .invokevirtual 188, 3, 249, [1, 0], [10], []),
  (1741, .if_icmp .eq 205, 3, 1946, [], [], []),
  (1744, .iconst 0, 1, 0, [], [], []),
  (1745, .ireturn, 1, 0, [], [], []),
  (1746, .aload_n 1, 1, 1, [], [], []),
  (1747, .aload_n 0, 1, 0, [], [], []),
  (1748, .iload 4, 2, 4, [], [], []),
  (1750, .iconst 1, 1, 0, [], [], []),
  (1751, .iadd, 1, 0, [], [], []),
  (1752, .iaload, 1, 0, [], [], []),
  (1753, .aload_n 0, 1, 0, [], [], []),
  (1754, .iload 4, 2, 4, [], [], []),
  (1756, .iconst 2, 1, 0, [], [], []),
  (1757, .iadd, 1, 0, [], [], []),
  (1758, .iaload, 1, 0, [], [], []),
  (1759, .invokevirtual 189, 3, 141, [1, 2], [9], []),
  (1762, .aload_n 2, 1, 2, [], [], []),
  (1763, .aload_n 0, 1, 0, [], [], []),
  (1764, .iload 4, 2, 4, [], [], []),
  (1766, .iconst 1, 1, 0, [], [], []),
  (1767, .iadd, 1, 0, [], [], []),
  (1768, .iaload, 1, 0, [], [], []),
  (1769, .aload_n 0, 1, 0, [], [], []),
  (1770, .iload 4, 2, 4, [], [], []),
  (1772, .iconst 2, 1, 0, [], [], []),
  (1773, .iadd, 1, 0, [], [], []),
  (1774, .iaload, 1, 0, [], [], []),
  (1775, .invokevirtual 192, 3, 253, [1, 2], [10], []),
  (1778, .if_icmp .eq 168, 3, 1946, [], [], []),
  (1781, .iconst 0, 1, 0, [], [], []),
  (1782, .ireturn, 1, 0, [], [], []),
  (1783, .aload_n 1, 1, 1, [], [], []),
  (1784, .aload_n 0, 1, 0, [], [], []),
  (1785, .iload 4, 2, 4, [], [], []),
  (1787, .iconst 1, 1, 0, [], [], []),
  (1788, .iadd, 1, 0, [], [], []),
  (1789, .iaload, 1, 0, [], [], []),
  (1790, .invokevirtual 193, 3, 142, [1, 1], [9], []),
  (1793, .aload_n 2, 1, 2, [], [], []),
  (1794, .aload_n 0, 1, 0, [], [], []),
  (1795, .iload 4, 2, 4, [], [], []),
  (1797, .iconst 1, 1, 0, [], [], []),
  (1798, .iadd, 1, 0, [], [], []),
  (1799, .iaload, 1, 0, [], [], []),
  (1800, .invokevirtual 196, 3, 260, [1, 1], [10], []),
  (1803, .if_icmp .eq 143, 3, 1946, [], [], []),
  (1806, .iconst 0, 1, 0, [], [], []),
  (1807, .ireturn, 1, 0, [], [], []),
  (1808, .aload_n 1, 1, 1, [], [], []),
  (1809, .aload_n 0, 1, 0, [], [], []),
  (1810, .iload 4, 2, 4, [], [], []),
  (1812, .iconst 1, 1, 0, [], [], []),
  (1813, .iadd, 1, 0, [], [], []),
  (1814, .iaload, 1, 0, [], [], []),
  (1815, .invokevirtual 197, 3, 143, [1, 1], [9], []),
  (1818, .aload_n 2, 1, 2, [], [], []),
  (1819, .aload_n 0, 1, 0, [], [], []),
  (1820, .iload 4, 2, 4, [], [], []),
  (1822, .iconst 1, 1, 0, [], [], []),
  (1823, .iadd, 1, 0, [], [], []),
  (1824, .iaload, 1, 0, [], [], []),
  (1825, .invokevirtual 200, 3, 262, [1, 1], [10], []),
  (1828, .if_icmp .eq 118, 3, 1946, [], [], []),
  (1831, .iconst 0, 1, 0, [], [], []),
  (1832, .ireturn, 1, 0, [], [], []),
  (1833, .aload_n 1, 1, 1, [], [], []),
  (1834, .invokevirtual 201, 3, 144, [1, 0], [9], []),
  (1837, .aload_n 2, 1, 2, [], [], []),
  (1838, .invokevirtual 204, 3, 273, [1, 0], [10], []),
  (1841, .if_icmp .eq 105, 3, 1946, [], [], []),
  (1844, .iconst 0, 1, 0, [], [], []),
  (1845, .ireturn, 1, 0, [], [], []),
  (1846, .aload_n 1, 1, 1, [], [], []),
  (1847, .aload_n 0, 1, 0, [], [], []),
  (1848, .iload 4, 2, 4, [], [], []),
  (1850, .iconst 1, 1, 0, [], [], []),
  (1851, .iadd, 1, 0, [], [], []),
  (1852, .iaload, 1, 0, [], [], []),
  (1853, .invokevirtual 205, 3, 145, [1, 1], [9], []),
  (1856, .aload_n 2, 1, 2, [], [], []),
  (1857, .aload_n 0, 1, 0, [], [], []),
  (1858, .iload 4, 2, 4, [], [], []),
  (1860, .iconst 1, 1, 0, [], [], []),
  (1861, .iadd, 1, 0, [], [], []),
  (1862, .iaload, 1, 0, [], [], []),
  (1863, .invokevirtual 208, 3, 275, [1, 1], [10], []),
  (1866, .if_icmp .eq 80, 3, 1946, [], [], []),
  (1869, .iconst 0, 1, 0, [], [], []),
  (1870, .ireturn, 1, 0, [], [], []),
  (1871, .aload_n 1, 1, 1, [], [], []),
  (1872, .aload_n 0, 1, 0, [], [], []),
  (1873, .iload 4, 2, 4, [], [], []),
  (1875, .iconst 1, 1, 0, [], [], []),
  (1876, .iadd, 1, 0, [], [], []),
  (1877, .iaload, 1, 0, [], [], []),
  (1878, .invokevirtual 209, 3, 146, [4, 1], [9], []),
  (1881, .aload_n 2, 1, 2, [], [], []),
  (1882, .aload_n 0, 1, 0, [], [], []),
  (1883, .iload 4, 2, 4, [], [], []),
  (1885, .iconst 1, 1, 0, [], [], []),
  (1886, .iadd, 1, 0, [], [], []),
  (1887, .iaload, 1, 0, [], [], []),
  (1888, .invokevirtual 212, 3, 276, [4, 1], [10], []),
  (1891, .if_icmp .eq 55, 3, 1946, [], [], []),
  (1894, .iconst 0, 1, 0, [], [], []),
  (1895, .ireturn, 1, 0, [], [], []),
  (1896, .aload_n 1, 1, 1, [], [], []),
  (1897, .aload_n 0, 1, 0, [], [], []),
  (1898, .iload 4, 2, 4, [], [], []),
  (1900, .iconst 1, 1, 0, [], [], []),
  (1901, .iadd, 1, 0, [], [], []),
  (1902, .iaload, 1, 0, [], [], []),
  (1903, .invokevirtual 213, 3, 147, [4, 1], [9], []),
  (1906, .aload_n 2, 1, 2, [], [], []),
  (1907, .aload_n 0, 1, 0, [], [], []),
  (1908, .iload 4, 2, 4, [], [], []),
  (1910, .iconst 1, 1, 0, [], [], []),
  (1911, .iadd, 1, 0, [], [], []),
  (1912, .iaload, 1, 0, [], [], []),
  (1913, .invokevirtual 216, 3, 277, [4, 1], [10], []),
  (1916, .if_icmp .eq 30, 3, 1946, [], [], []),
  (1919, .iconst 0, 1, 0, [], [], []),
  (1920, .ireturn, 1, 0, [], [], []),
  (1921, .aload_n 1, 1, 1, [], [], []),
  (1922, .aload_n 0, 1, 0, [], [], []),
  (1923, .iload 4, 2, 4, [], [], []),
  (1925, .iconst 1, 1, 0, [], [], []),
  (1926, .iadd, 1, 0, [], [], []),
  (1927, .iaload, 1, 0, [], [], []),
  (1928, .invokevirtual 217, 3, 148, [1, 1], [9], []),
  (1931, .aload_n 2, 1, 2, [], [], []),
  (1932, .aload_n 0, 1, 0, [], [], []),
  (1933, .iload 4, 2, 4, [], [], []),
  (1935, .iconst 1, 1, 0, [], [], []),
  (1936, .iadd, 1, 0, [], [], []),
  (1937, .iaload, 1, 0, [], [], []),
  (1938, .invokevirtual 220, 3, 278, [1, 1], [10], []),
  (1941, .if_icmp .eq 5, 3, 1946, [], [], []),
  (1944, .iconst 0, 1, 0, [], [], []),
  (1945, .ireturn, 1, 0, [], [], []),
  (1946, .iinc 4 6, 3, 4, [], [], []),
  (1949, .goto (-1926), 3, 23, [], [], []),
  (1952, .iconst 1, 1, 0, [], [], []),
  (1953, .ireturn, 1, 0, [], [], [])], [(23, [true, true, true, true, true, false, false]), (240, [true, true, true, true, true, false, false]), (313, [true, true, true, true, true, false, false]), (338, [true, true, true, true, true, false, false]), (351, [true, true, true, true, true, false, false]), (364, [true, true, true, true, true, false, false]), (389, [true, true, true, true, true, false, false]), (426, [true, true, true, true, true, false, false]), (475, [true, true, true, true, true, false, false]), (524, [true, true, true, true, true, false, false]), (573, [true, true, true, true, true, false, false]), (598, [true, true, true, true, true, false, false]), (635, [true, true, true, true, true, false, false]), (703, [true, true, true, true, true, false, false]), (728, [true, true, true, true, true, false, false]), (777, [true, true, true, true, true, false, false]), (814, [true, true, true, true, true, false, false]), (894, [true, true, true, true, true, false, false]), (950, [true, true, true, true, true, false, false]), (1018, [true, true, true, true, true, false, false]), (1055, [true, true, true, true, true, false, false]), (1092, [true, true, true, true, true, false, false]), (1117, [true, true, true, true, true, false, false]), (1142, [true, true, true, true, true, false, false]), (1191, [true, true, true, true, true, false, false]), (1240, [true, true, true, true, true, false, false]), (1289, [true, true, true, true, true, false, false]), (1338, [true, true, true, true, true, false, false]), (1375, [true, true, true, true, true, false, false]), (1412, [true, true, true, true, true, false, false]), (1461, [true, true, true, true, true, false, false]), (1474, [true, true, true, true, true, false, false]), (1499, [true, true, true, true, true, false, false]), (1536, [true, true, true, true, true, false, false]), (1573, [true, true, true, true, true, false, false]), (1622, [true, true, true, true, true, false, false]), (1659, [true, true, true, true, true, false, false]), (1696, [true, true, true, true, true, false, false]), (1733, [true, true, true, true, true, false, false]), (1746, [true, true, true, true, true, false, false]), (1783, [true, true, true, true, true, false, false]), (1808, [true, true, true, true, true, false, false]), (1833, [true, true, true, true, true, false, false]), (1846, [true, true, true, true, true, false, false]), (1871, [true, true, true, true, true, false, false]), (1896, [true, true, true, true, true, false, false]), (1921, [true, true, true, true, true, false, false]), (1946, [true, true, true, true, true, false, false])])
end
section
/-! ===== the small machine and the machine: values, worlds, frames ===== -/
/-- the types of an object's fields, by its kind less 1 -/
def FTL : List (List Nat) := [[2, 2, 2, 2, 0, 0], [0], [2, 0, 0], [2, 0, 0, 0, 0, 0, 0, 0, 1, 2, 0, 0], [2, 2, 0, 0], [2, 0], [2, 2, 2, 2, 0, 0], [2, 2, 2, 0, 0, 3], [2, 0, 2, 2, 2, 2, 2, 2, 2, 2, 2, 2, 0, 0, 2], [0, 2, 0, 0, 0, 0, 0, 0, 0, 0, 0, 0, 1, 0, 2, 2, 2, 2, 2, 2, 2, 2, 2, 2, 0, 3, 0, 2, 0, 0, 2, 2, 0, 3, 2, 0, 0, 0, 0]]
def nF (ci : Int) : Nat := (FTL.getD (ci - 1).toNat []).length
def fT (ci : Int) (k : Nat) : Nat := (FTL.getD (ci - 1).toNat []).getD k 9
def elT (ki : Int) : Nat := if ki = 22 then 1 else if 24 ≤ ki ∧ ki ≤ 27 then 2 else 0
def mvV (adr : Int → Nat) : sV → Value
  | .inl x => .int (Int32.ofInt x)
  | .inr (.inl x) => .long (Int64.ofInt x)
  | .inr (.inr r) => if r = 0 then .null else .ref (adr r)
def in32 (x : Int) : Prop := -2147483648 ≤ x ∧ x < 2147483648
def in64 (x : Int) : Prop := -9223372036854775808 ≤ x ∧ x < 9223372036854775808
def okV (w : sW) : sV → Prop
  | .inl x => in32 x
  | .inr (.inl x) => in64 x
  | .inr (.inr r) => r = 0 ∨ kd w r ≠ 0
def okS (w : sW) (st : List sV) : Prop := ∀ v ∈ st, okV w v
def okL (w : sW) (ls : sL) : Prop := ∀ v, some v ∈ ls → okV w v
def lvs (adr : Int → Nat) : sL → Nat → List (Nat × Value)
  | [], _ => []
  | none :: r, i => lvs adr r (i + 1)
  | some v :: r, i => (i, mvV adr v) :: lvs adr r (i + 1)
/-- the enum's constants: code, sort, base -/
def wWd : List (Int × Int × Int) := [(398374, 0, 0), (18935, 0, 0), (13074306643, 0, 0), (17076, 1, 0), (19636, 1, 10), (3764, 1, 20), (677454, 1, 30), (343342, 1, 40), (20459828, 1, 50), (681477, 1, 60), (5834341, 1, 70), (498, 0, 0), (1476, 0, 0), (14836, 2, 0), (5685913, 2, 0), (186542, 2, 0), (402789, 2, 0), (72590803, 2, 0), (632645, 2, 0), (506035, 2, 0), (611795, 2, 0), (407951539, 2, 0), (492210354, 2, 0)]
def rO (adr : Int → Nat) (g : Int) : Option Nat := if g = 0 then none else some (adr g)
def fldO (adr : Int → Nat) (w : sW) (r : Int) : List Value := (List.range (nF (kd w r))).map (fun k : Nat => mvV adr (mkV (fT (kd w r) k) (gv w r k)))
def cellOf (cA : Nat → ClassId) (adr : Int → Nat) (w : sW) (r : Int) : va_E :=
  if kd w r = 22 then .inl (cA 2, (ln w r).toNat, .inr (.inl (fun j : Nat => Int64.ofInt (gv w r j))))
  else if 24 ≤ kd w r ∧ kd w r ≤ 27 then .inl (cA ((kd w r).toNat - 20), (ln w r).toNat, .inr (.inr (.inr (.inr (fun j : Nat => rO adr (gv w r j))))))
  else if 20 ≤ kd w r then .inl (cA ((kd w r).toNat - 20), (ln w r).toNat, .inl (fun j : Nat => Int32.ofInt (gv w r j)))
  else .inr ((kd w r).toNat - 1, fldO adr w r)
def wsO (cA : Nat → ClassId) (adr : Int → Nat) (w : sW) : va_W := (List.range (nx w - 32).toNat).map (fun j : Nat => (adr (32 + (j : Int)), cellOf cA adr w (32 + (j : Int))))
def tysO (cA : Nat → ClassId) : List (ClassId × FieldType) := [(cA 0, .int), (cA 1, .byte), (cA 2, .long), (cA 3, .boolean), (cA 4, .object "BitRopes$Row"), (cA 5, .object "BitRopes$State"), (cA 6, .object "BitRopes$Sentence"), (cA 7, .object "BitRopes$Word")]
def okC (w : sW) (r : Int) : Prop :=
  ((1 ≤ kd w r ∧ kd w r ≤ 10) ∧ ∀ k : Nat, okV w (mkV (fT (kd w r) k) (gv w r k))) ∨
  ((20 ≤ kd w r ∧ kd w r ≤ 27) ∧ (0 ≤ ln w r ∧ ln w r ≤ 100000) ∧ (∀ j : Int, okV w (mkV (elT (kd w r)) (gv w r j))) ∧ (kd w r = 21 → ∀ j : Int, -128 ≤ gv w r j ∧ gv w r j < 128))
def WFw (L : Nat) (xs : Nat → Int32) (w : sW) : Prop :=
  32 ≤ nx w ∧ (∀ k : Nat, k < 23 → w.1 ((k : Int) + 1) = (30, 0) ∧ gv w ((k : Int) + 1) 0 = (wWd.getD k (0, 0, 0)).1 ∧ gv w ((k : Int) + 1) 1 = (wWd.getD k (0, 0, 0)).2.1 ∧ gv w ((k : Int) + 1) 2 = (wWd.getD k (0, 0, 0)).2.2) ∧
  (w.1 24 = (27, 23) ∧ ∀ j : Nat, j < 23 → gv w 24 j = (j : Int) + 1) ∧
  (w.1 25 = (20, (L : Int)) ∧ ∀ j : Nat, j < L → gv w 25 j = (xs j).toInt) ∧
  (∀ r : Int, (r ≤ 0 ∨ (26 ≤ r ∧ r < 32) ∨ nx w ≤ r) → kd w r = 0) ∧ ∀ r : Int, 32 ≤ r → r < nx w → okC w r
def Ext (w w' : sW) : Prop := (∀ r, r < nx w → w'.1 r = w.1 r) ∧ nx w ≤ nx w' ∧ uc w ≤ uc w' ∧ us w ≤ us w'
theorem Ext.rf {w : sW} : Ext w w := ⟨fun _ _ => rfl, Int.le_refl _, Nat.le_refl _, Nat.le_refl _⟩
theorem Ext.tr {a b c : sW} (h : Ext a b) (h' : Ext b c) : Ext a c := ⟨fun r hr => (h'.1 r (Int.lt_of_lt_of_le hr h.2.1)).trans (h.1 r hr), Int.le_trans h.2.1 h'.2.1, Nat.le_trans h.2.2.1 h'.2.2.1, Nat.le_trans h.2.2.2 h'.2.2.2⟩
theorem Ext.sv {w : sW} {r k v : Int} : Ext w (sv w r k v) := ⟨fun _ _ => rfl, Int.le_refl _, Nat.le_refl _, Nat.le_refl _⟩
theorem Ext.cp {w : sW} {a b c d e : Int} : Ext w (cp w a b c d e) := ⟨fun _ _ => rfl, Int.le_refl _, Nat.le_refl _, Nat.le_refl _⟩
theorem Ext.bp {w : sW} {a b : Nat} : Ext w (bp w a b) := ⟨fun _ _ => rfl, Int.le_refl _, Nat.le_add_right _ _, Nat.le_add_right _ _⟩
theorem Ext.al {w : sW} {a b : Int} {n : Nat} : Ext w (al w a b n) := by
  refine ⟨fun r hr => ?_, ?_, Nat.le_add_right _ _, Nat.le_add_right _ _⟩
  · show (if r = nx w then (a, b) else w.1 r) = w.1 r
    rw [if_neg (by omega)]
  · show nx w ≤ nx w + 1
    omega
theorem kd_sv (w : sW) (r k v a : Int) : kd (sv w r k v) a = kd w a := rfl
theorem ln_sv (w : sW) (r k v a : Int) : ln (sv w r k v) a = ln w a := rfl
theorem nx_sv (w : sW) (r k v : Int) : nx (sv w r k v) = nx w := rfl
theorem gv_sv (w : sW) (r k v a j : Int) : gv (sv w r k v) a j = if a = r ∧ j = k then v else gv w a j := rfl
theorem kd_cp (w : sW) (s sp d dp n a : Int) : kd (cp w s sp d dp n) a = kd w a := rfl
theorem ln_cp (w : sW) (s sp d dp n a : Int) : ln (cp w s sp d dp n) a = ln w a := rfl
theorem nx_cp (w : sW) (s sp d dp n : Int) : nx (cp w s sp d dp n) = nx w := rfl
theorem gv_cp (w : sW) (s sp d dp n a j : Int) : gv (cp w s sp d dp n) a j = if a = d ∧ dp ≤ j ∧ j < dp + n then gv w s (sp + (j - dp)) else gv w a j := rfl
theorem nx_al (w : sW) (a b : Int) (n : Nat) : nx (al w a b n) = nx w + 1 := rfl
theorem kd_al (w : sW) (a b : Int) (n : Nat) (r : Int) : kd (al w a b n) r = if r = nx w then a else kd w r := by
  show (if r = nx w then (a, b) else w.1 r).1 = _
  split <;> rfl
theorem ln_al (w : sW) (a b : Int) (n : Nat) (r : Int) : ln (al w a b n) r = if r = nx w then b else ln w r := by
  show (if r = nx w then (a, b) else w.1 r).2 = _
  split <;> rfl
theorem gv_al (w : sW) (a b : Int) (n : Nat) (r j : Int) : gv (al w a b n) r j = if r = nx w then 0 else gv w r j := rfl
theorem wsO_get {cA : Nat → ClassId} {adr : Int → Nat} {w : sW} {r : Int} (h1 : 32 ≤ r) (h2 : r < nx w) : (wsO cA adr w)[(r - 32).toNat]? = some (adr r, cellOf cA adr w r) := by
  unfold wsO
  rw [List.getElem?_map, List.getElem?_range (by omega)]
  have : 32 + (((r - 32).toNat : Nat) : Int) = r := by omega
  show some (adr _, cellOf cA adr w _) = _
  rw [this]
theorem wsO_set {cA : Nat → ClassId} {adr : Int → Nat} {w w' : sW} {r : Int} (h1 : 32 ≤ r) (h2 : r < nx w) (hn : nx w' = nx w) (ho : ∀ a, a ≠ r → cellOf cA adr w' a = cellOf cA adr w a) : wsO cA adr w' = (wsO cA adr w).set (r - 32).toNat (adr r, cellOf cA adr w' r) := by
  unfold wsO
  rw [hn]
  apply List.ext_getElem?
  intro i
  rw [List.getElem?_set]
  by_cases hi : i < (nx w - 32).toNat
  · by_cases e : (r - 32).toNat = i
    · subst e
      have : 32 + (((r - 32).toNat : Nat) : Int) = r := by omega
      rw [List.getElem?_map, List.getElem?_range hi, if_pos rfl, if_pos (by simpa using hi)]
      show some (adr _, cellOf cA adr w' _) = _
      rw [this]
    · rw [if_neg e]
      have hne : 32 + (i : Int) ≠ r := by omega
      simp [hi, ho _ hne]
  · rw [List.getElem?_eq_none (by simp; omega)]
    have : ¬ (r - 32).toNat = i := by omega
    rw [if_neg this, List.getElem?_eq_none (by simp; omega)]
theorem cellOf_sv {cA : Nat → ClassId} {adr : Int → Nat} {w : sW} {r k v : Int} : ∀ a, a ≠ r → cellOf cA adr (sv w r k v) a = cellOf cA adr w a := by
  intro a h
  simp only [cellOf, fldO, kd_sv, ln_sv, gv_sv, h, false_and, if_false]
theorem cellOf_cp {cA : Nat → ClassId} {adr : Int → Nat} {w : sW} {s sp d dp n : Int} : ∀ a, a ≠ d → cellOf cA adr (cp w s sp d dp n) a = cellOf cA adr w a := by
  intro a h
  simp only [cellOf, fldO, kd_cp, ln_cp, gv_cp, h, false_and, if_false]
theorem okV.ext {w w' : sW} {v : sV} (hx : Ext w w') (hz : ∀ r, kd w r ≠ 0 → r < nx w) (h : okV w v) : okV w' v := by
  rcases v with x | x | r
  · exact h
  · exact h
  · rcases h with h | h
    · exact Or.inl h
    · right
      show (w'.1 r).1 ≠ 0
      rw [hx.1 r (hz r h)]
      exact h
theorem WFw.lt {L : Nat} {xs : Nat → Int32} {w : sW} (h : WFw L xs w) : ∀ r, kd w r ≠ 0 → r < nx w := by
  intro r hr
  rcases Int.lt_or_le r (nx w) with q | q
  · exact q
  · exact absurd (h.2.2.2.2.1 r (Or.inr (Or.inr q))) hr
theorem WFw.pos {L : Nat} {xs : Nat → Int32} {w : sW} (h : WFw L xs w) : ∀ r, kd w r ≠ 0 → 0 < r ∧ (r ≤ 25 ∨ 32 ≤ r) := by
  intro r hr
  refine ⟨?_, ?_⟩
  · rcases Int.lt_or_le 0 r with q | q
    · exact q
    · exact absurd (h.2.2.2.2.1 r (Or.inl q)) hr
  · rcases Int.lt_or_le r 26 with q | q
    · exact Or.inl (by omega)
    · rcases Int.lt_or_le r 32 with q2 | q2
      · exact absurd (h.2.2.2.2.1 r (Or.inr (Or.inl ⟨q, q2⟩))) hr
      · exact Or.inr q2
end
section
/-! ===== numbers ===== -/
theorem w32_bmod (x : Int) : w32 x = Int.bmod x (2 ^ 32) := by
  unfold w32 Int.bmod
  simp only [Nat.reducePow]
  split <;> omega
theorem w64_bmod (x : Int) : w64 x = Int.bmod x (2 ^ 64) := by
  unfold w64 Int.bmod
  simp only [Nat.reducePow]
  split <;> omega
theorem ofI_w32 (x : Int) : Int32.ofInt (w32 x) = Int32.ofInt x := by
  apply Int32.toInt.inj
  rw [Int32.toInt_ofInt, Int32.toInt_ofInt, w32_bmod]
  exact Int.bmod_bmod
theorem ofL_w64 (x : Int) : Int64.ofInt (w64 x) = Int64.ofInt x := by
  apply Int64.toInt.inj
  rw [Int64.toInt_ofInt, Int64.toInt_ofInt, w64_bmod]
  exact Int.bmod_bmod
theorem in32_w (x : Int) : in32 (w32 x) := by
  unfold in32 w32
  omega
theorem in64_w (x : Int) : in64 (w64 x) := by
  unfold in64 w64
  omega
theorem w32_id {x : Int} (h : in32 x) : w32 x = x := by
  unfold in32 at h
  unfold w32
  omega
theorem w64_id {x : Int} (h : in64 x) : w64 x = x := by
  unfold in64 at h
  unfold w64
  omega
theorem toI_of {x : Int} (h : in32 x) : (Int32.ofInt x).toInt = x := by
  rw [Int32.toInt_ofInt, ← w32_bmod, w32_id h]
theorem toL_of {x : Int} (h : in64 x) : (Int64.ofInt x).toInt = x := by
  rw [Int64.toInt_ofInt, ← w64_bmod, w64_id h]
theorem in32_toInt (v : Int32) : in32 v.toInt := ⟨Int32.le_toInt v, Int32.toInt_lt v⟩
theorem in64_toInt (v : Int64) : in64 v.toInt := ⟨Int64.le_toInt v, Int64.toInt_lt v⟩
theorem ofI_toInt (v : Int32) : Int32.ofInt v.toInt = v := Int32.ofInt_toInt v
theorem ofL_toInt (v : Int64) : Int64.ofInt v.toInt = v := Int64.ofInt_toInt v
theorem ofI_add (x y : Int) : Int32.ofInt x + Int32.ofInt y = Int32.ofInt (w32 (x + y)) := by rw [ofI_w32, Int32.ofInt_add]
theorem ofI_sub (x y : Int) : Int32.ofInt x - Int32.ofInt y = Int32.ofInt (w32 (x - y)) := by rw [ofI_w32, Int32.ofInt_sub]
theorem ofI_mul (x y : Int) : Int32.ofInt x * Int32.ofInt y = Int32.ofInt (w32 (x * y)) := by rw [ofI_w32, Int32.ofInt_mul]
theorem ofL_add (x y : Int) : Int64.ofInt x + Int64.ofInt y = Int64.ofInt (w64 (x + y)) := by rw [ofL_w64, Int64.ofInt_add]
theorem ofL_sub (x y : Int) : Int64.ofInt x - Int64.ofInt y = Int64.ofInt (w64 (x - y)) := by rw [ofL_w64, Int64.ofInt_sub]
theorem ofL_mul (x y : Int) : Int64.ofInt x * Int64.ofInt y = Int64.ofInt (w64 (x * y)) := by rw [ofL_w64, Int64.ofInt_mul]
theorem ofI_div {x y : Int} (hx : in32 x) (hy : in32 y) : Int32.ofInt x / Int32.ofInt y = Int32.ofInt (w32 (Int.tdiv x y)) := by
  apply Int32.toInt.inj
  rw [ofI_w32, Int32.toInt_div, toI_of hx, toI_of hy, Int32.toInt_ofInt]
theorem ofL_div {x y : Int} (hx : in64 x) (hy : in64 y) : Int64.ofInt x / Int64.ofInt y = Int64.ofInt (w64 (Int.tdiv x y)) := by
  apply Int64.toInt.inj
  rw [ofL_w64, Int64.toInt_div, toL_of hx, toL_of hy, Int64.toInt_ofInt]
theorem in_tmod32 {x y : Int} (hx : in32 x) (hy : in32 y) (h0 : y ≠ 0) : in32 (Int.tmod x y) := by
  unfold in32 at *
  have h1 := Int.tmod_lt_of_pos
  rcases Int.lt_or_gt_of_ne h0 with h | h
  · have a := Int.lt_tmod_of_pos x (b := -y) (by omega)
    have b := Int.tmod_lt_of_pos x (b := -y) (by omega)
    rw [Int.tmod_neg] at a b
    omega
  · have a := Int.lt_tmod_of_pos x (b := y) (by omega)
    have b := Int.tmod_lt_of_pos x (b := y) (by omega)
    omega
theorem in_tmod64 {x y : Int} (hx : in64 x) (hy : in64 y) (h0 : y ≠ 0) : in64 (Int.tmod x y) := by
  unfold in64 at *
  rcases Int.lt_or_gt_of_ne h0 with h | h
  · have a := Int.lt_tmod_of_pos x (b := -y) (by omega)
    have b := Int.tmod_lt_of_pos x (b := -y) (by omega)
    rw [Int.tmod_neg] at a b
    omega
  · have a := Int.lt_tmod_of_pos x (b := y) (by omega)
    have b := Int.tmod_lt_of_pos x (b := y) (by omega)
    omega
theorem ofI_rem {x y : Int} (hx : in32 x) (hy : in32 y) : Int32.ofInt x - Int32.ofInt x / Int32.ofInt y * Int32.ofInt y = Int32.ofInt (Int.tmod x y) := by
  rw [ofI_div hx hy, ofI_w32, ← Int32.ofInt_mul, ← Int32.ofInt_sub]
  congr 1
  have := Int.tdiv_mul_add_tmod x y
  omega
theorem ofL_rem {x y : Int} (hx : in64 x) (hy : in64 y) : Int64.ofInt x - Int64.ofInt x / Int64.ofInt y * Int64.ofInt y = Int64.ofInt (Int.tmod x y) := by
  rw [ofL_div hx hy, ofL_w64, ← Int64.ofInt_mul, ← Int64.ofInt_sub]
  congr 1
  have := Int.tdiv_mul_add_tmod x y
  omega
theorem ofI_lt {x y : Int} (hx : in32 x) (hy : in32 y) : Int32.ofInt x < Int32.ofInt y ↔ x < y := by rw [Int32.lt_iff_toInt_lt, toI_of hx, toI_of hy]
theorem ofI_le {x y : Int} (hx : in32 x) (hy : in32 y) : Int32.ofInt x ≤ Int32.ofInt y ↔ x ≤ y := by rw [Int32.le_iff_toInt_le, toI_of hx, toI_of hy]
theorem ofI_eq {x y : Int} (hx : in32 x) (hy : in32 y) : Int32.ofInt x = Int32.ofInt y ↔ x = y := by
  constructor
  · intro h
    have := congrArg Int32.toInt h
    rwa [toI_of hx, toI_of hy] at this
  · intro h; rw [h]
theorem in32_0 : in32 0 := by unfold in32; omega
theorem ofI_0 : Int32.ofInt 0 = 0 := rfl
theorem ofI_lt0 {x : Int} (hx : in32 x) : Int32.ofInt x < 0 ↔ x < 0 := by rw [← ofI_0, ofI_lt hx in32_0]
theorem ofI_le0 {x : Int} (hx : in32 x) : Int32.ofInt x ≤ 0 ↔ x ≤ 0 := by rw [← ofI_0, ofI_le hx in32_0]
theorem ofI_gt0 {x : Int} (hx : in32 x) : 0 < Int32.ofInt x ↔ 0 < x := by rw [← ofI_0, ofI_lt in32_0 hx]
theorem ofI_ge0 {x : Int} (hx : in32 x) : 0 ≤ Int32.ofInt x ↔ 0 ≤ x := by rw [← ofI_0, ofI_le in32_0 hx]
theorem ofI_eq0 {x : Int} (hx : in32 x) : Int32.ofInt x = 0 ↔ x = 0 := by rw [← ofI_0, ofI_eq hx in32_0]
theorem ofL_eq0 {x : Int} (hx : in64 x) : Int64.ofInt x = 0 ↔ x = 0 := by
  constructor
  · intro h
    have := congrArg Int64.toInt h
    rwa [toL_of hx] at this
  · intro h; rw [h]; rfl
theorem i2l_of {x : Int} (hx : in32 x) : (Int32.ofInt x).toInt64 = Int64.ofInt x := by
  apply Int64.toInt.inj
  rw [Int32.toInt_toInt64, toI_of hx, toL_of (by unfold in32 at hx; unfold in64; omega)]
theorem l2i_of {x : Int} (hx : in64 x) : (Int64.ofInt x).toInt32 = Int32.ofInt (w32 x) := by
  apply Int32.toInt.inj
  rw [Int64.toInt_toInt32, toL_of hx, toI_of (in32_w x), w32_bmod]
theorem i2b_of {x : Int} (h1 : -128 ≤ x) (h2 : x < 128) : (Int32.ofInt x).toInt8.toInt32 = Int32.ofInt x := by
  apply Int32.toInt.inj
  rw [Int8.toInt_toInt32, Int32.toInt_toInt8, toI_of (by unfold in32; omega)]
  unfold Int.bmod
  simp only [Nat.reducePow]
  split <;> omega
theorem bip_of {x : Int} (h1 : -128 ≤ x) (h2 : x < 128) : (Int8.ofInt x).toInt32 = Int32.ofInt x := by
  apply Int32.toInt.inj
  rw [Int8.toInt_toInt32, Int8.toInt_ofInt, toI_of (by unfold in32; omega)]
  unfold Int.bmod
  simp only [Int8.size, Nat.reducePow]
  split <;> omega
theorem sip_of {x : Int} (h1 : -32768 ≤ x) (h2 : x < 32768) : (Int16.ofInt x).toInt32 = Int32.ofInt x := by
  apply Int32.toInt.inj
  rw [Int16.toInt_toInt32, Int16.toInt_ofInt, toI_of (by unfold in32; omega)]
  unfold Int.bmod
  simp only [Int16.size, Nat.reducePow]
  split <;> omega
theorem clamp_of' {x : Int} (hx : in32 x) (h0 : 0 ≤ x) : (Int32.ofInt x).toNatClampNeg = x.toNat := by
  rw [← Int32.toNat_toInt, toI_of hx]
theorem vp_in_of' {x : Int} {n : Nat} (hx : in32 x) (h0 : 0 ≤ x) (h1 : x < n) : vp_in (Int32.ofInt x) n := vp_in_iff.mpr (by rw [toI_of hx]; exact ⟨h0, h1⟩)
theorem cmp_of {x y : Int} (hx : in64 x) (hy : in64 y) : lg_cmp (Int64.ofInt x) (Int64.ofInt y) = Int32.ofInt (cmpL x y) := by
  have e1 : Int64.ofInt x < Int64.ofInt y ↔ x < y := by rw [Int64.lt_iff_toInt_lt, toL_of hx, toL_of hy]
  have e2 : Int64.ofInt x = Int64.ofInt y ↔ x = y := by
    constructor
    · intro h
      have := congrArg Int64.toInt h
      rwa [toL_of hx, toL_of hy] at this
    · intro h; rw [h]
  have e3 : Int64.ofInt y < Int64.ofInt x ↔ y < x := by rw [Int64.lt_iff_toInt_lt, toL_of hx, toL_of hy]
  unfold lg_cmp cmpL
  simp only [gt_iff_lt, e3, e2]
  rcases Int.lt_trichotomy x y with h | h | h
  · rw [if_neg (by omega), if_neg (by omega), if_pos h]; rfl
  · rw [if_neg (by omega), if_pos h, if_neg (by omega), if_pos h]; rfl
  · rw [if_pos h, if_neg (by omega), if_neg (by omega)]; rfl
end
section
/-! ===== what a pop, a load, a store says ===== -/
theorem pI_s {α : Type} {st : List sV} {f : Int → List sV → Option α} {o : α} (h : pI st f = some o) : ∃ x r, st = .inl x :: r ∧ f x r = some o := by
  unfold pI at h
  split at h
  · exact ⟨_, _, rfl, h⟩
  · cases h
theorem pL_s {α : Type} {st : List sV} {f : Int → List sV → Option α} {o : α} (h : pL st f = some o) : ∃ x r, st = .inr (.inl x) :: r ∧ f x r = some o := by
  unfold pL at h
  split at h
  · exact ⟨_, _, rfl, h⟩
  · cases h
theorem pR_s {α : Type} {st : List sV} {f : Int → List sV → Option α} {o : α} (h : pR st f = some o) : ∃ x r, st = .inr (.inr x) :: r ∧ f x r = some o := by
  unfold pR at h
  split at h
  · exact ⟨_, _, rfl, h⟩
  · cases h
theorem p1_s {α : Type} {st : List sV} {f : sV → List sV → Option α} {o : α} (h : p1 st f = some o) : ∃ v r, st = v :: r ∧ catS v = 1 ∧ f v r = some o := by
  unfold p1 at h
  split at h
  · rename_i v r
    cases hc : Nat.beq (catS v) 1 with
    | true => rw [hc] at h; exact ⟨_, _, rfl, Nat.eq_of_beq_eq_true hc, h⟩
    | false => rw [hc] at h; cases h
  · cases h
theorem p0_s {α : Type} {st : List sV} {f : Option α} {o : α} (h : p0 st f = some o) : st = [] ∧ f = some o := by
  unfold p0 at h
  split at h
  · exact ⟨rfl, h⟩
  · cases h
theorem popN_s : ∀ (n : Nat) (acc st as r : List sV), popN n acc st = some (as, r) → ∃ p, as = p.reverse ++ acc ∧ st = p ++ r ∧ p.length = n
  | 0, acc, st, as, r, h => by
    simp only [popN, Option.some.injEq, Prod.mk.injEq] at h
    exact ⟨[], by simp [h.1], by simp [h.2], rfl⟩
  | n + 1, acc, [], as, r, h => by simp [popN] at h
  | n + 1, acc, v :: st, as, r, h => by
    simp only [popN] at h
    obtain ⟨p, h1, h2, h3⟩ := popN_s n (v :: acc) st as r h
    exact ⟨v :: p, by simp [h1], by simp [h2], by simp [h3]⟩
theorem pN_s {α : Type} {n : Nat} {st : List sV} {f : List sV → List sV → Option α} {o : α} (h : pN n st f = some o) : ∃ as r, st = as.reverse ++ r ∧ as.length = n ∧ f as r = some o := by
  unfold pN at h
  split at h
  · rename_i as r e
    obtain ⟨p, h1, h2, h3⟩ := popN_s _ _ _ _ _ e
    refine ⟨as, r, ?_, ?_, h⟩
    · rw [h1, h2]; simp
    · rw [h1]; simp [h3]
  · cases h
theorem ldI_s {α : Type} {ls : sL} {i : Nat} {k : Int → Option α} {o : α} (h : ldI ls i k = some o) : ∃ x, ls[i]? = some (some (.inl x)) ∧ k x = some o := by
  unfold ldI at h
  split at h
  · rename_i x e
    exact ⟨x, e, h⟩
  · cases h
theorem ldL_s {α : Type} {ls : sL} {i : Nat} {k : Int → Option α} {o : α} (h : ldL ls i k = some o) : ∃ x, ls[i]? = some (some (.inr (.inl x))) ∧ k x = some o := by
  unfold ldL at h
  split at h
  · rename_i x e
    exact ⟨x, e, h⟩
  · cases h
theorem ldR_s {α : Type} {ls : sL} {i : Nat} {k : Int → Option α} {o : α} (h : ldR ls i k = some o) : ∃ x, ls[i]? = some (some (.inr (.inr x))) ∧ k x = some o := by
  unfold ldR at h
  split at h
  · rename_i x e
    exact ⟨x, e, h⟩
  · cases h
theorem st1_s {α : Type} {ls : sL} {i : Nat} {v : sV} {k : sL → Option α} {o : α} (h : st1 ls i v k = some o) : i < ls.length ∧ isLp ls i = false ∧ k (ls.set i (some v)) = some o := by
  unfold st1 at h
  cases hc : (Nat.blt i ls.length && !isLp ls i) with
  | true =>
    rw [hc] at h
    simp only [Bool.and_eq_true, Bool.not_eq_true'] at hc
    exact ⟨by simpa [Nat.blt_eq] using hc.1, hc.2, h⟩
  | false => rw [hc] at h; cases h
theorem st2_s {α : Type} {ls : sL} {i : Nat} {v : sV} {k : sL → Option α} {o : α} (h : st2 ls i v k = some o) : i + 1 < ls.length ∧ isLp ls i = false ∧ k ((ls.set i (some v)).set (i + 1) none) = some o := by
  unfold st2 at h
  cases hc : (Nat.blt (i + 1) ls.length && !isLp ls i) with
  | true =>
    rw [hc] at h
    simp only [Bool.and_eq_true, Bool.not_eq_true'] at hc
    exact ⟨by simpa [Nat.blt_eq] using hc.1, hc.2, h⟩
  | false => rw [hc] at h; cases h
theorem a1_s {α : Type} {ax : List Int} {f : Int → Option α} {o : α} (h : aC ax none f no2 = some o) : ∃ x, ax = [x] ∧ f x = some o := by
  unfold aC at h
  split at h
  · cases h
  · exact ⟨_, rfl, h⟩
  · cases h
  · cases h
theorem a2_s {α : Type} {ax : List Int} {f : Int → Int → Option α} {o : α} (h : aC ax none no1 f = some o) : ∃ x y, ax = [x, y] ∧ f x y = some o := by
  unfold aC at h
  split at h
  · cases h
  · cases h
  · exact ⟨_, _, rfl, h⟩
  · cases h
theorem n2_s {α : Type} {nn : List Nat} {f : Nat → Nat → Option α} {o : α} (h : nC nn none nn1 f = some o) : ∃ x y, nn = [x, y] ∧ f x y = some o := by
  unfold nC at h
  split at h
  · cases h
  · cases h
  · exact ⟨_, _, rfl, h⟩
  · cases h
theorem if_s {α : Type} {c : Prop} {d : Decidable c} {a : Option α} {o : α} (h : (@ite _ c d a none) = some o) : c ∧ a = some o := by
  by_cases hc : c
  · rw [if_pos hc] at h; exact ⟨hc, h⟩
  · rw [if_neg hc] at h; cases h
/-! ===== frames ===== -/
theorem lvs_mem {adr : Int → Nat} : ∀ (ls : sL) (n i : Nat) (v : sV), ls[i]? = some (some v) → (n + i, mvV adr v) ∈ lvs adr ls n
  | [], n, i, v, h => by simp at h
  | none :: r, n, 0, v, h => by simp at h
  | some u :: r, n, 0, v, h => by
    simp only [List.getElem?_cons_zero, Option.some.injEq] at h
    subst h
    simp [lvs]
  | none :: r, n, i + 1, v, h => by
    have := lvs_mem (adr := adr) r (n + 1) i v (by simpa using h)
    rw [show n + (i + 1) = n + 1 + i by omega]
    exact this
  | some u :: r, n, i + 1, v, h => by
    have := lvs_mem (adr := adr) r (n + 1) i v (by simpa using h)
    rw [show n + (i + 1) = n + 1 + i by omega]
    exact List.mem_cons_of_mem _ this
theorem mem_lvs {adr : Int → Nat} : ∀ (ls : sL) (n : Nat) (q : Nat × Value), q ∈ lvs adr ls n → ∃ i v, ls[i]? = some (some v) ∧ q = (n + i, mvV adr v)
  | [], n, q, h => by simp [lvs] at h
  | none :: r, n, q, h => by
    obtain ⟨i, v, h1, h2⟩ := mem_lvs r (n + 1) q h
    exact ⟨i + 1, v, by simpa using h1, by rw [h2, show n + 1 + i = n + (i + 1) by omega]⟩
  | some u :: r, n, q, h => by
    rcases List.mem_cons.mp h with h | h
    · exact ⟨0, u, by simp, by rw [h]; rfl⟩
    · obtain ⟨i, v, h1, h2⟩ := mem_lvs r (n + 1) q h
      exact ⟨i + 1, v, by simpa using h1, by rw [h2, show n + 1 + i = n + (i + 1) by omega]⟩
theorem lvh_at {adr : Int → Nat} {lsM : Array Slot} {nL : Nat} {ls : sL} {i : Nat} {v : sV} (h : lv_has lsM nL (lvs adr ls 0)) (hi : ls[i]? = some (some v)) : lsM[i]? = some (.val (mvV adr v)) := by
  have := h.2.2 _ (lvs_mem ls 0 i v hi)
  simpa using this
theorem lvh_sub {adr adr' : Int → Nat} {lsM : Array Slot} {nL : Nat} {ls ls' : sL} (h : lv_has lsM nL (lvs adr ls 0)) (hs : ∀ (i : Nat) (v : sV), ls'[i]? = some (some v) → ls[i]? = some (some v) ∧ mvV adr' v = mvV adr v) : lv_has lsM nL (lvs adr' ls' 0) := by
  refine ⟨h.1, h.2.1, fun q hq => ?_⟩
  obtain ⟨i, v, h1, rfl⟩ := mem_lvs _ _ _ hq
  obtain ⟨h2, h3⟩ := hs i v h1
  rw [h3]
  exact h.2.2 _ (lvs_mem ls 0 i v h2)
theorem cat_mv (adr : Int → Nat) (v : sV) : (mvV adr v).category = catS v := by
  rcases v with x | x | r
  · rfl
  · rfl
  · show (if r = 0 then Value.null else Value.ref (adr r)).category = 1
    split <;> rfl
theorem catSum_mv (adr : Int → Nat) : ∀ st : List sV, ((st.map (mvV adr)).map fun v => v.category).sum = catSum st
  | [] => rfl
  | v :: r => by
    simp only [List.map_cons, List.sum_cons, catSum, cat_mv]
    rw [catSum_mv adr r]
theorem isLp_no {ls : sL} {i j : Nat} {v : sV} (h : isLp ls i = false) (hj : j + 1 = i) (hv : ls[j]? = some (some v)) : catS v = 1 := by
  subst hj
  simp only [isLp, hv] at h
  rcases v with x | x | r
  · rfl
  · simp [isL] at h
  · rfl
theorem lvh_set1 {adr : Int → Nat} {lsM' : Array Slot} {nL : Nat} {ls : sL} {i : Nat} {v : sV} (hp : isLp ls i = false) (h : lv_has lsM' nL ((i, mvV adr v) :: (lvs adr ls 0).filter (fun q => !(q.1 == i) && !(q.1 + 1 == i && q.2.category == 2)))) : lv_has lsM' nL (lvs adr (ls.set i (some v)) 0) := by
  refine ⟨h.1, h.2.1, fun q hq => h.2.2 q ?_⟩
  obtain ⟨j, u, h1, rfl⟩ := mem_lvs _ _ _ hq
  rw [List.getElem?_set] at h1
  by_cases e : i = j
  · subst e
    rw [if_pos rfl] at h1
    split at h1
    · simp only [Option.some.injEq] at h1
      rw [← h1]
      simp
    · cases h1
  · rw [if_neg e] at h1
    refine List.mem_cons_of_mem _ (List.mem_filter.mpr ⟨lvs_mem ls 0 j u h1, ?_⟩)
    simp only [Nat.zero_add, Bool.and_eq_true, Bool.not_eq_true', beq_eq_false_iff_ne, ne_eq, Bool.and_eq_false_iff]
    refine ⟨fun z => e z.symm, ?_⟩
    by_cases e2 : j + 1 = i
    · right
      rw [cat_mv, isLp_no hp e2 h1]
      decide
    · left
      exact e2
theorem lvh_set2 {adr : Int → Nat} {lsM' : Array Slot} {nL : Nat} {ls : sL} {i : Nat} {v : sV} (hp : isLp ls i = false) (h : lv_has lsM' nL ((i, mvV adr v) :: (lvs adr ls 0).filter (fun q => !(q.1 == i) && (!(q.1 == i + 1) && !(q.1 + 1 == i && q.2.category == 2))))) : lv_has lsM' nL (lvs adr ((ls.set i (some v)).set (i + 1) none) 0) := by
  refine ⟨h.1, h.2.1, fun q hq => h.2.2 q ?_⟩
  obtain ⟨j, u, h1, rfl⟩ := mem_lvs _ _ _ hq
  rw [List.getElem?_set] at h1
  by_cases e0 : i + 1 = j
  · rw [if_pos e0] at h1
    split at h1 <;> cases h1
  · rw [if_neg e0, List.getElem?_set] at h1
    by_cases e : i = j
    · subst e
      rw [if_pos rfl] at h1
      split at h1
      · simp only [Option.some.injEq] at h1
        rw [← h1]
        simp
      · cases h1
    · rw [if_neg e] at h1
      refine List.mem_cons_of_mem _ (List.mem_filter.mpr ⟨lvs_mem ls 0 j u h1, ?_⟩)
      simp only [Nat.zero_add, Bool.and_eq_true, Bool.not_eq_true', beq_eq_false_iff_ne, ne_eq, Bool.and_eq_false_iff]
      refine ⟨fun z => e z.symm, fun z => e0 z.symm, ?_⟩
      by_cases e2 : j + 1 = i
      · right
        rw [cat_mv, isLp_no hp e2 h1]
        decide
      · left
        exact e2
theorem okL_at {w : sW} {ls : sL} {i : Nat} {v : sV} (h : okL w ls) (hi : ls[i]? = some (some v)) : okV w v := h v (List.mem_of_getElem? hi)
theorem okL_set {w : sW} {ls : sL} {i : Nat} {v : sV} (h : okL w ls) (hv : okV w v) : okL w (ls.set i (some v)) := by
  intro u hu
  rcases List.mem_or_eq_of_mem_set hu with q | q
  · exact h u q
  · rw [Option.some.inj q]; exact hv
theorem okL_setn {w : sW} {ls : sL} {i : Nat} (h : okL w ls) : okL w (ls.set i none) := by
  intro u hu
  rcases List.mem_or_eq_of_mem_set hu with q | q
  · exact h u q
  · cases q
end
section
/-! ===== the context, and the instructions that touch no heap (printed by wip/whole/simd.py) ===== -/
/-- what is fixed in a launch: class numbers and slots, array classes, the enum's constants, its array, the script and the heap at the law's entry -/
abbrev LC : Type := va_G × (Nat → ClassId) × (Nat → Nat) × Nat × Nat × Nat × (Nat → Int32) × Heap
abbrev lcD (K : LC) : va_G := K.1
abbrev lcA (K : LC) : Nat → ClassId := K.2.1
abbrev lcE (K : LC) : Nat → Nat := K.2.2.1
abbrev lcG (K : LC) : Nat := K.2.2.2.1
abbrev lcB (K : LC) : Nat := K.2.2.2.2.1
abbrev lcL (K : LC) : Nat := K.2.2.2.2.2.1
abbrev lcX (K : LC) : Nat → Int32 := K.2.2.2.2.2.2.1
abbrev lcH (K : LC) : Heap := K.2.2.2.2.2.2.2
def oldA (K : LC) : Nat → Prop := fun q => (lcH K).size ≤ q
def enumN : List String := ["LEAF", "ROW", "LETTERS", "PUT", "SET", "CUT", "TURN", "JOIN", "SPLIT", "TYPE", "ERASE", "OR", "AND", "NOT", "EMPTY", "EVEN", "LIKE", "BEGINS", "SIZE", "ONES", "RUNS", "LEAVES", "NUMBER"]
def nestW : List Cond := [.methodLinkNest "BitRopes" 15 ⟨"BitRopes$Reader", "<init>", "()V"⟩ "BitRopes", .methodLinkNest "BitRopes" 32 ⟨"BitRopes$Sentence", "<init>", "()V"⟩ "BitRopes", .methodLinkNest "BitRopes" 42 ⟨"BitRopes$Book", "<init>", "()V"⟩ "BitRopes", .methodLinkNest "BitRopes" 49 ⟨"BitRopes$History", "<init>", "()V"⟩ "BitRopes", .methodLinkNest "BitRopes$State" 23 ⟨"BitRopes$Script", "<init>", "()V"⟩ "BitRopes", .methodLinkNest "BitRopes$State" 32 ⟨"BitRopes$Row", "<init>", "()V"⟩ "BitRopes", .methodLinkNest "BitRopes$State" 136 ⟨"BitRopes", "isLetter", "(I)Z"⟩ "BitRopes"]
/-- what holds of the class tables and the statics in every state -/
def KN (K : LC) (U : State) : Prop :=
  va_K (lcD K) vwCl (tysO (lcA K)) U ∧ va_En RX10 "LBitRopes$Word;" enumN [] (lcE K) (oldA K) U (lcH K) ∧
  va_Ef 23 RX10 "code" "J" (fun k => .long (Int64.ofInt (wWd.getD k (0, 0, 0)).1)) (lcE K) (oldA K) U (lcH K) ∧
  va_Ef 23 RX10 "sort" "I" (fun k => .int (Int32.ofInt (wWd.getD k (0, 0, 0)).2.1)) (lcE K) (oldA K) U (lcH K) ∧
  va_Ef 23 RX10 "base" "I" (fun k => .int (Int32.ofInt (wWd.getD k (0, 0, 0)).2.2)) (lcE K) (oldA K) U (lcH K) ∧
  va_Z RX10 "ALL" "[LBitRopes$Word;" (.ref (lcG K)) (oldA K) U (lcH K) ∧
  va_T (.object RX10) (lcG K) 23 (fun j => .ref (lcE K j)) (oldA K) U (lcH K) ∧
  (va_X (lcB K) (lcL K) (lcX K) U (lcH K) ∧ lcB K < (lcH K).size) ∧ (∀ w ∈ nestW, va_Nw w U) ∧ ∀ C ∈ [RX5, RX8, RX7, RX10], va_AO C U
def Old (K : LC) (H : Heap) : Prop := (lcH K).size ≤ H.size ∧ ∀ q : Nat, q < (lcH K).size → H[q]? = (lcH K)[q]?
/-- the world w, its numbers at the addresses adr, lies in the heap -/
def RW (K : LC) (w : sW) (adr : Int → Nat) (H : Heap) : Prop :=
  WFw (lcL K) (lcX K) w ∧ (∀ k : Nat, k < 23 → adr ((k : Int) + 1) = lcE K k) ∧ adr 24 = lcG K ∧ adr 25 = lcB K ∧ va_P (lcD K) vwCl (wsO (lcA K) adr w) H ∧ va_D (oldA K) (wsO (lcA K) adr w)
abbrev MZ : Type := Program × Launch × Env × Room × State × MethodId × Array Value × List Frame × Method × Code × (State → Prop) × ByteArray × Nat × String × List Cond
abbrev zp (Z : MZ) : Program := Z.1
abbrev zl (Z : MZ) : Launch := Z.2.1
abbrev ze (Z : MZ) : Env := Z.2.2.1
abbrev zR (Z : MZ) : Room := Z.2.2.2.1
abbrev zs (Z : MZ) : State := Z.2.2.2.2.1
abbrev zm (Z : MZ) : MethodId := Z.2.2.2.2.2.1
abbrev za (Z : MZ) : Array Value := Z.2.2.2.2.2.2.1
abbrev zb (Z : MZ) : List Frame := Z.2.2.2.2.2.2.2.1
abbrev zh (Z : MZ) : Method := Z.2.2.2.2.2.2.2.2.1
abbrev zc (Z : MZ) : Code := Z.2.2.2.2.2.2.2.2.2.1
abbrev zQ (Z : MZ) : State → Prop := Z.2.2.2.2.2.2.2.2.2.2.1
abbrev zC (Z : MZ) : ByteArray := Z.2.2.2.2.2.2.2.2.2.2.2.1
abbrev zn (Z : MZ) : Nat := Z.2.2.2.2.2.2.2.2.2.2.2.2.1
abbrev zo (Z : MZ) : String := Z.2.2.2.2.2.2.2.2.2.2.2.2.2.1
abbrev zt (Z : MZ) : List Cond := Z.2.2.2.2.2.2.2.2.2.2.2.2.2.2
abbrev Wz (Z : MZ) (H : Heap) (locs : List Loc) (cells slots : Nat) (g : JFrame) : Prop := W (zp Z) (zl Z) (ze Z) (zR Z) (zs Z) (zm Z) (za Z) (zb Z) (zh Z) (zc Z) H locs cells slots (zQ Z) g
def tG : List Cond := lw_tbl.filter goodWord
def BX (Z : MZ) (K : LC) : Prop := (zp Z).tables.exec = Jvm.exec ∧ (zc Z).code = zC Z ∧ (zc Z).maxLocals = zn Z ∧ (zs Z).vm.findClass (zo Z) = some (zm Z).cls ∧ (∀ w ∈ zt Z, w.before (za Z) (zs Z) = true) ∧ (∀ w ∈ tG, w ∈ zt Z) ∧ KN K (zs Z) ∧ Old K (zs Z).heap ∧ (1 ≤ (zR Z).frames ∧ 60 ≤ (zR Z).locals)
/-- the machine, at pc with these locals, stack and world, comes to its end -/
def AtM (Z : MZ) (K : LC) (w0 : sW) (adr0 : Int → Nat) (pc : Nat) (ls : sL) (st : List sV) (w : sW) : Prop :=
  ∀ (adr : Int → Nat) (H : Heap) (locs : List Loc) (lsM : Array Slot), RW K w adr H → va_S (oldA K) (zs Z).heap H locs → okS w st → okL w ls → ls.length = zn Z → lv_has lsM (zn Z) (lvs adr ls 0) → (∀ r, r < nx w0 → adr r = adr0 r) → Ext w0 w →
    Wz Z H locs (uc w - uc w0) (us w - us w0) (F0 (zm Z) pc lsM (st.map (mvV adr)))
def KOK (Z : MZ) (K : LC) (w0 : sW) (adr0 : Int → Nat) (w : sW) (k : Nat → sL → List sV → sW → Option sO) (o : sO) : Prop := ∀ pc ls st w', k pc ls st w' = some o → Ext w w' → AtM Z K w0 adr0 pc ls st w'
theorem okS_c {w : sW} {v : sV} {r : List sV} : okS w (v :: r) ↔ okV w v ∧ okS w r := by simp [okS]
theorem in32_f (v : Int32) : in32 v.toInt := in32_toInt v
section SD
variable {Z : MZ} {K : LC} {w0 w : sW} {adr0 : Int → Nat} {C : sC} {ret tg pc : Nat} {nn : List Nat} {ax : List Int} {sw : List (Int × Nat)} {ls : sL} {st : List sV} {kr : Option sV → sW → Option sO} {k : Nat → sL → List sV → sW → Option sO} {o : sO}
theorem sm_iconst (B : BX Z K) {n : Int} (hr : in32 n) (hd : decode (zC Z) pc = .ok (.iconst n, 1)) (h : sx C ret (.iconst n) tg nn ax sw pc ls st w kr k = some o) (hk : KOK Z K w0 adr0 w k o) : AtM Z K w0 adr0 pc ls st w := by
  replace h : k _ ls (.inl n :: st) w = some o := h
  intro adr H locs lsM hR hS ho hL hn hl hg hx
  have hN := hk _ _ _ _ h Ext.rf adr H locs lsM hR hS (okS_c.mpr ⟨hr, ho⟩) hL hn hl hg hx
  exact lv_iconst B.1 B.2.1 hd rfl hN
theorem sm_bipush (B : BX Z K) {n : Int} (hr : -128 ≤ n ∧ n < 128) (hd : decode (zC Z) pc = .ok (.bipush n, 2)) (h : sx C ret (.bipush n) tg nn ax sw pc ls st w kr k = some o) (hk : KOK Z K w0 adr0 w k o) : AtM Z K w0 adr0 pc ls st w := by
  replace h : k _ ls (.inl n :: st) w = some o := h
  intro adr H locs lsM hR hS ho hL hn hl hg hx
  have hN := hk _ _ _ _ h Ext.rf adr H locs lsM hR hS (okS_c.mpr ⟨(by have := hr; show in32 n; unfold in32; omega), ho⟩) hL hn hl hg hx
  exact lv_bipush B.1 B.2.1 hd (bip_of hr.1 hr.2) hN
theorem sm_sipush (B : BX Z K) {n : Int} (hr : -32768 ≤ n ∧ n < 32768) (hd : decode (zC Z) pc = .ok (.sipush n, 3)) (h : sx C ret (.sipush n) tg nn ax sw pc ls st w kr k = some o) (hk : KOK Z K w0 adr0 w k o) : AtM Z K w0 adr0 pc ls st w := by
  replace h : k _ ls (.inl n :: st) w = some o := h
  intro adr H locs lsM hR hS ho hL hn hl hg hx
  have hN := hk _ _ _ _ h Ext.rf adr H locs lsM hR hS (okS_c.mpr ⟨(by have := hr; show in32 n; unfold in32; omega), ho⟩) hL hn hl hg hx
  exact lv_sipush B.1 B.2.1 hd (sip_of hr.1 hr.2) hN
theorem sm_lconst (B : BX Z K) {n : Fin 2} (hr : ax = [((n : Nat) : Int)]) (hd : decode (zC Z) pc = .ok (.lconst n, 1)) (h : sx C ret (.lconst n) tg nn ax sw pc ls st w kr k = some o) (hk : KOK Z K w0 adr0 w k o) : AtM Z K w0 adr0 pc ls st w := by
  obtain ⟨x, rfl, h⟩ := a1_s (show aC ax none _ no2 = some o from h)
  intro adr H locs lsM hR hS ho hL hn hl hg hx
  obtain rfl : x = ((n : Nat) : Int) := by simpa using hr
  have hb : in64 ((n : Nat) : Int) := by have := n.isLt; unfold in64; omega
  have hN := hk _ _ _ _ h Ext.rf adr H locs lsM hR hS (okS_c.mpr ⟨hb, ho⟩) hL hn hl hg hx
  exact lv_lconst B.1 B.2.1 hd (v := Int64.ofInt ((n : Nat) : Int)) (by rfl) hN
theorem sm_ldc (B : BX Z K) {i : Nat} (hr : ∃ x, ax = [x] ∧ in32 x ∧ Cond.constant (zo Z) i (Int32.ofInt x) ∈ zt Z) (hd : decode (zC Z) pc = .ok (.ldc i, 2)) (h : sx C ret (.ldc i) tg nn ax sw pc ls st w kr k = some o) (hk : KOK Z K w0 adr0 w k o) : AtM Z K w0 adr0 pc ls st w := by
  obtain ⟨x, rfl, h⟩ := a1_s (show aC ax none _ no2 = some o from h)
  intro adr H locs lsM hR hS ho hL hn hl hg hx
  obtain ⟨y, e, hb, hc⟩ := hr
  obtain rfl : x = y := by simpa using e
  have hN := hk _ _ _ _ h Ext.rf adr H locs lsM hR hS (okS_c.mpr ⟨hb, ho⟩) hL hn hl hg hx
  exact lv_ldc B.1 B.2.1 B.2.2.2.1 (B.2.2.2.2.1 _ hc) hd hN
theorem sm_ldc_w (B : BX Z K) {i : Nat} (hr : ∃ x, ax = [x] ∧ in32 x ∧ Cond.constant (zo Z) i (Int32.ofInt x) ∈ zt Z) (hd : decode (zC Z) pc = .ok (.ldc_w i, 3)) (h : sx C ret (.ldc_w i) tg nn ax sw pc ls st w kr k = some o) (hk : KOK Z K w0 adr0 w k o) : AtM Z K w0 adr0 pc ls st w := by
  obtain ⟨x, rfl, h⟩ := a1_s (show aC ax none _ no2 = some o from h)
  intro adr H locs lsM hR hS ho hL hn hl hg hx
  obtain ⟨y, e, hb, hc⟩ := hr
  obtain rfl : x = y := by simpa using e
  have hN := hk _ _ _ _ h Ext.rf adr H locs lsM hR hS (okS_c.mpr ⟨hb, ho⟩) hL hn hl hg hx
  exact lv_ldcw B.1 B.2.1 B.2.2.2.1 (B.2.2.2.2.1 _ hc) hd hN
theorem sm_ldc2_w (B : BX Z K) {i : Nat} (hr : ∃ x, ax = [x] ∧ in64 x ∧ Cond.constantLong (zo Z) i (Int64.ofInt x) ∈ zt Z) (hd : decode (zC Z) pc = .ok (.ldc2_w i, 3)) (h : sx C ret (.ldc2_w i) tg nn ax sw pc ls st w kr k = some o) (hk : KOK Z K w0 adr0 w k o) : AtM Z K w0 adr0 pc ls st w := by
  obtain ⟨x, rfl, h⟩ := a1_s (show aC ax none _ no2 = some o from h)
  intro adr H locs lsM hR hS ho hL hn hl hg hx
  obtain ⟨y, e, hb, hc⟩ := hr
  obtain rfl : x = y := by simpa using e
  have hN := hk _ _ _ _ h Ext.rf adr H locs lsM hR hS (okS_c.mpr ⟨hb, ho⟩) hL hn hl hg hx
  exact lv_ldc2 B.1 B.2.1 B.2.2.2.1 (B.2.2.2.2.1 _ hc) hd hN
theorem sm_aconst_null (B : BX Z K) (hd : decode (zC Z) pc = .ok (.aconst_null, 1)) (h : sx C ret (.aconst_null) tg nn ax sw pc ls st w kr k = some o) (hk : KOK Z K w0 adr0 w k o) : AtM Z K w0 adr0 pc ls st w := by
  intro adr H locs lsM hR hS ho hL hn hl hg hx
  have hN := hk _ _ _ _ h Ext.rf adr H locs lsM hR hS (okS_c.mpr ⟨Or.inl rfl, ho⟩) hL hn hl hg hx
  exact lv_null B.1 B.2.1 hd hN
theorem sm_iload (B : BX Z K) {i : Nat} (hr : i = tg) (hd : decode (zC Z) pc = .ok (.iload i, 2)) (h : sx C ret (.iload i) tg nn ax sw pc ls st w kr k = some o) (hk : KOK Z K w0 adr0 w k o) : AtM Z K w0 adr0 pc ls st w := by
  obtain ⟨x, e, h⟩ := ldI_s h
  intro adr H locs lsM hR hS ho hL hn hl hg hx
  have hN := hk _ _ _ _ h Ext.rf adr H locs lsM hR hS (okS_c.mpr ⟨okL_at hL e, ho⟩) hL hn hl hg hx
  exact lv_iload B.1 B.2.1 hd (by rw [hr]; exact lvh_at hl e) hN
theorem sm_iload_n (B : BX Z K) {i : Fin 4} (hr : (i : Nat) = tg) (hd : decode (zC Z) pc = .ok (.iload_n i, 1)) (h : sx C ret (.iload_n i) tg nn ax sw pc ls st w kr k = some o) (hk : KOK Z K w0 adr0 w k o) : AtM Z K w0 adr0 pc ls st w := by
  obtain ⟨x, e, h⟩ := ldI_s h
  intro adr H locs lsM hR hS ho hL hn hl hg hx
  have hN := hk _ _ _ _ h Ext.rf adr H locs lsM hR hS (okS_c.mpr ⟨okL_at hL e, ho⟩) hL hn hl hg hx
  exact lv_iload_n B.1 B.2.1 hd hr (lvh_at hl e) hN
theorem sm_lload (B : BX Z K) {i : Nat} (hr : i = tg) (hd : decode (zC Z) pc = .ok (.lload i, 2)) (h : sx C ret (.lload i) tg nn ax sw pc ls st w kr k = some o) (hk : KOK Z K w0 adr0 w k o) : AtM Z K w0 adr0 pc ls st w := by
  obtain ⟨x, e, h⟩ := ldL_s h
  intro adr H locs lsM hR hS ho hL hn hl hg hx
  have hN := hk _ _ _ _ h Ext.rf adr H locs lsM hR hS (okS_c.mpr ⟨okL_at hL e, ho⟩) hL hn hl hg hx
  exact lv_lload B.1 B.2.1 hd (by rw [hr]; exact lvh_at hl e) hN
theorem sm_lload_n (B : BX Z K) {i : Fin 4} (hr : (i : Nat) = tg) (hd : decode (zC Z) pc = .ok (.lload_n i, 1)) (h : sx C ret (.lload_n i) tg nn ax sw pc ls st w kr k = some o) (hk : KOK Z K w0 adr0 w k o) : AtM Z K w0 adr0 pc ls st w := by
  obtain ⟨x, e, h⟩ := ldL_s h
  intro adr H locs lsM hR hS ho hL hn hl hg hx
  have hN := hk _ _ _ _ h Ext.rf adr H locs lsM hR hS (okS_c.mpr ⟨okL_at hL e, ho⟩) hL hn hl hg hx
  exact lv_lload_n B.1 B.2.1 hd hr (lvh_at hl e) hN
theorem sm_aload (B : BX Z K) {i : Nat} (hr : i = tg) (hd : decode (zC Z) pc = .ok (.aload i, 2)) (h : sx C ret (.aload i) tg nn ax sw pc ls st w kr k = some o) (hk : KOK Z K w0 adr0 w k o) : AtM Z K w0 adr0 pc ls st w := by
  obtain ⟨x, e, h⟩ := ldR_s h
  intro adr H locs lsM hR hS ho hL hn hl hg hx
  have hN := hk _ _ _ _ h Ext.rf adr H locs lsM hR hS (okS_c.mpr ⟨okL_at hL e, ho⟩) hL hn hl hg hx
  have hat := lvh_at hl e
  simp only [List.map_cons, mvV] at hN hat
  by_cases hz : x = 0
  · rw [if_pos hz] at hN hat
    exact lv_aloadN B.1 B.2.1 hd (by rw [hr]; exact hat) hN
  · rw [if_neg hz] at hN hat
    exact lv_aload B.1 B.2.1 hd (by rw [hr]; exact hat) hN
theorem sm_aload_n (B : BX Z K) {i : Fin 4} (hr : (i : Nat) = tg) (hd : decode (zC Z) pc = .ok (.aload_n i, 1)) (h : sx C ret (.aload_n i) tg nn ax sw pc ls st w kr k = some o) (hk : KOK Z K w0 adr0 w k o) : AtM Z K w0 adr0 pc ls st w := by
  obtain ⟨x, e, h⟩ := ldR_s h
  intro adr H locs lsM hR hS ho hL hn hl hg hx
  have hN := hk _ _ _ _ h Ext.rf adr H locs lsM hR hS (okS_c.mpr ⟨okL_at hL e, ho⟩) hL hn hl hg hx
  have hat := lvh_at hl e
  simp only [List.map_cons, mvV] at hN hat
  by_cases hz : x = 0
  · rw [if_pos hz] at hN hat
    exact lv_aload_nN B.1 B.2.1 hd hr hat hN
  · rw [if_neg hz] at hN hat
    exact lv_aload_n B.1 B.2.1 hd hr hat hN
theorem sm_istore (B : BX Z K) {i : Nat} (hr : i = tg) (hd : decode (zC Z) pc = .ok (.istore i, 2)) (h : sx C ret (.istore i) tg nn ax sw pc ls st w kr k = some o) (hk : KOK Z K w0 adr0 w k o) : AtM Z K w0 adr0 pc ls st w := by
  obtain ⟨x, r, hs, h'⟩ := pI_s h
  clear h
  subst hs
  have h := h'
  clear h'
  obtain ⟨h1, h2, h⟩ := st1_s h
  subst hr
  intro adr H locs lsM hR hS ho hL hn hl hg hx
  refine lv_istore B.1 B.2.1 hd hl (by omega) rfl fun ls' hl' => ?_
  exact hk _ _ _ _ h Ext.rf adr H locs ls' hR hS (okS_c.mp ho).2 (okL_set hL (okS_c.mp ho).1) (by simpa using hn) (lvh_set1 h2 hl') hg hx
theorem sm_istore_n (B : BX Z K) {i : Fin 4} (hr : (i : Nat) = tg) (hd : decode (zC Z) pc = .ok (.istore_n i, 1)) (h : sx C ret (.istore_n i) tg nn ax sw pc ls st w kr k = some o) (hk : KOK Z K w0 adr0 w k o) : AtM Z K w0 adr0 pc ls st w := by
  obtain ⟨x, r, hs, h'⟩ := pI_s h
  clear h
  subst hs
  have h := h'
  clear h'
  obtain ⟨h1, h2, h⟩ := st1_s h
  intro adr H locs lsM hR hS ho hL hn hl hg hx
  refine lv_istore_n B.1 B.2.1 hd hr hl (by omega) rfl fun ls' hl' => ?_
  exact hk _ _ _ _ h Ext.rf adr H locs ls' hR hS (okS_c.mp ho).2 (okL_set hL (okS_c.mp ho).1) (by simpa using hn) (lvh_set1 h2 hl') hg hx
theorem sm_lstore (B : BX Z K) {i : Nat} (hr : i = tg) (hd : decode (zC Z) pc = .ok (.lstore i, 2)) (h : sx C ret (.lstore i) tg nn ax sw pc ls st w kr k = some o) (hk : KOK Z K w0 adr0 w k o) : AtM Z K w0 adr0 pc ls st w := by
  obtain ⟨x, r, hs, h'⟩ := pL_s h
  clear h
  subst hs
  have h := h'
  clear h'
  obtain ⟨h1, h2, h⟩ := st2_s h
  subst hr
  intro adr H locs lsM hR hS ho hL hn hl hg hx
  refine lv_lstore B.1 B.2.1 hd hl (by omega) rfl fun ls' hl' => ?_
  exact hk _ _ _ _ h Ext.rf adr H locs ls' hR hS (okS_c.mp ho).2 (okL_setn (okL_set hL (okS_c.mp ho).1)) (by simpa using hn) (lvh_set2 h2 hl') hg hx
theorem sm_lstore_n (B : BX Z K) {i : Fin 4} (hr : (i : Nat) = tg) (hd : decode (zC Z) pc = .ok (.lstore_n i, 1)) (h : sx C ret (.lstore_n i) tg nn ax sw pc ls st w kr k = some o) (hk : KOK Z K w0 adr0 w k o) : AtM Z K w0 adr0 pc ls st w := by
  obtain ⟨x, r, hs, h'⟩ := pL_s h
  clear h
  subst hs
  have h := h'
  clear h'
  obtain ⟨h1, h2, h⟩ := st2_s h
  intro adr H locs lsM hR hS ho hL hn hl hg hx
  refine lv_lstore_n B.1 B.2.1 hd hr hl (by omega) rfl fun ls' hl' => ?_
  exact hk _ _ _ _ h Ext.rf adr H locs ls' hR hS (okS_c.mp ho).2 (okL_setn (okL_set hL (okS_c.mp ho).1)) (by simpa using hn) (lvh_set2 h2 hl') hg hx
theorem sm_astore (B : BX Z K) {i : Nat} (hr : i = tg) (hd : decode (zC Z) pc = .ok (.astore i, 2)) (h : sx C ret (.astore i) tg nn ax sw pc ls st w kr k = some o) (hk : KOK Z K w0 adr0 w k o) : AtM Z K w0 adr0 pc ls st w := by
  obtain ⟨x, r, hs, h'⟩ := pR_s h
  clear h
  subst hs
  have h := h'
  clear h'
  obtain ⟨h1, h2, h⟩ := st1_s h
  subst hr
  intro adr H locs lsM hR hS ho hL hn hl hg hx
  have hN : ∀ ls' : Array Slot, lv_has ls' (zn Z) _ → _ := fun ls' hl' => hk _ _ _ _ h Ext.rf adr H locs ls' hR hS (okS_c.mp ho).2 (okL_set hL (okS_c.mp ho).1) (by simpa using hn) (lvh_set1 h2 hl') hg hx
  by_cases hz : x = 0
  · subst hz
    exact lv_astoreN B.1 B.2.1 hd hl (by omega) rfl hN
  · simp only [List.map_cons, mvV, if_neg hz] at hN ⊢
    exact lv_astore B.1 B.2.1 hd hl (by omega) rfl hN
theorem sm_astore_n (B : BX Z K) {i : Fin 4} (hr : (i : Nat) = tg) (hd : decode (zC Z) pc = .ok (.astore_n i, 1)) (h : sx C ret (.astore_n i) tg nn ax sw pc ls st w kr k = some o) (hk : KOK Z K w0 adr0 w k o) : AtM Z K w0 adr0 pc ls st w := by
  obtain ⟨x, r, hs, h'⟩ := pR_s h
  clear h
  subst hs
  have h := h'
  clear h'
  obtain ⟨h1, h2, h⟩ := st1_s h
  intro adr H locs lsM hR hS ho hL hn hl hg hx
  have hN : ∀ ls' : Array Slot, lv_has ls' (zn Z) _ → _ := fun ls' hl' => hk _ _ _ _ h Ext.rf adr H locs ls' hR hS (okS_c.mp ho).2 (okL_set hL (okS_c.mp ho).1) (by simpa using hn) (lvh_set1 h2 hl') hg hx
  by_cases hz : x = 0
  · subst hz
    exact lv_astore_nN B.1 B.2.1 hd hr hl (by omega) rfl hN
  · simp only [List.map_cons, mvV, if_neg hz] at hN ⊢
    exact lv_astore_n B.1 B.2.1 hd hr hl (by omega) rfl hN
theorem sm_iinc (B : BX Z K) {i : Nat} {n : Int} (hr : i = tg) (hd : decode (zC Z) pc = .ok (.iinc i n, 3)) (h : sx C ret (.iinc i n) tg nn ax sw pc ls st w kr k = some o) (hk : KOK Z K w0 adr0 w k o) : AtM Z K w0 adr0 pc ls st w := by
  obtain ⟨x, e, h⟩ := ldI_s h
  obtain ⟨h1, h2, h⟩ := st1_s h
  subst hr
  intro adr H locs lsM hR hS ho hL hn hl hg hx
  obtain ⟨q, hq⟩ := List.getElem?_of_mem (lvs_mem (adr := adr) ls 0 i _ e)
  rw [Nat.zero_add] at hq
  refine lv_iinc (v := Int32.ofInt (w32 (x + n))) B.1 B.2.1 hd hl hq (ofI_add x n) (by omega) rfl fun ls' hl' => ?_
  exact hk _ _ _ _ h Ext.rf adr H locs ls' hR hS ho (okL_set hL (in32_w _)) (by simpa using hn) (lvh_set1 (v := .inl (w32 (x + n))) h2 hl') hg hx
theorem sm_iadd (B : BX Z K) (hd : decode (zC Z) pc = .ok (.iadd, 1)) (h : sx C ret (.iadd) tg nn ax sw pc ls st w kr k = some o) (hk : KOK Z K w0 adr0 w k o) : AtM Z K w0 adr0 pc ls st w := by
  obtain ⟨y, r, hs, h'⟩ := pI_s h
  clear h
  subst hs
  have h := h'
  clear h'
  obtain ⟨x, r, hs, h'⟩ := pI_s h
  clear h
  subst hs
  have h := h'
  clear h'
  intro adr H locs lsM hR hS ho hL hn hl hg hx
  have hx1 : in32 x := (okS_c.mp (okS_c.mp ho).2).1
  have hy1 : in32 y := (okS_c.mp ho).1
  have hN := hk _ _ _ _ h Ext.rf adr H locs lsM hR hS (okS_c.mpr ⟨in32_w _, (okS_c.mp (okS_c.mp ho).2).2⟩) hL hn hl hg hx
  refine lv_iadd B.1 B.2.1 hd ?_
  rw [show Int32.ofInt x + Int32.ofInt y = Int32.ofInt (w32 (x + y)) from ofI_add x y]
  exact hN
theorem sm_isub (B : BX Z K) (hd : decode (zC Z) pc = .ok (.isub, 1)) (h : sx C ret (.isub) tg nn ax sw pc ls st w kr k = some o) (hk : KOK Z K w0 adr0 w k o) : AtM Z K w0 adr0 pc ls st w := by
  obtain ⟨y, r, hs, h'⟩ := pI_s h
  clear h
  subst hs
  have h := h'
  clear h'
  obtain ⟨x, r, hs, h'⟩ := pI_s h
  clear h
  subst hs
  have h := h'
  clear h'
  intro adr H locs lsM hR hS ho hL hn hl hg hx
  have hx1 : in32 x := (okS_c.mp (okS_c.mp ho).2).1
  have hy1 : in32 y := (okS_c.mp ho).1
  have hN := hk _ _ _ _ h Ext.rf adr H locs lsM hR hS (okS_c.mpr ⟨in32_w _, (okS_c.mp (okS_c.mp ho).2).2⟩) hL hn hl hg hx
  refine lv_isub B.1 B.2.1 hd ?_
  rw [show Int32.ofInt x - Int32.ofInt y = Int32.ofInt (w32 (x - y)) from ofI_sub x y]
  exact hN
theorem sm_imul (B : BX Z K) (hd : decode (zC Z) pc = .ok (.imul, 1)) (h : sx C ret (.imul) tg nn ax sw pc ls st w kr k = some o) (hk : KOK Z K w0 adr0 w k o) : AtM Z K w0 adr0 pc ls st w := by
  obtain ⟨y, r, hs, h'⟩ := pI_s h
  clear h
  subst hs
  have h := h'
  clear h'
  obtain ⟨x, r, hs, h'⟩ := pI_s h
  clear h
  subst hs
  have h := h'
  clear h'
  intro adr H locs lsM hR hS ho hL hn hl hg hx
  have hx1 : in32 x := (okS_c.mp (okS_c.mp ho).2).1
  have hy1 : in32 y := (okS_c.mp ho).1
  have hN := hk _ _ _ _ h Ext.rf adr H locs lsM hR hS (okS_c.mpr ⟨in32_w _, (okS_c.mp (okS_c.mp ho).2).2⟩) hL hn hl hg hx
  refine lv_imul B.1 B.2.1 hd ?_
  rw [show Int32.ofInt x * Int32.ofInt y = Int32.ofInt (w32 (x * y)) from ofI_mul x y]
  exact hN
theorem sm_ishl (B : BX Z K) (hd : decode (zC Z) pc = .ok (.ishl, 1)) (h : sx C ret (.ishl) tg nn ax sw pc ls st w kr k = some o) (hk : KOK Z K w0 adr0 w k o) : AtM Z K w0 adr0 pc ls st w := by
  obtain ⟨y, r, hs, h'⟩ := pI_s h
  clear h
  subst hs
  have h := h'
  clear h'
  obtain ⟨x, r, hs, h'⟩ := pI_s h
  clear h
  subst hs
  have h := h'
  clear h'
  intro adr H locs lsM hR hS ho hL hn hl hg hx
  have hx1 : in32 x := (okS_c.mp (okS_c.mp ho).2).1
  have hy1 : in32 y := (okS_c.mp ho).1
  have hN := hk _ _ _ _ h Ext.rf adr H locs lsM hR hS (okS_c.mpr ⟨in32_f _, (okS_c.mp (okS_c.mp ho).2).2⟩) hL hn hl hg hx
  refine lv_ishl B.1 B.2.1 hd ?_
  rw [show Int32.ofInt x <<< (Int32.ofInt y &&& 31) = Int32.ofInt (f_ishl x y) from (ofI_toInt _).symm]
  exact hN
theorem sm_ishr (B : BX Z K) (hd : decode (zC Z) pc = .ok (.ishr, 1)) (h : sx C ret (.ishr) tg nn ax sw pc ls st w kr k = some o) (hk : KOK Z K w0 adr0 w k o) : AtM Z K w0 adr0 pc ls st w := by
  obtain ⟨y, r, hs, h'⟩ := pI_s h
  clear h
  subst hs
  have h := h'
  clear h'
  obtain ⟨x, r, hs, h'⟩ := pI_s h
  clear h
  subst hs
  have h := h'
  clear h'
  intro adr H locs lsM hR hS ho hL hn hl hg hx
  have hx1 : in32 x := (okS_c.mp (okS_c.mp ho).2).1
  have hy1 : in32 y := (okS_c.mp ho).1
  have hN := hk _ _ _ _ h Ext.rf adr H locs lsM hR hS (okS_c.mpr ⟨in32_f _, (okS_c.mp (okS_c.mp ho).2).2⟩) hL hn hl hg hx
  refine lv_ishr B.1 B.2.1 hd ?_
  rw [show Int32.ofInt x >>> (Int32.ofInt y &&& 31) = Int32.ofInt (f_ishr x y) from (ofI_toInt _).symm]
  exact hN
theorem sm_iand (B : BX Z K) (hd : decode (zC Z) pc = .ok (.iand, 1)) (h : sx C ret (.iand) tg nn ax sw pc ls st w kr k = some o) (hk : KOK Z K w0 adr0 w k o) : AtM Z K w0 adr0 pc ls st w := by
  obtain ⟨y, r, hs, h'⟩ := pI_s h
  clear h
  subst hs
  have h := h'
  clear h'
  obtain ⟨x, r, hs, h'⟩ := pI_s h
  clear h
  subst hs
  have h := h'
  clear h'
  intro adr H locs lsM hR hS ho hL hn hl hg hx
  have hx1 : in32 x := (okS_c.mp (okS_c.mp ho).2).1
  have hy1 : in32 y := (okS_c.mp ho).1
  have hN := hk _ _ _ _ h Ext.rf adr H locs lsM hR hS (okS_c.mpr ⟨in32_f _, (okS_c.mp (okS_c.mp ho).2).2⟩) hL hn hl hg hx
  refine lv_iand B.1 B.2.1 hd ?_
  rw [show Int32.ofInt x &&& Int32.ofInt y = Int32.ofInt (f_iand x y) from (ofI_toInt _).symm]
  exact hN
theorem sm_ior (B : BX Z K) (hd : decode (zC Z) pc = .ok (.ior, 1)) (h : sx C ret (.ior) tg nn ax sw pc ls st w kr k = some o) (hk : KOK Z K w0 adr0 w k o) : AtM Z K w0 adr0 pc ls st w := by
  obtain ⟨y, r, hs, h'⟩ := pI_s h
  clear h
  subst hs
  have h := h'
  clear h'
  obtain ⟨x, r, hs, h'⟩ := pI_s h
  clear h
  subst hs
  have h := h'
  clear h'
  intro adr H locs lsM hR hS ho hL hn hl hg hx
  have hx1 : in32 x := (okS_c.mp (okS_c.mp ho).2).1
  have hy1 : in32 y := (okS_c.mp ho).1
  have hN := hk _ _ _ _ h Ext.rf adr H locs lsM hR hS (okS_c.mpr ⟨in32_f _, (okS_c.mp (okS_c.mp ho).2).2⟩) hL hn hl hg hx
  refine lv_ior B.1 B.2.1 hd ?_
  rw [show Int32.ofInt x ||| Int32.ofInt y = Int32.ofInt (f_ior x y) from (ofI_toInt _).symm]
  exact hN
theorem sm_iushr (B : BX Z K) (hd : decode (zC Z) pc = .ok (.iushr, 1)) (h : sx C ret (.iushr) tg nn ax sw pc ls st w kr k = some o) (hk : KOK Z K w0 adr0 w k o) : AtM Z K w0 adr0 pc ls st w := by
  obtain ⟨y, r, hs, h'⟩ := pI_s h
  clear h
  subst hs
  have h := h'
  clear h'
  obtain ⟨x, r, hs, h'⟩ := pI_s h
  clear h
  subst hs
  have h := h'
  clear h'
  intro adr H locs lsM hR hS ho hL hn hl hg hx
  have hN := hk _ _ _ _ h Ext.rf adr H locs lsM hR hS (okS_c.mpr ⟨in32_f _, (okS_c.mp (okS_c.mp ho).2).2⟩) hL hn hl hg hx
  exact lv_iushr (v := Int32.ofInt (f_iushr x y)) B.1 B.2.1 hd (ofI_toInt _).symm hN
theorem sm_idiv (B : BX Z K) (hd : decode (zC Z) pc = .ok (.idiv, 1)) (h : sx C ret (.idiv) tg nn ax sw pc ls st w kr k = some o) (hk : KOK Z K w0 adr0 w k o) : AtM Z K w0 adr0 pc ls st w := by
  obtain ⟨y, r, hs, h'⟩ := pI_s h
  clear h
  subst hs
  have h := h'
  clear h'
  obtain ⟨x, r, hs, h'⟩ := pI_s h
  clear h
  subst hs
  have h := h'
  clear h'
  by_cases h0 : y = 0
  · rw [if_pos h0] at h; cases h
  rw [if_neg h0] at h
  intro adr H locs lsM hR hS ho hL hn hl hg hx
  have hx1 : in32 x := (okS_c.mp (okS_c.mp ho).2).1
  have hy1 : in32 y := (okS_c.mp ho).1
  have hN := hk _ _ _ _ h Ext.rf adr H locs lsM hR hS (okS_c.mpr ⟨in32_w _, (okS_c.mp (okS_c.mp ho).2).2⟩) hL hn hl hg hx
  refine lv_idiv B.1 B.2.1 hd (fun z => h0 ((ofI_eq0 hy1).mp z)) ?_
  rw [show Int32.ofInt x / Int32.ofInt y = Int32.ofInt (w32 (Int.tdiv x y)) from ofI_div hx1 hy1]
  exact hN
theorem sm_irem (B : BX Z K) (hd : decode (zC Z) pc = .ok (.irem, 1)) (h : sx C ret (.irem) tg nn ax sw pc ls st w kr k = some o) (hk : KOK Z K w0 adr0 w k o) : AtM Z K w0 adr0 pc ls st w := by
  obtain ⟨y, r, hs, h'⟩ := pI_s h
  clear h
  subst hs
  have h := h'
  clear h'
  obtain ⟨x, r, hs, h'⟩ := pI_s h
  clear h
  subst hs
  have h := h'
  clear h'
  by_cases h0 : y = 0
  · rw [if_pos h0] at h; cases h
  rw [if_neg h0] at h
  intro adr H locs lsM hR hS ho hL hn hl hg hx
  have hx1 : in32 x := (okS_c.mp (okS_c.mp ho).2).1
  have hy1 : in32 y := (okS_c.mp ho).1
  have hN := hk _ _ _ _ h Ext.rf adr H locs lsM hR hS (okS_c.mpr ⟨in_tmod32 hx1 hy1 h0, (okS_c.mp (okS_c.mp ho).2).2⟩) hL hn hl hg hx
  refine lv_irem B.1 B.2.1 hd (fun z => h0 ((ofI_eq0 hy1).mp z)) ?_
  rw [show Int32.ofInt x - Int32.ofInt x / Int32.ofInt y * Int32.ofInt y = Int32.ofInt (Int.tmod x y) from ofI_rem hx1 hy1]
  exact hN
theorem sm_ladd (B : BX Z K) (hd : decode (zC Z) pc = .ok (.ladd, 1)) (h : sx C ret (.ladd) tg nn ax sw pc ls st w kr k = some o) (hk : KOK Z K w0 adr0 w k o) : AtM Z K w0 adr0 pc ls st w := by
  obtain ⟨y, r, hs, h'⟩ := pL_s h
  clear h
  subst hs
  have h := h'
  clear h'
  obtain ⟨x, r, hs, h'⟩ := pL_s h
  clear h
  subst hs
  have h := h'
  clear h'
  intro adr H locs lsM hR hS ho hL hn hl hg hx
  have hN := hk _ _ _ _ h Ext.rf adr H locs lsM hR hS (okS_c.mpr ⟨in64_w _, (okS_c.mp (okS_c.mp ho).2).2⟩) hL hn hl hg hx
  refine lv_ladd B.1 B.2.1 hd ?_
  rw [show Int64.ofInt x + Int64.ofInt y = Int64.ofInt (w64 (x + y)) from ofL_add x y]
  exact hN
theorem sm_lsub (B : BX Z K) (hd : decode (zC Z) pc = .ok (.lsub, 1)) (h : sx C ret (.lsub) tg nn ax sw pc ls st w kr k = some o) (hk : KOK Z K w0 adr0 w k o) : AtM Z K w0 adr0 pc ls st w := by
  obtain ⟨y, r, hs, h'⟩ := pL_s h
  clear h
  subst hs
  have h := h'
  clear h'
  obtain ⟨x, r, hs, h'⟩ := pL_s h
  clear h
  subst hs
  have h := h'
  clear h'
  intro adr H locs lsM hR hS ho hL hn hl hg hx
  have hN := hk _ _ _ _ h Ext.rf adr H locs lsM hR hS (okS_c.mpr ⟨in64_w _, (okS_c.mp (okS_c.mp ho).2).2⟩) hL hn hl hg hx
  refine lv_lsub B.1 B.2.1 hd ?_
  rw [show Int64.ofInt x - Int64.ofInt y = Int64.ofInt (w64 (x - y)) from ofL_sub x y]
  exact hN
theorem sm_lmul (B : BX Z K) (hd : decode (zC Z) pc = .ok (.lmul, 1)) (h : sx C ret (.lmul) tg nn ax sw pc ls st w kr k = some o) (hk : KOK Z K w0 adr0 w k o) : AtM Z K w0 adr0 pc ls st w := by
  obtain ⟨y, r, hs, h'⟩ := pL_s h
  clear h
  subst hs
  have h := h'
  clear h'
  obtain ⟨x, r, hs, h'⟩ := pL_s h
  clear h
  subst hs
  have h := h'
  clear h'
  intro adr H locs lsM hR hS ho hL hn hl hg hx
  have hN := hk _ _ _ _ h Ext.rf adr H locs lsM hR hS (okS_c.mpr ⟨in64_w _, (okS_c.mp (okS_c.mp ho).2).2⟩) hL hn hl hg hx
  refine lv_lmul B.1 B.2.1 hd ?_
  rw [show Int64.ofInt x * Int64.ofInt y = Int64.ofInt (w64 (x * y)) from ofL_mul x y]
  exact hN
theorem sm_land (B : BX Z K) (hd : decode (zC Z) pc = .ok (.land, 1)) (h : sx C ret (.land) tg nn ax sw pc ls st w kr k = some o) (hk : KOK Z K w0 adr0 w k o) : AtM Z K w0 adr0 pc ls st w := by
  obtain ⟨y, r, hs, h'⟩ := pL_s h
  clear h
  subst hs
  have h := h'
  clear h'
  obtain ⟨x, r, hs, h'⟩ := pL_s h
  clear h
  subst hs
  have h := h'
  clear h'
  intro adr H locs lsM hR hS ho hL hn hl hg hx
  have hN := hk _ _ _ _ h Ext.rf adr H locs lsM hR hS (okS_c.mpr ⟨in64_toInt _, (okS_c.mp (okS_c.mp ho).2).2⟩) hL hn hl hg hx
  refine lv_land B.1 B.2.1 hd ?_
  rw [show Int64.ofInt x &&& Int64.ofInt y = Int64.ofInt (f_land x y) from (ofL_toInt _).symm]
  exact hN
theorem sm_lor (B : BX Z K) (hd : decode (zC Z) pc = .ok (.lor, 1)) (h : sx C ret (.lor) tg nn ax sw pc ls st w kr k = some o) (hk : KOK Z K w0 adr0 w k o) : AtM Z K w0 adr0 pc ls st w := by
  obtain ⟨y, r, hs, h'⟩ := pL_s h
  clear h
  subst hs
  have h := h'
  clear h'
  obtain ⟨x, r, hs, h'⟩ := pL_s h
  clear h
  subst hs
  have h := h'
  clear h'
  intro adr H locs lsM hR hS ho hL hn hl hg hx
  have hN := hk _ _ _ _ h Ext.rf adr H locs lsM hR hS (okS_c.mpr ⟨in64_toInt _, (okS_c.mp (okS_c.mp ho).2).2⟩) hL hn hl hg hx
  refine lv_lor B.1 B.2.1 hd ?_
  rw [show Int64.ofInt x ||| Int64.ofInt y = Int64.ofInt (f_lor x y) from (ofL_toInt _).symm]
  exact hN
theorem sm_ldiv (B : BX Z K) (hd : decode (zC Z) pc = .ok (.ldiv, 1)) (h : sx C ret (.ldiv) tg nn ax sw pc ls st w kr k = some o) (hk : KOK Z K w0 adr0 w k o) : AtM Z K w0 adr0 pc ls st w := by
  obtain ⟨y, r, hs, h'⟩ := pL_s h
  clear h
  subst hs
  have h := h'
  clear h'
  obtain ⟨x, r, hs, h'⟩ := pL_s h
  clear h
  subst hs
  have h := h'
  clear h'
  by_cases h0 : y = 0
  · rw [if_pos h0] at h; cases h
  rw [if_neg h0] at h
  intro adr H locs lsM hR hS ho hL hn hl hg hx
  have hx1 : in64 x := (okS_c.mp (okS_c.mp ho).2).1
  have hy1 : in64 y := (okS_c.mp ho).1
  have hN := hk _ _ _ _ h Ext.rf adr H locs lsM hR hS (okS_c.mpr ⟨in64_w _, (okS_c.mp (okS_c.mp ho).2).2⟩) hL hn hl hg hx
  refine lv_ldiv B.1 B.2.1 hd (fun z => h0 ((ofL_eq0 hy1).mp z)) ?_
  rw [show Int64.ofInt x / Int64.ofInt y = Int64.ofInt (w64 (Int.tdiv x y)) from ofL_div hx1 hy1]
  exact hN
theorem sm_lrem (B : BX Z K) (hd : decode (zC Z) pc = .ok (.lrem, 1)) (h : sx C ret (.lrem) tg nn ax sw pc ls st w kr k = some o) (hk : KOK Z K w0 adr0 w k o) : AtM Z K w0 adr0 pc ls st w := by
  obtain ⟨y, r, hs, h'⟩ := pL_s h
  clear h
  subst hs
  have h := h'
  clear h'
  obtain ⟨x, r, hs, h'⟩ := pL_s h
  clear h
  subst hs
  have h := h'
  clear h'
  by_cases h0 : y = 0
  · rw [if_pos h0] at h; cases h
  rw [if_neg h0] at h
  intro adr H locs lsM hR hS ho hL hn hl hg hx
  have hx1 : in64 x := (okS_c.mp (okS_c.mp ho).2).1
  have hy1 : in64 y := (okS_c.mp ho).1
  have hN := hk _ _ _ _ h Ext.rf adr H locs lsM hR hS (okS_c.mpr ⟨in_tmod64 hx1 hy1 h0, (okS_c.mp (okS_c.mp ho).2).2⟩) hL hn hl hg hx
  refine lv_lrem B.1 B.2.1 hd (fun z => h0 ((ofL_eq0 hy1).mp z)) ?_
  rw [show Int64.ofInt x - Int64.ofInt x / Int64.ofInt y * Int64.ofInt y = Int64.ofInt (Int.tmod x y) from ofL_rem hx1 hy1]
  exact hN
theorem sm_lshl (B : BX Z K) (hd : decode (zC Z) pc = .ok (.lshl, 1)) (h : sx C ret (.lshl) tg nn ax sw pc ls st w kr k = some o) (hk : KOK Z K w0 adr0 w k o) : AtM Z K w0 adr0 pc ls st w := by
  obtain ⟨y, r, hs, h'⟩ := pI_s h
  clear h
  subst hs
  have h := h'
  clear h'
  obtain ⟨x, r, hs, h'⟩ := pL_s h
  clear h
  subst hs
  have h := h'
  clear h'
  intro adr H locs lsM hR hS ho hL hn hl hg hx
  have hN := hk _ _ _ _ h Ext.rf adr H locs lsM hR hS (okS_c.mpr ⟨in64_toInt _, (okS_c.mp (okS_c.mp ho).2).2⟩) hL hn hl hg hx
  exact lv_lshl (v := Int64.ofInt (f_lshl x y)) B.1 B.2.1 hd (ofL_toInt _).symm hN
theorem sm_lshr (B : BX Z K) (hd : decode (zC Z) pc = .ok (.lshr, 1)) (h : sx C ret (.lshr) tg nn ax sw pc ls st w kr k = some o) (hk : KOK Z K w0 adr0 w k o) : AtM Z K w0 adr0 pc ls st w := by
  obtain ⟨y, r, hs, h'⟩ := pI_s h
  clear h
  subst hs
  have h := h'
  clear h'
  obtain ⟨x, r, hs, h'⟩ := pL_s h
  clear h
  subst hs
  have h := h'
  clear h'
  intro adr H locs lsM hR hS ho hL hn hl hg hx
  have hN := hk _ _ _ _ h Ext.rf adr H locs lsM hR hS (okS_c.mpr ⟨in64_toInt _, (okS_c.mp (okS_c.mp ho).2).2⟩) hL hn hl hg hx
  exact lv_lshr (v := Int64.ofInt (f_lshr x y)) B.1 B.2.1 hd (ofL_toInt _).symm hN
theorem sm_lushr (B : BX Z K) (hd : decode (zC Z) pc = .ok (.lushr, 1)) (h : sx C ret (.lushr) tg nn ax sw pc ls st w kr k = some o) (hk : KOK Z K w0 adr0 w k o) : AtM Z K w0 adr0 pc ls st w := by
  obtain ⟨y, r, hs, h'⟩ := pI_s h
  clear h
  subst hs
  have h := h'
  clear h'
  obtain ⟨x, r, hs, h'⟩ := pL_s h
  clear h
  subst hs
  have h := h'
  clear h'
  intro adr H locs lsM hR hS ho hL hn hl hg hx
  have hN := hk _ _ _ _ h Ext.rf adr H locs lsM hR hS (okS_c.mpr ⟨in64_toInt _, (okS_c.mp (okS_c.mp ho).2).2⟩) hL hn hl hg hx
  exact lv_lushr (v := Int64.ofInt (f_lushr x y)) B.1 B.2.1 hd (ofL_toInt _).symm hN
theorem sm_lcmp (B : BX Z K) (hd : decode (zC Z) pc = .ok (.lcmp, 1)) (h : sx C ret (.lcmp) tg nn ax sw pc ls st w kr k = some o) (hk : KOK Z K w0 adr0 w k o) : AtM Z K w0 adr0 pc ls st w := by
  obtain ⟨y, r, hs, h'⟩ := pL_s h
  clear h
  subst hs
  have h := h'
  clear h'
  obtain ⟨x, r, hs, h'⟩ := pL_s h
  clear h
  subst hs
  have h := h'
  clear h'
  intro adr H locs lsM hR hS ho hL hn hl hg hx
  have hx1 : in64 x := (okS_c.mp (okS_c.mp ho).2).1
  have hy1 : in64 y := (okS_c.mp ho).1
  have hN := hk _ _ _ _ h Ext.rf adr H locs lsM hR hS (okS_c.mpr ⟨(by show in32 (cmpL x y); unfold cmpL in32; split; omega; split <;> omega), (okS_c.mp (okS_c.mp ho).2).2⟩) hL hn hl hg hx
  refine W.lcmp B.1 B.2.1 hd ?_
  rw [cmp_of hx1 hy1]
  exact hN
theorem sm_i2l (B : BX Z K) (hd : decode (zC Z) pc = .ok (.i2l, 1)) (h : sx C ret (.i2l) tg nn ax sw pc ls st w kr k = some o) (hk : KOK Z K w0 adr0 w k o) : AtM Z K w0 adr0 pc ls st w := by
  obtain ⟨x, r, hs, h'⟩ := pI_s h
  clear h
  subst hs
  have h := h'
  clear h'
  intro adr H locs lsM hR hS ho hL hn hl hg hx
  have hx1 : in32 x := (okS_c.mp ho).1
  have hN := hk _ _ _ _ h Ext.rf adr H locs lsM hR hS (okS_c.mpr ⟨(by show in64 x; unfold in64; unfold in32 at hx1; omega), (okS_c.mp ho).2⟩) hL hn hl hg hx
  exact lv_i2l B.1 B.2.1 hd (i2l_of hx1) hN
theorem sm_l2i (B : BX Z K) (hd : decode (zC Z) pc = .ok (.l2i, 1)) (h : sx C ret (.l2i) tg nn ax sw pc ls st w kr k = some o) (hk : KOK Z K w0 adr0 w k o) : AtM Z K w0 adr0 pc ls st w := by
  obtain ⟨x, r, hs, h'⟩ := pL_s h
  clear h
  subst hs
  have h := h'
  clear h'
  intro adr H locs lsM hR hS ho hL hn hl hg hx
  have hx1 : in64 x := (okS_c.mp ho).1
  have hN := hk _ _ _ _ h Ext.rf adr H locs lsM hR hS (okS_c.mpr ⟨in32_w _, (okS_c.mp ho).2⟩) hL hn hl hg hx
  exact lv_l2i B.1 B.2.1 hd (l2i_of hx1) hN
theorem sm_i2b (B : BX Z K) (hd : decode (zC Z) pc = .ok (.i2b, 1)) (h : sx C ret (.i2b) tg nn ax sw pc ls st w kr k = some o) (hk : KOK Z K w0 adr0 w k o) : AtM Z K w0 adr0 pc ls st w := by
  obtain ⟨x, r, hs, h'⟩ := pI_s h
  clear h
  subst hs
  have h := h'
  clear h'
  obtain ⟨hc, h⟩ := if_s h
  intro adr H locs lsM hR hS ho hL hn hl hg hx
  have hN := hk _ _ _ _ h Ext.rf adr H locs lsM hR hS ho hL hn hl hg hx
  exact lv_i2b B.1 B.2.1 hd (i2b_of hc.1 hc.2) hN
theorem sm_dup (B : BX Z K) (hd : decode (zC Z) pc = .ok (.dup, 1)) (h : sx C ret (.dup) tg nn ax sw pc ls st w kr k = some o) (hk : KOK Z K w0 adr0 w k o) : AtM Z K w0 adr0 pc ls st w := by
  obtain ⟨v, r, hs, hc, h'⟩ := p1_s h
  clear h
  subst hs
  have h := h'
  clear h'
  intro adr H locs lsM hR hS ho hL hn hl hg hx
  have hN := hk _ _ _ _ h Ext.rf adr H locs lsM hR hS (okS_c.mpr ⟨(okS_c.mp ho).1, ho⟩) hL hn hl hg hx
  exact lv_dup B.1 B.2.1 hd ((cat_mv adr v).trans hc) hN
theorem sm_dup2 (B : BX Z K) (hd : decode (zC Z) pc = .ok (.dup2, 1)) (h : sx C ret (.dup2) tg nn ax sw pc ls st w kr k = some o) (hk : KOK Z K w0 adr0 w k o) : AtM Z K w0 adr0 pc ls st w := by
  obtain ⟨v, r, hs, hc, h'⟩ := p1_s h
  clear h
  subst hs
  have h := h'
  clear h'
  obtain ⟨u, r, hs, hc2, h'⟩ := p1_s h
  clear h
  subst hs
  have h := h'
  clear h'
  intro adr H locs lsM hR hS ho hL hn hl hg hx
  have hN := hk _ _ _ _ h Ext.rf adr H locs lsM hR hS (okS_c.mpr ⟨(okS_c.mp ho).1, okS_c.mpr ⟨(okS_c.mp (okS_c.mp ho).2).1, ho⟩⟩) hL hn hl hg hx
  exact lv_dup2_11 B.1 B.2.1 hd ((cat_mv adr v).trans hc) ((cat_mv adr u).trans hc2) hN
theorem sm_pop (B : BX Z K) (hd : decode (zC Z) pc = .ok (.pop, 1)) (h : sx C ret (.pop) tg nn ax sw pc ls st w kr k = some o) (hk : KOK Z K w0 adr0 w k o) : AtM Z K w0 adr0 pc ls st w := by
  obtain ⟨v, r, hs, hc, h'⟩ := p1_s h
  clear h
  subst hs
  have h := h'
  clear h'
  intro adr H locs lsM hR hS ho hL hn hl hg hx
  have hN := hk _ _ _ _ h Ext.rf adr H locs lsM hR hS (okS_c.mp ho).2 hL hn hl hg hx
  exact lv_pop B.1 B.2.1 hd ((cat_mv adr v).trans hc) hN
theorem sm_goto (B : BX Z K) {off : Int} (ht : (pc : Int) + off = (tg : Int)) (hd : decode (zC Z) pc = .ok (.goto off, 3)) (h : sx C ret (.goto off) tg nn ax sw pc ls st w kr k = some o) (hk : KOK Z K w0 adr0 w k o) : AtM Z K w0 adr0 pc ls st w := by
  intro adr H locs lsM hR hS ho hL hn hl hg hx
  exact lv_goto B.1 B.2.1 hd ht (hk _ _ _ _ h Ext.rf adr H locs lsM hR hS ho hL hn hl hg hx)
theorem sm_if_eq (B : BX Z K) {off : Int} (ht : (pc : Int) + off = (tg : Int)) (hd : decode (zC Z) pc = .ok (.ifCond .eq off, 3)) (h : sx C ret (.ifCond .eq off) tg nn ax sw pc ls st w kr k = some o) (hk : KOK Z K w0 adr0 w k o) : AtM Z K w0 adr0 pc ls st w := by
  obtain ⟨x, r, hs, h'⟩ := pI_s h
  clear h
  subst hs
  have h := h'
  clear h'
  intro adr H locs lsM hR hS ho hL hn hl hg hx
  have hx1 : in32 x := (okS_c.mp ho).1
  refine lv_if_eq (tgt := tg) B.1 B.2.1 hd ht (fun c => ?_) (fun c => ?_)
  · rw [if_pos ((ofI_eq0 hx1).mp c)] at h
    exact hk _ _ _ _ h Ext.rf adr H locs lsM hR hS (okS_c.mp ho).2 hL hn hl hg hx
  · rw [if_neg (fun z => c ((ofI_eq0 hx1).mpr z))] at h
    exact hk _ _ _ _ h Ext.rf adr H locs lsM hR hS (okS_c.mp ho).2 hL hn hl hg hx
theorem sm_if_ne (B : BX Z K) {off : Int} (ht : (pc : Int) + off = (tg : Int)) (hd : decode (zC Z) pc = .ok (.ifCond .ne off, 3)) (h : sx C ret (.ifCond .ne off) tg nn ax sw pc ls st w kr k = some o) (hk : KOK Z K w0 adr0 w k o) : AtM Z K w0 adr0 pc ls st w := by
  obtain ⟨x, r, hs, h'⟩ := pI_s h
  clear h
  subst hs
  have h := h'
  clear h'
  intro adr H locs lsM hR hS ho hL hn hl hg hx
  have hx1 : in32 x := (okS_c.mp ho).1
  refine lv_if_ne (tgt := tg) B.1 B.2.1 hd ht (fun c => ?_) (fun c => ?_)
  · rw [if_neg (fun z => c ((ofI_eq0 hx1).mpr z))] at h
    exact hk _ _ _ _ h Ext.rf adr H locs lsM hR hS (okS_c.mp ho).2 hL hn hl hg hx
  · rw [if_pos ((ofI_eq0 hx1).mp c)] at h
    exact hk _ _ _ _ h Ext.rf adr H locs lsM hR hS (okS_c.mp ho).2 hL hn hl hg hx
theorem sm_if_lt (B : BX Z K) {off : Int} (ht : (pc : Int) + off = (tg : Int)) (hd : decode (zC Z) pc = .ok (.ifCond .lt off, 3)) (h : sx C ret (.ifCond .lt off) tg nn ax sw pc ls st w kr k = some o) (hk : KOK Z K w0 adr0 w k o) : AtM Z K w0 adr0 pc ls st w := by
  obtain ⟨x, r, hs, h'⟩ := pI_s h
  clear h
  subst hs
  have h := h'
  clear h'
  intro adr H locs lsM hR hS ho hL hn hl hg hx
  have hx1 : in32 x := (okS_c.mp ho).1
  refine lv_if_lt (tgt := tg) B.1 B.2.1 hd ht (fun c => ?_) (fun c => ?_)
  · rw [if_pos ((ofI_lt0 hx1).mp c)] at h
    exact hk _ _ _ _ h Ext.rf adr H locs lsM hR hS (okS_c.mp ho).2 hL hn hl hg hx
  · rw [if_neg (fun z => c ((ofI_lt0 hx1).mpr z))] at h
    exact hk _ _ _ _ h Ext.rf adr H locs lsM hR hS (okS_c.mp ho).2 hL hn hl hg hx
theorem sm_if_ge (B : BX Z K) {off : Int} (ht : (pc : Int) + off = (tg : Int)) (hd : decode (zC Z) pc = .ok (.ifCond .ge off, 3)) (h : sx C ret (.ifCond .ge off) tg nn ax sw pc ls st w kr k = some o) (hk : KOK Z K w0 adr0 w k o) : AtM Z K w0 adr0 pc ls st w := by
  obtain ⟨x, r, hs, h'⟩ := pI_s h
  clear h
  subst hs
  have h := h'
  clear h'
  intro adr H locs lsM hR hS ho hL hn hl hg hx
  have hx1 : in32 x := (okS_c.mp ho).1
  refine lv_if_ge (tgt := tg) B.1 B.2.1 hd ht (fun c => ?_) (fun c => ?_)
  · rw [if_neg (by have := (ofI_ge0 hx1).mp c; omega)] at h
    exact hk _ _ _ _ h Ext.rf adr H locs lsM hR hS (okS_c.mp ho).2 hL hn hl hg hx
  · rw [if_pos (by have : ¬ _ := fun z => c ((ofI_ge0 hx1).mpr z); omega)] at h
    exact hk _ _ _ _ h Ext.rf adr H locs lsM hR hS (okS_c.mp ho).2 hL hn hl hg hx
theorem sm_if_gt (B : BX Z K) {off : Int} (ht : (pc : Int) + off = (tg : Int)) (hd : decode (zC Z) pc = .ok (.ifCond .gt off, 3)) (h : sx C ret (.ifCond .gt off) tg nn ax sw pc ls st w kr k = some o) (hk : KOK Z K w0 adr0 w k o) : AtM Z K w0 adr0 pc ls st w := by
  obtain ⟨x, r, hs, h'⟩ := pI_s h
  clear h
  subst hs
  have h := h'
  clear h'
  intro adr H locs lsM hR hS ho hL hn hl hg hx
  have hx1 : in32 x := (okS_c.mp ho).1
  refine lv_if_gt (tgt := tg) B.1 B.2.1 hd ht (fun c => ?_) (fun c => ?_)
  · rw [if_pos ((ofI_gt0 hx1).mp c)] at h
    exact hk _ _ _ _ h Ext.rf adr H locs lsM hR hS (okS_c.mp ho).2 hL hn hl hg hx
  · rw [if_neg (fun z => c ((ofI_gt0 hx1).mpr z))] at h
    exact hk _ _ _ _ h Ext.rf adr H locs lsM hR hS (okS_c.mp ho).2 hL hn hl hg hx
theorem sm_if_le (B : BX Z K) {off : Int} (ht : (pc : Int) + off = (tg : Int)) (hd : decode (zC Z) pc = .ok (.ifCond .le off, 3)) (h : sx C ret (.ifCond .le off) tg nn ax sw pc ls st w kr k = some o) (hk : KOK Z K w0 adr0 w k o) : AtM Z K w0 adr0 pc ls st w := by
  obtain ⟨x, r, hs, h'⟩ := pI_s h
  clear h
  subst hs
  have h := h'
  clear h'
  intro adr H locs lsM hR hS ho hL hn hl hg hx
  have hx1 : in32 x := (okS_c.mp ho).1
  refine lv_if_le (tgt := tg) B.1 B.2.1 hd ht (fun c => ?_) (fun c => ?_)
  · rw [if_neg (by have := (ofI_le0 hx1).mp c; omega)] at h
    exact hk _ _ _ _ h Ext.rf adr H locs lsM hR hS (okS_c.mp ho).2 hL hn hl hg hx
  · rw [if_pos (by have : ¬ _ := fun z => c ((ofI_le0 hx1).mpr z); omega)] at h
    exact hk _ _ _ _ h Ext.rf adr H locs lsM hR hS (okS_c.mp ho).2 hL hn hl hg hx
theorem sm_icmp_eq (B : BX Z K) {off : Int} (ht : (pc : Int) + off = (tg : Int)) (hd : decode (zC Z) pc = .ok (.if_icmp .eq off, 3)) (h : sx C ret (.if_icmp .eq off) tg nn ax sw pc ls st w kr k = some o) (hk : KOK Z K w0 adr0 w k o) : AtM Z K w0 adr0 pc ls st w := by
  obtain ⟨y, r, hs, h'⟩ := pI_s h
  clear h
  subst hs
  have h := h'
  clear h'
  obtain ⟨x, r, hs, h'⟩ := pI_s h
  clear h
  subst hs
  have h := h'
  clear h'
  intro adr H locs lsM hR hS ho hL hn hl hg hx
  have hx1 : in32 x := (okS_c.mp (okS_c.mp ho).2).1
  have hy1 : in32 y := (okS_c.mp ho).1
  refine lv_icmp_eq (tgt := tg) B.1 B.2.1 hd ht (fun c => ?_) (fun c => ?_)
  · rw [if_pos ((ofI_eq hx1 hy1).mp c)] at h
    exact hk _ _ _ _ h Ext.rf adr H locs lsM hR hS (okS_c.mp (okS_c.mp ho).2).2 hL hn hl hg hx
  · rw [if_neg (fun z => c ((ofI_eq hx1 hy1).mpr z))] at h
    exact hk _ _ _ _ h Ext.rf adr H locs lsM hR hS (okS_c.mp (okS_c.mp ho).2).2 hL hn hl hg hx
theorem sm_icmp_ne (B : BX Z K) {off : Int} (ht : (pc : Int) + off = (tg : Int)) (hd : decode (zC Z) pc = .ok (.if_icmp .ne off, 3)) (h : sx C ret (.if_icmp .ne off) tg nn ax sw pc ls st w kr k = some o) (hk : KOK Z K w0 adr0 w k o) : AtM Z K w0 adr0 pc ls st w := by
  obtain ⟨y, r, hs, h'⟩ := pI_s h
  clear h
  subst hs
  have h := h'
  clear h'
  obtain ⟨x, r, hs, h'⟩ := pI_s h
  clear h
  subst hs
  have h := h'
  clear h'
  intro adr H locs lsM hR hS ho hL hn hl hg hx
  have hx1 : in32 x := (okS_c.mp (okS_c.mp ho).2).1
  have hy1 : in32 y := (okS_c.mp ho).1
  refine lv_icmp_ne (tgt := tg) B.1 B.2.1 hd ht (fun c => ?_) (fun c => ?_)
  · rw [if_neg (fun z => c ((ofI_eq hx1 hy1).mpr z))] at h
    exact hk _ _ _ _ h Ext.rf adr H locs lsM hR hS (okS_c.mp (okS_c.mp ho).2).2 hL hn hl hg hx
  · rw [if_pos ((ofI_eq hx1 hy1).mp c)] at h
    exact hk _ _ _ _ h Ext.rf adr H locs lsM hR hS (okS_c.mp (okS_c.mp ho).2).2 hL hn hl hg hx
theorem sm_icmp_lt (B : BX Z K) {off : Int} (ht : (pc : Int) + off = (tg : Int)) (hd : decode (zC Z) pc = .ok (.if_icmp .lt off, 3)) (h : sx C ret (.if_icmp .lt off) tg nn ax sw pc ls st w kr k = some o) (hk : KOK Z K w0 adr0 w k o) : AtM Z K w0 adr0 pc ls st w := by
  obtain ⟨y, r, hs, h'⟩ := pI_s h
  clear h
  subst hs
  have h := h'
  clear h'
  obtain ⟨x, r, hs, h'⟩ := pI_s h
  clear h
  subst hs
  have h := h'
  clear h'
  intro adr H locs lsM hR hS ho hL hn hl hg hx
  have hx1 : in32 x := (okS_c.mp (okS_c.mp ho).2).1
  have hy1 : in32 y := (okS_c.mp ho).1
  refine lv_icmp_lt (tgt := tg) B.1 B.2.1 hd ht (fun c => ?_) (fun c => ?_)
  · rw [if_pos ((ofI_lt hx1 hy1).mp c)] at h
    exact hk _ _ _ _ h Ext.rf adr H locs lsM hR hS (okS_c.mp (okS_c.mp ho).2).2 hL hn hl hg hx
  · rw [if_neg (fun z => c ((ofI_lt hx1 hy1).mpr z))] at h
    exact hk _ _ _ _ h Ext.rf adr H locs lsM hR hS (okS_c.mp (okS_c.mp ho).2).2 hL hn hl hg hx
theorem sm_icmp_ge (B : BX Z K) {off : Int} (ht : (pc : Int) + off = (tg : Int)) (hd : decode (zC Z) pc = .ok (.if_icmp .ge off, 3)) (h : sx C ret (.if_icmp .ge off) tg nn ax sw pc ls st w kr k = some o) (hk : KOK Z K w0 adr0 w k o) : AtM Z K w0 adr0 pc ls st w := by
  obtain ⟨y, r, hs, h'⟩ := pI_s h
  clear h
  subst hs
  have h := h'
  clear h'
  obtain ⟨x, r, hs, h'⟩ := pI_s h
  clear h
  subst hs
  have h := h'
  clear h'
  intro adr H locs lsM hR hS ho hL hn hl hg hx
  have hx1 : in32 x := (okS_c.mp (okS_c.mp ho).2).1
  have hy1 : in32 y := (okS_c.mp ho).1
  refine lv_icmp_ge (tgt := tg) B.1 B.2.1 hd ht (fun c => ?_) (fun c => ?_)
  · rw [if_neg (by have := (ofI_le hy1 hx1).mp c; omega)] at h
    exact hk _ _ _ _ h Ext.rf adr H locs lsM hR hS (okS_c.mp (okS_c.mp ho).2).2 hL hn hl hg hx
  · rw [if_pos (by have : ¬ _ := fun z => c ((ofI_le hy1 hx1).mpr z); omega)] at h
    exact hk _ _ _ _ h Ext.rf adr H locs lsM hR hS (okS_c.mp (okS_c.mp ho).2).2 hL hn hl hg hx
theorem sm_icmp_gt (B : BX Z K) {off : Int} (ht : (pc : Int) + off = (tg : Int)) (hd : decode (zC Z) pc = .ok (.if_icmp .gt off, 3)) (h : sx C ret (.if_icmp .gt off) tg nn ax sw pc ls st w kr k = some o) (hk : KOK Z K w0 adr0 w k o) : AtM Z K w0 adr0 pc ls st w := by
  obtain ⟨y, r, hs, h'⟩ := pI_s h
  clear h
  subst hs
  have h := h'
  clear h'
  obtain ⟨x, r, hs, h'⟩ := pI_s h
  clear h
  subst hs
  have h := h'
  clear h'
  intro adr H locs lsM hR hS ho hL hn hl hg hx
  have hx1 : in32 x := (okS_c.mp (okS_c.mp ho).2).1
  have hy1 : in32 y := (okS_c.mp ho).1
  refine lv_icmp_gt (tgt := tg) B.1 B.2.1 hd ht (fun c => ?_) (fun c => ?_)
  · rw [if_pos ((ofI_lt hy1 hx1).mp c)] at h
    exact hk _ _ _ _ h Ext.rf adr H locs lsM hR hS (okS_c.mp (okS_c.mp ho).2).2 hL hn hl hg hx
  · rw [if_neg (fun z => c ((ofI_lt hy1 hx1).mpr z))] at h
    exact hk _ _ _ _ h Ext.rf adr H locs lsM hR hS (okS_c.mp (okS_c.mp ho).2).2 hL hn hl hg hx
theorem sm_icmp_le (B : BX Z K) {off : Int} (ht : (pc : Int) + off = (tg : Int)) (hd : decode (zC Z) pc = .ok (.if_icmp .le off, 3)) (h : sx C ret (.if_icmp .le off) tg nn ax sw pc ls st w kr k = some o) (hk : KOK Z K w0 adr0 w k o) : AtM Z K w0 adr0 pc ls st w := by
  obtain ⟨y, r, hs, h'⟩ := pI_s h
  clear h
  subst hs
  have h := h'
  clear h'
  obtain ⟨x, r, hs, h'⟩ := pI_s h
  clear h
  subst hs
  have h := h'
  clear h'
  intro adr H locs lsM hR hS ho hL hn hl hg hx
  have hx1 : in32 x := (okS_c.mp (okS_c.mp ho).2).1
  have hy1 : in32 y := (okS_c.mp ho).1
  refine lv_icmp_le (tgt := tg) B.1 B.2.1 hd ht (fun c => ?_) (fun c => ?_)
  · rw [if_neg (by have := (ofI_le hx1 hy1).mp c; omega)] at h
    exact hk _ _ _ _ h Ext.rf adr H locs lsM hR hS (okS_c.mp (okS_c.mp ho).2).2 hL hn hl hg hx
  · rw [if_pos (by have : ¬ _ := fun z => c ((ofI_le hx1 hy1).mpr z); omega)] at h
    exact hk _ _ _ _ h Ext.rf adr H locs lsM hR hS (okS_c.mp (okS_c.mp ho).2).2 hL hn hl hg hx
theorem sm_ifnull (B : BX Z K) {off : Int} (ht : (pc : Int) + off = (tg : Int)) (hd : decode (zC Z) pc = .ok (.ifnull off, 3)) (h : sx C ret (.ifnull off) tg nn ax sw pc ls st w kr k = some o) (hk : KOK Z K w0 adr0 w k o) : AtM Z K w0 adr0 pc ls st w := by
  obtain ⟨x, r, hs, h'⟩ := pR_s h
  clear h
  subst hs
  have h := h'
  clear h'
  intro adr H locs lsM hR hS ho hL hn hl hg hx
  by_cases hz : x = 0
  · rw [if_pos hz] at h
    have hN := hk _ _ _ _ h Ext.rf adr H locs lsM hR hS (okS_c.mp ho).2 hL hn hl hg hx
    simp only [List.map_cons, mvV, if_pos hz]
    exact lv_ifnullN B.1 B.2.1 hd ht hN
  · rw [if_neg hz] at h
    have hN := hk _ _ _ _ h Ext.rf adr H locs lsM hR hS (okS_c.mp ho).2 hL hn hl hg hx
    simp only [List.map_cons, mvV, if_neg hz]
    exact lv_ifnull B.1 B.2.1 hd hN
theorem sm_ifnonnull (B : BX Z K) {off : Int} (ht : (pc : Int) + off = (tg : Int)) (hd : decode (zC Z) pc = .ok (.ifnonnull off, 3)) (h : sx C ret (.ifnonnull off) tg nn ax sw pc ls st w kr k = some o) (hk : KOK Z K w0 adr0 w k o) : AtM Z K w0 adr0 pc ls st w := by
  obtain ⟨x, r, hs, h'⟩ := pR_s h
  clear h
  subst hs
  have h := h'
  clear h'
  intro adr H locs lsM hR hS ho hL hn hl hg hx
  by_cases hz : x = 0
  · rw [if_pos hz] at h
    have hN := hk _ _ _ _ h Ext.rf adr H locs lsM hR hS (okS_c.mp ho).2 hL hn hl hg hx
    simp only [List.map_cons, mvV, if_pos hz]
    exact lv_ifnonnullN B.1 B.2.1 hd hN
  · rw [if_neg hz] at h
    have hN := hk _ _ _ _ h Ext.rf adr H locs lsM hR hS (okS_c.mp ho).2 hL hn hl hg hx
    simp only [List.map_cons, mvV, if_neg hz]
    exact lv_ifnonnull B.1 B.2.1 hd ht hN
end SD
end
section
/-! ===== worlds: reads, writes, new cells ===== -/
theorem okV_kd {w w' : sW} (h : ∀ r, kd w' r = kd w r) {v : sV} : okV w' v ↔ okV w v := by
  rcases v with x | x | r
  · exact Iff.rfl
  · exact Iff.rfl
  · show (r = 0 ∨ kd w' r ≠ 0) ↔ (r = 0 ∨ kd w r ≠ 0)
    rw [h r]
/-- a world of the same shapes, other only in the cell r -/
theorem WFw.upd {L : Nat} {xs : Nat → Int32} {w w' : sW} {r : Int} (h : WFw L xs w) (hs : w'.1 = w.1) (hn : nx w' = nx w) (hg : ∀ a j, a ≠ r → gv w' a j = gv w a j) (h32 : 32 ≤ r) (hc : okC w' r) : WFw L xs w' := by
  have hkd : ∀ a, kd w' a = kd w a := fun a => by unfold kd; rw [hs]
  have hln : ∀ a, ln w' a = ln w a := fun a => by unfold ln; rw [hs]
  obtain ⟨h1, h2, h3, h4, h5, h6⟩ := h
  refine ⟨by rw [hn]; exact h1, fun k hk => ?_, ⟨by rw [hs]; exact h3.1, fun j hj => ?_⟩, ⟨by rw [hs]; exact h4.1, fun j hj => ?_⟩, fun a ha => ?_, fun a h7 h8 => ?_⟩
  · obtain ⟨q1, q2, q3, q4⟩ := h2 k hk
    have hne : (k : Int) + 1 ≠ r := by omega
    exact ⟨by rw [hs]; exact q1, by rw [hg _ _ hne]; exact q2, by rw [hg _ _ hne]; exact q3, by rw [hg _ _ hne]; exact q4⟩
  · rw [hg _ _ (by omega)]; exact h3.2 j hj
  · rw [hg _ _ (by omega)]; exact h4.2 j hj
  · rw [hkd]; rw [hn] at ha; exact h5 a ha
  · by_cases e : a = r
    · rw [e]; exact hc
    · rw [hn] at h8
      have := h6 a h7 h8
      unfold okC at this ⊢
      simp only [hkd, hln, hg _ _ e, okV_kd hkd]
      exact this
theorem va_rf_mv (adr : Int → Nat) (r : Int) : mvV adr (.inr (.inr r)) = va_rf (rO adr r) := by
  show (if r = 0 then Value.null else Value.ref (adr r)) = va_rf (if r = 0 then none else some (adr r))
  split <;> rfl
theorem mv_ref {adr : Int → Nat} {r : Int} (h : r ≠ 0) : mvV adr (.inr (.inr r)) = .ref (adr r) := if_neg h
section ARR
variable {cA : Nat → ClassId} {adr : Int → Nat} {w : sW} {r : Int}
theorem cell_int (h : kd w r = 20) : cellOf cA adr w r = .inl (cA 0, (ln w r).toNat, .inl (fun j : Nat => Int32.ofInt (gv w r j))) := by
  simp [cellOf, h]
theorem cell_byte (h : kd w r = 21) : cellOf cA adr w r = .inl (cA 1, (ln w r).toNat, .inl (fun j : Nat => Int32.ofInt (gv w r j))) := by
  simp [cellOf, h]
theorem cell_long (h : kd w r = 22) : cellOf cA adr w r = .inl (cA 2, (ln w r).toNat, .inr (.inl (fun j : Nat => Int64.ofInt (gv w r j)))) := by
  simp [cellOf, h]
theorem cell_bool (h : kd w r = 23) : cellOf cA adr w r = .inl (cA 3, (ln w r).toNat, .inl (fun j : Nat => Int32.ofInt (gv w r j))) := by
  simp [cellOf, h]
theorem cell_ref {n : Nat} (h : kd w r = ((n + 24 : Nat) : Int)) (hn : n < 4) : cellOf cA adr w r = .inl (cA (n + 4), (ln w r).toNat, .inr (.inr (.inr (.inr (fun j : Nat => rO adr (gv w r j)))))) := by
  unfold cellOf
  rw [if_neg (by omega), if_pos (by omega), show (kd w r).toNat - 20 = n + 4 by omega]
theorem cell_obj {n : Nat} (h : kd w r = ((n + 1 : Nat) : Int)) (hn : n < 10) : cellOf cA adr w r = .inr (n, fldO adr w r) := by
  unfold cellOf
  rw [if_neg (by omega), if_neg (by omega), if_neg (by omega), show (kd w r).toNat - 1 = n by omega]
end ARR
theorem fldO_get {adr : Int → Nat} {w : sW} {r : Int} {k : Nat} (h : k < nF (kd w r)) : (fldO adr w r)[k]? = some (mvV adr (mkV (fT (kd w r) k) (gv w r k))) := by
  unfold fldO
  rw [List.getElem?_map, List.getElem?_range h]
  rfl
theorem fldO_len {adr : Int → Nat} {w : sW} {r : Int} : (fldO adr w r).length = nF (kd w r) := by simp [fldO]
theorem fldO_set {adr : Int → Nat} {w : sW} {r v : Int} {k : Nat} (h : k < nF (kd w r)) : fldO adr (sv w r k v) r = (fldO adr w r).set k (mvV adr (mkV (fT (kd w r) k) v)) := by
  unfold fldO
  apply List.ext_getElem?
  intro i
  rw [List.getElem?_set, List.getElem?_map, kd_sv]
  by_cases hi : i < nF (kd w r)
  · rw [List.getElem?_range hi]
    by_cases e : k = i
    · subst e
      rw [if_pos rfl, if_pos (by simpa using hi)]
      simp [gv_sv]
    · rw [if_neg e]
      have : ¬ ((i : Int) = (k : Int)) := by omega
      simp [gv_sv, this, List.getElem?_range hi]
  · rw [List.getElem?_eq_none (by simp; omega)]
    by_cases e : k = i
    · omega
    · rw [if_neg e, List.getElem?_eq_none (by simp; omega)]
      rfl
theorem upd_of {w : sW} {r i v : Int} (h0 : 0 ≤ i) (x : Int32) (hx : x = Int32.ofInt v) : upd (fun j : Nat => Int32.ofInt (gv w r j)) i.toNat x = fun j : Nat => Int32.ofInt (gv (sv w r i v) r j) := by
  funext j
  rw [gv_sv]
  unfold upd
  by_cases e : j = i.toNat
  · rw [if_pos e, if_pos ⟨rfl, by omega⟩, hx]
  · rw [if_neg e, if_neg (fun z => e (by omega))]
theorem updL_of {w : sW} {r i v : Int} (h0 : 0 ≤ i) : vp_updL (fun j : Nat => Int64.ofInt (gv w r j)) i.toNat (Int64.ofInt v) = fun j : Nat => Int64.ofInt (gv (sv w r i v) r j) := by
  funext j
  rw [gv_sv]
  unfold vp_updL
  by_cases e : j = i.toNat
  · rw [if_pos e, if_pos ⟨rfl, by omega⟩]
  · rw [if_neg e, if_neg (fun z => e (by omega))]
theorem updR_of {adr : Int → Nat} {w : sW} {r i v : Int} (h0 : 0 ≤ i) (hv : v ≠ 0) : va_up (fun j : Nat => rO adr (gv w r j)) i.toNat (some (adr v)) = fun j : Nat => rO adr (gv (sv w r i v) r j) := by
  funext j
  rw [gv_sv]
  unfold va_up
  by_cases e : j = i.toNat
  · rw [if_pos e, if_pos ⟨rfl, by omega⟩]
    exact (if_neg hv).symm
  · rw [if_neg e, if_neg (fun z => e (by omega))]
/-- a write into an array keeps the world sound -/
theorem okC_sva {w : sW} {r i v : Int} (h : okC w r) (h20 : 20 ≤ kd w r) (hv : okV w (mkV (elT (kd w r)) v)) (hb : kd w r = 21 → -128 ≤ v ∧ v < 128) : okC (sv w r i v) r := by
  rcases h with h | h
  · omega
  · right
    refine ⟨h.1, h.2.1, fun j => ?_, fun hk j => ?_⟩
    · rw [gv_sv, kd_sv]
      rw [okV_kd (kd_sv w r i v)]
      split
      · exact hv
      · exact h.2.2.1 j
    · rw [gv_sv]
      split
      · exact hb hk
      · exact h.2.2.2 hk j
theorem okC_svo {w : sW} {r v : Int} {k : Nat} (h : okC w r) (h10 : kd w r ≤ 10) (hv : okV w (mkV (fT (kd w r) k) v)) : okC (sv w r k v) r := by
  rcases h with h | h
  · left
    refine ⟨h.1, fun j => ?_⟩
    rw [gv_sv, kd_sv, okV_kd (kd_sv w r k v)]
    by_cases e : (j : Int) = (k : Int)
    · rw [if_pos ⟨rfl, e⟩]
      have : j = k := by omega
      rw [this]; exact hv
    · rw [if_neg (fun z => e z.2)]
      exact h.2 j
  · omega
theorem RW.live {K : LC} {w : sW} {adr : Int → Nat} {H : Heap} (h : RW K w adr H) {r : Int} (h1 : 32 ≤ r) (h2 : kd w r ≠ 0) : r < nx w ∧ okC w r := ⟨h.1.lt r h2, h.1.2.2.2.2.2 r h1 (h.1.lt r h2)⟩
theorem kd_big {L : Nat} {xs : Nat → Int32} {w : sW} (h : WFw L xs w) {r : Int} (hk : (1 ≤ kd w r ∧ kd w r ≤ 10) ∨ (21 ≤ kd w r ∧ kd w r ≤ 26)) : 32 ≤ r := by
  have hp := h.pos r (by omega)
  rcases hp.2 with q | q
  · exfalso
    by_cases e24 : r = 24
    · subst e24
      have := h.2.2.1.1
      unfold kd at hk
      rw [this] at hk
      simp at hk
    · by_cases e25 : r = 25
      · subst e25
        have := h.2.2.2.1.1
        unfold kd at hk
        rw [this] at hk
        simp at hk
      · have := (h.2.1 (r - 1).toNat (by omega)).1
        rw [show (((r - 1).toNat : Nat) : Int) + 1 = r by omega] at this
        unfold kd at hk
        rw [this] at hk
        simp at hk
  · exact q
theorem kd_30 {L : Nat} {xs : Nat → Int32} {w : sW} (h : WFw L xs w) {r : Int} (hk : kd w r = 30) : ∃ k : Nat, k < 23 ∧ r = (k : Int) + 1 := by
  have hp := h.pos r (by omega)
  rcases hp.2 with q | q
  · by_cases e24 : r = 24
    · subst e24
      have := h.2.2.1.1
      unfold kd at hk
      rw [this] at hk
      simp at hk
    · by_cases e25 : r = 25
      · subst e25
        have := h.2.2.2.1.1
        unfold kd at hk
        rw [this] at hk
        simp at hk
      · exact ⟨(r - 1).toNat, by omega, by omega⟩
  · have := h.2.2.2.2.2 r q (h.lt r (by omega))
    rcases this with z | z
    · omega
    · omega
theorem kd_small {L : Nat} {xs : Nat → Int32} {w : sW} (h : WFw L xs w) {r : Int} (hs : r < 32) (hk : 20 ≤ kd w r ∧ kd w r ≤ 27) : (r = 24 ∧ kd w r = 27 ∧ ln w r = 23) ∨ (r = 25 ∧ kd w r = 20 ∧ ln w r = (L : Int)) := by
  have hp := h.pos r (by omega)
  rcases hp.2 with q | q
  · by_cases e24 : r = 24
    · subst e24
      have := h.2.2.1.1
      left
      unfold kd ln
      rw [this]
      simp
    · by_cases e25 : r = 25
      · subst e25
        have := h.2.2.2.1.1
        right
        unfold kd ln
        rw [this]
        simp
      · exfalso
        have := (h.2.1 (r - 1).toNat (by omega)).1
        rw [show (((r - 1).toNat : Nat) : Int) + 1 = r by omega] at this
        unfold kd at hk
        rw [this] at hk
        simp at hk
  · omega
end
section
/-! ===== instructions that read and write the heap (printed by wip/whole/simf.py) ===== -/
def clN (n : Nat) : vw_C := vwCl.getD n ("", fun _ => ("", "", "", false), 0)
def tyN : Nat → Nat → FieldType
  | 0 => tyX0
  | 1 => tyX1
  | 2 => tyX3
  | 3 => tyX4
  | 4 => tyX5
  | 5 => tyX6
  | 6 => tyX7
  | 7 => tyX8
  | 8 => tyX11
  | _ => tyX12
def tyc : FieldType → Nat
  | .int => 0
  | .long => 1
  | .boolean => 3
  | .object _ => 2
  | .array _ => 2
  | _ => 9
theorem lt10 {n : Nat} (h : n < 10) : n = 0 ∨ n = 1 ∨ n = 2 ∨ n = 3 ∨ n = 4 ∨ n = 5 ∨ n = 6 ∨ n = 7 ∨ n = 8 ∨ n = 9 := by omega
theorem cl_at {n : Nat} (h : n < 10) : vwCl[n]? = some (clN n) := by
  rcases lt10 h with rfl | rfl | rfl | rfl | rfl | rfl | rfl | rfl | rfl | rfl <;> rfl
theorem cl_n {n : Nat} (h : n < 10) : (clN n).2.2 = nF ((n + 1 : Nat) : Int) := by
  rcases lt10 h with rfl | rfl | rfl | rfl | rfl | rfl | rfl | rfl | rfl | rfl <;> rfl
theorem cl_ty {n : Nat} (h : n < 10) : ∀ k, k < (clN n).2.2 → parseFieldDescriptor ((clN n).2.1 k).2.2.1 = some (tyN n k) := by
  rcases lt10 h with rfl | rfl | rfl | rfl | rfl | rfl | rfl | rfl | rfl | rfl
  · exact tyX0_ok
  · exact tyX1_ok
  · exact tyX3_ok
  · exact tyX4_ok
  · exact tyX5_ok
  · exact tyX6_ok
  · exact tyX7_ok
  · exact tyX8_ok
  · exact tyX11_ok
  · exact tyX12_ok
theorem cl_nm {n : Nat} (h : n < 10) : ∀ a, a < (clN n).2.2 → ∀ b, b < (clN n).2.2 → a ≠ b → ((clN n).2.1 a).2.1 ≠ ((clN n).2.1 b).2.1 := by
  rcases lt10 h with rfl | rfl | rfl | rfl | rfl | rfl | rfl | rfl | rfl | rfl
  · exact nmX0
  · exact nmX1
  · exact nmX3
  · exact nmX4
  · exact nmX5
  · exact nmX6
  · exact nmX7
  · exact nmX8
  · exact nmX11
  · exact nmX12
theorem cl_tc {n : Nat} (h : n < 10) : ∀ k, k < (clN n).2.2 → tyc (tyN n k) = fT ((n + 1 : Nat) : Int) k := by
  rcases lt10 h with rfl | rfl | rfl | rfl | rfl | rfl | rfl | rfl | rfl | rfl <;> decide +kernel
theorem cl_w0 : ∀ w ∈ u_ws (clN 0).1 (clN 0).2.1 (clN 0).2.2, w ∈ tG := by decide +kernel
theorem cl_w1 : ∀ w ∈ u_ws (clN 1).1 (clN 1).2.1 (clN 1).2.2, w ∈ tG := by decide +kernel
theorem cl_w2 : ∀ w ∈ u_ws (clN 2).1 (clN 2).2.1 (clN 2).2.2, w ∈ tG := by decide +kernel
theorem cl_w3 : ∀ w ∈ u_ws (clN 3).1 (clN 3).2.1 (clN 3).2.2, w ∈ tG := by decide +kernel
theorem cl_w4 : ∀ w ∈ u_ws (clN 4).1 (clN 4).2.1 (clN 4).2.2, w ∈ tG := by decide +kernel
theorem cl_w5 : ∀ w ∈ u_ws (clN 5).1 (clN 5).2.1 (clN 5).2.2, w ∈ tG := by decide +kernel
theorem cl_w6 : ∀ w ∈ u_ws (clN 6).1 (clN 6).2.1 (clN 6).2.2, w ∈ tG := by decide +kernel
theorem cl_w7 : ∀ w ∈ u_ws (clN 7).1 (clN 7).2.1 (clN 7).2.2, w ∈ tG := by decide +kernel
theorem cl_w8 : ∀ w ∈ u_ws (clN 8).1 (clN 8).2.1 (clN 8).2.2, w ∈ tG := by decide +kernel
theorem cl_w9 : ∀ w ∈ u_ws (clN 9).1 (clN 9).2.1 (clN 9).2.2, w ∈ tG := by decide +kernel
theorem cl_ws {n : Nat} (h : n < 10) : ∀ w ∈ u_ws (clN n).1 (clN n).2.1 (clN n).2.2, w ∈ tG := by
  rcases lt10 h with rfl | rfl | rfl | rfl | rfl | rfl | rfl | rfl | rfl | rfl
  · exact cl_w0
  · exact cl_w1
  · exact cl_w2
  · exact cl_w3
  · exact cl_w4
  · exact cl_w5
  · exact cl_w6
  · exact cl_w7
  · exact cl_w8
  · exact cl_w9
end
section
/-! ===== instructions that read and write the heap (printed by wip/whole/simg.py) ===== -/
theorem Old.kept {K : LC} {H : Heap} (h : Old K H) : ∀ a : Nat, a < (lcH K).size → ¬ oldA K a → H[a]? = (lcH K)[a]? := fun a ha _ => h.2 a ha
theorem tyc_0 {t : FieldType} (h : tyc t = 0) : t = .int := by cases t <;> simp [tyc] at h ⊢
theorem tyc_1 {t : FieldType} (h : tyc t = 1) : t = .long := by cases t <;> simp [tyc] at h ⊢
theorem tyc_3 {t : FieldType} (h : tyc t = 3) : t = .boolean := by cases t <;> simp [tyc] at h ⊢
theorem tyc_2 {t : FieldType} (h : tyc t = 2) : (∃ n, t = .object n) ∨ ∃ u, t = .array u := by
  cases t with
  | object n => exact Or.inl ⟨n, rfl⟩
  | array u => exact Or.inr ⟨u, rfl⟩
  | _ => simp [tyc] at h
section SG
variable {Z : MZ} {K : LC} {w0 w : sW} {adr0 : Int → Nat} {C : sC} {ret tg pc : Nat} {nn : List Nat} {ax : List Int} {sw : List (Int × Nat)} {ls : sL} {st : List sV} {kr : Option sV → sW → Option sO} {k : Nat → sL → List sV → sW → Option sO} {o : sO}
theorem sm_getfield (B : BX Z K) {i : Nat} (hr : ∃ n j : Nat, n < 10 ∧ ax = [((n + 1 : Nat) : Int), (j : Int)] ∧ j < nF ((n + 1 : Nat) : Int) ∧ tg = fT ((n + 1 : Nat) : Int) j ∧ Cond.fieldLink (zo Z) i ((clN n).2.1 j).1 ((clN n).2.1 j).2.1 ((clN n).2.1 j).2.2.1 ∈ zt Z) (hd : decode (zC Z) pc = .ok (.getfield i, 3)) (h : sx C ret (.getfield i) tg nn ax sw pc ls st w kr k = some o) (hk : KOK Z K w0 adr0 w k o) : AtM Z K w0 adr0 pc ls st w := by
  obtain ⟨n, j, hn10, hax, hj, htg, hlk⟩ := hr
  subst hax
  replace h : pR st _ = some o := h
  obtain ⟨a, r, hs, h'⟩ := pR_s h
  clear h
  subst hs
  have h := h'
  clear h'
  obtain ⟨hc, h⟩ := if_s h
  intro adr H locs lsM hR hS ho hL hn hl hg hx
  have h32 : 32 ≤ a := kd_big hR.1 (by omega)
  obtain ⟨hlt, hok⟩ := hR.live h32 (by omega)
  have hget := wsO_get (cA := lcA K) (adr := adr) h32 hlt
  rw [cell_obj hc hn10] at hget
  rw [htg, ← hc] at h
  have hv : okV w (mkV (fT (kd w a) j) (gv w a j)) := by
    rcases hok with z | z
    · exact z.2 j
    · omega
  have hN := hk _ _ _ _ h Ext.rf adr H locs lsM hR hS (okS_c.mpr ⟨hv, (okS_c.mp ho).2⟩) hL hn hl hg hx
  simp only [List.map_cons, mv_ref (show a ≠ 0 by omega)]
  exact va_get B.1 B.2.1 B.2.2.2.2.1 (fun w hw => B.2.2.2.2.2.1 w (cl_ws hn10 w hw)) B.2.2.2.1 B.2.2.2.2.2.2.1.1 hR.2.2.2.2.1 _ hget (cl_at hn10) j (by rw [cl_n hn10]; exact hj) (B.2.2.2.2.1 _ hlk) (fun x h => h) (fldO_get (by rw [hc]; exact hj)) hd hN
theorem sm_getword (B : BX Z K) {i : Nat} (hr : ∃ (j : Nat) (nm d : String), ax = [30, (j : Int)] ∧ ((j = 0 ∧ tg = 1 ∧ nm = "code" ∧ d = "J") ∨ (j = 1 ∧ tg = 0 ∧ nm = "sort" ∧ d = "I") ∨ (j = 2 ∧ tg = 0 ∧ nm = "base" ∧ d = "I")) ∧ Cond.fieldLink (zo Z) i RX10 nm d ∈ zt Z) (hd : decode (zC Z) pc = .ok (.getfield i, 3)) (h : sx C ret (.getfield i) tg nn ax sw pc ls st w kr k = some o) (hk : KOK Z K w0 adr0 w k o) : AtM Z K w0 adr0 pc ls st w := by
  obtain ⟨j, nm, d, hax, hj, hlk⟩ := hr
  subst hax
  replace h : pR st _ = some o := h
  obtain ⟨a, r, hs, h'⟩ := pR_s h
  clear h
  subst hs
  have h := h'
  clear h'
  obtain ⟨hc, h⟩ := if_s h
  intro adr H locs lsM hR hS ho hL hn hl hg hx
  obtain ⟨q, hq, ha⟩ := kd_30 hR.1 hc
  have had : adr a = lcE K q := by rw [ha]; exact hR.2.1 q hq
  obtain ⟨-, g0, g1, g2⟩ := hR.1.2.1 q hq
  have hwd : ∀ q, q < 23 → in64 (wWd.getD q (0, 0, 0)).1 ∧ in32 (wWd.getD q (0, 0, 0)).2.1 ∧ in32 (wWd.getD q (0, 0, 0)).2.2 := by unfold in64 in32; decide +kernel
  have KN1 := B.2.2.2.2.2.2.1
  have hO := B.2.2.2.2.2.2.2.1.kept
  simp only [List.map_cons, mv_ref (show a ≠ 0 by omega), had]
  rcases hj with ⟨rfl, rfl, rfl, rfl⟩ | ⟨rfl, rfl, rfl, rfl⟩ | ⟨rfl, rfl, rfl, rfl⟩
  · have e : gv w a ((0 : Nat) : Int) = (wWd.getD q (0, 0, 0)).1 := by rw [ha]; exact g0
    rw [e] at h
    have hN := hk _ _ _ _ h Ext.rf adr H locs lsM hR hS (okS_c.mpr ⟨(hwd q hq).1, (okS_c.mp ho).2⟩) hL hn hl hg hx
    exact va_getX B.1 B.2.1 (KN1.2.2.1.kept hO) hq hS B.2.2.2.1 (B.2.2.2.2.1 _ hlk) (fun x h => h) hd hN
  · have e : gv w a ((1 : Nat) : Int) = (wWd.getD q (0, 0, 0)).2.1 := by rw [ha]; exact g1
    rw [e] at h
    have hN := hk _ _ _ _ h Ext.rf adr H locs lsM hR hS (okS_c.mpr ⟨(hwd q hq).2.1, (okS_c.mp ho).2⟩) hL hn hl hg hx
    exact va_getX B.1 B.2.1 (KN1.2.2.2.1.kept hO) hq hS B.2.2.2.1 (B.2.2.2.2.1 _ hlk) (fun x h => h) hd hN
  · have e : gv w a ((2 : Nat) : Int) = (wWd.getD q (0, 0, 0)).2.2 := by rw [ha]; exact g2
    rw [e] at h
    have hN := hk _ _ _ _ h Ext.rf adr H locs lsM hR hS (okS_c.mpr ⟨(hwd q hq).2.2, (okS_c.mp ho).2⟩) hL hn hl hg hx
    exact va_getX B.1 B.2.1 (KN1.2.2.2.2.1.kept hO) hq hS B.2.2.2.1 (B.2.2.2.2.1 _ hlk) (fun x h => h) hd hN
theorem put_core (B : BX Z K) {i n j : Nat} {v : sV} {x a : Int} (hn10 : n < 10) (hj : j < nF ((n + 1 : Nat) : Int)) (hlk : Cond.fieldLink (zo Z) i ((clN n).2.1 j).1 ((clN n).2.1 j).2.1 ((clN n).2.1 j).2.2.1 ∈ zt Z)
    (hfin : ((clN n).2.1 j).2.2.2 = false ∨ (((clN n).2.1 j).2.2.2 = true ∧ (zh Z).name = "<init>" ∧ ((clN n).2.1 j).1 = zo Z)) (hv : v = mkV (fT ((n + 1 : Nat) : Int) j) x) (hnar : ∀ adr, narrow (tyN n j) (mvV adr v) = mvV adr v ∧ fits (tyN n j) (mvV adr v) = true) (hc : kd w a = ((n + 1 : Nat) : Int)) (hd : decode (zC Z) pc = .ok (.putfield i, 3))
    (hN : AtM Z K w0 adr0 (pc + 3) ls st (sv w a j x)) : AtM Z K w0 adr0 pc ls (v :: .inr (.inr a) :: st) w := by
  intro adr H locs lsM hR hS ho hL hn hl hg hx
  have h32 : 32 ≤ a := kd_big hR.1 (by omega)
  obtain ⟨hlt, hok⟩ := hR.live h32 (by omega)
  have hget := wsO_get (cA := lcA K) (adr := adr) h32 hlt
  rw [cell_obj hc hn10] at hget
  have hnew : okC (sv w a j x) a := okC_svo hok (by omega) (by rw [hc, ← hv]; exact (okS_c.mp ho).1)
  have hW' : WFw (lcL K) (lcX K) (sv w a j x) := hR.1.upd rfl rfl (fun b j' hb => by rw [gv_sv, if_neg (fun z => hb z.1)]) h32 hnew
  have hws : wsO (lcA K) adr (sv w a j x) = (wsO (lcA K) adr w).set (a - 32).toNat (adr a, .inr (n, (fldO adr w a).set j (mvV adr v))) := by
    rw [wsO_set (w := w) (w' := sv w a j x) h32 hlt rfl cellOf_sv, cell_obj (show kd (sv w a j x) a = _ from hc) hn10, fldO_set (by rw [hc]; exact hj), hc, ← hv]
  have hkk : ∀ (H1 : Heap) (locs1 : List Loc), va_P (lcD K) vwCl ((wsO (lcA K) adr w).set (a - 32).toNat (adr a, .inr (n, (fldO adr w a).set j (mvV adr v)))) H1 → va_D (oldA K) ((wsO (lcA K) adr w).set (a - 32).toNat (adr a, .inr (n, (fldO adr w a).set j (mvV adr v)))) → va_S (oldA K) (zs Z).heap H1 locs1 → Wz Z H1 locs1 (uc w - uc w0) (us w - us w0) (F0 (zm Z) (pc + 3) lsM (st.map (mvV adr))) := by
    intro H1 locs1 p1 p2 p3
    rw [← hws] at p1 p2
    exact hN adr H1 locs1 lsM ⟨hW', hR.2.1, hR.2.2.1, hR.2.2.2.1, p1, p2⟩ p3 (fun u hu => (okV_kd (kd_sv w a j x)).mpr ((okS_c.mp (okS_c.mp ho).2).2 u hu)) (fun u hu => (okV_kd (kd_sv w a j x)).mpr (hL u hu)) hn hl hg (hx.tr Ext.sv)
  simp only [List.map_cons, mv_ref (show a ≠ 0 by omega)]
  have hjn : j < (clN n).2.2 := by rw [cl_n hn10]; exact hj
  rcases hfin with hf | ⟨hf, hin, hown⟩
  · exact va_put B.1 B.2.1 B.2.2.2.2.1 (fun w hw => B.2.2.2.2.2.1 w (cl_ws hn10 w hw)) (tyN n) (cl_ty hn10) (cl_nm hn10) B.2.2.2.1 B.2.2.2.2.2.2.1.1 hR.2.2.2.2.1 hR.2.2.2.2.2 hS _ hget (cl_at hn10) j hjn (B.2.2.2.2.1 _ hlk) (fun x h => h) hf (cl_ty hn10 j hjn) (hnar adr).1 (hnar adr).2 (by rw [fldO_len, hc]; exact hj) hd hkk
  · exact va_putF B.1 B.2.1 B.2.2.2.2.1 (fun w hw => B.2.2.2.2.2.1 w (cl_ws hn10 w hw)) (tyN n) (cl_ty hn10) (cl_nm hn10) B.2.2.2.1 B.2.2.2.2.2.2.1.1 hR.2.2.2.2.1 hR.2.2.2.2.2 hS _ hget (cl_at hn10) j hjn (B.2.2.2.2.1 _ hlk) (fun x h => h) hf hin hown (cl_ty hn10 j hjn) (hnar adr).1 (hnar adr).2 (by rw [fldO_len, hc]; exact hj) hd hkk
theorem sm_putfield (B : BX Z K) {i : Nat} (hr : ∃ n j : Nat, n < 10 ∧ ax = [((n + 1 : Nat) : Int), (j : Int)] ∧ j < nF ((n + 1 : Nat) : Int) ∧ tg = fT ((n + 1 : Nat) : Int) j ∧ Cond.fieldLink (zo Z) i ((clN n).2.1 j).1 ((clN n).2.1 j).2.1 ((clN n).2.1 j).2.2.1 ∈ zt Z ∧ (((clN n).2.1 j).2.2.2 = false ∨ (((clN n).2.1 j).2.2.2 = true ∧ (zh Z).name = "<init>" ∧ ((clN n).2.1 j).1 = zo Z))) (hd : decode (zC Z) pc = .ok (.putfield i, 3)) (h : sx C ret (.putfield i) tg nn ax sw pc ls st w kr k = some o) (hk : KOK Z K w0 adr0 w k o) : AtM Z K w0 adr0 pc ls st w := by
  obtain ⟨n, j, hn10, hax, hj, htg, hlk, hfin⟩ := hr
  subst hax
  replace h : tC tg _ _ _ _ = some o := h
  have htc := cl_tc hn10 j (by rw [cl_n hn10]; exact hj)
  rw [← htg] at htc
  match tg, htg, htc, h with
  | 0, htg, htc, h =>
    replace h : pI st _ = some o := h
    obtain ⟨v, r, hs, h'⟩ := pI_s h
    clear h
    subst hs
    have h := h'
    clear h'
    obtain ⟨a, r, hs, h'⟩ := pR_s h
    clear h
    subst hs
    have h := h'
    clear h'
    obtain ⟨hc, h⟩ := if_s h
    have e := tyc_0 htc
    refine put_core B (v := .inl v) (x := v) hn10 hj hlk hfin (by rw [← htg]; rfl) (fun adr => ?_) hc hd (hk _ _ _ _ h Ext.sv)
    rw [e]
    exact ⟨rfl, rfl⟩
  | 1, htg, htc, h =>
    replace h : pL st _ = some o := h
    obtain ⟨v, r, hs, h'⟩ := pL_s h
    clear h
    subst hs
    have h := h'
    clear h'
    obtain ⟨a, r, hs, h'⟩ := pR_s h
    clear h
    subst hs
    have h := h'
    clear h'
    obtain ⟨hc, h⟩ := if_s h
    have e := tyc_1 htc
    refine put_core B (v := .inr (.inl v)) (x := v) hn10 hj hlk hfin (by rw [← htg]; rfl) (fun adr => ?_) hc hd (hk _ _ _ _ h Ext.sv)
    rw [e]
    exact ⟨rfl, rfl⟩
  | 2, htg, htc, h =>
    replace h : pR st _ = some o := h
    obtain ⟨v, r, hs, h'⟩ := pR_s h
    clear h
    subst hs
    have h := h'
    clear h'
    obtain ⟨a, r, hs, h'⟩ := pR_s h
    clear h
    subst hs
    have h := h'
    clear h'
    obtain ⟨hc, h⟩ := if_s h
    refine put_core B (v := .inr (.inr v)) (x := v) hn10 hj hlk hfin (by rw [← htg]; rfl) (fun adr => ?_) hc hd (hk _ _ _ _ h Ext.sv)
    rcases tyc_2 htc with ⟨c, e⟩ | ⟨c, e⟩ <;> rw [e, va_rf_mv] <;> cases rO adr v <;> exact ⟨rfl, rfl⟩
  | 3, htg, htc, h =>
    replace h : pI st _ = some o := h
    obtain ⟨v, r, hs, h'⟩ := pI_s h
    clear h
    subst hs
    have h := h'
    clear h'
    obtain ⟨a, r, hs, h'⟩ := pR_s h
    clear h
    subst hs
    have h := h'
    clear h'
    obtain ⟨hc, h⟩ := if_s h
    have e := tyc_3 htc
    refine put_core B (v := .inl v) (x := v) hn10 hj hlk hfin (by rw [← htg]; rfl) (fun adr => ?_) hc.1 hd (hk _ _ _ _ h Ext.sv)
    rw [e]
    rcases hc.2 with rfl | rfl
    · exact ⟨rfl, rfl⟩
    · exact ⟨rfl, rfl⟩
  | t + 4, htg, htc, h => cases h
theorem sm_getstatic (B : BX Z K) {i : Nat} (hr : (∃ q : Nat, q < 23 ∧ ax = [(q : Int) + 1] ∧ Cond.fieldLink (zo Z) i RX10 (enumN.getD q "") "LBitRopes$Word;" ∈ zt Z) ∨ (ax = [24] ∧ Cond.fieldLink (zo Z) i RX10 "ALL" "[LBitRopes$Word;" ∈ zt Z)) (hd : decode (zC Z) pc = .ok (.getstatic i, 3)) (h : sx C ret (.getstatic i) tg nn ax sw pc ls st w kr k = some o) (hk : KOK Z K w0 adr0 w k o) : AtM Z K w0 adr0 pc ls st w := by
  obtain ⟨x, hax, h'⟩ := a1_s (show aC ax none _ no2 = some o from h)
  clear h
  have h := h'
  clear h'
  intro adr H locs lsM hR hS ho hL hn hl hg hx
  have KN1 := B.2.2.2.2.2.2.1
  have hO := B.2.2.2.2.2.2.2.1.kept
  rcases hr with ⟨q, hq, e, hlk⟩ | ⟨e, hlk⟩
  · obtain rfl : x = (q : Int) + 1 := by rw [hax] at e; simpa using e
    have hkd : kd w ((q : Int) + 1) = 30 := by unfold kd; rw [(hR.1.2.1 q hq).1]
    have hN := hk _ _ _ _ h Ext.rf adr H locs lsM hR hS (okS_c.mpr ⟨Or.inr (by rw [hkd]; omega), ho⟩) hL hn hl hg hx
    simp only [List.map_cons, mv_ref (show (q : Int) + 1 ≠ 0 by omega), hR.2.1 q hq] at hN
    exact va_gets B.1 B.2.1 ((KN1.2.1.kept hO).1 q hq).1 hS B.2.2.2.1 (B.2.2.2.2.1 _ hlk) (fun x h => h) hd hN
  · obtain rfl : x = 24 := by rw [hax] at e; simpa using e
    have hkd : kd w 24 = 27 := by unfold kd; rw [hR.1.2.2.1.1]
    have hN := hk _ _ _ _ h Ext.rf adr H locs lsM hR hS (okS_c.mpr ⟨Or.inr (by rw [hkd]; omega), ho⟩) hL hn hl hg hx
    simp only [List.map_cons, mv_ref (show (24 : Int) ≠ 0 by omega), hR.2.2.1] at hN
    exact va_gets B.1 B.2.1 (KN1.2.2.2.2.2.1.kept hO) hS B.2.2.2.1 (B.2.2.2.2.1 _ hlk) (fun x h => h) hd hN
theorem sm_iaload (B : BX Z K) (hd : decode (zC Z) pc = .ok (.iaload, 1)) (h : sx C ret (.iaload) tg nn ax sw pc ls st w kr k = some o) (hk : KOK Z K w0 adr0 w k o) : AtM Z K w0 adr0 pc ls st w := by
  obtain ⟨i, r, hs, h'⟩ := pI_s h
  clear h
  subst hs
  have h := h'
  clear h'
  obtain ⟨a, r, hs, h'⟩ := pR_s h
  clear h
  subst hs
  have h := h'
  clear h'
  obtain ⟨⟨hc, h0, h1⟩, h⟩ := if_s h
  intro adr H locs lsM hR hS ho hL hn hl hg hx
  have hi1 : in32 i := (okS_c.mp ho).1
  by_cases hkb : 32 ≤ a
  · obtain ⟨hlt, hok⟩ := hR.live hkb (by omega)
    have hv := (hok.resolve_left (by omega)).2.2.1 i
    rw [hc] at hv
    have hget := wsO_get (cA := lcA K) (adr := adr) hkb hlt
    rw [cell_int hc] at hget
    have hN := hk _ _ _ _ h Ext.rf adr H locs lsM hR hS (okS_c.mpr ⟨hv, (okS_c.mp (okS_c.mp ho).2).2⟩) hL hn hl hg hx
    simp only [List.map_cons, mv_ref (show a ≠ 0 by omega)]
    refine va_iald B.1 B.2.1 B.2.2.2.2.2.2.1.1 hR.2.2.2.2.1 _ 0 hget rfl (vp_in_of' hi1 h0 (by omega)) hd ?_
    rw [clamp_of' hi1 h0, show ((i.toNat : Nat) : Int) = i by omega]
    exact hN
  · rcases kd_small (r := a) hR.1 (by omega) (by omega) with ⟨_, z, _⟩ | ⟨ha, _, hln⟩
    · omega
    · subst ha
      have hvv : gv w 25 i = (lcX K i.toNat).toInt := by
        have := hR.1.2.2.2.1.2 i.toNat (by omega)
        rwa [show ((i.toNat : Nat) : Int) = i by omega] at this
      rw [hvv] at h
      have hN := hk _ _ _ _ h Ext.rf adr H locs lsM hR hS (okS_c.mpr ⟨in32_toInt _, (okS_c.mp (okS_c.mp ho).2).2⟩) hL hn hl hg hx
      simp only [List.map_cons, mv_ref (show (25 : Int) ≠ 0 by omega), hR.2.2.2.1]
      have KX := B.2.2.2.2.2.2.1.2.2.2.2.2.2.2.1
      have hO := B.2.2.2.2.2.2.2.1
      refine va_sld B.1 B.2.1 (KX.1.kept (hO.2 _ KX.2)) (Nat.lt_of_lt_of_le KX.2 hO.1) (Nat.not_le.mpr KX.2) hS (vp_in_of' hi1 h0 (by omega)) hd ?_
      rw [clamp_of' hi1 h0]
      simp only [List.map_cons, mvV, ofI_toInt] at hN
      exact hN
theorem sm_baload (B : BX Z K) (hd : decode (zC Z) pc = .ok (.baload, 1)) (h : sx C ret (.baload) tg nn ax sw pc ls st w kr k = some o) (hk : KOK Z K w0 adr0 w k o) : AtM Z K w0 adr0 pc ls st w := by
  obtain ⟨i, r, hs, h'⟩ := pI_s h
  clear h
  subst hs
  have h := h'
  clear h'
  obtain ⟨a, r, hs, h'⟩ := pR_s h
  clear h
  subst hs
  have h := h'
  clear h'
  obtain ⟨⟨hc, h0, h1⟩, h⟩ := if_s h
  intro adr H locs lsM hR hS ho hL hn hl hg hx
  have hi1 : in32 i := (okS_c.mp ho).1
  have hkb : 32 ≤ a := kd_big hR.1 (by omega)
  obtain ⟨hlt, hok⟩ := hR.live hkb (by omega)
  have hv := (hok.resolve_left (by omega)).2.2.1 i
  have hget := wsO_get (cA := lcA K) (adr := adr) hkb hlt
  have hv' : okV w (.inl (gv w a i)) := by
    rcases hc with hc | hc <;> rw [hc] at hv <;> exact hv
  have hN := hk _ _ _ _ h Ext.rf adr H locs lsM hR hS (okS_c.mpr ⟨hv', (okS_c.mp (okS_c.mp ho).2).2⟩) hL hn hl hg hx
  simp only [List.map_cons, mv_ref (show a ≠ 0 by omega)]
  rcases hc with hc | hc
  · rw [cell_byte hc] at hget
    refine va_bald B.1 B.2.1 B.2.2.2.2.2.2.1.1 hR.2.2.2.2.1 _ 1 hget rfl (vp_in_of' hi1 h0 (by omega)) hd ?_
    rw [clamp_of' hi1 h0, show ((i.toNat : Nat) : Int) = i by omega]
    exact hN
  · rw [cell_bool hc] at hget
    refine va_zald B.1 B.2.1 B.2.2.2.2.2.2.1.1 hR.2.2.2.2.1 _ 3 hget rfl (vp_in_of' hi1 h0 (by omega)) hd ?_
    rw [clamp_of' hi1 h0, show ((i.toNat : Nat) : Int) = i by omega]
    exact hN
theorem sm_laload (B : BX Z K) (hd : decode (zC Z) pc = .ok (.laload, 1)) (h : sx C ret (.laload) tg nn ax sw pc ls st w kr k = some o) (hk : KOK Z K w0 adr0 w k o) : AtM Z K w0 adr0 pc ls st w := by
  obtain ⟨i, r, hs, h'⟩ := pI_s h
  clear h
  subst hs
  have h := h'
  clear h'
  obtain ⟨a, r, hs, h'⟩ := pR_s h
  clear h
  subst hs
  have h := h'
  clear h'
  obtain ⟨⟨hc, h0, h1⟩, h⟩ := if_s h
  intro adr H locs lsM hR hS ho hL hn hl hg hx
  have hi1 : in32 i := (okS_c.mp ho).1
  have hkb : 32 ≤ a := kd_big hR.1 (by omega)
  obtain ⟨hlt, hok⟩ := hR.live hkb (by omega)
  have hv := (hok.resolve_left (by omega)).2.2.1 i
  rw [hc] at hv
  have hget := wsO_get (cA := lcA K) (adr := adr) hkb hlt
  rw [cell_long hc] at hget
  have hN := hk _ _ _ _ h Ext.rf adr H locs lsM hR hS (okS_c.mpr ⟨hv, (okS_c.mp (okS_c.mp ho).2).2⟩) hL hn hl hg hx
  simp only [List.map_cons, mv_ref (show a ≠ 0 by omega)]
  refine va_lald B.1 B.2.1 B.2.2.2.2.2.2.1.1 hR.2.2.2.2.1 _ 2 hget rfl (vp_in_of' hi1 h0 (by omega)) hd ?_
  rw [clamp_of' hi1 h0, show ((i.toNat : Nat) : Int) = i by omega]
  exact hN
theorem tys_ref (cA : Nat → ClassId) {n : Nat} (h : n < 4) : ∃ C, (tysO cA)[n + 4]? = some (cA (n + 4), .object C) := by
  rcases (show n = 0 ∨ n = 1 ∨ n = 2 ∨ n = 3 by omega) with rfl | rfl | rfl | rfl <;> exact ⟨_, rfl⟩
theorem sm_aaload (B : BX Z K) (hd : decode (zC Z) pc = .ok (.aaload, 1)) (h : sx C ret (.aaload) tg nn ax sw pc ls st w kr k = some o) (hk : KOK Z K w0 adr0 w k o) : AtM Z K w0 adr0 pc ls st w := by
  obtain ⟨i, r, hs, h'⟩ := pI_s h
  clear h
  subst hs
  have h := h'
  clear h'
  obtain ⟨a, r, hs, h'⟩ := pR_s h
  clear h
  subst hs
  have h := h'
  clear h'
  obtain ⟨⟨hc, h0, h1⟩, h⟩ := if_s h
  intro adr H locs lsM hR hS ho hL hn hl hg hx
  have hi1 : in32 i := (okS_c.mp ho).1
  by_cases hkb : 32 ≤ a
  · obtain ⟨hlt, hok⟩ := hR.live hkb (by omega)
    obtain ⟨n, hn4, hkn⟩ : ∃ n : Nat, n < 4 ∧ kd w a = ((n + 24 : Nat) : Int) := ⟨(kd w a - 24).toNat, by omega, by omega⟩
    have hv := (hok.resolve_left (by omega)).2.2.1 i
    have hel : elT (kd w a) = 2 := by unfold elT; rw [if_neg (by omega), if_pos hc]
    rw [hel] at hv
    have hget := wsO_get (cA := lcA K) (adr := adr) hkb hlt
    rw [cell_ref hkn hn4] at hget
    obtain ⟨C0, hty⟩ := tys_ref (lcA K) hn4
    have hN := hk _ _ _ _ h Ext.rf adr H locs lsM hR hS (okS_c.mpr ⟨hv, (okS_c.mp (okS_c.mp ho).2).2⟩) hL hn hl hg hx
    simp only [List.map_cons, va_rf_mv] at hN
    simp only [List.map_cons, mv_ref (show a ≠ 0 by omega)]
    refine va_aldq B.1 B.2.1 B.2.2.2.2.2.2.1.1 hR.2.2.2.2.1 _ _ hget hty (vp_in_of' hi1 h0 (by omega)) hd ?_
    rw [clamp_of' hi1 h0, show ((i.toNat : Nat) : Int) = i by omega]
    exact hN
  · rcases kd_small (r := a) hR.1 (by omega) (by omega) with ⟨ha, _, hln⟩ | ⟨_, z, _⟩
    · subst ha
      have hvv : gv w 24 i = i + 1 := by
        have := hR.1.2.2.1.2 i.toNat (by omega)
        rwa [show ((i.toNat : Nat) : Int) = i by omega] at this
      have hq : i.toNat < 23 := by omega
      have hkd : kd w (i + 1) = 30 := by
        have := (hR.1.2.1 i.toNat hq).1
        rw [show ((i.toNat : Nat) : Int) + 1 = i + 1 by omega] at this
        unfold kd; rw [this]
      have had : adr (i + 1) = lcE K i.toNat := by
        have := hR.2.1 i.toNat hq
        rwa [show ((i.toNat : Nat) : Int) + 1 = i + 1 by omega] at this
      rw [hvv] at h
      have hN := hk _ _ _ _ h Ext.rf adr H locs lsM hR hS (okS_c.mpr ⟨Or.inr (by rw [hkd]; omega), (okS_c.mp (okS_c.mp ho).2).2⟩) hL hn hl hg hx
      simp only [List.map_cons, mv_ref (show i + 1 ≠ 0 by omega), had] at hN
      simp only [List.map_cons, mv_ref (show (24 : Int) ≠ 0 by omega), hR.2.2.1]
      have KT := B.2.2.2.2.2.2.1.2.2.2.2.2.2.1.kept B.2.2.2.2.2.2.2.1.kept
      obtain ⟨cell, t1, t2, t3, t4, t5, t6, t7⟩ := KT
      have hin := vp_in_of' hi1 h0 (show i < ((23 : Nat) : Int) by omega)
      have hlt : (Int32.ofInt i).toNatClampNeg < 23 := Nat.not_le.mp fun q => hin (Or.inr q)
      have hin' : ¬ (Int32.ofInt i < 0 ∨ cell.slots.size ≤ (Int32.ofInt i).toNatClampNeg) := by
        intro q
        rcases q with q | q
        · exact hin (Or.inl q)
        · omega
      refine W.aald (v := .ref (lcE K i.toNat)) (ty := .object RX10) B.1 B.2.1 (by rw [hS.2.1 _ (Array.getElem?_eq_some_iff.mp t1).1 t7]; exact t1) t2 rfl t3 hin' (by rw [t6 _ hlt, clamp_of' hi1 h0]) rfl rfl hd hN
    · omega
theorem sm_iastore (B : BX Z K) (hd : decode (zC Z) pc = .ok (.iastore, 1)) (h : sx C ret (.iastore) tg nn ax sw pc ls st w kr k = some o) (hk : KOK Z K w0 adr0 w k o) : AtM Z K w0 adr0 pc ls st w := by
  obtain ⟨v, r, hs, h'⟩ := pI_s h
  clear h
  subst hs
  have h := h'
  clear h'
  obtain ⟨i, r, hs, h'⟩ := pI_s h
  clear h
  subst hs
  have h := h'
  clear h'
  obtain ⟨a, r, hs, h'⟩ := pR_s h
  clear h
  subst hs
  have h := h'
  clear h'
  obtain ⟨⟨hc, h0, h1⟩, h⟩ := if_s h
  intro adr H locs lsM hR hS ho hL hn hl hg hx
  have hv1 := (okS_c.mp ho).1
  have hi1 : in32 i := (okS_c.mp (okS_c.mp ho).2).1
  have hst := (okS_c.mp (okS_c.mp (okS_c.mp ho).2).2).2
  have hst' : okS (sv w a i v) _ := fun u hu => (okV_kd (kd_sv w a i v)).mpr (hst u hu)
  have hL' : okL (sv w a i v) ls := fun u hu => (okV_kd (kd_sv w a i v)).mpr (hL u hu)
  have hkb : 32 ≤ a := hc.2
  obtain ⟨hlt, hok⟩ := hR.live hkb (by omega)
  have hnew : okC (sv w a i v) a := okC_sva hok (by omega) (by rw [hc.1]; exact hv1) (fun z => by omega)
  have hW' : WFw (lcL K) (lcX K) (sv w a i v) := hR.1.upd rfl rfl (fun b j' hb => by rw [gv_sv, if_neg (fun z => hb z.1)]) hkb hnew
  have hget := wsO_get (cA := lcA K) (adr := adr) hkb hlt
  rw [cell_int hc.1] at hget
  have hws : wsO (lcA K) adr (sv w a i v) = (wsO (lcA K) adr w).set (a - 32).toNat (adr a, .inl (lcA K 0, (ln w a).toNat, .inl (upd (fun j : Nat => Int32.ofInt (gv w a j)) i.toNat (Int32.ofInt v)))) := by
    rw [wsO_set (w := w) (w' := sv w a i v) hkb hlt rfl cellOf_sv, cell_int (show kd (sv w a i v) a = 20 from hc.1), upd_of h0 _ rfl]
    rfl
  simp only [List.map_cons, mv_ref (show a ≠ 0 by omega)]
  refine va_iast B.1 B.2.1 B.2.2.2.2.2.2.1.1 hR.2.2.2.2.1 hR.2.2.2.2.2 hS _ 0 hget rfl (vp_in_of' hi1 h0 (by omega)) hd fun H1 locs1 p1 p2 p3 => ?_
  rw [clamp_of' hi1 h0, ← hws] at p1 p2
  exact hk _ _ _ _ h Ext.sv adr H1 locs1 lsM ⟨hW', hR.2.1, hR.2.2.1, hR.2.2.2.1, p1, p2⟩ p3 hst' hL' hn hl hg (hx.tr Ext.sv)
theorem nar_bool {v : Int} (h : v = 0 ∨ v = 1) : vp_nar .boolean (Int32.ofInt v) = Int32.ofInt v := by
  rcases h with rfl | rfl <;> rfl
theorem sm_bastore (B : BX Z K) (hd : decode (zC Z) pc = .ok (.bastore, 1)) (h : sx C ret (.bastore) tg nn ax sw pc ls st w kr k = some o) (hk : KOK Z K w0 adr0 w k o) : AtM Z K w0 adr0 pc ls st w := by
  obtain ⟨v, r, hs, h'⟩ := pI_s h
  clear h
  subst hs
  have h := h'
  clear h'
  obtain ⟨i, r, hs, h'⟩ := pI_s h
  clear h
  subst hs
  have h := h'
  clear h'
  obtain ⟨a, r, hs, h'⟩ := pR_s h
  clear h
  subst hs
  have h := h'
  clear h'
  obtain ⟨⟨hc, h0, h1⟩, h⟩ := if_s h
  intro adr H locs lsM hR hS ho hL hn hl hg hx
  have hv1 := (okS_c.mp ho).1
  have hi1 : in32 i := (okS_c.mp (okS_c.mp ho).2).1
  have hst := (okS_c.mp (okS_c.mp (okS_c.mp ho).2).2).2
  have hst' : okS (sv w a i v) _ := fun u hu => (okV_kd (kd_sv w a i v)).mpr (hst u hu)
  have hL' : okL (sv w a i v) ls := fun u hu => (okV_kd (kd_sv w a i v)).mpr (hL u hu)
  have hkb : 32 ≤ a := kd_big hR.1 (by omega)
  obtain ⟨hlt, hok⟩ := hR.live hkb (by omega)
  have hnew : okC (sv w a i v) a := okC_sva hok (by omega) (by rcases hc with hc | hc <;> rw [hc.1] <;> exact hv1) (fun z => by rcases hc with hc | hc <;> omega)
  have hW' : WFw (lcL K) (lcX K) (sv w a i v) := hR.1.upd rfl rfl (fun b j' hb => by rw [gv_sv, if_neg (fun z => hb z.1)]) hkb hnew
  have hget := wsO_get (cA := lcA K) (adr := adr) hkb hlt
  simp only [List.map_cons, mv_ref (show a ≠ 0 by omega)]
  rcases hc with hc | hc
  · rw [cell_byte hc.1] at hget
    have hws : wsO (lcA K) adr (sv w a i v) = (wsO (lcA K) adr w).set (a - 32).toNat (adr a, .inl (lcA K 1, (ln w a).toNat, .inl (upd (fun j : Nat => Int32.ofInt (gv w a j)) i.toNat (vp_nar .byte (Int32.ofInt v))))) := by
      rw [wsO_set (w := w) (w' := sv w a i v) hkb hlt rfl cellOf_sv, cell_byte (show kd (sv w a i v) a = 21 from hc.1), upd_of h0 _ (by rw [vp_nar_byte]; exact i2b_of hc.2.1 hc.2.2)]
      rfl
    refine va_bast B.1 B.2.1 B.2.2.2.2.2.2.1.1 hR.2.2.2.2.1 hR.2.2.2.2.2 hS _ 1 hget rfl (vp_in_of' hi1 h0 (by omega)) hd fun H1 locs1 p1 p2 p3 => ?_
    rw [clamp_of' hi1 h0, ← hws] at p1 p2
    exact hk _ _ _ _ h Ext.sv adr H1 locs1 lsM ⟨hW', hR.2.1, hR.2.2.1, hR.2.2.2.1, p1, p2⟩ p3 hst' hL' hn hl hg (hx.tr Ext.sv)
  · rw [cell_bool hc.1] at hget
    have hws : wsO (lcA K) adr (sv w a i v) = (wsO (lcA K) adr w).set (a - 32).toNat (adr a, .inl (lcA K 3, (ln w a).toNat, .inl (upd (fun j : Nat => Int32.ofInt (gv w a j)) i.toNat (vp_nar .boolean (Int32.ofInt v))))) := by
      rw [wsO_set (w := w) (w' := sv w a i v) hkb hlt rfl cellOf_sv, cell_bool (show kd (sv w a i v) a = 23 from hc.1), upd_of h0 _ (nar_bool hc.2)]
      rfl
    refine va_zast B.1 B.2.1 B.2.2.2.2.2.2.1.1 hR.2.2.2.2.1 hR.2.2.2.2.2 hS _ 3 hget rfl (vp_in_of' hi1 h0 (by omega)) hd fun H1 locs1 p1 p2 p3 => ?_
    rw [clamp_of' hi1 h0, ← hws] at p1 p2
    exact hk _ _ _ _ h Ext.sv adr H1 locs1 lsM ⟨hW', hR.2.1, hR.2.2.1, hR.2.2.2.1, p1, p2⟩ p3 hst' hL' hn hl hg (hx.tr Ext.sv)
theorem sm_lastore (B : BX Z K) (hd : decode (zC Z) pc = .ok (.lastore, 1)) (h : sx C ret (.lastore) tg nn ax sw pc ls st w kr k = some o) (hk : KOK Z K w0 adr0 w k o) : AtM Z K w0 adr0 pc ls st w := by
  obtain ⟨v, r, hs, h'⟩ := pL_s h
  clear h
  subst hs
  have h := h'
  clear h'
  obtain ⟨i, r, hs, h'⟩ := pI_s h
  clear h
  subst hs
  have h := h'
  clear h'
  obtain ⟨a, r, hs, h'⟩ := pR_s h
  clear h
  subst hs
  have h := h'
  clear h'
  obtain ⟨⟨hc, h0, h1⟩, h⟩ := if_s h
  intro adr H locs lsM hR hS ho hL hn hl hg hx
  have hv1 := (okS_c.mp ho).1
  have hi1 : in32 i := (okS_c.mp (okS_c.mp ho).2).1
  have hst := (okS_c.mp (okS_c.mp (okS_c.mp ho).2).2).2
  have hst' : okS (sv w a i v) _ := fun u hu => (okV_kd (kd_sv w a i v)).mpr (hst u hu)
  have hL' : okL (sv w a i v) ls := fun u hu => (okV_kd (kd_sv w a i v)).mpr (hL u hu)
  have hkb : 32 ≤ a := kd_big hR.1 (by omega)
  obtain ⟨hlt, hok⟩ := hR.live hkb (by omega)
  have hnew : okC (sv w a i v) a := okC_sva hok (by omega) (by rw [hc]; exact hv1) (fun z => by omega)
  have hW' : WFw (lcL K) (lcX K) (sv w a i v) := hR.1.upd rfl rfl (fun b j' hb => by rw [gv_sv, if_neg (fun z => hb z.1)]) hkb hnew
  have hget := wsO_get (cA := lcA K) (adr := adr) hkb hlt
  rw [cell_long hc] at hget
  have hws : wsO (lcA K) adr (sv w a i v) = (wsO (lcA K) adr w).set (a - 32).toNat (adr a, .inl (lcA K 2, (ln w a).toNat, .inr (.inl (vp_updL (fun j : Nat => Int64.ofInt (gv w a j)) i.toNat (Int64.ofInt v))))) := by
    rw [wsO_set (w := w) (w' := sv w a i v) hkb hlt rfl cellOf_sv, cell_long (show kd (sv w a i v) a = 22 from hc), updL_of h0]
    rfl
  simp only [List.map_cons, mv_ref (show a ≠ 0 by omega)]
  refine va_last B.1 B.2.1 B.2.2.2.2.2.2.1.1 hR.2.2.2.2.1 hR.2.2.2.2.2 hS _ 2 hget rfl (vp_in_of' hi1 h0 (by omega)) hd fun H1 locs1 p1 p2 p3 => ?_
  rw [clamp_of' hi1 h0, ← hws] at p1 p2
  exact hk _ _ _ _ h Ext.sv adr H1 locs1 lsM ⟨hW', hR.2.1, hR.2.2.1, hR.2.2.2.1, p1, p2⟩ p3 hst' hL' hn hl hg (hx.tr Ext.sv)
end SG
end
section
/-! ===== stores of references, lengths, new cells, arraycopy, max and min, switches (printed by wip/whole/simh.py) ===== -/
theorem c8_s {α : Type} {st : List sV} {f : Option α} {o : α} (h : c8 st f = some o) : catSum st ≤ 8 ∧ f = some o := by
  unfold c8 at h
  cases hc : Nat.ble (catSum st) 8 with
  | true => rw [hc] at h; exact ⟨Nat.le_of_ble_eq_true hc, h⟩
  | false => rw [hc] at h; cases h
def swt (d : Nat) (x : Int) : List (Int × Nat) → Nat
  | [] => d
  | (c, t) :: r => if x = c then t else swt d x r
theorem swi_eq {α : Type} (x : Int) (d : Nat) (k : Nat → Option α) : ∀ l : List (Int × Nat), swi x d k l = k (swt d x l)
  | [] => rfl
  | (c, t) :: r => by
    simp only [swi, swt]
    split
    · rfl
    · exact swi_eq x d k r
theorem swt_look {pc d : Nat} {x dflt : Int} : ∀ (ps : List (Int × Int)) (sw : List (Int × Nat)), sw = ps.map (fun q => (q.1, ((pc : Int) + q.2).toNat)) → (∀ q ∈ ps, 0 ≤ (pc : Int) + q.2) → (pc : Int) + dflt = (d : Int) → (pc : Int) + Op.lookupswitch.offset ps dflt x = (swt d x sw : Int)
  | [], sw, h, _, hd => by
    subst h
    exact hd
  | (a, f) :: r, sw, h, hp, hd => by
    subst h
    simp only [List.map_cons, swt, Op.lookupswitch.offset_cons]
    by_cases e : a = x
    · rw [if_pos e, if_pos e.symm]
      have := hp (a, f) List.mem_cons_self
      simp only at this
      omega
    · rw [if_neg e, if_neg (fun z => e z.symm)]
      exact swt_look r _ rfl (fun q hq => hp q (List.mem_cons_of_mem _ hq)) hd
/-- the cases of a tableswitch, from lo on -/
def tsw (pc : Nat) : Int → List Int → List (Int × Nat)
  | _, [] => []
  | lo, f :: r => (lo, ((pc : Int) + f).toNat) :: tsw pc (lo + 1) r
theorem swt_in {pc d : Nat} {x : Int} : ∀ (l : List Int) (lo : Int) (i : Nat) (f : Int), l[i]? = some f → x = lo + i → (∀ q ∈ l, 0 ≤ (pc : Int) + q) → (pc : Int) + f = (swt d x (tsw pc lo l) : Int)
  | [], lo, i, f, h, _, _ => by simp at h
  | g :: r, lo, 0, f, h, hx, hp => by
    simp only [List.getElem?_cons_zero, Option.some.injEq] at h
    subst h
    have := hp g List.mem_cons_self
    simp only [tsw, swt]
    rw [if_pos (by simpa using hx)]
    omega
  | g :: r, lo, i + 1, f, h, hx, hp => by
    simp only [tsw, swt]
    rw [if_neg (by omega)]
    exact swt_in r (lo + 1) i f (by simpa using h) (by omega) (fun q hq => hp q (List.mem_cons_of_mem _ hq))
theorem swt_out {pc d : Nat} {x : Int} : ∀ (l : List Int) (lo : Int), (x < lo ∨ lo + l.length ≤ x) → swt d x (tsw pc lo l) = d
  | [], lo, _ => rfl
  | g :: r, lo, h => by
    simp only [tsw, swt]
    simp only [List.length_cons] at h
    rw [if_neg (by omega)]
    exact swt_out r (lo + 1) (by omega)
/-! new cells -/
def adrN (adr : Int → Nat) (w : sW) (q : Nat) : Int → Nat := fun a => if a = nx w then q else adr a
theorem adrN_old {adr : Int → Nat} {w : sW} {q : Nat} {a : Int} (h : a < nx w) : adrN adr w q a = adr a := if_neg (by omega)
theorem mv_eq {adr adr' : Int → Nat} {w : sW} (hz : ∀ r, kd w r ≠ 0 → r < nx w) (ha : ∀ r, r < nx w → adr' r = adr r) {v : sV} (h : okV w v) : mvV adr' v = mvV adr v := by
  rcases v with x | x | r
  · rfl
  · rfl
  · rcases h with h | h
    · subst h; rfl
    · show (if r = 0 then Value.null else Value.ref (adr' r)) = (if r = 0 then Value.null else Value.ref (adr r))
      rw [ha r (hz r h)]
theorem mkV2 (g : Int) : mkV 2 g = .inr (.inr g) := rfl
theorem cellOf_eq {cA : Nat → ClassId} {adr adr' : Int → Nat} {w w' : sW} {a : Int} (hz : ∀ r, kd w r ≠ 0 → r < nx w) (ha : ∀ r, r < nx w → adr' r = adr r) (hk : kd w' a = kd w a) (hl : ln w' a = ln w a) (hg : ∀ j, gv w' a j = gv w a j) (hc : okC w a) : cellOf cA adr' w' a = cellOf cA adr w a := by
  have hr : ∀ g, okV w (.inr (.inr g)) → rO adr' g = rO adr g := by
    intro g h
    unfold rO
    rcases h with h | h
    · rw [if_pos h, if_pos h]
    · rw [ha g (hz g h)]
  unfold cellOf
  rw [hk, hl]
  by_cases e1 : kd w a = 22
  · rw [if_pos e1, if_pos e1]; simp only [hg]
  rw [if_neg e1, if_neg e1]
  by_cases e2 : 24 ≤ kd w a ∧ kd w a ≤ 27
  · rw [if_pos e2, if_pos e2]
    have : ∀ j : Nat, rO adr' (gv w' a j) = rO adr (gv w a j) := fun j => by
      rw [hg]
      refine hr _ ?_
      have := (hc.resolve_left (by omega)).2.2.1 j
      have hel : elT (kd w a) = 2 := by unfold elT; rw [if_neg (by omega), if_pos e2]
      rw [hel] at this
      exact this
    simp only [this]
  rw [if_neg e2, if_neg e2]
  by_cases e3 : 20 ≤ kd w a
  · rw [if_pos e3, if_pos e3]; simp only [hg]
  rw [if_neg e3, if_neg e3]
  have : fldO adr' w' a = fldO adr w a := by
    unfold fldO
    rw [hk]
    refine List.map_congr_left fun k _ => ?_
    rw [hg]
    exact mv_eq hz ha ((hc.resolve_right (by omega)).2 k)
  rw [this]
theorem wsO_al {cA : Nat → ClassId} {adr : Int → Nat} {w : sW} {κ len : Int} {n q : Nat} {L : Nat} {xs : Nat → Int32} (h : WFw L xs w) : wsO cA (adrN adr w q) (al w κ len n) = wsO cA adr w ++ [(q, cellOf cA (adrN adr w q) (al w κ len n) (nx w))] := by
  unfold wsO
  have h32 := h.1
  rw [nx_al, show (nx w + 1 - 32).toNat = (nx w - 32).toNat + 1 by omega, List.range_succ, List.map_append]
  congr 1
  · refine List.map_congr_left fun j hj => ?_
    have hj' : j < (nx w - 32).toNat := List.mem_range.mp hj
    have hlt : 32 + (j : Int) < nx w := by omega
    have hne : ¬ 32 + (j : Int) = nx w := by omega
    rw [adrN_old hlt, cellOf_eq (w := w) h.lt (fun r hr => adrN_old hr) (by rw [kd_al, if_neg hne]) (by rw [ln_al, if_neg hne]) (fun i => by rw [gv_al, if_neg hne]) (h.2.2.2.2.2 _ (by omega) hlt)]
  · have : 32 + (((nx w - 32).toNat : Nat) : Int) = nx w := by omega
    simp only [List.map_cons, List.map_nil]
    rw [this]
    simp [adrN]
theorem WFw_al {L : Nat} {xs : Nat → Int32} {w : sW} {κ len : Int} {n : Nat} (h : WFw L xs w) (hκ : (1 ≤ κ ∧ κ ≤ 10) ∨ ((20 ≤ κ ∧ κ ≤ 27) ∧ 0 ≤ len ∧ len ≤ 100000)) : WFw L xs (al w κ len n) := by
  obtain ⟨h1, h2, h3, h4, h5, h6⟩ := id h
  have old : ∀ r, r < nx w → (al w κ len n).1 r = w.1 r ∧ ∀ j, gv (al w κ len n) r j = gv w r j := fun r hr => by
    refine ⟨?_, fun j => ?_⟩
    · show (if r = nx w then (κ, len) else w.1 r) = w.1 r
      rw [if_neg (by omega)]
    · rw [gv_al, if_neg (by omega)]
  have okv0 : ∀ t, okV (al w κ len n) (mkV t 0) := fun t => by
    match t with
    | 0 => exact in32_0
    | 1 => show in64 0; unfold in64; omega
    | 2 => exact Or.inl rfl
    | t + 3 => exact in32_0
  refine ⟨by rw [nx_al]; omega, fun k hk => ?_, ⟨by rw [(old 24 (by omega)).1]; exact h3.1, fun j hj => by rw [(old 24 (by omega)).2]; exact h3.2 j hj⟩, ⟨by rw [(old 25 (by omega)).1]; exact h4.1, fun j hj => by rw [(old 25 (by omega)).2]; exact h4.2 j hj⟩, fun r hr => ?_, fun r hr1 hr2 => ?_⟩
  · obtain ⟨q1, q2, q3, q4⟩ := h2 k hk
    obtain ⟨o1, o2⟩ := old ((k : Int) + 1) (by omega)
    exact ⟨by rw [o1]; exact q1, by rw [o2]; exact q2, by rw [o2]; exact q3, by rw [o2]; exact q4⟩
  · rw [nx_al] at hr
    rw [kd_al, if_neg (by omega)]
    exact h5 r (by omega)
  · rw [nx_al] at hr2
    by_cases e : r = nx w
    · have hk : kd (al w κ len n) r = κ := by rw [kd_al, if_pos e]
      have hl : ln (al w κ len n) r = len := by rw [ln_al, if_pos e]
      have hg : ∀ j, gv (al w κ len n) r j = 0 := fun j => by rw [gv_al, if_pos e]
      unfold okC
      rw [hk, hl]
      simp only [hg]
      rcases hκ with z | z
      · exact Or.inl ⟨z, fun k => okv0 _⟩
      · exact Or.inr ⟨z.1, z.2, fun j => okv0 _, fun _ _ => by omega⟩
    · have hlt : r < nx w := by omega
      have hc := h6 r hr1 hlt
      have hk : kd (al w κ len n) r = kd w r := by rw [kd_al, if_neg e]
      have hl : ln (al w κ len n) r = ln w r := by rw [ln_al, if_neg e]
      unfold okC at hc ⊢
      rw [hk, hl]
      simp only [(old r hlt).2]
      rcases hc with z | z
      · exact Or.inl ⟨z.1, fun k => (z.2 k).ext Ext.al h.lt⟩
      · exact Or.inr ⟨z.1, z.2.1, fun j => (z.2.2.1 j).ext Ext.al h.lt, z.2.2.2⟩
/-- behind a new cell: the frame in the new world -/
theorem al_frame {K : LC} {w w0 : sW} {adr adr0 : Int → Nat} {κ len : Int} {n q : Nat} {nL : Nat} {st : List sV} {ls : sL} {lsM : Array Slot} {L : Nat} {xs : Nat → Int32} (h : WFw L xs w) (ho : okS w st) (hL : okL w ls) (hl : lv_has lsM nL (lvs adr ls 0)) (hg : ∀ r, r < nx w0 → adr r = adr0 r) (hx : Ext w0 w) :
    okS (al w κ len n) st ∧ okL (al w κ len n) ls ∧ lv_has lsM nL (lvs (adrN adr w q) ls 0) ∧ (∀ r, r < nx w0 → adrN adr w q r = adr0 r) ∧ st.map (mvV (adrN adr w q)) = st.map (mvV adr) :=
  ⟨fun v hv => (ho v hv).ext Ext.al h.lt, fun v hv => (hL v hv).ext Ext.al h.lt,
    lvh_sub hl (fun i v hv => ⟨hv, mv_eq h.lt (fun r hr => adrN_old hr) (okL_at hL hv)⟩),
    fun r hr => by rw [adrN_old (Int.lt_of_lt_of_le hr hx.2.1)]; exact hg r hr,
    List.map_congr_left fun v hv => mv_eq h.lt (fun r hr => adrN_old hr) (ho v hv)⟩
theorem uc_al {w w0 : sW} {κ len : Int} {n : Nat} (hx : Ext w0 w) : uc (al w κ len n) - uc w0 = uc w - uc w0 + 1 ∧ us (al w κ len n) - us w0 = us w - us w0 + n := by
  have h1 := hx.2.2.1
  have h2 := hx.2.2.2
  have e1 : uc (al w κ len n) = uc w + 1 := rfl
  have e2 : us (al w κ len n) = us w + n := rfl
  omega
section SH
variable {Z : MZ} {K : LC} {w0 w : sW} {adr0 : Int → Nat} {C : sC} {ret tg pc : Nat} {nn : List Nat} {ax : List Int} {sw : List (Int × Nat)} {ls : sL} {st : List sV} {kr : Option sV → sW → Option sO} {k : Nat → sL → List sV → sW → Option sO} {o : sO}
theorem sm_tableswitch (B : BX Z K) {dflt lo hi : Int} {offs : Array Int} {len : Nat} (hr : sw = tsw pc lo offs.toList ∧ (∀ q ∈ offs.toList, 0 ≤ (pc : Int) + q) ∧ hi + 1 = lo + offs.toList.length ∧ (pc : Int) + dflt = (tg : Int)) (hd : decode (zC Z) pc = .ok (.tableswitch dflt lo hi offs, len)) (h : sx C ret (.tableswitch dflt lo hi offs) tg nn ax sw pc ls st w kr k = some o) (hk : KOK Z K w0 adr0 w k o) : AtM Z K w0 adr0 pc ls st w := by
  obtain ⟨x, r, hs, h'⟩ := pI_s h
  clear h
  subst hs
  have h := h'
  clear h'
  rw [swi_eq] at h
  intro adr H locs lsM hR hS ho hL hn hl hg hx
  have hx1 : in32 x := (okS_c.mp ho).1
  have hN := hk _ _ _ _ h Ext.rf adr H locs lsM hR hS (okS_c.mp ho).2 hL hn hl hg hx
  obtain ⟨e1, e2, e3, e4⟩ := hr
  by_cases hout : x < lo ∨ hi < x
  · rw [e1, swt_out _ _ (by omega)] at hN
    exact lv_tableOut B.1 B.2.1 hd (by rw [toI_of hx1]; exact hout) e4 hN
  · have hi' : (x - lo).toNat < offs.toList.length := by omega
    refine lv_tableIn (off := offs.toList[(x - lo).toNat]) (tgt := swt tg x sw) B.1 B.2.1 hd (by rw [toI_of hx1]; omega) (by rw [toI_of hx1]; omega) (by rw [toI_of hx1, ← Array.getElem?_toList]; exact List.getElem?_eq_getElem hi') ?_ hN
    rw [e1]
    exact swt_in _ _ (x - lo).toNat _ (List.getElem?_eq_getElem hi') (by omega) e2
theorem sm_lookupswitch (B : BX Z K) {dflt : Int} {ps : Array (Int × Int)} {len : Nat} (hr : sw = ps.toList.map (fun q => (q.1, ((pc : Int) + q.2).toNat)) ∧ (∀ q ∈ ps.toList, 0 ≤ (pc : Int) + q.2) ∧ (ps.toList.zip (ps.toList.drop 1)).all (fun (a, next) => a.1 < next.1) = true ∧ (pc : Int) + dflt = (tg : Int)) (hd : decode (zC Z) pc = .ok (.lookupswitch dflt ps, len)) (h : sx C ret (.lookupswitch dflt ps) tg nn ax sw pc ls st w kr k = some o) (hk : KOK Z K w0 adr0 w k o) : AtM Z K w0 adr0 pc ls st w := by
  obtain ⟨x, r, hs, h'⟩ := pI_s h
  clear h
  subst hs
  have h := h'
  clear h'
  rw [swi_eq] at h
  intro adr H locs lsM hR hS ho hL hn hl hg hx
  have hx1 : in32 x := (okS_c.mp ho).1
  have hN := hk _ _ _ _ h Ext.rf adr H locs lsM hR hS (okS_c.mp ho).2 hL hn hl hg hx
  obtain ⟨e1, e2, e3, e4⟩ := hr
  exact lv_lookup B.1 B.2.1 hd e3 rfl (by rw [toI_of hx1]; exact swt_look _ _ e1 e2 e4) hN
theorem sm_acmp_eq (B : BX Z K) {off : Int} (ht : (pc : Int) + off = (tg : Int)) (hd : decode (zC Z) pc = .ok (.if_acmp .eq off, 3)) (h : sx C ret (.if_acmp .eq off) tg nn ax sw pc ls st w kr k = some o) (hk : KOK Z K w0 adr0 w k o) : AtM Z K w0 adr0 pc ls st w := by
  obtain ⟨y, r, hs, h'⟩ := pR_s h
  clear h
  subst hs
  have h := h'
  clear h'
  obtain ⟨x, r, hs, h'⟩ := pR_s h
  clear h
  subst hs
  have h := h'
  clear h'
  obtain ⟨⟨h1, h2⟩, h⟩ := if_s h
  intro adr H locs lsM hR hS ho hL hn hl hg hx
  have hy1 : okV w (.inr (.inr y)) := (okS_c.mp ho).1
  have hx1 : okV w (.inr (.inr x)) := (okS_c.mp (okS_c.mp ho).2).1
  have hx0 : 0 ≤ x := by
    rcases hx1 with z | z
    · omega
    · have := (hR.1.pos x z).1; omega
  have hy0 : 0 ≤ y := by
    rcases hy1 with z | z
    · omega
    · have := (hR.1.pos y z).1; omega
  have hinj : rO adr x = rO adr y ↔ x = y := by
    constructor
    · intro e
      unfold rO at e
      by_cases ex : x = 0
      · by_cases ey : y = 0
        · omega
        · rw [if_pos ex, if_neg ey] at e; cases e
      · by_cases ey : y = 0
        · rw [if_neg ex, if_pos ey] at e; cases e
        · rw [if_neg ex, if_neg ey] at e
          have e := Option.some.inj e
          have ax := hR.2.1 (x - 1).toNat (by omega)
          have ay := hR.2.1 (y - 1).toNat (by omega)
          rw [show (((x - 1).toNat : Nat) : Int) + 1 = x by omega] at ax
          rw [show (((y - 1).toNat : Nat) : Int) + 1 = y by omega] at ay
          have := B.2.2.2.2.2.2.1.2.1.2 (x - 1).toNat (y - 1).toNat (show (x - 1).toNat < 23 by omega) (show (y - 1).toNat < 23 by omega) (by rw [← ax, ← ay]; exact e)
          omega
    · intro e; rw [e]
  simp only [List.map_cons, va_rf_mv]
  refine lv_acmp_eq (tgt := tg) B.1 B.2.1 hd ht (fun c => ?_) (fun c => ?_)
  · rw [if_pos (hinj.mp c)] at h
    exact hk _ _ _ _ h Ext.rf adr H locs lsM hR hS (okS_c.mp (okS_c.mp ho).2).2 hL hn hl hg hx
  · rw [if_neg (fun z => c (hinj.mpr z))] at h
    exact hk _ _ _ _ h Ext.rf adr H locs lsM hR hS (okS_c.mp (okS_c.mp ho).2).2 hL hn hl hg hx
theorem sm_acmp_ne (B : BX Z K) {off : Int} (ht : (pc : Int) + off = (tg : Int)) (hd : decode (zC Z) pc = .ok (.if_acmp .ne off, 3)) (h : sx C ret (.if_acmp .ne off) tg nn ax sw pc ls st w kr k = some o) (hk : KOK Z K w0 adr0 w k o) : AtM Z K w0 adr0 pc ls st w := by
  obtain ⟨y, r, hs, h'⟩ := pR_s h
  clear h
  subst hs
  have h := h'
  clear h'
  obtain ⟨x, r, hs, h'⟩ := pR_s h
  clear h
  subst hs
  have h := h'
  clear h'
  obtain ⟨⟨h1, h2⟩, h⟩ := if_s h
  intro adr H locs lsM hR hS ho hL hn hl hg hx
  have hy1 : okV w (.inr (.inr y)) := (okS_c.mp ho).1
  have hx1 : okV w (.inr (.inr x)) := (okS_c.mp (okS_c.mp ho).2).1
  have hx0 : 0 ≤ x := by
    rcases hx1 with z | z
    · omega
    · have := (hR.1.pos x z).1; omega
  have hy0 : 0 ≤ y := by
    rcases hy1 with z | z
    · omega
    · have := (hR.1.pos y z).1; omega
  have hinj : rO adr x = rO adr y ↔ x = y := by
    constructor
    · intro e
      unfold rO at e
      by_cases ex : x = 0
      · by_cases ey : y = 0
        · omega
        · rw [if_pos ex, if_neg ey] at e; cases e
      · by_cases ey : y = 0
        · rw [if_neg ex, if_pos ey] at e; cases e
        · rw [if_neg ex, if_neg ey] at e
          have e := Option.some.inj e
          have ax := hR.2.1 (x - 1).toNat (by omega)
          have ay := hR.2.1 (y - 1).toNat (by omega)
          rw [show (((x - 1).toNat : Nat) : Int) + 1 = x by omega] at ax
          rw [show (((y - 1).toNat : Nat) : Int) + 1 = y by omega] at ay
          have := B.2.2.2.2.2.2.1.2.1.2 (x - 1).toNat (y - 1).toNat (show (x - 1).toNat < 23 by omega) (show (y - 1).toNat < 23 by omega) (by rw [← ax, ← ay]; exact e)
          omega
    · intro e; rw [e]
  simp only [List.map_cons, va_rf_mv]
  refine lv_acmp_ne (tgt := tg) B.1 B.2.1 hd ht (fun c => ?_) (fun c => ?_)
  · rw [if_neg (fun z => c (hinj.mpr z))] at h
    exact hk _ _ _ _ h Ext.rf adr H locs lsM hR hS (okS_c.mp (okS_c.mp ho).2).2 hL hn hl hg hx
  · rw [if_pos (hinj.mp c)] at h
    exact hk _ _ _ _ h Ext.rf adr H locs lsM hR hS (okS_c.mp (okS_c.mp ho).2).2 hL hn hl hg hx
theorem sm_aastore (B : BX Z K) (hd : decode (zC Z) pc = .ok (.aastore, 1)) (h : sx C ret (.aastore) tg nn ax sw pc ls st w kr k = some o) (hk : KOK Z K w0 adr0 w k o) : AtM Z K w0 adr0 pc ls st w := by
  obtain ⟨v, r, hs, h'⟩ := pR_s h
  clear h
  subst hs
  have h := h'
  clear h'
  obtain ⟨i, r, hs, h'⟩ := pI_s h
  clear h
  subst hs
  have h := h'
  clear h'
  obtain ⟨a, r, hs, h'⟩ := pR_s h
  clear h
  subst hs
  have h := h'
  clear h'
  obtain ⟨⟨hc, h0, h1⟩, h⟩ := if_s h
  intro adr H locs lsM hR hS ho hL hn hl hg hx
  have hv1 := (okS_c.mp ho).1
  have hi1 : in32 i := (okS_c.mp (okS_c.mp ho).2).1
  have hst := (okS_c.mp (okS_c.mp (okS_c.mp ho).2).2).2
  have hst' : okS (sv w a i v) _ := fun u hu => (okV_kd (kd_sv w a i v)).mpr (hst u hu)
  have hL' : okL (sv w a i v) ls := fun u hu => (okV_kd (kd_sv w a i v)).mpr (hL u hu)
  have hkb : 32 ≤ a := by
    rcases hc with q | q | q | q
    · exact kd_big hR.1 (by omega)
    · exact kd_big hR.1 (by omega)
    · exact kd_big hR.1 (by omega)
    · exact q.2.2
  obtain ⟨hlt, hok⟩ := hR.live hkb (by omega)
  have hel : elT (kd w a) = 2 := by unfold elT; rw [if_neg (by omega), if_pos (by omega)]
  have hnew : okC (sv w a i v) a := okC_sva hok (by omega) (by rw [hel]; exact hv1) (fun z => by omega)
  have hW' : WFw (lcL K) (lcX K) (sv w a i v) := hR.1.upd rfl rfl (fun b j' hb => by rw [gv_sv, if_neg (fun z => hb z.1)]) hkb hnew
  have hget := wsO_get (cA := lcA K) (adr := adr) hkb hlt
  have hv0 : v ≠ 0 := by
    intro e
    have := hR.1.2.2.2.2.1 0 (Or.inl (by omega))
    rw [e] at hc
    omega
  simp only [List.map_cons, mv_ref (show a ≠ 0 by omega), mv_ref hv0]
  have core : ∀ (n : Nat), n < 4 → kd w a = ((n + 24 : Nat) : Int) → wsO (lcA K) adr (sv w a i v) = (wsO (lcA K) adr w).set (a - 32).toNat (adr a, .inl (lcA K (n + 4), (ln w a).toNat, .inr (.inr (.inr (.inr (va_up (fun j : Nat => rO adr (gv w a j)) i.toNat (some (adr v)))))))) := by
    intro n hn4 hkn
    rw [wsO_set (w := w) (w' := sv w a i v) hkb hlt rfl cellOf_sv, cell_ref (show kd (sv w a i v) a = _ from hkn) hn4, updR_of h0 hv0]
    rfl
  have fin : ∀ (n : Nat), n < 4 → kd w a = ((n + 24 : Nat) : Int) → ∀ (H1 : Heap) (locs1 : List Loc), va_P (lcD K) vwCl ((wsO (lcA K) adr w).set (a - 32).toNat (adr a, .inl (lcA K (n + 4), (ln w a).toNat, .inr (.inr (.inr (.inr (va_up (fun j : Nat => rO adr (gv w a j)) (Int32.ofInt i).toNatClampNeg (some (adr v)))))))))  H1 → va_D (oldA K) ((wsO (lcA K) adr w).set (a - 32).toNat (adr a, .inl (lcA K (n + 4), (ln w a).toNat, .inr (.inr (.inr (.inr (va_up (fun j : Nat => rO adr (gv w a j)) (Int32.ofInt i).toNatClampNeg (some (adr v))))))))) → va_S (oldA K) (zs Z).heap H1 locs1 → Wz Z H1 locs1 (uc w - uc w0) (us w - us w0) (F0 (zm Z) (pc + 1) lsM (List.map (mvV adr) r)) := by
    intro n hn4 hkn H1 locs1 p1 p2 p3
    rw [clamp_of' hi1 h0, ← core n hn4 hkn] at p1 p2
    exact hk _ _ _ _ h Ext.sv adr H1 locs1 lsM ⟨hW', hR.2.1, hR.2.2.1, hR.2.2.2.1, p1, p2⟩ p3 hst' hL' hn hl hg (hx.tr Ext.sv)
  have obj : ∀ (n m : Nat), n < 4 → m < 10 → kd w a = ((n + 24 : Nat) : Int) → kd w v = ((m + 1 : Nat) : Int) → (tysO (lcA K))[n + 4]? = some (lcA K (n + 4), .object (clN m).1) → Wz Z H locs (uc w - uc w0) (us w - us w0) (F0 (zm Z) pc lsM (.ref (adr v) :: mvV adr (.inl i) :: .ref (adr a) :: List.map (mvV adr) r)) := by
    intro n m hn4 hm10 hkn hkm hty
    have hv32 : 32 ≤ v := kd_big hR.1 (by omega)
    obtain ⟨hvlt, -⟩ := hR.live hv32 (by omega)
    have hgv := wsO_get (cA := lcA K) (adr := adr) hv32 hvlt
    rw [cell_obj hkm hm10] at hgv
    rw [cell_ref hkn hn4] at hget
    exact va_astq B.1 B.2.1 B.2.2.2.2.2.2.1.1 hR.2.2.2.2.1 hR.2.2.2.2.2 hS _ _ _ m hget hty hgv (cl_at hm10) (vp_in_of' hi1 h0 (by omega)) hd (fin n hn4 hkn)
  rcases hc with q | q | q | q
  · exact obj 0 4 (by omega) (by omega) q.1 q.2 rfl
  · exact obj 1 7 (by omega) (by omega) q.1 q.2 rfl
  · exact obj 2 6 (by omega) (by omega) q.1 q.2 rfl
  · obtain ⟨e, he, hve⟩ := kd_30 hR.1 q.2.1
    have had : adr v = lcE K e := by rw [hve]; exact hR.2.1 e he
    have hO := ((B.2.2.2.2.2.2.1.2.1.kept B.2.2.2.2.2.2.2.1.kept).1 e he).2.1
    obtain ⟨cellV, o1, o2, o3, o4⟩ := hO
    have hany : va_Any RX10 (zs Z) H (adr v) := by
      obtain ⟨kC, hkC, -⟩ := Vm.findClass_spec o3
      refine ⟨cellV, ?_, o2, ⟨kC, hkC⟩, fun comp hcm => ?_⟩
      · rw [had, hS.2.1 _ (Array.getElem?_eq_some_iff.mp o1).1 o4]; exact o1
      · rw [o3] at hcm
        cases hcm
        show (_ == _ || _) = true
        rw [beq_self_eq_true, Bool.true_or]
    rw [cell_ref (n := 3) q.1 (by omega)] at hget
    exact va_astqM B.1 B.2.1 B.2.2.2.2.2.2.1.1 hR.2.2.2.2.1 hR.2.2.2.2.2 hS _ 7 hget rfl hany (vp_in_of' hi1 h0 (by omega)) hd (fin 3 (by omega) q.1)
theorem cell_arr {cA : Nat → ClassId} {adr : Int → Nat} {w : sW} {r : Int} (h : 20 ≤ kd w r ∧ kd w r ≤ 27) : ∃ (x : vp_A) (t : Nat) (ty : FieldType), cellOf cA adr w r = .inl (cA t, x) ∧ x.1 = (ln w r).toNat ∧ (tysO cA)[t]? = some (cA t, ty) := by
  rcases (show kd w r = 20 ∨ kd w r = 21 ∨ kd w r = 22 ∨ kd w r = 23 ∨ kd w r = ((0 + 24 : Nat) : Int) ∨ kd w r = ((1 + 24 : Nat) : Int) ∨ kd w r = ((2 + 24 : Nat) : Int) ∨ kd w r = ((3 + 24 : Nat) : Int) by omega) with e | e | e | e | e | e | e | e
  · exact ⟨_, 0, _, cell_int e, rfl, rfl⟩
  · exact ⟨_, 1, _, cell_byte e, rfl, rfl⟩
  · exact ⟨_, 2, _, cell_long e, rfl, rfl⟩
  · exact ⟨_, 3, _, cell_bool e, rfl, rfl⟩
  · exact ⟨_, 4, _, cell_ref e (by omega), rfl, rfl⟩
  · exact ⟨_, 5, _, cell_ref e (by omega), rfl, rfl⟩
  · exact ⟨_, 6, _, cell_ref e (by omega), rfl, rfl⟩
  · exact ⟨_, 7, _, cell_ref e (by omega), rfl, rfl⟩
theorem ofN_of (n : Nat) : Int32.ofNat n = Int32.ofInt (n : Int) := (Int32.ofInt_eq_ofNat).symm
theorem sm_arraylength (B : BX Z K) (hLL : lcL K ≤ 100000) (hd : decode (zC Z) pc = .ok (.arraylength, 1)) (h : sx C ret (.arraylength) tg nn ax sw pc ls st w kr k = some o) (hk : KOK Z K w0 adr0 w k o) : AtM Z K w0 adr0 pc ls st w := by
  obtain ⟨a, r, hs, h'⟩ := pR_s h
  clear h
  subst hs
  have h := h'
  clear h'
  obtain ⟨hc, h⟩ := if_s h
  intro adr H locs lsM hR hS ho hL hn hl hg hx
  by_cases hkb : 32 ≤ a
  · obtain ⟨hlt, hok⟩ := hR.live hkb (by omega)
    have hln := (hok.resolve_left (by omega)).2.1
    obtain ⟨x, t, ty, c1, c2, c3⟩ := cell_arr (cA := lcA K) (adr := adr) hc
    have hget := wsO_get (cA := lcA K) (adr := adr) hkb hlt
    rw [c1] at hget
    have hN := hk _ _ _ _ h Ext.rf adr H locs lsM hR hS (okS_c.mpr ⟨(by show in32 _; unfold in32; omega), (okS_c.mp ho).2⟩) hL hn hl hg hx
    simp only [List.map_cons, mv_ref (show a ≠ 0 by omega)]
    exact va_alen B.1 B.2.1 B.2.2.2.2.2.2.1.1 hR.2.2.2.2.1 _ t hget c3 (by rw [c2, ofN_of, show (((ln w a).toNat : Nat) : Int) = ln w a by omega]) hd hN
  · rcases kd_small (r := a) hR.1 (by omega) hc with ⟨ha, _, hln⟩ | ⟨ha, _, hln⟩
    · subst ha
      rw [hln] at h
      have hN := hk _ _ _ _ h Ext.rf adr H locs lsM hR hS (okS_c.mpr ⟨(by show in32 23; unfold in32; omega), (okS_c.mp ho).2⟩) hL hn hl hg hx
      simp only [List.map_cons, mv_ref (show (24 : Int) ≠ 0 by omega), hR.2.2.1]
      obtain ⟨cell, t1, t2, t3, t4, t5, t6, t7⟩ := B.2.2.2.2.2.2.1.2.2.2.2.2.2.1.kept B.2.2.2.2.2.2.2.1.kept
      exact W.alen (n := Int32.ofNat 23) B.1 B.2.1 (by rw [hS.2.1 _ (Array.getElem?_eq_some_iff.mp t1).1 t7]; exact t1) t2 t5 rfl rfl hd hN
    · subst ha
      rw [hln] at h
      have hN := hk _ _ _ _ h Ext.rf adr H locs lsM hR hS (okS_c.mpr ⟨(by show in32 _; unfold in32; omega), (okS_c.mp ho).2⟩) hL hn hl hg hx
      simp only [List.map_cons, mv_ref (show (25 : Int) ≠ 0 by omega), hR.2.2.2.1]
      have KX := B.2.2.2.2.2.2.1.2.2.2.2.2.2.2.1
      have hO := B.2.2.2.2.2.2.2.1
      refine va_slen B.1 B.2.1 (KX.1.kept (hO.2 _ KX.2)) (Nat.lt_of_lt_of_le KX.2 hO.1) (Nat.not_le.mpr KX.2) hS hd ?_
      rw [ofN_of]
      exact hN
theorem sm_new (B : BX Z K) {i : Nat} (hr : ∃ n : Nat, n < 10 ∧ ax = [((n + 1 : Nat) : Int)] ∧ tg = nF ((n + 1 : Nat) : Int) ∧ Cond.classLink (zo Z) i (clN n).1 ∈ zt Z ∧ Cond.instantiable (clN n).1 tg ∈ zt Z ∧ Cond.initialized (clN n).1 ∈ zt Z) (hd : decode (zC Z) pc = .ok (.new i, 3)) (hB : ∀ pc ls st w', k pc ls st w' = some o → uc w' - uc w0 ≤ (zR Z).cells ∧ us w' - us w0 ≤ (zR Z).slots) (h : sx C ret (.new i) tg nn ax sw pc ls st w kr k = some o) (hk : KOK Z K w0 adr0 w k o) : AtM Z K w0 adr0 pc ls st w := by
  obtain ⟨n, hn10, hax, htg, w1, w2, w3⟩ := hr
  subst hax
  replace h : k (pc + 3) ls (.inr (.inr (nx w)) :: st) (al w ((n + 1 : Nat) : Int) 0 tg) = some o := h
  intro adr H locs lsM hR hS ho hL hn hl hg hx
  have hA : ∀ q : Nat, (zs Z).heap.size ≤ q → oldA K q := fun q hq => Nat.le_trans B.2.2.2.2.2.2.2.1.1 hq
  obtain ⟨b1, b2⟩ := hB _ _ _ _ h
  obtain ⟨u1, u2⟩ := uc_al (κ := ((n + 1 : Nat) : Int)) (len := 0) (n := tg) hx
  rw [u1] at b1
  rw [u2] at b2
  subst htg
  rw [← cl_n hn10] at w2
  refine va_new (ci := n) (fs := (List.range (nF ((n + 1 : Nat) : Int))).map (fun k : Nat => mvV adr (mkV (fT ((n + 1 : Nat) : Int) k) 0))) B.1 B.2.1 B.2.2.2.2.1 (fun w hw => B.2.2.2.2.2.1 w (cl_ws hn10 w hw)) (tyN n) (cl_ty hn10) B.2.2.2.1 (B.2.2.2.2.1 _ w1) (B.2.2.2.2.1 _ w2) (B.2.2.2.2.1 _ w3) B.2.2.2.2.2.2.1.1 hR.2.2.2.2.1 hR.2.2.2.2.2 hS hA (cl_at hn10) (fun j hj => ?_) b1 (by rw [cl_n hn10]; exact b2) hd (fun q H1 p1 p2 p3 => ?_)
  · have htc := cl_tc hn10 j hj
    rw [cl_n hn10] at hj
    unfold vp_V
    rw [List.getD_eq_getElem?_getD, List.getElem?_map, List.getElem?_range hj]
    simp only [Option.map_some, Option.getD_some]
    rw [← htc]
    generalize tyN n j = t at htc ⊢
    have : fT ((n + 1 : Nat) : Int) j < 4 := by
      have hall : ∀ n, n < 10 → ∀ j, j < nF ((n + 1 : Nat) : Int) → fT ((n + 1 : Nat) : Int) j < 4 := by
        intro n hn
        rcases lt10 hn with rfl | rfl | rfl | rfl | rfl | rfl | rfl | rfl | rfl | rfl <;> decide +kernel
      exact hall n hn10 j hj
    rw [← htc] at this
    cases t <;> simp [tyc] at this ⊢ <;> rfl
  · obtain ⟨f1, f2, f3, f4, f5⟩ := al_frame (K := K) (q := q) (κ := ((n + 1 : Nat) : Int)) (len := 0) (n := nF ((n + 1 : Nat) : Int)) hR.1 ho hL hl hg hx
    have hws : wsO (lcA K) (adrN adr w q) (al w ((n + 1 : Nat) : Int) 0 (nF ((n + 1 : Nat) : Int))) = wsO (lcA K) adr w ++ [(q, .inr (n, (List.range (nF ((n + 1 : Nat) : Int))).map (fun k : Nat => mvV adr (mkV (fT ((n + 1 : Nat) : Int) k) 0))))] := by
      rw [wsO_al hR.1]
      have hk1 : kd (al w ((n + 1 : Nat) : Int) 0 (nF ((n + 1 : Nat) : Int))) (nx w) = ((n + 1 : Nat) : Int) := by rw [kd_al, if_pos rfl]
      rw [cell_obj hk1 hn10]
      unfold fldO
      rw [hk1]
      have : ∀ k : Nat, mvV (adrN adr w q) (mkV (fT ((n + 1 : Nat) : Int) k) (gv (al w ((n + 1 : Nat) : Int) 0 (nF ((n + 1 : Nat) : Int))) (nx w) k)) = mvV adr (mkV (fT ((n + 1 : Nat) : Int) k) 0) := by
        intro k
        rw [gv_al, if_pos rfl]
        match fT ((n + 1 : Nat) : Int) k with
        | 0 => rfl
        | 1 => rfl
        | 2 => rfl
        | t + 3 => rfl
      simp only [this]
    rw [← hws] at p1 p2
    have hnx : 0 < nx w := by have := hR.1.1; omega
    have hkk : kd (al w ((n + 1 : Nat) : Int) 0 (nF ((n + 1 : Nat) : Int))) (nx w) ≠ 0 := by rw [kd_al, if_pos rfl]; omega
    have a24 : (24 : Int) < nx w := by have := hR.1.1; omega
    have a25 : (25 : Int) < nx w := by have := hR.1.1; omega
    have hN := hk _ _ _ _ h Ext.al (adrN adr w q) H1 locs lsM ⟨WFw_al hR.1 (Or.inl (by omega)), fun k hk => by rw [adrN_old (by have := hR.1.1; omega)]; exact hR.2.1 k hk, by rw [adrN_old a24]; exact hR.2.2.1, by rw [adrN_old a25]; exact hR.2.2.2.1, p1, p2⟩ p3 (okS_c.mpr ⟨Or.inr hkk, f1⟩) f2 hn f3 f4 (hx.tr Ext.al)
    simp only [List.map_cons, mv_ref (show nx w ≠ 0 by omega), f5] at hN
    rw [u1, u2] at hN
    rw [cl_n hn10]
    have e : adrN adr w q (nx w) = q := if_pos rfl
    rw [e] at hN
    exact hN
end SH
end
section
/-! ===== new arrays, arraycopy, max and min, Object's constructor (printed by wip/whole/simi.py) ===== -/
section SI
variable {Z : MZ} {K : LC} {w0 w : sW} {adr0 : Int → Nat} {C : sC} {ret tg pc : Nat} {nn : List Nat} {ax : List Int} {sw : List (Int × Nat)} {ls : sL} {st : List sV} {kr : Option sV → sW → Option sO} {k : Nat → sL → List sV → sW → Option sO} {o : sO}
/-- behind a new array -/
theorem arr_core (B : BX Z K) {κ len : Int} {adr : Int → Nat} {H1 : Heap} {locs : List Loc} {lsM : Array Slot} {H : Heap} {q : Nat} {e : va_E} (h : k pc ls (.inr (.inr (nx w)) :: st) (al w κ len len.toNat) = some o) (hk : KOK Z K w0 adr0 w k o) (hR : RW K w adr H) (ho : okS w st) (hL : okL w ls) (hn : ls.length = zn Z) (hl : lv_has lsM (zn Z) (lvs adr ls 0)) (hg : ∀ r, r < nx w0 → adr r = adr0 r) (hx : Ext w0 w) (hκ : (20 ≤ κ ∧ κ ≤ 27) ∧ 0 ≤ len ∧ len ≤ 100000)
    (he : cellOf (lcA K) (adrN adr w q) (al w κ len len.toNat) (nx w) = e) (p1 : va_P (lcD K) vwCl (wsO (lcA K) adr w ++ [(q, e)]) H1) (p2 : va_D (oldA K) (wsO (lcA K) adr w ++ [(q, e)])) (p3 : va_S (oldA K) (zs Z).heap H1 locs) :
    Wz Z H1 locs (uc w - uc w0 + 1) (us w - us w0 + len.toNat) (F0 (zm Z) pc lsM (.ref q :: st.map (mvV adr))) := by
  obtain ⟨f1, f2, f3, f4, f5⟩ := al_frame (K := K) (q := q) (κ := κ) (len := len) (n := len.toNat) hR.1 ho hL hl hg hx
  obtain ⟨u1, u2⟩ := uc_al (κ := κ) (len := len) (n := len.toNat) hx
  rw [← he, ← wsO_al hR.1] at p1 p2
  have h32 := hR.1.1
  have hkk : kd (al w κ len len.toNat) (nx w) ≠ 0 := by rw [kd_al, if_pos rfl]; omega
  have hN := hk _ _ _ _ h Ext.al (adrN adr w q) H1 locs lsM ⟨WFw_al hR.1 (Or.inr hκ), fun k hk => by rw [adrN_old (by omega)]; exact hR.2.1 k hk, by rw [adrN_old (by omega)]; exact hR.2.2.1, by rw [adrN_old (by omega)]; exact hR.2.2.2.1, p1, p2⟩ p3 (okS_c.mpr ⟨Or.inr hkk, f1⟩) f2 hn f3 f4 (hx.tr Ext.al)
  simp only [List.map_cons, mv_ref (show nx w ≠ 0 by omega), f5] at hN
  rw [u1, u2] at hN
  have e2 : adrN adr w q (nx w) = q := if_pos rfl
  rw [e2] at hN
  exact hN
theorem sm_newarr_int (B : BX Z K) (hr : ax = [20] ∧ Cond.arrayClass .int ∈ zt Z) (hd : decode (zC Z) pc = .ok (.newarray .int, 2)) (hB : ∀ pc ls st w', k pc ls st w' = some o → uc w' - uc w0 ≤ (zR Z).cells ∧ us w' - us w0 ≤ (zR Z).slots) (h : sx C ret (.newarray .int) tg nn ax sw pc ls st w kr k = some o) (hk : KOK Z K w0 adr0 w k o) : AtM Z K w0 adr0 pc ls st w := by
  obtain ⟨hax, w1⟩ := hr
  subst hax
  replace h : pI st _ = some o := h
  obtain ⟨n, r, hs, h'⟩ := pI_s h
  clear h
  subst hs
  have h := h'
  clear h'
  obtain ⟨⟨h0, h1⟩, h⟩ := if_s h
  intro adr H locs lsM hR hS ho hL hn hl hg hx
  have hA : ∀ q : Nat, (zs Z).heap.size ≤ q → oldA K q := fun q hq => Nat.le_trans B.2.2.2.2.2.2.2.1.1 hq
  have hn1 : in32 n := (okS_c.mp ho).1
  obtain ⟨b1, b2⟩ := hB _ _ _ _ h
  obtain ⟨u1, u2⟩ := uc_al (κ := 20) (len := n) (n := n.toNat) hx
  rw [u1] at b1
  rw [u2] at b2
  refine va_newa (N' := n.toNat) (a0 := (n.toNat, .inl (fun _ => (0 : Int32)))) (atype := .int) (ty := .int) B.1 B.2.1 (B.2.2.2.2.1 _ w1) rfl B.2.2.2.2.2.2.1.1 hR.2.2.2.2.1 hR.2.2.2.2.2 hS hA (fun cA => rfl) (fun z => by have := (ofI_lt0 hn1).mp z; omega) (clamp_of' hn1 h0) (by show n.toNat * 4 ≤ 536870912; omega) b1 b2 hd (fun q cA H1 pk p1 p2 p3 => ?_)
  have hcA : cA = lcA K 0 := by
    have e1 := (pk.2 8 (cA, .int) rfl).2
    have e2 := (pk.2 0 (lcA K 0, .int) rfl).2
    exact Option.some.inj (Eq.trans (Eq.symm (show (zs Z).vm.findClass _ = some cA from e1)) (show (zs Z).vm.findClass _ = some (lcA K 0) from e2))
  subst hcA
  refine arr_core B h hk hR (okS_c.mp ho).2 hL hn hl hg hx ⟨by omega, h0, h1⟩ ?_ p1 p2 p3
  rw [cell_int (by rw [kd_al, if_pos rfl]), ln_al, if_pos rfl]
  simp only [gv_al, if_true]
  rfl
theorem sm_newarr_byte (B : BX Z K) (hr : ax = [21] ∧ Cond.arrayClass .byte ∈ zt Z) (hd : decode (zC Z) pc = .ok (.newarray .byte, 2)) (hB : ∀ pc ls st w', k pc ls st w' = some o → uc w' - uc w0 ≤ (zR Z).cells ∧ us w' - us w0 ≤ (zR Z).slots) (h : sx C ret (.newarray .byte) tg nn ax sw pc ls st w kr k = some o) (hk : KOK Z K w0 adr0 w k o) : AtM Z K w0 adr0 pc ls st w := by
  obtain ⟨hax, w1⟩ := hr
  subst hax
  replace h : pI st _ = some o := h
  obtain ⟨n, r, hs, h'⟩ := pI_s h
  clear h
  subst hs
  have h := h'
  clear h'
  obtain ⟨⟨h0, h1⟩, h⟩ := if_s h
  intro adr H locs lsM hR hS ho hL hn hl hg hx
  have hA : ∀ q : Nat, (zs Z).heap.size ≤ q → oldA K q := fun q hq => Nat.le_trans B.2.2.2.2.2.2.2.1.1 hq
  have hn1 : in32 n := (okS_c.mp ho).1
  obtain ⟨b1, b2⟩ := hB _ _ _ _ h
  obtain ⟨u1, u2⟩ := uc_al (κ := 21) (len := n) (n := n.toNat) hx
  rw [u1] at b1
  rw [u2] at b2
  refine va_newa (N' := n.toNat) (a0 := (n.toNat, .inl (fun _ => (0 : Int32)))) (atype := .byte) (ty := .byte) B.1 B.2.1 (B.2.2.2.2.1 _ w1) rfl B.2.2.2.2.2.2.1.1 hR.2.2.2.2.1 hR.2.2.2.2.2 hS hA (fun cA => rfl) (fun z => by have := (ofI_lt0 hn1).mp z; omega) (clamp_of' hn1 h0) (by show n.toNat * 1 ≤ 536870912; omega) b1 b2 hd (fun q cA H1 pk p1 p2 p3 => ?_)
  have hcA : cA = lcA K 1 := by
    have e1 := (pk.2 8 (cA, .byte) rfl).2
    have e2 := (pk.2 1 (lcA K 1, .byte) rfl).2
    exact Option.some.inj (Eq.trans (Eq.symm (show (zs Z).vm.findClass _ = some cA from e1)) (show (zs Z).vm.findClass _ = some (lcA K 1) from e2))
  subst hcA
  refine arr_core B h hk hR (okS_c.mp ho).2 hL hn hl hg hx ⟨by omega, h0, h1⟩ ?_ p1 p2 p3
  rw [cell_byte (by rw [kd_al, if_pos rfl]), ln_al, if_pos rfl]
  simp only [gv_al, if_true]
  rfl
theorem sm_newarr_long (B : BX Z K) (hr : ax = [22] ∧ Cond.arrayClass .long ∈ zt Z) (hd : decode (zC Z) pc = .ok (.newarray .long, 2)) (hB : ∀ pc ls st w', k pc ls st w' = some o → uc w' - uc w0 ≤ (zR Z).cells ∧ us w' - us w0 ≤ (zR Z).slots) (h : sx C ret (.newarray .long) tg nn ax sw pc ls st w kr k = some o) (hk : KOK Z K w0 adr0 w k o) : AtM Z K w0 adr0 pc ls st w := by
  obtain ⟨hax, w1⟩ := hr
  subst hax
  replace h : pI st _ = some o := h
  obtain ⟨n, r, hs, h'⟩ := pI_s h
  clear h
  subst hs
  have h := h'
  clear h'
  obtain ⟨⟨h0, h1⟩, h⟩ := if_s h
  intro adr H locs lsM hR hS ho hL hn hl hg hx
  have hA : ∀ q : Nat, (zs Z).heap.size ≤ q → oldA K q := fun q hq => Nat.le_trans B.2.2.2.2.2.2.2.1.1 hq
  have hn1 : in32 n := (okS_c.mp ho).1
  obtain ⟨b1, b2⟩ := hB _ _ _ _ h
  obtain ⟨u1, u2⟩ := uc_al (κ := 22) (len := n) (n := n.toNat) hx
  rw [u1] at b1
  rw [u2] at b2
  refine va_newa (N' := n.toNat) (a0 := (n.toNat, .inr (.inl (fun _ => (0 : Int64))))) (atype := .long) (ty := .long) B.1 B.2.1 (B.2.2.2.2.1 _ w1) rfl B.2.2.2.2.2.2.1.1 hR.2.2.2.2.1 hR.2.2.2.2.2 hS hA (fun cA => rfl) (fun z => by have := (ofI_lt0 hn1).mp z; omega) (clamp_of' hn1 h0) (by show n.toNat * 8 ≤ 536870912; omega) b1 b2 hd (fun q cA H1 pk p1 p2 p3 => ?_)
  have hcA : cA = lcA K 2 := by
    have e1 := (pk.2 8 (cA, .long) rfl).2
    have e2 := (pk.2 2 (lcA K 2, .long) rfl).2
    exact Option.some.inj (Eq.trans (Eq.symm (show (zs Z).vm.findClass _ = some cA from e1)) (show (zs Z).vm.findClass _ = some (lcA K 2) from e2))
  subst hcA
  refine arr_core B h hk hR (okS_c.mp ho).2 hL hn hl hg hx ⟨by omega, h0, h1⟩ ?_ p1 p2 p3
  rw [cell_long (by rw [kd_al, if_pos rfl]), ln_al, if_pos rfl]
  simp only [gv_al, if_true]
  rfl
theorem sm_newarr_bool (B : BX Z K) (hr : ax = [23] ∧ Cond.arrayClass .boolean ∈ zt Z) (hd : decode (zC Z) pc = .ok (.newarray .boolean, 2)) (hB : ∀ pc ls st w', k pc ls st w' = some o → uc w' - uc w0 ≤ (zR Z).cells ∧ us w' - us w0 ≤ (zR Z).slots) (h : sx C ret (.newarray .boolean) tg nn ax sw pc ls st w kr k = some o) (hk : KOK Z K w0 adr0 w k o) : AtM Z K w0 adr0 pc ls st w := by
  obtain ⟨hax, w1⟩ := hr
  subst hax
  replace h : pI st _ = some o := h
  obtain ⟨n, r, hs, h'⟩ := pI_s h
  clear h
  subst hs
  have h := h'
  clear h'
  obtain ⟨⟨h0, h1⟩, h⟩ := if_s h
  intro adr H locs lsM hR hS ho hL hn hl hg hx
  have hA : ∀ q : Nat, (zs Z).heap.size ≤ q → oldA K q := fun q hq => Nat.le_trans B.2.2.2.2.2.2.2.1.1 hq
  have hn1 : in32 n := (okS_c.mp ho).1
  obtain ⟨b1, b2⟩ := hB _ _ _ _ h
  obtain ⟨u1, u2⟩ := uc_al (κ := 23) (len := n) (n := n.toNat) hx
  rw [u1] at b1
  rw [u2] at b2
  refine va_newa (N' := n.toNat) (a0 := (n.toNat, .inl (fun _ => (0 : Int32)))) (atype := .boolean) (ty := .boolean) B.1 B.2.1 (B.2.2.2.2.1 _ w1) rfl B.2.2.2.2.2.2.1.1 hR.2.2.2.2.1 hR.2.2.2.2.2 hS hA (fun cA => rfl) (fun z => by have := (ofI_lt0 hn1).mp z; omega) (clamp_of' hn1 h0) (by show n.toNat * 1 ≤ 536870912; omega) b1 b2 hd (fun q cA H1 pk p1 p2 p3 => ?_)
  have hcA : cA = lcA K 3 := by
    have e1 := (pk.2 8 (cA, .boolean) rfl).2
    have e2 := (pk.2 3 (lcA K 3, .boolean) rfl).2
    exact Option.some.inj (Eq.trans (Eq.symm (show (zs Z).vm.findClass _ = some cA from e1)) (show (zs Z).vm.findClass _ = some (lcA K 3) from e2))
  subst hcA
  refine arr_core B h hk hR (okS_c.mp ho).2 hL hn hl hg hx ⟨by omega, h0, h1⟩ ?_ p1 p2 p3
  rw [cell_bool (by rw [kd_al, if_pos rfl]), ln_al, if_pos rfl]
  simp only [gv_al, if_true]
  rfl
theorem sm_anewarray (B : BX Z K) {i : Nat} (hr : ∃ t : Nat, t < 4 ∧ ax = [((t + 24 : Nat) : Int)] ∧ Cond.classLink (zo Z) i ([RX5, RX8, RX7, RX10].getD t "") ∈ zt Z) (hd : decode (zC Z) pc = .ok (.anewarray i, 3)) (hB : ∀ pc ls st w', k pc ls st w' = some o → uc w' - uc w0 ≤ (zR Z).cells ∧ us w' - us w0 ≤ (zR Z).slots) (h : sx C ret (.anewarray i) tg nn ax sw pc ls st w kr k = some o) (hk : KOK Z K w0 adr0 w k o) : AtM Z K w0 adr0 pc ls st w := by
  obtain ⟨t, ht4, hax, w1⟩ := hr
  subst hax
  replace h : pI st _ = some o := h
  obtain ⟨n, r, hs, h'⟩ := pI_s h
  clear h
  subst hs
  have h := h'
  clear h'
  obtain ⟨⟨h0, h1⟩, h⟩ := if_s h
  intro adr H locs lsM hR hS ho hL hn hl hg hx
  have hA : ∀ q : Nat, (zs Z).heap.size ≤ q → oldA K q := fun q hq => Nat.le_trans B.2.2.2.2.2.2.2.1.1 hq
  have hn1 : in32 n := (okS_c.mp ho).1
  obtain ⟨b1, b2⟩ := hB _ _ _ _ h
  obtain ⟨u1, u2⟩ := uc_al (κ := ((t + 24 : Nat) : Int)) (len := n) (n := n.toNat) hx
  rw [u1] at b1
  rw [u2] at b2
  have hmem : [RX5, RX8, RX7, RX10].getD t "" ∈ [RX5, RX8, RX7, RX10] := by
    rcases (show t = 0 ∨ t = 1 ∨ t = 2 ∨ t = 3 by omega) with rfl | rfl | rfl | rfl <;> simp
  have hty : (tysO (lcA K))[t + 4]? = some (lcA K (t + 4), .object ([RX5, RX8, RX7, RX10].getD t "")) := by
    rcases (show t = 0 ∨ t = 1 ∨ t = 2 ∨ t = 3 by omega) with rfl | rfl | rfl | rfl <;> rfl
  refine va_newq (N' := n.toNat) B.1 B.2.1 B.2.2.2.1 (B.2.2.2.2.1 _ w1) (B.2.2.2.2.2.2.1.2.2.2.2.2.2.2.2.2 _ hmem) B.2.2.2.2.2.2.1.1 hR.2.2.2.2.1 hR.2.2.2.2.2 hS hA (fun z => by have := (ofI_lt0 hn1).mp z; omega) (clamp_of' hn1 h0) (by omega) b1 b2 hd (fun q cA H1 pk p1 p2 p3 => ?_)
  have hcA : cA = lcA K (t + 4) := by
    obtain ⟨_, _, _, _, _, e1⟩ := (pk.2 8 (cA, .object ([RX5, RX8, RX7, RX10].getD t "")) rfl).2
    obtain ⟨_, _, _, _, _, e2⟩ := (B.2.2.2.2.2.2.1.1.2 (t + 4) _ hty).2
    exact Option.some.inj (e1.symm.trans e2)
  subst hcA
  refine arr_core B h hk hR (okS_c.mp ho).2 hL hn hl hg hx ⟨by omega, h0, h1⟩ ?_ p1 p2 p3
  rw [cell_ref (n := t) (by rw [kd_al, if_pos rfl]) ht4, ln_al, if_pos rfl]
  simp only [gv_al, if_true]
  rfl
theorem cpy_of {w : sW} {a d sp dp n : Int} (h0 : 0 ≤ sp) (h1 : 0 ≤ dp) (h2 : 0 ≤ n) : va_cpy (fun j : Nat => Int32.ofInt (gv w a j)) (fun j : Nat => Int32.ofInt (gv w d j)) sp.toNat dp.toNat n.toNat = fun j : Nat => Int32.ofInt (gv (cp w a sp d dp n) d j) := by
  funext j
  rw [gv_cp]
  unfold va_cpy
  by_cases e : dp.toNat ≤ j ∧ j < dp.toNat + n.toNat
  · rw [if_pos e, if_pos ⟨rfl, by omega, by omega⟩]
    show Int32.ofInt (gv w a ((sp.toNat + (j - dp.toNat) : Nat) : Int)) = _
    rw [show ((sp.toNat + (j - dp.toNat) : Nat) : Int) = sp + ((j : Int) - dp) by omega]
  · rw [if_neg e, if_neg (fun z => e (by omega))]
theorem okC_cp {w : sW} {a d sp dp n : Int} (ha : okC w a) (hd : okC w d) (hk : kd w a = kd w d) (h20 : 20 ≤ kd w d) : okC (cp w a sp d dp n) d := by
  right
  have h1 := hd.resolve_left (by omega)
  have h2 := ha.resolve_left (by omega)
  refine ⟨h1.1, h1.2.1, fun j => ?_, fun hb j => ?_⟩
  · rw [gv_cp, kd_cp, okV_kd (kd_cp w a sp d dp n)]
    split
    · rw [← hk]; exact h2.2.2.1 _
    · exact h1.2.2.1 j
  · rw [gv_cp]
    split
    · exact h2.2.2.2 (by rw [hk]; exact hb) _
    · exact h1.2.2.2 hb j
theorem sm_arraycopy (B : BX Z K) {i : Nat} (hr : nn = [0] ∧ Cond.methodLink (zo Z) i arraycopyName ∈ zt Z ∧ Cond.native arraycopyName ∈ zt Z ∧ Cond.static arraycopyName ∈ zt Z ∧ Cond.initialized "java/lang/System" ∈ zt Z) (hd : decode (zC Z) pc = .ok (.invokestatic i, 3)) (h : sx C ret (.invokestatic i) tg nn ax sw pc ls st w kr k = some o) (hk : KOK Z K w0 adr0 w k o) : AtM Z K w0 adr0 pc ls st w := by
  obtain ⟨hnn, w1, w2, w3, w4⟩ := hr
  subst hnn
  replace h : pI st _ = some o := h
  obtain ⟨n, r, hs, h'⟩ := pI_s h
  clear h
  subst hs
  have h := h'
  clear h'
  obtain ⟨dp, r, hs, h'⟩ := pI_s h
  clear h
  subst hs
  have h := h'
  clear h'
  obtain ⟨d, r, hs, h'⟩ := pR_s h
  clear h
  subst hs
  have h := h'
  clear h'
  obtain ⟨sp, r, hs, h'⟩ := pI_s h
  clear h
  subst hs
  have h := h'
  clear h'
  obtain ⟨a, r, hs, h'⟩ := pR_s h
  clear h
  subst hs
  have h := h'
  clear h'
  obtain ⟨⟨hc, g1, g2, g3, g4, g5, g6, g7⟩, h⟩ := if_s h
  obtain ⟨h8, h⟩ := c8_s h
  intro adr H locs lsM hR hS ho hL hn hl hg hx
  have ho1 := (okS_c.mp ho).2
  have ho2 := (okS_c.mp ho1).2
  have ho3 := (okS_c.mp ho2).2
  have ho4 := (okS_c.mp ho3).2
  have hst := (okS_c.mp ho4).2
  have hn1 : in32 n := (okS_c.mp ho).1
  have hdp1 : in32 dp := (okS_c.mp ho1).1
  have hsp1 : in32 sp := (okS_c.mp ho3).1
  obtain ⟨hlt1, hok1⟩ := hR.live g1 (by omega)
  obtain ⟨hlt2, hok2⟩ := hR.live g2 (by omega)
  have hW' : WFw (lcL K) (lcX K) (cp w a sp d dp n) := hR.1.upd rfl rfl (fun b j' hb => by rw [gv_cp, if_neg (fun z => hb z.1)]) g2 (okC_cp hok1 hok2 (by omega) (by omega))
  have hst' : okS (cp w a sp d dp n) r := fun u hu => (okV_kd (kd_cp w a sp d dp n)).mpr (hst u hu)
  have hL' : okL (cp w a sp d dp n) ls := fun u hu => (okV_kd (kd_cp w a sp d dp n)).mpr (hL u hu)
  have hgA := wsO_get (cA := lcA K) (adr := adr) g1 hlt1
  have hgD := wsO_get (cA := lcA K) (adr := adr) g2 hlt2
  have hRm := B.2.2.2.2.2.2.2.2
  have hcs : (List.map (fun v : Value => v.category) (List.map (mvV adr) r)).sum + (nativeFrameWords "java/lang/System" "arraycopy" 5 + 11) ≤ (zR Z).locals := by
    rw [catSum_mv, show nativeFrameWords "java/lang/System" "arraycopy" 5 = 7 by decide]
    have := hRm.2
    omega
  simp only [List.map_cons, mv_ref (show a ≠ 0 by omega), mv_ref (show d ≠ 0 by omega)]
  rcases hc with hc | hc
  · rw [cell_int hc.1] at hgA
    rw [cell_int hc.2] at hgD
    have hws : wsO (lcA K) adr (cp w a sp d dp n) = (wsO (lcA K) adr w).set (d - 32).toNat (adr d, .inl (lcA K 0, (ln w d).toNat, .inl (va_cpy (fun j : Nat => Int32.ofInt (gv w a j)) (fun j : Nat => Int32.ofInt (gv w d j)) sp.toNat dp.toNat n.toNat))) := by
      rw [wsO_set (w := w) (w' := cp w a sp d dp n) g2 hlt2 rfl cellOf_cp, cell_int (show kd (cp w a sp d dp n) d = 20 from hc.2), cpy_of g3 g4 g5]
      rfl
    refine va_copyi B.1 B.2.1 (B.2.2.1.trans hl.1.symm) B.2.2.2.1 (B.2.2.2.2.1 _ w1) (B.2.2.2.2.1 _ w2) (B.2.2.2.2.1 _ w3) (B.2.2.2.2.1 _ w4) B.2.2.2.2.2.2.1.1 hR.2.2.2.2.1 hR.2.2.2.2.2 hS _ _ 0 0 hgA hgD rfl rfl rfl (fun z => by have := (ofI_lt0 hsp1).mp z; omega) (fun z => by have := (ofI_lt0 hdp1).mp z; omega) (fun z => by have := (ofI_lt0 hn1).mp z; omega) (by rw [clamp_of' hsp1 g3, clamp_of' hn1 g5]; omega) (by rw [clamp_of' hdp1 g4, clamp_of' hn1 g5]; omega) (fun _ _ => rfl) hRm.1 hcs hd fun H1 locs1 p1 p2 p3 => ?_
    rw [clamp_of' hsp1 g3, clamp_of' hdp1 g4, clamp_of' hn1 g5, ← hws] at p1 p2
    exact hk _ _ _ _ h Ext.cp adr H1 locs1 lsM ⟨hW', hR.2.1, hR.2.2.1, hR.2.2.2.1, p1, p2⟩ p3 hst' hL' hn hl hg (hx.tr Ext.cp)
  · rw [cell_byte hc.1] at hgA
    rw [cell_byte hc.2] at hgD
    have hws : wsO (lcA K) adr (cp w a sp d dp n) = (wsO (lcA K) adr w).set (d - 32).toNat (adr d, .inl (lcA K 1, (ln w d).toNat, .inl (va_cpy (fun j : Nat => Int32.ofInt (gv w a j)) (fun j : Nat => Int32.ofInt (gv w d j)) sp.toNat dp.toNat n.toNat))) := by
      rw [wsO_set (w := w) (w' := cp w a sp d dp n) g2 hlt2 rfl cellOf_cp, cell_byte (show kd (cp w a sp d dp n) d = 21 from hc.2), cpy_of g3 g4 g5]
      rfl
    refine va_copyi B.1 B.2.1 (B.2.2.1.trans hl.1.symm) B.2.2.2.1 (B.2.2.2.2.1 _ w1) (B.2.2.2.2.1 _ w2) (B.2.2.2.2.1 _ w3) (B.2.2.2.2.1 _ w4) B.2.2.2.2.2.2.1.1 hR.2.2.2.2.1 hR.2.2.2.2.2 hS _ _ 1 1 hgA hgD rfl rfl rfl (fun z => by have := (ofI_lt0 hsp1).mp z; omega) (fun z => by have := (ofI_lt0 hdp1).mp z; omega) (fun z => by have := (ofI_lt0 hn1).mp z; omega) (by rw [clamp_of' hsp1 g3, clamp_of' hn1 g5]; omega) (by rw [clamp_of' hdp1 g4, clamp_of' hn1 g5]; omega) (fun q _ => ?_) hRm.1 hcs hd fun H1 locs1 p1 p2 p3 => ?_
    · have hb := (hok1.resolve_left (by omega)).2.2.2 hc.1 (((Int32.ofInt sp).toNatClampNeg + q : Nat) : Int)
      have hi : in32 (gv w a (((Int32.ofInt sp).toNatClampNeg + q : Nat) : Int)) := by unfold in32; omega
      have e1 : (-128 : Int32) ≤ Int32.ofInt (gv w a (((Int32.ofInt sp).toNatClampNeg + q : Nat) : Int)) := by
        rw [show (-128 : Int32) = Int32.ofInt (-128) from rfl, ofI_le (by unfold in32; omega) hi]; exact hb.1
      have e2 : Int32.ofInt (gv w a (((Int32.ofInt sp).toNatClampNeg + q : Nat) : Int)) ≤ (127 : Int32) := by
        rw [show (127 : Int32) = Int32.ofInt 127 from rfl, ofI_le hi (by unfold in32; omega)]; omega
      show (decide _ && decide _) = true
      exact (Bool.and_eq_true _ _).mpr ⟨decide_eq_true e1, decide_eq_true e2⟩
    · rw [clamp_of' hsp1 g3, clamp_of' hdp1 g4, clamp_of' hn1 g5, ← hws] at p1 p2
      exact hk _ _ _ _ h Ext.cp adr H1 locs1 lsM ⟨hW', hR.2.1, hR.2.2.1, hR.2.2.2.1, p1, p2⟩ p3 hst' hL' hn hl hg (hx.tr Ext.cp)
theorem sm_mmax (B : BX Z K) {i : Nat} (hr : nn = [1] ∧ Cond.methodLink (zo Z) i Lib.Math.max.name ∈ zt Z ∧ Cond.static Lib.Math.max.name ∈ zt Z ∧ Cond.initialized "java/lang/Math" ∈ zt Z ∧ Cond.code Lib.Math.max.name Lib.Math.max.code 2 (some .int) ∈ zt Z) (hd : decode (zC Z) pc = .ok (.invokestatic i, 3)) (hB : ∀ pc ls st w', k pc ls st w' = some o → uc w' - uc w0 ≤ (zR Z).cells ∧ us w' - us w0 ≤ (zR Z).slots) (h : sx C ret (.invokestatic i) tg nn ax sw pc ls st w kr k = some o) (hk : KOK Z K w0 adr0 w k o) : AtM Z K w0 adr0 pc ls st w := by
  obtain ⟨hnn, w1, w2, w3, w4⟩ := hr
  subst hnn
  replace h : pI st _ = some o := h
  obtain ⟨y, r, hs, h'⟩ := pI_s h
  clear h
  subst hs
  have h := h'
  clear h'
  obtain ⟨x, r, hs, h'⟩ := pI_s h
  clear h
  subst hs
  have h := h'
  clear h'
  obtain ⟨h8, h⟩ := c8_s h
  intro adr H locs lsM hR hS ho hL hn hl hg hx
  have hx1 : in32 x := (okS_c.mp (okS_c.mp ho).2).1
  have hy1 : in32 y := (okS_c.mp ho).1
  have hRm := B.2.2.2.2.2.2.2.2
  obtain ⟨b1, b2⟩ := hB _ _ _ _ h
  have hN := hk _ _ _ _ h Ext.rf adr H locs lsM hR hS (okS_c.mpr ⟨(by show in32 _; split <;> assumption), (okS_c.mp (okS_c.mp ho).2).2⟩) hL hn hl hg hx
  refine va_mmax B.1 B.2.1 (B.2.2.1.trans hl.1.symm) B.2.2.2.1 (B.2.2.2.2.1 _ w1) (B.2.2.2.2.1 _ w2) (B.2.2.2.2.1 _ w3) (B.2.2.2.2.1 _ w4) hRm.1 (by rw [catSum_mv]; have := hRm.2; omega) b1 b2 hd ?_
  have e : (if Int32.ofInt x < Int32.ofInt y then Int32.ofInt y else Int32.ofInt x) = Int32.ofInt (if x < y then y else x) := by
    by_cases c : x < y
    · rw [if_pos c, if_pos ((ofI_lt hx1 hy1).mpr c)]
    · rw [if_neg c, if_neg (fun z => c ((ofI_lt hx1 hy1).mp z))]
  rw [e]
  exact hN
theorem sm_mmin (B : BX Z K) {i : Nat} (hr : nn = [2] ∧ Cond.methodLink (zo Z) i Lib.Math.min.name ∈ zt Z ∧ Cond.static Lib.Math.min.name ∈ zt Z ∧ Cond.initialized "java/lang/Math" ∈ zt Z ∧ Cond.code Lib.Math.min.name Lib.Math.min.code 2 (some .int) ∈ zt Z) (hd : decode (zC Z) pc = .ok (.invokestatic i, 3)) (hB : ∀ pc ls st w', k pc ls st w' = some o → uc w' - uc w0 ≤ (zR Z).cells ∧ us w' - us w0 ≤ (zR Z).slots) (h : sx C ret (.invokestatic i) tg nn ax sw pc ls st w kr k = some o) (hk : KOK Z K w0 adr0 w k o) : AtM Z K w0 adr0 pc ls st w := by
  obtain ⟨hnn, w1, w2, w3, w4⟩ := hr
  subst hnn
  replace h : pI st _ = some o := h
  obtain ⟨y, r, hs, h'⟩ := pI_s h
  clear h
  subst hs
  have h := h'
  clear h'
  obtain ⟨x, r, hs, h'⟩ := pI_s h
  clear h
  subst hs
  have h := h'
  clear h'
  obtain ⟨h8, h⟩ := c8_s h
  intro adr H locs lsM hR hS ho hL hn hl hg hx
  have hx1 : in32 x := (okS_c.mp (okS_c.mp ho).2).1
  have hy1 : in32 y := (okS_c.mp ho).1
  have hRm := B.2.2.2.2.2.2.2.2
  obtain ⟨b1, b2⟩ := hB _ _ _ _ h
  have hN := hk _ _ _ _ h Ext.rf adr H locs lsM hR hS (okS_c.mpr ⟨(by show in32 _; split <;> assumption), (okS_c.mp (okS_c.mp ho).2).2⟩) hL hn hl hg hx
  refine va_mmin B.1 B.2.1 (B.2.2.1.trans hl.1.symm) B.2.2.2.1 (B.2.2.2.2.1 _ w1) (B.2.2.2.2.1 _ w2) (B.2.2.2.2.1 _ w3) (B.2.2.2.2.1 _ w4) hRm.1 (by rw [catSum_mv]; have := hRm.2; omega) b1 b2 hd ?_
  have e : (if Int32.ofInt y < Int32.ofInt x then Int32.ofInt y else Int32.ofInt x) = Int32.ofInt (if y < x then y else x) := by
    by_cases c : y < x
    · rw [if_pos c, if_pos ((ofI_lt hy1 hx1).mpr c)]
    · rw [if_neg c, if_neg (fun z => c ((ofI_lt hy1 hx1).mp z))]
  rw [e]
  exact hN
theorem sm_objinit (B : BX Z K) {i : Nat} (hr : nn = [] ∧ Cond.methodLink (zo Z) i Lib.objectInit ∈ zt Z ∧ Cond.instanceMethod Lib.objectInit ∈ zt Z ∧ Cond.code Lib.objectInit ⟨#[0xb1]⟩ 1 none ∈ zt Z) (hax : ∃ c : Int, ax = [c] ∧ c ≠ 0) (hd : decode (zC Z) pc = .ok (.invokespecial i, 3)) (h : sx C ret (.invokespecial i) tg nn ax sw pc ls st w kr k = some o) (hk : KOK Z K w0 adr0 w k o) : AtM Z K w0 adr0 pc ls st w := by
  obtain ⟨hnn, w1, w2, w3⟩ := hr
  obtain ⟨c, hax, hc0⟩ := hax
  subst hnn
  subst hax
  replace h : pR st _ = some o := h
  obtain ⟨a, r, hs, h'⟩ := pR_s h
  clear h
  subst hs
  have h := h'
  clear h'
  obtain ⟨hc, h⟩ := if_s h
  obtain ⟨h8, h⟩ := c8_s h
  intro adr H locs lsM hR hS ho hL hn hl hg hx
  have hRm := B.2.2.2.2.2.2.2.2
  have ha := (hR.1.pos a (by omega)).1
  have hN := hk _ _ _ _ h Ext.rf adr H locs lsM hR hS (okS_c.mp ho).2 hL hn hl hg hx
  simp only [List.map_cons, mv_ref (show a ≠ 0 by omega)]
  exact W.objInit B.1 B.2.1 B.2.2.2.1 (B.2.2.2.2.1 _ w1) (B.2.2.2.2.1 _ w2) (B.2.2.2.2.1 _ w3) (g := F0 (zm Z) pc lsM (.ref (adr a) :: List.map (mvV adr) r)) rfl (by show lsM.size = _; rw [hl.1, B.2.2.1]) rfl hd hRm.1 (by show 2 * 0 + _ + 12 ≤ _; rw [catSum_mv]; have := hRm.2; omega) hN
end SI
end
section
/-! ===== contracts of the methods, calls, returns ===== -/
/-- a method: name, bytes, locals, what it returns, its table, its handlers -/
abbrev sI : Type := MethodName × ByteArray × Nat × Option FieldType × sM × List (Nat × Nat × Nat × Nat)
def cdW (mi : sI) : Cond := match mi.2.2.2.2.2 with
  | [] => .code mi.1 mi.2.1 mi.2.2.1 mi.2.2.2.1
  | _ :: _ => .codeWith mi.1 mi.2.1 mi.2.2.1 mi.2.2.2.1 mi.2.2.2.2.2
def wsM (mi : sI) : List Cond := cdW mi :: tG
theorem wsM_0 {mi : sI} (h : mi.2.2.2.2.2 = []) : wsM mi = .code mi.1 mi.2.1 mi.2.2.1 mi.2.2.2.1 :: tG := by unfold wsM cdW; rw [h]
theorem wsM_1 {mi : sI} (h : mi.2.2.2.2.2 ≠ []) : wsM mi = .codeWith mi.1 mi.2.1 mi.2.2.1 mi.2.2.2.1 mi.2.2.2.2.2 :: tG := by
  unfold wsM cdW
  cases e : mi.2.2.2.2.2 with
  | nil => exact absurd e h
  | cons a b => rfl
def rmD (d mc ms : Nat) : Room := { frames := d, cells := mc, slots := ms, locals := 60 * d }
def PcM (K : LC) (w : sW) (adr : Int → Nat) (as : List sV) : Array Value → State → Prop := fun v U => v = (as.map (mvV adr)).toArray ∧ KN K U ∧ Old K U.heap ∧ RW K w adr U.heap ∧ okS w as
def QcM (K : LC) (w : sW) (adr : Int → Nat) (r : Option sV) (w' : sW) : Array Value → State → Outcome → State → Prop := fun _ st oc t =>
  (∃ adr' : Int → Nat, oc = .returned (r.map (mvV adr')) ∧ RW K w' adr' t.heap ∧ (∀ q, q < nx w → adr' q = adr q) ∧ ∀ v, r = some v → okV w' v) ∧ va_F (oldA K) st t
def CTM (l : Launch) (K : LC) (d : Nat) (mi : sI) (w : sW) (adr : Int → Nat) (as : List sV) (r : Option sV) (w' : sW) : Prop :=
  Met l mi.1 (wsM mi) (rmD d (uc w' - uc w) (us w' - us w)) (PcM K w adr as) (QcM K w adr r w') (uc w' - uc w) (us w' - us w) (oldA K)
abbrev thrown : Option sV := some (.inr (.inr (-7)))
/-- what is said of a method's words -/
def MOK (mi : sI) : Prop :=
  cdW mi ∈ tG ∧ Cond.initialized mi.1.cls ∈ tG ∧ (mi.1.cls ≠ "java/lang/invoke/MethodHandle" ∧ mi.1.cls ≠ "java/lang/invoke/VarHandle") ∧ mi.2.2.1 ≤ 40 ∧ plainName mi.1.cls = true
def parN (mi : sI) : Option Nat := (parseMethodDescriptor mi.1.desc).map (fun d => d.parameters.length)
theorem KN.mv {K : LC} {u U : State} (hvm : u.vm.Alike U.vm) (hw : ∀ w ∈ nestW, va_Nw w u → va_Nw w U) (h : KN K u) : KN K U := by
  obtain ⟨h1, h2, h3, h4, h5, h6, h7, h8, h9, h10⟩ := h
  exact ⟨va_K.moved hvm h1, va_En.moved hvm h2, va_Ef.moved hvm h3, va_Ef.moved hvm h4, va_Ef.moved hvm h5, va_Z.moved hvm h6, va_T.moved hvm h7, ⟨va_X.moved hvm h8.1, h8.2⟩, fun w q => hw w q (h9 w q), fun C hC => va_AO.moved hvm (h10 C hC)⟩
theorem nestW_all {P : Cond → Prop} (h : ∀ (a : String) (i : Nat) (x : MethodName) (q : String), P (.methodLinkNest a i x q)) : ∀ w ∈ nestW, P w := by
  intro w hw
  simp only [nestW, List.mem_cons, List.not_mem_nil, or_false] at hw
  rcases hw with rfl | rfl | rfl | rfl | rfl | rfl | rfl <;> exact h _ _ _ _
theorem KN.warm {K : LC} {u U : State} (hW : u.WarmedH U.vm) (h : KN K u) : KN K U := KN.mv hW.alike (nestW_all (P := fun w => va_Nw w u → va_Nw w U) (fun _ _ _ _ => va_Nw.warmM hW)) h
theorem KN.same {K : LC} {u U : State} (hv : u.vm = U.vm) (h : KN K u) : KN K U := KN.mv (by rw [hv]; exact Vm.Alike.refl _) (nestW_all (P := fun w => va_Nw w u → va_Nw w U) (fun _ _ _ _ => va_Nw.same rfl hv)) h
theorem tG_in {w : Cond} (h : w ∈ tG) : goodWord w = true := (List.mem_filter.mp h).2
theorem PcM.blind {K : LC} {w : sW} {adr : Int → Nat} {as : List sV} : FrameBlind (PcM K w adr as) := by
  intro a U g mk h
  obtain ⟨h1, h2, h3, h4, h5⟩ := h
  exact ⟨h1, KN.same (u := U) rfl h2, h3, h4, h5⟩
section SJ
variable {Z : MZ} {K : LC} {w0 w : sW} {adr0 : Int → Nat} {C : sC} {ret tg pc : Nat} {nn : List Nat} {ax : List Int} {sw : List (Int × Nat)} {ls : sL} {st : List sV} {kr : Option sV → sW → Option sO} {k : Nat → sL → List sV → sW → Option sO} {o : sO}
theorem good_zt (B : BX Z K) {ws : List Cond} (h : ∀ w ∈ ws, w ∈ tG) : GoodIn (zt Z) ws := fun w hw => ⟨B.2.2.2.2.2.1 w (h w hw), good_of_word (tG_in (h w hw))⟩
theorem wsM_tG {mi : sI} (h : MOK mi) : ∀ w ∈ wsM mi, w ∈ tG := fun w hw => (List.mem_cons.mp hw).elim (fun e => by rw [e]; exact h.1) id
/-- behind a call -/
theorem call_core {w1 : sW} {r : Option sV} {rest : List sV} {stM : List Value} {adr : Int → Nat} {H : Heap} {locs : List Loc} {lsM : Array Slot} {a : Array Value}
    (hrun : va_Run (zp Z) (zl Z) (ze Z) (zR Z) (zs Z) (zm Z) (za Z) (zb Z) (zh Z) (zc Z) H locs (uc w - uc w0) (us w - us w0) (uc w1 - uc w) (us w1 - us w) (F0 (zm Z) pc lsM stM) (rest.map (mvV adr)) (QcM K w adr r w1 a) (oldA K))
    (hN : AtM Z K w0 adr0 (pc + 3) ls (r.toList ++ rest) w1) (hR : RW K w adr H) (hS : va_S (oldA K) (zs Z).heap H locs) (ho : okS w rest) (hL : okL w ls) (hn : ls.length = zn Z) (hl : lv_has lsM (zn Z) (lvs adr ls 0)) (hg : ∀ r, r < nx w0 → adr r = adr0 r) (hx : Ext w0 w) (hx1 : Ext w w1) :
    Wz Z H locs (uc w - uc w0) (us w - us w0) (F0 (zm Z) pc lsM stM) := by
  intro T hT X
  obtain ⟨v, st₀, t, T', L, h0, X', hLL, e1, e2, ⟨⟨adr', hv, hRW, hag, hok⟩, hz, hk⟩, st⟩ := hrun T hT X
  cases hv
  rw [h0] at hz hk
  have hlt := hR.1.lt
  have hst : okS w1 (r.toList ++ rest) := by
    intro u hu
    rcases List.mem_append.mp hu with q | q
    · exact hok u (by simpa using q)
    · exact (ho u q).ext hx1 hlt
  have hcells : uc w - uc w0 + (uc w1 - uc w) = uc w1 - uc w0 := by have := hx.2.2.1; have := hx1.2.2.1; omega
  have hslots : us w - us w0 + (us w1 - us w) = us w1 - us w0 := by have := hx.2.2.2; have := hx1.2.2.2; omega
  rw [hcells, hslots] at X'
  have hmap : (r.toList ++ rest).map (mvV adr') = (r.map (mvV adr')).toList ++ rest.map (mvV adr) := by
    rw [List.map_append]
    congr 1
    · cases r <;> rfl
    · exact List.map_congr_left fun u hu => mv_eq hlt hag (ho u hu)
  obtain ⟨t2, a1, b1⟩ := hN adr' T'.heap (locs ++ L) lsM (by rw [e1]; exact hRW)
    ⟨Nat.le_trans hS.1 (by rw [e1]; exact hz), fun q h1 h2 => by rw [e1, hk q (Nat.lt_of_lt_of_le h1 hS.1) h2]; exact hS.2.1 q h1 h2, fun q hq => by
      rcases List.mem_append.mp hq with h | h
      · exact hS.2.2 q h
      · exact hLL q h⟩
    hst (fun u hu => (hL u hu).ext hx1 hlt) hn (lvh_sub hl (fun i u hu => ⟨hu, mv_eq hlt hag (okL_at hL hu)⟩)) (fun q hq => by rw [hag q (Int.lt_of_lt_of_le hq hx.2.1)]; exact hg q hq) (hx.tr hx1) T' rfl X'
  rw [hmap] at a1
  exact ⟨t2, st t2 a1, b1⟩
theorem old_now (B : BX Z K) {H : Heap} {locs : List Loc} (hS : va_S (oldA K) (zs Z).heap H locs) : Old K H := by
  have hO := B.2.2.2.2.2.2.2.1
  refine ⟨Nat.le_trans hO.1 hS.1, fun q hq => ?_⟩
  rw [hS.2.1 q (Nat.lt_of_lt_of_le hq hO.1) (Nat.not_le.mpr hq)]
  exact hO.2 q hq
theorem pcM_of (B : BX Z K) {H : Heap} {locs : List Loc} {adr : Int → Nat} {as : List sV} (hS : va_S (oldA K) (zs Z).heap H locs) (hR : RW K w adr H) (ho : okS w as) : ∀ U : State, U.heap = H → (zs Z).WarmedH U.vm → PcM K w adr as (as.map (mvV adr)).toArray U := by
  intro U hU hW
  exact ⟨rfl, KN.warm hW B.2.2.2.2.2.2.1, by rw [hU]; exact old_now B hS, by rw [hU]; exact hR, ho⟩
theorem okS_ap {w : sW} {a b : List sV} : okS w (a ++ b) ↔ okS w a ∧ okS w b := by
  simp only [okS, List.mem_append]
  exact ⟨fun h => ⟨fun v hv => h v (Or.inl hv), fun v hv => h v (Or.inr hv)⟩, fun h v hv => hv.elim (h.1 v) (h.2 v)⟩
theorem okS_rev {w : sW} {a : List sV} : okS w a.reverse ↔ okS w a := by simp [okS]
/-- what the call answers -/
theorem cal_s {mid rty : Nat} {as rest : List sV} {k' : List sV → sW → Option sO} (h : cal C mid rty w as rest k' = some o) : catSum rest ≤ 8 ∧ ∃ (r : Option sV) (w1 : sW), C mid w as = some (r, w1) ∧ r ≠ thrown ∧ k' (r.toList ++ rest) w1 = some o := by
  unfold cal at h
  cases hc : Nat.ble (catSum rest) 8 with
  | false => rw [hc] at h; cases h
  | true =>
    rw [hc] at h
    refine ⟨Nat.le_of_ble_eq_true hc, ?_⟩
    simp only [cond_true] at h
    split at h
    · unfold bN at h
      split at h
      · rename_i e
        exact ⟨none, _, e, (by simp), h⟩
      · cases h
    · unfold bL at h
      split at h
      · rename_i e
        exact ⟨_, _, e, (by simp), h⟩
      · cases h
    · unfold bR at h
      split at h
      · rename_i x _ e
        obtain ⟨h0, h⟩ := if_s h
        exact ⟨_, _, e, (by intro z; simp only [Option.some.injEq, Sum.inr.injEq] at z; omega), h⟩
      · cases h
    · unfold bI at h
      split at h
      · rename_i e
        exact ⟨_, _, e, (by simp), h⟩
      · cases h
/-- what is known of the methods that are called -/
def SimC (l : Launch) (K : LC) (inf : Nat → Option sI) (d : Nat) (C : sC) : Prop := ∀ (mid : Nat) (w : sW) (as : List sV) (r : Option sV) (w' : sW), C mid w as = some (r, w') → r ≠ thrown → Ext w w' ∧ ∀ (mi : sI), inf mid = some mi → ∀ adr, CTM l K d mi w adr as r w'
variable {inf : Nat → Option sI} {d : Nat}
/-- the room of the frame below -/
def RoomD (Z : MZ) (d : Nat) : Prop := d + 1 ≤ (zR Z).frames ∧ 60 * (d + 1) ≤ (zR Z).locals
theorem room_ok {mi : sI} (hr : RoomD Z d) (hm : MOK mi) {mc ms : Nat} : (rmD d mc ms).frames + 1 ≤ (zR Z).frames ∧ 8 + (mi.2.2.1 + 11) + (rmD d mc ms).locals ≤ (zR Z).locals := by
  have h1 := hr.1
  have h2 := hr.2
  have h3 := hm.2.2.2.1
  exact ⟨h1, by show 8 + (mi.2.2.1 + 11) + 60 * d ≤ _; omega⟩
theorem mr0 {m : MethodId} {pc : Nat} {ls : Array Slot} {st : List Value} : (F0 m pc ls st).monitorRoom = 0 := rfl
theorem sm_invokevirtual (B : BX Z K) {i : Nat} {mi : sI} (hh0 : mi.2.2.2.2.2 = []) (hC : SimC (zl Z) K inf d C) (hrm : RoomD Z d) (hinf : inf tg = some mi) (hm : MOK mi) (hr : ∃ (c rty n : Nat), c < 10 ∧ ax = [((c + 1 : Nat) : Int)] ∧ nn = [rty, n] ∧ parN mi = some n ∧ mi.1.cls = (clN c).1) (hlk : Cond.methodLink (zo Z) i mi.1 ∈ tG) (him : Cond.instanceMethod mi.1 ∈ tG) (hsl : Cond.selects mi.1.cls mi.1 mi.1 ∈ tG)
    (hd : decode (zC Z) pc = .ok (.invokevirtual i, 3)) (hB : ∀ pc ls st w', k pc ls st w' = some o → uc w' - uc w0 ≤ (zR Z).cells ∧ us w' - us w0 ≤ (zR Z).slots) (h : sx C ret (.invokevirtual i) tg nn ax sw pc ls st w kr k = some o) (hk : KOK Z K w0 adr0 w k o) : AtM Z K w0 adr0 pc ls st w := by
  obtain ⟨c, rty, n, hc10, hax, hnn, hpn, hcl⟩ := hr
  subst hax
  subst hnn
  replace h : pN n st _ = some o := h
  obtain ⟨as, r0, hs, hlen, h'⟩ := pN_s h
  clear h
  subst hs
  obtain ⟨a, rest, hs, h⟩ := pR_s h'
  clear h'
  subst hs
  obtain ⟨hkd, h⟩ := if_s h
  obtain ⟨hcat, r, w1, hcall, hnt, h⟩ := cal_s h
  obtain ⟨hx1, hct⟩ := hC tg w _ r w1 hcall hnt
  intro adr H locs lsM hR hS ho hL hn hl hg hx
  have ho2 := (okS_ap.mp ho).2
  have hoA : okS w (.inr (.inr a) :: as) := okS_c.mpr ⟨(okS_c.mp ho2).1, okS_rev.mp (okS_ap.mp ho).1⟩
  have h32 : 32 ≤ a := kd_big hR.1 (by omega)
  obtain ⟨hlt, -⟩ := hR.live h32 (by omega)
  have hget := wsO_get (cA := lcA K) (adr := adr) h32 hlt
  rw [cell_obj hkd hc10] at hget
  have hrv := va_recv B.2.2.2.2.2.2.1.1 hR.2.2.2.2.1 (cl_at hc10) hget
  obtain ⟨b1, b2⟩ := hB _ _ _ _ h
  have hu1 := hx.2.2.1
  have hu2 := hx1.2.2.1
  have hv1 := hx.2.2.2
  have hv2 := hx1.2.2.2
  have e0 : mvV adr (.inr (.inr a)) = .ref (adr a) := mv_ref (by omega)
  have hpc := pcM_of B hS hR hoA
  rw [List.map_cons, e0] at hpc
  refine call_core (rest := rest) (r := r) (w1 := w1) (va_runV (C := (clN c).1) (b := adr a) (As := as.map (mvV adr)) ⟨B.1, B.2.1, B.2.2.1, B.2.2.2.1, B.2.2.2.2.1⟩ (hct mi hinf adr) (cwV n B.2.2.2.2.1 (good_zt B ?_) (wsM_0 hh0) rfl rfl ⟨hcl, hm.2.2.1.1, hm.2.2.1.2, hpn⟩ (room_ok hrm hm)) ⟨PcM.blind, hrv, hpc⟩ rfl (by simp [hlen]) hl.1 ?_ (by rw [mr0, catSum_mv]; omega) hd ⟨by omega, by omega⟩) (hk _ _ _ _ h hx1) hR hS (okS_c.mp ho2).2 hL hn hl hg hx hx1
  · intro w hw
    simp only [wsV, List.cons_append, List.nil_append, List.mem_cons] at hw
    rcases hw with rfl | rfl | rfl | rfl | hw
    · exact hlk
    · exact him
    · rw [← hcl]; exact hsl
    · rw [← hcl]; exact hm.2.1
    · exact wsM_tG hm w hw
  · simp only [List.map_append, List.map_reverse, List.map_cons, e0]
theorem sm_invokestatic (B : BX Z K) {i : Nat} {mi : sI} (hC : SimC (zl Z) K inf d C) (hrm : RoomD Z d) (hinf : inf tg = some mi) (hm : MOK mi) (hr : ∃ (rty n : Nat), nn = [rty, n] ∧ parN mi = some n) (hlk : Cond.methodLink (zo Z) i mi.1 ∈ tG ∨ ∃ host, Cond.methodLinkNest (zo Z) i mi.1 host ∈ nestW ∧ mi.2.2.2.2.2 = []) (hst : Cond.static mi.1 ∈ tG)
    (hd : decode (zC Z) pc = .ok (.invokestatic i, 3)) (hB : ∀ pc ls st w', k pc ls st w' = some o → uc w' - uc w0 ≤ (zR Z).cells ∧ us w' - us w0 ≤ (zR Z).slots) (h : sx C ret (.invokestatic i) tg nn ax sw pc ls st w kr k = some o) (hk : KOK Z K w0 adr0 w k o) : AtM Z K w0 adr0 pc ls st w := by
  obtain ⟨rty, n, hnn, hpn⟩ := hr
  subst hnn
  replace h : pN n st _ = some o := h
  obtain ⟨as, rest, hs, hlen, h'⟩ := pN_s h
  clear h
  subst hs
  obtain ⟨hcat, r, w1, hcall, hnt, h⟩ := cal_s h'
  clear h'
  obtain ⟨hx1, hct⟩ := hC tg w _ r w1 hcall hnt
  intro adr H locs lsM hR hS ho hL hn hl hg hx
  have hoA : okS w as := okS_rev.mp (okS_ap.mp ho).1
  obtain ⟨b1, b2⟩ := hB _ _ _ _ h
  have hu1 := hx.2.2.1
  have hu2 := hx1.2.2.1
  have hv1 := hx.2.2.2
  have hv2 := hx1.2.2.2
  have hpc := pcM_of B hS hR hoA
  have hsk : (as.reverse ++ rest).map (mvV adr) = (as.map (mvV adr)).reverse ++ rest.map (mvV adr) := by simp [List.map_reverse]
  have hws : Cond.methodLink (zo Z) i mi.1 ∈ tG → ∀ w ∈ va_wsS (zo Z) i mi.1 (wsM mi), w ∈ tG := by
    intro hlk w hw
    simp only [va_wsS, List.cons_append, List.nil_append, List.mem_cons] at hw
    rcases hw with rfl | rfl | rfl | hw
    · exact hlk
    · exact hst
    · exact hm.2.1
    · exact wsM_tG hm w hw
  rcases hlk with hlk | ⟨host, hlk, hh0⟩
  · by_cases hh0 : mi.2.2.2.2.2 = []
    · exact call_core (rest := rest) (r := r) (w1 := w1) (va_runS (As := as.map (mvV adr)) ⟨B.1, B.2.1, B.2.2.1, B.2.2.2.1, B.2.2.2.2.1⟩ (hct mi hinf adr) (va_cwS n B.2.2.2.2.1 (good_zt B (hws hlk)) (wsM_0 hh0) rfl rfl ⟨hm.2.2.1.1, hm.2.2.1.2, hpn⟩ (room_ok hrm hm)) ⟨PcM.blind, hpc⟩ rfl (by simp [hlen]) hl.1 hsk (by rw [mr0, catSum_mv]; omega) hd ⟨by omega, by omega⟩) (hk _ _ _ _ h hx1) hR hS (okS_ap.mp ho).2 hL hn hl hg hx hx1
    · exact call_core (rest := rest) (r := r) (w1 := w1) (vx_runSW (As := as.map (mvV adr)) ⟨B.1, B.2.1, B.2.2.1, B.2.2.2.1, B.2.2.2.2.1⟩ (hct mi hinf adr) (vx_cwSW n B.2.2.2.2.1 (good_zt B (hws hlk)) (wsM_1 hh0) rfl rfl ⟨hm.2.2.1.1, hm.2.2.1.2, hpn⟩ (room_ok hrm hm)) ⟨PcM.blind, hpc⟩ rfl (by simp [hlen]) hl.1 hsk (by rw [mr0, catSum_mv]; omega) hd ⟨by omega, by omega⟩) (hk _ _ _ _ h hx1) hR hS (okS_ap.mp ho).2 hL hn hl hg hx hx1
  · exact call_core (rest := rest) (r := r) (w1 := w1) (va_runSN (As := as.map (mvV adr)) ⟨B.1, B.2.1, B.2.2.1, B.2.2.2.1, B.2.2.2.2.1⟩ (hct mi hinf adr) ⟨va_cnB n B.2.2.2.2.1 (good_zt B (wsM_tG hm)) (wsM_0 hh0) rfl rfl (B.2.2.2.2.2.2.1.2.2.2.2.2.2.2.2.1 _ hlk) (B.2.2.2.2.1 _ (B.2.2.2.2.2.1 _ hm.2.1)) ⟨hm.2.2.1.1, hm.2.2.1.2, hpn⟩ (room_ok hrm hm), B.2.2.2.2.1 _ (B.2.2.2.2.2.1 _ hst), trivial⟩ ⟨PcM.blind, hpc⟩ rfl (by simp [hlen]) hl.1 hsk (by rw [mr0, catSum_mv]; omega) hd ⟨by omega, by omega⟩) (hk _ _ _ _ h hx1) hR hS (okS_ap.mp ho).2 hL hn hl hg hx hx1
theorem sm_invokespecial (B : BX Z K) {i : Nat} {mi : sI} (hh0 : mi.2.2.2.2.2 = []) (hC : SimC (zl Z) K inf d C) (hrm : RoomD Z d) (hinf : inf tg = some mi) (hm : MOK mi) (hret : mi.2.2.2.1 = none) (hini : mi.1.name = "<init>") (hr : ∃ (c n : Nat), c < 10 ∧ ax = [((c + 1 : Nat) : Int)] ∧ nn = [n] ∧ parN mi = some n) (hlk : Cond.methodLink (zo Z) i mi.1 ∈ tG ∨ ∃ host, Cond.methodLinkNest (zo Z) i mi.1 host ∈ nestW) (him : Cond.instanceMethod mi.1 ∈ tG)
    (hd : decode (zC Z) pc = .ok (.invokespecial i, 3)) (hB : ∀ pc ls st w', k pc ls st w' = some o → uc w' - uc w0 ≤ (zR Z).cells ∧ us w' - us w0 ≤ (zR Z).slots) (h : sx C ret (.invokespecial i) tg nn ax sw pc ls st w kr k = some o) (hk : KOK Z K w0 adr0 w k o) : AtM Z K w0 adr0 pc ls st w := by
  obtain ⟨c, n, hc10, hax, hnn, hpn⟩ := hr
  subst hax
  subst hnn
  replace h : pN n st _ = some o := h
  obtain ⟨as, r0, hs, hlen, h'⟩ := pN_s h
  clear h
  subst hs
  obtain ⟨a, rest, hs, h⟩ := pR_s h'
  clear h'
  subst hs
  obtain ⟨hkd, h⟩ := if_s h
  obtain ⟨hcat, r, w1, hcall, hnt, h⟩ := cal_s h
  obtain ⟨hx1, hct⟩ := hC tg w _ r w1 hcall hnt
  intro adr H locs lsM hR hS ho hL hn hl hg hx
  have ho2 := (okS_ap.mp ho).2
  have hoA : okS w (.inr (.inr a) :: as) := okS_c.mpr ⟨(okS_c.mp ho2).1, okS_rev.mp (okS_ap.mp ho).1⟩
  have h32 : 32 ≤ a := kd_big hR.1 (by omega)
  obtain ⟨b1, b2⟩ := hB _ _ _ _ h
  have hu1 := hx.2.2.1
  have hu2 := hx1.2.2.1
  have hv1 := hx.2.2.2
  have hv2 := hx1.2.2.2
  have e0 : mvV adr (.inr (.inr a)) = .ref (adr a) := mv_ref (by omega)
  have hpc := pcM_of B hS hR hoA
  rw [List.map_cons, e0] at hpc
  have hwm : wsM mi = Cond.code mi.1 mi.2.1 mi.2.2.1 none :: tG := by rw [wsM_0 hh0, hret]
  have hsk : (as.reverse ++ .inr (.inr a) :: rest).map (mvV adr) = (as.map (mvV adr)).reverse ++ .ref (adr a) :: rest.map (mvV adr) := by simp only [List.map_append, List.map_reverse, List.map_cons, e0]
  rcases hlk with hlk | ⟨host, hlk⟩
  · exact call_core (rest := rest) (r := r) (w1 := w1) (va_runI (b := adr a) (As := as.map (mvV adr)) ⟨B.1, B.2.1, B.2.2.1, B.2.2.2.1, B.2.2.2.2.1⟩ (hct mi hinf adr) (cwI n B.2.2.2.2.1 (good_zt B (wsM_tG hm)) hwm rfl rfl (B.2.2.2.2.1 _ (B.2.2.2.2.2.1 _ hm.2.1)) (B.2.2.2.2.1 _ (B.2.2.2.2.2.1 _ hlk)) (B.2.2.2.2.1 _ (B.2.2.2.2.2.1 _ him)) hini ⟨hm.2.2.1.1, hm.2.2.1.2, hpn⟩ (room_ok hrm hm)) ⟨PcM.blind, hpc⟩ rfl (by simp [hlen]) hl.1 hsk (by rw [mr0, catSum_mv]; omega) hd ⟨by omega, by omega⟩) (hk _ _ _ _ h hx1) hR hS (okS_c.mp ho2).2 hL hn hl hg hx hx1
  · exact call_core (rest := rest) (r := r) (w1 := w1) (va_runIN (b := adr a) (As := as.map (mvV adr)) ⟨B.1, B.2.1, B.2.2.1, B.2.2.2.1, B.2.2.2.2.1⟩ (hct mi hinf adr) ⟨va_cnB n B.2.2.2.2.1 (good_zt B (wsM_tG hm)) hwm rfl rfl (B.2.2.2.2.2.2.1.2.2.2.2.2.2.2.2.1 _ hlk) (B.2.2.2.2.1 _ (B.2.2.2.2.2.1 _ hm.2.1)) ⟨hm.2.2.1.1, hm.2.2.1.2, hpn⟩ (room_ok hrm hm), hini, B.2.2.2.2.1 _ (B.2.2.2.2.2.1 _ him)⟩ ⟨PcM.blind, hpc⟩ rfl (by simp [hlen]) hl.1 hsk (by rw [mr0, catSum_mv]; omega) hd ⟨by omega, by omega⟩) (hk _ _ _ _ h hx1) hR hS (okS_c.mp ho2).2 hL hn hl hg hx hx1
end SJ
end
section
/-! ===== worlds only grow (printed by wip/whole/simk.py) ===== -/
def ExtC (C : sC) : Prop := ∀ (mid : Nat) (w : sW) (as : List sV) (r : Option sV) (w' : sW), C mid w as = some (r, w') → Ext w w'
theorem n012_s {α : Type} {nn : List Nat} {f0 : Option α} {f1 : Nat → Option α} {f2 : Nat → Nat → Option α} {o : α} (h : nC nn f0 f1 f2 = some o) : f0 = some o ∨ (∃ x, f1 x = some o) ∨ ∃ x y, f2 x y = some o := by
  unfold nC at h
  split at h
  · exact Or.inl h
  · exact Or.inr (Or.inl ⟨_, h⟩)
  · exact Or.inr (Or.inr ⟨_, _, h⟩)
  · cases h
theorem a012_s {α : Type} {ax : List Int} {f0 : Option α} {f1 : Int → Option α} {f2 : Int → Int → Option α} {o : α} (h : aC ax f0 f1 f2 = some o) : f0 = some o ∨ (∃ x, f1 x = some o) ∨ ∃ x y, f2 x y = some o := by
  unfold aC at h
  split at h
  · exact Or.inl h
  · exact Or.inr (Or.inl ⟨_, h⟩)
  · exact Or.inr (Or.inr ⟨_, _, h⟩)
  · cases h
theorem t0123_s {α : Type} {t : Nat} {f0 f1 f2 f3 : Option α} {o : α} (h : tC t f0 f1 f2 f3 = some o) : f0 = some o ∨ f1 = some o ∨ f2 = some o ∨ f3 = some o := by
  unfold tC at h
  split at h
  · exact Or.inl h
  · exact Or.inr (Or.inl h)
  · exact Or.inr (Or.inr (Or.inl h))
  · exact Or.inr (Or.inr (Or.inr h))
  · cases h
theorem ite_s {α : Type} {c : Prop} {d : Decidable c} {a b : Option α} {o : α} (h : (@ite _ c d a b) = some o) : a = some o ∨ b = some o := by
  by_cases hc : c
  · rw [if_pos hc] at h; exact Or.inl h
  · rw [if_neg hc] at h; exact Or.inr h
theorem cond_s {α : Type} {c : Bool} {a b : Option α} {o : α} (h : (bif c then a else b) = some o) : a = some o ∨ b = some o := by
  cases c with
  | true => exact Or.inl h
  | false => exact Or.inr h
theorem sx_ext {C : sC} (hC : ExtC C) {ret tg pc : Nat} {e : Instr} {nn : List Nat} {ax : List Int} {sw : List (Int × Nat)} {ls : sL} {st : List sV} {w : sW} {kr : Option sV → sW → Option sO} {k : Nat → sL → List sV → sW → Option sO} {o : sO} {P : Prop} (h : sx C ret e tg nn ax sw pc ls st w kr k = some o) (hk : ∀ pc ls st w', k pc ls st w' = some o → Ext w w' → P) (hkr : ∀ v w', kr v w' = some o → Ext w w' → P) : P := by
  cases e with
  | iconst n =>
    exact hk _ _ _ _ h Ext.rf
  | bipush n =>
    exact hk _ _ _ _ h Ext.rf
  | sipush n =>
    exact hk _ _ _ _ h Ext.rf
  | aconst_null =>
    exact hk _ _ _ _ h Ext.rf
  | goto n =>
    exact hk _ _ _ _ h Ext.rf
  | lconst n =>
    obtain ⟨_, _, h⟩ := a1_s h
    exact hk _ _ _ _ h Ext.rf
  | ldc n =>
    obtain ⟨_, _, h⟩ := a1_s h
    exact hk _ _ _ _ h Ext.rf
  | ldc_w n =>
    obtain ⟨_, _, h⟩ := a1_s h
    exact hk _ _ _ _ h Ext.rf
  | ldc2_w n =>
    obtain ⟨_, _, h⟩ := a1_s h
    exact hk _ _ _ _ h Ext.rf
  | getstatic n =>
    obtain ⟨_, _, h⟩ := a1_s h
    exact hk _ _ _ _ h Ext.rf
  | iload n =>
    obtain ⟨_, _, h⟩ := ldI_s h
    exact hk _ _ _ _ h Ext.rf
  | iload_n n =>
    obtain ⟨_, _, h⟩ := ldI_s h
    exact hk _ _ _ _ h Ext.rf
  | lload n =>
    obtain ⟨_, _, h⟩ := ldL_s h
    exact hk _ _ _ _ h Ext.rf
  | lload_n n =>
    obtain ⟨_, _, h⟩ := ldL_s h
    exact hk _ _ _ _ h Ext.rf
  | aload n =>
    obtain ⟨_, _, h⟩ := ldR_s h
    exact hk _ _ _ _ h Ext.rf
  | aload_n n =>
    obtain ⟨_, _, h⟩ := ldR_s h
    exact hk _ _ _ _ h Ext.rf
  | istore n =>
    obtain ⟨_, _, _, h⟩ := pI_s h
    obtain ⟨_, _, h⟩ := st1_s h
    exact hk _ _ _ _ h Ext.rf
  | istore_n n =>
    obtain ⟨_, _, _, h⟩ := pI_s h
    obtain ⟨_, _, h⟩ := st1_s h
    exact hk _ _ _ _ h Ext.rf
  | lstore n =>
    obtain ⟨_, _, _, h⟩ := pL_s h
    obtain ⟨_, _, h⟩ := st2_s h
    exact hk _ _ _ _ h Ext.rf
  | lstore_n n =>
    obtain ⟨_, _, _, h⟩ := pL_s h
    obtain ⟨_, _, h⟩ := st2_s h
    exact hk _ _ _ _ h Ext.rf
  | astore n =>
    obtain ⟨_, _, _, h⟩ := pR_s h
    obtain ⟨_, _, h⟩ := st1_s h
    exact hk _ _ _ _ h Ext.rf
  | astore_n n =>
    obtain ⟨_, _, _, h⟩ := pR_s h
    obtain ⟨_, _, h⟩ := st1_s h
    exact hk _ _ _ _ h Ext.rf
  | iinc a b =>
    obtain ⟨_, _, h⟩ := ldI_s h
    obtain ⟨_, _, h⟩ := st1_s h
    exact hk _ _ _ _ h Ext.rf
  | iadd =>
    obtain ⟨_, _, _, h⟩ := pI_s h
    obtain ⟨_, _, _, h⟩ := pI_s h
    exact hk _ _ _ _ h Ext.rf
  | isub =>
    obtain ⟨_, _, _, h⟩ := pI_s h
    obtain ⟨_, _, _, h⟩ := pI_s h
    exact hk _ _ _ _ h Ext.rf
  | imul =>
    obtain ⟨_, _, _, h⟩ := pI_s h
    obtain ⟨_, _, _, h⟩ := pI_s h
    exact hk _ _ _ _ h Ext.rf
  | ishl =>
    obtain ⟨_, _, _, h⟩ := pI_s h
    obtain ⟨_, _, _, h⟩ := pI_s h
    exact hk _ _ _ _ h Ext.rf
  | ishr =>
    obtain ⟨_, _, _, h⟩ := pI_s h
    obtain ⟨_, _, _, h⟩ := pI_s h
    exact hk _ _ _ _ h Ext.rf
  | iushr =>
    obtain ⟨_, _, _, h⟩ := pI_s h
    obtain ⟨_, _, _, h⟩ := pI_s h
    exact hk _ _ _ _ h Ext.rf
  | iand =>
    obtain ⟨_, _, _, h⟩ := pI_s h
    obtain ⟨_, _, _, h⟩ := pI_s h
    exact hk _ _ _ _ h Ext.rf
  | ior =>
    obtain ⟨_, _, _, h⟩ := pI_s h
    obtain ⟨_, _, _, h⟩ := pI_s h
    exact hk _ _ _ _ h Ext.rf
  | idiv =>
    obtain ⟨_, _, _, h⟩ := pI_s h
    obtain ⟨_, _, _, h⟩ := pI_s h
    rcases ite_s h with h | h
    · cases h
    · exact hk _ _ _ _ h Ext.rf
  | irem =>
    obtain ⟨_, _, _, h⟩ := pI_s h
    obtain ⟨_, _, _, h⟩ := pI_s h
    rcases ite_s h with h | h
    · cases h
    · exact hk _ _ _ _ h Ext.rf
  | ladd =>
    obtain ⟨_, _, _, h⟩ := pL_s h
    obtain ⟨_, _, _, h⟩ := pL_s h
    exact hk _ _ _ _ h Ext.rf
  | lsub =>
    obtain ⟨_, _, _, h⟩ := pL_s h
    obtain ⟨_, _, _, h⟩ := pL_s h
    exact hk _ _ _ _ h Ext.rf
  | lmul =>
    obtain ⟨_, _, _, h⟩ := pL_s h
    obtain ⟨_, _, _, h⟩ := pL_s h
    exact hk _ _ _ _ h Ext.rf
  | land =>
    obtain ⟨_, _, _, h⟩ := pL_s h
    obtain ⟨_, _, _, h⟩ := pL_s h
    exact hk _ _ _ _ h Ext.rf
  | lor =>
    obtain ⟨_, _, _, h⟩ := pL_s h
    obtain ⟨_, _, _, h⟩ := pL_s h
    exact hk _ _ _ _ h Ext.rf
  | lcmp =>
    obtain ⟨_, _, _, h⟩ := pL_s h
    obtain ⟨_, _, _, h⟩ := pL_s h
    exact hk _ _ _ _ h Ext.rf
  | ldiv =>
    obtain ⟨_, _, _, h⟩ := pL_s h
    obtain ⟨_, _, _, h⟩ := pL_s h
    rcases ite_s h with h | h
    · cases h
    · exact hk _ _ _ _ h Ext.rf
  | lrem =>
    obtain ⟨_, _, _, h⟩ := pL_s h
    obtain ⟨_, _, _, h⟩ := pL_s h
    rcases ite_s h with h | h
    · cases h
    · exact hk _ _ _ _ h Ext.rf
  | lshl =>
    obtain ⟨_, _, _, h⟩ := pI_s h
    obtain ⟨_, _, _, h⟩ := pL_s h
    exact hk _ _ _ _ h Ext.rf
  | lshr =>
    obtain ⟨_, _, _, h⟩ := pI_s h
    obtain ⟨_, _, _, h⟩ := pL_s h
    exact hk _ _ _ _ h Ext.rf
  | lushr =>
    obtain ⟨_, _, _, h⟩ := pI_s h
    obtain ⟨_, _, _, h⟩ := pL_s h
    exact hk _ _ _ _ h Ext.rf
  | i2l =>
    obtain ⟨_, _, _, h⟩ := pI_s h
    exact hk _ _ _ _ h Ext.rf
  | l2i =>
    obtain ⟨_, _, _, h⟩ := pL_s h
    exact hk _ _ _ _ h Ext.rf
  | i2b =>
    obtain ⟨_, _, _, h⟩ := pI_s h
    obtain ⟨_, h⟩ := if_s h
    exact hk _ _ _ _ h Ext.rf
  | dup =>
    obtain ⟨_, _, _, _, h⟩ := p1_s h
    exact hk _ _ _ _ h Ext.rf
  | dup2 =>
    obtain ⟨_, _, _, _, h⟩ := p1_s h
    obtain ⟨_, _, _, _, h⟩ := p1_s h
    exact hk _ _ _ _ h Ext.rf
  | pop =>
    obtain ⟨_, _, _, _, h⟩ := p1_s h
    exact hk _ _ _ _ h Ext.rf
  | ifCond c f =>
    cases c
    · obtain ⟨_, _, _, h⟩ := pI_s h
      rcases ite_s h with h | h <;> exact hk _ _ _ _ h Ext.rf
    · obtain ⟨_, _, _, h⟩ := pI_s h
      rcases ite_s h with h | h <;> exact hk _ _ _ _ h Ext.rf
    · obtain ⟨_, _, _, h⟩ := pI_s h
      rcases ite_s h with h | h <;> exact hk _ _ _ _ h Ext.rf
    · obtain ⟨_, _, _, h⟩ := pI_s h
      rcases ite_s h with h | h <;> exact hk _ _ _ _ h Ext.rf
    · obtain ⟨_, _, _, h⟩ := pI_s h
      rcases ite_s h with h | h <;> exact hk _ _ _ _ h Ext.rf
    · obtain ⟨_, _, _, h⟩ := pI_s h
      rcases ite_s h with h | h <;> exact hk _ _ _ _ h Ext.rf
  | if_icmp c f =>
    cases c
    · obtain ⟨_, _, _, h⟩ := pI_s h
      obtain ⟨_, _, _, h⟩ := pI_s h
      rcases ite_s h with h | h <;> exact hk _ _ _ _ h Ext.rf
    · obtain ⟨_, _, _, h⟩ := pI_s h
      obtain ⟨_, _, _, h⟩ := pI_s h
      rcases ite_s h with h | h <;> exact hk _ _ _ _ h Ext.rf
    · obtain ⟨_, _, _, h⟩ := pI_s h
      obtain ⟨_, _, _, h⟩ := pI_s h
      rcases ite_s h with h | h <;> exact hk _ _ _ _ h Ext.rf
    · obtain ⟨_, _, _, h⟩ := pI_s h
      obtain ⟨_, _, _, h⟩ := pI_s h
      rcases ite_s h with h | h <;> exact hk _ _ _ _ h Ext.rf
    · obtain ⟨_, _, _, h⟩ := pI_s h
      obtain ⟨_, _, _, h⟩ := pI_s h
      rcases ite_s h with h | h <;> exact hk _ _ _ _ h Ext.rf
    · obtain ⟨_, _, _, h⟩ := pI_s h
      obtain ⟨_, _, _, h⟩ := pI_s h
      rcases ite_s h with h | h <;> exact hk _ _ _ _ h Ext.rf
  | if_acmp c f =>
    cases c
    · obtain ⟨_, _, _, h⟩ := pR_s h
      obtain ⟨_, _, _, h⟩ := pR_s h
      obtain ⟨_, h⟩ := if_s h
      rcases ite_s h with h | h <;> exact hk _ _ _ _ h Ext.rf
    · obtain ⟨_, _, _, h⟩ := pR_s h
      obtain ⟨_, _, _, h⟩ := pR_s h
      obtain ⟨_, h⟩ := if_s h
      rcases ite_s h with h | h <;> exact hk _ _ _ _ h Ext.rf
  | ifnull f =>
    obtain ⟨_, _, _, h⟩ := pR_s h
    rcases ite_s h with h | h <;> exact hk _ _ _ _ h Ext.rf
  | ifnonnull f =>
    obtain ⟨_, _, _, h⟩ := pR_s h
    rcases ite_s h with h | h <;> exact hk _ _ _ _ h Ext.rf
  | tableswitch a b c d =>
    obtain ⟨_, _, _, h⟩ := pI_s h
    rw [swi_eq] at h
    exact hk _ _ _ _ h Ext.rf
  | lookupswitch a b =>
    obtain ⟨_, _, _, h⟩ := pI_s h
    rw [swi_eq] at h
    exact hk _ _ _ _ h Ext.rf
  | getfield n =>
    obtain ⟨_, _, _, h⟩ := a2_s h
    obtain ⟨_, _, _, h⟩ := pR_s h
    obtain ⟨_, h⟩ := if_s h
    exact hk _ _ _ _ h Ext.rf
  | putfield n =>
    obtain ⟨_, _, _, h⟩ := a2_s h
    rcases t0123_s h with h | h | h | h
    · obtain ⟨_, _, _, h⟩ := pI_s h
      obtain ⟨_, _, _, h⟩ := pR_s h
      obtain ⟨_, h⟩ := if_s h
      exact hk _ _ _ _ h Ext.sv
    · obtain ⟨_, _, _, h⟩ := pL_s h
      obtain ⟨_, _, _, h⟩ := pR_s h
      obtain ⟨_, h⟩ := if_s h
      exact hk _ _ _ _ h Ext.sv
    · obtain ⟨_, _, _, h⟩ := pR_s h
      obtain ⟨_, _, _, h⟩ := pR_s h
      obtain ⟨_, h⟩ := if_s h
      exact hk _ _ _ _ h Ext.sv
    · obtain ⟨_, _, _, h⟩ := pI_s h
      obtain ⟨_, _, _, h⟩ := pR_s h
      obtain ⟨_, h⟩ := if_s h
      exact hk _ _ _ _ h Ext.sv
  | iaload =>
    obtain ⟨_, _, _, h⟩ := pI_s h
    obtain ⟨_, _, _, h⟩ := pR_s h
    obtain ⟨_, h⟩ := if_s h
    exact hk _ _ _ _ h Ext.rf
  | baload =>
    obtain ⟨_, _, _, h⟩ := pI_s h
    obtain ⟨_, _, _, h⟩ := pR_s h
    obtain ⟨_, h⟩ := if_s h
    exact hk _ _ _ _ h Ext.rf
  | laload =>
    obtain ⟨_, _, _, h⟩ := pI_s h
    obtain ⟨_, _, _, h⟩ := pR_s h
    obtain ⟨_, h⟩ := if_s h
    exact hk _ _ _ _ h Ext.rf
  | aaload =>
    obtain ⟨_, _, _, h⟩ := pI_s h
    obtain ⟨_, _, _, h⟩ := pR_s h
    obtain ⟨_, h⟩ := if_s h
    exact hk _ _ _ _ h Ext.rf
  | iastore =>
    obtain ⟨_, _, _, h⟩ := pI_s h
    obtain ⟨_, _, _, h⟩ := pI_s h
    obtain ⟨_, _, _, h⟩ := pR_s h
    obtain ⟨_, h⟩ := if_s h
    exact hk _ _ _ _ h Ext.sv
  | bastore =>
    obtain ⟨_, _, _, h⟩ := pI_s h
    obtain ⟨_, _, _, h⟩ := pI_s h
    obtain ⟨_, _, _, h⟩ := pR_s h
    obtain ⟨_, h⟩ := if_s h
    exact hk _ _ _ _ h Ext.sv
  | lastore =>
    obtain ⟨_, _, _, h⟩ := pL_s h
    obtain ⟨_, _, _, h⟩ := pI_s h
    obtain ⟨_, _, _, h⟩ := pR_s h
    obtain ⟨_, h⟩ := if_s h
    exact hk _ _ _ _ h Ext.sv
  | aastore =>
    obtain ⟨_, _, _, h⟩ := pR_s h
    obtain ⟨_, _, _, h⟩ := pI_s h
    obtain ⟨_, _, _, h⟩ := pR_s h
    obtain ⟨_, h⟩ := if_s h
    exact hk _ _ _ _ h Ext.sv
  | arraylength =>
    obtain ⟨_, _, _, h⟩ := pR_s h
    obtain ⟨_, h⟩ := if_s h
    exact hk _ _ _ _ h Ext.rf
  | new n =>
    rcases a012_s h with h | ⟨_, h⟩ | ⟨_, _, h⟩
    · exact hkr _ _ h Ext.bp
    · exact hk _ _ _ _ h Ext.al
    · cases h
  | newarray n =>
    obtain ⟨_, _, h⟩ := a1_s h
    obtain ⟨_, _, _, h⟩ := pI_s h
    obtain ⟨_, h⟩ := if_s h
    exact hk _ _ _ _ h Ext.al
  | anewarray n =>
    obtain ⟨_, _, h⟩ := a1_s h
    obtain ⟨_, _, _, h⟩ := pI_s h
    obtain ⟨_, h⟩ := if_s h
    exact hk _ _ _ _ h Ext.al
  | invokevirtual n =>
    obtain ⟨_, _, h⟩ := a1_s h
    obtain ⟨_, _, _, h⟩ := n2_s h
    obtain ⟨_, _, _, _, h⟩ := pN_s h
    obtain ⟨_, _, _, h⟩ := pR_s h
    obtain ⟨_, h⟩ := if_s h
    obtain ⟨_, r, w1, hc, _, h⟩ := cal_s h
    exact hk _ _ _ _ h (hC _ _ _ _ _ hc)
  | invokespecial n =>
    obtain ⟨_, _, h⟩ := a1_s h
    rcases n012_s h with h | ⟨_, h⟩ | ⟨_, _, h⟩
    · obtain ⟨_, _, _, h⟩ := pR_s h
      obtain ⟨_, h⟩ := if_s h
      obtain ⟨_, h⟩ := c8_s h
      exact hk _ _ _ _ h Ext.rf
    · obtain ⟨_, _, _, _, h⟩ := pN_s h
      obtain ⟨_, _, _, h⟩ := pR_s h
      obtain ⟨_, h⟩ := if_s h
      obtain ⟨_, r, w1, hc, _, h⟩ := cal_s h
      exact hk _ _ _ _ h (hC _ _ _ _ _ hc)
    · cases h
  | invokestatic n =>
    rcases n012_s h with h | ⟨_, h⟩ | ⟨_, _, h⟩
    · cases h
    · rcases t0123_s h with h | h | h | h
      · obtain ⟨_, _, _, h⟩ := pI_s h
        obtain ⟨_, _, _, h⟩ := pI_s h
        obtain ⟨_, _, _, h⟩ := pR_s h
        obtain ⟨_, _, _, h⟩ := pI_s h
        obtain ⟨_, _, _, h⟩ := pR_s h
        obtain ⟨_, h⟩ := if_s h
        obtain ⟨_, h⟩ := c8_s h
        exact hk _ _ _ _ h Ext.cp
      · obtain ⟨_, _, _, h⟩ := pI_s h
        obtain ⟨_, _, _, h⟩ := pI_s h
        obtain ⟨_, h⟩ := c8_s h
        exact hk _ _ _ _ h Ext.rf
      · obtain ⟨_, _, _, h⟩ := pI_s h
        obtain ⟨_, _, _, h⟩ := pI_s h
        obtain ⟨_, h⟩ := c8_s h
        exact hk _ _ _ _ h Ext.rf
      · cases h
    · obtain ⟨_, _, _, _, h⟩ := pN_s h
      obtain ⟨_, r, w1, hc, _, h⟩ := cal_s h
      exact hk _ _ _ _ h (hC _ _ _ _ _ hc)
  | ireturn =>
    obtain ⟨_, _, _, h⟩ := pI_s h
    obtain ⟨_, h⟩ := p0_s h
    rcases cond_s h with h | h
    · obtain ⟨_, h⟩ := if_s h
      exact hkr _ _ h Ext.rf
    · exact hkr _ _ h Ext.rf
  | lreturn =>
    obtain ⟨_, _, _, h⟩ := pL_s h
    obtain ⟨_, h⟩ := p0_s h
    exact hkr _ _ h Ext.rf
  | areturn =>
    obtain ⟨_, _, _, h⟩ := pR_s h
    obtain ⟨_, h⟩ := p0_s h
    exact hkr _ _ h Ext.rf
  | return_ =>
    obtain ⟨_, h⟩ := p0_s h
    exact hkr _ _ h Ext.rf
  | _ => cases h
def wO : sO → sW
  | .inl c => c.2.2.2
  | .inr r => r.2
theorem sg_ext {C : sC} (hC : ExtC C) {M : sM} : ∀ (n pc : Nat) (ls : sL) (st : List sV) (w : sW) (o : sO), sg C M n pc ls st w = some o → Ext w (wO o)
  | 0, pc, ls, st, w, o, h => by simp [sg] at h
  | n + 1, pc, ls, st, w, o, h => by
    simp only [sg] at h
    split at h
    · cases h
    · refine sx_ext hC h (fun pc' ls' st' w' h' hx => ?_) (fun v w' h' hx => ?_)
      · unfold cutO at h'
        split at h'
        · cases h'
          exact hx
        · exact hx.tr (sg_ext hC n pc' ls' st' w' o h')
      · cases h'
        exact hx
theorem itr_ext {C : sC} (hC : ExtC C) {M : sM} : ∀ (n : Nat) (c : Nat × sL × List sV × sW) (r : Option sV × sW), itr C M n c = some r → Ext c.2.2.2 r.2
  | 0, c, r, h => by simp [itr] at h
  | n + 1, c, r, h => by
    simp only [itr] at h
    cases hs : sg C M 2000 c.1 c.2.1 c.2.2.1 c.2.2.2 with
    | none => rw [hs] at h; simp at h
    | some o =>
      rw [hs] at h
      have h1 := sg_ext hC _ _ _ _ _ _ hs
      cases o with
      | inr r' =>
        simp only [Option.some.injEq] at h
        subst h
        exact h1
      | inl c' => exact h1.tr (itr_ext hC n c' r h)
theorem runs_ext {C : sC} (hC : ExtC C) {M : sM} {w : sW} {as : List sV} {r : Option sV × sW} (h : runs C M w as = some r) : Ext w r.2 := by
  obtain ⟨-, n, hn⟩ := runs_iff.mp h
  exact itr_ext hC n _ _ hn
end
section
/-! ===== what is checked of each instruction, by a program that the kernel runs (printed by wip/whole/siml.py) ===== -/
def wG (h : Nat) (c : Cond) : Bool := decide (lw_tbl[h]? = some c) && goodWord c
theorem wG_s {h : Nat} {c : Cond} (q : wG h c = true) : c ∈ tG := by
  simp only [wG, Bool.and_eq_true, decide_eq_true_eq] at q
  exact List.mem_filter.mpr ⟨List.mem_of_getElem? q.1, q.2⟩
def isRet (e : Instr) (ax : List Int) : Bool := match e with
  | .ireturn => true
  | .lreturn => true
  | .areturn => true
  | .return_ => true
  | .new _ => ax.isEmpty
  | _ => false
def vField (own : String) (i tg : Nat) (ci fk : Int) (h : Nat) : Bool :=
  decide (1 ≤ ci ∧ ci ≤ 10 ∧ 0 ≤ fk ∧ fk.toNat < nF ci ∧ tg = fT ci fk.toNat) && wG h (.fieldLink own i ((clN (ci.toNat - 1)).2.1 fk.toNat).1 ((clN (ci.toNat - 1)).2.1 fk.toNat).2.1 ((clN (ci.toNat - 1)).2.1 fk.toNat).2.2.1)
def vWord (own : String) (i tg : Nat) (fk : Int) (h : Nat) : Bool :=
  (decide (fk = 0 ∧ tg = 1) && wG h (.fieldLink own i RX10 "code" "J")) || (decide (fk = 1 ∧ tg = 0) && wG h (.fieldLink own i RX10 "sort" "I")) || (decide (fk = 2 ∧ tg = 0) && wG h (.fieldLink own i RX10 "base" "I"))
def vLink (own : String) (i h : Nat) (nest : Bool) (y : MethodName) : Bool := bif nest then decide (nestW[h]? = some (.methodLinkNest own i y "BitRopes")) else wG h (.methodLink own i y)
theorem vLink_s {own : String} {i h : Nat} {nest : Bool} {y : MethodName} (q : vLink own i h nest y = true) : Cond.methodLink own i y ∈ tG ∨ ∃ host, Cond.methodLinkNest own i y host ∈ nestW := by
  cases nest with
  | true => exact Or.inr ⟨_, List.mem_of_getElem? (of_decide_eq_true q)⟩
  | false => exact Or.inl (wG_s q)
theorem vLink_s2 {own : String} {i h ne : Nat} {y : MethodName} {Q : Prop} (q : vLink own i h (Nat.beq ne 1) y = true) (hq : ne = 1 → Q) : Cond.methodLink own i y ∈ tG ∨ ∃ host, Cond.methodLinkNest own i y host ∈ nestW ∧ Q := by
  cases e : Nat.beq ne 1 with
  | true => rw [e] at q; exact Or.inr ⟨_, List.mem_of_getElem? (of_decide_eq_true q), hq (Nat.eq_of_beq_eq_true e)⟩
  | false => rw [e] at q; exact Or.inl (wG_s q)
def vB (inf : Nat → Option sI) (own nm : String) (e : Instr) (pc len tg : Nat) (nn : List Nat) (ax : List Int) (sw : List (Int × Nat)) (hh : List Nat) : Bool := match e with
  | .iconst n => decide (len = 1 ∧ -2147483648 ≤ n ∧ n < 2147483648)
  | .bipush n => decide (len = 2 ∧ -128 ≤ n ∧ n < 128)
  | .sipush n => decide (len = 3 ∧ -32768 ≤ n ∧ n < 32768)
  | .lconst n => decide (len = 1 ∧ ax = [((n : Nat) : Int)])
  | .ldc i => (match ax, hh with
    | [x], [h] => decide (len = 2 ∧ -2147483648 ≤ x ∧ x < 2147483648) && wG h (.constant own i (Int32.ofInt x))
    | _, _ => false)
  | .ldc_w i => (match ax, hh with
    | [x], [h] => decide (len = 3 ∧ -2147483648 ≤ x ∧ x < 2147483648) && wG h (.constant own i (Int32.ofInt x))
    | _, _ => false)
  | .ldc2_w i => (match ax, hh with
    | [x], [h] => decide (len = 3 ∧ -9223372036854775808 ≤ x ∧ x < 9223372036854775808) && wG h (.constantLong own i (Int64.ofInt x))
    | _, _ => false)
  | .aconst_null => decide (len = 1)
  | .iload i => decide (len = 2 ∧ i = tg)
  | .iload_n i => decide (len = 1 ∧ (i : Nat) = tg)
  | .istore i => decide (len = 2 ∧ i = tg)
  | .istore_n i => decide (len = 1 ∧ (i : Nat) = tg)
  | .lload i => decide (len = 2 ∧ i = tg)
  | .lload_n i => decide (len = 1 ∧ (i : Nat) = tg)
  | .lstore i => decide (len = 2 ∧ i = tg)
  | .lstore_n i => decide (len = 1 ∧ (i : Nat) = tg)
  | .aload i => decide (len = 2 ∧ i = tg)
  | .aload_n i => decide (len = 1 ∧ (i : Nat) = tg)
  | .astore i => decide (len = 2 ∧ i = tg)
  | .astore_n i => decide (len = 1 ∧ (i : Nat) = tg)
  | .iinc i n => decide (len = 3 ∧ i = tg)
  | .iadd => decide (len = 1)
  | .isub => decide (len = 1)
  | .imul => decide (len = 1)
  | .ishl => decide (len = 1)
  | .ishr => decide (len = 1)
  | .iushr => decide (len = 1)
  | .iand => decide (len = 1)
  | .ior => decide (len = 1)
  | .idiv => decide (len = 1)
  | .irem => decide (len = 1)
  | .ladd => decide (len = 1)
  | .lsub => decide (len = 1)
  | .lmul => decide (len = 1)
  | .land => decide (len = 1)
  | .lor => decide (len = 1)
  | .lcmp => decide (len = 1)
  | .ldiv => decide (len = 1)
  | .lrem => decide (len = 1)
  | .lshl => decide (len = 1)
  | .lshr => decide (len = 1)
  | .lushr => decide (len = 1)
  | .i2l => decide (len = 1)
  | .l2i => decide (len = 1)
  | .i2b => decide (len = 1)
  | .dup => decide (len = 1)
  | .dup2 => decide (len = 1)
  | .pop => decide (len = 1)
  | .iaload => decide (len = 1)
  | .baload => decide (len = 1)
  | .laload => decide (len = 1)
  | .aaload => decide (len = 1)
  | .iastore => decide (len = 1)
  | .bastore => decide (len = 1)
  | .lastore => decide (len = 1)
  | .aastore => decide (len = 1)
  | .arraylength => decide (len = 1)
  | .goto f => decide (len = 3 ∧ (pc : Int) + f = (tg : Int))
  | .ifnull f => decide (len = 3 ∧ (pc : Int) + f = (tg : Int))
  | .ifnonnull f => decide (len = 3 ∧ (pc : Int) + f = (tg : Int))
  | .ifCond c f => decide (len = 3 ∧ (pc : Int) + f = (tg : Int))
  | .if_icmp c f => decide (len = 3 ∧ (pc : Int) + f = (tg : Int))
  | .if_acmp c f => decide (len = 3 ∧ (pc : Int) + f = (tg : Int))
  | .tableswitch d lo hi offs => decide (sw = tsw pc lo offs.toList ∧ (∀ q ∈ offs.toList, 0 ≤ (pc : Int) + q) ∧ hi + 1 = lo + offs.toList.length ∧ (pc : Int) + d = (tg : Int))
  | .lookupswitch d ps => decide (sw = ps.toList.map (fun q => (q.1, ((pc : Int) + q.2).toNat)) ∧ (∀ q ∈ ps.toList, 0 ≤ (pc : Int) + q.2) ∧ (ps.toList.zip (ps.toList.drop 1)).all (fun (a, next) => a.1 < next.1) = true ∧ (pc : Int) + d = (tg : Int))
  | .getfield i => (match ax, hh with
    | [ci, fk], [h] => decide (len = 3) && (bif decide (ci = 30) then vWord own i tg fk h else vField own i tg ci fk h)
    | _, _ => false)
  | .putfield i => (match ax, hh with
    | [ci, fk], [h] => decide (len = 3) && vField own i tg ci fk h && decide (((clN (ci.toNat - 1)).2.1 fk.toNat).2.2.2 = false ∨ (((clN (ci.toNat - 1)).2.1 fk.toNat).2.2.2 = true ∧ nm = "<init>" ∧ ((clN (ci.toNat - 1)).2.1 fk.toNat).1 = own))
    | _, _ => false)
  | .getstatic i => (match ax, hh with
    | [id], [h] => decide (len = 3) && ((decide (1 ≤ id ∧ id ≤ 23) && wG h (.fieldLink own i RX10 (enumN.getD (id.toNat - 1) "") "LBitRopes$Word;")) || (decide (id = 24) && wG h (.fieldLink own i RX10 "ALL" "[LBitRopes$Word;")))
    | _, _ => false)
  | .new i => (match ax, hh with
    | [ci], [h1, h2, h3] => decide (len = 3 ∧ 1 ≤ ci ∧ ci ≤ 10 ∧ tg = nF ci) && wG h1 (.classLink own i (clN (ci.toNat - 1)).1) && wG h2 (.instantiable (clN (ci.toNat - 1)).1 tg) && wG h3 (.initialized (clN (ci.toNat - 1)).1)
    | [], _ => true
    | _, _ => false)
  | .newarray t => (match hh with
    | [h] => decide (len = 2) && (match t with
      | .int => decide (ax = [20]) && wG h (.arrayClass .int)
      | .byte => decide (ax = [21]) && wG h (.arrayClass .byte)
      | .long => decide (ax = [22]) && wG h (.arrayClass .long)
      | .boolean => decide (ax = [23]) && wG h (.arrayClass .boolean)
      | _ => false)
    | _ => false)
  | .anewarray i => (match ax, hh with
    | [kd], [h] => decide (len = 3 ∧ 24 ≤ kd ∧ kd ≤ 27) && wG h (.classLink own i ([RX5, RX8, RX7, RX10].getD (kd.toNat - 24) ""))
    | _, _ => false)
  | .invokevirtual i => (match inf tg, ax, nn, hh with
    | some mi, [ci], [_, n], [h1, h2, h3] => decide (len = 3 ∧ 1 ≤ ci ∧ ci ≤ 10 ∧ parN mi = some n ∧ mi.1.cls = (clN (ci.toNat - 1)).1 ∧ mi.2.2.2.2.2 = []) && wG h1 (.methodLink own i mi.1) && wG h2 (.instanceMethod mi.1) && wG h3 (.selects mi.1.cls mi.1 mi.1)
    | _, _, _, _ => false)
  | .invokespecial i => (match ax, nn with
    | [ci], [] => (match hh with
      | [h1, h2, h3] => decide (len = 3 ∧ ci ≠ 0) && wG h1 (.methodLink own i Lib.objectInit) && wG h2 (.instanceMethod Lib.objectInit) && wG h3 (.code Lib.objectInit ⟨#[0xb1]⟩ 1 none)
      | _ => false)
    | [ci], [n] => (match inf tg, hh with
      | some mi, [h1, h2, ne] => decide (len = 3 ∧ 1 ≤ ci ∧ ci ≤ 10 ∧ parN mi = some n ∧ mi.1.name = "<init>" ∧ mi.2.2.2.1 = none ∧ mi.2.2.2.2.2 = []) && vLink own i h1 (Nat.beq ne 1) mi.1 && wG h2 (.instanceMethod mi.1)
      | _, _ => false)
    | _, _ => false)
  | .invokestatic i => (match nn with
    | [_, n] => (match inf tg, hh with
      | some mi, [h1, h2, ne] => decide (len = 3 ∧ parN mi = some n ∧ (ne = 1 → mi.2.2.2.2.2 = [])) && vLink own i h1 (Nat.beq ne 1) mi.1 && wG h2 (.static mi.1)
      | _, _ => false)
    | [q] => (match hh with
      | [h1, h2, h3, h4] => decide (len = 3) && ((decide (q = 0) && wG h1 (.methodLink own i arraycopyName) && wG h2 (.native arraycopyName) && wG h3 (.static arraycopyName) && wG h4 (.initialized "java/lang/System")) || (decide (q = 1) && wG h1 (.methodLink own i Lib.Math.max.name) && wG h2 (.static Lib.Math.max.name) && wG h3 (.initialized "java/lang/Math") && wG h4 (.code Lib.Math.max.name Lib.Math.max.code 2 (some .int))) || (decide (q = 2) && wG h1 (.methodLink own i Lib.Math.min.name) && wG h2 (.static Lib.Math.min.name) && wG h3 (.initialized "java/lang/Math") && wG h4 (.code Lib.Math.min.name Lib.Math.min.code 2 (some .int))))
      | _ => false)
    | _ => false)
  | .ireturn => decide (len = 1)
  | .lreturn => decide (len = 1)
  | .areturn => decide (len = 1)
  | .return_ => decide (len = 1)
  | _ => false
section SL
variable {Z : MZ} {K : LC} {w0 w : sW} {adr0 : Int → Nat} {C : sC} {ret tg pc len d : Nat} {nn hh : List Nat} {ax : List Int} {sw : List (Int × Nat)} {ls : sL} {st : List sV} {kr : Option sV → sW → Option sO} {k : Nat → sL → List sV → sW → Option sO} {o : sO} {inf : Nat → Option sI} {nm : String} {e : Instr}
theorem ztG (B : BX Z K) {c : Cond} (h : c ∈ tG) : c ∈ zt Z := B.2.2.2.2.2.1 c h
set_option maxHeartbeats 4000000 in
theorem sx_sim (B : BX Z K) (hnm : (zh Z).name = nm) (hLL : lcL K ≤ 100000) (hV : vB inf (zo Z) nm e pc len tg nn ax sw hh = true) (hd : decode (zC Z) pc = .ok (e, len)) (hC : SimC (zl Z) K inf d C) (hrm : RoomD Z d) (hmok : ∀ mid mi, inf mid = some mi → MOK mi) (hB : ∀ pc ls st w', k pc ls st w' = some o → uc w' - uc w0 ≤ (zR Z).cells ∧ us w' - us w0 ≤ (zR Z).slots) (h : sx C ret e tg nn ax sw pc ls st w kr k = some o) (hk : KOK Z K w0 adr0 w k o) (hRet : isRet e ax = true → AtM Z K w0 adr0 pc ls st w) : AtM Z K w0 adr0 pc ls st w := by
  cases e with
  | iconst n =>
    obtain ⟨rfl, h1⟩ := of_decide_eq_true hV
    exact sm_iconst B h1 hd h hk
  | bipush n =>
    obtain ⟨rfl, h1⟩ := of_decide_eq_true hV
    exact sm_bipush B h1 hd h hk
  | sipush n =>
    obtain ⟨rfl, h1⟩ := of_decide_eq_true hV
    exact sm_sipush B h1 hd h hk
  | lconst n =>
    obtain ⟨rfl, h1⟩ := of_decide_eq_true hV
    exact sm_lconst B h1 hd h hk
  | ldc i =>
    simp only [vB] at hV
    split at hV
    · simp only [Bool.and_eq_true, decide_eq_true_eq] at hV
      obtain ⟨⟨rfl, h1⟩, h2⟩ := hV
      exact sm_ldc B ⟨_, rfl, h1, ztG B (wG_s h2)⟩ hd h hk
    · cases hV
  | ldc_w i =>
    simp only [vB] at hV
    split at hV
    · simp only [Bool.and_eq_true, decide_eq_true_eq] at hV
      obtain ⟨⟨rfl, h1⟩, h2⟩ := hV
      exact sm_ldc_w B ⟨_, rfl, h1, ztG B (wG_s h2)⟩ hd h hk
    · cases hV
  | ldc2_w i =>
    simp only [vB] at hV
    split at hV
    · simp only [Bool.and_eq_true, decide_eq_true_eq] at hV
      obtain ⟨⟨rfl, h1⟩, h2⟩ := hV
      exact sm_ldc2_w B ⟨_, rfl, h1, ztG B (wG_s h2)⟩ hd h hk
    · cases hV
  | aconst_null =>
    obtain rfl := of_decide_eq_true hV
    exact sm_aconst_null B hd h hk
  | iload i =>
    obtain ⟨rfl, h1⟩ := of_decide_eq_true hV
    exact sm_iload B h1 hd h hk
  | iload_n i =>
    obtain ⟨rfl, h1⟩ := of_decide_eq_true hV
    exact sm_iload_n B h1 hd h hk
  | istore i =>
    obtain ⟨rfl, h1⟩ := of_decide_eq_true hV
    exact sm_istore B h1 hd h hk
  | istore_n i =>
    obtain ⟨rfl, h1⟩ := of_decide_eq_true hV
    exact sm_istore_n B h1 hd h hk
  | lload i =>
    obtain ⟨rfl, h1⟩ := of_decide_eq_true hV
    exact sm_lload B h1 hd h hk
  | lload_n i =>
    obtain ⟨rfl, h1⟩ := of_decide_eq_true hV
    exact sm_lload_n B h1 hd h hk
  | lstore i =>
    obtain ⟨rfl, h1⟩ := of_decide_eq_true hV
    exact sm_lstore B h1 hd h hk
  | lstore_n i =>
    obtain ⟨rfl, h1⟩ := of_decide_eq_true hV
    exact sm_lstore_n B h1 hd h hk
  | aload i =>
    obtain ⟨rfl, h1⟩ := of_decide_eq_true hV
    exact sm_aload B h1 hd h hk
  | aload_n i =>
    obtain ⟨rfl, h1⟩ := of_decide_eq_true hV
    exact sm_aload_n B h1 hd h hk
  | astore i =>
    obtain ⟨rfl, h1⟩ := of_decide_eq_true hV
    exact sm_astore B h1 hd h hk
  | astore_n i =>
    obtain ⟨rfl, h1⟩ := of_decide_eq_true hV
    exact sm_astore_n B h1 hd h hk
  | iinc i n =>
    obtain ⟨rfl, h1⟩ := of_decide_eq_true hV
    exact sm_iinc B h1 hd h hk
  | iadd =>
    obtain rfl := of_decide_eq_true hV
    exact sm_iadd B hd h hk
  | isub =>
    obtain rfl := of_decide_eq_true hV
    exact sm_isub B hd h hk
  | imul =>
    obtain rfl := of_decide_eq_true hV
    exact sm_imul B hd h hk
  | ishl =>
    obtain rfl := of_decide_eq_true hV
    exact sm_ishl B hd h hk
  | ishr =>
    obtain rfl := of_decide_eq_true hV
    exact sm_ishr B hd h hk
  | iushr =>
    obtain rfl := of_decide_eq_true hV
    exact sm_iushr B hd h hk
  | iand =>
    obtain rfl := of_decide_eq_true hV
    exact sm_iand B hd h hk
  | ior =>
    obtain rfl := of_decide_eq_true hV
    exact sm_ior B hd h hk
  | idiv =>
    obtain rfl := of_decide_eq_true hV
    exact sm_idiv B hd h hk
  | irem =>
    obtain rfl := of_decide_eq_true hV
    exact sm_irem B hd h hk
  | ladd =>
    obtain rfl := of_decide_eq_true hV
    exact sm_ladd B hd h hk
  | lsub =>
    obtain rfl := of_decide_eq_true hV
    exact sm_lsub B hd h hk
  | lmul =>
    obtain rfl := of_decide_eq_true hV
    exact sm_lmul B hd h hk
  | land =>
    obtain rfl := of_decide_eq_true hV
    exact sm_land B hd h hk
  | lor =>
    obtain rfl := of_decide_eq_true hV
    exact sm_lor B hd h hk
  | lcmp =>
    obtain rfl := of_decide_eq_true hV
    exact sm_lcmp B hd h hk
  | ldiv =>
    obtain rfl := of_decide_eq_true hV
    exact sm_ldiv B hd h hk
  | lrem =>
    obtain rfl := of_decide_eq_true hV
    exact sm_lrem B hd h hk
  | lshl =>
    obtain rfl := of_decide_eq_true hV
    exact sm_lshl B hd h hk
  | lshr =>
    obtain rfl := of_decide_eq_true hV
    exact sm_lshr B hd h hk
  | lushr =>
    obtain rfl := of_decide_eq_true hV
    exact sm_lushr B hd h hk
  | i2l =>
    obtain rfl := of_decide_eq_true hV
    exact sm_i2l B hd h hk
  | l2i =>
    obtain rfl := of_decide_eq_true hV
    exact sm_l2i B hd h hk
  | i2b =>
    obtain rfl := of_decide_eq_true hV
    exact sm_i2b B hd h hk
  | dup =>
    obtain rfl := of_decide_eq_true hV
    exact sm_dup B hd h hk
  | dup2 =>
    obtain rfl := of_decide_eq_true hV
    exact sm_dup2 B hd h hk
  | pop =>
    obtain rfl := of_decide_eq_true hV
    exact sm_pop B hd h hk
  | iaload =>
    obtain rfl := of_decide_eq_true hV
    exact sm_iaload B hd h hk
  | baload =>
    obtain rfl := of_decide_eq_true hV
    exact sm_baload B hd h hk
  | laload =>
    obtain rfl := of_decide_eq_true hV
    exact sm_laload B hd h hk
  | aaload =>
    obtain rfl := of_decide_eq_true hV
    exact sm_aaload B hd h hk
  | iastore =>
    obtain rfl := of_decide_eq_true hV
    exact sm_iastore B hd h hk
  | bastore =>
    obtain rfl := of_decide_eq_true hV
    exact sm_bastore B hd h hk
  | lastore =>
    obtain rfl := of_decide_eq_true hV
    exact sm_lastore B hd h hk
  | aastore =>
    obtain rfl := of_decide_eq_true hV
    exact sm_aastore B hd h hk
  | arraylength =>
    obtain rfl := of_decide_eq_true hV
    exact sm_arraylength B hLL hd h hk
  | goto f =>
    obtain ⟨rfl, h1⟩ := of_decide_eq_true hV
    exact sm_goto B h1 hd h hk
  | ifnull f =>
    obtain ⟨rfl, h1⟩ := of_decide_eq_true hV
    exact sm_ifnull B h1 hd h hk
  | ifnonnull f =>
    obtain ⟨rfl, h1⟩ := of_decide_eq_true hV
    exact sm_ifnonnull B h1 hd h hk
  | ifCond c f =>
    obtain ⟨rfl, h1⟩ := of_decide_eq_true hV
    cases c with
    | eq => exact sm_if_eq B h1 hd h hk
    | ne => exact sm_if_ne B h1 hd h hk
    | lt => exact sm_if_lt B h1 hd h hk
    | ge => exact sm_if_ge B h1 hd h hk
    | gt => exact sm_if_gt B h1 hd h hk
    | le => exact sm_if_le B h1 hd h hk
  | if_icmp c f =>
    obtain ⟨rfl, h1⟩ := of_decide_eq_true hV
    cases c with
    | eq => exact sm_icmp_eq B h1 hd h hk
    | ne => exact sm_icmp_ne B h1 hd h hk
    | lt => exact sm_icmp_lt B h1 hd h hk
    | ge => exact sm_icmp_ge B h1 hd h hk
    | gt => exact sm_icmp_gt B h1 hd h hk
    | le => exact sm_icmp_le B h1 hd h hk
  | if_acmp c f =>
    obtain ⟨rfl, h1⟩ := of_decide_eq_true hV
    cases c with
    | eq => exact sm_acmp_eq B h1 hd h hk
    | ne => exact sm_acmp_ne B h1 hd h hk
  | tableswitch d lo hi offs =>
    exact sm_tableswitch B (of_decide_eq_true hV) hd h hk
  | lookupswitch d ps =>
    exact sm_lookupswitch B (of_decide_eq_true hV) hd h hk
  | getfield i =>
    simp only [vB] at hV
    split at hV
    · rename_i ci fk h0
      simp only [Bool.and_eq_true, decide_eq_true_eq] at hV
      obtain ⟨rfl, h1⟩ := hV
      by_cases e : ci = 30
      · rw [decide_eq_true e, cond_true] at h1
        simp only [vWord, Bool.or_eq_true, Bool.and_eq_true, decide_eq_true_eq] at h1
        subst e
        rcases h1 with (⟨⟨rfl, rfl⟩, z⟩ | ⟨⟨rfl, rfl⟩, z⟩) | ⟨⟨rfl, rfl⟩, z⟩
        · exact sm_getword B ⟨0, "code", "J", rfl, Or.inl ⟨rfl, rfl, rfl, rfl⟩, ztG B (wG_s z)⟩ hd h hk
        · exact sm_getword B ⟨1, "sort", "I", rfl, Or.inr (Or.inl ⟨rfl, rfl, rfl, rfl⟩), ztG B (wG_s z)⟩ hd h hk
        · exact sm_getword B ⟨2, "base", "I", rfl, Or.inr (Or.inr ⟨rfl, rfl, rfl, rfl⟩), ztG B (wG_s z)⟩ hd h hk
      · rw [decide_eq_false e, cond_false] at h1
        simp only [vField, Bool.and_eq_true, decide_eq_true_eq] at h1
        obtain ⟨⟨q1, q2, q3, q4, q5⟩, z⟩ := h1
        have e1 : ((ci.toNat - 1 + 1 : Nat) : Int) = ci := by omega
        have e2 : ((fk.toNat : Nat) : Int) = fk := by omega
        exact sm_getfield B ⟨ci.toNat - 1, fk.toNat, by omega, by rw [e1, e2], by rw [e1]; exact q4, by rw [e1]; exact q5, ztG B (wG_s z)⟩ hd h hk
    · cases hV
  | putfield i =>
    simp only [vB] at hV
    split at hV
    · rename_i ci fk h0
      simp only [vField, Bool.and_eq_true, decide_eq_true_eq] at hV
      obtain ⟨⟨rfl, ⟨q1, q2, q3, q4, q5⟩, z⟩, h1⟩ := hV
      have e1 : ((ci.toNat - 1 + 1 : Nat) : Int) = ci := by omega
      have e2 : ((fk.toNat : Nat) : Int) = fk := by omega
      rw [← hnm] at h1
      exact sm_putfield B ⟨ci.toNat - 1, fk.toNat, by omega, by rw [e1, e2], by rw [e1]; exact q4, by rw [e1]; exact q5, ztG B (wG_s z), h1⟩ hd h hk
    · cases hV
  | getstatic i =>
    simp only [vB] at hV
    split at hV
    · rename_i id h0
      simp only [Bool.and_eq_true, Bool.or_eq_true, decide_eq_true_eq] at hV
      obtain ⟨rfl, ⟨q, z⟩ | ⟨q, z⟩⟩ := hV
      · exact sm_getstatic B (Or.inl ⟨id.toNat - 1, by omega, by rw [show ((id.toNat - 1 : Nat) : Int) + 1 = id by omega], ztG B (wG_s z)⟩) hd h hk
      · exact sm_getstatic B (Or.inr ⟨by rw [q], ztG B (wG_s z)⟩) hd h hk
    · cases hV
  | new i =>
    simp only [vB] at hV
    split at hV
    · rename_i ci h1 h2 h3
      simp only [Bool.and_eq_true, decide_eq_true_eq] at hV
      obtain ⟨⟨⟨⟨rfl, q1, q2, q3⟩, z1⟩, z2⟩, z3⟩ := hV
      have e1 : ((ci.toNat - 1 + 1 : Nat) : Int) = ci := by omega
      exact sm_new B ⟨ci.toNat - 1, by omega, by rw [e1], by rw [e1]; exact q3, ztG B (wG_s z1), ztG B (wG_s z2), ztG B (wG_s z3)⟩ hd hB h hk
    · exact hRet rfl
    · cases hV
  | newarray t =>
    simp only [vB] at hV
    split at hV
    · simp only [Bool.and_eq_true, decide_eq_true_eq] at hV
      obtain ⟨rfl, hV⟩ := hV
      split at hV
      · simp only [Bool.and_eq_true, decide_eq_true_eq] at hV
        exact sm_newarr_int B ⟨hV.1, ztG B (wG_s hV.2)⟩ hd hB h hk
      · simp only [Bool.and_eq_true, decide_eq_true_eq] at hV
        exact sm_newarr_byte B ⟨hV.1, ztG B (wG_s hV.2)⟩ hd hB h hk
      · simp only [Bool.and_eq_true, decide_eq_true_eq] at hV
        exact sm_newarr_long B ⟨hV.1, ztG B (wG_s hV.2)⟩ hd hB h hk
      · simp only [Bool.and_eq_true, decide_eq_true_eq] at hV
        exact sm_newarr_bool B ⟨hV.1, ztG B (wG_s hV.2)⟩ hd hB h hk
      · cases hV
    · cases hV
  | anewarray i =>
    simp only [vB] at hV
    split at hV
    · rename_i ka h0
      simp only [Bool.and_eq_true, decide_eq_true_eq] at hV
      obtain ⟨⟨rfl, q1, q2⟩, z⟩ := hV
      have e1 : ((ka.toNat - 24 + 24 : Nat) : Int) = ka := by omega
      exact sm_anewarray B ⟨ka.toNat - 24, by omega, by rw [e1], ztG B (wG_s z)⟩ hd hB h hk
    · cases hV
  | invokevirtual i =>
    simp only [vB] at hV
    split at hV
    · rename_i mi ci rty n h1 h2 h3 hinf
      simp only [Bool.and_eq_true, decide_eq_true_eq] at hV
      obtain ⟨⟨⟨⟨rfl, q1, q2, q3, q4, q0⟩, z1⟩, z2⟩, z3⟩ := hV
      have e1 : ((ci.toNat - 1 + 1 : Nat) : Int) = ci := by omega
      exact sm_invokevirtual B q0 hC hrm hinf (hmok _ _ hinf) ⟨ci.toNat - 1, rty, n, by omega, by rw [e1], rfl, q3, q4⟩ (wG_s z1) (wG_s z2) (wG_s z3) hd hB h hk
    · cases hV
  | invokespecial i =>
    simp only [vB] at hV
    split at hV
    · split at hV
      · simp only [Bool.and_eq_true, decide_eq_true_eq] at hV
        obtain ⟨⟨⟨⟨rfl, q1⟩, z1⟩, z2⟩, z3⟩ := hV
        exact sm_objinit B ⟨rfl, ztG B (wG_s z1), ztG B (wG_s z2), ztG B (wG_s z3)⟩ ⟨_, rfl, q1⟩ hd h hk
      · cases hV
    · rename_i ci n
      split at hV
      · rename_i mi h1 h2 ne hinf
        simp only [Bool.and_eq_true, decide_eq_true_eq] at hV
        obtain ⟨⟨⟨rfl, q1, q2, q3, q4, q5, q0⟩, z1⟩, z2⟩ := hV
        have e1 : ((ci.toNat - 1 + 1 : Nat) : Int) = ci := by omega
        exact sm_invokespecial B q0 hC hrm hinf (hmok _ _ hinf) q5 q4 ⟨ci.toNat - 1, n, by omega, by rw [e1], rfl, q3⟩ (vLink_s z1) (wG_s z2) hd hB h hk
      · cases hV
    · cases hV
  | invokestatic i =>
    simp only [vB] at hV
    split at hV
    · rename_i rty n
      split at hV
      · rename_i mi h1 h2 ne hinf
        simp only [Bool.and_eq_true, decide_eq_true_eq] at hV
        obtain ⟨⟨⟨rfl, q3, q0⟩, z1⟩, z2⟩ := hV
        exact sm_invokestatic B hC hrm hinf (hmok _ _ hinf) ⟨rty, n, rfl, q3⟩ (vLink_s2 z1 q0) (wG_s z2) hd hB h hk
      · cases hV
    · split at hV
      · simp only [Bool.and_eq_true, Bool.or_eq_true, decide_eq_true_eq] at hV
        obtain ⟨rfl, (⟨⟨⟨⟨rfl, z1⟩, z2⟩, z3⟩, z4⟩ | ⟨⟨⟨⟨rfl, z1⟩, z2⟩, z3⟩, z4⟩) | ⟨⟨⟨⟨rfl, z1⟩, z2⟩, z3⟩, z4⟩⟩ := hV
        · exact sm_arraycopy B ⟨rfl, ztG B (wG_s z1), ztG B (wG_s z2), ztG B (wG_s z3), ztG B (wG_s z4)⟩ hd h hk
        · exact sm_mmax B ⟨rfl, ztG B (wG_s z1), ztG B (wG_s z2), ztG B (wG_s z3), ztG B (wG_s z4)⟩ hd hB h hk
        · exact sm_mmin B ⟨rfl, ztG B (wG_s z1), ztG B (wG_s z2), ztG B (wG_s z3), ztG B (wG_s z4)⟩ hd hB h hk
      · cases hV
    · cases hV
  | ireturn =>
    exact hRet rfl
  | lreturn =>
    exact hRet rfl
  | areturn =>
    exact hRet rfl
  | return_ =>
    exact hRet rfl
  | _ => cases hV
end SL
end
section
/-! ===== stretches, whole methods, every depth ===== -/
theorem ft_s : ∀ (L : List sE) (pc : Nat) (e : sE), ft L pc = some e → e ∈ L ∧ e.1 = pc
  | [], pc, e, h => by simp [ft] at h
  | a :: r, pc, e, h => by
    simp only [ft] at h
    cases hb : Nat.beq a.1 pc with
    | true =>
      rw [hb] at h
      simp only [cond_true, Option.some.injEq] at h
      subst h
      exact ⟨List.mem_cons_self, Nat.eq_of_beq_eq_true hb⟩
    | false =>
      rw [hb] at h
      obtain ⟨h1, h2⟩ := ft_s r pc e h
      exact ⟨List.mem_cons_of_mem _ h1, h2⟩
theorem fm_s : ∀ (L : List (Nat × List Bool)) (pc : Nat) (b : List Bool), fm L pc = some b → (pc, b) ∈ L
  | [], pc, b, h => by simp [fm] at h
  | a :: r, pc, b, h => by
    simp only [fm] at h
    cases hb : Nat.beq a.1 pc with
    | true =>
      rw [hb] at h
      simp only [cond_true, Option.some.injEq] at h
      have := Nat.eq_of_beq_eq_true hb
      rw [← h, ← this]
      exact List.mem_cons_self
    | false =>
      rw [hb] at h
      exact List.mem_cons_of_mem _ (fm_s r pc b h)
theorem mask_len : ∀ (b : List Bool) (ls : sL), b.length = ls.length → (mask b ls).length = ls.length
  | [], [], _ => rfl
  | [], _ :: _, h => by simp at h
  | _ :: _, [], h => by simp at h
  | true :: r, v :: l, h => by
    simp only [mask, List.length_cons] at h ⊢
    rw [mask_len r l (by omega)]
  | false :: r, v :: l, h => by
    simp only [mask, List.length_cons] at h ⊢
    rw [mask_len r l (by omega)]
theorem mask_at : ∀ (b : List Bool) (ls : sL) (i : Nat) (v : sV), (mask b ls)[i]? = some (some v) → ls[i]? = some (some v)
  | [], ls, i, v, h => by cases ls <;> simp [mask] at h
  | true :: r, [], i, v, h => by simp [mask] at h
  | false :: r, [], i, v, h => by simp [mask] at h
  | true :: r, u :: l, 0, v, h => by simpa [mask] using h
  | false :: r, u :: l, 0, v, h => by simp [mask] at h
  | true :: r, u :: l, i + 1, v, h => by
    simp only [mask, List.getElem?_cons_succ] at h ⊢
    exact mask_at r l i v h
  | false :: r, u :: l, i + 1, v, h => by
    simp only [mask, List.getElem?_cons_succ] at h ⊢
    exact mask_at r l i v h
/-- a return of this kind stands in a method that returns so -/
def vR (ret : Nat) (e : Instr) : Bool := match e with
  | .ireturn => Nat.beq ret 1 || Nat.beq ret 4
  | .lreturn => Nat.beq ret 2
  | .areturn => Nat.beq ret 3
  | .return_ => Nat.beq ret 0
  | _ => true
def vRt (ret : Nat) (t : Option FieldType) : Prop := (ret = 0 ∧ t = none) ∨ (ret = 1 ∧ t = some .int) ∨ (ret = 2 ∧ t = some .long) ∨ (ret = 3 ∧ ∃ n, t = some (.object n)) ∨ (ret = 4 ∧ t = some .boolean)
/-- what is checked of a method's table -/
def VAL (inf : Nat → Option sI) (mi : sI) : Prop :=
  (∀ e ∈ mi.2.2.2.2.1.2.2.1, (∃ hh, vB inf mi.1.cls mi.1.name e.2.1 e.1 e.2.2.1 e.2.2.2.1 e.2.2.2.2.1 e.2.2.2.2.2.1 e.2.2.2.2.2.2 hh = true) ∧ decode mi.2.1 e.1 = .ok (e.2.1, e.2.2.1) ∧ vR mi.2.2.2.2.1.2.1 e.2.1 = true) ∧
  (∀ q ∈ mi.2.2.2.2.1.2.2.2, q.2.length = mi.2.2.1) ∧ vRt mi.2.2.2.2.1.2.1 mi.2.2.2.1 ∧ mi.2.2.2.2.1.1 = mi.2.2.1
section SM
variable {Z : MZ} {K : LC} {w0 w : sW} {adr0 : Int → Nat} {C : sC} {d : Nat} {o : sO} {inf : Nat → Option sI} {mi : sI} {rF : Option sV × sW}
theorem AtM.mask {pc : Nat} {ls : sL} {st : List sV} {b : List Bool} (hb : b.length = zn Z) (h : AtM Z K w0 adr0 pc (mask b ls) st w) : AtM Z K w0 adr0 pc ls st w := by
  intro adr H locs lsM hR hS ho hL hn hl hg hx
  refine h adr H locs lsM hR hS ho (fun v hv => ?_) ?_ (lvh_sub hl (fun i v hv => ⟨mask_at _ _ _ _ hv, rfl⟩)) hg hx
  · obtain ⟨i, hi⟩ := List.getElem?_of_mem hv
    exact okL_at hL (mask_at _ _ _ _ hi)
  · rw [mask_len _ _ (hb.trans hn.symm)]; exact hn
theorem sg_sim (B : BX Z K) (hnm : (zh Z).name = mi.1.name) (hown : zo Z = mi.1.cls) (hcc : zC Z = mi.2.1) (hnn : zn Z = mi.2.2.1) (hLL : lcL K ≤ 100000) (hVal : VAL inf mi) (hCe : ExtC C) (hC : SimC (zl Z) K inf d C) (hrm : RoomD Z d) (hmok : ∀ mid mi, inf mid = some mi → MOK mi) (hcap : uc rF.2 - uc w0 ≤ (zR Z).cells ∧ us rF.2 - us w0 ≤ (zR Z).slots)
    (HR : ∀ (e : sE) (pc : Nat) (ls : sL) (st : List sV) (w : sW) (k : Nat → sL → List sV → sW → Option sO), e ∈ mi.2.2.2.2.1.2.2.1 → e.1 = pc → isRet e.2.1 e.2.2.2.2.2.1 = true → decode (zC Z) pc = .ok (e.2.1, e.2.2.1) → vR mi.2.2.2.2.1.2.1 e.2.1 = true → sx C mi.2.2.2.2.1.2.1 e.2.1 e.2.2.2.1 e.2.2.2.2.1 e.2.2.2.2.2.1 e.2.2.2.2.2.2 pc ls st w (fun v w => some (.inr (v, w))) k = some o → AtM Z K w0 adr0 pc ls st w)
    (hF : Ext (wO o) rF.2) (HI : ∀ c, o = .inl c → AtM Z K w0 adr0 c.1 c.2.1 c.2.2.1 c.2.2.2) :
    ∀ (n pc : Nat) (ls : sL) (st : List sV) (w : sW), sg C mi.2.2.2.2.1 n pc ls st w = some o → AtM Z K w0 adr0 pc ls st w
  | 0, pc, ls, st, w, h => by simp [sg] at h
  | n + 1, pc, ls, st, w, h => by
    simp only [sg] at h
    split at h
    · cases h
    · rename_i e he
      obtain ⟨hmem, hpc⟩ := ft_s _ _ _ he
      obtain ⟨⟨hh, hv⟩, hd, hvr⟩ := hVal.1 e hmem
      rw [hpc] at hv hd
      have hk : KOK Z K w0 adr0 w (fun pc ls st w => cutO (fm mi.2.2.2.2.1.2.2.2 pc) pc ls st w (sg C mi.2.2.2.2.1 n pc ls st w)) o := by
        intro pc' ls' st' w' hq _
        replace hq : cutO (fm mi.2.2.2.2.1.2.2.2 pc') pc' ls' st' w' (sg C mi.2.2.2.2.1 n pc' ls' st' w') = some o := hq
        unfold cutO at hq
        split at hq
        · rename_i b hb
          have hm := hVal.2.1 _ (fm_s _ _ _ hb)
          have := HI (pc', mask b ls', st', w') (Option.some.inj hq).symm
          exact AtM.mask (hm.trans hnn.symm) this
        · exact sg_sim B hnm hown hcc hnn hLL hVal hCe hC hrm hmok hcap HR hF HI n pc' ls' st' w' hq
      refine sx_sim (hh := hh) B hnm hLL (by rw [hown]; exact hv) (by rw [hcc]; exact hd) hC hrm hmok (fun pc' ls' st' w' hq => ?_) h hk (fun hr => HR e pc ls st w _ hmem hpc hr (by rw [hcc]; exact hd) hvr h)
      have hx : Ext w' (wO o) := by
        replace hq : cutO (fm mi.2.2.2.2.1.2.2.2 pc') pc' ls' st' w' (sg C mi.2.2.2.2.1 n pc' ls' st' w') = some o := hq
        unfold cutO at hq
        split at hq
        · cases hq
          exact Ext.rf
        · exact sg_ext hCe _ _ _ _ _ _ hq
      have := hx.tr hF
      exact ⟨Nat.le_trans (Nat.sub_le_sub_right this.2.2.1 _) hcap.1, Nat.le_trans (Nat.sub_le_sub_right this.2.2.2 _) hcap.2⟩
theorem itr_sim (B : BX Z K) (hnm : (zh Z).name = mi.1.name) (hown : zo Z = mi.1.cls) (hcc : zC Z = mi.2.1) (hnn : zn Z = mi.2.2.1) (hLL : lcL K ≤ 100000) (hVal : VAL inf mi) (hCe : ExtC C) (hC : SimC (zl Z) K inf d C) (hrm : RoomD Z d) (hmok : ∀ mid mi, inf mid = some mi → MOK mi) (hcap : uc rF.2 - uc w0 ≤ (zR Z).cells ∧ us rF.2 - us w0 ≤ (zR Z).slots)
    (HR : ∀ (o : sO), (∀ r, o = .inr r → r = rF) → ∀ (e : sE) (pc : Nat) (ls : sL) (st : List sV) (w : sW) (k : Nat → sL → List sV → sW → Option sO), e ∈ mi.2.2.2.2.1.2.2.1 → e.1 = pc → isRet e.2.1 e.2.2.2.2.2.1 = true → decode (zC Z) pc = .ok (e.2.1, e.2.2.1) → vR mi.2.2.2.2.1.2.1 e.2.1 = true → sx C mi.2.2.2.2.1.2.1 e.2.1 e.2.2.2.1 e.2.2.2.2.1 e.2.2.2.2.2.1 e.2.2.2.2.2.2 pc ls st w (fun v w => some (.inr (v, w))) k = some o → AtM Z K w0 adr0 pc ls st w) :
    ∀ (n : Nat) (c : Nat × sL × List sV × sW), itr C mi.2.2.2.2.1 n c = some rF → AtM Z K w0 adr0 c.1 c.2.1 c.2.2.1 c.2.2.2
  | 0, c, h => by simp [itr] at h
  | n + 1, c, h => by
    simp only [itr] at h
    cases hs : sg C mi.2.2.2.2.1 2000 c.1 c.2.1 c.2.2.1 c.2.2.2 with
    | none => rw [hs] at h; simp at h
    | some o =>
      rw [hs] at h
      cases o with
      | inr r =>
        simp only [Option.some.injEq] at h
        subst h
        exact sg_sim B hnm hown hcc hnn hLL hVal hCe hC hrm hmok hcap (HR (.inr r) (fun r' e => (Sum.inr.inj e).symm)) Ext.rf (fun c e => by cases e) 2000 _ _ _ _ hs
      | inl c' =>
        have ih := itr_sim B hnm hown hcc hnn hLL hVal hCe hC hrm hmok hcap HR n c' h
        exact sg_sim B hnm hown hcc hnn hLL hVal hCe hC hrm hmok hcap (HR (.inl c') (fun r' e => by cases e)) (itr_ext hCe n c' _ h) (fun c e => by cases e; exact ih) 2000 _ _ _ _ hs
/-- the returns of a method that returns -/
theorem ret_ok (B : BX Z K) (hlocks : (zh Z).locks = false) (hrt : (zh Z).sig.returnType = mi.2.2.2.1) (hVal : VAL inf mi) (hnt : rF.1 ≠ thrown) (hQ : zQ Z = MQ (zb Z) (QcM K w0 adr0 rF.1 rF.2) (za Z) (zs Z) (uc rF.2 - uc w0) (us rF.2 - us w0) (oldA K)) :
    ∀ (o : sO), (∀ r, o = .inr r → r = rF) → ∀ (e : sE) (pc : Nat) (ls : sL) (st : List sV) (w : sW) (k : Nat → sL → List sV → sW → Option sO), e ∈ mi.2.2.2.2.1.2.2.1 → e.1 = pc → isRet e.2.1 e.2.2.2.2.2.1 = true → decode (zC Z) pc = .ok (e.2.1, e.2.2.1) → vR mi.2.2.2.2.1.2.1 e.2.1 = true → sx C mi.2.2.2.2.1.2.1 e.2.1 e.2.2.2.1 e.2.2.2.2.1 e.2.2.2.2.2.1 e.2.2.2.2.2.2 pc ls st w (fun v w => some (.inr (v, w))) k = some o → AtM Z K w0 adr0 pc ls st w := by
  intro o hoF e pc ls st w k hmem hpc hret hd hvr h
  obtain ⟨⟨hh, hv⟩, -, -⟩ := hVal.1 e hmem
  have hty := hVal.2.2.1
  rw [← hrt] at hty
  generalize mi.2.2.2.2.1.2.1 = rk at h hvr hty
  obtain ⟨epc, ei, el, et, en, ea, es⟩ := e
  dsimp only at h hret hd hvr hv
  -- the end of it
  have fin : ∀ (v : Option sV) (adr : Int → Nat) (H : Heap) (locs : List Loc), rF = (v, w) → RW K w adr H → va_S (oldA K) (zs Z).heap H locs → (∀ r, r < nx w0 → adr r = adr0 r) → (∀ u, v = some u → okV w u) → ∀ t : State, t.heap = H → (zs Z).WarmedH t.vm → QcM K w0 adr0 rF.1 rF.2 (za Z) (zs Z) (.returned (v.map (mvV adr))) t := by
    intro v adr H locs e1 hR hS hg hv t ht _
    rw [e1]
    exact ⟨⟨adr, rfl, by rw [ht]; exact hR, hg, hv⟩, hS.F ht⟩
  cases ei with
  | ireturn =>
    obtain ⟨x, r, hs, h'⟩ := pI_s h
    clear h
    subst hs
    obtain ⟨hs, h⟩ := p0_s h'
    subst hs
    have hl1 : el = 1 := of_decide_eq_true hv
    subst hl1
    have hx01 : (rk = 1 ∨ (rk = 4 ∧ (x = 0 ∨ x = 1))) ∧ o = .inr (some (.inl x), w) := by
      simp only [vR, Bool.or_eq_true] at hvr
      rcases hvr with q | q
      · have q := Nat.eq_of_beq_eq_true q
        subst q
        exact ⟨Or.inl rfl, (Option.some.inj h).symm⟩
      · have q := Nat.eq_of_beq_eq_true q
        subst q
        obtain ⟨h1, h2⟩ := if_s (show (if x = 0 ∨ x = 1 then some (Sum.inr (some (Sum.inl x), w)) else none) = some o from h)
        exact ⟨Or.inr ⟨rfl, h1⟩, (Option.some.inj h2).symm⟩
    obtain ⟨hk, ho⟩ := hx01
    have hrF := (hoF _ ho).symm
    intro adr H locs lsM hR hS hok hL hn hl hg hx
    have hx1 : in32 x := (okS_c.mp hok).1
    show W _ _ _ _ _ _ _ _ _ _ _ _ _ _ (zQ Z) _
    rw [hQ, hrF]
    have hf := fin (some (.inl x)) adr H locs hrF hR hS hg (fun u hu => by cases hu; exact hx1)
    rw [hrF] at hf
    rcases hty with q | q | q | q | q
    · omega
    · exact W.iret B.1 B.2.1 q.2 hf hS.2.2 hd hlocks
    · omega
    · omega
    · refine W.zret B.1 B.2.1 q.2 ?_ hf hS.2.2 hd hlocks
      rcases hk with z | ⟨_, z⟩
      · omega
      · rcases z with rfl | rfl <;> rfl
  | lreturn =>
    obtain ⟨x, r, hs, h'⟩ := pL_s h
    clear h
    subst hs
    obtain ⟨hs, h⟩ := p0_s h'
    subst hs
    have hl1 : el = 1 := of_decide_eq_true hv
    subst hl1
    have hrF := (hoF _ (Option.some.inj h).symm).symm
    have hk : rk = 2 := Nat.eq_of_beq_eq_true hvr
    intro adr H locs lsM hR hS hok hL hn hl hg hx
    have hx1 : in64 x := (okS_c.mp hok).1
    show W _ _ _ _ _ _ _ _ _ _ _ _ _ _ (zQ Z) _
    rw [hQ, hrF]
    have hf := fin (some (.inr (.inl x))) adr H locs hrF hR hS hg (fun u hu => by cases hu; exact hx1)
    rw [hrF] at hf
    rcases hty with q | q | q | q | q
    · omega
    · omega
    · exact W.lret B.1 B.2.1 q.2 hf hS.2.2 hd hlocks
    · omega
    · omega
  | areturn =>
    obtain ⟨x, r, hs, h'⟩ := pR_s h
    clear h
    subst hs
    obtain ⟨hs, h⟩ := p0_s h'
    subst hs
    have hl1 : el = 1 := of_decide_eq_true hv
    subst hl1
    have hrF := (hoF _ (Option.some.inj h).symm).symm
    have hk : rk = 3 := Nat.eq_of_beq_eq_true hvr
    intro adr H locs lsM hR hS hok hL hn hl hg hx
    have hx1 := (okS_c.mp hok).1
    show W _ _ _ _ _ _ _ _ _ _ _ _ _ _ (zQ Z) _
    rw [hQ, hrF]
    have hf := fin (some (.inr (.inr x))) adr H locs hrF hR hS hg (fun u hu => by cases hu; exact hx1)
    rw [hrF] at hf
    rcases hty with q | q | q | q | q
    · omega
    · omega
    · omega
    · obtain ⟨_, nm, q⟩ := q
      refine W.aret B.1 B.2.1 q (Or.inl ⟨nm, rfl⟩) ?_ hf hS.2.2 hd hlocks
      rw [va_rf_mv]
      cases rO adr x with
      | none => exact Or.inl rfl
      | some a => exact Or.inr ⟨a, rfl⟩
    · omega
  | return_ =>
    obtain ⟨hs, h⟩ := p0_s h
    subst hs
    have hl1 : el = 1 := of_decide_eq_true hv
    subst hl1
    have hrF := (hoF _ (Option.some.inj h).symm).symm
    have hk : rk = 0 := Nat.eq_of_beq_eq_true hvr
    intro adr H locs lsM hR hS hok hL hn hl hg hx
    show W _ _ _ _ _ _ _ _ _ _ _ _ _ _ (zQ Z) _
    rw [hQ, hrF]
    have hf := fin none adr H locs hrF hR hS hg (fun u hu => by cases hu)
    rw [hrF] at hf
    rcases hty with q | q | q | q | q
    · exact W.vret B.1 B.2.1 q.2 hf hS.2.2 hd hlocks
    · omega
    · omega
    · omega
    · omega
  | new i =>
    exfalso
    have : ea = [] := by simpa [isRet] using hret
    subst this
    exact hnt (by rw [← hoF _ (Option.some.inj h).symm])
  | _ => cases hret
end SM
end
section
/-! ===== a method by its run; all methods by their depth ===== -/
theorem slot2_len (adr : Int → Nat) : ∀ as : List sV, (lg_sl (as.map (mvV adr))).length = (slot2 as).length
  | [] => rfl
  | .inl x :: r => by
    have := slot2_len adr r
    simp [slot2, lg_sl, mvV, Value.category] at this ⊢
    exact this
  | .inr (.inl x) :: r => by
    have := slot2_len adr r
    simp [slot2, lg_sl, mvV, Value.category] at this ⊢
    exact this
  | .inr (.inr x) :: r => by
    have := slot2_len adr r
    by_cases h : x = 0
    · simp [slot2, lg_sl, mvV, Value.category, h] at this ⊢
      exact this
    · simp [slot2, lg_sl, mvV, Value.category, h] at this ⊢
      exact this
theorem lvs_rep (adr : Int → Nat) : ∀ (n i : Nat), lvs adr (List.replicate n none) i = []
  | 0, i => rfl
  | n + 1, i => by
    rw [List.replicate_succ]
    exact lvs_rep adr n (i + 1)
theorem lvs_ent (adr : Int → Nat) (n : Nat) : ∀ (as : List sV) (i : Nat), lvs adr (slot2 as ++ List.replicate n none) i = lv_args i (as.map (mvV adr))
  | [], i => lvs_rep adr n i
  | .inl x :: r, i => by
    have := lvs_ent adr n r (i + 1)
    simp only [slot2, List.cons_append, lvs, List.map_cons, lv_args, mvV, Value.category] at this ⊢
    rw [this]
    rfl
  | .inr (.inl x) :: r, i => by
    have := lvs_ent adr n r (i + 2)
    simp only [slot2, List.cons_append, lvs, List.map_cons, lv_args, mvV, Value.category] at this ⊢
    rw [this]
    rfl
  | .inr (.inr x) :: r, i => by
    have := lvs_ent adr n r (i + 1)
    by_cases h : x = 0
    · simp only [slot2, List.cons_append, lvs, List.map_cons, lv_args, mvV, h, if_true, Value.category] at this ⊢
      rw [this]
      rfl
    · simp only [slot2, List.cons_append, lvs, List.map_cons, lv_args, mvV, h, if_false, Value.category] at this ⊢
      rw [this]
      rfl
theorem ent_len {n : Nat} {as : List sV} (h : (slot2 as).length ≤ n) : (ent n as).length = n := by
  unfold ent
  simp
  omega
theorem slot2_mem : ∀ (as : List sV) (v : sV), some v ∈ slot2 as → v ∈ as
  | [], v, h => by simp [slot2] at h
  | .inl x :: r, v, h => by
    simp only [slot2, List.mem_cons, Option.some.injEq] at h
    rcases h with h | h
    · rw [h]; exact List.mem_cons_self
    · exact List.mem_cons_of_mem _ (slot2_mem r v h)
  | .inr (.inl x) :: r, v, h => by
    simp only [slot2, List.mem_cons, Option.some.injEq] at h
    rcases h with h | h | h
    · rw [h]; exact List.mem_cons_self
    · cases h
    · exact List.mem_cons_of_mem _ (slot2_mem r v h)
  | .inr (.inr x) :: r, v, h => by
    simp only [slot2, List.mem_cons, Option.some.injEq] at h
    rcases h with h | h
    · rw [h]; exact List.mem_cons_self
    · exact List.mem_cons_of_mem _ (slot2_mem r v h)
theorem okL_ent {w : sW} {n : Nat} {as : List sV} (h : okS w as) : okL w (ent n as) := by
  intro v hv
  rcases List.mem_append.mp hv with q | q
  · exact h v (slot2_mem as v q)
  · have := (List.mem_replicate.mp q).2
    cases this
set_option maxHeartbeats 1000000 in
theorem met_sim {l : Launch} {K : LC} {inf : Nat → Option sI} {mi : sI} {C : sC} {d : Nat} {w : sW} {as : List sV} {rF : Option sV × sW} (hLL : lcL K ≤ 100000) (hm : MOK mi) (hh0 : mi.2.2.2.2.2 = []) (hVal : VAL inf mi) (hCe : ExtC C) (hC : SimC l K inf d C) (hmok : ∀ mid mi, inf mid = some mi → MOK mi) (h : runs C mi.2.2.2.2.1 w as = some rF) (hnt : rF.1 ≠ thrown) (adr : Int → Nat) : CTM l K (d + 1) mi w adr as rF.1 rF.2 := by
  obtain ⟨hlen, n, hn⟩ := runs_iff.mp h
  have hM1 := hVal.2.2.2
  rw [hM1] at hlen hn
  refine Met.ofW (cc := mi.2.1) (maxL := mi.2.2.1) (ret := mi.2.2.2.1) hm.2.2.2.2 (wsM_0 hh0) ?_
  intro p e s m args below meth c s₁ Bd hml hv
  obtain ⟨rfl, hKN, hOld, hRW, hok⟩ := hv
  obtain ⟨Z, hZ⟩ : ∃ Z : MZ, Z = (p, l, e, rmD (d + 1) (uc rF.2 - uc w) (us rF.2 - us w), s, m, (as.map (mvV adr)).toArray, below, meth, c, MQ below (QcM K w adr rF.1 rF.2) (as.map (mvV adr)).toArray s (uc rF.2 - uc w) (us rF.2 - us w) (oldA K), mi.2.1, mi.2.2.1, mi.1.cls, wsM mi) := ⟨_, rfl⟩
  have B : BX Z K := by
    rw [hZ]
    exact ⟨Bd.exec, Bd.bytes, hml, findClass_of_methodNamed Bd.named, atoms_spec (ws := wsM mi) Bd.pre, fun w hw => List.mem_cons_of_mem _ hw, hKN, hOld, by show 1 ≤ d + 1; omega, by show 60 ≤ 60 * (d + 1); omega⟩
  have hrm : RoomD Z d := by rw [hZ]; exact ⟨Nat.le_refl _, Nat.le_refl _⟩
  have hl := lv_entry (as.map (mvV adr)) (n := mi.2.2.1) (by rw [slot2_len]; exact hlen)
  rw [lg_entry_eq]
  generalize (lg_sl (as.map (mvV adr)) ++ List.replicate (mi.2.2.1 - (lg_sl (as.map (mvV adr))).length) Slot.unset).toArray = lsM at hl ⊢
  rw [← lvs_ent adr (mi.2.2.1 - (slot2 as).length)] at hl
  have hrt : meth.sig.returnType = mi.2.2.2.1 := Bd.returns
  have key := itr_sim (Z := Z) (K := K) (w0 := w) (adr0 := adr) (C := C) (d := d) (inf := inf) (mi := mi) (rF := rF) B (by rw [hZ]; exact (name_of_methodNamed Bd.named Bd.method).1) (by rw [hZ]) (by rw [hZ]) (by rw [hZ]) hLL hVal hCe (by rw [hZ]; exact hC) hrm hmok (by rw [hZ]; exact ⟨Nat.le_refl _, Nat.le_refl _⟩)
    (ret_ok B (by rw [hZ]; exact Bd.notSynchronized) (by rw [hZ]; exact hrt) hVal hnt (by rw [hZ])) n _ hn
  have := key adr s.heap [] lsM hRW (by rw [hZ]; exact va_S.rf) (fun v hv => by cases hv) (okL_ent hok) (by rw [hZ]; exact ent_len hlen) (by rw [hZ]; exact hl) (fun r _ => rfl) Ext.rf
  rw [hZ, Nat.sub_self, Nat.sub_self] at this
  exact this
/-- the law's helpers: they call a method of the class, and answer 1 if it throws -/
def hlp (C : sC) (q : Nat) (w : sW) (as : List sV) : Option (Option sV × sW) := match as.reverse with
  | .inr (.inr out) :: ras => (match C q w ras.reverse with
    | some (some (.inl v), w') => if kd w' out = 22 ∧ 0 < ln w' out then some (some (.inl 0), sv w' out 0 v) else none
    | some (some (.inr (.inr r)), w') => if r = -7 then some (some (.inl 1), w') else none
    | _ => none)
  | _ => none
noncomputable def Ex (P : Nat → Option (sM ⊕ Nat)) : Nat → sC
  | 0 => fun _ _ _ => none
  | d + 1 => fun mid w as => match P mid with
    | some (.inl M) => runs (Ex P d) M w as
    | some (.inr q) => hlp (Ex P d) q w as
    | none => none
theorem hlp_ext {C : sC} (hC : ExtC C) {q : Nat} {w w' : sW} {as : List sV} {r : Option sV} (h : hlp C q w as = some (r, w')) : Ext w w' := by
  unfold hlp at h
  split at h
  · split at h
    · rename_i e
      have hx := hC _ _ _ _ _ e
      obtain ⟨_, h⟩ := if_s h
      cases h
      exact hx.tr Ext.sv
    · rename_i e
      have hx := hC _ _ _ _ _ e
      obtain ⟨_, h⟩ := if_s h
      cases h
      exact hx
    · cases h
  · cases h
theorem Ex_ext (P : Nat → Option (sM ⊕ Nat)) : ∀ d, ExtC (Ex P d)
  | 0 => fun mid w as r w' h => by simp [Ex] at h
  | d + 1 => fun mid w as r w' h => by
    simp only [Ex] at h
    split at h
    · exact runs_ext (Ex_ext P d) h
    · exact hlp_ext (Ex_ext P d) h
    · cases h
theorem Ex_sim {l : Launch} {K : LC} {inf : Nat → Option sI} {P : Nat → Option (sM ⊕ Nat)} (hLL : lcL K ≤ 100000) (hmok : ∀ mid mi, inf mid = some mi → MOK mi) (hP : ∀ mid M, P mid = some (.inl M) → ∀ mi, inf mid = some mi → mi.2.2.2.2.1 = M ∧ mi.2.2.2.2.2 = [] ∧ VAL inf mi)
    (hH : ∀ d, SimC l K inf d (Ex P d) → ∀ mid q, P mid = some (.inr q) → ∀ w as r w', hlp (Ex P d) q w as = some (r, w') → ∀ mi, inf mid = some mi → ∀ adr, CTM l K (d + 1) mi w adr as r w') : ∀ d, SimC l K inf d (Ex P d)
  | 0 => fun mid w as r w' h => by simp [Ex] at h
  | d + 1 => fun mid w as r w' h hnt => by
    refine ⟨Ex_ext P (d + 1) _ _ _ _ _ h, fun mi hinf adr => ?_⟩
    simp only [Ex] at h
    split at h
    · rename_i M hM
      obtain ⟨e1, e2, e3⟩ := hP mid M hM mi hinf
      rw [← e1] at h
      exact met_sim (rF := (r, w')) hLL (hmok mid mi hinf) e2 e3 (Ex_ext P d) (Ex_sim hLL hmok hP hH d) hmok h hnt adr
    · rename_i q hq
      exact hH d (Ex_sim hLL hmok hP hH d) mid q hq w as r w' h mi hinf adr
    · cases h
end
section
/-! ===== the list of methods, and the check of each table (printed by wip/whole/tabs.py) ===== -/
def infL : List sI := [
  (yX0_init, cX0_init, 1, none, mX0_init, []),
  (yX0_readLines, cX0_readLines, 4, none, mX0_readLines, []),
  (yX0_readLine, cX0_readLine, 7, none, mX0_readLine, []),
  (yX0_readThird, cX0_readThird, 4, (some .int), mX0_readThird, []),
  (yX0_liveOn, cX0_liveOn, 5, (some .int), mX0_liveOn, []),
  (yX1_init, cX1_init, 2, none, mX1_init, []),
  (yX1_draw, cX1_draw, 2, (some .int), mX1_draw, []),
  (yX1_deedOn, cX1_deedOn, 7, (some .boolean), mX1_deedOn, []),
  (yX1_done, cX1_done, 5, (some .boolean), mX1_done, []),
  (yX2_asBits, cX2_asBits, 14, (some .long), mX2_asBits, []),
  (yX3_init, cX3_init, 1, none, mX3_init, []),
  (yX3_forget, cX3_forget, 1, none, mX3_forget, []),
  (yX3_keep, cX3_keep, 3, none, mX3_keep, []),
  (yX3_bringBack, cX3_bringBack, 3, (some .boolean), mX3_bringBack, []),
  (yX4_init, cX4_init, 1, none, mX4_init, []),
  (yX4_open, cX4_open, 4, none, mX4_open, []),
  (yX4_advance, cX4_advance, 2, none, mX4_advance, []),
  (yX4_readLettersAndDigits, cX4_readLettersAndDigits, 5, none, mX4_readLettersAndDigits, []),
  (yX4_isSign, cX4_isSign, 1, (some .boolean), mX4_isSign, []),
  (yX4_goesOn, cX4_goesOn, 1, (some .boolean), mX4_goesOn, []),
  (yX4_fail, cX4_fail, 2, none, mX4_fail, []),
  (yX4_isAtName, cX4_isAtName, 1, (some .boolean), mX4_isAtName, []),
  (yX4_isAtSign, cX4_isAtSign, 2, (some .boolean), mX4_isAtSign, []),
  (yX4_takeSign, cX4_takeSign, 2, none, mX4_takeSign, []),
  (yX4_takeComparison, cX4_takeComparison, 2, (some .int), mX4_takeComparison, []),
  (yX4_takeNumber, cX4_takeNumber, 4, (some .int), mX4_takeNumber, []),
  (yX4_takeRow, cX4_takeRow, 4, (some .int), mX4_takeRow, []),
  (yX4_lettersOfWord, cX4_lettersOfWord, 1, (some .int), mX4_lettersOfWord, []),
  (yX4_letterOfWord, cX4_letterOfWord, 3, (some .int), mX4_letterOfWord, []),
  (yX5_init, cX5_init, 1, none, mX5_init, []),
  (yX5_clear, cX5_clear, 1, none, mX5_clear, []),
  (yX5_copyFrom, cX5_copyFrom, 2, none, mX5_copyFrom, []),
  (yX5_hasGap, cX5_hasGap, 2, (some .boolean), mX5_hasGap, []),
  (yX5_hasRange, cX5_hasRange, 3, (some .boolean), mX5_hasRange, []),
  (yX5_bitAt, cX5_bitAt, 2, (some .int), mX5_bitAt, []),
  (yX5_countIn, cX5_countIn, 6, (some .int), mX5_countIn, []),
  (yX5_placeOf, cX5_placeOf, 5, (some .int), mX5_placeOf, []),
  (yX5_nextPlace, cX5_nextPlace, 4, (some .int), mX5_nextPlace, []),
  (yX5_runCount, cX5_runCount, 3, (some .int), mX5_runCount, []),
  (yX5_longestRun, cX5_longestRun, 5, (some .int), mX5_longestRun, []),
  (yX5_wordFrom, cX5_wordFrom, 4, (some .int), mX5_wordFrom, []),
  (yX5_sumOfPlaces, cX5_sumOfPlaces, 3, (some .int), mX5_sumOfPlaces, []),
  (yX5_unlikeBits, cX5_unlikeBits, 5, (some .int), mX5_unlikeBits, []),
  (yX5_firstUnlike, cX5_firstUnlike, 4, (some .int), mX5_firstUnlike, []),
  (yX5_beginsWith, cX5_beginsWith, 3, (some .boolean), mX5_beginsWith, []),
  (yX5_hasAt, cX5_hasAt, 5, (some .boolean), mX5_hasAt, []),
  (yX5_leafStart, cX5_leafStart, 4, (some .int), mX5_leafStart, []),
  (yX5_leafWith, cX5_leafWith, 5, (some .int), mX5_leafWith, []),
  (yX5_insert, cX5_insert, 5, none, mX5_insert, []),
  (yX5_halveIfTooBig, cX5_halveIfTooBig, 4, none, mX5_halveIfTooBig, []),
  (yX5_remove, cX5_remove, 6, none, mX5_remove, []),
  (yX5_mergeWithNext, cX5_mergeWithNext, 3, none, mX5_mergeWithNext, []),
  (yX5_turnOver, cX5_turnOver, 4, none, mX5_turnOver, []),
  (yX5_append, cX5_append, 5, none, mX5_append, []),
  (yX6_init, cX6_init, 1, none, mX6_init, []),
  (yX6_copyFrom, cX6_copyFrom, 2, none, mX6_copyFrom, []),
  (yX6_signAt, cX6_signAt, 2, (some .int), mX6_signAt, []),
  (yX6_hasRange, cX6_hasRange, 3, (some .boolean), mX6_hasRange, []),
  (yX6_countIn, cX6_countIn, 6, (some .int), mX6_countIn, []),
  (yX6_placeOf, cX6_placeOf, 5, (some .int), mX6_placeOf, []),
  (yX6_leastOf, cX6_leastOf, 6, (some .int), mX6_leastOf, []),
  (yX6_nodeBit, cX6_nodeBit, 7, (some .int), mX6_nodeBit, []),
  (yX6_insert, cX6_insert, 3, none, mX6_insert, []),
  (yX6_remove, cX6_remove, 3, none, mX6_remove, []),
  (yX7_init, cX7_init, 1, none, mX7_init, []),
  (yX7_clear, cX7_clear, 1, none, mX7_clear, []),
  (yX7_copyFrom, cX7_copyFrom, 3, none, mX7_copyFrom, []),
  (yX7_readAll, cX7_readAll, 3, none, mX7_readAll, []),
  (yX7_readCond, cX7_readCond, 7, none, mX7_readCond, []),
  (yX7_readOne, cX7_readOne, 6, none, mX7_readOne, []),
  (yX7_readPlain, cX7_readPlain, 5, none, mX7_readPlain, []),
  (yX7_addStep, cX7_addStep, 4, none, mX7_addStep, []),
  (yX7_isTrueOf, cX7_isTrueOf, 6, (some .boolean), mX7_isTrueOf, []),
  (yX7_isPlainTrue, cX7_isPlainTrue, 7, (some .boolean), mX7_isPlainTrue, []),
  (yX7_measure, cX7_measure, 3, (some .int), mX7_measure, []),
  (yX8_init, cX8_init, 2, none, mX8_init, []),
  (yX8_copyFrom, cX8_copyFrom, 3, none, mX8_copyFrom, []),
  (yX8_rowAt, cX8_rowAt, 2, (some (.object "BitRopes$Row")), mX8_rowAt, []),
  (yX8_numberOf, cX8_numberOf, 4, (some .int), mX8_numberOf, []),
  (yX8_allBits, cX8_allBits, 3, (some .int), mX8_allBits, []),
  (yX8_readLines, cX8_readLines, 4, (some .int), mX8_readLines, []),
  (yX8_readLeaf, cX8_readLeaf, 4, none, mX8_readLeaf, []),
  (yX8_readRow, cX8_readRow, 4, none, mX8_readRow, []),
  (yX8_readBits, cX8_readBits, 6, none, mX8_readBits, []),
  (yX8_readLetters, cX8_readLetters, 3, none, mX8_readLetters, []),
  (yX8_readLettersOfWord, cX8_readLettersOfWord, 4, none, mX8_readLettersOfWord, []),
  (yX8_whyNot, cX8_whyNot, 6, (some .int), mX8_whyNot, []),
  (yX8_whyNotMoved, cX8_whyNotMoved, 3, (some .int), mX8_whyNotMoved, []),
  (yX8_act, cX8_act, 7, none, mX8_act, []),
  (yX9_height, cX9_height, 3, (some .int), mX9_height, []),
  (yX9_inner, cX9_inner, 1, (some .int), mX9_inner, []),
  (yX9_mixed, cX9_mixed, 1, (some .int), mX9_mixed, []),
  (yX9_triples, cX9_triples, 3, (some .int), mX9_triples, []),
  (yX9_cost, cX9_cost, 3, (some .int), mX9_cost, []),
  (yX10_withCode, cX10_withCode, 3, (some (.object "BitRopes$Word")), mX10_withCode, []),
  (yX11_init, cX11_init, 1, none, mX11_init, []),
  (yX11_feed, cX11_feed, 6, (some .int), mX11_feed, []),
  (yX11_feedBytes, cX11_feedBytes, 3, none, mX11_feedBytes, []),
  (yX11_end, cX11_end, 2, (some .boolean), mX11_end, []),
  (yX11_room, cX11_room, 2, (some .int), mX11_room, []),
  (yX11_closesWithFault, cX11_closesWithFault, 1, (some .boolean), mX11_closesWithFault, []),
  (yX11_swapStates, cX11_swapStates, 2, none, mX11_swapStates, []),
  (yX11_fault, cX11_fault, 1, (some .int), mX11_fault, []),
  (yX11_size, cX11_size, 3, (some .int), mX11_size, []),
  (yX11_bit, cX11_bit, 4, (some .int), mX11_bit, []),
  (yX11_rank, cX11_rank, 5, (some .int), mX11_rank, []),
  (yX11_isBit, cX11_isBit, 1, (some .boolean), mX11_isBit, []),
  (yX11_select, cX11_select, 5, (some .int), mX11_select, []),
  (yX11_find, cX11_find, 5, (some .int), mX11_find, []),
  (yX11_runs, cX11_runs, 3, (some .int), mX11_runs, []),
  (yX11_longest, cX11_longest, 4, (some .int), mX11_longest, []),
  (yX11_word, cX11_word, 4, (some .int), mX11_word, []),
  (yX11_leaves, cX11_leaves, 3, (some .int), mX11_leaves, []),
  (yX11_leaf, cX11_leaf, 5, (some .int), mX11_leaf, []),
  (yX11_tree, cX11_tree, 4, (some .int), mX11_tree, []),
  (yX11_dense, cX11_dense, 5, (some .int), mX11_dense, []),
  (yX11_load, cX11_load, 3, (some .int), mX11_load, []),
  (yX11_centre, cX11_centre, 7, (some .int), mX11_centre, []),
  (yX11_apart, cX11_apart, 5, (some .int), mX11_apart, []),
  (yX11_differ, cX11_differ, 5, (some .int), mX11_differ, []),
  (yX11_seek, cX11_seek, 5, (some .int), mX11_seek, []),
  (yX11_takeBitsOfTape, cX11_takeBitsOfTape, 4, (some .int), mX11_takeBitsOfTape, []),
  (yX11_seekAt, cX11_seekAt, 2, (some .int), mX11_seekAt, []),
  (yX11_put, cX11_put, 4, (some .int), mX11_put, []),
  (yX11_does, cX11_does, 6, (some .int), mX11_does, []),
  (yX11_set, cX11_set, 4, (some .int), mX11_set, []),
  (yX11_cut, cX11_cut, 4, (some .int), mX11_cut, []),
  (yX11_turn, cX11_turn, 4, (some .int), mX11_turn, []),
  (yX11_paste, cX11_paste, 6, (some .int), mX11_paste, []),
  (yX11_join, cX11_join, 3, (some .int), mX11_join, []),
  (yX11_split, cX11_split, 4, (some .int), mX11_split, []),
  (yX11_letters, cX11_letters, 1, (some .int), mX11_letters, []),
  (yX11_letter, cX11_letter, 2, (some .int), mX11_letter, []),
  (yX11_count, cX11_count, 3, (some .int), mX11_count, []),
  (yX11_isLetter, cX11_isLetter, 1, (some .boolean), mX11_isLetter, []),
  (yX11_place, cX11_place, 3, (some .int), mX11_place, []),
  (yX11_least, cX11_least, 4, (some .int), mX11_least, []),
  (yX11_node, cX11_node, 3, (some .int), mX11_node, []),
  (yX11_type, cX11_type, 3, (some .int), mX11_type, []),
  (yX11_erase, cX11_erase, 3, (some .int), mX11_erase, []),
  (yX11_undo, cX11_undo, 1, (some .int), mX11_undo, []),
  (yX11_drawn, cX11_drawn, 6, (some .int), mX11_drawn, []),
  (yX11_book, cX11_book, 3, (some .int), mX11_book, []),
  (yX11_told, cX11_told, 2, (some .int), mX11_told, []),
  (yX11_sentence, cX11_sentence, 2, (some .int), mX11_sentence, []),
  (yX11_said, cX11_said, 4, (some .int), mX11_said, []),
  (yX11_image, cX11_image, 2, (some .boolean), mX11_image, []),
  (yX11_restore, cX11_restore, 2, (some .boolean), mX11_restore, []),
  (yX11_total, cX11_total, 2, (some .int), mX11_total, []),
  (yX12_thrown, cX12_thrown, 1, (some .int), mX12_thrown, []),
  (yX12_refuse, cX12_refuse, 1, (some .int), mX12_refuse, []),
  (yX12_come, cX12_come, 3, none, mX12_come, []),
  (yX12_feed, cX12_feed, 6, (some .int), mX12_feed, []),
  (yX12_end, cX12_end, 2, (some .boolean), mX12_end, []),
  (yX12_take, cX12_take, 2, (some .int), mX12_take, []),
  (yX12_isIn, cX12_isIn, 3, (some .boolean), mX12_isIn, []),
  (yX12_tapeAt, cX12_tapeAt, 2, (some .int), mX12_tapeAt, []),
  (yX12_isDigit, cX12_isDigit, 1, (some .boolean), mX12_isDigit, []),
  (yX12_isLetter, cX12_isLetter, 1, (some .boolean), mX12_isLetter, []),
  (yX12_go, cX12_go, 5, none, mX12_go, []),
  (yX12_spelt, cX12_spelt, 9, (some .long), mX12_spelt, []),
  (yX12_wordOf, cX12_wordOf, 1, (some .long), mX12_wordOf, []),
  (yX12_isWord, cX12_isWord, 2, (some .boolean), mX12_isWord, []),
  (yX12_isSign, cX12_isSign, 2, (some .boolean), mX12_isSign, []),
  (yX12_isName, cX12_isName, 2, (some .boolean), mX12_isName, []),
  (yX12_bad, cX12_bad, 2, (some .boolean), mX12_bad, []),
  (yX12_readNumber, cX12_readNumber, 3, (some .boolean), mX12_readNumber, []),
  (yX12_readEnd, cX12_readEnd, 1, (some .boolean), mX12_readEnd, []),
  (yX12_begin, cX12_begin, 2, none, mX12_begin, []),
  (yX12_init, cX12_init, 1, none, mX12_init, []),
  (yX12_startSo, cX12_startSo, 3, none, mX12_startSo, []),
  (yX12_findIn, cX12_findIn, 5, (some .int), mX12_findIn, []),
  (yX12_readLeaf, cX12_readLeaf, 2, (some .boolean), mX12_readLeaf, []),
  (yX12_areOf, cX12_areOf, 3, (some .boolean), mX12_areOf, []),
  (yX12_areBits, cX12_areBits, 2, (some .boolean), mX12_areBits, []),
  (yX12_readRow, cX12_readRow, 3, (some .boolean), mX12_readRow, []),
  (yX12_readLetters, cX12_readLetters, 2, (some .boolean), mX12_readLetters, []),
  (yX12_readLine, cX12_readLine, 2, (some .boolean), mX12_readLine, []),
  (yX12_room, cX12_room, 3, (some .int), mX12_room, []),
  (yX12_fault, cX12_fault, 1, (some .int), mX12_fault, []),
  (yX12_sizeOf, cX12_sizeOf, 2, (some .int), mX12_sizeOf, []),
  (yX12_bitOf, cX12_bitOf, 3, (some .int), mX12_bitOf, []),
  (yX12_leafAt, cX12_leafAt, 3, (some .int), mX12_leafAt, []),
  (yX12_leafOf, cX12_leafOf, 5, (some .int), mX12_leafOf, []),
  (yX12_splitLeaf, cX12_splitLeaf, 5, none, mX12_splitLeaf, []),
  (yX12_putBit, cX12_putBit, 6, none, mX12_putBit, []),
  (yX12_joinLeaves, cX12_joinLeaves, 4, none, mX12_joinLeaves, []),
  (yX12_takeBit, cX12_takeBit, 6, none, mX12_takeBit, []),
  (yX12_isRow, cX12_isRow, 2, (some .boolean), mX12_isRow, []),
  (yX12_isBit, cX12_isBit, 2, (some .boolean), mX12_isBit, []),
  (yX12_isThere, cX12_isThere, 3, (some .boolean), mX12_isThere, []),
  (yX12_onesIn, cX12_onesIn, 6, (some .int), mX12_onesIn, []),
  (yX12_size, cX12_size, 2, (some .int), mX12_size, []),
  (yX12_bit, cX12_bit, 3, (some .int), mX12_bit, []),
  (yX12_rank, cX12_rank, 5, (some .int), mX12_rank, []),
  (yX12_select, cX12_select, 6, (some .int), mX12_select, []),
  (yX12_find, cX12_find, 5, (some .int), mX12_find, []),
  (yX12_runsOf, cX12_runsOf, 4, (some .int), mX12_runsOf, []),
  (yX12_runs, cX12_runs, 2, (some .int), mX12_runs, []),
  (yX12_longest, cX12_longest, 6, (some .int), mX12_longest, []),
  (yX12_word, cX12_word, 5, (some .int), mX12_word, []),
  (yX12_leaves, cX12_leaves, 2, (some .int), mX12_leaves, []),
  (yX12_leaf, cX12_leaf, 6, (some .int), mX12_leaf, []),
  (yX12_highOf, cX12_highOf, 1, (some .int), mX12_highOf, []),
  (yX12_mixedOf, cX12_mixedOf, 1, (some .int), mX12_mixedOf, []),
  (yX12_innerOf, cX12_innerOf, 1, (some .int), mX12_innerOf, []),
  (yX12_costOf, cX12_costOf, 4, (some .int), mX12_costOf, []),
  (yX12_tree, cX12_tree, 4, (some .int), mX12_tree, []),
  (yX12_firstBits, cX12_firstBits, 13, (some .long), mX12_firstBits, []),
  (yX12_asFloat, cX12_asFloat, 4, (some .int), mX12_asFloat, []),
  (yX12_asDouble, cX12_asDouble, 5, (some .long), mX12_asDouble, []),
  (yX12_dense, cX12_dense, 4, (some .int), mX12_dense, []),
  (yX12_load, cX12_load, 2, (some .int), mX12_load, []),
  (yX12_centre, cX12_centre, 7, (some .int), mX12_centre, []),
  (yX12_firstApart, cX12_firstApart, 4, (some .int), mX12_firstApart, []),
  (yX12_apart, cX12_apart, 5, (some .int), mX12_apart, []),
  (yX12_areLike, cX12_areLike, 3, (some .boolean), mX12_areLike, []),
  (yX12_differ, cX12_differ, 3, (some .int), mX12_differ, []),
  (yX12_isOnTape, cX12_isOnTape, 5, (some .boolean), mX12_isOnTape, []),
  (yX12_areTapeBits, cX12_areTapeBits, 4, (some .boolean), mX12_areTapeBits, []),
  (yX12_seek, cX12_seek, 4, (some .int), mX12_seek, []),
  (yX12_seekAt, cX12_seekAt, 2, (some .int), mX12_seekAt, []),
  (yX12_isLetterAt, cX12_isLetterAt, 2, (some .boolean), mX12_isLetterAt, []),
  (yX12_letters, cX12_letters, 1, (some .int), mX12_letters, []),
  (yX12_letter, cX12_letter, 2, (some .int), mX12_letter, []),
  (yX12_count, cX12_count, 5, (some .int), mX12_count, []),
  (yX12_place, cX12_place, 5, (some .int), mX12_place, []),
  (yX12_least, cX12_least, 7, (some .int), mX12_least, []),
  (yX12_isInNode, cX12_isInNode, 2, (some .boolean), mX12_isInNode, []),
  (yX12_node, cX12_node, 6, (some .int), mX12_node, []),
  (yX12_save, cX12_save, 4, none, mX12_save, []),
  (yX12_comeBack, cX12_comeBack, 4, none, mX12_comeBack, []),
  (yX12_snap, cX12_snap, 2, none, mX12_snap, []),
  (yX12_areThere, cX12_areThere, 3, (some .boolean), mX12_areThere, []),
  (yX12_whyPut, cX12_whyPut, 4, (some .int), mX12_whyPut, []),
  (yX12_refusal, cX12_refusal, 5, (some .int), mX12_refusal, []),
  (yX12_live, cX12_live, 6, none, mX12_live, []),
  (yX12_moves, cX12_moves, 6, none, mX12_moves, []),
  (yX12_act, cX12_act, 7, (some .int), mX12_act, []),
  (yX12_put, cX12_put, 4, (some .int), mX12_put, []),
  (yX12_set, cX12_set, 4, (some .int), mX12_set, []),
  (yX12_cut, cX12_cut, 4, (some .int), mX12_cut, []),
  (yX12_turn, cX12_turn, 4, (some .int), mX12_turn, []),
  (yX12_paste, cX12_paste, 6, (some .int), mX12_paste, []),
  (yX12_areTwo, cX12_areTwo, 3, (some .boolean), mX12_areTwo, []),
  (yX12_join, cX12_join, 3, (some .int), mX12_join, []),
  (yX12_split, cX12_split, 4, (some .int), mX12_split, []),
  (yX12_type, cX12_type, 3, (some .int), mX12_type, []),
  (yX12_erase, cX12_erase, 3, (some .int), mX12_erase, []),
  (yX12_undo, cX12_undo, 1, (some .int), mX12_undo, []),
  (yX12_draw, cX12_draw, 2, (some .int), mX12_draw, []),
  (yX12_doIf, cX12_doIf, 5, (some .boolean), mX12_doIf, []),
  (yX12_drawsDeed, cX12_drawsDeed, 5, (some .boolean), mX12_drawsDeed, []),
  (yX12_drawn, cX12_drawn, 5, (some .int), mX12_drawn, []),
  (yX12_keep, cX12_keep, 3, (some .boolean), mX12_keep, []),
  (yX12_readRowName, cX12_readRowName, 1, (some .boolean), mX12_readRowName, []),
  (yX12_readOther, cX12_readOther, 2, (some .boolean), mX12_readOther, []),
  (yX12_readBookLine, cX12_readBookLine, 4, (some .boolean), mX12_readBookLine, []),
  (yX12_goBy, cX12_goBy, 4, (some .int), mX12_goBy, []),
  (yX12_allBits, cX12_allBits, 3, (some .int), mX12_allBits, []),
  (yX12_book, cX12_book, 4, (some .int), mX12_book, []),
  (yX12_stay, cX12_stay, 2, none, mX12_stay, []),
  (yX12_told, cX12_told, 2, (some .int), mX12_told, []),
  (yX12_beginsWith, cX12_beginsWith, 3, (some .boolean), mX12_beginsWith, []),
  (yX12_onesOf, cX12_onesOf, 2, (some .int), mX12_onesOf, []),
  (yX12_saysOne, cX12_saysOne, 6, (some .int), mX12_saysOne, []),
  (yX12_readOr, cX12_readOr, 2, (some .boolean), mX12_readOr, []),
  (yX12_readAnd, cX12_readAnd, 2, (some .boolean), mX12_readAnd, []),
  (yX12_readSaid, cX12_readSaid, 4, (some .boolean), mX12_readSaid, []),
  (yX12_readNot, cX12_readNot, 1, (some .boolean), mX12_readNot, []),
  (yX12_readBracket, cX12_readBracket, 1, (some .boolean), mX12_readBracket, []),
  (yX12_readOf, cX12_readOf, 2, (some .boolean), mX12_readOf, []),
  (yX12_readCompare, cX12_readCompare, 3, (some .boolean), mX12_readCompare, []),
  (yX12_sentence, cX12_sentence, 2, (some .int), mX12_sentence, []),
  (yX12_holds, cX12_holds, 8, (some .boolean), mX12_holds, []),
  (yX12_said, cX12_said, 4, (some .int), mX12_said, []),
  (yX12_image, cX12_image, 3, (some .boolean), mX12_image, []),
  (yX12_restore, cX12_restore, 3, (some .boolean), mX12_restore, []),
  (yX12_total, cX12_total, 2, (some .int), mX12_total, []),
  (yL_word, cL_word, 5, (some .int), (0, 0, [], []), [(0, 10, 13, 13)]),
  (yL_dense, cL_dense, 6, (some .int), (0, 0, [], []), [(0, 12, 15, 13)]),
  (yL_load, cL_load, 4, (some .int), (0, 0, [], []), [(0, 9, 12, 13)]),
  (yL_centre, cL_centre, 5, (some .int), (0, 0, [], []), [(0, 10, 13, 13)])]
def infA (k : Nat) : Option sI := infL[k]?
def proL : List (sM ⊕ Nat) := [
  .inl mX0_init,
  .inl mX0_readLines,
  .inl mX0_readLine,
  .inl mX0_readThird,
  .inl mX0_liveOn,
  .inl mX1_init,
  .inl mX1_draw,
  .inl mX1_deedOn,
  .inl mX1_done,
  .inl mX2_asBits,
  .inl mX3_init,
  .inl mX3_forget,
  .inl mX3_keep,
  .inl mX3_bringBack,
  .inl mX4_init,
  .inl mX4_open,
  .inl mX4_advance,
  .inl mX4_readLettersAndDigits,
  .inl mX4_isSign,
  .inl mX4_goesOn,
  .inl mX4_fail,
  .inl mX4_isAtName,
  .inl mX4_isAtSign,
  .inl mX4_takeSign,
  .inl mX4_takeComparison,
  .inl mX4_takeNumber,
  .inl mX4_takeRow,
  .inl mX4_lettersOfWord,
  .inl mX4_letterOfWord,
  .inl mX5_init,
  .inl mX5_clear,
  .inl mX5_copyFrom,
  .inl mX5_hasGap,
  .inl mX5_hasRange,
  .inl mX5_bitAt,
  .inl mX5_countIn,
  .inl mX5_placeOf,
  .inl mX5_nextPlace,
  .inl mX5_runCount,
  .inl mX5_longestRun,
  .inl mX5_wordFrom,
  .inl mX5_sumOfPlaces,
  .inl mX5_unlikeBits,
  .inl mX5_firstUnlike,
  .inl mX5_beginsWith,
  .inl mX5_hasAt,
  .inl mX5_leafStart,
  .inl mX5_leafWith,
  .inl mX5_insert,
  .inl mX5_halveIfTooBig,
  .inl mX5_remove,
  .inl mX5_mergeWithNext,
  .inl mX5_turnOver,
  .inl mX5_append,
  .inl mX6_init,
  .inl mX6_copyFrom,
  .inl mX6_signAt,
  .inl mX6_hasRange,
  .inl mX6_countIn,
  .inl mX6_placeOf,
  .inl mX6_leastOf,
  .inl mX6_nodeBit,
  .inl mX6_insert,
  .inl mX6_remove,
  .inl mX7_init,
  .inl mX7_clear,
  .inl mX7_copyFrom,
  .inl mX7_readAll,
  .inl mX7_readCond,
  .inl mX7_readOne,
  .inl mX7_readPlain,
  .inl mX7_addStep,
  .inl mX7_isTrueOf,
  .inl mX7_isPlainTrue,
  .inl mX7_measure,
  .inl mX8_init,
  .inl mX8_copyFrom,
  .inl mX8_rowAt,
  .inl mX8_numberOf,
  .inl mX8_allBits,
  .inl mX8_readLines,
  .inl mX8_readLeaf,
  .inl mX8_readRow,
  .inl mX8_readBits,
  .inl mX8_readLetters,
  .inl mX8_readLettersOfWord,
  .inl mX8_whyNot,
  .inl mX8_whyNotMoved,
  .inl mX8_act,
  .inl mX9_height,
  .inl mX9_inner,
  .inl mX9_mixed,
  .inl mX9_triples,
  .inl mX9_cost,
  .inl mX10_withCode,
  .inl mX11_init,
  .inl mX11_feed,
  .inl mX11_feedBytes,
  .inl mX11_end,
  .inl mX11_room,
  .inl mX11_closesWithFault,
  .inl mX11_swapStates,
  .inl mX11_fault,
  .inl mX11_size,
  .inl mX11_bit,
  .inl mX11_rank,
  .inl mX11_isBit,
  .inl mX11_select,
  .inl mX11_find,
  .inl mX11_runs,
  .inl mX11_longest,
  .inl mX11_word,
  .inl mX11_leaves,
  .inl mX11_leaf,
  .inl mX11_tree,
  .inl mX11_dense,
  .inl mX11_load,
  .inl mX11_centre,
  .inl mX11_apart,
  .inl mX11_differ,
  .inl mX11_seek,
  .inl mX11_takeBitsOfTape,
  .inl mX11_seekAt,
  .inl mX11_put,
  .inl mX11_does,
  .inl mX11_set,
  .inl mX11_cut,
  .inl mX11_turn,
  .inl mX11_paste,
  .inl mX11_join,
  .inl mX11_split,
  .inl mX11_letters,
  .inl mX11_letter,
  .inl mX11_count,
  .inl mX11_isLetter,
  .inl mX11_place,
  .inl mX11_least,
  .inl mX11_node,
  .inl mX11_type,
  .inl mX11_erase,
  .inl mX11_undo,
  .inl mX11_drawn,
  .inl mX11_book,
  .inl mX11_told,
  .inl mX11_sentence,
  .inl mX11_said,
  .inl mX11_image,
  .inl mX11_restore,
  .inl mX11_total,
  .inl mX12_thrown,
  .inl mX12_refuse,
  .inl mX12_come,
  .inl mX12_feed,
  .inl mX12_end,
  .inl mX12_take,
  .inl mX12_isIn,
  .inl mX12_tapeAt,
  .inl mX12_isDigit,
  .inl mX12_isLetter,
  .inl mX12_go,
  .inl mX12_spelt,
  .inl mX12_wordOf,
  .inl mX12_isWord,
  .inl mX12_isSign,
  .inl mX12_isName,
  .inl mX12_bad,
  .inl mX12_readNumber,
  .inl mX12_readEnd,
  .inl mX12_begin,
  .inl mX12_init,
  .inl mX12_startSo,
  .inl mX12_findIn,
  .inl mX12_readLeaf,
  .inl mX12_areOf,
  .inl mX12_areBits,
  .inl mX12_readRow,
  .inl mX12_readLetters,
  .inl mX12_readLine,
  .inl mX12_room,
  .inl mX12_fault,
  .inl mX12_sizeOf,
  .inl mX12_bitOf,
  .inl mX12_leafAt,
  .inl mX12_leafOf,
  .inl mX12_splitLeaf,
  .inl mX12_putBit,
  .inl mX12_joinLeaves,
  .inl mX12_takeBit,
  .inl mX12_isRow,
  .inl mX12_isBit,
  .inl mX12_isThere,
  .inl mX12_onesIn,
  .inl mX12_size,
  .inl mX12_bit,
  .inl mX12_rank,
  .inl mX12_select,
  .inl mX12_find,
  .inl mX12_runsOf,
  .inl mX12_runs,
  .inl mX12_longest,
  .inl mX12_word,
  .inl mX12_leaves,
  .inl mX12_leaf,
  .inl mX12_highOf,
  .inl mX12_mixedOf,
  .inl mX12_innerOf,
  .inl mX12_costOf,
  .inl mX12_tree,
  .inl mX12_firstBits,
  .inl mX12_asFloat,
  .inl mX12_asDouble,
  .inl mX12_dense,
  .inl mX12_load,
  .inl mX12_centre,
  .inl mX12_firstApart,
  .inl mX12_apart,
  .inl mX12_areLike,
  .inl mX12_differ,
  .inl mX12_isOnTape,
  .inl mX12_areTapeBits,
  .inl mX12_seek,
  .inl mX12_seekAt,
  .inl mX12_isLetterAt,
  .inl mX12_letters,
  .inl mX12_letter,
  .inl mX12_count,
  .inl mX12_place,
  .inl mX12_least,
  .inl mX12_isInNode,
  .inl mX12_node,
  .inl mX12_save,
  .inl mX12_comeBack,
  .inl mX12_snap,
  .inl mX12_areThere,
  .inl mX12_whyPut,
  .inl mX12_refusal,
  .inl mX12_live,
  .inl mX12_moves,
  .inl mX12_act,
  .inl mX12_put,
  .inl mX12_set,
  .inl mX12_cut,
  .inl mX12_turn,
  .inl mX12_paste,
  .inl mX12_areTwo,
  .inl mX12_join,
  .inl mX12_split,
  .inl mX12_type,
  .inl mX12_erase,
  .inl mX12_undo,
  .inl mX12_draw,
  .inl mX12_doIf,
  .inl mX12_drawsDeed,
  .inl mX12_drawn,
  .inl mX12_keep,
  .inl mX12_readRowName,
  .inl mX12_readOther,
  .inl mX12_readBookLine,
  .inl mX12_goBy,
  .inl mX12_allBits,
  .inl mX12_book,
  .inl mX12_stay,
  .inl mX12_told,
  .inl mX12_beginsWith,
  .inl mX12_onesOf,
  .inl mX12_saysOne,
  .inl mX12_readOr,
  .inl mX12_readAnd,
  .inl mX12_readSaid,
  .inl mX12_readNot,
  .inl mX12_readBracket,
  .inl mX12_readOf,
  .inl mX12_readCompare,
  .inl mX12_sentence,
  .inl mX12_holds,
  .inl mX12_said,
  .inl mX12_image,
  .inl mX12_restore,
  .inl mX12_total,
  .inr 111,
  .inr 115,
  .inr 116,
  .inr 117]
def pro (k : Nat) : Option (sM ⊕ Nat) := proL[k]?
def vRtB (ret : Nat) (t : Option FieldType) : Bool := match t with
  | none => Nat.beq ret 0
  | some .int => Nat.beq ret 1
  | some .long => Nat.beq ret 2
  | some (.object _) => Nat.beq ret 3
  | some .boolean => Nat.beq ret 4
  | _ => false
theorem vRt_s {ret : Nat} {t : Option FieldType} (h : vRtB ret t = true) : vRt ret t := by
  unfold vRtB at h
  unfold vRt
  split at h
  · exact Or.inl ⟨Nat.eq_of_beq_eq_true h, rfl⟩
  · exact Or.inr (Or.inl ⟨Nat.eq_of_beq_eq_true h, rfl⟩)
  · exact Or.inr (Or.inr (Or.inl ⟨Nat.eq_of_beq_eq_true h, rfl⟩))
  · exact Or.inr (Or.inr (Or.inr (Or.inl ⟨Nat.eq_of_beq_eq_true h, _, rfl⟩)))
  · exact Or.inr (Or.inr (Or.inr (Or.inr ⟨Nat.eq_of_beq_eq_true h, rfl⟩)))
  · cases h
def chkL (inf : Nat → Option sI) (own nm : String) (cc : ByteArray) (ret : Nat) : List sE → List (List Nat) → Bool
  | [], _ => true
  | e :: r, h :: hs => vB inf own nm e.2.1 e.1 e.2.2.1 e.2.2.2.1 e.2.2.2.2.1 e.2.2.2.2.2.1 e.2.2.2.2.2.2 h && decide (decode cc e.1 = .ok (e.2.1, e.2.2.1)) && vR ret e.2.1 && chkL inf own nm cc ret r hs
  | _ :: _, [] => false
def chkM (inf : Nat → Option sI) (mi : sI) (hs : List (List Nat)) : Bool := chkL inf mi.1.cls mi.1.name mi.2.1 mi.2.2.2.2.1.2.1 mi.2.2.2.2.1.2.2.1 hs && mi.2.2.2.2.1.2.2.2.all (fun q => Nat.beq q.2.length mi.2.2.1) && vRtB mi.2.2.2.2.1.2.1 mi.2.2.2.1 && Nat.beq mi.2.2.2.2.1.1 mi.2.2.1
theorem chkL_s {inf : Nat → Option sI} {own nm : String} {cc : ByteArray} {ret : Nat} : ∀ (L : List sE) (hs : List (List Nat)), chkL inf own nm cc ret L hs = true → ∀ e ∈ L, (∃ hh, vB inf own nm e.2.1 e.1 e.2.2.1 e.2.2.2.1 e.2.2.2.2.1 e.2.2.2.2.2.1 e.2.2.2.2.2.2 hh = true) ∧ decode cc e.1 = .ok (e.2.1, e.2.2.1) ∧ vR ret e.2.1 = true
  | [], _, _, e, he => by cases he
  | a :: r, [], h, e, he => by simp [chkL] at h
  | a :: r, q :: hs, h, e, he => by
    simp only [chkL, Bool.and_eq_true, decide_eq_true_eq] at h
    rcases List.mem_cons.mp he with z | z
    · rw [z]; exact ⟨⟨q, h.1.1.1⟩, h.1.1.2, h.1.2⟩
    · exact chkL_s r hs h.2 e z
theorem chkM_s {inf : Nat → Option sI} {mi : sI} {hs : List (List Nat)} (h : chkM inf mi hs = true) : VAL inf mi := by
  simp only [chkM, Bool.and_eq_true] at h
  refine ⟨chkL_s _ _ h.1.1.1, fun q hq => ?_, vRt_s h.1.2, Nat.eq_of_beq_eq_true h.2⟩
  exact Nat.eq_of_beq_eq_true (List.all_eq_true.mp h.1.1.2 q hq)
def chkO (mi : sI) (h1 h2 : Nat) : Bool := wG h1 (cdW mi) && wG h2 (.initialized mi.1.cls) && decide ((mi.1.cls ≠ "java/lang/invoke/MethodHandle" ∧ mi.1.cls ≠ "java/lang/invoke/VarHandle") ∧ mi.2.2.1 ≤ 40 ∧ plainName mi.1.cls = true)
theorem chkO_s {mi : sI} {h1 h2 : Nat} (h : chkO mi h1 h2 = true) : MOK mi := by
  simp only [chkO, Bool.and_eq_true, decide_eq_true_eq] at h
  exact ⟨wG_s h.1.1, wG_s h.1.2, h.2.1, h.2.2.1, h.2.2.2⟩
end
section
set_option maxRecDepth 20000 in
theorem kX0_init : chkM infA (yX0_init, cX0_init, 1, none, mX0_init, []) [[], [284, 120, 121], [], [], [285], [286], [], [], [174], [287], [], [], [174], [288], [], [], [174], [289], []] = true := by decide +kernel
theorem oX0_init : chkO (yX0_init, cX0_init, 1, none, mX0_init, []) 283 100 = true := by decide +kernel
set_option maxRecDepth 20000 in
theorem kX0_readLines : chkM infA (yX0_readLines, cX0_readLines, 4, none, mX0_readLines, []) [[], [], [290], [], [], [], [], [], [], [883, 414, 415], [], [], [139], [], [], [139], [1782], [], [], [], [], [884, 424, 425], [], [], [290], [], [], [], [], [884, 424, 425], [], [], [], [], [885, 887, 15], [], [], [906, 504, 505], [], [], [290], [], [], [290], [], [], []] = true := by decide +kernel
theorem oX0_readLines : chkO (yX0_readLines, cX0_readLines, 4, none, mX0_readLines, []) 882 100 = true := by decide +kernel
set_option maxRecDepth 20000 in
theorem kX0_readLine : chkM infA (yX0_readLine, cX0_readLine, 7, none, mX0_readLine, []) [[], [139], [], [], [], [], [], [], [], [], [889, 393, 394], [], [890], [], [], [891], [], [], [], [], [892, 429, 430], [], [], [890], [], [], [], [], [892, 429, 430], [], [], [], [], [892, 429, 430], [], [], [], [893], [], [], [], [], [894, 895, 896], [], [], [], [], [894, 895, 896], [], [], [], [], [], [894, 895, 896], [], [], [], [], [892, 429, 430], [], [], [], [], [], [900, 901, 0], [], [], [286], [], [290], [], [], [], [287], [], [290], [], [], [], [288], [], [290], [], [], [], [289], [], [290], [], [], []] = true := by decide +kernel
theorem oX0_readLine : chkO (yX0_readLine, cX0_readLine, 7, none, mX0_readLine, []) 888 100 = true := by decide +kernel
set_option maxRecDepth 20000 in
theorem kX0_readThird : chkM infA (yX0_readThird, cX0_readThird, 4, (some .int), mX0_readThird, []) [[], [903], [], [], [], [], [894, 895, 896], [], [], [904], [], [], [905], [], [], [], [], [892, 429, 430], [], [], [], [], [892, 429, 430], []] = true := by decide +kernel
theorem oX0_readThird : chkO (yX0_readThird, cX0_readThird, 4, (some .int), mX0_readThird, []) 902 100 = true := by decide +kernel
set_option maxRecDepth 20000 in
theorem kX0_liveOn : chkM infA (yX0_liveOn, cX0_liveOn, 5, (some .int), mX0_liveOn, []) [[], [], [291], [], [], [], [], [290], [], [], [], [], [], [286], [], [], [], [], [], [], [], [], [], [], [287], [], [], [], [288], [], [], [], [289], [], [], [911, 673, 674], [], [], [], [], [], [1783], [], [], [291], [], [], [], [], [], [287], [], [], [], [288], [], [], [], [289], [], [], [912, 716, 717], [], [], [], [290], []] = true := by decide +kernel
theorem oX0_liveOn : chkO (yX0_liveOn, cX0_liveOn, 5, (some .int), mX0_liveOn, []) 910 100 = true := by decide +kernel
set_option maxRecDepth 20000 in
theorem kX1_init : chkM infA (yX1_init, cX1_init, 2, none, mX1_init, []) [[], [850, 120, 121], [], [], [851], []] = true := by decide +kernel
theorem oX1_init : chkO (yX1_init, cX1_init, 2, none, mX1_init, []) 849 113 = true := by decide +kernel
set_option maxRecDepth 20000 in
theorem kX1_draw : chkM infA (yX1_draw, cX1_draw, 2, (some .int), mX1_draw, []) [[], [], [851], [863], [], [], [], [851], [], [], [], [], [], [], [851], [], [], [], [], []] = true := by decide +kernel
theorem oX1_draw : chkO (yX1_draw, cX1_draw, 2, (some .int), mX1_draw, []) 862 113 = true := by decide +kernel
set_option maxRecDepth 20000 in
theorem kX1_deedOn : chkM infA (yX1_deedOn, cX1_deedOn, 7, (some .boolean), mX1_deedOn, []) [[], [232], [], [], [], [], [], [859, 861, 14], [], [], [], [232], [859, 861, 14], [], [], [], [864, 536, 537], [], [], [], [], [], [], [], [210], [], [], [859, 861, 14], [], [], [], [], [865], [], [], [], [], [859, 861, 14], [], [], [866, 867, 0], [], [], [871], [], [], [], [], [859, 861, 14], [], [], [866, 867, 0], [], [], [], [232], [859, 861, 14], [], [], [], [], [], [872], [], [], [], [866, 867, 0], [], [], [], [], [], [], [], [232], [859, 861, 14], [], [], [], [], [], [873], [], [], [], [866, 867, 0], [], [], [], [], [], [], [874], [], [], [], [], [859, 861, 14], [866, 867, 0], []] = true := by decide +kernel
theorem oX1_deedOn : chkO (yX1_deedOn, cX1_deedOn, 7, (some .boolean), mX1_deedOn, []) 858 113 = true := by decide +kernel
set_option maxRecDepth 20000 in
theorem kX1_done : chkM infA (yX1_done, cX1_done, 5, (some .boolean), mX1_done, []) [[], [], [], [], [], [869, 673, 674], [], [], [], [], [], [], [], [], [870, 716, 717], [], []] = true := by decide +kernel
theorem oX1_done : chkO (yX1_done, cX1_done, 5, (some .boolean), mX1_done, []) 868 113 = true := by decide +kernel
set_option maxRecDepth 20000 in
theorem kX2_asBits : chkM infA (yX2_asBits, cX2_asBits, 14, (some .long), mX2_asBits, []) [[], [], [], [], [], [], [], [], [], [], [], [], [], [], [], [], [], [], [], [], [], [], [1109], [], [], [], [], [], [1109], [], [], [], [], [], [], [], [], [], [], [], [], [], [], [], [1109], [], [], [], [], [], [], [], [], [], [], [], [], [], [1109], [], [], [], [], [], [], [], [], [], [], [], [], [], [], [], [1109], [], [], [], [], [], [], [], [], [], [], [], [], [], [], [], [], [], [], [], [], [], [], [], [], [], [], [], [], [], [], [], [], [], [], []] = true := by decide +kernel
theorem oX2_asBits : chkO (yX2_asBits, cX2_asBits, 14, (some .long), mX2_asBits, []) 1108 112 = true := by decide +kernel
set_option maxRecDepth 20000 in
theorem kX3_init : chkM infA (yX3_init, cX3_init, 1, none, mX3_init, []) [[], [311, 120, 121], [], [], [312], [314], []] = true := by decide +kernel
theorem oX3_init : chkO (yX3_init, cX3_init, 1, none, mX3_init, []) 310 101 = true := by decide +kernel
set_option maxRecDepth 20000 in
theorem kX3_forget : chkM infA (yX3_forget, cX3_forget, 1, none, mX3_forget, []) [[], [], [316], []] = true := by decide +kernel
theorem oX3_forget : chkO (yX3_forget, cX3_forget, 1, none, mX3_forget, []) 526 101 = true := by decide +kernel
set_option maxRecDepth 20000 in
theorem kX3_keep : chkM infA (yX3_keep, cX3_keep, 3, none, mX3_keep, []) [[], [315], [], [316], [], [], [], [], [], [316], [], [], [], [], [315], [], [], [], [], [315], [], [], [], [316], [], [], [316], [], [314], [], [], [], [], [314], [], [312, 176, 96], [], [702, 178, 0], [], [], [314], [], [], [], [703, 704, 705], []] = true := by decide +kernel
theorem oX3_keep : chkO (yX3_keep, cX3_keep, 3, none, mX3_keep, []) 701 101 = true := by decide +kernel
set_option maxRecDepth 20000 in
theorem kX3_bringBack : chkM infA (yX3_bringBack, cX3_bringBack, 3, (some .boolean), mX3_bringBack, []) [[], [316], [], [], [], [], [315], [], [316], [], [], [], [], [], [], [], [314], [], [], [], [], [], [], [], [316], [], [], [316], [], [], [314], [], [], [703, 704, 705], [], []] = true := by decide +kernel
theorem oX3_bringBack : chkO (yX3_bringBack, cX3_bringBack, 3, (some .boolean), mX3_bringBack, []) 839 101 = true := by decide +kernel
set_option maxRecDepth 20000 in
theorem kX4_init : chkM infA (yX4_init, cX4_init, 1, none, mX4_init, []) [[], [127, 120, 121], [], [], [174], [128], []] = true := by decide +kernel
theorem oX4_init : chkO (yX4_init, cX4_init, 1, none, mX4_init, []) 126 95 = true := by decide +kernel
set_option maxRecDepth 20000 in
theorem kX4_open : chkM infA (yX4_open, cX4_open, 4, none, mX4_open, []) [[], [], [128], [], [], [], [], [], [], [], [], [], [129], [], [], [130], [], [], [131], [], [], [143], [], [], [147], [], [392, 393, 394], []] = true := by decide +kernel
theorem oX4_open : chkO (yX4_open, cX4_open, 4, none, mX4_open, []) 391 95 = true := by decide +kernel
set_option maxRecDepth 20000 in
theorem kX4_advance : chkM infA (yX4_advance, cX4_advance, 2, none, mX4_advance, []) [[], [129], [], [130], [], [], [129], [], [], [130], [], [], [131], [], [], [], [128], [], [131], [], [], [], [], [128], [], [131], [], [], [], [], [], [131], [], [], [131], [], [], [], [140], [], [131], [], [], [], [], [134], [], [], [129], [], [130], [], [], [], [], [132], [], [], [], [131], [134], [], [396, 398, 1], [], [131], [], [134], [], [], [], [128], [], [131], [], [136], [], [], [136], [401, 402, 0], [], [], [], [], [132], [], [], [131], [], [], [131], [], [], [132], [], [], [], [137], [404, 405, 0], [], [], [140], []] = true := by decide +kernel
theorem oX4_advance : chkO (yX4_advance, cX4_advance, 2, none, mX4_advance, []) 395 95 = true := by decide +kernel
set_option maxRecDepth 20000 in
theorem kX4_readLettersAndDigits : chkM infA (yX4_readLettersAndDigits, cX4_readLettersAndDigits, 5, none, mX4_readLettersAndDigits, []) [[], [], [], [], [], [], [137], [], [], [135], [], [131], [], [129], [], [], [128], [], [131], [], [], [], [], [], [], [], [], [], [], [], [137], [400], [], [], [], [], [], [], [], [], [137], [], [], [], [], [], [], [], [], [], [], [135], [], [], [], [], [], [], [135], [], [], [131], [], [], [131], [], [], [], [], [], [], [], [], [], [], [], [], [], [], [], [], [], [], [], [], [], [], [], [], [], [], [], [], [], [], [], [], [], [], [], [132], []] = true := by decide +kernel
theorem oX4_readLettersAndDigits : chkO (yX4_readLettersAndDigits, cX4_readLettersAndDigits, 5, none, mX4_readLettersAndDigits, []) 399 95 = true := by decide +kernel
set_option maxRecDepth 20000 in
theorem kX4_isSign : chkM infA (yX4_isSign, cX4_isSign, 1, (some .boolean), mX4_isSign, []) [[], [], [], [], [], [], [], [], [], [], [], [], [], [], [], [], [], [], [], [], [], []] = true := by decide +kernel
theorem oX4_isSign : chkO (yX4_isSign, cX4_isSign, 1, (some .boolean), mX4_isSign, []) 403 95 = true := by decide +kernel
set_option maxRecDepth 20000 in
theorem kX4_goesOn : chkM infA (yX4_goesOn, cX4_goesOn, 1, (some .boolean), mX4_goesOn, []) [[], [143], [], [], [132], [], [], [], [], []] = true := by decide +kernel
theorem oX4_goesOn : chkO (yX4_goesOn, cX4_goesOn, 1, (some .boolean), mX4_goesOn, []) 416 95 = true := by decide +kernel
set_option maxRecDepth 20000 in
theorem kX4_fail : chkM infA (yX4_fail, cX4_fail, 2, none, mX4_fail, []) [[], [143], [], [], [], [143], [], [], [134], [147], []] = true := by decide +kernel
theorem oX4_fail : chkO (yX4_fail, cX4_fail, 2, none, mX4_fail, []) 426 95 = true := by decide +kernel
set_option maxRecDepth 20000 in
theorem kX4_isAtName : chkM infA (yX4_isAtName, cX4_isAtName, 1, (some .boolean), mX4_isAtName, []) [[], [132], [], [], [], [140], [], [], [], [], []] = true := by decide +kernel
theorem oX4_isAtName : chkO (yX4_isAtName, cX4_isAtName, 1, (some .boolean), mX4_isAtName, []) 442 95 = true := by decide +kernel
set_option maxRecDepth 20000 in
theorem kX4_isAtSign : chkM infA (yX4_isAtSign, cX4_isAtSign, 2, (some .boolean), mX4_isAtSign, []) [[], [132], [], [], [], [136], [], [], [], [], [], []] = true := by decide +kernel
theorem oX4_isAtSign : chkO (yX4_isAtSign, cX4_isAtSign, 2, (some .boolean), mX4_isAtSign, []) 510 95 = true := by decide +kernel
set_option maxRecDepth 20000 in
theorem kX4_takeSign : chkM infA (yX4_takeSign, cX4_takeSign, 2, none, mX4_takeSign, []) [[], [143], [], [], [], [], [507, 508, 509], [], [], [392, 393, 394], [], [], [], [432, 424, 425], []] = true := by decide +kernel
theorem oX4_takeSign : chkO (yX4_takeSign, cX4_takeSign, 2, none, mX4_takeSign, []) 506 95 = true := by decide +kernel
set_option maxRecDepth 20000 in
theorem kX4_takeComparison : chkM infA (yX4_takeComparison, cX4_takeComparison, 2, (some .int), mX4_takeComparison, []) [[], [143], [], [], [], [], [], [507, 508, 509], [], [], [], [507, 508, 509], [], [], [], [507, 508, 509], [], [], [], [432, 424, 425], [], [], [], [136], [], [], [392, 393, 394], [], []] = true := by decide +kernel
theorem oX4_takeComparison : chkO (yX4_takeComparison, cX4_takeComparison, 2, (some .int), mX4_takeComparison, []) 964 95 = true := by decide +kernel
set_option maxRecDepth 20000 in
theorem kX4_takeNumber : chkM infA (yX4_takeNumber, cX4_takeNumber, 4, (some .int), mX4_takeNumber, []) [[], [143], [], [], [], [], [132], [], [], [], [], [432, 424, 425], [], [], [], [135], [], [], [], [135], [], [], [], [], [432, 424, 425], [], [], [], [135], [], [], [392, 393, 394], [], []] = true := by decide +kernel
theorem oX4_takeNumber : chkO (yX4_takeNumber, cX4_takeNumber, 4, (some .int), mX4_takeNumber, []) 431 95 = true := by decide +kernel
set_option maxRecDepth 20000 in
theorem kX4_takeRow : chkM infA (yX4_takeRow, cX4_takeRow, 4, (some .int), mX4_takeRow, []) [[], [143], [], [], [], [], [898, 440, 441], [], [], [], [432, 424, 425], [], [], [], [], [137], [899, 444, 445], [], [], [], [], [], [], [], [], [], [432, 424, 425], [], [], [], [392, 393, 394], [], []] = true := by decide +kernel
theorem oX4_takeRow : chkO (yX4_takeRow, cX4_takeRow, 4, (some .int), mX4_takeRow, []) 897 95 = true := by decide +kernel
set_option maxRecDepth 20000 in
theorem kX4_lettersOfWord : chkM infA (yX4_lettersOfWord, cX4_lettersOfWord, 1, (some .int), mX4_lettersOfWord, []) [[], [131], [], [134], [], []] = true := by decide +kernel
theorem oX4_lettersOfWord : chkO (yX4_lettersOfWord, cX4_lettersOfWord, 1, (some .int), mX4_lettersOfWord, []) 458 95 = true := by decide +kernel
set_option maxRecDepth 20000 in
theorem kX4_letterOfWord : chkM infA (yX4_letterOfWord, cX4_letterOfWord, 3, (some .int), mX4_letterOfWord, []) [[], [134], [], [], [], [], [], [], [], [129], [], [], [], [], [128], [], [], []] = true := by decide +kernel
theorem oX4_letterOfWord : chkO (yX4_letterOfWord, cX4_letterOfWord, 3, (some .int), mX4_letterOfWord, []) 462 95 = true := by decide +kernel
set_option maxRecDepth 20000 in
theorem kX5_init : chkM infA (yX5_init, cX5_init, 1, none, mX5_init, []) [[], [204, 120, 121], [], [], [199], [205], [], [], [174], [206], []] = true := by decide +kernel
theorem oX5_init : chkO (yX5_init, cX5_init, 1, none, mX5_init, []) 203 98 = true := by decide +kernel
set_option maxRecDepth 20000 in
theorem kX5_clear : chkM infA (yX5_clear, cX5_clear, 1, none, mX5_clear, []) [[], [], [209], [], [], [214], []] = true := by decide +kernel
theorem oX5_clear : chkO (yX5_clear, cX5_clear, 1, none, mX5_clear, []) 450 98 = true := by decide +kernel
set_option maxRecDepth 20000 in
theorem kX5_copyFrom : chkM infA (yX5_copyFrom, cX5_copyFrom, 2, none, mX5_copyFrom, []) [[], [205], [], [], [205], [], [], [209], [482, 484, 483, 106], [], [206], [], [], [206], [], [], [214], [482, 484, 483, 106], [], [], [209], [209], [], [], [214], [214], []] = true := by decide +kernel
theorem oX5_copyFrom : chkO (yX5_copyFrom, cX5_copyFrom, 2, none, mX5_copyFrom, []) 710 98 = true := by decide +kernel
set_option maxRecDepth 20000 in
theorem kX5_hasGap : chkM infA (yX5_hasGap, cX5_hasGap, 2, (some .boolean), mX5_hasGap, []) [[], [], [], [], [209], [], [], [], [], []] = true := by decide +kernel
theorem oX5_hasGap : chkO (yX5_hasGap, cX5_hasGap, 2, (some .boolean), mX5_hasGap, []) 470 98 = true := by decide +kernel
set_option maxRecDepth 20000 in
theorem kX5_hasRange : chkM infA (yX5_hasRange, cX5_hasRange, 3, (some .boolean), mX5_hasRange, []) [[], [], [], [], [], [], [209], [], [], [], [], [], [], []] = true := by decide +kernel
theorem oX5_hasRange : chkO (yX5_hasRange, cX5_hasRange, 3, (some .boolean), mX5_hasRange, []) 562 98 = true := by decide +kernel
set_option maxRecDepth 20000 in
theorem kX5_bitAt : chkM infA (yX5_bitAt, cX5_bitAt, 2, (some .int), mX5_bitAt, []) [[], [], [], [], [209], [], [], [], [], [205], [], [], []] = true := by decide +kernel
theorem oX5_bitAt : chkO (yX5_bitAt, cX5_bitAt, 2, (some .int), mX5_bitAt, []) 546 98 = true := by decide +kernel
set_option maxRecDepth 20000 in
theorem kX5_countIn : chkM infA (yX5_countIn, cX5_countIn, 6, (some .int), mX5_countIn, []) [[], [], [], [], [], [559, 560, 561], [], [], [], [], [], [], [], [], [], [205], [], [], [], [], [], [], [], [], []] = true := by decide +kernel
theorem oX5_countIn : chkO (yX5_countIn, cX5_countIn, 6, (some .int), mX5_countIn, []) 558 98 = true := by decide +kernel
set_option maxRecDepth 20000 in
theorem kX5_placeOf : chkM infA (yX5_placeOf, cX5_placeOf, 5, (some .int), mX5_placeOf, []) [[], [], [], [], [], [], [209], [], [], [205], [], [], [], [], [], [], [], [], [], [], [], [], [], []] = true := by decide +kernel
theorem oX5_placeOf : chkO (yX5_placeOf, cX5_placeOf, 5, (some .int), mX5_placeOf, []) 570 98 = true := by decide +kernel
set_option maxRecDepth 20000 in
theorem kX5_nextPlace : chkM infA (yX5_nextPlace, cX5_nextPlace, 4, (some .int), mX5_nextPlace, []) [[], [], [], [], [], [], [], [], [209], [], [], [205], [], [], [], [], [], [], [], [], [], []] = true := by decide +kernel
theorem oX5_nextPlace : chkO (yX5_nextPlace, cX5_nextPlace, 4, (some .int), mX5_nextPlace, []) 578 98 = true := by decide +kernel
set_option maxRecDepth 20000 in
theorem kX5_runCount : chkM infA (yX5_runCount, cX5_runCount, 3, (some .int), mX5_runCount, []) [[], [209], [], [], [], [], [], [], [], [], [], [209], [], [], [205], [], [], [], [205], [], [], [], [], [], [], [], [], [], []] = true := by decide +kernel
theorem oX5_runCount : chkO (yX5_runCount, cX5_runCount, 3, (some .int), mX5_runCount, []) 586 98 = true := by decide +kernel
set_option maxRecDepth 20000 in
theorem kX5_longestRun : chkM infA (yX5_longestRun, cX5_longestRun, 5, (some .int), mX5_longestRun, []) [[], [], [], [], [], [], [], [], [209], [], [], [205], [], [], [], [], [], [], [], [], [], [], [], [], [475, 476, 105, 477], [], [], [], [], []] = true := by decide +kernel
theorem oX5_longestRun : chkO (yX5_longestRun, cX5_longestRun, 5, (some .int), mX5_longestRun, []) 594 98 = true := by decide +kernel
end
